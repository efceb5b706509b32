theorem dJ6_bitCount_0f7a4_0 : decode cJ6_bitCount_0f7a4 0 = .ok (.iload_n 0, 1) := by decide +kernel
theorem dJ6_bitCount_0f7a4_1 : decode cJ6_bitCount_0f7a4 1 = .ok (.iload_n 0, 1) := by decide +kernel
theorem dJ6_bitCount_0f7a4_2 : decode cJ6_bitCount_0f7a4 2 = .ok (.iconst 1, 1) := by decide +kernel
theorem dJ6_bitCount_0f7a4_3 : decode cJ6_bitCount_0f7a4 3 = .ok (.iushr, 1) := by decide +kernel
theorem dJ6_bitCount_0f7a4_4 : decode cJ6_bitCount_0f7a4 4 = .ok (.ldc_w 265, 3) := by decide +kernel
theorem dJ6_bitCount_0f7a4_7 : decode cJ6_bitCount_0f7a4 7 = .ok (.iand, 1) := by decide +kernel
theorem dJ6_bitCount_0f7a4_8 : decode cJ6_bitCount_0f7a4 8 = .ok (.isub, 1) := by decide +kernel
theorem dJ6_bitCount_0f7a4_9 : decode cJ6_bitCount_0f7a4 9 = .ok (.istore_n 0, 1) := by decide +kernel
theorem dJ6_bitCount_0f7a4_10 : decode cJ6_bitCount_0f7a4 10 = .ok (.iload_n 0, 1) := by decide +kernel
theorem dJ6_bitCount_0f7a4_11 : decode cJ6_bitCount_0f7a4 11 = .ok (.ldc_w 266, 3) := by decide +kernel
theorem dJ6_bitCount_0f7a4_14 : decode cJ6_bitCount_0f7a4 14 = .ok (.iand, 1) := by decide +kernel
theorem dJ6_bitCount_0f7a4_15 : decode cJ6_bitCount_0f7a4 15 = .ok (.iload_n 0, 1) := by decide +kernel
theorem dJ6_bitCount_0f7a4_16 : decode cJ6_bitCount_0f7a4 16 = .ok (.iconst 2, 1) := by decide +kernel
theorem dJ6_bitCount_0f7a4_17 : decode cJ6_bitCount_0f7a4 17 = .ok (.iushr, 1) := by decide +kernel
theorem dJ6_bitCount_0f7a4_18 : decode cJ6_bitCount_0f7a4 18 = .ok (.ldc_w 266, 3) := by decide +kernel
theorem dJ6_bitCount_0f7a4_21 : decode cJ6_bitCount_0f7a4 21 = .ok (.iand, 1) := by decide +kernel
theorem dJ6_bitCount_0f7a4_22 : decode cJ6_bitCount_0f7a4 22 = .ok (.iadd, 1) := by decide +kernel
theorem dJ6_bitCount_0f7a4_23 : decode cJ6_bitCount_0f7a4 23 = .ok (.istore_n 0, 1) := by decide +kernel
theorem dJ6_bitCount_0f7a4_24 : decode cJ6_bitCount_0f7a4 24 = .ok (.iload_n 0, 1) := by decide +kernel
theorem dJ6_bitCount_0f7a4_25 : decode cJ6_bitCount_0f7a4 25 = .ok (.iload_n 0, 1) := by decide +kernel
theorem dJ6_bitCount_0f7a4_26 : decode cJ6_bitCount_0f7a4 26 = .ok (.iconst 4, 1) := by decide +kernel
theorem dJ6_bitCount_0f7a4_27 : decode cJ6_bitCount_0f7a4 27 = .ok (.iushr, 1) := by decide +kernel
theorem dJ6_bitCount_0f7a4_28 : decode cJ6_bitCount_0f7a4 28 = .ok (.iadd, 1) := by decide +kernel
theorem dJ6_bitCount_0f7a4_29 : decode cJ6_bitCount_0f7a4 29 = .ok (.ldc_w 267, 3) := by decide +kernel
theorem dJ6_bitCount_0f7a4_32 : decode cJ6_bitCount_0f7a4 32 = .ok (.iand, 1) := by decide +kernel
theorem dJ6_bitCount_0f7a4_33 : decode cJ6_bitCount_0f7a4 33 = .ok (.istore_n 0, 1) := by decide +kernel
theorem dJ6_bitCount_0f7a4_34 : decode cJ6_bitCount_0f7a4 34 = .ok (.iload_n 0, 1) := by decide +kernel
theorem dJ6_bitCount_0f7a4_35 : decode cJ6_bitCount_0f7a4 35 = .ok (.iload_n 0, 1) := by decide +kernel
theorem dJ6_bitCount_0f7a4_36 : decode cJ6_bitCount_0f7a4 36 = .ok (.bipush 8, 2) := by decide +kernel
theorem dJ6_bitCount_0f7a4_38 : decode cJ6_bitCount_0f7a4 38 = .ok (.iushr, 1) := by decide +kernel
theorem dJ6_bitCount_0f7a4_39 : decode cJ6_bitCount_0f7a4 39 = .ok (.iadd, 1) := by decide +kernel
theorem dJ6_bitCount_0f7a4_40 : decode cJ6_bitCount_0f7a4 40 = .ok (.istore_n 0, 1) := by decide +kernel
theorem dJ6_bitCount_0f7a4_41 : decode cJ6_bitCount_0f7a4 41 = .ok (.iload_n 0, 1) := by decide +kernel
theorem dJ6_bitCount_0f7a4_42 : decode cJ6_bitCount_0f7a4 42 = .ok (.iload_n 0, 1) := by decide +kernel
theorem dJ6_bitCount_0f7a4_43 : decode cJ6_bitCount_0f7a4 43 = .ok (.bipush 16, 2) := by decide +kernel
theorem dJ6_bitCount_0f7a4_45 : decode cJ6_bitCount_0f7a4 45 = .ok (.iushr, 1) := by decide +kernel
theorem dJ6_bitCount_0f7a4_46 : decode cJ6_bitCount_0f7a4 46 = .ok (.iadd, 1) := by decide +kernel
theorem dJ6_bitCount_0f7a4_47 : decode cJ6_bitCount_0f7a4 47 = .ok (.istore_n 0, 1) := by decide +kernel
theorem dJ6_bitCount_0f7a4_48 : decode cJ6_bitCount_0f7a4 48 = .ok (.iload_n 0, 1) := by decide +kernel
theorem dJ6_bitCount_0f7a4_49 : decode cJ6_bitCount_0f7a4 49 = .ok (.bipush 63, 2) := by decide +kernel
theorem dJ6_bitCount_0f7a4_51 : decode cJ6_bitCount_0f7a4 51 = .ok (.iand, 1) := by decide +kernel
theorem dJ6_bitCount_0f7a4_52 : decode cJ6_bitCount_0f7a4 52 = .ok (.ireturn, 1) := by decide +kernel
theorem dJ9_max_7cf53_0 : decode cJ9_max_7cf53 0 = .ok (.iload_n 0, 1) := by decide +kernel
theorem dJ9_max_7cf53_1 : decode cJ9_max_7cf53 1 = .ok (.iload_n 1, 1) := by decide +kernel
theorem dJ9_max_7cf53_2 : decode cJ9_max_7cf53 2 = .ok (.if_icmp .lt 7, 3) := by decide +kernel
theorem dJ9_max_7cf53_5 : decode cJ9_max_7cf53 5 = .ok (.iload_n 0, 1) := by decide +kernel
theorem dJ9_max_7cf53_6 : decode cJ9_max_7cf53 6 = .ok (.goto 4, 3) := by decide +kernel
theorem dJ9_max_7cf53_9 : decode cJ9_max_7cf53 9 = .ok (.iload_n 1, 1) := by decide +kernel
theorem dJ9_max_7cf53_10 : decode cJ9_max_7cf53 10 = .ok (.ireturn, 1) := by decide +kernel
theorem dJ9_min_7cf53_0 : decode cJ9_min_7cf53 0 = .ok (.iload_n 0, 1) := by decide +kernel
theorem dJ9_min_7cf53_1 : decode cJ9_min_7cf53 1 = .ok (.iload_n 1, 1) := by decide +kernel
theorem dJ9_min_7cf53_2 : decode cJ9_min_7cf53 2 = .ok (.if_icmp .gt 7, 3) := by decide +kernel
theorem dJ9_min_7cf53_5 : decode cJ9_min_7cf53 5 = .ok (.iload_n 0, 1) := by decide +kernel
theorem dJ9_min_7cf53_6 : decode cJ9_min_7cf53 6 = .ok (.goto 4, 3) := by decide +kernel
theorem dJ9_min_7cf53_9 : decode cJ9_min_7cf53 9 = .ok (.iload_n 1, 1) := by decide +kernel
theorem dJ9_min_7cf53_10 : decode cJ9_min_7cf53 10 = .ok (.ireturn, 1) := by decide +kernel
theorem dX0_init_0 : decode cX0_init 0 = .ok (.aload_n 0, 1) := by decide +kernel
theorem dX0_init_1 : decode cX0_init 1 = .ok (.invokespecial 3, 3) := by decide +kernel
theorem dX0_init_4 : decode cX0_init 4 = .ok (.aload_n 0, 1) := by decide +kernel
theorem dX0_init_5 : decode cX0_init 5 = .ok (.iconst 4, 1) := by decide +kernel
theorem dX0_init_6 : decode cX0_init 6 = .ok (.newarray .int, 2) := by decide +kernel
theorem dX0_init_8 : decode cX0_init 8 = .ok (.putfield 9, 3) := by decide +kernel
theorem dX0_init_11 : decode cX0_init 11 = .ok (.aload_n 0, 1) := by decide +kernel
theorem dX0_init_12 : decode cX0_init 12 = .ok (.iconst 0, 1) := by decide +kernel
theorem dX0_init_13 : decode cX0_init 13 = .ok (.putfield 15, 3) := by decide +kernel
theorem dX0_init_16 : decode cX0_init 16 = .ok (.aload_n 0, 1) := by decide +kernel
theorem dX0_init_17 : decode cX0_init 17 = .ok (.iconst 1, 1) := by decide +kernel
theorem dX0_init_18 : decode cX0_init 18 = .ok (.putfield 19, 3) := by decide +kernel
theorem dX0_init_21 : decode cX0_init 21 = .ok (.aload_n 0, 1) := by decide +kernel
theorem dX0_init_22 : decode cX0_init 22 = .ok (.iconst 1, 1) := by decide +kernel
theorem dX0_init_23 : decode cX0_init 23 = .ok (.putfield 22, 3) := by decide +kernel
theorem dX0_init_26 : decode cX0_init 26 = .ok (.aload_n 0, 1) := by decide +kernel
theorem dX0_init_27 : decode cX0_init 27 = .ok (.bipush 8, 2) := by decide +kernel
theorem dX0_init_29 : decode cX0_init 29 = .ok (.newarray .int, 2) := by decide +kernel
theorem dX0_init_31 : decode cX0_init 31 = .ok (.putfield 25, 3) := by decide +kernel
theorem dX0_init_34 : decode cX0_init 34 = .ok (.aload_n 0, 1) := by decide +kernel
theorem dX0_init_35 : decode cX0_init 35 = .ok (.iload_n 1, 1) := by decide +kernel
theorem dX0_init_36 : decode cX0_init 36 = .ok (.putfield 28, 3) := by decide +kernel
theorem dX0_init_39 : decode cX0_init 39 = .ok (.aload_n 0, 1) := by decide +kernel
theorem dX0_init_40 : decode cX0_init 40 = .ok (.iload_n 2, 1) := by decide +kernel
theorem dX0_init_41 : decode cX0_init 41 = .ok (.putfield 31, 3) := by decide +kernel
theorem dX0_init_44 : decode cX0_init 44 = .ok (.aload_n 0, 1) := by decide +kernel
theorem dX0_init_45 : decode cX0_init 45 = .ok (.iload_n 3, 1) := by decide +kernel
theorem dX0_init_46 : decode cX0_init 46 = .ok (.putfield 34, 3) := by decide +kernel
theorem dX0_init_49 : decode cX0_init 49 = .ok (.iconst 0, 1) := by decide +kernel
theorem dX0_init_50 : decode cX0_init 50 = .ok (.istore 4, 2) := by decide +kernel
theorem dX0_init_52 : decode cX0_init 52 = .ok (.iload 4, 2) := by decide +kernel
theorem dX0_init_54 : decode cX0_init 54 = .ok (.iconst 4, 1) := by decide +kernel
theorem dX0_init_55 : decode cX0_init 55 = .ok (.if_icmp .ge 17, 3) := by decide +kernel
theorem dX0_init_58 : decode cX0_init 58 = .ok (.aload_n 0, 1) := by decide +kernel
theorem dX0_init_59 : decode cX0_init 59 = .ok (.getfield 9, 3) := by decide +kernel
theorem dX0_init_62 : decode cX0_init 62 = .ok (.iload 4, 2) := by decide +kernel
theorem dX0_init_64 : decode cX0_init 64 = .ok (.iconst 1, 1) := by decide +kernel
theorem dX0_init_65 : decode cX0_init 65 = .ok (.iastore, 1) := by decide +kernel
theorem dX0_init_66 : decode cX0_init 66 = .ok (.iinc 4 1, 3) := by decide +kernel
theorem dX0_init_69 : decode cX0_init 69 = .ok (.goto (-17), 3) := by decide +kernel
theorem dX0_init_72 : decode cX0_init 72 = .ok (.aload_n 0, 1) := by decide +kernel
theorem dX0_init_73 : decode cX0_init 73 = .ok (.getfield 25, 3) := by decide +kernel
theorem dX0_init_76 : decode cX0_init 76 = .ok (.iconst 0, 1) := by decide +kernel
theorem dX0_init_77 : decode cX0_init 77 = .ok (.iconst 1, 1) := by decide +kernel
theorem dX0_init_78 : decode cX0_init 78 = .ok (.iload_n 1, 1) := by decide +kernel
theorem dX0_init_79 : decode cX0_init 79 = .ok (.iconst 5, 1) := by decide +kernel
theorem dX0_init_80 : decode cX0_init 80 = .ok (.if_icmp .ne 11, 3) := by decide +kernel
theorem dX0_init_83 : decode cX0_init 83 = .ok (.iconst 2, 1) := by decide +kernel
theorem dX0_init_84 : decode cX0_init 84 = .ok (.iload_n 3, 1) := by decide +kernel
theorem dX0_init_85 : decode cX0_init 85 = .ok (.imul, 1) := by decide +kernel
theorem dX0_init_86 : decode cX0_init 86 = .ok (.iconst 1, 1) := by decide +kernel
theorem dX0_init_87 : decode cX0_init 87 = .ok (.isub, 1) := by decide +kernel
theorem dX0_init_88 : decode cX0_init 88 = .ok (.goto 4, 3) := by decide +kernel
theorem dX0_init_91 : decode cX0_init 91 = .ok (.iload_n 3, 1) := by decide +kernel
theorem dX0_init_92 : decode cX0_init 92 = .ok (.ishl, 1) := by decide +kernel
theorem dX0_init_93 : decode cX0_init 93 = .ok (.iconst 1, 1) := by decide +kernel
theorem dX0_init_94 : decode cX0_init 94 = .ok (.isub, 1) := by decide +kernel
theorem dX0_init_95 : decode cX0_init 95 = .ok (.iastore, 1) := by decide +kernel
theorem dX0_init_96 : decode cX0_init 96 = .ok (.return_, 1) := by decide +kernel
theorem dX0_isFed_0 : decode cX0_isFed 0 = .ok (.aload_n 0, 1) := by decide +kernel
theorem dX0_isFed_1 : decode cX0_isFed 1 = .ok (.getfield 28, 3) := by decide +kernel
theorem dX0_isFed_4 : decode cX0_isFed 4 = .ok (.iconst 1, 1) := by decide +kernel
theorem dX0_isFed_5 : decode cX0_isFed 5 = .ok (.if_icmp .lt 7, 3) := by decide +kernel
theorem dX0_isFed_8 : decode cX0_isFed 8 = .ok (.iconst 1, 1) := by decide +kernel
theorem dX0_isFed_9 : decode cX0_isFed 9 = .ok (.goto 4, 3) := by decide +kernel
theorem dX0_isFed_12 : decode cX0_isFed 12 = .ok (.iconst 0, 1) := by decide +kernel
theorem dX0_isFed_13 : decode cX0_isFed 13 = .ok (.ireturn, 1) := by decide +kernel
theorem dX0_isCut_0 : decode cX0_isCut 0 = .ok (.aload_n 0, 1) := by decide +kernel
theorem dX0_isCut_1 : decode cX0_isCut 1 = .ok (.getfield 28, 3) := by decide +kernel
theorem dX0_isCut_4 : decode cX0_isCut 4 = .ok (.iconst 2, 1) := by decide +kernel
theorem dX0_isCut_5 : decode cX0_isCut 5 = .ok (.if_icmp .lt 7, 3) := by decide +kernel
theorem dX0_isCut_8 : decode cX0_isCut 8 = .ok (.iconst 1, 1) := by decide +kernel
theorem dX0_isCut_9 : decode cX0_isCut 9 = .ok (.goto 4, 3) := by decide +kernel
theorem dX0_isCut_12 : decode cX0_isCut 12 = .ok (.iconst 0, 1) := by decide +kernel
theorem dX0_isCut_13 : decode cX0_isCut 13 = .ok (.ireturn, 1) := by decide +kernel
theorem dX0_states_0 : decode cX0_states 0 = .ok (.iconst 1, 1) := by decide +kernel
theorem dX0_states_1 : decode cX0_states 1 = .ok (.aload_n 0, 1) := by decide +kernel
theorem dX0_states_2 : decode cX0_states 2 = .ok (.getfield 31, 3) := by decide +kernel
theorem dX0_states_5 : decode cX0_states 5 = .ok (.ishl, 1) := by decide +kernel
theorem dX0_states_6 : decode cX0_states 6 = .ok (.ireturn, 1) := by decide +kernel
theorem dX0_width_0 : decode cX0_width 0 = .ok (.aload_n 0, 1) := by decide +kernel
theorem dX0_width_1 : decode cX0_width 1 = .ok (.getfield 28, 3) := by decide +kernel
theorem dX0_width_4 : decode cX0_width 4 = .ok (.iconst 5, 1) := by decide +kernel
theorem dX0_width_5 : decode cX0_width 5 = .ok (.if_icmp .ne 14, 3) := by decide +kernel
theorem dX0_width_8 : decode cX0_width 8 = .ok (.iconst 2, 1) := by decide +kernel
theorem dX0_width_9 : decode cX0_width 9 = .ok (.aload_n 0, 1) := by decide +kernel
theorem dX0_width_10 : decode cX0_width 10 = .ok (.getfield 34, 3) := by decide +kernel
theorem dX0_width_13 : decode cX0_width 13 = .ok (.imul, 1) := by decide +kernel
theorem dX0_width_14 : decode cX0_width 14 = .ok (.iconst 1, 1) := by decide +kernel
theorem dX0_width_15 : decode cX0_width 15 = .ok (.isub, 1) := by decide +kernel
theorem dX0_width_16 : decode cX0_width 16 = .ok (.goto 7, 3) := by decide +kernel
theorem dX0_width_19 : decode cX0_width 19 = .ok (.aload_n 0, 1) := by decide +kernel
theorem dX0_width_20 : decode cX0_width 20 = .ok (.getfield 34, 3) := by decide +kernel
theorem dX0_width_23 : decode cX0_width 23 = .ok (.ireturn, 1) := by decide +kernel
theorem dX0_steps_0 : decode cX0_steps 0 = .ok (.aload_n 0, 1) := by decide +kernel
theorem dX0_steps_1 : decode cX0_steps 1 = .ok (.getfield 28, 3) := by decide +kernel
theorem dX0_steps_4 : decode cX0_steps 4 = .ok (.iconst 3, 1) := by decide +kernel
theorem dX0_steps_5 : decode cX0_steps 5 = .ok (.if_icmp .ne 12, 3) := by decide +kernel
theorem dX0_steps_8 : decode cX0_steps 8 = .ok (.iload_n 1, 1) := by decide +kernel
theorem dX0_steps_9 : decode cX0_steps 9 = .ok (.aload_n 0, 1) := by decide +kernel
theorem dX0_steps_10 : decode cX0_steps 10 = .ok (.getfield 31, 3) := by decide +kernel
theorem dX0_steps_13 : decode cX0_steps 13 = .ok (.iadd, 1) := by decide +kernel
theorem dX0_steps_14 : decode cX0_steps 14 = .ok (.goto 4, 3) := by decide +kernel
theorem dX0_steps_17 : decode cX0_steps 17 = .ok (.iload_n 1, 1) := by decide +kernel
theorem dX0_steps_18 : decode cX0_steps 18 = .ok (.ireturn, 1) := by decide +kernel
theorem dX0_beginnings_0 : decode cX0_beginnings 0 = .ok (.aload_n 0, 1) := by decide +kernel
theorem dX0_beginnings_1 : decode cX0_beginnings 1 = .ok (.getfield 28, 3) := by decide +kernel
theorem dX0_beginnings_4 : decode cX0_beginnings 4 = .ok (.iconst 4, 1) := by decide +kernel
theorem dX0_beginnings_5 : decode cX0_beginnings 5 = .ok (.if_icmp .ne 10, 3) := by decide +kernel
theorem dX0_beginnings_8 : decode cX0_beginnings 8 = .ok (.aload_n 0, 1) := by decide +kernel
theorem dX0_beginnings_9 : decode cX0_beginnings 9 = .ok (.invokevirtual 37, 3) := by decide +kernel
theorem dX0_beginnings_12 : decode cX0_beginnings 12 = .ok (.goto 4, 3) := by decide +kernel
theorem dX0_beginnings_15 : decode cX0_beginnings 15 = .ok (.iconst 1, 1) := by decide +kernel
theorem dX0_beginnings_16 : decode cX0_beginnings 16 = .ok (.ireturn, 1) := by decide +kernel
theorem dX0_setKeep_0 : decode cX0_setKeep 0 = .ok (.iload_n 1, 1) := by decide +kernel
theorem dX0_setKeep_1 : decode cX0_setKeep 1 = .ok (.aload_n 0, 1) := by decide +kernel
theorem dX0_setKeep_2 : decode cX0_setKeep 2 = .ok (.getfield 19, 3) := by decide +kernel
theorem dX0_setKeep_5 : decode cX0_setKeep 5 = .ok (.invokestatic 41, 3) := by decide +kernel
theorem dX0_setKeep_8 : decode cX0_setKeep 8 = .ok (.istore 4, 2) := by decide +kernel
theorem dX0_setKeep_10 : decode cX0_setKeep 10 = .ok (.iload 4, 2) := by decide +kernel
theorem dX0_setKeep_12 : decode cX0_setKeep 12 = .ok (.bipush 8, 2) := by decide +kernel
theorem dX0_setKeep_14 : decode cX0_setKeep 14 = .ok (.if_icmp .ge 17, 3) := by decide +kernel
theorem dX0_setKeep_17 : decode cX0_setKeep 17 = .ok (.aload_n 0, 1) := by decide +kernel
theorem dX0_setKeep_18 : decode cX0_setKeep 18 = .ok (.getfield 25, 3) := by decide +kernel
theorem dX0_setKeep_21 : decode cX0_setKeep 21 = .ok (.iload 4, 2) := by decide +kernel
theorem dX0_setKeep_23 : decode cX0_setKeep 23 = .ok (.iconst 0, 1) := by decide +kernel
theorem dX0_setKeep_24 : decode cX0_setKeep 24 = .ok (.iastore, 1) := by decide +kernel
theorem dX0_setKeep_25 : decode cX0_setKeep 25 = .ok (.iinc 4 1, 3) := by decide +kernel
theorem dX0_setKeep_28 : decode cX0_setKeep 28 = .ok (.goto (-18), 3) := by decide +kernel
theorem dX0_setKeep_31 : decode cX0_setKeep 31 = .ok (.aload_n 0, 1) := by decide +kernel
theorem dX0_setKeep_32 : decode cX0_setKeep 32 = .ok (.iload_n 1, 1) := by decide +kernel
theorem dX0_setKeep_33 : decode cX0_setKeep 33 = .ok (.putfield 19, 3) := by decide +kernel
theorem dX0_setKeep_36 : decode cX0_setKeep 36 = .ok (.aload_n 0, 1) := by decide +kernel
theorem dX0_setKeep_37 : decode cX0_setKeep 37 = .ok (.getfield 25, 3) := by decide +kernel
theorem dX0_setKeep_40 : decode cX0_setKeep 40 = .ok (.iload_n 2, 1) := by decide +kernel
theorem dX0_setKeep_41 : decode cX0_setKeep 41 = .ok (.iload_n 3, 1) := by decide +kernel
theorem dX0_setKeep_42 : decode cX0_setKeep 42 = .ok (.iastore, 1) := by decide +kernel
theorem dX0_setKeep_43 : decode cX0_setKeep 43 = .ok (.return_, 1) := by decide +kernel
theorem dX0_isSent_0 : decode cX0_isSent 0 = .ok (.aload_n 0, 1) := by decide +kernel
theorem dX0_isSent_1 : decode cX0_isSent 1 = .ok (.invokevirtual 47, 3) := by decide +kernel
theorem dX0_isSent_4 : decode cX0_isSent 4 = .ok (.ifCond .eq 22, 3) := by decide +kernel
theorem dX0_isSent_7 : decode cX0_isSent 7 = .ok (.aload_n 0, 1) := by decide +kernel
theorem dX0_isSent_8 : decode cX0_isSent 8 = .ok (.getfield 25, 3) := by decide +kernel
theorem dX0_isSent_11 : decode cX0_isSent 11 = .ok (.iload_n 1, 1) := by decide +kernel
theorem dX0_isSent_12 : decode cX0_isSent 12 = .ok (.aload_n 0, 1) := by decide +kernel
theorem dX0_isSent_13 : decode cX0_isSent 13 = .ok (.getfield 19, 3) := by decide +kernel
theorem dX0_isSent_16 : decode cX0_isSent 16 = .ok (.irem, 1) := by decide +kernel
theorem dX0_isSent_17 : decode cX0_isSent 17 = .ok (.iaload, 1) := by decide +kernel
theorem dX0_isSent_18 : decode cX0_isSent 18 = .ok (.iload_n 2, 1) := by decide +kernel
theorem dX0_isSent_19 : decode cX0_isSent 19 = .ok (.ishr, 1) := by decide +kernel
theorem dX0_isSent_20 : decode cX0_isSent 20 = .ok (.iconst 1, 1) := by decide +kernel
theorem dX0_isSent_21 : decode cX0_isSent 21 = .ok (.iand, 1) := by decide +kernel
theorem dX0_isSent_22 : decode cX0_isSent 22 = .ok (.iconst 1, 1) := by decide +kernel
theorem dX0_isSent_23 : decode cX0_isSent 23 = .ok (.if_icmp .ne 7, 3) := by decide +kernel
theorem dX0_isSent_26 : decode cX0_isSent 26 = .ok (.iconst 1, 1) := by decide +kernel
theorem dX0_isSent_27 : decode cX0_isSent 27 = .ok (.goto 4, 3) := by decide +kernel
theorem dX0_isSent_30 : decode cX0_isSent 30 = .ok (.iconst 0, 1) := by decide +kernel
theorem dX0_isSent_31 : decode cX0_isSent 31 = .ok (.ireturn, 1) := by decide +kernel
theorem dX0_sentBy_0 : decode cX0_sentBy 0 = .ok (.iconst 0, 1) := by decide +kernel
theorem dX0_sentBy_1 : decode cX0_sentBy 1 = .ok (.istore_n 2, 1) := by decide +kernel
theorem dX0_sentBy_2 : decode cX0_sentBy 2 = .ok (.iconst 0, 1) := by decide +kernel
theorem dX0_sentBy_3 : decode cX0_sentBy 3 = .ok (.istore_n 3, 1) := by decide +kernel
theorem dX0_sentBy_4 : decode cX0_sentBy 4 = .ok (.iload_n 3, 1) := by decide +kernel
theorem dX0_sentBy_5 : decode cX0_sentBy 5 = .ok (.aload_n 0, 1) := by decide +kernel
theorem dX0_sentBy_6 : decode cX0_sentBy 6 = .ok (.iload_n 1, 1) := by decide +kernel
theorem dX0_sentBy_7 : decode cX0_sentBy 7 = .ok (.invokevirtual 51, 3) := by decide +kernel
theorem dX0_sentBy_10 : decode cX0_sentBy 10 = .ok (.if_icmp .ge 45, 3) := by decide +kernel
theorem dX0_sentBy_13 : decode cX0_sentBy 13 = .ok (.iconst 0, 1) := by decide +kernel
theorem dX0_sentBy_14 : decode cX0_sentBy 14 = .ok (.istore 4, 2) := by decide +kernel
theorem dX0_sentBy_16 : decode cX0_sentBy 16 = .ok (.iload 4, 2) := by decide +kernel
theorem dX0_sentBy_18 : decode cX0_sentBy 18 = .ok (.aload_n 0, 1) := by decide +kernel
theorem dX0_sentBy_19 : decode cX0_sentBy 19 = .ok (.invokevirtual 55, 3) := by decide +kernel
theorem dX0_sentBy_22 : decode cX0_sentBy 22 = .ok (.if_icmp .ge 27, 3) := by decide +kernel
theorem dX0_sentBy_25 : decode cX0_sentBy 25 = .ok (.iload_n 2, 1) := by decide +kernel
theorem dX0_sentBy_26 : decode cX0_sentBy 26 = .ok (.aload_n 0, 1) := by decide +kernel
theorem dX0_sentBy_27 : decode cX0_sentBy 27 = .ok (.iload_n 3, 1) := by decide +kernel
theorem dX0_sentBy_28 : decode cX0_sentBy 28 = .ok (.iload 4, 2) := by decide +kernel
theorem dX0_sentBy_30 : decode cX0_sentBy 30 = .ok (.invokevirtual 58, 3) := by decide +kernel
theorem dX0_sentBy_33 : decode cX0_sentBy 33 = .ok (.ifCond .eq 7, 3) := by decide +kernel
theorem dX0_sentBy_36 : decode cX0_sentBy 36 = .ok (.iconst 1, 1) := by decide +kernel
theorem dX0_sentBy_37 : decode cX0_sentBy 37 = .ok (.goto 4, 3) := by decide +kernel
theorem dX0_sentBy_40 : decode cX0_sentBy 40 = .ok (.iconst 0, 1) := by decide +kernel
theorem dX0_sentBy_41 : decode cX0_sentBy 41 = .ok (.iadd, 1) := by decide +kernel
theorem dX0_sentBy_42 : decode cX0_sentBy 42 = .ok (.istore_n 2, 1) := by decide +kernel
theorem dX0_sentBy_43 : decode cX0_sentBy 43 = .ok (.iinc 4 1, 3) := by decide +kernel
theorem dX0_sentBy_46 : decode cX0_sentBy 46 = .ok (.goto (-30), 3) := by decide +kernel
theorem dX0_sentBy_49 : decode cX0_sentBy 49 = .ok (.iinc 3 1, 3) := by decide +kernel
theorem dX0_sentBy_52 : decode cX0_sentBy 52 = .ok (.goto (-48), 3) := by decide +kernel
theorem dX0_sentBy_55 : decode cX0_sentBy 55 = .ok (.iload_n 2, 1) := by decide +kernel
theorem dX0_sentBy_56 : decode cX0_sentBy 56 = .ok (.ireturn, 1) := by decide +kernel
theorem dX0_orderOf_0 : decode cX0_orderOf 0 = .ok (.iload_n 1, 1) := by decide +kernel
theorem dX0_orderOf_1 : decode cX0_orderOf 1 = .ok (.aload_n 0, 1) := by decide +kernel
theorem dX0_orderOf_2 : decode cX0_orderOf 2 = .ok (.getfield 22, 3) := by decide +kernel
theorem dX0_orderOf_5 : decode cX0_orderOf 5 = .ok (.imul, 1) := by decide +kernel
theorem dX0_orderOf_6 : decode cX0_orderOf 6 = .ok (.iload_n 2, 1) := by decide +kernel
theorem dX0_orderOf_7 : decode cX0_orderOf 7 = .ok (.irem, 1) := by decide +kernel
theorem dX0_orderOf_8 : decode cX0_orderOf 8 = .ok (.ireturn, 1) := by decide +kernel
theorem dX0_ordersAll_0 : decode cX0_ordersAll 0 = .ok (.iconst 2, 1) := by decide +kernel
theorem dX0_ordersAll_1 : decode cX0_ordersAll 1 = .ok (.istore_n 2, 1) := by decide +kernel
theorem dX0_ordersAll_2 : decode cX0_ordersAll 2 = .ok (.iload_n 2, 1) := by decide +kernel
theorem dX0_ordersAll_3 : decode cX0_ordersAll 3 = .ok (.iload_n 1, 1) := by decide +kernel
theorem dX0_ordersAll_4 : decode cX0_ordersAll 4 = .ok (.if_icmp .gt 26, 3) := by decide +kernel
theorem dX0_ordersAll_7 : decode cX0_ordersAll 7 = .ok (.iload_n 1, 1) := by decide +kernel
theorem dX0_ordersAll_8 : decode cX0_ordersAll 8 = .ok (.iload_n 2, 1) := by decide +kernel
theorem dX0_ordersAll_9 : decode cX0_ordersAll 9 = .ok (.irem, 1) := by decide +kernel
theorem dX0_ordersAll_10 : decode cX0_ordersAll 10 = .ok (.ifCond .ne 14, 3) := by decide +kernel
theorem dX0_ordersAll_13 : decode cX0_ordersAll 13 = .ok (.aload_n 0, 1) := by decide +kernel
theorem dX0_ordersAll_14 : decode cX0_ordersAll 14 = .ok (.getfield 22, 3) := by decide +kernel
theorem dX0_ordersAll_17 : decode cX0_ordersAll 17 = .ok (.iload_n 2, 1) := by decide +kernel
theorem dX0_ordersAll_18 : decode cX0_ordersAll 18 = .ok (.irem, 1) := by decide +kernel
theorem dX0_ordersAll_19 : decode cX0_ordersAll 19 = .ok (.ifCond .ne 5, 3) := by decide +kernel
theorem dX0_ordersAll_22 : decode cX0_ordersAll 22 = .ok (.iconst 0, 1) := by decide +kernel
theorem dX0_ordersAll_23 : decode cX0_ordersAll 23 = .ok (.ireturn, 1) := by decide +kernel
theorem dX0_ordersAll_24 : decode cX0_ordersAll 24 = .ok (.iinc 2 1, 3) := by decide +kernel
theorem dX0_ordersAll_27 : decode cX0_ordersAll 27 = .ok (.goto (-25), 3) := by decide +kernel
theorem dX0_ordersAll_30 : decode cX0_ordersAll 30 = .ok (.iconst 1, 1) := by decide +kernel
theorem dX0_ordersAll_31 : decode cX0_ordersAll 31 = .ok (.ireturn, 1) := by decide +kernel
theorem dX0_fedBack_0 : decode cX0_fedBack 0 = .ok (.iload_n 1, 1) := by decide +kernel
theorem dX0_fedBack_1 : decode cX0_fedBack 1 = .ok (.aload_n 0, 1) := by decide +kernel
theorem dX0_fedBack_2 : decode cX0_fedBack 2 = .ok (.getfield 15, 3) := by decide +kernel
theorem dX0_fedBack_5 : decode cX0_fedBack 5 = .ok (.iand, 1) := by decide +kernel
theorem dX0_fedBack_6 : decode cX0_fedBack 6 = .ok (.invokestatic 62, 3) := by decide +kernel
theorem dX0_fedBack_9 : decode cX0_fedBack 9 = .ok (.ireturn, 1) := by decide +kernel
theorem dX0_stateAfter_0 : decode cX0_stateAfter 0 = .ok (.iload_n 1, 1) := by decide +kernel
theorem dX0_stateAfter_1 : decode cX0_stateAfter 1 = .ok (.iconst 1, 1) := by decide +kernel
theorem dX0_stateAfter_2 : decode cX0_stateAfter 2 = .ok (.ishl, 1) := by decide +kernel
theorem dX0_stateAfter_3 : decode cX0_stateAfter 3 = .ok (.iload_n 2, 1) := by decide +kernel
theorem dX0_stateAfter_4 : decode cX0_stateAfter 4 = .ok (.aload_n 0, 1) := by decide +kernel
theorem dX0_stateAfter_5 : decode cX0_stateAfter 5 = .ok (.iload_n 1, 1) := by decide +kernel
theorem dX0_stateAfter_6 : decode cX0_stateAfter 6 = .ok (.invokevirtual 65, 3) := by decide +kernel
theorem dX0_stateAfter_9 : decode cX0_stateAfter 9 = .ok (.ixor, 1) := by decide +kernel
theorem dX0_stateAfter_10 : decode cX0_stateAfter 10 = .ok (.ior, 1) := by decide +kernel
theorem dX0_stateAfter_11 : decode cX0_stateAfter 11 = .ok (.aload_n 0, 1) := by decide +kernel
theorem dX0_stateAfter_12 : decode cX0_stateAfter 12 = .ok (.invokevirtual 37, 3) := by decide +kernel
theorem dX0_stateAfter_15 : decode cX0_stateAfter 15 = .ok (.iconst 1, 1) := by decide +kernel
theorem dX0_stateAfter_16 : decode cX0_stateAfter 16 = .ok (.isub, 1) := by decide +kernel
theorem dX0_stateAfter_17 : decode cX0_stateAfter 17 = .ok (.iand, 1) := by decide +kernel
theorem dX0_stateAfter_18 : decode cX0_stateAfter 18 = .ok (.ireturn, 1) := by decide +kernel
theorem dX0_outsOf_0 : decode cX0_outsOf 0 = .ok (.iload_n 1, 1) := by decide +kernel
theorem dX0_outsOf_1 : decode cX0_outsOf 1 = .ok (.iconst 1, 1) := by decide +kernel
theorem dX0_outsOf_2 : decode cX0_outsOf 2 = .ok (.ishl, 1) := by decide +kernel
theorem dX0_outsOf_3 : decode cX0_outsOf 3 = .ok (.iload_n 2, 1) := by decide +kernel
theorem dX0_outsOf_4 : decode cX0_outsOf 4 = .ok (.aload_n 0, 1) := by decide +kernel
theorem dX0_outsOf_5 : decode cX0_outsOf 5 = .ok (.iload_n 1, 1) := by decide +kernel
theorem dX0_outsOf_6 : decode cX0_outsOf 6 = .ok (.invokevirtual 65, 3) := by decide +kernel
theorem dX0_outsOf_9 : decode cX0_outsOf 9 = .ok (.ixor, 1) := by decide +kernel
theorem dX0_outsOf_10 : decode cX0_outsOf 10 = .ok (.ior, 1) := by decide +kernel
theorem dX0_outsOf_11 : decode cX0_outsOf 11 = .ok (.istore_n 3, 1) := by decide +kernel
theorem dX0_outsOf_12 : decode cX0_outsOf 12 = .ok (.aload_n 0, 1) := by decide +kernel
theorem dX0_outsOf_13 : decode cX0_outsOf 13 = .ok (.invokevirtual 68, 3) := by decide +kernel
theorem dX0_outsOf_16 : decode cX0_outsOf 16 = .ok (.ifCond .eq 7, 3) := by decide +kernel
theorem dX0_outsOf_19 : decode cX0_outsOf 19 = .ok (.iload_n 2, 1) := by decide +kernel
theorem dX0_outsOf_20 : decode cX0_outsOf 20 = .ok (.goto 14, 3) := by decide +kernel
theorem dX0_outsOf_23 : decode cX0_outsOf 23 = .ok (.iload_n 3, 1) := by decide +kernel
theorem dX0_outsOf_24 : decode cX0_outsOf 24 = .ok (.aload_n 0, 1) := by decide +kernel
theorem dX0_outsOf_25 : decode cX0_outsOf 25 = .ok (.getfield 9, 3) := by decide +kernel
theorem dX0_outsOf_28 : decode cX0_outsOf 28 = .ok (.iconst 0, 1) := by decide +kernel
theorem dX0_outsOf_29 : decode cX0_outsOf 29 = .ok (.iaload, 1) := by decide +kernel
theorem dX0_outsOf_30 : decode cX0_outsOf 30 = .ok (.iand, 1) := by decide +kernel
theorem dX0_outsOf_31 : decode cX0_outsOf 31 = .ok (.invokestatic 62, 3) := by decide +kernel
theorem dX0_outsOf_34 : decode cX0_outsOf 34 = .ok (.istore 4, 2) := by decide +kernel
theorem dX0_outsOf_36 : decode cX0_outsOf 36 = .ok (.iconst 1, 1) := by decide +kernel
theorem dX0_outsOf_37 : decode cX0_outsOf 37 = .ok (.istore 5, 2) := by decide +kernel
theorem dX0_outsOf_39 : decode cX0_outsOf 39 = .ok (.iload 5, 2) := by decide +kernel
theorem dX0_outsOf_41 : decode cX0_outsOf 41 = .ok (.aload_n 0, 1) := by decide +kernel
theorem dX0_outsOf_42 : decode cX0_outsOf 42 = .ok (.getfield 34, 3) := by decide +kernel
theorem dX0_outsOf_45 : decode cX0_outsOf 45 = .ok (.if_icmp .ge 29, 3) := by decide +kernel
theorem dX0_outsOf_48 : decode cX0_outsOf 48 = .ok (.iload 4, 2) := by decide +kernel
theorem dX0_outsOf_50 : decode cX0_outsOf 50 = .ok (.iload_n 3, 1) := by decide +kernel
theorem dX0_outsOf_51 : decode cX0_outsOf 51 = .ok (.aload_n 0, 1) := by decide +kernel
theorem dX0_outsOf_52 : decode cX0_outsOf 52 = .ok (.getfield 9, 3) := by decide +kernel
theorem dX0_outsOf_55 : decode cX0_outsOf 55 = .ok (.iload 5, 2) := by decide +kernel
theorem dX0_outsOf_57 : decode cX0_outsOf 57 = .ok (.iaload, 1) := by decide +kernel
theorem dX0_outsOf_58 : decode cX0_outsOf 58 = .ok (.iand, 1) := by decide +kernel
theorem dX0_outsOf_59 : decode cX0_outsOf 59 = .ok (.invokestatic 62, 3) := by decide +kernel
theorem dX0_outsOf_62 : decode cX0_outsOf 62 = .ok (.iload 5, 2) := by decide +kernel
theorem dX0_outsOf_64 : decode cX0_outsOf 64 = .ok (.ishl, 1) := by decide +kernel
theorem dX0_outsOf_65 : decode cX0_outsOf 65 = .ok (.ior, 1) := by decide +kernel
theorem dX0_outsOf_66 : decode cX0_outsOf 66 = .ok (.istore 4, 2) := by decide +kernel
theorem dX0_outsOf_68 : decode cX0_outsOf 68 = .ok (.iinc 5 1, 3) := by decide +kernel
theorem dX0_outsOf_71 : decode cX0_outsOf 71 = .ok (.goto (-32), 3) := by decide +kernel
theorem dX0_outsOf_74 : decode cX0_outsOf 74 = .ok (.iload 4, 2) := by decide +kernel
theorem dX0_outsOf_76 : decode cX0_outsOf 76 = .ok (.ireturn, 1) := by decide +kernel
theorem dX0_tapOrKeep_0 : decode cX0_tapOrKeep 0 = .ok (.iload_n 1, 1) := by decide +kernel
theorem dX0_tapOrKeep_1 : decode cX0_tapOrKeep 1 = .ok (.bipush 7, 2) := by decide +kernel
theorem dX0_tapOrKeep_3 : decode cX0_tapOrKeep 3 = .ok (.if_icmp .lt 34, 3) := by decide +kernel
theorem dX0_tapOrKeep_6 : decode cX0_tapOrKeep 6 = .ok (.iload_n 1, 1) := by decide +kernel
theorem dX0_tapOrKeep_7 : decode cX0_tapOrKeep 7 = .ok (.bipush 11, 2) := by decide +kernel
theorem dX0_tapOrKeep_9 : decode cX0_tapOrKeep 9 = .ok (.if_icmp .ge 28, 3) := by decide +kernel
theorem dX0_tapOrKeep_12 : decode cX0_tapOrKeep 12 = .ok (.iload_n 1, 1) := by decide +kernel
theorem dX0_tapOrKeep_13 : decode cX0_tapOrKeep 13 = .ok (.bipush 7, 2) := by decide +kernel
theorem dX0_tapOrKeep_15 : decode cX0_tapOrKeep 15 = .ok (.isub, 1) := by decide +kernel
theorem dX0_tapOrKeep_16 : decode cX0_tapOrKeep 16 = .ok (.aload_n 0, 1) := by decide +kernel
theorem dX0_tapOrKeep_17 : decode cX0_tapOrKeep 17 = .ok (.getfield 34, 3) := by decide +kernel
theorem dX0_tapOrKeep_20 : decode cX0_tapOrKeep 20 = .ok (.if_icmp .ge 15, 3) := by decide +kernel
theorem dX0_tapOrKeep_23 : decode cX0_tapOrKeep 23 = .ok (.aload_n 0, 1) := by decide +kernel
theorem dX0_tapOrKeep_24 : decode cX0_tapOrKeep 24 = .ok (.getfield 9, 3) := by decide +kernel
theorem dX0_tapOrKeep_27 : decode cX0_tapOrKeep 27 = .ok (.iload_n 1, 1) := by decide +kernel
theorem dX0_tapOrKeep_28 : decode cX0_tapOrKeep 28 = .ok (.bipush 7, 2) := by decide +kernel
theorem dX0_tapOrKeep_30 : decode cX0_tapOrKeep 30 = .ok (.isub, 1) := by decide +kernel
theorem dX0_tapOrKeep_31 : decode cX0_tapOrKeep 31 = .ok (.iaload, 1) := by decide +kernel
theorem dX0_tapOrKeep_32 : decode cX0_tapOrKeep 32 = .ok (.goto 4, 3) := by decide +kernel
theorem dX0_tapOrKeep_35 : decode cX0_tapOrKeep 35 = .ok (.iconst (-1), 1) := by decide +kernel
theorem dX0_tapOrKeep_36 : decode cX0_tapOrKeep 36 = .ok (.ireturn, 1) := by decide +kernel
theorem dX0_tapOrKeep_37 : decode cX0_tapOrKeep 37 = .ok (.iload_n 1, 1) := by decide +kernel
theorem dX0_tapOrKeep_38 : decode cX0_tapOrKeep 38 = .ok (.bipush 11, 2) := by decide +kernel
theorem dX0_tapOrKeep_40 : decode cX0_tapOrKeep 40 = .ok (.if_icmp .lt 41, 3) := by decide +kernel
theorem dX0_tapOrKeep_43 : decode cX0_tapOrKeep 43 = .ok (.iload_n 1, 1) := by decide +kernel
theorem dX0_tapOrKeep_44 : decode cX0_tapOrKeep 44 = .ok (.bipush 19, 2) := by decide +kernel
theorem dX0_tapOrKeep_46 : decode cX0_tapOrKeep 46 = .ok (.if_icmp .ge 35, 3) := by decide +kernel
theorem dX0_tapOrKeep_49 : decode cX0_tapOrKeep 49 = .ok (.aload_n 0, 1) := by decide +kernel
theorem dX0_tapOrKeep_50 : decode cX0_tapOrKeep 50 = .ok (.invokevirtual 47, 3) := by decide +kernel
theorem dX0_tapOrKeep_53 : decode cX0_tapOrKeep 53 = .ok (.ifCond .eq 26, 3) := by decide +kernel
theorem dX0_tapOrKeep_56 : decode cX0_tapOrKeep 56 = .ok (.iload_n 1, 1) := by decide +kernel
theorem dX0_tapOrKeep_57 : decode cX0_tapOrKeep 57 = .ok (.bipush 11, 2) := by decide +kernel
theorem dX0_tapOrKeep_59 : decode cX0_tapOrKeep 59 = .ok (.isub, 1) := by decide +kernel
theorem dX0_tapOrKeep_60 : decode cX0_tapOrKeep 60 = .ok (.aload_n 0, 1) := by decide +kernel
theorem dX0_tapOrKeep_61 : decode cX0_tapOrKeep 61 = .ok (.getfield 19, 3) := by decide +kernel
theorem dX0_tapOrKeep_64 : decode cX0_tapOrKeep 64 = .ok (.if_icmp .ge 15, 3) := by decide +kernel
theorem dX0_tapOrKeep_67 : decode cX0_tapOrKeep 67 = .ok (.aload_n 0, 1) := by decide +kernel
theorem dX0_tapOrKeep_68 : decode cX0_tapOrKeep 68 = .ok (.getfield 25, 3) := by decide +kernel
theorem dX0_tapOrKeep_71 : decode cX0_tapOrKeep 71 = .ok (.iload_n 1, 1) := by decide +kernel
theorem dX0_tapOrKeep_72 : decode cX0_tapOrKeep 72 = .ok (.bipush 11, 2) := by decide +kernel
theorem dX0_tapOrKeep_74 : decode cX0_tapOrKeep 74 = .ok (.isub, 1) := by decide +kernel
theorem dX0_tapOrKeep_75 : decode cX0_tapOrKeep 75 = .ok (.iaload, 1) := by decide +kernel
theorem dX0_tapOrKeep_76 : decode cX0_tapOrKeep 76 = .ok (.goto 4, 3) := by decide +kernel
theorem dX0_tapOrKeep_79 : decode cX0_tapOrKeep 79 = .ok (.iconst (-1), 1) := by decide +kernel
theorem dX0_tapOrKeep_80 : decode cX0_tapOrKeep 80 = .ok (.ireturn, 1) := by decide +kernel
theorem dX0_tapOrKeep_81 : decode cX0_tapOrKeep 81 = .ok (.new 71, 3) := by decide +kernel
theorem dX0_tapOrKeep_84 : decode cX0_tapOrKeep 84 = .ok (.dup, 1) := by decide +kernel
theorem dX0_tapOrKeep_85 : decode cX0_tapOrKeep 85 = .ok (.ldc 73, 2) := by decide +kernel
theorem dX0_tapOrKeep_87 : decode cX0_tapOrKeep 87 = .ok (.invokespecial 75, 3) := by decide +kernel
theorem dX0_tapOrKeep_90 : decode cX0_tapOrKeep 90 = .ok (.athrow, 1) := by decide +kernel
theorem dX1_init_0 : decode cX1_init 0 = .ok (.aload_n 0, 1) := by decide +kernel
theorem dX1_init_1 : decode cX1_init 1 = .ok (.invokespecial 3, 3) := by decide +kernel
theorem dX1_init_4 : decode cX1_init 4 = .ok (.aload_n 0, 1) := by decide +kernel
theorem dX1_init_5 : decode cX1_init 5 = .ok (.sipush 128, 3) := by decide +kernel
theorem dX1_init_8 : decode cX1_init 8 = .ok (.newarray .int, 2) := by decide +kernel
theorem dX1_init_10 : decode cX1_init 10 = .ok (.putfield 9, 3) := by decide +kernel
theorem dX1_init_13 : decode cX1_init 13 = .ok (.aload_n 0, 1) := by decide +kernel
theorem dX1_init_14 : decode cX1_init 14 = .ok (.sipush 128, 3) := by decide +kernel
theorem dX1_init_17 : decode cX1_init 17 = .ok (.newarray .int, 2) := by decide +kernel
theorem dX1_init_19 : decode cX1_init 19 = .ok (.putfield 15, 3) := by decide +kernel
theorem dX1_init_22 : decode cX1_init 22 = .ok (.aload_n 0, 1) := by decide +kernel
theorem dX1_init_23 : decode cX1_init 23 = .ok (.bipush 64, 2) := by decide +kernel
theorem dX1_init_25 : decode cX1_init 25 = .ok (.newarray .int, 2) := by decide +kernel
theorem dX1_init_27 : decode cX1_init 27 = .ok (.putfield 18, 3) := by decide +kernel
theorem dX1_init_30 : decode cX1_init 30 = .ok (.aload_n 0, 1) := by decide +kernel
theorem dX1_init_31 : decode cX1_init 31 = .ok (.iconst 1, 1) := by decide +kernel
theorem dX1_init_32 : decode cX1_init 32 = .ok (.putfield 21, 3) := by decide +kernel
theorem dX1_init_35 : decode cX1_init 35 = .ok (.aload_n 0, 1) := by decide +kernel
theorem dX1_init_36 : decode cX1_init 36 = .ok (.sipush 3296, 3) := by decide +kernel
theorem dX1_init_39 : decode cX1_init 39 = .ok (.newarray .int, 2) := by decide +kernel
theorem dX1_init_41 : decode cX1_init 41 = .ok (.putfield 25, 3) := by decide +kernel
theorem dX1_init_44 : decode cX1_init 44 = .ok (.return_, 1) := by decide +kernel
theorem dX1_load_0 : decode cX1_load 0 = .ok (.aload_n 0, 1) := by decide +kernel
theorem dX1_load_1 : decode cX1_load 1 = .ok (.aload_n 1, 1) := by decide +kernel
theorem dX1_load_2 : decode cX1_load 2 = .ok (.invokevirtual 28, 3) := by decide +kernel
theorem dX1_load_5 : decode cX1_load 5 = .ok (.putfield 21, 3) := by decide +kernel
theorem dX1_load_8 : decode cX1_load 8 = .ok (.iconst 0, 1) := by decide +kernel
theorem dX1_load_9 : decode cX1_load 9 = .ok (.istore_n 2, 1) := by decide +kernel
theorem dX1_load_10 : decode cX1_load 10 = .ok (.iload_n 2, 1) := by decide +kernel
theorem dX1_load_11 : decode cX1_load 11 = .ok (.aload_n 0, 1) := by decide +kernel
theorem dX1_load_12 : decode cX1_load 12 = .ok (.getfield 21, 3) := by decide +kernel
theorem dX1_load_15 : decode cX1_load 15 = .ok (.if_icmp .ge 54, 3) := by decide +kernel
theorem dX1_load_18 : decode cX1_load 18 = .ok (.iconst 0, 1) := by decide +kernel
theorem dX1_load_19 : decode cX1_load 19 = .ok (.istore_n 3, 1) := by decide +kernel
theorem dX1_load_20 : decode cX1_load 20 = .ok (.iload_n 3, 1) := by decide +kernel
theorem dX1_load_21 : decode cX1_load 21 = .ok (.iconst 2, 1) := by decide +kernel
theorem dX1_load_22 : decode cX1_load 22 = .ok (.if_icmp .ge 41, 3) := by decide +kernel
theorem dX1_load_25 : decode cX1_load 25 = .ok (.aload_n 0, 1) := by decide +kernel
theorem dX1_load_26 : decode cX1_load 26 = .ok (.getfield 9, 3) := by decide +kernel
theorem dX1_load_29 : decode cX1_load 29 = .ok (.iconst 2, 1) := by decide +kernel
theorem dX1_load_30 : decode cX1_load 30 = .ok (.iload_n 2, 1) := by decide +kernel
theorem dX1_load_31 : decode cX1_load 31 = .ok (.imul, 1) := by decide +kernel
theorem dX1_load_32 : decode cX1_load 32 = .ok (.iload_n 3, 1) := by decide +kernel
theorem dX1_load_33 : decode cX1_load 33 = .ok (.iadd, 1) := by decide +kernel
theorem dX1_load_34 : decode cX1_load 34 = .ok (.aload_n 1, 1) := by decide +kernel
theorem dX1_load_35 : decode cX1_load 35 = .ok (.iload_n 2, 1) := by decide +kernel
theorem dX1_load_36 : decode cX1_load 36 = .ok (.iload_n 3, 1) := by decide +kernel
theorem dX1_load_37 : decode cX1_load 37 = .ok (.invokevirtual 33, 3) := by decide +kernel
theorem dX1_load_40 : decode cX1_load 40 = .ok (.iastore, 1) := by decide +kernel
theorem dX1_load_41 : decode cX1_load 41 = .ok (.aload_n 0, 1) := by decide +kernel
theorem dX1_load_42 : decode cX1_load 42 = .ok (.getfield 15, 3) := by decide +kernel
theorem dX1_load_45 : decode cX1_load 45 = .ok (.iconst 2, 1) := by decide +kernel
theorem dX1_load_46 : decode cX1_load 46 = .ok (.iload_n 2, 1) := by decide +kernel
theorem dX1_load_47 : decode cX1_load 47 = .ok (.imul, 1) := by decide +kernel
theorem dX1_load_48 : decode cX1_load 48 = .ok (.iload_n 3, 1) := by decide +kernel
theorem dX1_load_49 : decode cX1_load 49 = .ok (.iadd, 1) := by decide +kernel
theorem dX1_load_50 : decode cX1_load 50 = .ok (.aload_n 1, 1) := by decide +kernel
theorem dX1_load_51 : decode cX1_load 51 = .ok (.iload_n 2, 1) := by decide +kernel
theorem dX1_load_52 : decode cX1_load 52 = .ok (.iload_n 3, 1) := by decide +kernel
theorem dX1_load_53 : decode cX1_load 53 = .ok (.invokevirtual 37, 3) := by decide +kernel
theorem dX1_load_56 : decode cX1_load 56 = .ok (.iastore, 1) := by decide +kernel
theorem dX1_load_57 : decode cX1_load 57 = .ok (.iinc 3 1, 3) := by decide +kernel
theorem dX1_load_60 : decode cX1_load 60 = .ok (.goto (-40), 3) := by decide +kernel
theorem dX1_load_63 : decode cX1_load 63 = .ok (.iinc 2 1, 3) := by decide +kernel
theorem dX1_load_66 : decode cX1_load 66 = .ok (.goto (-56), 3) := by decide +kernel
theorem dX1_load_69 : decode cX1_load 69 = .ok (.return_, 1) := by decide +kernel
theorem dX1_clearStep_0 : decode cX1_clearStep 0 = .ok (.iconst 0, 1) := by decide +kernel
theorem dX1_clearStep_1 : decode cX1_clearStep 1 = .ok (.istore_n 2, 1) := by decide +kernel
theorem dX1_clearStep_2 : decode cX1_clearStep 2 = .ok (.iload_n 2, 1) := by decide +kernel
theorem dX1_clearStep_3 : decode cX1_clearStep 3 = .ok (.bipush 16, 2) := by decide +kernel
theorem dX1_clearStep_5 : decode cX1_clearStep 5 = .ok (.if_icmp .ge 21, 3) := by decide +kernel
theorem dX1_clearStep_8 : decode cX1_clearStep 8 = .ok (.aload_n 0, 1) := by decide +kernel
theorem dX1_clearStep_9 : decode cX1_clearStep 9 = .ok (.getfield 25, 3) := by decide +kernel
theorem dX1_clearStep_12 : decode cX1_clearStep 12 = .ok (.iload_n 1, 1) := by decide +kernel
theorem dX1_clearStep_13 : decode cX1_clearStep 13 = .ok (.bipush 16, 2) := by decide +kernel
theorem dX1_clearStep_15 : decode cX1_clearStep 15 = .ok (.imul, 1) := by decide +kernel
theorem dX1_clearStep_16 : decode cX1_clearStep 16 = .ok (.iload_n 2, 1) := by decide +kernel
theorem dX1_clearStep_17 : decode cX1_clearStep 17 = .ok (.iadd, 1) := by decide +kernel
theorem dX1_clearStep_18 : decode cX1_clearStep 18 = .ok (.iconst 0, 1) := by decide +kernel
theorem dX1_clearStep_19 : decode cX1_clearStep 19 = .ok (.iastore, 1) := by decide +kernel
theorem dX1_clearStep_20 : decode cX1_clearStep 20 = .ok (.iinc 2 1, 3) := by decide +kernel
theorem dX1_clearStep_23 : decode cX1_clearStep 23 = .ok (.goto (-21), 3) := by decide +kernel
theorem dX1_clearStep_26 : decode cX1_clearStep 26 = .ok (.return_, 1) := by decide +kernel
theorem dX1_addSign_0 : decode cX1_addSign 0 = .ok (.iconst 0, 1) := by decide +kernel
theorem dX1_addSign_1 : decode cX1_addSign 1 = .ok (.istore 5, 2) := by decide +kernel
theorem dX1_addSign_3 : decode cX1_addSign 3 = .ok (.iload 5, 2) := by decide +kernel
theorem dX1_addSign_5 : decode cX1_addSign 5 = .ok (.bipush 16, 2) := by decide +kernel
theorem dX1_addSign_7 : decode cX1_addSign 7 = .ok (.if_icmp .ge 39, 3) := by decide +kernel
theorem dX1_addSign_10 : decode cX1_addSign 10 = .ok (.aload_n 0, 1) := by decide +kernel
theorem dX1_addSign_11 : decode cX1_addSign 11 = .ok (.getfield 25, 3) := by decide +kernel
theorem dX1_addSign_14 : decode cX1_addSign 14 = .ok (.iload_n 1, 1) := by decide +kernel
theorem dX1_addSign_15 : decode cX1_addSign 15 = .ok (.bipush 16, 2) := by decide +kernel
theorem dX1_addSign_17 : decode cX1_addSign 17 = .ok (.imul, 1) := by decide +kernel
theorem dX1_addSign_18 : decode cX1_addSign 18 = .ok (.iload 5, 2) := by decide +kernel
theorem dX1_addSign_20 : decode cX1_addSign 20 = .ok (.iadd, 1) := by decide +kernel
theorem dX1_addSign_21 : decode cX1_addSign 21 = .ok (.dup2, 1) := by decide +kernel
theorem dX1_addSign_22 : decode cX1_addSign 22 = .ok (.iaload, 1) := by decide +kernel
theorem dX1_addSign_23 : decode cX1_addSign 23 = .ok (.iload 5, 2) := by decide +kernel
theorem dX1_addSign_25 : decode cX1_addSign 25 = .ok (.iload_n 2, 1) := by decide +kernel
theorem dX1_addSign_26 : decode cX1_addSign 26 = .ok (.ishr, 1) := by decide +kernel
theorem dX1_addSign_27 : decode cX1_addSign 27 = .ok (.iconst 1, 1) := by decide +kernel
theorem dX1_addSign_28 : decode cX1_addSign 28 = .ok (.iand, 1) := by decide +kernel
theorem dX1_addSign_29 : decode cX1_addSign 29 = .ok (.ifCond .ne 7, 3) := by decide +kernel
theorem dX1_addSign_32 : decode cX1_addSign 32 = .ok (.iload_n 3, 1) := by decide +kernel
theorem dX1_addSign_33 : decode cX1_addSign 33 = .ok (.goto 5, 3) := by decide +kernel
theorem dX1_addSign_36 : decode cX1_addSign 36 = .ok (.iload 4, 2) := by decide +kernel
theorem dX1_addSign_38 : decode cX1_addSign 38 = .ok (.iadd, 1) := by decide +kernel
theorem dX1_addSign_39 : decode cX1_addSign 39 = .ok (.iastore, 1) := by decide +kernel
theorem dX1_addSign_40 : decode cX1_addSign 40 = .ok (.iinc 5 1, 3) := by decide +kernel
theorem dX1_addSign_43 : decode cX1_addSign 43 = .ok (.goto (-40), 3) := by decide +kernel
theorem dX1_addSign_46 : decode cX1_addSign 46 = .ok (.return_, 1) := by decide +kernel
theorem dX1_priceOf_0 : decode cX1_priceOf 0 = .ok (.aload_n 0, 1) := by decide +kernel
theorem dX1_priceOf_1 : decode cX1_priceOf 1 = .ok (.getfield 25, 3) := by decide +kernel
theorem dX1_priceOf_4 : decode cX1_priceOf 4 = .ok (.iload_n 1, 1) := by decide +kernel
theorem dX1_priceOf_5 : decode cX1_priceOf 5 = .ok (.bipush 16, 2) := by decide +kernel
theorem dX1_priceOf_7 : decode cX1_priceOf 7 = .ok (.imul, 1) := by decide +kernel
theorem dX1_priceOf_8 : decode cX1_priceOf 8 = .ok (.aload_n 0, 1) := by decide +kernel
theorem dX1_priceOf_9 : decode cX1_priceOf 9 = .ok (.getfield 15, 3) := by decide +kernel
theorem dX1_priceOf_12 : decode cX1_priceOf 12 = .ok (.iload_n 2, 1) := by decide +kernel
theorem dX1_priceOf_13 : decode cX1_priceOf 13 = .ok (.iaload, 1) := by decide +kernel
theorem dX1_priceOf_14 : decode cX1_priceOf 14 = .ok (.iadd, 1) := by decide +kernel
theorem dX1_priceOf_15 : decode cX1_priceOf 15 = .ok (.iaload, 1) := by decide +kernel
theorem dX1_priceOf_16 : decode cX1_priceOf 16 = .ok (.ireturn, 1) := by decide +kernel
theorem dX1_setEnds_0 : decode cX1_setEnds 0 = .ok (.iconst 0, 1) := by decide +kernel
theorem dX1_setEnds_1 : decode cX1_setEnds 1 = .ok (.istore 4, 2) := by decide +kernel
theorem dX1_setEnds_3 : decode cX1_setEnds 3 = .ok (.iload 4, 2) := by decide +kernel
theorem dX1_setEnds_5 : decode cX1_setEnds 5 = .ok (.aload_n 0, 1) := by decide +kernel
theorem dX1_setEnds_6 : decode cX1_setEnds 6 = .ok (.getfield 21, 3) := by decide +kernel
theorem dX1_setEnds_9 : decode cX1_setEnds 9 = .ok (.if_icmp .ge 58, 3) := by decide +kernel
theorem dX1_setEnds_12 : decode cX1_setEnds 12 = .ok (.aload_n 1, 1) := by decide +kernel
theorem dX1_setEnds_13 : decode cX1_setEnds 13 = .ok (.getfield 40, 3) := by decide +kernel
theorem dX1_setEnds_16 : decode cX1_setEnds 16 = .ok (.iconst 4, 1) := by decide +kernel
theorem dX1_setEnds_17 : decode cX1_setEnds 17 = .ok (.if_icmp .ne 25, 3) := by decide +kernel
theorem dX1_setEnds_20 : decode cX1_setEnds 20 = .ok (.aload_n 0, 1) := by decide +kernel
theorem dX1_setEnds_21 : decode cX1_setEnds 21 = .ok (.getfield 18, 3) := by decide +kernel
theorem dX1_setEnds_24 : decode cX1_setEnds 24 = .ok (.iload 4, 2) := by decide +kernel
theorem dX1_setEnds_26 : decode cX1_setEnds 26 = .ok (.iload 4, 2) := by decide +kernel
theorem dX1_setEnds_28 : decode cX1_setEnds 28 = .ok (.iload_n 3, 1) := by decide +kernel
theorem dX1_setEnds_29 : decode cX1_setEnds 29 = .ok (.if_icmp .ne 7, 3) := by decide +kernel
theorem dX1_setEnds_32 : decode cX1_setEnds 32 = .ok (.iconst 0, 1) := by decide +kernel
theorem dX1_setEnds_33 : decode cX1_setEnds 33 = .ok (.goto 5, 3) := by decide +kernel
theorem dX1_setEnds_36 : decode cX1_setEnds 36 = .ok (.ldc 43, 2) := by decide +kernel
theorem dX1_setEnds_38 : decode cX1_setEnds 38 = .ok (.iastore, 1) := by decide +kernel
theorem dX1_setEnds_39 : decode cX1_setEnds 39 = .ok (.goto 22, 3) := by decide +kernel
theorem dX1_setEnds_42 : decode cX1_setEnds 42 = .ok (.aload_n 0, 1) := by decide +kernel
theorem dX1_setEnds_43 : decode cX1_setEnds 43 = .ok (.getfield 18, 3) := by decide +kernel
theorem dX1_setEnds_46 : decode cX1_setEnds 46 = .ok (.iload 4, 2) := by decide +kernel
theorem dX1_setEnds_48 : decode cX1_setEnds 48 = .ok (.aload_n 0, 1) := by decide +kernel
theorem dX1_setEnds_49 : decode cX1_setEnds 49 = .ok (.iload 4, 2) := by decide +kernel
theorem dX1_setEnds_51 : decode cX1_setEnds 51 = .ok (.iload_n 2, 1) := by decide +kernel
theorem dX1_setEnds_52 : decode cX1_setEnds 52 = .ok (.aload_n 1, 1) := by decide +kernel
theorem dX1_setEnds_53 : decode cX1_setEnds 53 = .ok (.iload_n 2, 1) := by decide +kernel
theorem dX1_setEnds_54 : decode cX1_setEnds 54 = .ok (.invokevirtual 44, 3) := by decide +kernel
theorem dX1_setEnds_57 : decode cX1_setEnds 57 = .ok (.invokevirtual 48, 3) := by decide +kernel
theorem dX1_setEnds_60 : decode cX1_setEnds 60 = .ok (.iastore, 1) := by decide +kernel
theorem dX1_setEnds_61 : decode cX1_setEnds 61 = .ok (.iinc 4 1, 3) := by decide +kernel
theorem dX1_setEnds_64 : decode cX1_setEnds 64 = .ok (.goto (-61), 3) := by decide +kernel
theorem dX1_setEnds_67 : decode cX1_setEnds 67 = .ok (.return_, 1) := by decide +kernel
theorem dX1_tailPrice_0 : decode cX1_tailPrice 0 = .ok (.iconst 0, 1) := by decide +kernel
theorem dX1_tailPrice_1 : decode cX1_tailPrice 1 = .ok (.istore 4, 2) := by decide +kernel
theorem dX1_tailPrice_3 : decode cX1_tailPrice 3 = .ok (.iload_n 1, 1) := by decide +kernel
theorem dX1_tailPrice_4 : decode cX1_tailPrice 4 = .ok (.istore 5, 2) := by decide +kernel
theorem dX1_tailPrice_6 : decode cX1_tailPrice 6 = .ok (.iload_n 2, 1) := by decide +kernel
theorem dX1_tailPrice_7 : decode cX1_tailPrice 7 = .ok (.istore 6, 2) := by decide +kernel
theorem dX1_tailPrice_9 : decode cX1_tailPrice 9 = .ok (.iload 6, 2) := by decide +kernel
theorem dX1_tailPrice_11 : decode cX1_tailPrice 11 = .ok (.iload_n 3, 1) := by decide +kernel
theorem dX1_tailPrice_12 : decode cX1_tailPrice 12 = .ok (.if_icmp .ge 39, 3) := by decide +kernel
theorem dX1_tailPrice_15 : decode cX1_tailPrice 15 = .ok (.aload_n 0, 1) := by decide +kernel
theorem dX1_tailPrice_16 : decode cX1_tailPrice 16 = .ok (.iload 5, 2) := by decide +kernel
theorem dX1_tailPrice_18 : decode cX1_tailPrice 18 = .ok (.invokevirtual 52, 3) := by decide +kernel
theorem dX1_tailPrice_21 : decode cX1_tailPrice 21 = .ok (.istore 7, 2) := by decide +kernel
theorem dX1_tailPrice_23 : decode cX1_tailPrice 23 = .ok (.iload 4, 2) := by decide +kernel
theorem dX1_tailPrice_25 : decode cX1_tailPrice 25 = .ok (.aload_n 0, 1) := by decide +kernel
theorem dX1_tailPrice_26 : decode cX1_tailPrice 26 = .ok (.iload 6, 2) := by decide +kernel
theorem dX1_tailPrice_28 : decode cX1_tailPrice 28 = .ok (.iload 7, 2) := by decide +kernel
theorem dX1_tailPrice_30 : decode cX1_tailPrice 30 = .ok (.invokevirtual 55, 3) := by decide +kernel
theorem dX1_tailPrice_33 : decode cX1_tailPrice 33 = .ok (.iadd, 1) := by decide +kernel
theorem dX1_tailPrice_34 : decode cX1_tailPrice 34 = .ok (.istore 4, 2) := by decide +kernel
theorem dX1_tailPrice_36 : decode cX1_tailPrice 36 = .ok (.aload_n 0, 1) := by decide +kernel
theorem dX1_tailPrice_37 : decode cX1_tailPrice 37 = .ok (.getfield 9, 3) := by decide +kernel
theorem dX1_tailPrice_40 : decode cX1_tailPrice 40 = .ok (.iload 7, 2) := by decide +kernel
theorem dX1_tailPrice_42 : decode cX1_tailPrice 42 = .ok (.iaload, 1) := by decide +kernel
theorem dX1_tailPrice_43 : decode cX1_tailPrice 43 = .ok (.istore 5, 2) := by decide +kernel
theorem dX1_tailPrice_45 : decode cX1_tailPrice 45 = .ok (.iinc 6 1, 3) := by decide +kernel
theorem dX1_tailPrice_48 : decode cX1_tailPrice 48 = .ok (.goto (-39), 3) := by decide +kernel
theorem dX1_tailPrice_51 : decode cX1_tailPrice 51 = .ok (.iload 4, 2) := by decide +kernel
theorem dX1_tailPrice_53 : decode cX1_tailPrice 53 = .ok (.ireturn, 1) := by decide +kernel
theorem dX1_tailEdge_0 : decode cX1_tailEdge 0 = .ok (.aload_n 0, 1) := by decide +kernel
theorem dX1_tailEdge_1 : decode cX1_tailEdge 1 = .ok (.getfield 9, 3) := by decide +kernel
theorem dX1_tailEdge_4 : decode cX1_tailEdge 4 = .ok (.iconst 2, 1) := by decide +kernel
theorem dX1_tailEdge_5 : decode cX1_tailEdge 5 = .ok (.iload_n 1, 1) := by decide +kernel
theorem dX1_tailEdge_6 : decode cX1_tailEdge 6 = .ok (.imul, 1) := by decide +kernel
theorem dX1_tailEdge_7 : decode cX1_tailEdge 7 = .ok (.iaload, 1) := by decide +kernel
theorem dX1_tailEdge_8 : decode cX1_tailEdge 8 = .ok (.iconst 1, 1) := by decide +kernel
theorem dX1_tailEdge_9 : decode cX1_tailEdge 9 = .ok (.iand, 1) := by decide +kernel
theorem dX1_tailEdge_10 : decode cX1_tailEdge 10 = .ok (.ifCond .ne 9, 3) := by decide +kernel
theorem dX1_tailEdge_13 : decode cX1_tailEdge 13 = .ok (.iconst 2, 1) := by decide +kernel
theorem dX1_tailEdge_14 : decode cX1_tailEdge 14 = .ok (.iload_n 1, 1) := by decide +kernel
theorem dX1_tailEdge_15 : decode cX1_tailEdge 15 = .ok (.imul, 1) := by decide +kernel
theorem dX1_tailEdge_16 : decode cX1_tailEdge 16 = .ok (.goto 8, 3) := by decide +kernel
theorem dX1_tailEdge_19 : decode cX1_tailEdge 19 = .ok (.iconst 2, 1) := by decide +kernel
theorem dX1_tailEdge_20 : decode cX1_tailEdge 20 = .ok (.iload_n 1, 1) := by decide +kernel
theorem dX1_tailEdge_21 : decode cX1_tailEdge 21 = .ok (.imul, 1) := by decide +kernel
theorem dX1_tailEdge_22 : decode cX1_tailEdge 22 = .ok (.iconst 1, 1) := by decide +kernel
theorem dX1_tailEdge_23 : decode cX1_tailEdge 23 = .ok (.iadd, 1) := by decide +kernel
theorem dX1_tailEdge_24 : decode cX1_tailEdge 24 = .ok (.ireturn, 1) := by decide +kernel
theorem dX10_init_0 : decode cX10_init 0 = .ok (.aload_n 0, 1) := by decide +kernel
theorem dX10_init_1 : decode cX10_init 1 = .ok (.invokespecial 3, 3) := by decide +kernel
theorem dX10_init_4 : decode cX10_init 4 = .ok (.aload_n 0, 1) := by decide +kernel
theorem dX10_init_5 : decode cX10_init 5 = .ok (.bipush 9, 2) := by decide +kernel
theorem dX10_init_7 : decode cX10_init 7 = .ok (.anewarray 9, 3) := by decide +kernel
theorem dX10_init_10 : decode cX10_init 10 = .ok (.putfield 11, 3) := by decide +kernel
theorem dX10_init_13 : decode cX10_init 13 = .ok (.aload_n 0, 1) := by decide +kernel
theorem dX10_init_14 : decode cX10_init 14 = .ok (.iconst 0, 1) := by decide +kernel
theorem dX10_init_15 : decode cX10_init 15 = .ok (.putfield 17, 3) := by decide +kernel
theorem dX10_init_18 : decode cX10_init 18 = .ok (.aload_n 0, 1) := by decide +kernel
theorem dX10_init_19 : decode cX10_init 19 = .ok (.iconst 0, 1) := by decide +kernel
theorem dX10_init_20 : decode cX10_init 20 = .ok (.putfield 21, 3) := by decide +kernel
theorem dX10_init_23 : decode cX10_init 23 = .ok (.iconst 0, 1) := by decide +kernel
theorem dX10_init_24 : decode cX10_init 24 = .ok (.istore_n 1, 1) := by decide +kernel
theorem dX10_init_25 : decode cX10_init 25 = .ok (.iload_n 1, 1) := by decide +kernel
theorem dX10_init_26 : decode cX10_init 26 = .ok (.bipush 8, 2) := by decide +kernel
theorem dX10_init_28 : decode cX10_init 28 = .ok (.if_icmp .gt 22, 3) := by decide +kernel
theorem dX10_init_31 : decode cX10_init 31 = .ok (.aload_n 0, 1) := by decide +kernel
theorem dX10_init_32 : decode cX10_init 32 = .ok (.getfield 11, 3) := by decide +kernel
theorem dX10_init_35 : decode cX10_init 35 = .ok (.iload_n 1, 1) := by decide +kernel
theorem dX10_init_36 : decode cX10_init 36 = .ok (.new 9, 3) := by decide +kernel
theorem dX10_init_39 : decode cX10_init 39 = .ok (.dup, 1) := by decide +kernel
theorem dX10_init_40 : decode cX10_init 40 = .ok (.invokespecial 24, 3) := by decide +kernel
theorem dX10_init_43 : decode cX10_init 43 = .ok (.aastore, 1) := by decide +kernel
theorem dX10_init_44 : decode cX10_init 44 = .ok (.iinc 1 1, 3) := by decide +kernel
theorem dX10_init_47 : decode cX10_init 47 = .ok (.goto (-22), 3) := by decide +kernel
theorem dX10_init_50 : decode cX10_init 50 = .ok (.return_, 1) := by decide +kernel
theorem dX10_count_0 : decode cX10_count 0 = .ok (.aload_n 0, 1) := by decide +kernel
theorem dX10_count_1 : decode cX10_count 1 = .ok (.getfield 17, 3) := by decide +kernel
theorem dX10_count_4 : decode cX10_count 4 = .ok (.ireturn, 1) := by decide +kernel
theorem dX10_wayAt_0 : decode cX10_wayAt 0 = .ok (.aload_n 0, 1) := by decide +kernel
theorem dX10_wayAt_1 : decode cX10_wayAt 1 = .ok (.getfield 11, 3) := by decide +kernel
theorem dX10_wayAt_4 : decode cX10_wayAt 4 = .ok (.iload_n 1, 1) := by decide +kernel
theorem dX10_wayAt_5 : decode cX10_wayAt 5 = .ok (.aaload, 1) := by decide +kernel
theorem dX10_wayAt_6 : decode cX10_wayAt 6 = .ok (.areturn, 1) := by decide +kernel
theorem dX10_open_0 : decode cX10_open 0 = .ok (.aload_n 0, 1) := by decide +kernel
theorem dX10_open_1 : decode cX10_open 1 = .ok (.iconst 0, 1) := by decide +kernel
theorem dX10_open_2 : decode cX10_open 2 = .ok (.putfield 17, 3) := by decide +kernel
theorem dX10_open_5 : decode cX10_open 5 = .ok (.aload_n 0, 1) := by decide +kernel
theorem dX10_open_6 : decode cX10_open 6 = .ok (.iload_n 1, 1) := by decide +kernel
theorem dX10_open_7 : decode cX10_open 7 = .ok (.putfield 21, 3) := by decide +kernel
theorem dX10_open_10 : decode cX10_open 10 = .ok (.return_, 1) := by decide +kernel
theorem dX10_offered_0 : decode cX10_offered 0 = .ok (.aload_n 0, 1) := by decide +kernel
theorem dX10_offered_1 : decode cX10_offered 1 = .ok (.getfield 11, 3) := by decide +kernel
theorem dX10_offered_4 : decode cX10_offered 4 = .ok (.aload_n 0, 1) := by decide +kernel
theorem dX10_offered_5 : decode cX10_offered 5 = .ok (.getfield 17, 3) := by decide +kernel
theorem dX10_offered_8 : decode cX10_offered 8 = .ok (.aaload, 1) := by decide +kernel
theorem dX10_offered_9 : decode cX10_offered 9 = .ok (.areturn, 1) := by decide +kernel
theorem dX10_wouldKeepOffered_0 : decode cX10_wouldKeepOffered 0 = .ok (.aload_n 0, 1) := by decide +kernel
theorem dX10_wouldKeepOffered_1 : decode cX10_wouldKeepOffered 1 = .ok (.getfield 17, 3) := by decide +kernel
theorem dX10_wouldKeepOffered_4 : decode cX10_wouldKeepOffered 4 = .ok (.aload_n 0, 1) := by decide +kernel
theorem dX10_wouldKeepOffered_5 : decode cX10_wouldKeepOffered 5 = .ok (.getfield 21, 3) := by decide +kernel
theorem dX10_wouldKeepOffered_8 : decode cX10_wouldKeepOffered 8 = .ok (.if_icmp .lt 36, 3) := by decide +kernel
theorem dX10_wouldKeepOffered_11 : decode cX10_wouldKeepOffered 11 = .ok (.aload_n 0, 1) := by decide +kernel
theorem dX10_wouldKeepOffered_12 : decode cX10_wouldKeepOffered 12 = .ok (.getfield 17, 3) := by decide +kernel
theorem dX10_wouldKeepOffered_15 : decode cX10_wouldKeepOffered 15 = .ok (.ifCond .le 33, 3) := by decide +kernel
theorem dX10_wouldKeepOffered_18 : decode cX10_wouldKeepOffered 18 = .ok (.aload_n 0, 1) := by decide +kernel
theorem dX10_wouldKeepOffered_19 : decode cX10_wouldKeepOffered 19 = .ok (.getfield 11, 3) := by decide +kernel
theorem dX10_wouldKeepOffered_22 : decode cX10_wouldKeepOffered 22 = .ok (.aload_n 0, 1) := by decide +kernel
theorem dX10_wouldKeepOffered_23 : decode cX10_wouldKeepOffered 23 = .ok (.getfield 17, 3) := by decide +kernel
theorem dX10_wouldKeepOffered_26 : decode cX10_wouldKeepOffered 26 = .ok (.aaload, 1) := by decide +kernel
theorem dX10_wouldKeepOffered_27 : decode cX10_wouldKeepOffered 27 = .ok (.aload_n 0, 1) := by decide +kernel
theorem dX10_wouldKeepOffered_28 : decode cX10_wouldKeepOffered 28 = .ok (.getfield 11, 3) := by decide +kernel
theorem dX10_wouldKeepOffered_31 : decode cX10_wouldKeepOffered 31 = .ok (.aload_n 0, 1) := by decide +kernel
theorem dX10_wouldKeepOffered_32 : decode cX10_wouldKeepOffered 32 = .ok (.getfield 17, 3) := by decide +kernel
theorem dX10_wouldKeepOffered_35 : decode cX10_wouldKeepOffered 35 = .ok (.iconst 1, 1) := by decide +kernel
theorem dX10_wouldKeepOffered_36 : decode cX10_wouldKeepOffered 36 = .ok (.isub, 1) := by decide +kernel
theorem dX10_wouldKeepOffered_37 : decode cX10_wouldKeepOffered 37 = .ok (.aaload, 1) := by decide +kernel
theorem dX10_wouldKeepOffered_38 : decode cX10_wouldKeepOffered 38 = .ok (.invokevirtual 25, 3) := by decide +kernel
theorem dX10_wouldKeepOffered_41 : decode cX10_wouldKeepOffered 41 = .ok (.ifCond .eq 7, 3) := by decide +kernel
theorem dX10_wouldKeepOffered_44 : decode cX10_wouldKeepOffered 44 = .ok (.iconst 1, 1) := by decide +kernel
theorem dX10_wouldKeepOffered_45 : decode cX10_wouldKeepOffered 45 = .ok (.goto 4, 3) := by decide +kernel
theorem dX10_wouldKeepOffered_48 : decode cX10_wouldKeepOffered 48 = .ok (.iconst 0, 1) := by decide +kernel
theorem dX10_wouldKeepOffered_49 : decode cX10_wouldKeepOffered 49 = .ok (.ireturn, 1) := by decide +kernel
theorem dX10_settle_0 : decode cX10_settle 0 = .ok (.aload_n 0, 1) := by decide +kernel
theorem dX10_settle_1 : decode cX10_settle 1 = .ok (.getfield 17, 3) := by decide +kernel
theorem dX10_settle_4 : decode cX10_settle 4 = .ok (.istore_n 1, 1) := by decide +kernel
theorem dX10_settle_5 : decode cX10_settle 5 = .ok (.iload_n 1, 1) := by decide +kernel
theorem dX10_settle_6 : decode cX10_settle 6 = .ok (.ifCond .le 59, 3) := by decide +kernel
theorem dX10_settle_9 : decode cX10_settle 9 = .ok (.aload_n 0, 1) := by decide +kernel
theorem dX10_settle_10 : decode cX10_settle 10 = .ok (.getfield 11, 3) := by decide +kernel
theorem dX10_settle_13 : decode cX10_settle 13 = .ok (.iload_n 1, 1) := by decide +kernel
theorem dX10_settle_14 : decode cX10_settle 14 = .ok (.aaload, 1) := by decide +kernel
theorem dX10_settle_15 : decode cX10_settle 15 = .ok (.aload_n 0, 1) := by decide +kernel
theorem dX10_settle_16 : decode cX10_settle 16 = .ok (.getfield 11, 3) := by decide +kernel
theorem dX10_settle_19 : decode cX10_settle 19 = .ok (.iload_n 1, 1) := by decide +kernel
theorem dX10_settle_20 : decode cX10_settle 20 = .ok (.iconst 1, 1) := by decide +kernel
theorem dX10_settle_21 : decode cX10_settle 21 = .ok (.isub, 1) := by decide +kernel
theorem dX10_settle_22 : decode cX10_settle 22 = .ok (.aaload, 1) := by decide +kernel
theorem dX10_settle_23 : decode cX10_settle 23 = .ok (.invokevirtual 25, 3) := by decide +kernel
theorem dX10_settle_26 : decode cX10_settle 26 = .ok (.ifCond .eq 39, 3) := by decide +kernel
theorem dX10_settle_29 : decode cX10_settle 29 = .ok (.aload_n 0, 1) := by decide +kernel
theorem dX10_settle_30 : decode cX10_settle 30 = .ok (.getfield 11, 3) := by decide +kernel
theorem dX10_settle_33 : decode cX10_settle 33 = .ok (.iload_n 1, 1) := by decide +kernel
theorem dX10_settle_34 : decode cX10_settle 34 = .ok (.aaload, 1) := by decide +kernel
theorem dX10_settle_35 : decode cX10_settle 35 = .ok (.astore_n 2, 1) := by decide +kernel
theorem dX10_settle_36 : decode cX10_settle 36 = .ok (.aload_n 0, 1) := by decide +kernel
theorem dX10_settle_37 : decode cX10_settle 37 = .ok (.getfield 11, 3) := by decide +kernel
theorem dX10_settle_40 : decode cX10_settle 40 = .ok (.iload_n 1, 1) := by decide +kernel
theorem dX10_settle_41 : decode cX10_settle 41 = .ok (.aload_n 0, 1) := by decide +kernel
theorem dX10_settle_42 : decode cX10_settle 42 = .ok (.getfield 11, 3) := by decide +kernel
theorem dX10_settle_45 : decode cX10_settle 45 = .ok (.iload_n 1, 1) := by decide +kernel
theorem dX10_settle_46 : decode cX10_settle 46 = .ok (.iconst 1, 1) := by decide +kernel
theorem dX10_settle_47 : decode cX10_settle 47 = .ok (.isub, 1) := by decide +kernel
theorem dX10_settle_48 : decode cX10_settle 48 = .ok (.aaload, 1) := by decide +kernel
theorem dX10_settle_49 : decode cX10_settle 49 = .ok (.aastore, 1) := by decide +kernel
theorem dX10_settle_50 : decode cX10_settle 50 = .ok (.aload_n 0, 1) := by decide +kernel
theorem dX10_settle_51 : decode cX10_settle 51 = .ok (.getfield 11, 3) := by decide +kernel
theorem dX10_settle_54 : decode cX10_settle 54 = .ok (.iload_n 1, 1) := by decide +kernel
theorem dX10_settle_55 : decode cX10_settle 55 = .ok (.iconst 1, 1) := by decide +kernel
theorem dX10_settle_56 : decode cX10_settle 56 = .ok (.isub, 1) := by decide +kernel
theorem dX10_settle_57 : decode cX10_settle 57 = .ok (.aload_n 2, 1) := by decide +kernel
theorem dX10_settle_58 : decode cX10_settle 58 = .ok (.aastore, 1) := by decide +kernel
theorem dX10_settle_59 : decode cX10_settle 59 = .ok (.iinc 1 (-1), 3) := by decide +kernel
theorem dX10_settle_62 : decode cX10_settle 62 = .ok (.goto (-57), 3) := by decide +kernel
theorem dX10_settle_65 : decode cX10_settle 65 = .ok (.aload_n 0, 1) := by decide +kernel
theorem dX10_settle_66 : decode cX10_settle 66 = .ok (.getfield 17, 3) := by decide +kernel
theorem dX10_settle_69 : decode cX10_settle 69 = .ok (.aload_n 0, 1) := by decide +kernel
theorem dX10_settle_70 : decode cX10_settle 70 = .ok (.getfield 21, 3) := by decide +kernel
theorem dX10_settle_73 : decode cX10_settle 73 = .ok (.if_icmp .ge 13, 3) := by decide +kernel
theorem dX10_settle_76 : decode cX10_settle 76 = .ok (.aload_n 0, 1) := by decide +kernel
theorem dX10_settle_77 : decode cX10_settle 77 = .ok (.dup, 1) := by decide +kernel
theorem dX10_settle_78 : decode cX10_settle 78 = .ok (.getfield 17, 3) := by decide +kernel
theorem dX10_settle_81 : decode cX10_settle 81 = .ok (.iconst 1, 1) := by decide +kernel
theorem dX10_settle_82 : decode cX10_settle 82 = .ok (.iadd, 1) := by decide +kernel
theorem dX10_settle_83 : decode cX10_settle 83 = .ok (.putfield 17, 3) := by decide +kernel
theorem dX10_settle_86 : decode cX10_settle 86 = .ok (.iload_n 1, 1) := by decide +kernel
theorem dX10_settle_87 : decode cX10_settle 87 = .ok (.aload_n 0, 1) := by decide +kernel
theorem dX10_settle_88 : decode cX10_settle 88 = .ok (.getfield 21, 3) := by decide +kernel
theorem dX10_settle_91 : decode cX10_settle 91 = .ok (.if_icmp .ge 7, 3) := by decide +kernel
theorem dX10_settle_94 : decode cX10_settle 94 = .ok (.iconst 1, 1) := by decide +kernel
theorem dX10_settle_95 : decode cX10_settle 95 = .ok (.goto 4, 3) := by decide +kernel
theorem dX10_settle_98 : decode cX10_settle 98 = .ok (.iconst 0, 1) := by decide +kernel
theorem dX10_settle_99 : decode cX10_settle 99 = .ok (.ireturn, 1) := by decide +kernel
theorem dX11_init_0 : decode cX11_init 0 = .ok (.aload_n 0, 1) := by decide +kernel
theorem dX11_init_1 : decode cX11_init 1 = .ok (.invokespecial 3, 3) := by decide +kernel
theorem dX11_init_4 : decode cX11_init 4 = .ok (.aload_n 0, 1) := by decide +kernel
theorem dX11_init_5 : decode cX11_init 5 = .ok (.bipush 16, 2) := by decide +kernel
theorem dX11_init_7 : decode cX11_init 7 = .ok (.anewarray 9, 3) := by decide +kernel
theorem dX11_init_10 : decode cX11_init 10 = .ok (.putfield 11, 3) := by decide +kernel
theorem dX11_init_13 : decode cX11_init 13 = .ok (.aload_n 0, 1) := by decide +kernel
theorem dX11_init_14 : decode cX11_init 14 = .ok (.bipush 12, 2) := by decide +kernel
theorem dX11_init_16 : decode cX11_init 16 = .ok (.anewarray 15, 3) := by decide +kernel
theorem dX11_init_19 : decode cX11_init 19 = .ok (.putfield 17, 3) := by decide +kernel
theorem dX11_init_22 : decode cX11_init 22 = .ok (.aload_n 0, 1) := by decide +kernel
theorem dX11_init_23 : decode cX11_init 23 = .ok (.iconst 0, 1) := by decide +kernel
theorem dX11_init_24 : decode cX11_init 24 = .ok (.putfield 21, 3) := by decide +kernel
theorem dX11_init_27 : decode cX11_init 27 = .ok (.aload_n 0, 1) := by decide +kernel
theorem dX11_init_28 : decode cX11_init 28 = .ok (.new 25, 3) := by decide +kernel
theorem dX11_init_31 : decode cX11_init 31 = .ok (.dup, 1) := by decide +kernel
theorem dX11_init_32 : decode cX11_init 32 = .ok (.invokespecial 27, 3) := by decide +kernel
theorem dX11_init_35 : decode cX11_init 35 = .ok (.putfield 28, 3) := by decide +kernel
theorem dX11_init_38 : decode cX11_init 38 = .ok (.aload_n 0, 1) := by decide +kernel
theorem dX11_init_39 : decode cX11_init 39 = .ok (.new 32, 3) := by decide +kernel
theorem dX11_init_42 : decode cX11_init 42 = .ok (.dup, 1) := by decide +kernel
theorem dX11_init_43 : decode cX11_init 43 = .ok (.invokespecial 34, 3) := by decide +kernel
theorem dX11_init_46 : decode cX11_init 46 = .ok (.putfield 35, 3) := by decide +kernel
theorem dX11_init_49 : decode cX11_init 49 = .ok (.aload_n 0, 1) := by decide +kernel
theorem dX11_init_50 : decode cX11_init 50 = .ok (.new 39, 3) := by decide +kernel
theorem dX11_init_53 : decode cX11_init 53 = .ok (.dup, 1) := by decide +kernel
theorem dX11_init_54 : decode cX11_init 54 = .ok (.invokespecial 41, 3) := by decide +kernel
theorem dX11_init_57 : decode cX11_init 57 = .ok (.putfield 42, 3) := by decide +kernel
theorem dX11_init_60 : decode cX11_init 60 = .ok (.aload_n 0, 1) := by decide +kernel
theorem dX11_init_61 : decode cX11_init 61 = .ok (.new 46, 3) := by decide +kernel
theorem dX11_init_64 : decode cX11_init 64 = .ok (.dup, 1) := by decide +kernel
theorem dX11_init_65 : decode cX11_init 65 = .ok (.invokespecial 48, 3) := by decide +kernel
theorem dX11_init_68 : decode cX11_init 68 = .ok (.putfield 49, 3) := by decide +kernel
theorem dX11_init_71 : decode cX11_init 71 = .ok (.aload_n 0, 1) := by decide +kernel
theorem dX11_init_72 : decode cX11_init 72 = .ok (.new 53, 3) := by decide +kernel
theorem dX11_init_75 : decode cX11_init 75 = .ok (.dup, 1) := by decide +kernel
theorem dX11_init_76 : decode cX11_init 76 = .ok (.aload_n 0, 1) := by decide +kernel
theorem dX11_init_77 : decode cX11_init 77 = .ok (.getfield 42, 3) := by decide +kernel
theorem dX11_init_80 : decode cX11_init 80 = .ok (.aload_n 0, 1) := by decide +kernel
theorem dX11_init_81 : decode cX11_init 81 = .ok (.getfield 49, 3) := by decide +kernel
theorem dX11_init_84 : decode cX11_init 84 = .ok (.invokespecial 55, 3) := by decide +kernel
theorem dX11_init_87 : decode cX11_init 87 = .ok (.putfield 58, 3) := by decide +kernel
theorem dX11_init_90 : decode cX11_init 90 = .ok (.aload_n 0, 1) := by decide +kernel
theorem dX11_init_91 : decode cX11_init 91 = .ok (.new 62, 3) := by decide +kernel
theorem dX11_init_94 : decode cX11_init 94 = .ok (.dup, 1) := by decide +kernel
theorem dX11_init_95 : decode cX11_init 95 = .ok (.aload_n 0, 1) := by decide +kernel
theorem dX11_init_96 : decode cX11_init 96 = .ok (.getfield 42, 3) := by decide +kernel
theorem dX11_init_99 : decode cX11_init 99 = .ok (.invokespecial 64, 3) := by decide +kernel
theorem dX11_init_102 : decode cX11_init 102 = .ok (.putfield 67, 3) := by decide +kernel
theorem dX11_init_105 : decode cX11_init 105 = .ok (.aload_n 0, 1) := by decide +kernel
theorem dX11_init_106 : decode cX11_init 106 = .ok (.new 71, 3) := by decide +kernel
theorem dX11_init_109 : decode cX11_init 109 = .ok (.dup, 1) := by decide +kernel
theorem dX11_init_110 : decode cX11_init 110 = .ok (.aload_n 0, 1) := by decide +kernel
theorem dX11_init_111 : decode cX11_init 111 = .ok (.getfield 35, 3) := by decide +kernel
theorem dX11_init_114 : decode cX11_init 114 = .ok (.aload_n 0, 1) := by decide +kernel
theorem dX11_init_115 : decode cX11_init 115 = .ok (.getfield 42, 3) := by decide +kernel
theorem dX11_init_118 : decode cX11_init 118 = .ok (.aload_n 0, 1) := by decide +kernel
theorem dX11_init_119 : decode cX11_init 119 = .ok (.getfield 67, 3) := by decide +kernel
theorem dX11_init_122 : decode cX11_init 122 = .ok (.invokespecial 73, 3) := by decide +kernel
theorem dX11_init_125 : decode cX11_init 125 = .ok (.putfield 76, 3) := by decide +kernel
theorem dX11_init_128 : decode cX11_init 128 = .ok (.aload_n 0, 1) := by decide +kernel
theorem dX11_init_129 : decode cX11_init 129 = .ok (.new 80, 3) := by decide +kernel
theorem dX11_init_132 : decode cX11_init 132 = .ok (.dup, 1) := by decide +kernel
theorem dX11_init_133 : decode cX11_init 133 = .ok (.aload_n 0, 1) := by decide +kernel
theorem dX11_init_134 : decode cX11_init 134 = .ok (.getfield 42, 3) := by decide +kernel
theorem dX11_init_137 : decode cX11_init 137 = .ok (.invokespecial 82, 3) := by decide +kernel
theorem dX11_init_140 : decode cX11_init 140 = .ok (.putfield 83, 3) := by decide +kernel
theorem dX11_init_143 : decode cX11_init 143 = .ok (.aload_n 0, 1) := by decide +kernel
theorem dX11_init_144 : decode cX11_init 144 = .ok (.sipush 200, 3) := by decide +kernel
theorem dX11_init_147 : decode cX11_init 147 = .ok (.newarray .int, 2) := by decide +kernel
theorem dX11_init_149 : decode cX11_init 149 = .ok (.putfield 87, 3) := by decide +kernel
theorem dX11_init_152 : decode cX11_init 152 = .ok (.aload_n 0, 1) := by decide +kernel
theorem dX11_init_153 : decode cX11_init 153 = .ok (.iconst 0, 1) := by decide +kernel
theorem dX11_init_154 : decode cX11_init 154 = .ok (.putfield 91, 3) := by decide +kernel
theorem dX11_init_157 : decode cX11_init 157 = .ok (.aload_n 0, 1) := by decide +kernel
theorem dX11_init_158 : decode cX11_init 158 = .ok (.iconst 0, 1) := by decide +kernel
theorem dX11_init_159 : decode cX11_init 159 = .ok (.putfield 94, 3) := by decide +kernel
theorem dX11_init_162 : decode cX11_init 162 = .ok (.iconst 0, 1) := by decide +kernel
theorem dX11_init_163 : decode cX11_init 163 = .ok (.istore_n 1, 1) := by decide +kernel
theorem dX11_init_164 : decode cX11_init 164 = .ok (.iload_n 1, 1) := by decide +kernel
theorem dX11_init_165 : decode cX11_init 165 = .ok (.bipush 16, 2) := by decide +kernel
theorem dX11_init_167 : decode cX11_init 167 = .ok (.if_icmp .ge 22, 3) := by decide +kernel
theorem dX11_init_170 : decode cX11_init 170 = .ok (.aload_n 0, 1) := by decide +kernel
theorem dX11_init_171 : decode cX11_init 171 = .ok (.getfield 11, 3) := by decide +kernel
theorem dX11_init_174 : decode cX11_init 174 = .ok (.iload_n 1, 1) := by decide +kernel
theorem dX11_init_175 : decode cX11_init 175 = .ok (.new 9, 3) := by decide +kernel
theorem dX11_init_178 : decode cX11_init 178 = .ok (.dup, 1) := by decide +kernel
theorem dX11_init_179 : decode cX11_init 179 = .ok (.invokespecial 98, 3) := by decide +kernel
theorem dX11_init_182 : decode cX11_init 182 = .ok (.aastore, 1) := by decide +kernel
theorem dX11_init_183 : decode cX11_init 183 = .ok (.iinc 1 1, 3) := by decide +kernel
theorem dX11_init_186 : decode cX11_init 186 = .ok (.goto (-22), 3) := by decide +kernel
theorem dX11_init_189 : decode cX11_init 189 = .ok (.return_, 1) := by decide +kernel
theorem dX11_row_0 : decode cX11_row 0 = .ok (.aload_n 0, 1) := by decide +kernel
theorem dX11_row_1 : decode cX11_row 1 = .ok (.iload_n 1, 1) := by decide +kernel
theorem dX11_row_2 : decode cX11_row 2 = .ok (.invokevirtual 99, 3) := by decide +kernel
theorem dX11_row_5 : decode cX11_row 5 = .ok (.astore_n 3, 1) := by decide +kernel
theorem dX11_row_6 : decode cX11_row 6 = .ok (.iload_n 2, 1) := by decide +kernel
theorem dX11_row_7 : decode cX11_row 7 = .ok (.ifCond .lt 10, 3) := by decide +kernel
theorem dX11_row_10 : decode cX11_row 10 = .ok (.iload_n 2, 1) := by decide +kernel
theorem dX11_row_11 : decode cX11_row 11 = .ok (.sipush 600, 3) := by decide +kernel
theorem dX11_row_14 : decode cX11_row 14 = .ok (.if_icmp .le 13, 3) := by decide +kernel
theorem dX11_row_17 : decode cX11_row 17 = .ok (.new 103, 3) := by decide +kernel
theorem dX11_row_20 : decode cX11_row 20 = .ok (.dup, 1) := by decide +kernel
theorem dX11_row_21 : decode cX11_row 21 = .ok (.ldc 105, 2) := by decide +kernel
theorem dX11_row_23 : decode cX11_row 23 = .ok (.invokespecial 107, 3) := by decide +kernel
theorem dX11_row_26 : decode cX11_row 26 = .ok (.athrow, 1) := by decide +kernel
theorem dX11_row_27 : decode cX11_row 27 = .ok (.aload_n 3, 1) := by decide +kernel
theorem dX11_row_28 : decode cX11_row 28 = .ok (.invokevirtual 110, 3) := by decide +kernel
theorem dX11_row_31 : decode cX11_row 31 = .ok (.istore 4, 2) := by decide +kernel
theorem dX11_row_33 : decode cX11_row 33 = .ok (.aload_n 3, 1) := by decide +kernel
theorem dX11_row_34 : decode cX11_row 34 = .ok (.iload_n 2, 1) := by decide +kernel
theorem dX11_row_35 : decode cX11_row 35 = .ok (.invokevirtual 114, 3) := by decide +kernel
theorem dX11_row_38 : decode cX11_row 38 = .ok (.iload 4, 2) := by decide +kernel
theorem dX11_row_40 : decode cX11_row 40 = .ok (.ireturn, 1) := by decide +kernel
theorem dX11_put_0 : decode cX11_put 0 = .ok (.iload_n 3, 1) := by decide +kernel
theorem dX11_put_1 : decode cX11_put 1 = .ok (.bipush (-32), 2) := by decide +kernel
theorem dX11_put_3 : decode cX11_put 3 = .ok (.if_icmp .lt 9, 3) := by decide +kernel
theorem dX11_put_6 : decode cX11_put 6 = .ok (.iload_n 3, 1) := by decide +kernel
theorem dX11_put_7 : decode cX11_put 7 = .ok (.bipush 31, 2) := by decide +kernel
theorem dX11_put_9 : decode cX11_put 9 = .ok (.if_icmp .le 13, 3) := by decide +kernel
theorem dX11_put_12 : decode cX11_put 12 = .ok (.new 103, 3) := by decide +kernel
theorem dX11_put_15 : decode cX11_put 15 = .ok (.dup, 1) := by decide +kernel
theorem dX11_put_16 : decode cX11_put 16 = .ok (.ldc 118, 2) := by decide +kernel
theorem dX11_put_18 : decode cX11_put 18 = .ok (.invokespecial 107, 3) := by decide +kernel
theorem dX11_put_21 : decode cX11_put 21 = .ok (.athrow, 1) := by decide +kernel
theorem dX11_put_22 : decode cX11_put 22 = .ok (.aload_n 0, 1) := by decide +kernel
theorem dX11_put_23 : decode cX11_put 23 = .ok (.iload_n 1, 1) := by decide +kernel
theorem dX11_put_24 : decode cX11_put 24 = .ok (.iload_n 2, 1) := by decide +kernel
theorem dX11_put_25 : decode cX11_put 25 = .ok (.invokevirtual 120, 3) := by decide +kernel
theorem dX11_put_28 : decode cX11_put 28 = .ok (.astore 4, 2) := by decide +kernel
theorem dX11_put_30 : decode cX11_put 30 = .ok (.aload 4, 2) := by decide +kernel
theorem dX11_put_32 : decode cX11_put 32 = .ok (.iload_n 2, 1) := by decide +kernel
theorem dX11_put_33 : decode cX11_put 33 = .ok (.invokevirtual 124, 3) := by decide +kernel
theorem dX11_put_36 : decode cX11_put 36 = .ok (.istore 5, 2) := by decide +kernel
theorem dX11_put_38 : decode cX11_put 38 = .ok (.aload 4, 2) := by decide +kernel
theorem dX11_put_40 : decode cX11_put 40 = .ok (.iload_n 2, 1) := by decide +kernel
theorem dX11_put_41 : decode cX11_put 41 = .ok (.iload_n 3, 1) := by decide +kernel
theorem dX11_put_42 : decode cX11_put 42 = .ok (.invokevirtual 128, 3) := by decide +kernel
theorem dX11_put_45 : decode cX11_put 45 = .ok (.iload 5, 2) := by decide +kernel
theorem dX11_put_47 : decode cX11_put 47 = .ok (.ireturn, 1) := by decide +kernel
theorem dX11_five_0 : decode cX11_five 0 = .ok (.aload_n 0, 1) := by decide +kernel
theorem dX11_five_1 : decode cX11_five 1 = .ok (.iload_n 1, 1) := by decide +kernel
theorem dX11_five_2 : decode cX11_five 2 = .ok (.invokevirtual 132, 3) := by decide +kernel
theorem dX11_five_5 : decode cX11_five 5 = .ok (.astore 5, 2) := by decide +kernel
theorem dX11_five_7 : decode cX11_five 7 = .ok (.iconst 0, 1) := by decide +kernel
theorem dX11_five_8 : decode cX11_five 8 = .ok (.istore 6, 2) := by decide +kernel
theorem dX11_five_10 : decode cX11_five 10 = .ok (.iconst 0, 1) := by decide +kernel
theorem dX11_five_11 : decode cX11_five 11 = .ok (.istore 7, 2) := by decide +kernel
theorem dX11_five_13 : decode cX11_five 13 = .ok (.iload 7, 2) := by decide +kernel
theorem dX11_five_15 : decode cX11_five 15 = .ok (.iconst 5, 1) := by decide +kernel
theorem dX11_five_16 : decode cX11_five 16 = .ok (.if_icmp .ge 81, 3) := by decide +kernel
theorem dX11_five_19 : decode cX11_five 19 = .ok (.iload_n 2, 1) := by decide +kernel
theorem dX11_five_20 : decode cX11_five 20 = .ok (.i2l, 1) := by decide +kernel
theorem dX11_five_21 : decode cX11_five 21 = .ok (.iload 7, 2) := by decide +kernel
theorem dX11_five_23 : decode cX11_five 23 = .ok (.i2l, 1) := by decide +kernel
theorem dX11_five_24 : decode cX11_five 24 = .ok (.ladd, 1) := by decide +kernel
theorem dX11_five_25 : decode cX11_five 25 = .ok (.lstore 8, 2) := by decide +kernel
theorem dX11_five_27 : decode cX11_five 27 = .ok (.lload 8, 2) := by decide +kernel
theorem dX11_five_29 : decode cX11_five 29 = .ok (.lconst 0, 1) := by decide +kernel
theorem dX11_five_30 : decode cX11_five 30 = .ok (.lcmp, 1) := by decide +kernel
theorem dX11_five_31 : decode cX11_five 31 = .ok (.ifCond .lt 60, 3) := by decide +kernel
theorem dX11_five_34 : decode cX11_five 34 = .ok (.lload 8, 2) := by decide +kernel
theorem dX11_five_36 : decode cX11_five 36 = .ok (.aload 5, 2) := by decide +kernel
theorem dX11_five_38 : decode cX11_five 38 = .ok (.invokevirtual 135, 3) := by decide +kernel
theorem dX11_five_41 : decode cX11_five 41 = .ok (.i2l, 1) := by decide +kernel
theorem dX11_five_42 : decode cX11_five 42 = .ok (.lcmp, 1) := by decide +kernel
theorem dX11_five_43 : decode cX11_five 43 = .ok (.ifCond .ge 48, 3) := by decide +kernel
theorem dX11_five_46 : decode cX11_five 46 = .ok (.iload 7, 2) := by decide +kernel
theorem dX11_five_48 : decode cX11_five 48 = .ok (.iconst 4, 1) := by decide +kernel
theorem dX11_five_49 : decode cX11_five 49 = .ok (.if_icmp .ge 17, 3) := by decide +kernel
theorem dX11_five_52 : decode cX11_five 52 = .ok (.iload_n 3, 1) := by decide +kernel
theorem dX11_five_53 : decode cX11_five 53 = .ok (.bipush 24, 2) := by decide +kernel
theorem dX11_five_55 : decode cX11_five 55 = .ok (.bipush 8, 2) := by decide +kernel
theorem dX11_five_57 : decode cX11_five 57 = .ok (.iload 7, 2) := by decide +kernel
theorem dX11_five_59 : decode cX11_five 59 = .ok (.imul, 1) := by decide +kernel
theorem dX11_five_60 : decode cX11_five 60 = .ok (.isub, 1) := by decide +kernel
theorem dX11_five_61 : decode cX11_five 61 = .ok (.ishr, 1) := by decide +kernel
theorem dX11_five_62 : decode cX11_five 62 = .ok (.i2b, 1) := by decide +kernel
theorem dX11_five_63 : decode cX11_five 63 = .ok (.goto 6, 3) := by decide +kernel
theorem dX11_five_66 : decode cX11_five 66 = .ok (.iload 4, 2) := by decide +kernel
theorem dX11_five_68 : decode cX11_five 68 = .ok (.i2b, 1) := by decide +kernel
theorem dX11_five_69 : decode cX11_five 69 = .ok (.istore 10, 2) := by decide +kernel
theorem dX11_five_71 : decode cX11_five 71 = .ok (.aload 5, 2) := by decide +kernel
theorem dX11_five_73 : decode cX11_five 73 = .ok (.lload 8, 2) := by decide +kernel
theorem dX11_five_75 : decode cX11_five 75 = .ok (.l2i, 1) := by decide +kernel
theorem dX11_five_76 : decode cX11_five 76 = .ok (.iload 10, 2) := by decide +kernel
theorem dX11_five_78 : decode cX11_five 78 = .ok (.bipush (-32), 2) := by decide +kernel
theorem dX11_five_80 : decode cX11_five 80 = .ok (.bipush 31, 2) := by decide +kernel
theorem dX11_five_82 : decode cX11_five 82 = .ok (.invokestatic 139, 3) := by decide +kernel
theorem dX11_five_85 : decode cX11_five 85 = .ok (.invokevirtual 128, 3) := by decide +kernel
theorem dX11_five_88 : decode cX11_five 88 = .ok (.iinc 6 1, 3) := by decide +kernel
theorem dX11_five_91 : decode cX11_five 91 = .ok (.iinc 7 1, 3) := by decide +kernel
theorem dX11_five_94 : decode cX11_five 94 = .ok (.goto (-81), 3) := by decide +kernel
theorem dX11_five_97 : decode cX11_five 97 = .ok (.iload 6, 2) := by decide +kernel
theorem dX11_five_99 : decode cX11_five 99 = .ok (.ireturn, 1) := by decide +kernel
theorem dX11_at_0 : decode cX11_at 0 = .ok (.aload_n 0, 1) := by decide +kernel
theorem dX11_at_1 : decode cX11_at 1 = .ok (.iload_n 1, 1) := by decide +kernel
theorem dX11_at_2 : decode cX11_at 2 = .ok (.iload_n 2, 1) := by decide +kernel
theorem dX11_at_3 : decode cX11_at 3 = .ok (.invokevirtual 120, 3) := by decide +kernel
theorem dX11_at_6 : decode cX11_at 6 = .ok (.iload_n 2, 1) := by decide +kernel
theorem dX11_at_7 : decode cX11_at 7 = .ok (.invokevirtual 124, 3) := by decide +kernel
theorem dX11_at_10 : decode cX11_at 10 = .ok (.ireturn, 1) := by decide +kernel
theorem dX11_tear_0 : decode cX11_tear 0 = .ok (.aload_n 0, 1) := by decide +kernel
theorem dX11_tear_1 : decode cX11_tear 1 = .ok (.iload_n 1, 1) := by decide +kernel
theorem dX11_tear_2 : decode cX11_tear 2 = .ok (.invokevirtual 132, 3) := by decide +kernel
theorem dX11_tear_5 : decode cX11_tear 5 = .ok (.astore_n 3, 1) := by decide +kernel
theorem dX11_tear_6 : decode cX11_tear 6 = .ok (.aload_n 3, 1) := by decide +kernel
theorem dX11_tear_7 : decode cX11_tear 7 = .ok (.invokevirtual 135, 3) := by decide +kernel
theorem dX11_tear_10 : decode cX11_tear 10 = .ok (.istore 4, 2) := by decide +kernel
theorem dX11_tear_12 : decode cX11_tear 12 = .ok (.aload_n 3, 1) := by decide +kernel
theorem dX11_tear_13 : decode cX11_tear 13 = .ok (.iload_n 2, 1) := by decide +kernel
theorem dX11_tear_14 : decode cX11_tear 14 = .ok (.invokevirtual 143, 3) := by decide +kernel
theorem dX11_tear_17 : decode cX11_tear 17 = .ok (.iload 4, 2) := by decide +kernel
theorem dX11_tear_19 : decode cX11_tear 19 = .ok (.ireturn, 1) := by decide +kernel
theorem dX11_noise_0 : decode cX11_noise 0 = .ok (.iload_n 1, 1) := by decide +kernel
theorem dX11_noise_1 : decode cX11_noise 1 = .ok (.bipush (-32), 2) := by decide +kernel
theorem dX11_noise_3 : decode cX11_noise 3 = .ok (.if_icmp .lt 9, 3) := by decide +kernel
theorem dX11_noise_6 : decode cX11_noise 6 = .ok (.iload_n 1, 1) := by decide +kernel
theorem dX11_noise_7 : decode cX11_noise 7 = .ok (.bipush 31, 2) := by decide +kernel
theorem dX11_noise_9 : decode cX11_noise 9 = .ok (.if_icmp .le 13, 3) := by decide +kernel
theorem dX11_noise_12 : decode cX11_noise 12 = .ok (.new 103, 3) := by decide +kernel
theorem dX11_noise_15 : decode cX11_noise 15 = .ok (.dup, 1) := by decide +kernel
theorem dX11_noise_16 : decode cX11_noise 16 = .ok (.ldc 118, 2) := by decide +kernel
theorem dX11_noise_18 : decode cX11_noise 18 = .ok (.invokespecial 107, 3) := by decide +kernel
theorem dX11_noise_21 : decode cX11_noise 21 = .ok (.athrow, 1) := by decide +kernel
theorem dX11_noise_22 : decode cX11_noise 22 = .ok (.iload_n 2, 1) := by decide +kernel
theorem dX11_noise_23 : decode cX11_noise 23 = .ok (.ifCond .lt 21, 3) := by decide +kernel
theorem dX11_noise_26 : decode cX11_noise 26 = .ok (.iload_n 2, 1) := by decide +kernel
theorem dX11_noise_27 : decode cX11_noise 27 = .ok (.sipush 1000, 3) := by decide +kernel
theorem dX11_noise_30 : decode cX11_noise 30 = .ok (.if_icmp .gt 14, 3) := by decide +kernel
theorem dX11_noise_33 : decode cX11_noise 33 = .ok (.iload_n 3, 1) := by decide +kernel
theorem dX11_noise_34 : decode cX11_noise 34 = .ok (.ifCond .lt 10, 3) := by decide +kernel
theorem dX11_noise_37 : decode cX11_noise 37 = .ok (.iload_n 3, 1) := by decide +kernel
theorem dX11_noise_38 : decode cX11_noise 38 = .ok (.sipush 1000, 3) := by decide +kernel
theorem dX11_noise_41 : decode cX11_noise 41 = .ok (.if_icmp .le 13, 3) := by decide +kernel
theorem dX11_noise_44 : decode cX11_noise 44 = .ok (.new 103, 3) := by decide +kernel
theorem dX11_noise_47 : decode cX11_noise 47 = .ok (.dup, 1) := by decide +kernel
theorem dX11_noise_48 : decode cX11_noise 48 = .ok (.ldc 146, 2) := by decide +kernel
theorem dX11_noise_50 : decode cX11_noise 50 = .ok (.invokespecial 107, 3) := by decide +kernel
theorem dX11_noise_53 : decode cX11_noise 53 = .ok (.athrow, 1) := by decide +kernel
theorem dX11_noise_54 : decode cX11_noise 54 = .ok (.aload_n 0, 1) := by decide +kernel
theorem dX11_noise_55 : decode cX11_noise 55 = .ok (.getfield 35, 3) := by decide +kernel
theorem dX11_noise_58 : decode cX11_noise 58 = .ok (.iload_n 1, 1) := by decide +kernel
theorem dX11_noise_59 : decode cX11_noise 59 = .ok (.iload_n 2, 1) := by decide +kernel
theorem dX11_noise_60 : decode cX11_noise 60 = .ok (.iload_n 3, 1) := by decide +kernel
theorem dX11_noise_61 : decode cX11_noise 61 = .ok (.invokevirtual 148, 3) := by decide +kernel
theorem dX11_noise_64 : decode cX11_noise 64 = .ok (.ireturn, 1) := by decide +kernel
theorem dX11_code_0 : decode cX11_code 0 = .ok (.iload_n 1, 1) := by decide +kernel
theorem dX11_code_1 : decode cX11_code 1 = .ok (.ifCond .lt 8, 3) := by decide +kernel
theorem dX11_code_4 : decode cX11_code 4 = .ok (.iload_n 1, 1) := by decide +kernel
theorem dX11_code_5 : decode cX11_code 5 = .ok (.iconst 5, 1) := by decide +kernel
theorem dX11_code_6 : decode cX11_code 6 = .ok (.if_icmp .le 13, 3) := by decide +kernel
theorem dX11_code_9 : decode cX11_code 9 = .ok (.new 103, 3) := by decide +kernel
theorem dX11_code_12 : decode cX11_code 12 = .ok (.dup, 1) := by decide +kernel
theorem dX11_code_13 : decode cX11_code 13 = .ok (.ldc 151, 2) := by decide +kernel
theorem dX11_code_15 : decode cX11_code 15 = .ok (.invokespecial 107, 3) := by decide +kernel
theorem dX11_code_18 : decode cX11_code 18 = .ok (.athrow, 1) := by decide +kernel
theorem dX11_code_19 : decode cX11_code 19 = .ok (.iload_n 2, 1) := by decide +kernel
theorem dX11_code_20 : decode cX11_code 20 = .ok (.iconst 1, 1) := by decide +kernel
theorem dX11_code_21 : decode cX11_code 21 = .ok (.if_icmp .lt 9, 3) := by decide +kernel
theorem dX11_code_24 : decode cX11_code 24 = .ok (.iload_n 2, 1) := by decide +kernel
theorem dX11_code_25 : decode cX11_code 25 = .ok (.bipush 6, 2) := by decide +kernel
theorem dX11_code_27 : decode cX11_code 27 = .ok (.if_icmp .le 13, 3) := by decide +kernel
theorem dX11_code_30 : decode cX11_code 30 = .ok (.new 103, 3) := by decide +kernel
theorem dX11_code_33 : decode cX11_code 33 = .ok (.dup, 1) := by decide +kernel
theorem dX11_code_34 : decode cX11_code 34 = .ok (.ldc 153, 2) := by decide +kernel
theorem dX11_code_36 : decode cX11_code 36 = .ok (.invokespecial 107, 3) := by decide +kernel
theorem dX11_code_39 : decode cX11_code 39 = .ok (.athrow, 1) := by decide +kernel
theorem dX11_code_40 : decode cX11_code 40 = .ok (.iload_n 3, 1) := by decide +kernel
theorem dX11_code_41 : decode cX11_code 41 = .ok (.iconst 2, 1) := by decide +kernel
theorem dX11_code_42 : decode cX11_code 42 = .ok (.if_icmp .lt 8, 3) := by decide +kernel
theorem dX11_code_45 : decode cX11_code 45 = .ok (.iload_n 3, 1) := by decide +kernel
theorem dX11_code_46 : decode cX11_code 46 = .ok (.iconst 4, 1) := by decide +kernel
theorem dX11_code_47 : decode cX11_code 47 = .ok (.if_icmp .le 13, 3) := by decide +kernel
theorem dX11_code_50 : decode cX11_code 50 = .ok (.new 103, 3) := by decide +kernel
theorem dX11_code_53 : decode cX11_code 53 = .ok (.dup, 1) := by decide +kernel
theorem dX11_code_54 : decode cX11_code 54 = .ok (.ldc 155, 2) := by decide +kernel
theorem dX11_code_56 : decode cX11_code 56 = .ok (.invokespecial 107, 3) := by decide +kernel
theorem dX11_code_59 : decode cX11_code 59 = .ok (.athrow, 1) := by decide +kernel
theorem dX11_code_60 : decode cX11_code 60 = .ok (.aload_n 0, 1) := by decide +kernel
theorem dX11_code_61 : decode cX11_code 61 = .ok (.getfield 21, 3) := by decide +kernel
theorem dX11_code_64 : decode cX11_code 64 = .ok (.bipush 12, 2) := by decide +kernel
theorem dX11_code_66 : decode cX11_code 66 = .ok (.if_icmp .lt 5, 3) := by decide +kernel
theorem dX11_code_69 : decode cX11_code 69 = .ok (.iconst (-1), 1) := by decide +kernel
theorem dX11_code_70 : decode cX11_code 70 = .ok (.ireturn, 1) := by decide +kernel
theorem dX11_code_71 : decode cX11_code 71 = .ok (.aload_n 0, 1) := by decide +kernel
theorem dX11_code_72 : decode cX11_code 72 = .ok (.getfield 17, 3) := by decide +kernel
theorem dX11_code_75 : decode cX11_code 75 = .ok (.aload_n 0, 1) := by decide +kernel
theorem dX11_code_76 : decode cX11_code 76 = .ok (.getfield 21, 3) := by decide +kernel
theorem dX11_code_79 : decode cX11_code 79 = .ok (.new 15, 3) := by decide +kernel
theorem dX11_code_82 : decode cX11_code 82 = .ok (.dup, 1) := by decide +kernel
theorem dX11_code_83 : decode cX11_code 83 = .ok (.iload_n 1, 1) := by decide +kernel
theorem dX11_code_84 : decode cX11_code 84 = .ok (.iload_n 2, 1) := by decide +kernel
theorem dX11_code_85 : decode cX11_code 85 = .ok (.iload_n 3, 1) := by decide +kernel
theorem dX11_code_86 : decode cX11_code 86 = .ok (.invokespecial 157, 3) := by decide +kernel
theorem dX11_code_89 : decode cX11_code 89 = .ok (.aastore, 1) := by decide +kernel
theorem dX11_code_90 : decode cX11_code 90 = .ok (.aload_n 0, 1) := by decide +kernel
theorem dX11_code_91 : decode cX11_code 91 = .ok (.dup, 1) := by decide +kernel
theorem dX11_code_92 : decode cX11_code 92 = .ok (.getfield 21, 3) := by decide +kernel
theorem dX11_code_95 : decode cX11_code 95 = .ok (.iconst 1, 1) := by decide +kernel
theorem dX11_code_96 : decode cX11_code 96 = .ok (.iadd, 1) := by decide +kernel
theorem dX11_code_97 : decode cX11_code 97 = .ok (.putfield 21, 3) := by decide +kernel
theorem dX11_code_100 : decode cX11_code 100 = .ok (.aload_n 0, 1) := by decide +kernel
theorem dX11_code_101 : decode cX11_code 101 = .ok (.getfield 21, 3) := by decide +kernel
theorem dX11_code_104 : decode cX11_code 104 = .ok (.iconst 1, 1) := by decide +kernel
theorem dX11_code_105 : decode cX11_code 105 = .ok (.isub, 1) := by decide +kernel
theorem dX11_code_106 : decode cX11_code 106 = .ok (.ireturn, 1) := by decide +kernel
theorem dX11_tap_0 : decode cX11_tap 0 = .ok (.aload_n 0, 1) := by decide +kernel
theorem dX11_tap_1 : decode cX11_tap 1 = .ok (.iload_n 1, 1) := by decide +kernel
theorem dX11_tap_2 : decode cX11_tap 2 = .ok (.invokevirtual 160, 3) := by decide +kernel
theorem dX11_tap_5 : decode cX11_tap 5 = .ok (.astore 4, 2) := by decide +kernel
theorem dX11_tap_7 : decode cX11_tap 7 = .ok (.iload_n 2, 1) := by decide +kernel
theorem dX11_tap_8 : decode cX11_tap 8 = .ok (.iconst (-1), 1) := by decide +kernel
theorem dX11_tap_9 : decode cX11_tap 9 = .ok (.if_icmp .ne 21, 3) := by decide +kernel
theorem dX11_tap_12 : decode cX11_tap 12 = .ok (.aload 4, 2) := by decide +kernel
theorem dX11_tap_14 : decode cX11_tap 14 = .ok (.invokevirtual 164, 3) := by decide +kernel
theorem dX11_tap_17 : decode cX11_tap 17 = .ok (.ifCond .ne 13, 3) := by decide +kernel
theorem dX11_tap_20 : decode cX11_tap 20 = .ok (.new 167, 3) := by decide +kernel
theorem dX11_tap_23 : decode cX11_tap 23 = .ok (.dup, 1) := by decide +kernel
theorem dX11_tap_24 : decode cX11_tap 24 = .ok (.ldc 169, 2) := by decide +kernel
theorem dX11_tap_26 : decode cX11_tap 26 = .ok (.invokespecial 171, 3) := by decide +kernel
theorem dX11_tap_29 : decode cX11_tap 29 = .ok (.athrow, 1) := by decide +kernel
theorem dX11_tap_30 : decode cX11_tap 30 = .ok (.iload_n 2, 1) := by decide +kernel
theorem dX11_tap_31 : decode cX11_tap 31 = .ok (.iconst (-1), 1) := by decide +kernel
theorem dX11_tap_32 : decode cX11_tap 32 = .ok (.if_icmp .lt 12, 3) := by decide +kernel
theorem dX11_tap_35 : decode cX11_tap 35 = .ok (.iload_n 2, 1) := by decide +kernel
theorem dX11_tap_36 : decode cX11_tap 36 = .ok (.aload 4, 2) := by decide +kernel
theorem dX11_tap_38 : decode cX11_tap 38 = .ok (.getfield 172, 3) := by decide +kernel
theorem dX11_tap_41 : decode cX11_tap 41 = .ok (.if_icmp .lt 13, 3) := by decide +kernel
theorem dX11_tap_44 : decode cX11_tap 44 = .ok (.new 167, 3) := by decide +kernel
theorem dX11_tap_47 : decode cX11_tap 47 = .ok (.dup, 1) := by decide +kernel
theorem dX11_tap_48 : decode cX11_tap 48 = .ok (.ldc 175, 2) := by decide +kernel
theorem dX11_tap_50 : decode cX11_tap 50 = .ok (.invokespecial 171, 3) := by decide +kernel
theorem dX11_tap_53 : decode cX11_tap 53 = .ok (.athrow, 1) := by decide +kernel
theorem dX11_tap_54 : decode cX11_tap 54 = .ok (.iload_n 3, 1) := by decide +kernel
theorem dX11_tap_55 : decode cX11_tap 55 = .ok (.iload_n 2, 1) := by decide +kernel
theorem dX11_tap_56 : decode cX11_tap 56 = .ok (.iconst (-1), 1) := by decide +kernel
theorem dX11_tap_57 : decode cX11_tap 57 = .ok (.if_icmp .ne 11, 3) := by decide +kernel
theorem dX11_tap_60 : decode cX11_tap 60 = .ok (.aload 4, 2) := by decide +kernel
theorem dX11_tap_62 : decode cX11_tap 62 = .ok (.getfield 177, 3) := by decide +kernel
theorem dX11_tap_65 : decode cX11_tap 65 = .ok (.goto 10, 3) := by decide +kernel
theorem dX11_tap_68 : decode cX11_tap 68 = .ok (.iconst 1, 1) := by decide +kernel
theorem dX11_tap_69 : decode cX11_tap 69 = .ok (.aload 4, 2) := by decide +kernel
theorem dX11_tap_71 : decode cX11_tap 71 = .ok (.getfield 177, 3) := by decide +kernel
theorem dX11_tap_74 : decode cX11_tap 74 = .ok (.iadd, 1) := by decide +kernel
theorem dX11_tap_75 : decode cX11_tap 75 = .ok (.invokestatic 180, 3) := by decide +kernel
theorem dX11_tap_78 : decode cX11_tap 78 = .ok (.iload_n 2, 1) := by decide +kernel
theorem dX11_tap_79 : decode cX11_tap 79 = .ok (.iconst (-1), 1) := by decide +kernel
theorem dX11_tap_80 : decode cX11_tap 80 = .ok (.if_icmp .ne 19, 3) := by decide +kernel
theorem dX11_tap_83 : decode cX11_tap 83 = .ok (.aload 4, 2) := by decide +kernel
theorem dX11_tap_85 : decode cX11_tap 85 = .ok (.getfield 183, 3) := by decide +kernel
theorem dX11_tap_88 : decode cX11_tap 88 = .ok (.istore 5, 2) := by decide +kernel
theorem dX11_tap_90 : decode cX11_tap 90 = .ok (.aload 4, 2) := by decide +kernel
theorem dX11_tap_92 : decode cX11_tap 92 = .ok (.iload_n 3, 1) := by decide +kernel
theorem dX11_tap_93 : decode cX11_tap 93 = .ok (.putfield 183, 3) := by decide +kernel
theorem dX11_tap_96 : decode cX11_tap 96 = .ok (.goto 20, 3) := by decide +kernel
theorem dX11_tap_99 : decode cX11_tap 99 = .ok (.aload 4, 2) := by decide +kernel
theorem dX11_tap_101 : decode cX11_tap 101 = .ok (.getfield 186, 3) := by decide +kernel
theorem dX11_tap_104 : decode cX11_tap 104 = .ok (.iload_n 2, 1) := by decide +kernel
theorem dX11_tap_105 : decode cX11_tap 105 = .ok (.iaload, 1) := by decide +kernel
theorem dX11_tap_106 : decode cX11_tap 106 = .ok (.istore 5, 2) := by decide +kernel
theorem dX11_tap_108 : decode cX11_tap 108 = .ok (.aload 4, 2) := by decide +kernel
theorem dX11_tap_110 : decode cX11_tap 110 = .ok (.getfield 186, 3) := by decide +kernel
theorem dX11_tap_113 : decode cX11_tap 113 = .ok (.iload_n 2, 1) := by decide +kernel
theorem dX11_tap_114 : decode cX11_tap 114 = .ok (.iload_n 3, 1) := by decide +kernel
theorem dX11_tap_115 : decode cX11_tap 115 = .ok (.iastore, 1) := by decide +kernel
theorem dX11_tap_116 : decode cX11_tap 116 = .ok (.iload 5, 2) := by decide +kernel
theorem dX11_tap_118 : decode cX11_tap 118 = .ok (.ireturn, 1) := by decide +kernel
theorem dX11_keep_0 : decode cX11_keep 0 = .ok (.aload_n 0, 1) := by decide +kernel
theorem dX11_keep_1 : decode cX11_keep 1 = .ok (.iload_n 1, 1) := by decide +kernel
theorem dX11_keep_2 : decode cX11_keep 2 = .ok (.invokevirtual 160, 3) := by decide +kernel
theorem dX11_keep_5 : decode cX11_keep 5 = .ok (.astore 5, 2) := by decide +kernel
theorem dX11_keep_7 : decode cX11_keep 7 = .ok (.aload 5, 2) := by decide +kernel
theorem dX11_keep_9 : decode cX11_keep 9 = .ok (.invokevirtual 189, 3) := by decide +kernel
theorem dX11_keep_12 : decode cX11_keep 12 = .ok (.ifCond .ne 13, 3) := by decide +kernel
theorem dX11_keep_15 : decode cX11_keep 15 = .ok (.new 167, 3) := by decide +kernel
theorem dX11_keep_18 : decode cX11_keep 18 = .ok (.dup, 1) := by decide +kernel
theorem dX11_keep_19 : decode cX11_keep 19 = .ok (.ldc 192, 2) := by decide +kernel
theorem dX11_keep_21 : decode cX11_keep 21 = .ok (.invokespecial 171, 3) := by decide +kernel
theorem dX11_keep_24 : decode cX11_keep 24 = .ok (.athrow, 1) := by decide +kernel
theorem dX11_keep_25 : decode cX11_keep 25 = .ok (.iload_n 2, 1) := by decide +kernel
theorem dX11_keep_26 : decode cX11_keep 26 = .ok (.iconst 1, 1) := by decide +kernel
theorem dX11_keep_27 : decode cX11_keep 27 = .ok (.if_icmp .lt 9, 3) := by decide +kernel
theorem dX11_keep_30 : decode cX11_keep 30 = .ok (.iload_n 2, 1) := by decide +kernel
theorem dX11_keep_31 : decode cX11_keep 31 = .ok (.bipush 8, 2) := by decide +kernel
theorem dX11_keep_33 : decode cX11_keep 33 = .ok (.if_icmp .le 13, 3) := by decide +kernel
theorem dX11_keep_36 : decode cX11_keep 36 = .ok (.new 103, 3) := by decide +kernel
theorem dX11_keep_39 : decode cX11_keep 39 = .ok (.dup, 1) := by decide +kernel
theorem dX11_keep_40 : decode cX11_keep 40 = .ok (.ldc 194, 2) := by decide +kernel
theorem dX11_keep_42 : decode cX11_keep 42 = .ok (.invokespecial 107, 3) := by decide +kernel
theorem dX11_keep_45 : decode cX11_keep 45 = .ok (.athrow, 1) := by decide +kernel
theorem dX11_keep_46 : decode cX11_keep 46 = .ok (.iload_n 3, 1) := by decide +kernel
theorem dX11_keep_47 : decode cX11_keep 47 = .ok (.ifCond .lt 8, 3) := by decide +kernel
theorem dX11_keep_50 : decode cX11_keep 50 = .ok (.iload_n 3, 1) := by decide +kernel
theorem dX11_keep_51 : decode cX11_keep 51 = .ok (.iload_n 2, 1) := by decide +kernel
theorem dX11_keep_52 : decode cX11_keep 52 = .ok (.if_icmp .lt 13, 3) := by decide +kernel
theorem dX11_keep_55 : decode cX11_keep 55 = .ok (.new 103, 3) := by decide +kernel
theorem dX11_keep_58 : decode cX11_keep 58 = .ok (.dup, 1) := by decide +kernel
theorem dX11_keep_59 : decode cX11_keep 59 = .ok (.ldc 196, 2) := by decide +kernel
theorem dX11_keep_61 : decode cX11_keep 61 = .ok (.invokespecial 107, 3) := by decide +kernel
theorem dX11_keep_64 : decode cX11_keep 64 = .ok (.athrow, 1) := by decide +kernel
theorem dX11_keep_65 : decode cX11_keep 65 = .ok (.iload 4, 2) := by decide +kernel
theorem dX11_keep_67 : decode cX11_keep 67 = .ok (.aload 5, 2) := by decide +kernel
theorem dX11_keep_69 : decode cX11_keep 69 = .ok (.invokevirtual 198, 3) := by decide +kernel
theorem dX11_keep_72 : decode cX11_keep 72 = .ok (.invokestatic 180, 3) := by decide +kernel
theorem dX11_keep_75 : decode cX11_keep 75 = .ok (.aload 5, 2) := by decide +kernel
theorem dX11_keep_77 : decode cX11_keep 77 = .ok (.getfield 201, 3) := by decide +kernel
theorem dX11_keep_80 : decode cX11_keep 80 = .ok (.istore 6, 2) := by decide +kernel
theorem dX11_keep_82 : decode cX11_keep 82 = .ok (.aload 5, 2) := by decide +kernel
theorem dX11_keep_84 : decode cX11_keep 84 = .ok (.iload_n 2, 1) := by decide +kernel
theorem dX11_keep_85 : decode cX11_keep 85 = .ok (.iload_n 3, 1) := by decide +kernel
theorem dX11_keep_86 : decode cX11_keep 86 = .ok (.iload 4, 2) := by decide +kernel
theorem dX11_keep_88 : decode cX11_keep 88 = .ok (.invokevirtual 204, 3) := by decide +kernel
theorem dX11_keep_91 : decode cX11_keep 91 = .ok (.iload 6, 2) := by decide +kernel
theorem dX11_keep_93 : decode cX11_keep 93 = .ok (.ireturn, 1) := by decide +kernel
theorem dX11_stride_0 : decode cX11_stride 0 = .ok (.aload_n 0, 1) := by decide +kernel
theorem dX11_stride_1 : decode cX11_stride 1 = .ok (.iload_n 1, 1) := by decide +kernel
theorem dX11_stride_2 : decode cX11_stride 2 = .ok (.invokevirtual 160, 3) := by decide +kernel
theorem dX11_stride_5 : decode cX11_stride 5 = .ok (.astore_n 3, 1) := by decide +kernel
theorem dX11_stride_6 : decode cX11_stride 6 = .ok (.aload_n 3, 1) := by decide +kernel
theorem dX11_stride_7 : decode cX11_stride 7 = .ok (.getfield 207, 3) := by decide +kernel
theorem dX11_stride_10 : decode cX11_stride 10 = .ok (.iconst 5, 1) := by decide +kernel
theorem dX11_stride_11 : decode cX11_stride 11 = .ok (.if_icmp .eq 13, 3) := by decide +kernel
theorem dX11_stride_14 : decode cX11_stride 14 = .ok (.new 167, 3) := by decide +kernel
theorem dX11_stride_17 : decode cX11_stride 17 = .ok (.dup, 1) := by decide +kernel
theorem dX11_stride_18 : decode cX11_stride 18 = .ok (.ldc 210, 2) := by decide +kernel
theorem dX11_stride_20 : decode cX11_stride 20 = .ok (.invokespecial 171, 3) := by decide +kernel
theorem dX11_stride_23 : decode cX11_stride 23 = .ok (.athrow, 1) := by decide +kernel
theorem dX11_stride_24 : decode cX11_stride 24 = .ok (.iload_n 2, 1) := by decide +kernel
theorem dX11_stride_25 : decode cX11_stride 25 = .ok (.iconst 1, 1) := by decide +kernel
theorem dX11_stride_26 : decode cX11_stride 26 = .ok (.if_icmp .lt 10, 3) := by decide +kernel
theorem dX11_stride_29 : decode cX11_stride 29 = .ok (.iload_n 2, 1) := by decide +kernel
theorem dX11_stride_30 : decode cX11_stride 30 = .ok (.sipush 199, 3) := by decide +kernel
theorem dX11_stride_33 : decode cX11_stride 33 = .ok (.if_icmp .le 13, 3) := by decide +kernel
theorem dX11_stride_36 : decode cX11_stride 36 = .ok (.new 103, 3) := by decide +kernel
theorem dX11_stride_39 : decode cX11_stride 39 = .ok (.dup, 1) := by decide +kernel
theorem dX11_stride_40 : decode cX11_stride 40 = .ok (.ldc 212, 2) := by decide +kernel
theorem dX11_stride_42 : decode cX11_stride 42 = .ok (.invokespecial 107, 3) := by decide +kernel
theorem dX11_stride_45 : decode cX11_stride 45 = .ok (.athrow, 1) := by decide +kernel
theorem dX11_stride_46 : decode cX11_stride 46 = .ok (.aload_n 3, 1) := by decide +kernel
theorem dX11_stride_47 : decode cX11_stride 47 = .ok (.getfield 214, 3) := by decide +kernel
theorem dX11_stride_50 : decode cX11_stride 50 = .ok (.istore 4, 2) := by decide +kernel
theorem dX11_stride_52 : decode cX11_stride 52 = .ok (.aload_n 3, 1) := by decide +kernel
theorem dX11_stride_53 : decode cX11_stride 53 = .ok (.iload_n 2, 1) := by decide +kernel
theorem dX11_stride_54 : decode cX11_stride 54 = .ok (.putfield 214, 3) := by decide +kernel
theorem dX11_stride_57 : decode cX11_stride 57 = .ok (.iload 4, 2) := by decide +kernel
theorem dX11_stride_59 : decode cX11_stride 59 = .ok (.ireturn, 1) := by decide +kernel
theorem dX11_send_0 : decode cX11_send 0 = .ok (.aload_n 0, 1) := by decide +kernel
theorem dX11_send_1 : decode cX11_send 1 = .ok (.iload_n 1, 1) := by decide +kernel
theorem dX11_send_2 : decode cX11_send 2 = .ok (.invokevirtual 160, 3) := by decide +kernel
theorem dX11_send_5 : decode cX11_send 5 = .ok (.astore 5, 2) := by decide +kernel
theorem dX11_send_7 : decode cX11_send 7 = .ok (.aload_n 0, 1) := by decide +kernel
theorem dX11_send_8 : decode cX11_send 8 = .ok (.iload_n 2, 1) := by decide +kernel
theorem dX11_send_9 : decode cX11_send 9 = .ok (.invokevirtual 99, 3) := by decide +kernel
theorem dX11_send_12 : decode cX11_send 12 = .ok (.astore 6, 2) := by decide +kernel
theorem dX11_send_14 : decode cX11_send 14 = .ok (.aload_n 0, 1) := by decide +kernel
theorem dX11_send_15 : decode cX11_send 15 = .ok (.iload 4, 2) := by decide +kernel
theorem dX11_send_17 : decode cX11_send 17 = .ok (.invokevirtual 99, 3) := by decide +kernel
theorem dX11_send_20 : decode cX11_send 20 = .ok (.astore 7, 2) := by decide +kernel
theorem dX11_send_22 : decode cX11_send 22 = .ok (.iload_n 3, 1) := by decide +kernel
theorem dX11_send_23 : decode cX11_send 23 = .ok (.invokestatic 217, 3) := by decide +kernel
theorem dX11_send_26 : decode cX11_send 26 = .ok (.aload_n 0, 1) := by decide +kernel
theorem dX11_send_27 : decode cX11_send 27 = .ok (.getfield 28, 3) := by decide +kernel
theorem dX11_send_30 : decode cX11_send 30 = .ok (.aload 5, 2) := by decide +kernel
theorem dX11_send_32 : decode cX11_send 32 = .ok (.aload 6, 2) := by decide +kernel
theorem dX11_send_34 : decode cX11_send 34 = .ok (.iload_n 3, 1) := by decide +kernel
theorem dX11_send_35 : decode cX11_send 35 = .ok (.invokevirtual 220, 3) := by decide +kernel
theorem dX11_send_38 : decode cX11_send 38 = .ok (.ifCond .ne 5, 3) := by decide +kernel
theorem dX11_send_41 : decode cX11_send 41 = .ok (.iconst (-1), 1) := by decide +kernel
theorem dX11_send_42 : decode cX11_send 42 = .ok (.ireturn, 1) := by decide +kernel
theorem dX11_send_43 : decode cX11_send 43 = .ok (.aload 5, 2) := by decide +kernel
theorem dX11_send_45 : decode cX11_send 45 = .ok (.iload_n 3, 1) := by decide +kernel
theorem dX11_send_46 : decode cX11_send 46 = .ok (.invokevirtual 224, 3) := by decide +kernel
theorem dX11_send_49 : decode cX11_send 49 = .ok (.istore 8, 2) := by decide +kernel
theorem dX11_send_51 : decode cX11_send 51 = .ok (.iload 8, 2) := by decide +kernel
theorem dX11_send_53 : decode cX11_send 53 = .ok (.sipush 600, 3) := by decide +kernel
theorem dX11_send_56 : decode cX11_send 56 = .ok (.if_icmp .le 6, 3) := by decide +kernel
theorem dX11_send_59 : decode cX11_send 59 = .ok (.bipush (-2), 2) := by decide +kernel
theorem dX11_send_61 : decode cX11_send 61 = .ok (.ireturn, 1) := by decide +kernel
theorem dX11_send_62 : decode cX11_send 62 = .ok (.aload 7, 2) := by decide +kernel
theorem dX11_send_64 : decode cX11_send 64 = .ok (.iload 8, 2) := by decide +kernel
theorem dX11_send_66 : decode cX11_send 66 = .ok (.invokevirtual 114, 3) := by decide +kernel
theorem dX11_send_69 : decode cX11_send 69 = .ok (.aload_n 0, 1) := by decide +kernel
theorem dX11_send_70 : decode cX11_send 70 = .ok (.getfield 28, 3) := by decide +kernel
theorem dX11_send_73 : decode cX11_send 73 = .ok (.aload 5, 2) := by decide +kernel
theorem dX11_send_75 : decode cX11_send 75 = .ok (.iload_n 3, 1) := by decide +kernel
theorem dX11_send_76 : decode cX11_send 76 = .ok (.aload 7, 2) := by decide +kernel
theorem dX11_send_78 : decode cX11_send 78 = .ok (.invokevirtual 227, 3) := by decide +kernel
theorem dX11_send_81 : decode cX11_send 81 = .ok (.iload 8, 2) := by decide +kernel
theorem dX11_send_83 : decode cX11_send 83 = .ok (.ireturn, 1) := by decide +kernel
theorem dX11_length_0 : decode cX11_length 0 = .ok (.aload_n 0, 1) := by decide +kernel
theorem dX11_length_1 : decode cX11_length 1 = .ok (.iload_n 1, 1) := by decide +kernel
theorem dX11_length_2 : decode cX11_length 2 = .ok (.invokevirtual 160, 3) := by decide +kernel
theorem dX11_length_5 : decode cX11_length 5 = .ok (.astore_n 3, 1) := by decide +kernel
theorem dX11_length_6 : decode cX11_length 6 = .ok (.iload_n 2, 1) := by decide +kernel
theorem dX11_length_7 : decode cX11_length 7 = .ok (.invokestatic 217, 3) := by decide +kernel
theorem dX11_length_10 : decode cX11_length 10 = .ok (.aload_n 3, 1) := by decide +kernel
theorem dX11_length_11 : decode cX11_length 11 = .ok (.iload_n 2, 1) := by decide +kernel
theorem dX11_length_12 : decode cX11_length 12 = .ok (.invokevirtual 224, 3) := by decide +kernel
theorem dX11_length_15 : decode cX11_length 15 = .ok (.ireturn, 1) := by decide +kernel
theorem dX11_cost_0 : decode cX11_cost 0 = .ok (.aload_n 0, 1) := by decide +kernel
theorem dX11_cost_1 : decode cX11_cost 1 = .ok (.iload_n 1, 1) := by decide +kernel
theorem dX11_cost_2 : decode cX11_cost 2 = .ok (.invokevirtual 160, 3) := by decide +kernel
theorem dX11_cost_5 : decode cX11_cost 5 = .ok (.astore 5, 2) := by decide +kernel
theorem dX11_cost_7 : decode cX11_cost 7 = .ok (.aload_n 0, 1) := by decide +kernel
theorem dX11_cost_8 : decode cX11_cost 8 = .ok (.iload_n 2, 1) := by decide +kernel
theorem dX11_cost_9 : decode cX11_cost 9 = .ok (.invokevirtual 99, 3) := by decide +kernel
theorem dX11_cost_12 : decode cX11_cost 12 = .ok (.astore 6, 2) := by decide +kernel
theorem dX11_cost_14 : decode cX11_cost 14 = .ok (.aload_n 0, 1) := by decide +kernel
theorem dX11_cost_15 : decode cX11_cost 15 = .ok (.iload 4, 2) := by decide +kernel
theorem dX11_cost_17 : decode cX11_cost 17 = .ok (.invokevirtual 99, 3) := by decide +kernel
theorem dX11_cost_20 : decode cX11_cost 20 = .ok (.astore 7, 2) := by decide +kernel
theorem dX11_cost_22 : decode cX11_cost 22 = .ok (.iload_n 3, 1) := by decide +kernel
theorem dX11_cost_23 : decode cX11_cost 23 = .ok (.invokestatic 217, 3) := by decide +kernel
theorem dX11_cost_26 : decode cX11_cost 26 = .ok (.aload_n 0, 1) := by decide +kernel
theorem dX11_cost_27 : decode cX11_cost 27 = .ok (.getfield 28, 3) := by decide +kernel
theorem dX11_cost_30 : decode cX11_cost 30 = .ok (.aload 5, 2) := by decide +kernel
theorem dX11_cost_32 : decode cX11_cost 32 = .ok (.aload 6, 2) := by decide +kernel
theorem dX11_cost_34 : decode cX11_cost 34 = .ok (.iload_n 3, 1) := by decide +kernel
theorem dX11_cost_35 : decode cX11_cost 35 = .ok (.invokevirtual 220, 3) := by decide +kernel
theorem dX11_cost_38 : decode cX11_cost 38 = .ok (.ifCond .ne 5, 3) := by decide +kernel
theorem dX11_cost_41 : decode cX11_cost 41 = .ok (.iconst (-1), 1) := by decide +kernel
theorem dX11_cost_42 : decode cX11_cost 42 = .ok (.ireturn, 1) := by decide +kernel
theorem dX11_cost_43 : decode cX11_cost 43 = .ok (.aload_n 0, 1) := by decide +kernel
theorem dX11_cost_44 : decode cX11_cost 44 = .ok (.getfield 35, 3) := by decide +kernel
theorem dX11_cost_47 : decode cX11_cost 47 = .ok (.aload 5, 2) := by decide +kernel
theorem dX11_cost_49 : decode cX11_cost 49 = .ok (.iload_n 3, 1) := by decide +kernel
theorem dX11_cost_50 : decode cX11_cost 50 = .ok (.aload 7, 2) := by decide +kernel
theorem dX11_cost_52 : decode cX11_cost 52 = .ok (.invokevirtual 231, 3) := by decide +kernel
theorem dX11_cost_55 : decode cX11_cost 55 = .ok (.aload_n 0, 1) := by decide +kernel
theorem dX11_cost_56 : decode cX11_cost 56 = .ok (.getfield 35, 3) := by decide +kernel
theorem dX11_cost_59 : decode cX11_cost 59 = .ok (.aload_n 0, 1) := by decide +kernel
theorem dX11_cost_60 : decode cX11_cost 60 = .ok (.getfield 28, 3) := by decide +kernel
theorem dX11_cost_63 : decode cX11_cost 63 = .ok (.aload 5, 2) := by decide +kernel
theorem dX11_cost_65 : decode cX11_cost 65 = .ok (.iload_n 3, 1) := by decide +kernel
theorem dX11_cost_66 : decode cX11_cost 66 = .ok (.invokevirtual 234, 3) := by decide +kernel
theorem dX11_cost_69 : decode cX11_cost 69 = .ok (.ireturn, 1) := by decide +kernel
theorem dX11_best_0 : decode cX11_best 0 = .ok (.aload_n 0, 1) := by decide +kernel
theorem dX11_best_1 : decode cX11_best 1 = .ok (.iload_n 1, 1) := by decide +kernel
theorem dX11_best_2 : decode cX11_best 2 = .ok (.invokevirtual 160, 3) := by decide +kernel
theorem dX11_best_5 : decode cX11_best 5 = .ok (.astore 4, 2) := by decide +kernel
theorem dX11_best_7 : decode cX11_best 7 = .ok (.aload_n 0, 1) := by decide +kernel
theorem dX11_best_8 : decode cX11_best 8 = .ok (.iload_n 2, 1) := by decide +kernel
theorem dX11_best_9 : decode cX11_best 9 = .ok (.invokevirtual 99, 3) := by decide +kernel
theorem dX11_best_12 : decode cX11_best 12 = .ok (.astore 5, 2) := by decide +kernel
theorem dX11_best_14 : decode cX11_best 14 = .ok (.aload 4, 2) := by decide +kernel
theorem dX11_best_16 : decode cX11_best 16 = .ok (.invokestatic 238, 3) := by decide +kernel
theorem dX11_best_19 : decode cX11_best 19 = .ok (.iload_n 3, 1) := by decide +kernel
theorem dX11_best_20 : decode cX11_best 20 = .ok (.invokestatic 217, 3) := by decide +kernel
theorem dX11_best_23 : decode cX11_best 23 = .ok (.aload_n 0, 1) := by decide +kernel
theorem dX11_best_24 : decode cX11_best 24 = .ok (.aload 4, 2) := by decide +kernel
theorem dX11_best_26 : decode cX11_best 26 = .ok (.aload 5, 2) := by decide +kernel
theorem dX11_best_28 : decode cX11_best 28 = .ok (.iload_n 3, 1) := by decide +kernel
theorem dX11_best_29 : decode cX11_best 29 = .ok (.invokevirtual 242, 3) := by decide +kernel
theorem dX11_best_32 : decode cX11_best 32 = .ok (.aload_n 0, 1) := by decide +kernel
theorem dX11_best_33 : decode cX11_best 33 = .ok (.getfield 58, 3) := by decide +kernel
theorem dX11_best_36 : decode cX11_best 36 = .ok (.aload 4, 2) := by decide +kernel
theorem dX11_best_38 : decode cX11_best 38 = .ok (.iload_n 3, 1) := by decide +kernel
theorem dX11_best_39 : decode cX11_best 39 = .ok (.iconst 1, 1) := by decide +kernel
theorem dX11_best_40 : decode cX11_best 40 = .ok (.invokevirtual 246, 3) := by decide +kernel
theorem dX11_best_43 : decode cX11_best 43 = .ok (.aload_n 0, 1) := by decide +kernel
theorem dX11_best_44 : decode cX11_best 44 = .ok (.getfield 49, 3) := by decide +kernel
theorem dX11_best_47 : decode cX11_best 47 = .ok (.invokevirtual 250, 3) := by decide +kernel
theorem dX11_best_50 : decode cX11_best 50 = .ok (.ifCond .le 17, 3) := by decide +kernel
theorem dX11_best_53 : decode cX11_best 53 = .ok (.aload_n 0, 1) := by decide +kernel
theorem dX11_best_54 : decode cX11_best 54 = .ok (.getfield 49, 3) := by decide +kernel
theorem dX11_best_57 : decode cX11_best 57 = .ok (.iconst 0, 1) := by decide +kernel
theorem dX11_best_58 : decode cX11_best 58 = .ok (.invokevirtual 253, 3) := by decide +kernel
theorem dX11_best_61 : decode cX11_best 61 = .ok (.getfield 257, 3) := by decide +kernel
theorem dX11_best_64 : decode cX11_best 64 = .ok (.goto 4, 3) := by decide +kernel
theorem dX11_best_67 : decode cX11_best 67 = .ok (.iconst (-1), 1) := by decide +kernel
theorem dX11_best_68 : decode cX11_best 68 = .ok (.ireturn, 1) := by decide +kernel
theorem dX11_list_0 : decode cX11_list 0 = .ok (.aload_n 0, 1) := by decide +kernel
theorem dX11_list_1 : decode cX11_list 1 = .ok (.iload_n 1, 1) := by decide +kernel
theorem dX11_list_2 : decode cX11_list 2 = .ok (.invokevirtual 160, 3) := by decide +kernel
theorem dX11_list_5 : decode cX11_list 5 = .ok (.astore 5, 2) := by decide +kernel
theorem dX11_list_7 : decode cX11_list 7 = .ok (.aload_n 0, 1) := by decide +kernel
theorem dX11_list_8 : decode cX11_list 8 = .ok (.iload_n 2, 1) := by decide +kernel
theorem dX11_list_9 : decode cX11_list 9 = .ok (.invokevirtual 99, 3) := by decide +kernel
theorem dX11_list_12 : decode cX11_list 12 = .ok (.astore 6, 2) := by decide +kernel
theorem dX11_list_14 : decode cX11_list 14 = .ok (.aload 5, 2) := by decide +kernel
theorem dX11_list_16 : decode cX11_list 16 = .ok (.invokestatic 238, 3) := by decide +kernel
theorem dX11_list_19 : decode cX11_list 19 = .ok (.iload_n 3, 1) := by decide +kernel
theorem dX11_list_20 : decode cX11_list 20 = .ok (.invokestatic 217, 3) := by decide +kernel
theorem dX11_list_23 : decode cX11_list 23 = .ok (.iload 4, 2) := by decide +kernel
theorem dX11_list_25 : decode cX11_list 25 = .ok (.iconst 1, 1) := by decide +kernel
theorem dX11_list_26 : decode cX11_list 26 = .ok (.if_icmp .lt 10, 3) := by decide +kernel
theorem dX11_list_29 : decode cX11_list 29 = .ok (.iload 4, 2) := by decide +kernel
theorem dX11_list_31 : decode cX11_list 31 = .ok (.bipush 8, 2) := by decide +kernel
theorem dX11_list_33 : decode cX11_list 33 = .ok (.if_icmp .le 14, 3) := by decide +kernel
theorem dX11_list_36 : decode cX11_list 36 = .ok (.new 103, 3) := by decide +kernel
theorem dX11_list_39 : decode cX11_list 39 = .ok (.dup, 1) := by decide +kernel
theorem dX11_list_40 : decode cX11_list 40 = .ok (.ldc_w 262, 3) := by decide +kernel
theorem dX11_list_43 : decode cX11_list 43 = .ok (.invokespecial 107, 3) := by decide +kernel
theorem dX11_list_46 : decode cX11_list 46 = .ok (.athrow, 1) := by decide +kernel
theorem dX11_list_47 : decode cX11_list 47 = .ok (.aload_n 0, 1) := by decide +kernel
theorem dX11_list_48 : decode cX11_list 48 = .ok (.aload 5, 2) := by decide +kernel
theorem dX11_list_50 : decode cX11_list 50 = .ok (.aload 6, 2) := by decide +kernel
theorem dX11_list_52 : decode cX11_list 52 = .ok (.iload_n 3, 1) := by decide +kernel
theorem dX11_list_53 : decode cX11_list 53 = .ok (.invokevirtual 242, 3) := by decide +kernel
theorem dX11_list_56 : decode cX11_list 56 = .ok (.aload_n 0, 1) := by decide +kernel
theorem dX11_list_57 : decode cX11_list 57 = .ok (.getfield 58, 3) := by decide +kernel
theorem dX11_list_60 : decode cX11_list 60 = .ok (.aload 5, 2) := by decide +kernel
theorem dX11_list_62 : decode cX11_list 62 = .ok (.iload_n 3, 1) := by decide +kernel
theorem dX11_list_63 : decode cX11_list 63 = .ok (.iload 4, 2) := by decide +kernel
theorem dX11_list_65 : decode cX11_list 65 = .ok (.invokevirtual 246, 3) := by decide +kernel
theorem dX11_list_68 : decode cX11_list 68 = .ok (.aload_n 0, 1) := by decide +kernel
theorem dX11_list_69 : decode cX11_list 69 = .ok (.getfield 49, 3) := by decide +kernel
theorem dX11_list_72 : decode cX11_list 72 = .ok (.invokevirtual 250, 3) := by decide +kernel
theorem dX11_list_75 : decode cX11_list 75 = .ok (.ireturn, 1) := by decide +kernel
theorem dX11_few_0 : decode cX11_few 0 = .ok (.aload_n 0, 1) := by decide +kernel
theorem dX11_few_1 : decode cX11_few 1 = .ok (.iload_n 1, 1) := by decide +kernel
theorem dX11_few_2 : decode cX11_few 2 = .ok (.invokevirtual 160, 3) := by decide +kernel
theorem dX11_few_5 : decode cX11_few 5 = .ok (.astore 5, 2) := by decide +kernel
theorem dX11_few_7 : decode cX11_few 7 = .ok (.aload_n 0, 1) := by decide +kernel
theorem dX11_few_8 : decode cX11_few 8 = .ok (.iload_n 2, 1) := by decide +kernel
theorem dX11_few_9 : decode cX11_few 9 = .ok (.invokevirtual 99, 3) := by decide +kernel
theorem dX11_few_12 : decode cX11_few 12 = .ok (.astore 6, 2) := by decide +kernel
theorem dX11_few_14 : decode cX11_few 14 = .ok (.aload 5, 2) := by decide +kernel
theorem dX11_few_16 : decode cX11_few 16 = .ok (.getfield 207, 3) := by decide +kernel
theorem dX11_few_19 : decode cX11_few 19 = .ok (.iconst 4, 1) := by decide +kernel
theorem dX11_few_20 : decode cX11_few 20 = .ok (.if_icmp .eq 12, 3) := by decide +kernel
theorem dX11_few_23 : decode cX11_few 23 = .ok (.aload 5, 2) := by decide +kernel
theorem dX11_few_25 : decode cX11_few 25 = .ok (.getfield 207, 3) := by decide +kernel
theorem dX11_few_28 : decode cX11_few 28 = .ok (.iconst 5, 1) := by decide +kernel
theorem dX11_few_29 : decode cX11_few 29 = .ok (.if_icmp .ne 14, 3) := by decide +kernel
theorem dX11_few_32 : decode cX11_few 32 = .ok (.new 167, 3) := by decide +kernel
theorem dX11_few_35 : decode cX11_few 35 = .ok (.dup, 1) := by decide +kernel
theorem dX11_few_36 : decode cX11_few 36 = .ok (.ldc_w 264, 3) := by decide +kernel
theorem dX11_few_39 : decode cX11_few 39 = .ok (.invokespecial 171, 3) := by decide +kernel
theorem dX11_few_42 : decode cX11_few 42 = .ok (.athrow, 1) := by decide +kernel
theorem dX11_few_43 : decode cX11_few 43 = .ok (.iload_n 3, 1) := by decide +kernel
theorem dX11_few_44 : decode cX11_few 44 = .ok (.invokestatic 217, 3) := by decide +kernel
theorem dX11_few_47 : decode cX11_few 47 = .ok (.iload 4, 2) := by decide +kernel
theorem dX11_few_49 : decode cX11_few 49 = .ok (.iconst 1, 1) := by decide +kernel
theorem dX11_few_50 : decode cX11_few 50 = .ok (.if_icmp .lt 10, 3) := by decide +kernel
theorem dX11_few_53 : decode cX11_few 53 = .ok (.iload 4, 2) := by decide +kernel
theorem dX11_few_55 : decode cX11_few 55 = .ok (.bipush 64, 2) := by decide +kernel
theorem dX11_few_57 : decode cX11_few 57 = .ok (.if_icmp .le 14, 3) := by decide +kernel
theorem dX11_few_60 : decode cX11_few 60 = .ok (.new 103, 3) := by decide +kernel
theorem dX11_few_63 : decode cX11_few 63 = .ok (.dup, 1) := by decide +kernel
theorem dX11_few_64 : decode cX11_few 64 = .ok (.ldc_w 266, 3) := by decide +kernel
theorem dX11_few_67 : decode cX11_few 67 = .ok (.invokespecial 107, 3) := by decide +kernel
theorem dX11_few_70 : decode cX11_few 70 = .ok (.athrow, 1) := by decide +kernel
theorem dX11_few_71 : decode cX11_few 71 = .ok (.aload_n 0, 1) := by decide +kernel
theorem dX11_few_72 : decode cX11_few 72 = .ok (.aload 5, 2) := by decide +kernel
theorem dX11_few_74 : decode cX11_few 74 = .ok (.aload 6, 2) := by decide +kernel
theorem dX11_few_76 : decode cX11_few 76 = .ok (.iload_n 3, 1) := by decide +kernel
theorem dX11_few_77 : decode cX11_few 77 = .ok (.invokevirtual 242, 3) := by decide +kernel
theorem dX11_few_80 : decode cX11_few 80 = .ok (.aload_n 0, 1) := by decide +kernel
theorem dX11_few_81 : decode cX11_few 81 = .ok (.getfield 58, 3) := by decide +kernel
theorem dX11_few_84 : decode cX11_few 84 = .ok (.aload 5, 2) := by decide +kernel
theorem dX11_few_86 : decode cX11_few 86 = .ok (.iload_n 3, 1) := by decide +kernel
theorem dX11_few_87 : decode cX11_few 87 = .ok (.iload 4, 2) := by decide +kernel
theorem dX11_few_89 : decode cX11_few 89 = .ok (.invokevirtual 268, 3) := by decide +kernel
theorem dX11_few_92 : decode cX11_few 92 = .ok (.aload_n 0, 1) := by decide +kernel
theorem dX11_few_93 : decode cX11_few 93 = .ok (.getfield 49, 3) := by decide +kernel
theorem dX11_few_96 : decode cX11_few 96 = .ok (.invokevirtual 250, 3) := by decide +kernel
theorem dX11_few_99 : decode cX11_few 99 = .ok (.ifCond .le 17, 3) := by decide +kernel
theorem dX11_few_102 : decode cX11_few 102 = .ok (.aload_n 0, 1) := by decide +kernel
theorem dX11_few_103 : decode cX11_few 103 = .ok (.getfield 49, 3) := by decide +kernel
theorem dX11_few_106 : decode cX11_few 106 = .ok (.iconst 0, 1) := by decide +kernel
theorem dX11_few_107 : decode cX11_few 107 = .ok (.invokevirtual 253, 3) := by decide +kernel
theorem dX11_few_110 : decode cX11_few 110 = .ok (.getfield 257, 3) := by decide +kernel
theorem dX11_few_113 : decode cX11_few 113 = .ok (.goto 4, 3) := by decide +kernel
theorem dX11_few_116 : decode cX11_few 116 = .ok (.iconst (-1), 1) := by decide +kernel
theorem dX11_few_117 : decode cX11_few 117 = .ok (.ireturn, 1) := by decide +kernel
theorem dX11_each_0 : decode cX11_each 0 = .ok (.aload_n 0, 1) := by decide +kernel
theorem dX11_each_1 : decode cX11_each 1 = .ok (.iload_n 1, 1) := by decide +kernel
theorem dX11_each_2 : decode cX11_each 2 = .ok (.invokevirtual 160, 3) := by decide +kernel
theorem dX11_each_5 : decode cX11_each 5 = .ok (.astore 4, 2) := by decide +kernel
theorem dX11_each_7 : decode cX11_each 7 = .ok (.aload_n 0, 1) := by decide +kernel
theorem dX11_each_8 : decode cX11_each 8 = .ok (.iload_n 2, 1) := by decide +kernel
theorem dX11_each_9 : decode cX11_each 9 = .ok (.invokevirtual 99, 3) := by decide +kernel
theorem dX11_each_12 : decode cX11_each 12 = .ok (.astore 5, 2) := by decide +kernel
theorem dX11_each_14 : decode cX11_each 14 = .ok (.aload 4, 2) := by decide +kernel
theorem dX11_each_16 : decode cX11_each 16 = .ok (.invokestatic 238, 3) := by decide +kernel
theorem dX11_each_19 : decode cX11_each 19 = .ok (.iload_n 3, 1) := by decide +kernel
theorem dX11_each_20 : decode cX11_each 20 = .ok (.invokestatic 217, 3) := by decide +kernel
theorem dX11_each_23 : decode cX11_each 23 = .ok (.aload_n 0, 1) := by decide +kernel
theorem dX11_each_24 : decode cX11_each 24 = .ok (.aload 4, 2) := by decide +kernel
theorem dX11_each_26 : decode cX11_each 26 = .ok (.aload 5, 2) := by decide +kernel
theorem dX11_each_28 : decode cX11_each 28 = .ok (.iload_n 3, 1) := by decide +kernel
theorem dX11_each_29 : decode cX11_each 29 = .ok (.invokevirtual 242, 3) := by decide +kernel
theorem dX11_each_32 : decode cX11_each 32 = .ok (.aload_n 0, 1) := by decide +kernel
theorem dX11_each_33 : decode cX11_each 33 = .ok (.getfield 67, 3) := by decide +kernel
theorem dX11_each_36 : decode cX11_each 36 = .ok (.aload 4, 2) := by decide +kernel
theorem dX11_each_38 : decode cX11_each 38 = .ok (.iload_n 3, 1) := by decide +kernel
theorem dX11_each_39 : decode cX11_each 39 = .ok (.aload_n 0, 1) := by decide +kernel
theorem dX11_each_40 : decode cX11_each 40 = .ok (.getfield 87, 3) := by decide +kernel
theorem dX11_each_43 : decode cX11_each 43 = .ok (.invokevirtual 271, 3) := by decide +kernel
theorem dX11_each_46 : decode cX11_each 46 = .ok (.aload_n 0, 1) := by decide +kernel
theorem dX11_each_47 : decode cX11_each 47 = .ok (.iload_n 3, 1) := by decide +kernel
theorem dX11_each_48 : decode cX11_each 48 = .ok (.putfield 91, 3) := by decide +kernel
theorem dX11_each_51 : decode cX11_each 51 = .ok (.iconst 0, 1) := by decide +kernel
theorem dX11_each_52 : decode cX11_each 52 = .ok (.istore 6, 2) := by decide +kernel
theorem dX11_each_54 : decode cX11_each 54 = .ok (.iconst 0, 1) := by decide +kernel
theorem dX11_each_55 : decode cX11_each 55 = .ok (.istore 7, 2) := by decide +kernel
theorem dX11_each_57 : decode cX11_each 57 = .ok (.iload 7, 2) := by decide +kernel
theorem dX11_each_59 : decode cX11_each 59 = .ok (.iload_n 3, 1) := by decide +kernel
theorem dX11_each_60 : decode cX11_each 60 = .ok (.if_icmp .ge 29, 3) := by decide +kernel
theorem dX11_each_63 : decode cX11_each 63 = .ok (.iload 6, 2) := by decide +kernel
theorem dX11_each_65 : decode cX11_each 65 = .ok (.aload_n 0, 1) := by decide +kernel
theorem dX11_each_66 : decode cX11_each 66 = .ok (.getfield 87, 3) := by decide +kernel
theorem dX11_each_69 : decode cX11_each 69 = .ok (.iload 7, 2) := by decide +kernel
theorem dX11_each_71 : decode cX11_each 71 = .ok (.iaload, 1) := by decide +kernel
theorem dX11_each_72 : decode cX11_each 72 = .ok (.ifCond .ge 7, 3) := by decide +kernel
theorem dX11_each_75 : decode cX11_each 75 = .ok (.iconst 1, 1) := by decide +kernel
theorem dX11_each_76 : decode cX11_each 76 = .ok (.goto 4, 3) := by decide +kernel
theorem dX11_each_79 : decode cX11_each 79 = .ok (.iconst 0, 1) := by decide +kernel
theorem dX11_each_80 : decode cX11_each 80 = .ok (.iadd, 1) := by decide +kernel
theorem dX11_each_81 : decode cX11_each 81 = .ok (.istore 6, 2) := by decide +kernel
theorem dX11_each_83 : decode cX11_each 83 = .ok (.iinc 7 1, 3) := by decide +kernel
theorem dX11_each_86 : decode cX11_each 86 = .ok (.goto (-29), 3) := by decide +kernel
theorem dX11_each_89 : decode cX11_each 89 = .ok (.iload 6, 2) := by decide +kernel
theorem dX11_each_91 : decode cX11_each 91 = .ok (.ireturn, 1) := by decide +kernel
theorem dX11_talk_0 : decode cX11_talk 0 = .ok (.aload_n 0, 1) := by decide +kernel
theorem dX11_talk_1 : decode cX11_talk 1 = .ok (.iload_n 1, 1) := by decide +kernel
theorem dX11_talk_2 : decode cX11_talk 2 = .ok (.invokevirtual 160, 3) := by decide +kernel
theorem dX11_talk_5 : decode cX11_talk 5 = .ok (.astore 5, 2) := by decide +kernel
theorem dX11_talk_7 : decode cX11_talk 7 = .ok (.aload_n 0, 1) := by decide +kernel
theorem dX11_talk_8 : decode cX11_talk 8 = .ok (.iload_n 2, 1) := by decide +kernel
theorem dX11_talk_9 : decode cX11_talk 9 = .ok (.invokevirtual 99, 3) := by decide +kernel
theorem dX11_talk_12 : decode cX11_talk 12 = .ok (.astore 6, 2) := by decide +kernel
theorem dX11_talk_14 : decode cX11_talk 14 = .ok (.aload 5, 2) := by decide +kernel
theorem dX11_talk_16 : decode cX11_talk 16 = .ok (.getfield 207, 3) := by decide +kernel
theorem dX11_talk_19 : decode cX11_talk 19 = .ok (.iconst 5, 1) := by decide +kernel
theorem dX11_talk_20 : decode cX11_talk 20 = .ok (.if_icmp .eq 13, 3) := by decide +kernel
theorem dX11_talk_23 : decode cX11_talk 23 = .ok (.new 167, 3) := by decide +kernel
theorem dX11_talk_26 : decode cX11_talk 26 = .ok (.dup, 1) := by decide +kernel
theorem dX11_talk_27 : decode cX11_talk 27 = .ok (.ldc 210, 2) := by decide +kernel
theorem dX11_talk_29 : decode cX11_talk 29 = .ok (.invokespecial 171, 3) := by decide +kernel
theorem dX11_talk_32 : decode cX11_talk 32 = .ok (.athrow, 1) := by decide +kernel
theorem dX11_talk_33 : decode cX11_talk 33 = .ok (.iload_n 3, 1) := by decide +kernel
theorem dX11_talk_34 : decode cX11_talk 34 = .ok (.invokestatic 217, 3) := by decide +kernel
theorem dX11_talk_37 : decode cX11_talk 37 = .ok (.iload 4, 2) := by decide +kernel
theorem dX11_talk_39 : decode cX11_talk 39 = .ok (.iconst 1, 1) := by decide +kernel
theorem dX11_talk_40 : decode cX11_talk 40 = .ok (.if_icmp .lt 10, 3) := by decide +kernel
theorem dX11_talk_43 : decode cX11_talk 43 = .ok (.iload 4, 2) := by decide +kernel
theorem dX11_talk_45 : decode cX11_talk 45 = .ok (.bipush 10, 2) := by decide +kernel
theorem dX11_talk_47 : decode cX11_talk 47 = .ok (.if_icmp .le 14, 3) := by decide +kernel
theorem dX11_talk_50 : decode cX11_talk 50 = .ok (.new 103, 3) := by decide +kernel
theorem dX11_talk_53 : decode cX11_talk 53 = .ok (.dup, 1) := by decide +kernel
theorem dX11_talk_54 : decode cX11_talk 54 = .ok (.ldc_w 275, 3) := by decide +kernel
theorem dX11_talk_57 : decode cX11_talk 57 = .ok (.invokespecial 107, 3) := by decide +kernel
theorem dX11_talk_60 : decode cX11_talk 60 = .ok (.athrow, 1) := by decide +kernel
theorem dX11_talk_61 : decode cX11_talk 61 = .ok (.aload 5, 2) := by decide +kernel
theorem dX11_talk_63 : decode cX11_talk 63 = .ok (.iload_n 3, 1) := by decide +kernel
theorem dX11_talk_64 : decode cX11_talk 64 = .ok (.invokevirtual 277, 3) := by decide +kernel
theorem dX11_talk_67 : decode cX11_talk 67 = .ok (.ifCond .ne 5, 3) := by decide +kernel
theorem dX11_talk_70 : decode cX11_talk 70 = .ok (.iconst (-1), 1) := by decide +kernel
theorem dX11_talk_71 : decode cX11_talk 71 = .ok (.ireturn, 1) := by decide +kernel
theorem dX11_talk_72 : decode cX11_talk 72 = .ok (.aload_n 0, 1) := by decide +kernel
theorem dX11_talk_73 : decode cX11_talk 73 = .ok (.getfield 35, 3) := by decide +kernel
theorem dX11_talk_76 : decode cX11_talk 76 = .ok (.aload 5, 2) := by decide +kernel
theorem dX11_talk_78 : decode cX11_talk 78 = .ok (.iload_n 3, 1) := by decide +kernel
theorem dX11_talk_79 : decode cX11_talk 79 = .ok (.aload 6, 2) := by decide +kernel
theorem dX11_talk_81 : decode cX11_talk 81 = .ok (.invokevirtual 231, 3) := by decide +kernel
theorem dX11_talk_84 : decode cX11_talk 84 = .ok (.aload_n 0, 1) := by decide +kernel
theorem dX11_talk_85 : decode cX11_talk 85 = .ok (.getfield 42, 3) := by decide +kernel
theorem dX11_talk_88 : decode cX11_talk 88 = .ok (.aload 5, 2) := by decide +kernel
theorem dX11_talk_90 : decode cX11_talk 90 = .ok (.invokevirtual 281, 3) := by decide +kernel
theorem dX11_talk_93 : decode cX11_talk 93 = .ok (.aload_n 0, 1) := by decide +kernel
theorem dX11_talk_94 : decode cX11_talk 94 = .ok (.getfield 76, 3) := by decide +kernel
theorem dX11_talk_97 : decode cX11_talk 97 = .ok (.aload 5, 2) := by decide +kernel
theorem dX11_talk_99 : decode cX11_talk 99 = .ok (.iload_n 3, 1) := by decide +kernel
theorem dX11_talk_100 : decode cX11_talk 100 = .ok (.iload 4, 2) := by decide +kernel
theorem dX11_talk_102 : decode cX11_talk 102 = .ok (.invokevirtual 284, 3) := by decide +kernel
theorem dX11_talk_105 : decode cX11_talk 105 = .ok (.istore 7, 2) := by decide +kernel
theorem dX11_talk_107 : decode cX11_talk 107 = .ok (.aload_n 0, 1) := by decide +kernel
theorem dX11_talk_108 : decode cX11_talk 108 = .ok (.aload_n 0, 1) := by decide +kernel
theorem dX11_talk_109 : decode cX11_talk 109 = .ok (.getfield 76, 3) := by decide +kernel
theorem dX11_talk_112 : decode cX11_talk 112 = .ok (.invokevirtual 288, 3) := by decide +kernel
theorem dX11_talk_115 : decode cX11_talk 115 = .ok (.putfield 94, 3) := by decide +kernel
theorem dX11_talk_118 : decode cX11_talk 118 = .ok (.aload_n 0, 1) := by decide +kernel
theorem dX11_talk_119 : decode cX11_talk 119 = .ok (.iload_n 3, 1) := by decide +kernel
theorem dX11_talk_120 : decode cX11_talk 120 = .ok (.putfield 91, 3) := by decide +kernel
theorem dX11_talk_123 : decode cX11_talk 123 = .ok (.aload_n 0, 1) := by decide +kernel
theorem dX11_talk_124 : decode cX11_talk 124 = .ok (.getfield 49, 3) := by decide +kernel
theorem dX11_talk_127 : decode cX11_talk 127 = .ok (.iconst 1, 1) := by decide +kernel
theorem dX11_talk_128 : decode cX11_talk 128 = .ok (.invokevirtual 291, 3) := by decide +kernel
theorem dX11_talk_131 : decode cX11_talk 131 = .ok (.aload_n 0, 1) := by decide +kernel
theorem dX11_talk_132 : decode cX11_talk 132 = .ok (.getfield 49, 3) := by decide +kernel
theorem dX11_talk_135 : decode cX11_talk 135 = .ok (.invokevirtual 294, 3) := by decide +kernel
theorem dX11_talk_138 : decode cX11_talk 138 = .ok (.astore 8, 2) := by decide +kernel
theorem dX11_talk_140 : decode cX11_talk 140 = .ok (.aload 8, 2) := by decide +kernel
theorem dX11_talk_142 : decode cX11_talk 142 = .ok (.iconst 0, 1) := by decide +kernel
theorem dX11_talk_143 : decode cX11_talk 143 = .ok (.iconst 0, 1) := by decide +kernel
theorem dX11_talk_144 : decode cX11_talk 144 = .ok (.iload_n 3, 1) := by decide +kernel
theorem dX11_talk_145 : decode cX11_talk 145 = .ok (.invokevirtual 298, 3) := by decide +kernel
theorem dX11_talk_148 : decode cX11_talk 148 = .ok (.iconst 0, 1) := by decide +kernel
theorem dX11_talk_149 : decode cX11_talk 149 = .ok (.istore 9, 2) := by decide +kernel
theorem dX11_talk_151 : decode cX11_talk 151 = .ok (.iload 9, 2) := by decide +kernel
theorem dX11_talk_153 : decode cX11_talk 153 = .ok (.iload_n 3, 1) := by decide +kernel
theorem dX11_talk_154 : decode cX11_talk 154 = .ok (.if_icmp .ge 49, 3) := by decide +kernel
theorem dX11_talk_157 : decode cX11_talk 157 = .ok (.aload_n 0, 1) := by decide +kernel
theorem dX11_talk_158 : decode cX11_talk 158 = .ok (.getfield 87, 3) := by decide +kernel
theorem dX11_talk_161 : decode cX11_talk 161 = .ok (.iload 9, 2) := by decide +kernel
theorem dX11_talk_163 : decode cX11_talk 163 = .ok (.aload_n 0, 1) := by decide +kernel
theorem dX11_talk_164 : decode cX11_talk 164 = .ok (.getfield 76, 3) := by decide +kernel
theorem dX11_talk_167 : decode cX11_talk 167 = .ok (.iload 9, 2) := by decide +kernel
theorem dX11_talk_169 : decode cX11_talk 169 = .ok (.invokevirtual 300, 3) := by decide +kernel
theorem dX11_talk_172 : decode cX11_talk 172 = .ok (.iastore, 1) := by decide +kernel
theorem dX11_talk_173 : decode cX11_talk 173 = .ok (.aload 8, 2) := by decide +kernel
theorem dX11_talk_175 : decode cX11_talk 175 = .ok (.getfield 303, 3) := by decide +kernel
theorem dX11_talk_178 : decode cX11_talk 178 = .ok (.iload 9, 2) := by decide +kernel
theorem dX11_talk_180 : decode cX11_talk 180 = .ok (.aload_n 0, 1) := by decide +kernel
theorem dX11_talk_181 : decode cX11_talk 181 = .ok (.getfield 87, 3) := by decide +kernel
theorem dX11_talk_184 : decode cX11_talk 184 = .ok (.iload 9, 2) := by decide +kernel
theorem dX11_talk_186 : decode cX11_talk 186 = .ok (.iaload, 1) := by decide +kernel
theorem dX11_talk_187 : decode cX11_talk 187 = .ok (.ifCond .ge 7, 3) := by decide +kernel
theorem dX11_talk_190 : decode cX11_talk 190 = .ok (.iconst 1, 1) := by decide +kernel
theorem dX11_talk_191 : decode cX11_talk 191 = .ok (.goto 4, 3) := by decide +kernel
theorem dX11_talk_194 : decode cX11_talk 194 = .ok (.iconst 0, 1) := by decide +kernel
theorem dX11_talk_195 : decode cX11_talk 195 = .ok (.i2b, 1) := by decide +kernel
theorem dX11_talk_196 : decode cX11_talk 196 = .ok (.bastore, 1) := by decide +kernel
theorem dX11_talk_197 : decode cX11_talk 197 = .ok (.iinc 9 1, 3) := by decide +kernel
theorem dX11_talk_200 : decode cX11_talk 200 = .ok (.goto (-49), 3) := by decide +kernel
theorem dX11_talk_203 : decode cX11_talk 203 = .ok (.aload_n 0, 1) := by decide +kernel
theorem dX11_talk_204 : decode cX11_talk 204 = .ok (.getfield 49, 3) := by decide +kernel
theorem dX11_talk_207 : decode cX11_talk 207 = .ok (.invokevirtual 307, 3) := by decide +kernel
theorem dX11_talk_210 : decode cX11_talk 210 = .ok (.pop, 1) := by decide +kernel
theorem dX11_talk_211 : decode cX11_talk 211 = .ok (.iload 7, 2) := by decide +kernel
theorem dX11_talk_213 : decode cX11_talk 213 = .ok (.ireturn, 1) := by decide +kernel
theorem dX11_agreed_0 : decode cX11_agreed 0 = .ok (.aload_n 0, 1) := by decide +kernel
theorem dX11_agreed_1 : decode cX11_agreed 1 = .ok (.getfield 94, 3) := by decide +kernel
theorem dX11_agreed_4 : decode cX11_agreed 4 = .ok (.ireturn, 1) := by decide +kernel
theorem dX11_seems_0 : decode cX11_seems 0 = .ok (.iload_n 1, 1) := by decide +kernel
theorem dX11_seems_1 : decode cX11_seems 1 = .ok (.ifCond .lt 11, 3) := by decide +kernel
theorem dX11_seems_4 : decode cX11_seems 4 = .ok (.iload_n 1, 1) := by decide +kernel
theorem dX11_seems_5 : decode cX11_seems 5 = .ok (.aload_n 0, 1) := by decide +kernel
theorem dX11_seems_6 : decode cX11_seems 6 = .ok (.getfield 91, 3) := by decide +kernel
theorem dX11_seems_9 : decode cX11_seems 9 = .ok (.if_icmp .lt 14, 3) := by decide +kernel
theorem dX11_seems_12 : decode cX11_seems 12 = .ok (.new 167, 3) := by decide +kernel
theorem dX11_seems_15 : decode cX11_seems 15 = .ok (.dup, 1) := by decide +kernel
theorem dX11_seems_16 : decode cX11_seems 16 = .ok (.ldc_w 310, 3) := by decide +kernel
theorem dX11_seems_19 : decode cX11_seems 19 = .ok (.invokespecial 171, 3) := by decide +kernel
theorem dX11_seems_22 : decode cX11_seems 22 = .ok (.athrow, 1) := by decide +kernel
theorem dX11_seems_23 : decode cX11_seems 23 = .ok (.aload_n 0, 1) := by decide +kernel
theorem dX11_seems_24 : decode cX11_seems 24 = .ok (.getfield 87, 3) := by decide +kernel
theorem dX11_seems_27 : decode cX11_seems 27 = .ok (.iload_n 1, 1) := by decide +kernel
theorem dX11_seems_28 : decode cX11_seems 28 = .ok (.iaload, 1) := by decide +kernel
theorem dX11_seems_29 : decode cX11_seems 29 = .ok (.ireturn, 1) := by decide +kernel
theorem dX11_way_0 : decode cX11_way 0 = .ok (.aload_n 0, 1) := by decide +kernel
theorem dX11_way_1 : decode cX11_way 1 = .ok (.iload_n 1, 1) := by decide +kernel
theorem dX11_way_2 : decode cX11_way 2 = .ok (.invokevirtual 312, 3) := by decide +kernel
theorem dX11_way_5 : decode cX11_way 5 = .ok (.astore_n 3, 1) := by decide +kernel
theorem dX11_way_6 : decode cX11_way 6 = .ok (.iload_n 2, 1) := by decide +kernel
theorem dX11_way_7 : decode cX11_way 7 = .ok (.bipush (-3), 2) := by decide +kernel
theorem dX11_way_9 : decode cX11_way 9 = .ok (.if_icmp .lt 11, 3) := by decide +kernel
theorem dX11_way_12 : decode cX11_way 12 = .ok (.iload_n 2, 1) := by decide +kernel
theorem dX11_way_13 : decode cX11_way 13 = .ok (.aload_n 3, 1) := by decide +kernel
theorem dX11_way_14 : decode cX11_way 14 = .ok (.getfield 315, 3) := by decide +kernel
theorem dX11_way_17 : decode cX11_way 17 = .ok (.if_icmp .lt 14, 3) := by decide +kernel
theorem dX11_way_20 : decode cX11_way 20 = .ok (.new 167, 3) := by decide +kernel
theorem dX11_way_23 : decode cX11_way 23 = .ok (.dup, 1) := by decide +kernel
theorem dX11_way_24 : decode cX11_way 24 = .ok (.ldc_w 317, 3) := by decide +kernel
theorem dX11_way_27 : decode cX11_way 27 = .ok (.invokespecial 171, 3) := by decide +kernel
theorem dX11_way_30 : decode cX11_way 30 = .ok (.athrow, 1) := by decide +kernel
theorem dX11_way_31 : decode cX11_way 31 = .ok (.iload_n 2, 1) := by decide +kernel
theorem dX11_way_32 : decode cX11_way 32 = .ok (.tableswitch 43 (-3) (-1) #[38, 33, 28], 28) := by decide +kernel
theorem dX11_way_60 : decode cX11_way 60 = .ok (.aload_n 3, 1) := by decide +kernel
theorem dX11_way_61 : decode cX11_way 61 = .ok (.getfield 257, 3) := by decide +kernel
theorem dX11_way_64 : decode cX11_way 64 = .ok (.ireturn, 1) := by decide +kernel
theorem dX11_way_65 : decode cX11_way 65 = .ok (.aload_n 3, 1) := by decide +kernel
theorem dX11_way_66 : decode cX11_way 66 = .ok (.getfield 319, 3) := by decide +kernel
theorem dX11_way_69 : decode cX11_way 69 = .ok (.ireturn, 1) := by decide +kernel
theorem dX11_way_70 : decode cX11_way 70 = .ok (.aload_n 3, 1) := by decide +kernel
theorem dX11_way_71 : decode cX11_way 71 = .ok (.getfield 315, 3) := by decide +kernel
theorem dX11_way_74 : decode cX11_way 74 = .ok (.ireturn, 1) := by decide +kernel
theorem dX11_way_75 : decode cX11_way 75 = .ok (.aload_n 3, 1) := by decide +kernel
theorem dX11_way_76 : decode cX11_way 76 = .ok (.getfield 303, 3) := by decide +kernel
theorem dX11_way_79 : decode cX11_way 79 = .ok (.iload_n 2, 1) := by decide +kernel
theorem dX11_way_80 : decode cX11_way 80 = .ok (.baload, 1) := by decide +kernel
theorem dX11_way_81 : decode cX11_way 81 = .ok (.ireturn, 1) := by decide +kernel
theorem dX11_take_0 : decode cX11_take 0 = .ok (.aload_n 0, 1) := by decide +kernel
theorem dX11_take_1 : decode cX11_take 1 = .ok (.iload_n 2, 1) := by decide +kernel
theorem dX11_take_2 : decode cX11_take 2 = .ok (.invokevirtual 99, 3) := by decide +kernel
theorem dX11_take_5 : decode cX11_take 5 = .ok (.astore_n 3, 1) := by decide +kernel
theorem dX11_take_6 : decode cX11_take 6 = .ok (.aload_n 0, 1) := by decide +kernel
theorem dX11_take_7 : decode cX11_take 7 = .ok (.iload_n 1, 1) := by decide +kernel
theorem dX11_take_8 : decode cX11_take 8 = .ok (.invokevirtual 312, 3) := by decide +kernel
theorem dX11_take_11 : decode cX11_take 11 = .ok (.astore 4, 2) := by decide +kernel
theorem dX11_take_13 : decode cX11_take 13 = .ok (.aload_n 3, 1) := by decide +kernel
theorem dX11_take_14 : decode cX11_take 14 = .ok (.aload 4, 2) := by decide +kernel
theorem dX11_take_16 : decode cX11_take 16 = .ok (.getfield 315, 3) := by decide +kernel
theorem dX11_take_19 : decode cX11_take 19 = .ok (.invokevirtual 114, 3) := by decide +kernel
theorem dX11_take_22 : decode cX11_take 22 = .ok (.iconst 0, 1) := by decide +kernel
theorem dX11_take_23 : decode cX11_take 23 = .ok (.istore 5, 2) := by decide +kernel
theorem dX11_take_25 : decode cX11_take 25 = .ok (.iload 5, 2) := by decide +kernel
theorem dX11_take_27 : decode cX11_take 27 = .ok (.aload 4, 2) := by decide +kernel
theorem dX11_take_29 : decode cX11_take 29 = .ok (.getfield 315, 3) := by decide +kernel
theorem dX11_take_32 : decode cX11_take 32 = .ok (.if_icmp .ge 23, 3) := by decide +kernel
theorem dX11_take_35 : decode cX11_take 35 = .ok (.aload_n 3, 1) := by decide +kernel
theorem dX11_take_36 : decode cX11_take 36 = .ok (.iload 5, 2) := by decide +kernel
theorem dX11_take_38 : decode cX11_take 38 = .ok (.aload 4, 2) := by decide +kernel
theorem dX11_take_40 : decode cX11_take 40 = .ok (.getfield 303, 3) := by decide +kernel
theorem dX11_take_43 : decode cX11_take 43 = .ok (.iload 5, 2) := by decide +kernel
theorem dX11_take_45 : decode cX11_take 45 = .ok (.baload, 1) := by decide +kernel
theorem dX11_take_46 : decode cX11_take 46 = .ok (.invokevirtual 128, 3) := by decide +kernel
theorem dX11_take_49 : decode cX11_take 49 = .ok (.iinc 5 1, 3) := by decide +kernel
theorem dX11_take_52 : decode cX11_take 52 = .ok (.goto (-27), 3) := by decide +kernel
theorem dX11_take_55 : decode cX11_take 55 = .ok (.aload 4, 2) := by decide +kernel
theorem dX11_take_57 : decode cX11_take 57 = .ok (.getfield 315, 3) := by decide +kernel
theorem dX11_take_60 : decode cX11_take 60 = .ok (.ireturn, 1) := by decide +kernel
theorem dX11_bad_0 : decode cX11_bad 0 = .ok (.aload_n 0, 1) := by decide +kernel
theorem dX11_bad_1 : decode cX11_bad 1 = .ok (.getfield 83, 3) := by decide +kernel
theorem dX11_bad_4 : decode cX11_bad 4 = .ok (.aload_n 0, 1) := by decide +kernel
theorem dX11_bad_5 : decode cX11_bad 5 = .ok (.iload_n 1, 1) := by decide +kernel
theorem dX11_bad_6 : decode cX11_bad 6 = .ok (.invokevirtual 322, 3) := by decide +kernel
theorem dX11_bad_9 : decode cX11_bad 9 = .ok (.invokevirtual 325, 3) := by decide +kernel
theorem dX11_bad_12 : decode cX11_bad 12 = .ok (.aload_n 0, 1) := by decide +kernel
theorem dX11_bad_13 : decode cX11_bad 13 = .ok (.getfield 83, 3) := by decide +kernel
theorem dX11_bad_16 : decode cX11_bad 16 = .ok (.invokevirtual 327, 3) := by decide +kernel
theorem dX11_bad_19 : decode cX11_bad 19 = .ok (.ireturn, 1) := by decide +kernel
theorem dX11_free_0 : decode cX11_free 0 = .ok (.aload_n 0, 1) := by decide +kernel
theorem dX11_free_1 : decode cX11_free 1 = .ok (.getfield 83, 3) := by decide +kernel
theorem dX11_free_4 : decode cX11_free 4 = .ok (.aload_n 0, 1) := by decide +kernel
theorem dX11_free_5 : decode cX11_free 5 = .ok (.iload_n 1, 1) := by decide +kernel
theorem dX11_free_6 : decode cX11_free 6 = .ok (.invokevirtual 322, 3) := by decide +kernel
theorem dX11_free_9 : decode cX11_free 9 = .ok (.invokevirtual 325, 3) := by decide +kernel
theorem dX11_free_12 : decode cX11_free 12 = .ok (.aload_n 0, 1) := by decide +kernel
theorem dX11_free_13 : decode cX11_free 13 = .ok (.getfield 83, 3) := by decide +kernel
theorem dX11_free_16 : decode cX11_free 16 = .ok (.invokevirtual 327, 3) := by decide +kernel
theorem dX11_free_19 : decode cX11_free 19 = .ok (.ifCond .eq 7, 3) := by decide +kernel
theorem dX11_free_22 : decode cX11_free 22 = .ok (.iconst (-1), 1) := by decide +kernel
theorem dX11_free_23 : decode cX11_free 23 = .ok (.goto 10, 3) := by decide +kernel
theorem dX11_free_26 : decode cX11_free 26 = .ok (.aload_n 0, 1) := by decide +kernel
theorem dX11_free_27 : decode cX11_free 27 = .ok (.getfield 83, 3) := by decide +kernel
theorem dX11_free_30 : decode cX11_free 30 = .ok (.invokevirtual 330, 3) := by decide +kernel
theorem dX11_free_33 : decode cX11_free 33 = .ok (.ireturn, 1) := by decide +kernel
theorem dX11_weights_0 : decode cX11_weights 0 = .ok (.aload_n 0, 1) := by decide +kernel
theorem dX11_weights_1 : decode cX11_weights 1 = .ok (.iload_n 1, 1) := by decide +kernel
theorem dX11_weights_2 : decode cX11_weights 2 = .ok (.invokevirtual 322, 3) := by decide +kernel
theorem dX11_weights_5 : decode cX11_weights 5 = .ok (.astore_n 3, 1) := by decide +kernel
theorem dX11_weights_6 : decode cX11_weights 6 = .ok (.iload_n 2, 1) := by decide +kernel
theorem dX11_weights_7 : decode cX11_weights 7 = .ok (.ifCond .lt 9, 3) := by decide +kernel
theorem dX11_weights_10 : decode cX11_weights 10 = .ok (.iload_n 2, 1) := by decide +kernel
theorem dX11_weights_11 : decode cX11_weights 11 = .ok (.bipush 30, 2) := by decide +kernel
theorem dX11_weights_13 : decode cX11_weights 13 = .ok (.if_icmp .le 14, 3) := by decide +kernel
theorem dX11_weights_16 : decode cX11_weights 16 = .ok (.new 103, 3) := by decide +kernel
theorem dX11_weights_19 : decode cX11_weights 19 = .ok (.dup, 1) := by decide +kernel
theorem dX11_weights_20 : decode cX11_weights 20 = .ok (.ldc_w 333, 3) := by decide +kernel
theorem dX11_weights_23 : decode cX11_weights 23 = .ok (.invokespecial 107, 3) := by decide +kernel
theorem dX11_weights_26 : decode cX11_weights 26 = .ok (.athrow, 1) := by decide +kernel
theorem dX11_weights_27 : decode cX11_weights 27 = .ok (.aload_n 0, 1) := by decide +kernel
theorem dX11_weights_28 : decode cX11_weights 28 = .ok (.getfield 83, 3) := by decide +kernel
theorem dX11_weights_31 : decode cX11_weights 31 = .ok (.aload_n 3, 1) := by decide +kernel
theorem dX11_weights_32 : decode cX11_weights 32 = .ok (.invokevirtual 325, 3) := by decide +kernel
theorem dX11_weights_35 : decode cX11_weights 35 = .ok (.aload_n 0, 1) := by decide +kernel
theorem dX11_weights_36 : decode cX11_weights 36 = .ok (.getfield 83, 3) := by decide +kernel
theorem dX11_weights_39 : decode cX11_weights 39 = .ok (.invokevirtual 327, 3) := by decide +kernel
theorem dX11_weights_42 : decode cX11_weights 42 = .ok (.ifCond .eq 9, 3) := by decide +kernel
theorem dX11_weights_45 : decode cX11_weights 45 = .ok (.ldc2_w 335, 3) := by decide +kernel
theorem dX11_weights_48 : decode cX11_weights 48 = .ok (.goto 11, 3) := by decide +kernel
theorem dX11_weights_51 : decode cX11_weights 51 = .ok (.aload_n 0, 1) := by decide +kernel
theorem dX11_weights_52 : decode cX11_weights 52 = .ok (.getfield 83, 3) := by decide +kernel
theorem dX11_weights_55 : decode cX11_weights 55 = .ok (.iload_n 2, 1) := by decide +kernel
theorem dX11_weights_56 : decode cX11_weights 56 = .ok (.invokevirtual 337, 3) := by decide +kernel
theorem dX11_weights_59 : decode cX11_weights 59 = .ok (.lreturn, 1) := by decide +kernel
theorem dX11_about_0 : decode cX11_about 0 = .ok (.aload_n 0, 1) := by decide +kernel
theorem dX11_about_1 : decode cX11_about 1 = .ok (.iload_n 1, 1) := by decide +kernel
theorem dX11_about_2 : decode cX11_about 2 = .ok (.invokevirtual 160, 3) := by decide +kernel
theorem dX11_about_5 : decode cX11_about 5 = .ok (.astore_n 3, 1) := by decide +kernel
theorem dX11_about_6 : decode cX11_about 6 = .ok (.iload_n 2, 1) := by decide +kernel
theorem dX11_about_7 : decode cX11_about 7 = .ok (.tableswitch 76 0 6 #[41, 46, 51, 56, 61, 66, 71], 41) := by decide +kernel
theorem dX11_about_48 : decode cX11_about 48 = .ok (.aload_n 3, 1) := by decide +kernel
theorem dX11_about_49 : decode cX11_about 49 = .ok (.getfield 207, 3) := by decide +kernel
theorem dX11_about_52 : decode cX11_about 52 = .ok (.ireturn, 1) := by decide +kernel
theorem dX11_about_53 : decode cX11_about 53 = .ok (.aload_n 3, 1) := by decide +kernel
theorem dX11_about_54 : decode cX11_about 54 = .ok (.getfield 177, 3) := by decide +kernel
theorem dX11_about_57 : decode cX11_about 57 = .ok (.ireturn, 1) := by decide +kernel
theorem dX11_about_58 : decode cX11_about 58 = .ok (.aload_n 3, 1) := by decide +kernel
theorem dX11_about_59 : decode cX11_about 59 = .ok (.getfield 172, 3) := by decide +kernel
theorem dX11_about_62 : decode cX11_about 62 = .ok (.ireturn, 1) := by decide +kernel
theorem dX11_about_63 : decode cX11_about 63 = .ok (.aload_n 3, 1) := by decide +kernel
theorem dX11_about_64 : decode cX11_about 64 = .ok (.invokevirtual 341, 3) := by decide +kernel
theorem dX11_about_67 : decode cX11_about 67 = .ok (.ireturn, 1) := by decide +kernel
theorem dX11_about_68 : decode cX11_about 68 = .ok (.aload_n 3, 1) := by decide +kernel
theorem dX11_about_69 : decode cX11_about 69 = .ok (.getfield 183, 3) := by decide +kernel
theorem dX11_about_72 : decode cX11_about 72 = .ok (.ireturn, 1) := by decide +kernel
theorem dX11_about_73 : decode cX11_about 73 = .ok (.aload_n 3, 1) := by decide +kernel
theorem dX11_about_74 : decode cX11_about 74 = .ok (.getfield 201, 3) := by decide +kernel
theorem dX11_about_77 : decode cX11_about 77 = .ok (.ireturn, 1) := by decide +kernel
theorem dX11_about_78 : decode cX11_about 78 = .ok (.aload_n 3, 1) := by decide +kernel
theorem dX11_about_79 : decode cX11_about 79 = .ok (.getfield 214, 3) := by decide +kernel
theorem dX11_about_82 : decode cX11_about 82 = .ok (.ireturn, 1) := by decide +kernel
theorem dX11_about_83 : decode cX11_about 83 = .ok (.aload_n 3, 1) := by decide +kernel
theorem dX11_about_84 : decode cX11_about 84 = .ok (.iload_n 2, 1) := by decide +kernel
theorem dX11_about_85 : decode cX11_about 85 = .ok (.invokevirtual 344, 3) := by decide +kernel
theorem dX11_about_88 : decode cX11_about 88 = .ok (.ireturn, 1) := by decide +kernel
theorem dX11_rowOf_0 : decode cX11_rowOf 0 = .ok (.iload_n 1, 1) := by decide +kernel
theorem dX11_rowOf_1 : decode cX11_rowOf 1 = .ok (.ifCond .lt 18, 3) := by decide +kernel
theorem dX11_rowOf_4 : decode cX11_rowOf 4 = .ok (.iload_n 1, 1) := by decide +kernel
theorem dX11_rowOf_5 : decode cX11_rowOf 5 = .ok (.bipush 16, 2) := by decide +kernel
theorem dX11_rowOf_7 : decode cX11_rowOf 7 = .ok (.if_icmp .ge 12, 3) := by decide +kernel
theorem dX11_rowOf_10 : decode cX11_rowOf 10 = .ok (.aload_n 0, 1) := by decide +kernel
theorem dX11_rowOf_11 : decode cX11_rowOf 11 = .ok (.getfield 11, 3) := by decide +kernel
theorem dX11_rowOf_14 : decode cX11_rowOf 14 = .ok (.iload_n 1, 1) := by decide +kernel
theorem dX11_rowOf_15 : decode cX11_rowOf 15 = .ok (.aaload, 1) := by decide +kernel
theorem dX11_rowOf_16 : decode cX11_rowOf 16 = .ok (.goto 4, 3) := by decide +kernel
theorem dX11_rowOf_19 : decode cX11_rowOf 19 = .ok (.aconst_null, 1) := by decide +kernel
theorem dX11_rowOf_20 : decode cX11_rowOf 20 = .ok (.astore_n 2, 1) := by decide +kernel
theorem dX11_rowOf_21 : decode cX11_rowOf 21 = .ok (.aload_n 2, 1) := by decide +kernel
theorem dX11_rowOf_22 : decode cX11_rowOf 22 = .ok (.ifnonnull 14, 3) := by decide +kernel
theorem dX11_rowOf_25 : decode cX11_rowOf 25 = .ok (.new 347, 3) := by decide +kernel
theorem dX11_rowOf_28 : decode cX11_rowOf 28 = .ok (.dup, 1) := by decide +kernel
theorem dX11_rowOf_29 : decode cX11_rowOf 29 = .ok (.ldc_w 349, 3) := by decide +kernel
theorem dX11_rowOf_32 : decode cX11_rowOf 32 = .ok (.invokespecial 351, 3) := by decide +kernel
theorem dX11_rowOf_35 : decode cX11_rowOf 35 = .ok (.athrow, 1) := by decide +kernel
theorem dX11_rowOf_36 : decode cX11_rowOf 36 = .ok (.aload_n 2, 1) := by decide +kernel
theorem dX11_rowOf_37 : decode cX11_rowOf 37 = .ok (.areturn, 1) := by decide +kernel
theorem dX11_rowThere_0 : decode cX11_rowThere 0 = .ok (.aload_n 0, 1) := by decide +kernel
theorem dX11_rowThere_1 : decode cX11_rowThere 1 = .ok (.iload_n 1, 1) := by decide +kernel
theorem dX11_rowThere_2 : decode cX11_rowThere 2 = .ok (.invokevirtual 99, 3) := by decide +kernel
theorem dX11_rowThere_5 : decode cX11_rowThere 5 = .ok (.astore_n 2, 1) := by decide +kernel
theorem dX11_rowThere_6 : decode cX11_rowThere 6 = .ok (.aload_n 2, 1) := by decide +kernel
theorem dX11_rowThere_7 : decode cX11_rowThere 7 = .ok (.invokevirtual 110, 3) := by decide +kernel
theorem dX11_rowThere_10 : decode cX11_rowThere 10 = .ok (.ifCond .eq 14, 3) := by decide +kernel
theorem dX11_rowThere_13 : decode cX11_rowThere 13 = .ok (.new 167, 3) := by decide +kernel
theorem dX11_rowThere_16 : decode cX11_rowThere 16 = .ok (.dup, 1) := by decide +kernel
theorem dX11_rowThere_17 : decode cX11_rowThere 17 = .ok (.ldc_w 352, 3) := by decide +kernel
theorem dX11_rowThere_20 : decode cX11_rowThere 20 = .ok (.invokespecial 171, 3) := by decide +kernel
theorem dX11_rowThere_23 : decode cX11_rowThere 23 = .ok (.athrow, 1) := by decide +kernel
theorem dX11_rowThere_24 : decode cX11_rowThere 24 = .ok (.aload_n 2, 1) := by decide +kernel
theorem dX11_rowThere_25 : decode cX11_rowThere 25 = .ok (.areturn, 1) := by decide +kernel
theorem dX11_rowWithNumber_0 : decode cX11_rowWithNumber 0 = .ok (.aload_n 0, 1) := by decide +kernel
theorem dX11_rowWithNumber_1 : decode cX11_rowWithNumber 1 = .ok (.iload_n 1, 1) := by decide +kernel
theorem dX11_rowWithNumber_2 : decode cX11_rowWithNumber 2 = .ok (.invokevirtual 132, 3) := by decide +kernel
theorem dX11_rowWithNumber_5 : decode cX11_rowWithNumber 5 = .ok (.astore_n 3, 1) := by decide +kernel
theorem dX11_rowWithNumber_6 : decode cX11_rowWithNumber 6 = .ok (.aload_n 3, 1) := by decide +kernel
theorem dX11_rowWithNumber_7 : decode cX11_rowWithNumber 7 = .ok (.iload_n 2, 1) := by decide +kernel
theorem dX11_rowWithNumber_8 : decode cX11_rowWithNumber 8 = .ok (.invokevirtual 354, 3) := by decide +kernel
theorem dX11_rowWithNumber_11 : decode cX11_rowWithNumber 11 = .ok (.ifCond .ne 14, 3) := by decide +kernel
theorem dX11_rowWithNumber_14 : decode cX11_rowWithNumber 14 = .ok (.new 347, 3) := by decide +kernel
theorem dX11_rowWithNumber_17 : decode cX11_rowWithNumber 17 = .ok (.dup, 1) := by decide +kernel
theorem dX11_rowWithNumber_18 : decode cX11_rowWithNumber 18 = .ok (.ldc_w 357, 3) := by decide +kernel
theorem dX11_rowWithNumber_21 : decode cX11_rowWithNumber 21 = .ok (.invokespecial 351, 3) := by decide +kernel
theorem dX11_rowWithNumber_24 : decode cX11_rowWithNumber 24 = .ok (.athrow, 1) := by decide +kernel
theorem dX11_rowWithNumber_25 : decode cX11_rowWithNumber 25 = .ok (.aload_n 3, 1) := by decide +kernel
theorem dX11_rowWithNumber_26 : decode cX11_rowWithNumber 26 = .ok (.areturn, 1) := by decide +kernel
theorem dX11_codeOf_0 : decode cX11_codeOf 0 = .ok (.iload_n 1, 1) := by decide +kernel
theorem dX11_codeOf_1 : decode cX11_codeOf 1 = .ok (.ifCond .lt 20, 3) := by decide +kernel
theorem dX11_codeOf_4 : decode cX11_codeOf 4 = .ok (.iload_n 1, 1) := by decide +kernel
theorem dX11_codeOf_5 : decode cX11_codeOf 5 = .ok (.aload_n 0, 1) := by decide +kernel
theorem dX11_codeOf_6 : decode cX11_codeOf 6 = .ok (.getfield 21, 3) := by decide +kernel
theorem dX11_codeOf_9 : decode cX11_codeOf 9 = .ok (.if_icmp .ge 12, 3) := by decide +kernel
theorem dX11_codeOf_12 : decode cX11_codeOf 12 = .ok (.aload_n 0, 1) := by decide +kernel
theorem dX11_codeOf_13 : decode cX11_codeOf 13 = .ok (.getfield 17, 3) := by decide +kernel
theorem dX11_codeOf_16 : decode cX11_codeOf 16 = .ok (.iload_n 1, 1) := by decide +kernel
theorem dX11_codeOf_17 : decode cX11_codeOf 17 = .ok (.aaload, 1) := by decide +kernel
theorem dX11_codeOf_18 : decode cX11_codeOf 18 = .ok (.goto 4, 3) := by decide +kernel
theorem dX11_codeOf_21 : decode cX11_codeOf 21 = .ok (.aconst_null, 1) := by decide +kernel
theorem dX11_codeOf_22 : decode cX11_codeOf 22 = .ok (.astore_n 2, 1) := by decide +kernel
theorem dX11_codeOf_23 : decode cX11_codeOf 23 = .ok (.aload_n 2, 1) := by decide +kernel
theorem dX11_codeOf_24 : decode cX11_codeOf 24 = .ok (.ifnonnull 14, 3) := by decide +kernel
theorem dX11_codeOf_27 : decode cX11_codeOf 27 = .ok (.new 347, 3) := by decide +kernel
theorem dX11_codeOf_30 : decode cX11_codeOf 30 = .ok (.dup, 1) := by decide +kernel
theorem dX11_codeOf_31 : decode cX11_codeOf 31 = .ok (.ldc_w 359, 3) := by decide +kernel
theorem dX11_codeOf_34 : decode cX11_codeOf 34 = .ok (.invokespecial 351, 3) := by decide +kernel
theorem dX11_codeOf_37 : decode cX11_codeOf 37 = .ok (.athrow, 1) := by decide +kernel
theorem dX11_codeOf_38 : decode cX11_codeOf 38 = .ok (.aload_n 2, 1) := by decide +kernel
theorem dX11_codeOf_39 : decode cX11_codeOf 39 = .ok (.areturn, 1) := by decide +kernel
theorem dX11_codeWithWeight_0 : decode cX11_codeWithWeight 0 = .ok (.aload_n 0, 1) := by decide +kernel
theorem dX11_codeWithWeight_1 : decode cX11_codeWithWeight 1 = .ok (.iload_n 1, 1) := by decide +kernel
theorem dX11_codeWithWeight_2 : decode cX11_codeWithWeight 2 = .ok (.invokevirtual 160, 3) := by decide +kernel
theorem dX11_codeWithWeight_5 : decode cX11_codeWithWeight 5 = .ok (.astore_n 2, 1) := by decide +kernel
theorem dX11_codeWithWeight_6 : decode cX11_codeWithWeight 6 = .ok (.aload_n 2, 1) := by decide +kernel
theorem dX11_codeWithWeight_7 : decode cX11_codeWithWeight 7 = .ok (.getfield 207, 3) := by decide +kernel
theorem dX11_codeWithWeight_10 : decode cX11_codeWithWeight 10 = .ok (.ifCond .eq 22, 3) := by decide +kernel
theorem dX11_codeWithWeight_13 : decode cX11_codeWithWeight 13 = .ok (.aload_n 2, 1) := by decide +kernel
theorem dX11_codeWithWeight_14 : decode cX11_codeWithWeight 14 = .ok (.getfield 207, 3) := by decide +kernel
theorem dX11_codeWithWeight_17 : decode cX11_codeWithWeight 17 = .ok (.iconst 1, 1) := by decide +kernel
theorem dX11_codeWithWeight_18 : decode cX11_codeWithWeight 18 = .ok (.if_icmp .eq 14, 3) := by decide +kernel
theorem dX11_codeWithWeight_21 : decode cX11_codeWithWeight 21 = .ok (.new 167, 3) := by decide +kernel
theorem dX11_codeWithWeight_24 : decode cX11_codeWithWeight 24 = .ok (.dup, 1) := by decide +kernel
theorem dX11_codeWithWeight_25 : decode cX11_codeWithWeight 25 = .ok (.ldc_w 361, 3) := by decide +kernel
theorem dX11_codeWithWeight_28 : decode cX11_codeWithWeight 28 = .ok (.invokespecial 171, 3) := by decide +kernel
theorem dX11_codeWithWeight_31 : decode cX11_codeWithWeight 31 = .ok (.athrow, 1) := by decide +kernel
theorem dX11_codeWithWeight_32 : decode cX11_codeWithWeight 32 = .ok (.aload_n 2, 1) := by decide +kernel
theorem dX11_codeWithWeight_33 : decode cX11_codeWithWeight 33 = .ok (.areturn, 1) := by decide +kernel
theorem dX11_wayOf_0 : decode cX11_wayOf 0 = .ok (.iload_n 1, 1) := by decide +kernel
theorem dX11_wayOf_1 : decode cX11_wayOf 1 = .ok (.ifCond .lt 25, 3) := by decide +kernel
theorem dX11_wayOf_4 : decode cX11_wayOf 4 = .ok (.iload_n 1, 1) := by decide +kernel
theorem dX11_wayOf_5 : decode cX11_wayOf 5 = .ok (.aload_n 0, 1) := by decide +kernel
theorem dX11_wayOf_6 : decode cX11_wayOf 6 = .ok (.getfield 49, 3) := by decide +kernel
theorem dX11_wayOf_9 : decode cX11_wayOf 9 = .ok (.invokevirtual 250, 3) := by decide +kernel
theorem dX11_wayOf_12 : decode cX11_wayOf 12 = .ok (.if_icmp .ge 14, 3) := by decide +kernel
theorem dX11_wayOf_15 : decode cX11_wayOf 15 = .ok (.aload_n 0, 1) := by decide +kernel
theorem dX11_wayOf_16 : decode cX11_wayOf 16 = .ok (.getfield 49, 3) := by decide +kernel
theorem dX11_wayOf_19 : decode cX11_wayOf 19 = .ok (.iload_n 1, 1) := by decide +kernel
theorem dX11_wayOf_20 : decode cX11_wayOf 20 = .ok (.invokevirtual 253, 3) := by decide +kernel
theorem dX11_wayOf_23 : decode cX11_wayOf 23 = .ok (.goto 4, 3) := by decide +kernel
theorem dX11_wayOf_26 : decode cX11_wayOf 26 = .ok (.aconst_null, 1) := by decide +kernel
theorem dX11_wayOf_27 : decode cX11_wayOf 27 = .ok (.astore_n 2, 1) := by decide +kernel
theorem dX11_wayOf_28 : decode cX11_wayOf 28 = .ok (.aload_n 2, 1) := by decide +kernel
theorem dX11_wayOf_29 : decode cX11_wayOf 29 = .ok (.ifnonnull 14, 3) := by decide +kernel
theorem dX11_wayOf_32 : decode cX11_wayOf 32 = .ok (.new 167, 3) := by decide +kernel
theorem dX11_wayOf_35 : decode cX11_wayOf 35 = .ok (.dup, 1) := by decide +kernel
theorem dX11_wayOf_36 : decode cX11_wayOf 36 = .ok (.ldc_w 363, 3) := by decide +kernel
theorem dX11_wayOf_39 : decode cX11_wayOf 39 = .ok (.invokespecial 171, 3) := by decide +kernel
theorem dX11_wayOf_42 : decode cX11_wayOf 42 = .ok (.athrow, 1) := by decide +kernel
theorem dX11_wayOf_43 : decode cX11_wayOf 43 = .ok (.aload_n 2, 1) := by decide +kernel
theorem dX11_wayOf_44 : decode cX11_wayOf 44 = .ok (.areturn, 1) := by decide +kernel
theorem dX11_demandOneWay_0 : decode cX11_demandOneWay 0 = .ok (.aload_n 0, 1) := by decide +kernel
theorem dX11_demandOneWay_1 : decode cX11_demandOneWay 1 = .ok (.getfield 207, 3) := by decide +kernel
theorem dX11_demandOneWay_4 : decode cX11_demandOneWay 4 = .ok (.iconst 5, 1) := by decide +kernel
theorem dX11_demandOneWay_5 : decode cX11_demandOneWay 5 = .ok (.if_icmp .ne 14, 3) := by decide +kernel
theorem dX11_demandOneWay_8 : decode cX11_demandOneWay 8 = .ok (.new 167, 3) := by decide +kernel
theorem dX11_demandOneWay_11 : decode cX11_demandOneWay 11 = .ok (.dup, 1) := by decide +kernel
theorem dX11_demandOneWay_12 : decode cX11_demandOneWay 12 = .ok (.ldc_w 365, 3) := by decide +kernel
theorem dX11_demandOneWay_15 : decode cX11_demandOneWay 15 = .ok (.invokespecial 171, 3) := by decide +kernel
theorem dX11_demandOneWay_18 : decode cX11_demandOneWay 18 = .ok (.athrow, 1) := by decide +kernel
theorem dX11_demandOneWay_19 : decode cX11_demandOneWay 19 = .ok (.return_, 1) := by decide +kernel
theorem dX11_demandBitCount_0 : decode cX11_demandBitCount 0 = .ok (.iload_n 0, 1) := by decide +kernel
theorem dX11_demandBitCount_1 : decode cX11_demandBitCount 1 = .ok (.iconst 1, 1) := by decide +kernel
theorem dX11_demandBitCount_2 : decode cX11_demandBitCount 2 = .ok (.if_icmp .lt 10, 3) := by decide +kernel
theorem dX11_demandBitCount_5 : decode cX11_demandBitCount 5 = .ok (.iload_n 0, 1) := by decide +kernel
theorem dX11_demandBitCount_6 : decode cX11_demandBitCount 6 = .ok (.sipush 200, 3) := by decide +kernel
theorem dX11_demandBitCount_9 : decode cX11_demandBitCount 9 = .ok (.if_icmp .le 14, 3) := by decide +kernel
theorem dX11_demandBitCount_12 : decode cX11_demandBitCount 12 = .ok (.new 103, 3) := by decide +kernel
theorem dX11_demandBitCount_15 : decode cX11_demandBitCount 15 = .ok (.dup, 1) := by decide +kernel
theorem dX11_demandBitCount_16 : decode cX11_demandBitCount 16 = .ok (.ldc_w 367, 3) := by decide +kernel
theorem dX11_demandBitCount_19 : decode cX11_demandBitCount 19 = .ok (.invokespecial 107, 3) := by decide +kernel
theorem dX11_demandBitCount_22 : decode cX11_demandBitCount 22 = .ok (.athrow, 1) := by decide +kernel
theorem dX11_demandBitCount_23 : decode cX11_demandBitCount 23 = .ok (.return_, 1) := by decide +kernel
theorem dX11_demandBits_0 : decode cX11_demandBits 0 = .ok (.iload_n 0, 1) := by decide +kernel
theorem dX11_demandBits_1 : decode cX11_demandBits 1 = .ok (.ifCond .lt 10, 3) := by decide +kernel
theorem dX11_demandBits_4 : decode cX11_demandBits 4 = .ok (.iload_n 0, 1) := by decide +kernel
theorem dX11_demandBits_5 : decode cX11_demandBits 5 = .ok (.iconst 1, 1) := by decide +kernel
theorem dX11_demandBits_6 : decode cX11_demandBits 6 = .ok (.iload_n 1, 1) := by decide +kernel
theorem dX11_demandBits_7 : decode cX11_demandBits 7 = .ok (.ishl, 1) := by decide +kernel
theorem dX11_demandBits_8 : decode cX11_demandBits 8 = .ok (.if_icmp .lt 14, 3) := by decide +kernel
theorem dX11_demandBits_11 : decode cX11_demandBits 11 = .ok (.new 103, 3) := by decide +kernel
theorem dX11_demandBits_14 : decode cX11_demandBits 14 = .ok (.dup, 1) := by decide +kernel
theorem dX11_demandBits_15 : decode cX11_demandBits 15 = .ok (.ldc_w 369, 3) := by decide +kernel
theorem dX11_demandBits_18 : decode cX11_demandBits 18 = .ok (.invokespecial 107, 3) := by decide +kernel
theorem dX11_demandBits_21 : decode cX11_demandBits 21 = .ok (.athrow, 1) := by decide +kernel
theorem dX11_demandBits_22 : decode cX11_demandBits 22 = .ok (.return_, 1) := by decide +kernel
theorem dX11_prepare_0 : decode cX11_prepare 0 = .ok (.aload_n 0, 1) := by decide +kernel
theorem dX11_prepare_1 : decode cX11_prepare 1 = .ok (.getfield 35, 3) := by decide +kernel
theorem dX11_prepare_4 : decode cX11_prepare 4 = .ok (.aload_n 1, 1) := by decide +kernel
theorem dX11_prepare_5 : decode cX11_prepare 5 = .ok (.iload_n 3, 1) := by decide +kernel
theorem dX11_prepare_6 : decode cX11_prepare 6 = .ok (.aload_n 2, 1) := by decide +kernel
theorem dX11_prepare_7 : decode cX11_prepare 7 = .ok (.invokevirtual 231, 3) := by decide +kernel
theorem dX11_prepare_10 : decode cX11_prepare 10 = .ok (.aload_n 0, 1) := by decide +kernel
theorem dX11_prepare_11 : decode cX11_prepare 11 = .ok (.getfield 42, 3) := by decide +kernel
theorem dX11_prepare_14 : decode cX11_prepare 14 = .ok (.aload_n 1, 1) := by decide +kernel
theorem dX11_prepare_15 : decode cX11_prepare 15 = .ok (.invokevirtual 281, 3) := by decide +kernel
theorem dX11_prepare_18 : decode cX11_prepare 18 = .ok (.iconst 0, 1) := by decide +kernel
theorem dX11_prepare_19 : decode cX11_prepare 19 = .ok (.istore 4, 2) := by decide +kernel
theorem dX11_prepare_21 : decode cX11_prepare 21 = .ok (.iload 4, 2) := by decide +kernel
theorem dX11_prepare_23 : decode cX11_prepare 23 = .ok (.aload_n 1, 1) := by decide +kernel
theorem dX11_prepare_24 : decode cX11_prepare 24 = .ok (.iload_n 3, 1) := by decide +kernel
theorem dX11_prepare_25 : decode cX11_prepare 25 = .ok (.invokevirtual 371, 3) := by decide +kernel
theorem dX11_prepare_28 : decode cX11_prepare 28 = .ok (.if_icmp .ge 77, 3) := by decide +kernel
theorem dX11_prepare_31 : decode cX11_prepare 31 = .ok (.aload_n 0, 1) := by decide +kernel
theorem dX11_prepare_32 : decode cX11_prepare 32 = .ok (.getfield 42, 3) := by decide +kernel
theorem dX11_prepare_35 : decode cX11_prepare 35 = .ok (.iload 4, 2) := by decide +kernel
theorem dX11_prepare_37 : decode cX11_prepare 37 = .ok (.invokevirtual 374, 3) := by decide +kernel
theorem dX11_prepare_40 : decode cX11_prepare 40 = .ok (.iconst 0, 1) := by decide +kernel
theorem dX11_prepare_41 : decode cX11_prepare 41 = .ok (.istore 5, 2) := by decide +kernel
theorem dX11_prepare_43 : decode cX11_prepare 43 = .ok (.iload 5, 2) := by decide +kernel
theorem dX11_prepare_45 : decode cX11_prepare 45 = .ok (.aload_n 1, 1) := by decide +kernel
theorem dX11_prepare_46 : decode cX11_prepare 46 = .ok (.getfield 172, 3) := by decide +kernel
theorem dX11_prepare_49 : decode cX11_prepare 49 = .ok (.if_icmp .ge 50, 3) := by decide +kernel
theorem dX11_prepare_52 : decode cX11_prepare 52 = .ok (.iload 4, 2) := by decide +kernel
theorem dX11_prepare_54 : decode cX11_prepare 54 = .ok (.bipush 7, 2) := by decide +kernel
theorem dX11_prepare_56 : decode cX11_prepare 56 = .ok (.imul, 1) := by decide +kernel
theorem dX11_prepare_57 : decode cX11_prepare 57 = .ok (.iload 5, 2) := by decide +kernel
theorem dX11_prepare_59 : decode cX11_prepare 59 = .ok (.iadd, 1) := by decide +kernel
theorem dX11_prepare_60 : decode cX11_prepare 60 = .ok (.istore 6, 2) := by decide +kernel
theorem dX11_prepare_62 : decode cX11_prepare 62 = .ok (.aload_n 0, 1) := by decide +kernel
theorem dX11_prepare_63 : decode cX11_prepare 63 = .ok (.getfield 42, 3) := by decide +kernel
theorem dX11_prepare_66 : decode cX11_prepare 66 = .ok (.iload 4, 2) := by decide +kernel
theorem dX11_prepare_68 : decode cX11_prepare 68 = .ok (.iload 5, 2) := by decide +kernel
theorem dX11_prepare_70 : decode cX11_prepare 70 = .ok (.aload_n 0, 1) := by decide +kernel
theorem dX11_prepare_71 : decode cX11_prepare 71 = .ok (.getfield 35, 3) := by decide +kernel
theorem dX11_prepare_74 : decode cX11_prepare 74 = .ok (.getfield 377, 3) := by decide +kernel
theorem dX11_prepare_77 : decode cX11_prepare 77 = .ok (.iload 6, 2) := by decide +kernel
theorem dX11_prepare_79 : decode cX11_prepare 79 = .ok (.iaload, 1) := by decide +kernel
theorem dX11_prepare_80 : decode cX11_prepare 80 = .ok (.aload_n 0, 1) := by decide +kernel
theorem dX11_prepare_81 : decode cX11_prepare 81 = .ok (.getfield 35, 3) := by decide +kernel
theorem dX11_prepare_84 : decode cX11_prepare 84 = .ok (.getfield 380, 3) := by decide +kernel
theorem dX11_prepare_87 : decode cX11_prepare 87 = .ok (.iload 6, 2) := by decide +kernel
theorem dX11_prepare_89 : decode cX11_prepare 89 = .ok (.iaload, 1) := by decide +kernel
theorem dX11_prepare_90 : decode cX11_prepare 90 = .ok (.invokevirtual 383, 3) := by decide +kernel
theorem dX11_prepare_93 : decode cX11_prepare 93 = .ok (.iinc 5 1, 3) := by decide +kernel
theorem dX11_prepare_96 : decode cX11_prepare 96 = .ok (.goto (-53), 3) := by decide +kernel
theorem dX11_prepare_99 : decode cX11_prepare 99 = .ok (.iinc 4 1, 3) := by decide +kernel
theorem dX11_prepare_102 : decode cX11_prepare 102 = .ok (.goto (-81), 3) := by decide +kernel
theorem dX11_prepare_105 : decode cX11_prepare 105 = .ok (.return_, 1) := by decide +kernel
theorem dX11_bounded_0 : decode cX11_bounded 0 = .ok (.iload_n 1, 1) := by decide +kernel
theorem dX11_bounded_1 : decode cX11_bounded 1 = .ok (.iload_n 2, 1) := by decide +kernel
theorem dX11_bounded_2 : decode cX11_bounded 2 = .ok (.iload_n 0, 1) := by decide +kernel
theorem dX11_bounded_3 : decode cX11_bounded 3 = .ok (.invokestatic 387, 3) := by decide +kernel
theorem dX11_bounded_6 : decode cX11_bounded 6 = .ok (.invokestatic 393, 3) := by decide +kernel
theorem dX11_bounded_9 : decode cX11_bounded 9 = .ok (.ireturn, 1) := by decide +kernel
theorem dX11_parity_0 : decode cX11_parity 0 = .ok (.iload_n 0, 1) := by decide +kernel
theorem dX11_parity_1 : decode cX11_parity 1 = .ok (.invokestatic 396, 3) := by decide +kernel
theorem dX11_parity_4 : decode cX11_parity 4 = .ok (.iconst 1, 1) := by decide +kernel
theorem dX11_parity_5 : decode cX11_parity 5 = .ok (.iand, 1) := by decide +kernel
theorem dX11_parity_6 : decode cX11_parity 6 = .ok (.ireturn, 1) := by decide +kernel
theorem dX2_init_0 : decode cX2_init 0 = .ok (.aload_n 0, 1) := by decide +kernel
theorem dX2_init_1 : decode cX2_init 1 = .ok (.invokespecial 3, 3) := by decide +kernel
theorem dX2_init_4 : decode cX2_init 4 = .ok (.aload_n 0, 1) := by decide +kernel
theorem dX2_init_5 : decode cX2_init 5 = .ok (.sipush 200, 3) := by decide +kernel
theorem dX2_init_8 : decode cX2_init 8 = .ok (.newarray .int, 2) := by decide +kernel
theorem dX2_init_10 : decode cX2_init 10 = .ok (.putfield 9, 3) := by decide +kernel
theorem dX2_init_13 : decode cX2_init 13 = .ok (.aload_n 0, 1) := by decide +kernel
theorem dX2_init_14 : decode cX2_init 14 = .ok (.sipush 1442, 3) := by decide +kernel
theorem dX2_init_17 : decode cX2_init 17 = .ok (.newarray .int, 2) := by decide +kernel
theorem dX2_init_19 : decode cX2_init 19 = .ok (.putfield 15, 3) := by decide +kernel
theorem dX2_init_22 : decode cX2_init 22 = .ok (.return_, 1) := by decide +kernel
theorem dX2_encode_0 : decode cX2_encode 0 = .ok (.iconst 0, 1) := by decide +kernel
theorem dX2_encode_1 : decode cX2_encode 1 = .ok (.istore 4, 2) := by decide +kernel
theorem dX2_encode_3 : decode cX2_encode 3 = .ok (.iload 4, 2) := by decide +kernel
theorem dX2_encode_5 : decode cX2_encode 5 = .ok (.iload_n 3, 1) := by decide +kernel
theorem dX2_encode_6 : decode cX2_encode 6 = .ok (.if_icmp .ge 22, 3) := by decide +kernel
theorem dX2_encode_9 : decode cX2_encode 9 = .ok (.aload_n 0, 1) := by decide +kernel
theorem dX2_encode_10 : decode cX2_encode 10 = .ok (.getfield 9, 3) := by decide +kernel
theorem dX2_encode_13 : decode cX2_encode 13 = .ok (.iload 4, 2) := by decide +kernel
theorem dX2_encode_15 : decode cX2_encode 15 = .ok (.aload_n 2, 1) := by decide +kernel
theorem dX2_encode_16 : decode cX2_encode 16 = .ok (.iload 4, 2) := by decide +kernel
theorem dX2_encode_18 : decode cX2_encode 18 = .ok (.invokevirtual 18, 3) := by decide +kernel
theorem dX2_encode_21 : decode cX2_encode 21 = .ok (.iastore, 1) := by decide +kernel
theorem dX2_encode_22 : decode cX2_encode 22 = .ok (.iinc 4 1, 3) := by decide +kernel
theorem dX2_encode_25 : decode cX2_encode 25 = .ok (.goto (-22), 3) := by decide +kernel
theorem dX2_encode_28 : decode cX2_encode 28 = .ok (.aload_n 1, 1) := by decide +kernel
theorem dX2_encode_29 : decode cX2_encode 29 = .ok (.getfield 24, 3) := by decide +kernel
theorem dX2_encode_32 : decode cX2_encode 32 = .ok (.iconst 4, 1) := by decide +kernel
theorem dX2_encode_33 : decode cX2_encode 33 = .ok (.if_icmp .ne 12, 3) := by decide +kernel
theorem dX2_encode_36 : decode cX2_encode 36 = .ok (.aload_n 0, 1) := by decide +kernel
theorem dX2_encode_37 : decode cX2_encode 37 = .ok (.aload_n 1, 1) := by decide +kernel
theorem dX2_encode_38 : decode cX2_encode 38 = .ok (.iload_n 3, 1) := by decide +kernel
theorem dX2_encode_39 : decode cX2_encode 39 = .ok (.invokevirtual 30, 3) := by decide +kernel
theorem dX2_encode_42 : decode cX2_encode 42 = .ok (.goto 4, 3) := by decide +kernel
theorem dX2_encode_45 : decode cX2_encode 45 = .ok (.iconst 0, 1) := by decide +kernel
theorem dX2_encode_46 : decode cX2_encode 46 = .ok (.istore 4, 2) := by decide +kernel
theorem dX2_encode_48 : decode cX2_encode 48 = .ok (.iload 4, 2) := by decide +kernel
theorem dX2_encode_50 : decode cX2_encode 50 = .ok (.iconst (-1), 1) := by decide +kernel
theorem dX2_encode_51 : decode cX2_encode 51 = .ok (.if_icmp .eq 19, 3) := by decide +kernel
theorem dX2_encode_54 : decode cX2_encode 54 = .ok (.aload_n 1, 1) := by decide +kernel
theorem dX2_encode_55 : decode cX2_encode 55 = .ok (.getfield 24, 3) := by decide +kernel
theorem dX2_encode_58 : decode cX2_encode 58 = .ok (.iconst 5, 1) := by decide +kernel
theorem dX2_encode_59 : decode cX2_encode 59 = .ok (.if_icmp .ne 13, 3) := by decide +kernel
theorem dX2_encode_62 : decode cX2_encode 62 = .ok (.aload_n 1, 1) := by decide +kernel
theorem dX2_encode_63 : decode cX2_encode 63 = .ok (.iload_n 3, 1) := by decide +kernel
theorem dX2_encode_64 : decode cX2_encode 64 = .ok (.invokevirtual 34, 3) := by decide +kernel
theorem dX2_encode_67 : decode cX2_encode 67 = .ok (.ifCond .ne 5, 3) := by decide +kernel
theorem dX2_encode_70 : decode cX2_encode 70 = .ok (.iconst 0, 1) := by decide +kernel
theorem dX2_encode_71 : decode cX2_encode 71 = .ok (.ireturn, 1) := by decide +kernel
theorem dX2_encode_72 : decode cX2_encode 72 = .ok (.aload_n 0, 1) := by decide +kernel
theorem dX2_encode_73 : decode cX2_encode 73 = .ok (.aload_n 1, 1) := by decide +kernel
theorem dX2_encode_74 : decode cX2_encode 74 = .ok (.iload_n 3, 1) := by decide +kernel
theorem dX2_encode_75 : decode cX2_encode 75 = .ok (.iload 4, 2) := by decide +kernel
theorem dX2_encode_77 : decode cX2_encode 77 = .ok (.invokevirtual 38, 3) := by decide +kernel
theorem dX2_encode_80 : decode cX2_encode 80 = .ok (.aload_n 1, 1) := by decide +kernel
theorem dX2_encode_81 : decode cX2_encode 81 = .ok (.getfield 24, 3) := by decide +kernel
theorem dX2_encode_84 : decode cX2_encode 84 = .ok (.iconst 5, 1) := by decide +kernel
theorem dX2_encode_85 : decode cX2_encode 85 = .ok (.if_icmp .ne 9, 3) := by decide +kernel
theorem dX2_encode_88 : decode cX2_encode 88 = .ok (.aload_n 0, 1) := by decide +kernel
theorem dX2_encode_89 : decode cX2_encode 89 = .ok (.aload_n 1, 1) := by decide +kernel
theorem dX2_encode_90 : decode cX2_encode 90 = .ok (.iload_n 3, 1) := by decide +kernel
theorem dX2_encode_91 : decode cX2_encode 91 = .ok (.invokevirtual 42, 3) := by decide +kernel
theorem dX2_encode_94 : decode cX2_encode 94 = .ok (.iconst 1, 1) := by decide +kernel
theorem dX2_encode_95 : decode cX2_encode 95 = .ok (.ireturn, 1) := by decide +kernel
theorem dX2_ringBeginning_0 : decode cX2_ringBeginning 0 = .ok (.iconst 0, 1) := by decide +kernel
theorem dX2_ringBeginning_1 : decode cX2_ringBeginning 1 = .ok (.istore_n 3, 1) := by decide +kernel
theorem dX2_ringBeginning_2 : decode cX2_ringBeginning 2 = .ok (.iload_n 3, 1) := by decide +kernel
theorem dX2_ringBeginning_3 : decode cX2_ringBeginning 3 = .ok (.aload_n 1, 1) := by decide +kernel
theorem dX2_ringBeginning_4 : decode cX2_ringBeginning 4 = .ok (.invokevirtual 46, 3) := by decide +kernel
theorem dX2_ringBeginning_7 : decode cX2_ringBeginning 7 = .ok (.if_icmp .ge 50, 3) := by decide +kernel
theorem dX2_ringBeginning_10 : decode cX2_ringBeginning 10 = .ok (.iload_n 3, 1) := by decide +kernel
theorem dX2_ringBeginning_11 : decode cX2_ringBeginning 11 = .ok (.istore 4, 2) := by decide +kernel
theorem dX2_ringBeginning_13 : decode cX2_ringBeginning 13 = .ok (.iconst 0, 1) := by decide +kernel
theorem dX2_ringBeginning_14 : decode cX2_ringBeginning 14 = .ok (.istore 5, 2) := by decide +kernel
theorem dX2_ringBeginning_16 : decode cX2_ringBeginning 16 = .ok (.iload 5, 2) := by decide +kernel
theorem dX2_ringBeginning_18 : decode cX2_ringBeginning 18 = .ok (.iload_n 2, 1) := by decide +kernel
theorem dX2_ringBeginning_19 : decode cX2_ringBeginning 19 = .ok (.if_icmp .ge 24, 3) := by decide +kernel
theorem dX2_ringBeginning_22 : decode cX2_ringBeginning 22 = .ok (.aload_n 1, 1) := by decide +kernel
theorem dX2_ringBeginning_23 : decode cX2_ringBeginning 23 = .ok (.iload 4, 2) := by decide +kernel
theorem dX2_ringBeginning_25 : decode cX2_ringBeginning 25 = .ok (.aload_n 0, 1) := by decide +kernel
theorem dX2_ringBeginning_26 : decode cX2_ringBeginning 26 = .ok (.getfield 9, 3) := by decide +kernel
theorem dX2_ringBeginning_29 : decode cX2_ringBeginning 29 = .ok (.iload 5, 2) := by decide +kernel
theorem dX2_ringBeginning_31 : decode cX2_ringBeginning 31 = .ok (.iaload, 1) := by decide +kernel
theorem dX2_ringBeginning_32 : decode cX2_ringBeginning 32 = .ok (.invokevirtual 50, 3) := by decide +kernel
theorem dX2_ringBeginning_35 : decode cX2_ringBeginning 35 = .ok (.istore 4, 2) := by decide +kernel
theorem dX2_ringBeginning_37 : decode cX2_ringBeginning 37 = .ok (.iinc 5 1, 3) := by decide +kernel
theorem dX2_ringBeginning_40 : decode cX2_ringBeginning 40 = .ok (.goto (-24), 3) := by decide +kernel
theorem dX2_ringBeginning_43 : decode cX2_ringBeginning 43 = .ok (.iload 4, 2) := by decide +kernel
theorem dX2_ringBeginning_45 : decode cX2_ringBeginning 45 = .ok (.iload_n 3, 1) := by decide +kernel
theorem dX2_ringBeginning_46 : decode cX2_ringBeginning 46 = .ok (.if_icmp .ne 5, 3) := by decide +kernel
theorem dX2_ringBeginning_49 : decode cX2_ringBeginning 49 = .ok (.iload_n 3, 1) := by decide +kernel
theorem dX2_ringBeginning_50 : decode cX2_ringBeginning 50 = .ok (.ireturn, 1) := by decide +kernel
theorem dX2_ringBeginning_51 : decode cX2_ringBeginning 51 = .ok (.iinc 3 1, 3) := by decide +kernel
theorem dX2_ringBeginning_54 : decode cX2_ringBeginning 54 = .ok (.goto (-52), 3) := by decide +kernel
theorem dX2_ringBeginning_57 : decode cX2_ringBeginning 57 = .ok (.iconst (-1), 1) := by decide +kernel
theorem dX2_ringBeginning_58 : decode cX2_ringBeginning 58 = .ok (.ireturn, 1) := by decide +kernel
theorem dX2_encodeFirst_0 : decode cX2_encodeFirst 0 = .ok (.iload_n 3, 1) := by decide +kernel
theorem dX2_encodeFirst_1 : decode cX2_encodeFirst 1 = .ok (.istore 4, 2) := by decide +kernel
theorem dX2_encodeFirst_3 : decode cX2_encodeFirst 3 = .ok (.iconst 0, 1) := by decide +kernel
theorem dX2_encodeFirst_4 : decode cX2_encodeFirst 4 = .ok (.istore 5, 2) := by decide +kernel
theorem dX2_encodeFirst_6 : decode cX2_encodeFirst 6 = .ok (.iload 5, 2) := by decide +kernel
theorem dX2_encodeFirst_8 : decode cX2_encodeFirst 8 = .ok (.aload_n 1, 1) := by decide +kernel
theorem dX2_encodeFirst_9 : decode cX2_encodeFirst 9 = .ok (.iload_n 2, 1) := by decide +kernel
theorem dX2_encodeFirst_10 : decode cX2_encodeFirst 10 = .ok (.invokevirtual 54, 3) := by decide +kernel
theorem dX2_encodeFirst_13 : decode cX2_encodeFirst 13 = .ok (.if_icmp .ge 91, 3) := by decide +kernel
theorem dX2_encodeFirst_16 : decode cX2_encodeFirst 16 = .ok (.iload 5, 2) := by decide +kernel
theorem dX2_encodeFirst_18 : decode cX2_encodeFirst 18 = .ok (.iload_n 2, 1) := by decide +kernel
theorem dX2_encodeFirst_19 : decode cX2_encodeFirst 19 = .ok (.if_icmp .ge 13, 3) := by decide +kernel
theorem dX2_encodeFirst_22 : decode cX2_encodeFirst 22 = .ok (.aload_n 0, 1) := by decide +kernel
theorem dX2_encodeFirst_23 : decode cX2_encodeFirst 23 = .ok (.getfield 9, 3) := by decide +kernel
theorem dX2_encodeFirst_26 : decode cX2_encodeFirst 26 = .ok (.iload 5, 2) := by decide +kernel
theorem dX2_encodeFirst_28 : decode cX2_encodeFirst 28 = .ok (.iaload, 1) := by decide +kernel
theorem dX2_encodeFirst_29 : decode cX2_encodeFirst 29 = .ok (.goto 9, 3) := by decide +kernel
theorem dX2_encodeFirst_32 : decode cX2_encodeFirst 32 = .ok (.aload_n 1, 1) := by decide +kernel
theorem dX2_encodeFirst_33 : decode cX2_encodeFirst 33 = .ok (.iload 4, 2) := by decide +kernel
theorem dX2_encodeFirst_35 : decode cX2_encodeFirst 35 = .ok (.invokevirtual 57, 3) := by decide +kernel
theorem dX2_encodeFirst_38 : decode cX2_encodeFirst 38 = .ok (.istore 6, 2) := by decide +kernel
theorem dX2_encodeFirst_40 : decode cX2_encodeFirst 40 = .ok (.aload_n 1, 1) := by decide +kernel
theorem dX2_encodeFirst_41 : decode cX2_encodeFirst 41 = .ok (.iload 4, 2) := by decide +kernel
theorem dX2_encodeFirst_43 : decode cX2_encodeFirst 43 = .ok (.iload 6, 2) := by decide +kernel
theorem dX2_encodeFirst_45 : decode cX2_encodeFirst 45 = .ok (.invokevirtual 60, 3) := by decide +kernel
theorem dX2_encodeFirst_48 : decode cX2_encodeFirst 48 = .ok (.istore 7, 2) := by decide +kernel
theorem dX2_encodeFirst_50 : decode cX2_encodeFirst 50 = .ok (.iconst 0, 1) := by decide +kernel
theorem dX2_encodeFirst_51 : decode cX2_encodeFirst 51 = .ok (.istore 8, 2) := by decide +kernel
theorem dX2_encodeFirst_53 : decode cX2_encodeFirst 53 = .ok (.iload 8, 2) := by decide +kernel
theorem dX2_encodeFirst_55 : decode cX2_encodeFirst 55 = .ok (.aload_n 1, 1) := by decide +kernel
theorem dX2_encodeFirst_56 : decode cX2_encodeFirst 56 = .ok (.getfield 63, 3) := by decide +kernel
theorem dX2_encodeFirst_59 : decode cX2_encodeFirst 59 = .ok (.if_icmp .ge 29, 3) := by decide +kernel
theorem dX2_encodeFirst_62 : decode cX2_encodeFirst 62 = .ok (.aload_n 0, 1) := by decide +kernel
theorem dX2_encodeFirst_63 : decode cX2_encodeFirst 63 = .ok (.getfield 15, 3) := by decide +kernel
theorem dX2_encodeFirst_66 : decode cX2_encodeFirst 66 = .ok (.iload 5, 2) := by decide +kernel
theorem dX2_encodeFirst_68 : decode cX2_encodeFirst 68 = .ok (.bipush 7, 2) := by decide +kernel
theorem dX2_encodeFirst_70 : decode cX2_encodeFirst 70 = .ok (.imul, 1) := by decide +kernel
theorem dX2_encodeFirst_71 : decode cX2_encodeFirst 71 = .ok (.iload 8, 2) := by decide +kernel
theorem dX2_encodeFirst_73 : decode cX2_encodeFirst 73 = .ok (.iadd, 1) := by decide +kernel
theorem dX2_encodeFirst_74 : decode cX2_encodeFirst 74 = .ok (.iload 7, 2) := by decide +kernel
theorem dX2_encodeFirst_76 : decode cX2_encodeFirst 76 = .ok (.iload 8, 2) := by decide +kernel
theorem dX2_encodeFirst_78 : decode cX2_encodeFirst 78 = .ok (.ishr, 1) := by decide +kernel
theorem dX2_encodeFirst_79 : decode cX2_encodeFirst 79 = .ok (.iconst 1, 1) := by decide +kernel
theorem dX2_encodeFirst_80 : decode cX2_encodeFirst 80 = .ok (.iand, 1) := by decide +kernel
theorem dX2_encodeFirst_81 : decode cX2_encodeFirst 81 = .ok (.iastore, 1) := by decide +kernel
theorem dX2_encodeFirst_82 : decode cX2_encodeFirst 82 = .ok (.iinc 8 1, 3) := by decide +kernel
theorem dX2_encodeFirst_85 : decode cX2_encodeFirst 85 = .ok (.goto (-32), 3) := by decide +kernel
theorem dX2_encodeFirst_88 : decode cX2_encodeFirst 88 = .ok (.aload_n 1, 1) := by decide +kernel
theorem dX2_encodeFirst_89 : decode cX2_encodeFirst 89 = .ok (.iload 4, 2) := by decide +kernel
theorem dX2_encodeFirst_91 : decode cX2_encodeFirst 91 = .ok (.iload 6, 2) := by decide +kernel
theorem dX2_encodeFirst_93 : decode cX2_encodeFirst 93 = .ok (.invokevirtual 50, 3) := by decide +kernel
theorem dX2_encodeFirst_96 : decode cX2_encodeFirst 96 = .ok (.istore 4, 2) := by decide +kernel
theorem dX2_encodeFirst_98 : decode cX2_encodeFirst 98 = .ok (.iinc 5 1, 3) := by decide +kernel
theorem dX2_encodeFirst_101 : decode cX2_encodeFirst 101 = .ok (.goto (-95), 3) := by decide +kernel
theorem dX2_encodeFirst_104 : decode cX2_encodeFirst 104 = .ok (.return_, 1) := by decide +kernel
theorem dX2_encodeSecond_0 : decode cX2_encodeSecond 0 = .ok (.iconst 0, 1) := by decide +kernel
theorem dX2_encodeSecond_1 : decode cX2_encodeSecond 1 = .ok (.istore_n 3, 1) := by decide +kernel
theorem dX2_encodeSecond_2 : decode cX2_encodeSecond 2 = .ok (.iconst 0, 1) := by decide +kernel
theorem dX2_encodeSecond_3 : decode cX2_encodeSecond 3 = .ok (.istore 4, 2) := by decide +kernel
theorem dX2_encodeSecond_5 : decode cX2_encodeSecond 5 = .ok (.iload 4, 2) := by decide +kernel
theorem dX2_encodeSecond_7 : decode cX2_encodeSecond 7 = .ok (.iload_n 2, 1) := by decide +kernel
theorem dX2_encodeSecond_8 : decode cX2_encodeSecond 8 = .ok (.if_icmp .ge 85, 3) := by decide +kernel
theorem dX2_encodeSecond_11 : decode cX2_encodeSecond 11 = .ok (.aload_n 0, 1) := by decide +kernel
theorem dX2_encodeSecond_12 : decode cX2_encodeSecond 12 = .ok (.getfield 9, 3) := by decide +kernel
theorem dX2_encodeSecond_15 : decode cX2_encodeSecond 15 = .ok (.aload_n 1, 1) := by decide +kernel
theorem dX2_encodeSecond_16 : decode cX2_encodeSecond 16 = .ok (.iload 4, 2) := by decide +kernel
theorem dX2_encodeSecond_18 : decode cX2_encodeSecond 18 = .ok (.iload_n 2, 1) := by decide +kernel
theorem dX2_encodeSecond_19 : decode cX2_encodeSecond 19 = .ok (.invokevirtual 66, 3) := by decide +kernel
theorem dX2_encodeSecond_22 : decode cX2_encodeSecond 22 = .ok (.iaload, 1) := by decide +kernel
theorem dX2_encodeSecond_23 : decode cX2_encodeSecond 23 = .ok (.istore 5, 2) := by decide +kernel
theorem dX2_encodeSecond_25 : decode cX2_encodeSecond 25 = .ok (.aload_n 1, 1) := by decide +kernel
theorem dX2_encodeSecond_26 : decode cX2_encodeSecond 26 = .ok (.iload_n 3, 1) := by decide +kernel
theorem dX2_encodeSecond_27 : decode cX2_encodeSecond 27 = .ok (.iload 5, 2) := by decide +kernel
theorem dX2_encodeSecond_29 : decode cX2_encodeSecond 29 = .ok (.invokevirtual 60, 3) := by decide +kernel
theorem dX2_encodeSecond_32 : decode cX2_encodeSecond 32 = .ok (.istore 6, 2) := by decide +kernel
theorem dX2_encodeSecond_34 : decode cX2_encodeSecond 34 = .ok (.iconst 1, 1) := by decide +kernel
theorem dX2_encodeSecond_35 : decode cX2_encodeSecond 35 = .ok (.istore 7, 2) := by decide +kernel
theorem dX2_encodeSecond_37 : decode cX2_encodeSecond 37 = .ok (.iload 7, 2) := by decide +kernel
theorem dX2_encodeSecond_39 : decode cX2_encodeSecond 39 = .ok (.aload_n 1, 1) := by decide +kernel
theorem dX2_encodeSecond_40 : decode cX2_encodeSecond 40 = .ok (.getfield 63, 3) := by decide +kernel
theorem dX2_encodeSecond_43 : decode cX2_encodeSecond 43 = .ok (.if_icmp .ge 36, 3) := by decide +kernel
theorem dX2_encodeSecond_46 : decode cX2_encodeSecond 46 = .ok (.aload_n 0, 1) := by decide +kernel
theorem dX2_encodeSecond_47 : decode cX2_encodeSecond 47 = .ok (.getfield 15, 3) := by decide +kernel
theorem dX2_encodeSecond_50 : decode cX2_encodeSecond 50 = .ok (.iload 4, 2) := by decide +kernel
theorem dX2_encodeSecond_52 : decode cX2_encodeSecond 52 = .ok (.bipush 7, 2) := by decide +kernel
theorem dX2_encodeSecond_54 : decode cX2_encodeSecond 54 = .ok (.imul, 1) := by decide +kernel
theorem dX2_encodeSecond_55 : decode cX2_encodeSecond 55 = .ok (.aload_n 1, 1) := by decide +kernel
theorem dX2_encodeSecond_56 : decode cX2_encodeSecond 56 = .ok (.getfield 63, 3) := by decide +kernel
theorem dX2_encodeSecond_59 : decode cX2_encodeSecond 59 = .ok (.iadd, 1) := by decide +kernel
theorem dX2_encodeSecond_60 : decode cX2_encodeSecond 60 = .ok (.iconst 1, 1) := by decide +kernel
theorem dX2_encodeSecond_61 : decode cX2_encodeSecond 61 = .ok (.isub, 1) := by decide +kernel
theorem dX2_encodeSecond_62 : decode cX2_encodeSecond 62 = .ok (.iload 7, 2) := by decide +kernel
theorem dX2_encodeSecond_64 : decode cX2_encodeSecond 64 = .ok (.iadd, 1) := by decide +kernel
theorem dX2_encodeSecond_65 : decode cX2_encodeSecond 65 = .ok (.iload 6, 2) := by decide +kernel
theorem dX2_encodeSecond_67 : decode cX2_encodeSecond 67 = .ok (.iload 7, 2) := by decide +kernel
theorem dX2_encodeSecond_69 : decode cX2_encodeSecond 69 = .ok (.ishr, 1) := by decide +kernel
theorem dX2_encodeSecond_70 : decode cX2_encodeSecond 70 = .ok (.iconst 1, 1) := by decide +kernel
theorem dX2_encodeSecond_71 : decode cX2_encodeSecond 71 = .ok (.iand, 1) := by decide +kernel
theorem dX2_encodeSecond_72 : decode cX2_encodeSecond 72 = .ok (.iastore, 1) := by decide +kernel
theorem dX2_encodeSecond_73 : decode cX2_encodeSecond 73 = .ok (.iinc 7 1, 3) := by decide +kernel
theorem dX2_encodeSecond_76 : decode cX2_encodeSecond 76 = .ok (.goto (-39), 3) := by decide +kernel
theorem dX2_encodeSecond_79 : decode cX2_encodeSecond 79 = .ok (.aload_n 1, 1) := by decide +kernel
theorem dX2_encodeSecond_80 : decode cX2_encodeSecond 80 = .ok (.iload_n 3, 1) := by decide +kernel
theorem dX2_encodeSecond_81 : decode cX2_encodeSecond 81 = .ok (.iload 5, 2) := by decide +kernel
theorem dX2_encodeSecond_83 : decode cX2_encodeSecond 83 = .ok (.invokevirtual 50, 3) := by decide +kernel
theorem dX2_encodeSecond_86 : decode cX2_encodeSecond 86 = .ok (.istore_n 3, 1) := by decide +kernel
theorem dX2_encodeSecond_87 : decode cX2_encodeSecond 87 = .ok (.iinc 4 1, 3) := by decide +kernel
theorem dX2_encodeSecond_90 : decode cX2_encodeSecond 90 = .ok (.goto (-85), 3) := by decide +kernel
theorem dX2_encodeSecond_93 : decode cX2_encodeSecond 93 = .ok (.return_, 1) := by decide +kernel
theorem dX2_write_0 : decode cX2_write 0 = .ok (.iconst 0, 1) := by decide +kernel
theorem dX2_write_1 : decode cX2_write 1 = .ok (.istore 4, 2) := by decide +kernel
theorem dX2_write_3 : decode cX2_write 3 = .ok (.iconst 0, 1) := by decide +kernel
theorem dX2_write_4 : decode cX2_write 4 = .ok (.istore 5, 2) := by decide +kernel
theorem dX2_write_6 : decode cX2_write 6 = .ok (.iload 5, 2) := by decide +kernel
theorem dX2_write_8 : decode cX2_write 8 = .ok (.aload_n 1, 1) := by decide +kernel
theorem dX2_write_9 : decode cX2_write 9 = .ok (.iload_n 2, 1) := by decide +kernel
theorem dX2_write_10 : decode cX2_write 10 = .ok (.invokevirtual 54, 3) := by decide +kernel
theorem dX2_write_13 : decode cX2_write 13 = .ok (.if_icmp .ge 70, 3) := by decide +kernel
theorem dX2_write_16 : decode cX2_write 16 = .ok (.iconst 0, 1) := by decide +kernel
theorem dX2_write_17 : decode cX2_write 17 = .ok (.istore 6, 2) := by decide +kernel
theorem dX2_write_19 : decode cX2_write 19 = .ok (.iload 6, 2) := by decide +kernel
theorem dX2_write_21 : decode cX2_write 21 = .ok (.aload_n 1, 1) := by decide +kernel
theorem dX2_write_22 : decode cX2_write 22 = .ok (.invokevirtual 69, 3) := by decide +kernel
theorem dX2_write_25 : decode cX2_write 25 = .ok (.if_icmp .ge 52, 3) := by decide +kernel
theorem dX2_write_28 : decode cX2_write 28 = .ok (.aload_n 1, 1) := by decide +kernel
theorem dX2_write_29 : decode cX2_write 29 = .ok (.iload 5, 2) := by decide +kernel
theorem dX2_write_31 : decode cX2_write 31 = .ok (.iload 6, 2) := by decide +kernel
theorem dX2_write_33 : decode cX2_write 33 = .ok (.invokevirtual 72, 3) := by decide +kernel
theorem dX2_write_36 : decode cX2_write 36 = .ok (.ifCond .eq 35, 3) := by decide +kernel
theorem dX2_write_39 : decode cX2_write 39 = .ok (.aload_n 3, 1) := by decide +kernel
theorem dX2_write_40 : decode cX2_write 40 = .ok (.iload 4, 2) := by decide +kernel
theorem dX2_write_42 : decode cX2_write 42 = .ok (.aload_n 0, 1) := by decide +kernel
theorem dX2_write_43 : decode cX2_write 43 = .ok (.getfield 15, 3) := by decide +kernel
theorem dX2_write_46 : decode cX2_write 46 = .ok (.iload 5, 2) := by decide +kernel
theorem dX2_write_48 : decode cX2_write 48 = .ok (.bipush 7, 2) := by decide +kernel
theorem dX2_write_50 : decode cX2_write 50 = .ok (.imul, 1) := by decide +kernel
theorem dX2_write_51 : decode cX2_write 51 = .ok (.iload 6, 2) := by decide +kernel
theorem dX2_write_53 : decode cX2_write 53 = .ok (.iadd, 1) := by decide +kernel
theorem dX2_write_54 : decode cX2_write 54 = .ok (.iaload, 1) := by decide +kernel
theorem dX2_write_55 : decode cX2_write 55 = .ok (.ifCond .ne 8, 3) := by decide +kernel
theorem dX2_write_58 : decode cX2_write 58 = .ok (.bipush 16, 2) := by decide +kernel
theorem dX2_write_60 : decode cX2_write 60 = .ok (.goto 5, 3) := by decide +kernel
theorem dX2_write_63 : decode cX2_write 63 = .ok (.bipush (-16), 2) := by decide +kernel
theorem dX2_write_65 : decode cX2_write 65 = .ok (.invokevirtual 76, 3) := by decide +kernel
theorem dX2_write_68 : decode cX2_write 68 = .ok (.iinc 4 1, 3) := by decide +kernel
theorem dX2_write_71 : decode cX2_write 71 = .ok (.iinc 6 1, 3) := by decide +kernel
theorem dX2_write_74 : decode cX2_write 74 = .ok (.goto (-55), 3) := by decide +kernel
theorem dX2_write_77 : decode cX2_write 77 = .ok (.iinc 5 1, 3) := by decide +kernel
theorem dX2_write_80 : decode cX2_write 80 = .ok (.goto (-74), 3) := by decide +kernel
theorem dX2_write_83 : decode cX2_write 83 = .ok (.return_, 1) := by decide +kernel
theorem dX3_init_0 : decode cX3_init 0 = .ok (.aload_n 0, 1) := by decide +kernel
theorem dX3_init_1 : decode cX3_init 1 = .ok (.invokespecial 3, 3) := by decide +kernel
theorem dX3_init_4 : decode cX3_init 4 = .ok (.aload_n 0, 1) := by decide +kernel
theorem dX3_init_5 : decode cX3_init 5 = .ok (.bipush 64, 2) := by decide +kernel
theorem dX3_init_7 : decode cX3_init 7 = .ok (.newarray .int, 2) := by decide +kernel
theorem dX3_init_9 : decode cX3_init 9 = .ok (.putfield 9, 3) := by decide +kernel
theorem dX3_init_12 : decode cX3_init 12 = .ok (.aload_n 0, 1) := by decide +kernel
theorem dX3_init_13 : decode cX3_init 13 = .ok (.bipush 64, 2) := by decide +kernel
theorem dX3_init_15 : decode cX3_init 15 = .ok (.newarray .int, 2) := by decide +kernel
theorem dX3_init_17 : decode cX3_init 17 = .ok (.putfield 15, 3) := by decide +kernel
theorem dX3_init_20 : decode cX3_init 20 = .ok (.aload_n 0, 1) := by decide +kernel
theorem dX3_init_21 : decode cX3_init 21 = .ok (.sipush 1442, 3) := by decide +kernel
theorem dX3_init_24 : decode cX3_init 24 = .ok (.newarray .int, 2) := by decide +kernel
theorem dX3_init_26 : decode cX3_init 26 = .ok (.putfield 18, 3) := by decide +kernel
theorem dX3_init_29 : decode cX3_init 29 = .ok (.aload_n 0, 1) := by decide +kernel
theorem dX3_init_30 : decode cX3_init 30 = .ok (.sipush 1442, 3) := by decide +kernel
theorem dX3_init_33 : decode cX3_init 33 = .ok (.newarray .int, 2) := by decide +kernel
theorem dX3_init_35 : decode cX3_init 35 = .ok (.putfield 21, 3) := by decide +kernel
theorem dX3_init_38 : decode cX3_init 38 = .ok (.bipush (-32), 2) := by decide +kernel
theorem dX3_init_40 : decode cX3_init 40 = .ok (.istore_n 1, 1) := by decide +kernel
theorem dX3_init_41 : decode cX3_init 41 = .ok (.iload_n 1, 1) := by decide +kernel
theorem dX3_init_42 : decode cX3_init 42 = .ok (.bipush 31, 2) := by decide +kernel
theorem dX3_init_44 : decode cX3_init 44 = .ok (.if_icmp .gt 46, 3) := by decide +kernel
theorem dX3_init_47 : decode cX3_init 47 = .ok (.aload_n 0, 1) := by decide +kernel
theorem dX3_init_48 : decode cX3_init 48 = .ok (.getfield 9, 3) := by decide +kernel
theorem dX3_init_51 : decode cX3_init 51 = .ok (.iload_n 1, 1) := by decide +kernel
theorem dX3_init_52 : decode cX3_init 52 = .ok (.bipush (-32), 2) := by decide +kernel
theorem dX3_init_54 : decode cX3_init 54 = .ok (.isub, 1) := by decide +kernel
theorem dX3_init_55 : decode cX3_init 55 = .ok (.iload_n 1, 1) := by decide +kernel
theorem dX3_init_56 : decode cX3_init 56 = .ok (.ifCond .ge 8, 3) := by decide +kernel
theorem dX3_init_59 : decode cX3_init 59 = .ok (.iload_n 1, 1) := by decide +kernel
theorem dX3_init_60 : decode cX3_init 60 = .ok (.ineg, 1) := by decide +kernel
theorem dX3_init_61 : decode cX3_init 61 = .ok (.goto 4, 3) := by decide +kernel
theorem dX3_init_64 : decode cX3_init 64 = .ok (.iconst 0, 1) := by decide +kernel
theorem dX3_init_65 : decode cX3_init 65 = .ok (.iastore, 1) := by decide +kernel
theorem dX3_init_66 : decode cX3_init 66 = .ok (.aload_n 0, 1) := by decide +kernel
theorem dX3_init_67 : decode cX3_init 67 = .ok (.getfield 15, 3) := by decide +kernel
theorem dX3_init_70 : decode cX3_init 70 = .ok (.iload_n 1, 1) := by decide +kernel
theorem dX3_init_71 : decode cX3_init 71 = .ok (.bipush (-32), 2) := by decide +kernel
theorem dX3_init_73 : decode cX3_init 73 = .ok (.isub, 1) := by decide +kernel
theorem dX3_init_74 : decode cX3_init 74 = .ok (.iload_n 1, 1) := by decide +kernel
theorem dX3_init_75 : decode cX3_init 75 = .ok (.ifCond .ge 7, 3) := by decide +kernel
theorem dX3_init_78 : decode cX3_init 78 = .ok (.iconst 0, 1) := by decide +kernel
theorem dX3_init_79 : decode cX3_init 79 = .ok (.goto 4, 3) := by decide +kernel
theorem dX3_init_82 : decode cX3_init 82 = .ok (.iload_n 1, 1) := by decide +kernel
theorem dX3_init_83 : decode cX3_init 83 = .ok (.iastore, 1) := by decide +kernel
theorem dX3_init_84 : decode cX3_init 84 = .ok (.iinc 1 1, 3) := by decide +kernel
theorem dX3_init_87 : decode cX3_init 87 = .ok (.goto (-46), 3) := by decide +kernel
theorem dX3_init_90 : decode cX3_init 90 = .ok (.return_, 1) := by decide +kernel
theorem dX3_setCosts_0 : decode cX3_setCosts 0 = .ok (.aload_n 0, 1) := by decide +kernel
theorem dX3_setCosts_1 : decode cX3_setCosts 1 = .ok (.getfield 9, 3) := by decide +kernel
theorem dX3_setCosts_4 : decode cX3_setCosts 4 = .ok (.iload_n 1, 1) := by decide +kernel
theorem dX3_setCosts_5 : decode cX3_setCosts 5 = .ok (.bipush (-32), 2) := by decide +kernel
theorem dX3_setCosts_7 : decode cX3_setCosts 7 = .ok (.isub, 1) := by decide +kernel
theorem dX3_setCosts_8 : decode cX3_setCosts 8 = .ok (.iaload, 1) := by decide +kernel
theorem dX3_setCosts_9 : decode cX3_setCosts 9 = .ok (.aload_n 0, 1) := by decide +kernel
theorem dX3_setCosts_10 : decode cX3_setCosts 10 = .ok (.getfield 15, 3) := by decide +kernel
theorem dX3_setCosts_13 : decode cX3_setCosts 13 = .ok (.iload_n 1, 1) := by decide +kernel
theorem dX3_setCosts_14 : decode cX3_setCosts 14 = .ok (.bipush (-32), 2) := by decide +kernel
theorem dX3_setCosts_16 : decode cX3_setCosts 16 = .ok (.isub, 1) := by decide +kernel
theorem dX3_setCosts_17 : decode cX3_setCosts 17 = .ok (.iaload, 1) := by decide +kernel
theorem dX3_setCosts_18 : decode cX3_setCosts 18 = .ok (.iadd, 1) := by decide +kernel
theorem dX3_setCosts_19 : decode cX3_setCosts 19 = .ok (.istore 4, 2) := by decide +kernel
theorem dX3_setCosts_21 : decode cX3_setCosts 21 = .ok (.aload_n 0, 1) := by decide +kernel
theorem dX3_setCosts_22 : decode cX3_setCosts 22 = .ok (.getfield 9, 3) := by decide +kernel
theorem dX3_setCosts_25 : decode cX3_setCosts 25 = .ok (.iload_n 1, 1) := by decide +kernel
theorem dX3_setCosts_26 : decode cX3_setCosts 26 = .ok (.bipush (-32), 2) := by decide +kernel
theorem dX3_setCosts_28 : decode cX3_setCosts 28 = .ok (.isub, 1) := by decide +kernel
theorem dX3_setCosts_29 : decode cX3_setCosts 29 = .ok (.iload_n 2, 1) := by decide +kernel
theorem dX3_setCosts_30 : decode cX3_setCosts 30 = .ok (.iastore, 1) := by decide +kernel
theorem dX3_setCosts_31 : decode cX3_setCosts 31 = .ok (.aload_n 0, 1) := by decide +kernel
theorem dX3_setCosts_32 : decode cX3_setCosts 32 = .ok (.getfield 15, 3) := by decide +kernel
theorem dX3_setCosts_35 : decode cX3_setCosts 35 = .ok (.iload_n 1, 1) := by decide +kernel
theorem dX3_setCosts_36 : decode cX3_setCosts 36 = .ok (.bipush (-32), 2) := by decide +kernel
theorem dX3_setCosts_38 : decode cX3_setCosts 38 = .ok (.isub, 1) := by decide +kernel
theorem dX3_setCosts_39 : decode cX3_setCosts 39 = .ok (.iload_n 3, 1) := by decide +kernel
theorem dX3_setCosts_40 : decode cX3_setCosts 40 = .ok (.iastore, 1) := by decide +kernel
theorem dX3_setCosts_41 : decode cX3_setCosts 41 = .ok (.iload 4, 2) := by decide +kernel
theorem dX3_setCosts_43 : decode cX3_setCosts 43 = .ok (.ireturn, 1) := by decide +kernel
theorem dX3_read_0 : decode cX3_read 0 = .ok (.iconst 0, 1) := by decide +kernel
theorem dX3_read_1 : decode cX3_read 1 = .ok (.istore 4, 2) := by decide +kernel
theorem dX3_read_3 : decode cX3_read 3 = .ok (.iconst 0, 1) := by decide +kernel
theorem dX3_read_4 : decode cX3_read 4 = .ok (.istore 5, 2) := by decide +kernel
theorem dX3_read_6 : decode cX3_read 6 = .ok (.iload 5, 2) := by decide +kernel
theorem dX3_read_8 : decode cX3_read 8 = .ok (.aload_n 1, 1) := by decide +kernel
theorem dX3_read_9 : decode cX3_read 9 = .ok (.iload_n 2, 1) := by decide +kernel
theorem dX3_read_10 : decode cX3_read 10 = .ok (.invokevirtual 24, 3) := by decide +kernel
theorem dX3_read_13 : decode cX3_read 13 = .ok (.if_icmp .ge 140, 3) := by decide +kernel
theorem dX3_read_16 : decode cX3_read 16 = .ok (.iconst 0, 1) := by decide +kernel
theorem dX3_read_17 : decode cX3_read 17 = .ok (.istore 6, 2) := by decide +kernel
theorem dX3_read_19 : decode cX3_read 19 = .ok (.iload 6, 2) := by decide +kernel
theorem dX3_read_21 : decode cX3_read 21 = .ok (.aload_n 1, 1) := by decide +kernel
theorem dX3_read_22 : decode cX3_read 22 = .ok (.invokevirtual 30, 3) := by decide +kernel
theorem dX3_read_25 : decode cX3_read 25 = .ok (.if_icmp .ge 122, 3) := by decide +kernel
theorem dX3_read_28 : decode cX3_read 28 = .ok (.iload 5, 2) := by decide +kernel
theorem dX3_read_30 : decode cX3_read 30 = .ok (.bipush 7, 2) := by decide +kernel
theorem dX3_read_32 : decode cX3_read 32 = .ok (.imul, 1) := by decide +kernel
theorem dX3_read_33 : decode cX3_read 33 = .ok (.iload 6, 2) := by decide +kernel
theorem dX3_read_35 : decode cX3_read 35 = .ok (.iadd, 1) := by decide +kernel
theorem dX3_read_36 : decode cX3_read 36 = .ok (.istore 7, 2) := by decide +kernel
theorem dX3_read_38 : decode cX3_read 38 = .ok (.aload_n 1, 1) := by decide +kernel
theorem dX3_read_39 : decode cX3_read 39 = .ok (.iload 5, 2) := by decide +kernel
theorem dX3_read_41 : decode cX3_read 41 = .ok (.iload 6, 2) := by decide +kernel
theorem dX3_read_43 : decode cX3_read 43 = .ok (.invokevirtual 34, 3) := by decide +kernel
theorem dX3_read_46 : decode cX3_read 46 = .ok (.istore 8, 2) := by decide +kernel
theorem dX3_read_48 : decode cX3_read 48 = .ok (.iload 8, 2) := by decide +kernel
theorem dX3_read_50 : decode cX3_read 50 = .ok (.ifCond .eq 16, 3) := by decide +kernel
theorem dX3_read_53 : decode cX3_read 53 = .ok (.aload_n 3, 1) := by decide +kernel
theorem dX3_read_54 : decode cX3_read 54 = .ok (.iload 4, 2) := by decide +kernel
theorem dX3_read_56 : decode cX3_read 56 = .ok (.invokevirtual 38, 3) := by decide +kernel
theorem dX3_read_59 : decode cX3_read 59 = .ok (.ifCond .eq 7, 3) := by decide +kernel
theorem dX3_read_62 : decode cX3_read 62 = .ok (.iconst 1, 1) := by decide +kernel
theorem dX3_read_63 : decode cX3_read 63 = .ok (.goto 4, 3) := by decide +kernel
theorem dX3_read_66 : decode cX3_read 66 = .ok (.iconst 0, 1) := by decide +kernel
theorem dX3_read_67 : decode cX3_read 67 = .ok (.istore 9, 2) := by decide +kernel
theorem dX3_read_69 : decode cX3_read 69 = .ok (.aload_n 3, 1) := by decide +kernel
theorem dX3_read_70 : decode cX3_read 70 = .ok (.iload 4, 2) := by decide +kernel
theorem dX3_read_72 : decode cX3_read 72 = .ok (.invokevirtual 44, 3) := by decide +kernel
theorem dX3_read_75 : decode cX3_read 75 = .ok (.bipush (-32), 2) := by decide +kernel
theorem dX3_read_77 : decode cX3_read 77 = .ok (.isub, 1) := by decide +kernel
theorem dX3_read_78 : decode cX3_read 78 = .ok (.istore 10, 2) := by decide +kernel
theorem dX3_read_80 : decode cX3_read 80 = .ok (.aload_n 0, 1) := by decide +kernel
theorem dX3_read_81 : decode cX3_read 81 = .ok (.getfield 18, 3) := by decide +kernel
theorem dX3_read_84 : decode cX3_read 84 = .ok (.iload 7, 2) := by decide +kernel
theorem dX3_read_86 : decode cX3_read 86 = .ok (.iload 9, 2) := by decide +kernel
theorem dX3_read_88 : decode cX3_read 88 = .ok (.ifCond .eq 13, 3) := by decide +kernel
theorem dX3_read_91 : decode cX3_read 91 = .ok (.aload_n 0, 1) := by decide +kernel
theorem dX3_read_92 : decode cX3_read 92 = .ok (.getfield 9, 3) := by decide +kernel
theorem dX3_read_95 : decode cX3_read 95 = .ok (.iload 10, 2) := by decide +kernel
theorem dX3_read_97 : decode cX3_read 97 = .ok (.iaload, 1) := by decide +kernel
theorem dX3_read_98 : decode cX3_read 98 = .ok (.goto 4, 3) := by decide +kernel
theorem dX3_read_101 : decode cX3_read 101 = .ok (.iconst 0, 1) := by decide +kernel
theorem dX3_read_102 : decode cX3_read 102 = .ok (.iastore, 1) := by decide +kernel
theorem dX3_read_103 : decode cX3_read 103 = .ok (.aload_n 0, 1) := by decide +kernel
theorem dX3_read_104 : decode cX3_read 104 = .ok (.getfield 21, 3) := by decide +kernel
theorem dX3_read_107 : decode cX3_read 107 = .ok (.iload 7, 2) := by decide +kernel
theorem dX3_read_109 : decode cX3_read 109 = .ok (.iload 9, 2) := by decide +kernel
theorem dX3_read_111 : decode cX3_read 111 = .ok (.ifCond .eq 13, 3) := by decide +kernel
theorem dX3_read_114 : decode cX3_read 114 = .ok (.aload_n 0, 1) := by decide +kernel
theorem dX3_read_115 : decode cX3_read 115 = .ok (.getfield 15, 3) := by decide +kernel
theorem dX3_read_118 : decode cX3_read 118 = .ok (.iload 10, 2) := by decide +kernel
theorem dX3_read_120 : decode cX3_read 120 = .ok (.iaload, 1) := by decide +kernel
theorem dX3_read_121 : decode cX3_read 121 = .ok (.goto 4, 3) := by decide +kernel
theorem dX3_read_124 : decode cX3_read 124 = .ok (.iconst 0, 1) := by decide +kernel
theorem dX3_read_125 : decode cX3_read 125 = .ok (.iastore, 1) := by decide +kernel
theorem dX3_read_126 : decode cX3_read 126 = .ok (.iload 4, 2) := by decide +kernel
theorem dX3_read_128 : decode cX3_read 128 = .ok (.iload 8, 2) := by decide +kernel
theorem dX3_read_130 : decode cX3_read 130 = .ok (.ifCond .eq 7, 3) := by decide +kernel
theorem dX3_read_133 : decode cX3_read 133 = .ok (.iconst 1, 1) := by decide +kernel
theorem dX3_read_134 : decode cX3_read 134 = .ok (.goto 4, 3) := by decide +kernel
theorem dX3_read_137 : decode cX3_read 137 = .ok (.iconst 0, 1) := by decide +kernel
theorem dX3_read_138 : decode cX3_read 138 = .ok (.iadd, 1) := by decide +kernel
theorem dX3_read_139 : decode cX3_read 139 = .ok (.istore 4, 2) := by decide +kernel
theorem dX3_read_141 : decode cX3_read 141 = .ok (.iinc 6 1, 3) := by decide +kernel
theorem dX3_read_144 : decode cX3_read 144 = .ok (.goto (-125), 3) := by decide +kernel
theorem dX3_read_147 : decode cX3_read 147 = .ok (.iinc 5 1, 3) := by decide +kernel
theorem dX3_read_150 : decode cX3_read 150 = .ok (.goto (-144), 3) := by decide +kernel
theorem dX3_read_153 : decode cX3_read 153 = .ok (.return_, 1) := by decide +kernel
theorem dX3_costOf_0 : decode cX3_costOf 0 = .ok (.iconst 0, 1) := by decide +kernel
theorem dX3_costOf_1 : decode cX3_costOf 1 = .ok (.istore 4, 2) := by decide +kernel
theorem dX3_costOf_3 : decode cX3_costOf 3 = .ok (.iconst 0, 1) := by decide +kernel
theorem dX3_costOf_4 : decode cX3_costOf 4 = .ok (.istore 5, 2) := by decide +kernel
theorem dX3_costOf_6 : decode cX3_costOf 6 = .ok (.iload 5, 2) := by decide +kernel
theorem dX3_costOf_8 : decode cX3_costOf 8 = .ok (.aload_n 2, 1) := by decide +kernel
theorem dX3_costOf_9 : decode cX3_costOf 9 = .ok (.iload_n 3, 1) := by decide +kernel
theorem dX3_costOf_10 : decode cX3_costOf 10 = .ok (.invokevirtual 24, 3) := by decide +kernel
theorem dX3_costOf_13 : decode cX3_costOf 13 = .ok (.if_icmp .ge 69, 3) := by decide +kernel
theorem dX3_costOf_16 : decode cX3_costOf 16 = .ok (.iconst 0, 1) := by decide +kernel
theorem dX3_costOf_17 : decode cX3_costOf 17 = .ok (.istore 6, 2) := by decide +kernel
theorem dX3_costOf_19 : decode cX3_costOf 19 = .ok (.iload 6, 2) := by decide +kernel
theorem dX3_costOf_21 : decode cX3_costOf 21 = .ok (.aload_n 2, 1) := by decide +kernel
theorem dX3_costOf_22 : decode cX3_costOf 22 = .ok (.invokevirtual 30, 3) := by decide +kernel
theorem dX3_costOf_25 : decode cX3_costOf 25 = .ok (.if_icmp .ge 51, 3) := by decide +kernel
theorem dX3_costOf_28 : decode cX3_costOf 28 = .ok (.iload 5, 2) := by decide +kernel
theorem dX3_costOf_30 : decode cX3_costOf 30 = .ok (.bipush 7, 2) := by decide +kernel
theorem dX3_costOf_32 : decode cX3_costOf 32 = .ok (.imul, 1) := by decide +kernel
theorem dX3_costOf_33 : decode cX3_costOf 33 = .ok (.iload 6, 2) := by decide +kernel
theorem dX3_costOf_35 : decode cX3_costOf 35 = .ok (.iadd, 1) := by decide +kernel
theorem dX3_costOf_36 : decode cX3_costOf 36 = .ok (.istore 7, 2) := by decide +kernel
theorem dX3_costOf_38 : decode cX3_costOf 38 = .ok (.iload 4, 2) := by decide +kernel
theorem dX3_costOf_40 : decode cX3_costOf 40 = .ok (.aload_n 1, 1) := by decide +kernel
theorem dX3_costOf_41 : decode cX3_costOf 41 = .ok (.getfield 47, 3) := by decide +kernel
theorem dX3_costOf_44 : decode cX3_costOf 44 = .ok (.iload 7, 2) := by decide +kernel
theorem dX3_costOf_46 : decode cX3_costOf 46 = .ok (.iaload, 1) := by decide +kernel
theorem dX3_costOf_47 : decode cX3_costOf 47 = .ok (.ifCond .ne 13, 3) := by decide +kernel
theorem dX3_costOf_50 : decode cX3_costOf 50 = .ok (.aload_n 0, 1) := by decide +kernel
theorem dX3_costOf_51 : decode cX3_costOf 51 = .ok (.getfield 18, 3) := by decide +kernel
theorem dX3_costOf_54 : decode cX3_costOf 54 = .ok (.iload 7, 2) := by decide +kernel
theorem dX3_costOf_56 : decode cX3_costOf 56 = .ok (.iaload, 1) := by decide +kernel
theorem dX3_costOf_57 : decode cX3_costOf 57 = .ok (.goto 10, 3) := by decide +kernel
theorem dX3_costOf_60 : decode cX3_costOf 60 = .ok (.aload_n 0, 1) := by decide +kernel
theorem dX3_costOf_61 : decode cX3_costOf 61 = .ok (.getfield 21, 3) := by decide +kernel
theorem dX3_costOf_64 : decode cX3_costOf 64 = .ok (.iload 7, 2) := by decide +kernel
theorem dX3_costOf_66 : decode cX3_costOf 66 = .ok (.iaload, 1) := by decide +kernel
theorem dX3_costOf_67 : decode cX3_costOf 67 = .ok (.iadd, 1) := by decide +kernel
theorem dX3_costOf_68 : decode cX3_costOf 68 = .ok (.istore 4, 2) := by decide +kernel
theorem dX3_costOf_70 : decode cX3_costOf 70 = .ok (.iinc 6 1, 3) := by decide +kernel
theorem dX3_costOf_73 : decode cX3_costOf 73 = .ok (.goto (-54), 3) := by decide +kernel
theorem dX3_costOf_76 : decode cX3_costOf 76 = .ok (.iinc 5 1, 3) := by decide +kernel
theorem dX3_costOf_79 : decode cX3_costOf 79 = .ok (.goto (-73), 3) := by decide +kernel
theorem dX3_costOf_82 : decode cX3_costOf 82 = .ok (.iload 4, 2) := by decide +kernel
theorem dX3_costOf_84 : decode cX3_costOf 84 = .ok (.ireturn, 1) := by decide +kernel
theorem dX3_tells_0 : decode cX3_tells 0 = .ok (.aload_n 0, 1) := by decide +kernel
theorem dX3_tells_1 : decode cX3_tells 1 = .ok (.getfield 21, 3) := by decide +kernel
theorem dX3_tells_4 : decode cX3_tells 4 = .ok (.iload_n 1, 1) := by decide +kernel
theorem dX3_tells_5 : decode cX3_tells 5 = .ok (.iaload, 1) := by decide +kernel
theorem dX3_tells_6 : decode cX3_tells 6 = .ok (.aload_n 0, 1) := by decide +kernel
theorem dX3_tells_7 : decode cX3_tells 7 = .ok (.getfield 18, 3) := by decide +kernel
theorem dX3_tells_10 : decode cX3_tells 10 = .ok (.iload_n 1, 1) := by decide +kernel
theorem dX3_tells_11 : decode cX3_tells 11 = .ok (.iaload, 1) := by decide +kernel
theorem dX3_tells_12 : decode cX3_tells 12 = .ok (.isub, 1) := by decide +kernel
theorem dX3_tells_13 : decode cX3_tells 13 = .ok (.ireturn, 1) := by decide +kernel
theorem dX4_init_0 : decode cX4_init 0 = .ok (.aload_n 0, 1) := by decide +kernel
theorem dX4_init_1 : decode cX4_init 1 = .ok (.invokespecial 3, 3) := by decide +kernel
theorem dX4_init_4 : decode cX4_init 4 = .ok (.aload_n 0, 1) := by decide +kernel
theorem dX4_init_5 : decode cX4_init 5 = .ok (.sipush 600, 3) := by decide +kernel
theorem dX4_init_8 : decode cX4_init 8 = .ok (.newarray .short, 2) := by decide +kernel
theorem dX4_init_10 : decode cX4_init 10 = .ok (.putfield 9, 3) := by decide +kernel
theorem dX4_init_13 : decode cX4_init 13 = .ok (.aload_n 0, 1) := by decide +kernel
theorem dX4_init_14 : decode cX4_init 14 = .ok (.iconst (-1), 1) := by decide +kernel
theorem dX4_init_15 : decode cX4_init 15 = .ok (.putfield 15, 3) := by decide +kernel
theorem dX4_init_18 : decode cX4_init 18 = .ok (.return_, 1) := by decide +kernel
theorem dX4_isMissing_0 : decode cX4_isMissing 0 = .ok (.aload_n 0, 1) := by decide +kernel
theorem dX4_isMissing_1 : decode cX4_isMissing 1 = .ok (.getfield 15, 3) := by decide +kernel
theorem dX4_isMissing_4 : decode cX4_isMissing 4 = .ok (.iconst (-1), 1) := by decide +kernel
theorem dX4_isMissing_5 : decode cX4_isMissing 5 = .ok (.if_icmp .ne 7, 3) := by decide +kernel
theorem dX4_isMissing_8 : decode cX4_isMissing 8 = .ok (.iconst 1, 1) := by decide +kernel
theorem dX4_isMissing_9 : decode cX4_isMissing 9 = .ok (.goto 4, 3) := by decide +kernel
theorem dX4_isMissing_12 : decode cX4_isMissing 12 = .ok (.iconst 0, 1) := by decide +kernel
theorem dX4_isMissing_13 : decode cX4_isMissing 13 = .ok (.ireturn, 1) := by decide +kernel
theorem dX4_size_0 : decode cX4_size 0 = .ok (.aload_n 0, 1) := by decide +kernel
theorem dX4_size_1 : decode cX4_size 1 = .ok (.getfield 15, 3) := by decide +kernel
theorem dX4_size_4 : decode cX4_size 4 = .ok (.ireturn, 1) := by decide +kernel
theorem dX4_has_0 : decode cX4_has 0 = .ok (.iload_n 1, 1) := by decide +kernel
theorem dX4_has_1 : decode cX4_has 1 = .ok (.ifCond .lt 15, 3) := by decide +kernel
theorem dX4_has_4 : decode cX4_has 4 = .ok (.iload_n 1, 1) := by decide +kernel
theorem dX4_has_5 : decode cX4_has 5 = .ok (.aload_n 0, 1) := by decide +kernel
theorem dX4_has_6 : decode cX4_has 6 = .ok (.getfield 15, 3) := by decide +kernel
theorem dX4_has_9 : decode cX4_has 9 = .ok (.if_icmp .ge 7, 3) := by decide +kernel
theorem dX4_has_12 : decode cX4_has 12 = .ok (.iconst 1, 1) := by decide +kernel
theorem dX4_has_13 : decode cX4_has 13 = .ok (.goto 4, 3) := by decide +kernel
theorem dX4_has_16 : decode cX4_has 16 = .ok (.iconst 0, 1) := by decide +kernel
theorem dX4_has_17 : decode cX4_has 17 = .ok (.ireturn, 1) := by decide +kernel
theorem dX4_begin_0 : decode cX4_begin 0 = .ok (.aload_n 0, 1) := by decide +kernel
theorem dX4_begin_1 : decode cX4_begin 1 = .ok (.iload_n 1, 1) := by decide +kernel
theorem dX4_begin_2 : decode cX4_begin 2 = .ok (.iconst 0, 1) := by decide +kernel
theorem dX4_begin_3 : decode cX4_begin 3 = .ok (.sipush 600, 3) := by decide +kernel
theorem dX4_begin_6 : decode cX4_begin 6 = .ok (.invokestatic 19, 3) := by decide +kernel
theorem dX4_begin_9 : decode cX4_begin 9 = .ok (.putfield 15, 3) := by decide +kernel
theorem dX4_begin_12 : decode cX4_begin 12 = .ok (.iconst 0, 1) := by decide +kernel
theorem dX4_begin_13 : decode cX4_begin 13 = .ok (.istore_n 2, 1) := by decide +kernel
theorem dX4_begin_14 : decode cX4_begin 14 = .ok (.iload_n 2, 1) := by decide +kernel
theorem dX4_begin_15 : decode cX4_begin 15 = .ok (.aload_n 0, 1) := by decide +kernel
theorem dX4_begin_16 : decode cX4_begin 16 = .ok (.getfield 15, 3) := by decide +kernel
theorem dX4_begin_19 : decode cX4_begin 19 = .ok (.if_icmp .ge 16, 3) := by decide +kernel
theorem dX4_begin_22 : decode cX4_begin 22 = .ok (.aload_n 0, 1) := by decide +kernel
theorem dX4_begin_23 : decode cX4_begin 23 = .ok (.getfield 9, 3) := by decide +kernel
theorem dX4_begin_26 : decode cX4_begin 26 = .ok (.iload_n 2, 1) := by decide +kernel
theorem dX4_begin_27 : decode cX4_begin 27 = .ok (.iconst 0, 1) := by decide +kernel
theorem dX4_begin_28 : decode cX4_begin 28 = .ok (.sastore, 1) := by decide +kernel
theorem dX4_begin_29 : decode cX4_begin 29 = .ok (.iinc 2 1, 3) := by decide +kernel
theorem dX4_begin_32 : decode cX4_begin 32 = .ok (.goto (-18), 3) := by decide +kernel
theorem dX4_begin_35 : decode cX4_begin 35 = .ok (.return_, 1) := by decide +kernel
theorem dX4_shorten_0 : decode cX4_shorten 0 = .ok (.iload_n 1, 1) := by decide +kernel
theorem dX4_shorten_1 : decode cX4_shorten 1 = .ok (.ifCond .ge 11, 3) := by decide +kernel
theorem dX4_shorten_4 : decode cX4_shorten 4 = .ok (.aload_n 0, 1) := by decide +kernel
theorem dX4_shorten_5 : decode cX4_shorten 5 = .ok (.iconst (-1), 1) := by decide +kernel
theorem dX4_shorten_6 : decode cX4_shorten 6 = .ok (.putfield 15, 3) := by decide +kernel
theorem dX4_shorten_9 : decode cX4_shorten 9 = .ok (.goto 16, 3) := by decide +kernel
theorem dX4_shorten_12 : decode cX4_shorten 12 = .ok (.iload_n 1, 1) := by decide +kernel
theorem dX4_shorten_13 : decode cX4_shorten 13 = .ok (.aload_n 0, 1) := by decide +kernel
theorem dX4_shorten_14 : decode cX4_shorten 14 = .ok (.getfield 15, 3) := by decide +kernel
theorem dX4_shorten_17 : decode cX4_shorten 17 = .ok (.if_icmp .ge 8, 3) := by decide +kernel
theorem dX4_shorten_20 : decode cX4_shorten 20 = .ok (.aload_n 0, 1) := by decide +kernel
theorem dX4_shorten_21 : decode cX4_shorten 21 = .ok (.iload_n 1, 1) := by decide +kernel
theorem dX4_shorten_22 : decode cX4_shorten 22 = .ok (.putfield 15, 3) := by decide +kernel
theorem dX4_shorten_25 : decode cX4_shorten 25 = .ok (.return_, 1) := by decide +kernel
theorem dX4_numberAt_0 : decode cX4_numberAt 0 = .ok (.aload_n 0, 1) := by decide +kernel
theorem dX4_numberAt_1 : decode cX4_numberAt 1 = .ok (.iload_n 1, 1) := by decide +kernel
theorem dX4_numberAt_2 : decode cX4_numberAt 2 = .ok (.invokevirtual 23, 3) := by decide +kernel
theorem dX4_numberAt_5 : decode cX4_numberAt 5 = .ok (.ifCond .eq 12, 3) := by decide +kernel
theorem dX4_numberAt_8 : decode cX4_numberAt 8 = .ok (.aload_n 0, 1) := by decide +kernel
theorem dX4_numberAt_9 : decode cX4_numberAt 9 = .ok (.getfield 9, 3) := by decide +kernel
theorem dX4_numberAt_12 : decode cX4_numberAt 12 = .ok (.iload_n 1, 1) := by decide +kernel
theorem dX4_numberAt_13 : decode cX4_numberAt 13 = .ok (.saload, 1) := by decide +kernel
theorem dX4_numberAt_14 : decode cX4_numberAt 14 = .ok (.goto 4, 3) := by decide +kernel
theorem dX4_numberAt_17 : decode cX4_numberAt 17 = .ok (.iconst 0, 1) := by decide +kernel
theorem dX4_numberAt_18 : decode cX4_numberAt 18 = .ok (.ireturn, 1) := by decide +kernel
theorem dX4_bitAt_0 : decode cX4_bitAt 0 = .ok (.aload_n 0, 1) := by decide +kernel
theorem dX4_bitAt_1 : decode cX4_bitAt 1 = .ok (.iload_n 1, 1) := by decide +kernel
theorem dX4_bitAt_2 : decode cX4_bitAt 2 = .ok (.invokevirtual 27, 3) := by decide +kernel
theorem dX4_bitAt_5 : decode cX4_bitAt 5 = .ok (.iconst 1, 1) := by decide +kernel
theorem dX4_bitAt_6 : decode cX4_bitAt 6 = .ok (.iand, 1) := by decide +kernel
theorem dX4_bitAt_7 : decode cX4_bitAt 7 = .ok (.ireturn, 1) := by decide +kernel
theorem dX4_change_0 : decode cX4_change 0 = .ok (.aload_n 0, 1) := by decide +kernel
theorem dX4_change_1 : decode cX4_change 1 = .ok (.iload_n 1, 1) := by decide +kernel
theorem dX4_change_2 : decode cX4_change 2 = .ok (.invokevirtual 23, 3) := by decide +kernel
theorem dX4_change_5 : decode cX4_change 5 = .ok (.ifCond .eq 11, 3) := by decide +kernel
theorem dX4_change_8 : decode cX4_change 8 = .ok (.aload_n 0, 1) := by decide +kernel
theorem dX4_change_9 : decode cX4_change 9 = .ok (.getfield 9, 3) := by decide +kernel
theorem dX4_change_12 : decode cX4_change 12 = .ok (.iload_n 1, 1) := by decide +kernel
theorem dX4_change_13 : decode cX4_change 13 = .ok (.iload_n 2, 1) := by decide +kernel
theorem dX4_change_14 : decode cX4_change 14 = .ok (.i2s, 1) := by decide +kernel
theorem dX4_change_15 : decode cX4_change 15 = .ok (.sastore, 1) := by decide +kernel
theorem dX4_change_16 : decode cX4_change 16 = .ok (.return_, 1) := by decide +kernel
theorem dX5_init_0 : decode cX5_init 0 = .ok (.aload_n 0, 1) := by decide +kernel
theorem dX5_init_1 : decode cX5_init 1 = .ok (.invokespecial 3, 3) := by decide +kernel
theorem dX5_init_4 : decode cX5_init 4 = .ok (.aload_n 0, 1) := by decide +kernel
theorem dX5_init_5 : decode cX5_init 5 = .ok (.sipush 512, 3) := by decide +kernel
theorem dX5_init_8 : decode cX5_init 8 = .ok (.newarray .int, 2) := by decide +kernel
theorem dX5_init_10 : decode cX5_init 10 = .ok (.putfield 9, 3) := by decide +kernel
theorem dX5_init_13 : decode cX5_init 13 = .ok (.aload_n 0, 1) := by decide +kernel
theorem dX5_init_14 : decode cX5_init 14 = .ok (.sipush 512, 3) := by decide +kernel
theorem dX5_init_17 : decode cX5_init 17 = .ok (.newarray .int, 2) := by decide +kernel
theorem dX5_init_19 : decode cX5_init 19 = .ok (.putfield 15, 3) := by decide +kernel
theorem dX5_init_22 : decode cX5_init 22 = .ok (.aload_n 0, 1) := by decide +kernel
theorem dX5_init_23 : decode cX5_init 23 = .ok (.bipush 64, 2) := by decide +kernel
theorem dX5_init_25 : decode cX5_init 25 = .ok (.newarray .int, 2) := by decide +kernel
theorem dX5_init_27 : decode cX5_init 27 = .ok (.putfield 18, 3) := by decide +kernel
theorem dX5_init_30 : decode cX5_init 30 = .ok (.aload_n 0, 1) := by decide +kernel
theorem dX5_init_31 : decode cX5_init 31 = .ok (.bipush 64, 2) := by decide +kernel
theorem dX5_init_33 : decode cX5_init 33 = .ok (.newarray .int, 2) := by decide +kernel
theorem dX5_init_35 : decode cX5_init 35 = .ok (.putfield 21, 3) := by decide +kernel
theorem dX5_init_38 : decode cX5_init 38 = .ok (.aload_n 0, 1) := by decide +kernel
theorem dX5_init_39 : decode cX5_init 39 = .ok (.ldc 24, 2) := by decide +kernel
theorem dX5_init_41 : decode cX5_init 41 = .ok (.newarray .byte, 2) := by decide +kernel
theorem dX5_init_43 : decode cX5_init 43 = .ok (.putfield 25, 3) := by decide +kernel
theorem dX5_init_46 : decode cX5_init 46 = .ok (.aload_n 0, 1) := by decide +kernel
theorem dX5_init_47 : decode cX5_init 47 = .ok (.sipush 13184, 3) := by decide +kernel
theorem dX5_init_50 : decode cX5_init 50 = .ok (.newarray .byte, 2) := by decide +kernel
theorem dX5_init_52 : decode cX5_init 52 = .ok (.putfield 29, 3) := by decide +kernel
theorem dX5_init_55 : decode cX5_init 55 = .ok (.aload_n 0, 1) := by decide +kernel
theorem dX5_init_56 : decode cX5_init 56 = .ok (.aload_n 1, 1) := by decide +kernel
theorem dX5_init_57 : decode cX5_init 57 = .ok (.putfield 32, 3) := by decide +kernel
theorem dX5_init_60 : decode cX5_init 60 = .ok (.aload_n 0, 1) := by decide +kernel
theorem dX5_init_61 : decode cX5_init 61 = .ok (.aload_n 2, 1) := by decide +kernel
theorem dX5_init_62 : decode cX5_init 62 = .ok (.putfield 36, 3) := by decide +kernel
theorem dX5_init_65 : decode cX5_init 65 = .ok (.return_, 1) := by decide +kernel
theorem dX5_findLeast_0 : decode cX5_findLeast 0 = .ok (.aload_n 0, 1) := by decide +kernel
theorem dX5_findLeast_1 : decode cX5_findLeast 1 = .ok (.getfield 36, 3) := by decide +kernel
theorem dX5_findLeast_4 : decode cX5_findLeast 4 = .ok (.iload_n 3, 1) := by decide +kernel
theorem dX5_findLeast_5 : decode cX5_findLeast 5 = .ok (.invokevirtual 40, 3) := by decide +kernel
theorem dX5_findLeast_8 : decode cX5_findLeast 8 = .ok (.aload_n 1, 1) := by decide +kernel
theorem dX5_findLeast_9 : decode cX5_findLeast 9 = .ok (.invokevirtual 46, 3) := by decide +kernel
theorem dX5_findLeast_12 : decode cX5_findLeast 12 = .ok (.istore 4, 2) := by decide +kernel
theorem dX5_findLeast_14 : decode cX5_findLeast 14 = .ok (.iconst 0, 1) := by decide +kernel
theorem dX5_findLeast_15 : decode cX5_findLeast 15 = .ok (.istore 5, 2) := by decide +kernel
theorem dX5_findLeast_17 : decode cX5_findLeast 17 = .ok (.iload 5, 2) := by decide +kernel
theorem dX5_findLeast_19 : decode cX5_findLeast 19 = .ok (.iload 4, 2) := by decide +kernel
theorem dX5_findLeast_21 : decode cX5_findLeast 21 = .ok (.if_icmp .ge 54, 3) := by decide +kernel
theorem dX5_findLeast_24 : decode cX5_findLeast 24 = .ok (.aload_n 0, 1) := by decide +kernel
theorem dX5_findLeast_25 : decode cX5_findLeast 25 = .ok (.getfield 32, 3) := by decide +kernel
theorem dX5_findLeast_28 : decode cX5_findLeast 28 = .ok (.aload_n 1, 1) := by decide +kernel
theorem dX5_findLeast_29 : decode cX5_findLeast 29 = .ok (.iload_n 2, 1) := by decide +kernel
theorem dX5_findLeast_30 : decode cX5_findLeast 30 = .ok (.iload 5, 2) := by decide +kernel
theorem dX5_findLeast_32 : decode cX5_findLeast 32 = .ok (.invokevirtual 52, 3) := by decide +kernel
theorem dX5_findLeast_35 : decode cX5_findLeast 35 = .ok (.iload_n 3, 1) := by decide +kernel
theorem dX5_findLeast_36 : decode cX5_findLeast 36 = .ok (.iconst 1, 1) := by decide +kernel
theorem dX5_findLeast_37 : decode cX5_findLeast 37 = .ok (.if_icmp .eq 19, 3) := by decide +kernel
theorem dX5_findLeast_40 : decode cX5_findLeast 40 = .ok (.iload 4, 2) := by decide +kernel
theorem dX5_findLeast_42 : decode cX5_findLeast 42 = .ok (.iconst 1, 1) := by decide +kernel
theorem dX5_findLeast_43 : decode cX5_findLeast 43 = .ok (.if_icmp .eq 13, 3) := by decide +kernel
theorem dX5_findLeast_46 : decode cX5_findLeast 46 = .ok (.aload_n 0, 1) := by decide +kernel
theorem dX5_findLeast_47 : decode cX5_findLeast 47 = .ok (.iload 5, 2) := by decide +kernel
theorem dX5_findLeast_49 : decode cX5_findLeast 49 = .ok (.iload_n 2, 1) := by decide +kernel
theorem dX5_findLeast_50 : decode cX5_findLeast 50 = .ok (.invokevirtual 58, 3) := by decide +kernel
theorem dX5_findLeast_53 : decode cX5_findLeast 53 = .ok (.ifCond .eq 16, 3) := by decide +kernel
theorem dX5_findLeast_56 : decode cX5_findLeast 56 = .ok (.aload_n 0, 1) := by decide +kernel
theorem dX5_findLeast_57 : decode cX5_findLeast 57 = .ok (.iload_n 2, 1) := by decide +kernel
theorem dX5_findLeast_58 : decode cX5_findLeast 58 = .ok (.iload_n 3, 1) := by decide +kernel
theorem dX5_findLeast_59 : decode cX5_findLeast 59 = .ok (.invokevirtual 62, 3) := by decide +kernel
theorem dX5_findLeast_62 : decode cX5_findLeast 62 = .ok (.aload_n 0, 1) := by decide +kernel
theorem dX5_findLeast_63 : decode cX5_findLeast 63 = .ok (.iload 5, 2) := by decide +kernel
theorem dX5_findLeast_65 : decode cX5_findLeast 65 = .ok (.iload_n 2, 1) := by decide +kernel
theorem dX5_findLeast_66 : decode cX5_findLeast 66 = .ok (.invokevirtual 66, 3) := by decide +kernel
theorem dX5_findLeast_69 : decode cX5_findLeast 69 = .ok (.iinc 5 1, 3) := by decide +kernel
theorem dX5_findLeast_72 : decode cX5_findLeast 72 = .ok (.goto (-55), 3) := by decide +kernel
theorem dX5_findLeast_75 : decode cX5_findLeast 75 = .ok (.return_, 1) := by decide +kernel
theorem dX5_isWorthwhile_0 : decode cX5_isWorthwhile 0 = .ok (.aload_n 0, 1) := by decide +kernel
theorem dX5_isWorthwhile_1 : decode cX5_isWorthwhile 1 = .ok (.iload_n 2, 1) := by decide +kernel
theorem dX5_isWorthwhile_2 : decode cX5_isWorthwhile 2 = .ok (.iconst 1, 1) := by decide +kernel
theorem dX5_isWorthwhile_3 : decode cX5_isWorthwhile 3 = .ok (.invokevirtual 62, 3) := by decide +kernel
theorem dX5_isWorthwhile_6 : decode cX5_isWorthwhile 6 = .ok (.aload_n 0, 1) := by decide +kernel
theorem dX5_isWorthwhile_7 : decode cX5_isWorthwhile 7 = .ok (.getfield 21, 3) := by decide +kernel
theorem dX5_isWorthwhile_10 : decode cX5_isWorthwhile 10 = .ok (.iload_n 1, 1) := by decide +kernel
theorem dX5_isWorthwhile_11 : decode cX5_isWorthwhile 11 = .ok (.iaload, 1) := by decide +kernel
theorem dX5_isWorthwhile_12 : decode cX5_isWorthwhile 12 = .ok (.ifCond .ne 5, 3) := by decide +kernel
theorem dX5_isWorthwhile_15 : decode cX5_isWorthwhile 15 = .ok (.iconst 0, 1) := by decide +kernel
theorem dX5_isWorthwhile_16 : decode cX5_isWorthwhile 16 = .ok (.ireturn, 1) := by decide +kernel
theorem dX5_isWorthwhile_17 : decode cX5_isWorthwhile 17 = .ok (.aload_n 0, 1) := by decide +kernel
theorem dX5_isWorthwhile_18 : decode cX5_isWorthwhile 18 = .ok (.iload_n 1, 1) := by decide +kernel
theorem dX5_isWorthwhile_19 : decode cX5_isWorthwhile 19 = .ok (.iconst 0, 1) := by decide +kernel
theorem dX5_isWorthwhile_20 : decode cX5_isWorthwhile 20 = .ok (.iload_n 2, 1) := by decide +kernel
theorem dX5_isWorthwhile_21 : decode cX5_isWorthwhile 21 = .ok (.invokevirtual 69, 3) := by decide +kernel
theorem dX5_isWorthwhile_24 : decode cX5_isWorthwhile 24 = .ok (.aload_n 0, 1) := by decide +kernel
theorem dX5_isWorthwhile_25 : decode cX5_isWorthwhile 25 = .ok (.getfield 36, 3) := by decide +kernel
theorem dX5_isWorthwhile_28 : decode cX5_isWorthwhile 28 = .ok (.invokevirtual 73, 3) := by decide +kernel
theorem dX5_isWorthwhile_31 : decode cX5_isWorthwhile 31 = .ok (.ireturn, 1) := by decide +kernel
theorem dX5_offerAll_0 : decode cX5_offerAll 0 = .ok (.iconst 1, 1) := by decide +kernel
theorem dX5_offerAll_1 : decode cX5_offerAll 1 = .ok (.istore_n 3, 1) := by decide +kernel
theorem dX5_offerAll_2 : decode cX5_offerAll 2 = .ok (.iconst 0, 1) := by decide +kernel
theorem dX5_offerAll_3 : decode cX5_offerAll 3 = .ok (.istore 4, 2) := by decide +kernel
theorem dX5_offerAll_5 : decode cX5_offerAll 5 = .ok (.iload 4, 2) := by decide +kernel
theorem dX5_offerAll_7 : decode cX5_offerAll 7 = .ok (.aload_n 0, 1) := by decide +kernel
theorem dX5_offerAll_8 : decode cX5_offerAll 8 = .ok (.getfield 21, 3) := by decide +kernel
theorem dX5_offerAll_11 : decode cX5_offerAll 11 = .ok (.iload_n 1, 1) := by decide +kernel
theorem dX5_offerAll_12 : decode cX5_offerAll 12 = .ok (.iaload, 1) := by decide +kernel
theorem dX5_offerAll_13 : decode cX5_offerAll 13 = .ok (.if_icmp .ge 29, 3) := by decide +kernel
theorem dX5_offerAll_16 : decode cX5_offerAll 16 = .ok (.iload_n 3, 1) := by decide +kernel
theorem dX5_offerAll_17 : decode cX5_offerAll 17 = .ok (.ifCond .eq 25, 3) := by decide +kernel
theorem dX5_offerAll_20 : decode cX5_offerAll 20 = .ok (.aload_n 0, 1) := by decide +kernel
theorem dX5_offerAll_21 : decode cX5_offerAll 21 = .ok (.iload_n 1, 1) := by decide +kernel
theorem dX5_offerAll_22 : decode cX5_offerAll 22 = .ok (.iload 4, 2) := by decide +kernel
theorem dX5_offerAll_24 : decode cX5_offerAll 24 = .ok (.iload_n 2, 1) := by decide +kernel
theorem dX5_offerAll_25 : decode cX5_offerAll 25 = .ok (.invokevirtual 69, 3) := by decide +kernel
theorem dX5_offerAll_28 : decode cX5_offerAll 28 = .ok (.aload_n 0, 1) := by decide +kernel
theorem dX5_offerAll_29 : decode cX5_offerAll 29 = .ok (.getfield 36, 3) := by decide +kernel
theorem dX5_offerAll_32 : decode cX5_offerAll 32 = .ok (.invokevirtual 77, 3) := by decide +kernel
theorem dX5_offerAll_35 : decode cX5_offerAll 35 = .ok (.istore_n 3, 1) := by decide +kernel
theorem dX5_offerAll_36 : decode cX5_offerAll 36 = .ok (.iinc 4 1, 3) := by decide +kernel
theorem dX5_offerAll_39 : decode cX5_offerAll 39 = .ok (.goto (-34), 3) := by decide +kernel
theorem dX5_offerAll_42 : decode cX5_offerAll 42 = .ok (.return_, 1) := by decide +kernel
theorem dX5_comeBack_0 : decode cX5_comeBack 0 = .ok (.iconst 0, 1) := by decide +kernel
theorem dX5_comeBack_1 : decode cX5_comeBack 1 = .ok (.istore_n 3, 1) := by decide +kernel
theorem dX5_comeBack_2 : decode cX5_comeBack 2 = .ok (.iload_n 3, 1) := by decide +kernel
theorem dX5_comeBack_3 : decode cX5_comeBack 3 = .ok (.aload_n 0, 1) := by decide +kernel
theorem dX5_comeBack_4 : decode cX5_comeBack 4 = .ok (.getfield 32, 3) := by decide +kernel
theorem dX5_comeBack_7 : decode cX5_comeBack 7 = .ok (.getfield 80, 3) := by decide +kernel
theorem dX5_comeBack_10 : decode cX5_comeBack 10 = .ok (.if_icmp .ge 52, 3) := by decide +kernel
theorem dX5_comeBack_13 : decode cX5_comeBack 13 = .ok (.aload_n 0, 1) := by decide +kernel
theorem dX5_comeBack_14 : decode cX5_comeBack 14 = .ok (.getfield 21, 3) := by decide +kernel
theorem dX5_comeBack_17 : decode cX5_comeBack 17 = .ok (.iload_n 3, 1) := by decide +kernel
theorem dX5_comeBack_18 : decode cX5_comeBack 18 = .ok (.aload_n 0, 1) := by decide +kernel
theorem dX5_comeBack_19 : decode cX5_comeBack 19 = .ok (.getfield 32, 3) := by decide +kernel
theorem dX5_comeBack_22 : decode cX5_comeBack 22 = .ok (.getfield 84, 3) := by decide +kernel
theorem dX5_comeBack_25 : decode cX5_comeBack 25 = .ok (.iload_n 3, 1) := by decide +kernel
theorem dX5_comeBack_26 : decode cX5_comeBack 26 = .ok (.iaload, 1) := by decide +kernel
theorem dX5_comeBack_27 : decode cX5_comeBack 27 = .ok (.ldc 87, 2) := by decide +kernel
theorem dX5_comeBack_29 : decode cX5_comeBack 29 = .ok (.if_icmp .ge 7, 3) := by decide +kernel
theorem dX5_comeBack_32 : decode cX5_comeBack 32 = .ok (.iconst 1, 1) := by decide +kernel
theorem dX5_comeBack_33 : decode cX5_comeBack 33 = .ok (.goto 4, 3) := by decide +kernel
theorem dX5_comeBack_36 : decode cX5_comeBack 36 = .ok (.iconst 0, 1) := by decide +kernel
theorem dX5_comeBack_37 : decode cX5_comeBack 37 = .ok (.iastore, 1) := by decide +kernel
theorem dX5_comeBack_38 : decode cX5_comeBack 38 = .ok (.aload_n 0, 1) := by decide +kernel
theorem dX5_comeBack_39 : decode cX5_comeBack 39 = .ok (.getfield 15, 3) := by decide +kernel
theorem dX5_comeBack_42 : decode cX5_comeBack 42 = .ok (.iload_n 3, 1) := by decide +kernel
theorem dX5_comeBack_43 : decode cX5_comeBack 43 = .ok (.bipush 8, 2) := by decide +kernel
theorem dX5_comeBack_45 : decode cX5_comeBack 45 = .ok (.imul, 1) := by decide +kernel
theorem dX5_comeBack_46 : decode cX5_comeBack 46 = .ok (.aload_n 0, 1) := by decide +kernel
theorem dX5_comeBack_47 : decode cX5_comeBack 47 = .ok (.getfield 32, 3) := by decide +kernel
theorem dX5_comeBack_50 : decode cX5_comeBack 50 = .ok (.getfield 84, 3) := by decide +kernel
theorem dX5_comeBack_53 : decode cX5_comeBack 53 = .ok (.iload_n 3, 1) := by decide +kernel
theorem dX5_comeBack_54 : decode cX5_comeBack 54 = .ok (.iaload, 1) := by decide +kernel
theorem dX5_comeBack_55 : decode cX5_comeBack 55 = .ok (.iastore, 1) := by decide +kernel
theorem dX5_comeBack_56 : decode cX5_comeBack 56 = .ok (.iinc 3 1, 3) := by decide +kernel
theorem dX5_comeBack_59 : decode cX5_comeBack 59 = .ok (.goto (-57), 3) := by decide +kernel
theorem dX5_comeBack_62 : decode cX5_comeBack 62 = .ok (.iload_n 1, 1) := by decide +kernel
theorem dX5_comeBack_63 : decode cX5_comeBack 63 = .ok (.iconst 1, 1) := by decide +kernel
theorem dX5_comeBack_64 : decode cX5_comeBack 64 = .ok (.isub, 1) := by decide +kernel
theorem dX5_comeBack_65 : decode cX5_comeBack 65 = .ok (.istore_n 3, 1) := by decide +kernel
theorem dX5_comeBack_66 : decode cX5_comeBack 66 = .ok (.iload_n 3, 1) := by decide +kernel
theorem dX5_comeBack_67 : decode cX5_comeBack 67 = .ok (.ifCond .lt 78, 3) := by decide +kernel
theorem dX5_comeBack_70 : decode cX5_comeBack 70 = .ok (.iconst 0, 1) := by decide +kernel
theorem dX5_comeBack_71 : decode cX5_comeBack 71 = .ok (.istore 4, 2) := by decide +kernel
theorem dX5_comeBack_73 : decode cX5_comeBack 73 = .ok (.iload 4, 2) := by decide +kernel
theorem dX5_comeBack_75 : decode cX5_comeBack 75 = .ok (.aload_n 0, 1) := by decide +kernel
theorem dX5_comeBack_76 : decode cX5_comeBack 76 = .ok (.getfield 32, 3) := by decide +kernel
theorem dX5_comeBack_79 : decode cX5_comeBack 79 = .ok (.getfield 80, 3) := by decide +kernel
theorem dX5_comeBack_82 : decode cX5_comeBack 82 = .ok (.if_icmp .ge 17, 3) := by decide +kernel
theorem dX5_comeBack_85 : decode cX5_comeBack 85 = .ok (.aload_n 0, 1) := by decide +kernel
theorem dX5_comeBack_86 : decode cX5_comeBack 86 = .ok (.iload_n 3, 1) := by decide +kernel
theorem dX5_comeBack_87 : decode cX5_comeBack 87 = .ok (.iload 4, 2) := by decide +kernel
theorem dX5_comeBack_89 : decode cX5_comeBack 89 = .ok (.iload_n 2, 1) := by decide +kernel
theorem dX5_comeBack_90 : decode cX5_comeBack 90 = .ok (.invokevirtual 88, 3) := by decide +kernel
theorem dX5_comeBack_93 : decode cX5_comeBack 93 = .ok (.iinc 4 1, 3) := by decide +kernel
theorem dX5_comeBack_96 : decode cX5_comeBack 96 = .ok (.goto (-23), 3) := by decide +kernel
theorem dX5_comeBack_99 : decode cX5_comeBack 99 = .ok (.aload_n 0, 1) := by decide +kernel
theorem dX5_comeBack_100 : decode cX5_comeBack 100 = .ok (.getfield 9, 3) := by decide +kernel
theorem dX5_comeBack_103 : decode cX5_comeBack 103 = .ok (.astore 4, 2) := by decide +kernel
theorem dX5_comeBack_105 : decode cX5_comeBack 105 = .ok (.aload_n 0, 1) := by decide +kernel
theorem dX5_comeBack_106 : decode cX5_comeBack 106 = .ok (.aload_n 0, 1) := by decide +kernel
theorem dX5_comeBack_107 : decode cX5_comeBack 107 = .ok (.getfield 15, 3) := by decide +kernel
theorem dX5_comeBack_110 : decode cX5_comeBack 110 = .ok (.putfield 9, 3) := by decide +kernel
theorem dX5_comeBack_113 : decode cX5_comeBack 113 = .ok (.aload_n 0, 1) := by decide +kernel
theorem dX5_comeBack_114 : decode cX5_comeBack 114 = .ok (.aload 4, 2) := by decide +kernel
theorem dX5_comeBack_116 : decode cX5_comeBack 116 = .ok (.putfield 15, 3) := by decide +kernel
theorem dX5_comeBack_119 : decode cX5_comeBack 119 = .ok (.aload_n 0, 1) := by decide +kernel
theorem dX5_comeBack_120 : decode cX5_comeBack 120 = .ok (.getfield 18, 3) := by decide +kernel
theorem dX5_comeBack_123 : decode cX5_comeBack 123 = .ok (.astore 5, 2) := by decide +kernel
theorem dX5_comeBack_125 : decode cX5_comeBack 125 = .ok (.aload_n 0, 1) := by decide +kernel
theorem dX5_comeBack_126 : decode cX5_comeBack 126 = .ok (.aload_n 0, 1) := by decide +kernel
theorem dX5_comeBack_127 : decode cX5_comeBack 127 = .ok (.getfield 21, 3) := by decide +kernel
theorem dX5_comeBack_130 : decode cX5_comeBack 130 = .ok (.putfield 18, 3) := by decide +kernel
theorem dX5_comeBack_133 : decode cX5_comeBack 133 = .ok (.aload_n 0, 1) := by decide +kernel
theorem dX5_comeBack_134 : decode cX5_comeBack 134 = .ok (.aload 5, 2) := by decide +kernel
theorem dX5_comeBack_136 : decode cX5_comeBack 136 = .ok (.putfield 21, 3) := by decide +kernel
theorem dX5_comeBack_139 : decode cX5_comeBack 139 = .ok (.iinc 3 (-1), 3) := by decide +kernel
theorem dX5_comeBack_142 : decode cX5_comeBack 142 = .ok (.goto (-76), 3) := by decide +kernel
theorem dX5_comeBack_145 : decode cX5_comeBack 145 = .ok (.return_, 1) := by decide +kernel
theorem dX5_merge_0 : decode cX5_merge 0 = .ok (.aload_n 0, 1) := by decide +kernel
theorem dX5_merge_1 : decode cX5_merge 1 = .ok (.getfield 32, 3) := by decide +kernel
theorem dX5_merge_4 : decode cX5_merge 4 = .ok (.getfield 91, 3) := by decide +kernel
theorem dX5_merge_7 : decode cX5_merge 7 = .ok (.iconst 2, 1) := by decide +kernel
theorem dX5_merge_8 : decode cX5_merge 8 = .ok (.iload_n 2, 1) := by decide +kernel
theorem dX5_merge_9 : decode cX5_merge 9 = .ok (.imul, 1) := by decide +kernel
theorem dX5_merge_10 : decode cX5_merge 10 = .ok (.iaload, 1) := by decide +kernel
theorem dX5_merge_11 : decode cX5_merge 11 = .ok (.istore 4, 2) := by decide +kernel
theorem dX5_merge_13 : decode cX5_merge 13 = .ok (.aload_n 0, 1) := by decide +kernel
theorem dX5_merge_14 : decode cX5_merge 14 = .ok (.getfield 32, 3) := by decide +kernel
theorem dX5_merge_17 : decode cX5_merge 17 = .ok (.getfield 91, 3) := by decide +kernel
theorem dX5_merge_20 : decode cX5_merge 20 = .ok (.iconst 2, 1) := by decide +kernel
theorem dX5_merge_21 : decode cX5_merge 21 = .ok (.iload_n 2, 1) := by decide +kernel
theorem dX5_merge_22 : decode cX5_merge 22 = .ok (.imul, 1) := by decide +kernel
theorem dX5_merge_23 : decode cX5_merge 23 = .ok (.iconst 1, 1) := by decide +kernel
theorem dX5_merge_24 : decode cX5_merge 24 = .ok (.iadd, 1) := by decide +kernel
theorem dX5_merge_25 : decode cX5_merge 25 = .ok (.iaload, 1) := by decide +kernel
theorem dX5_merge_26 : decode cX5_merge 26 = .ok (.istore 5, 2) := by decide +kernel
theorem dX5_merge_28 : decode cX5_merge 28 = .ok (.aload_n 0, 1) := by decide +kernel
theorem dX5_merge_29 : decode cX5_merge 29 = .ok (.getfield 32, 3) := by decide +kernel
theorem dX5_merge_32 : decode cX5_merge 32 = .ok (.iload_n 1, 1) := by decide +kernel
theorem dX5_merge_33 : decode cX5_merge 33 = .ok (.iconst 2, 1) := by decide +kernel
theorem dX5_merge_34 : decode cX5_merge 34 = .ok (.iload_n 2, 1) := by decide +kernel
theorem dX5_merge_35 : decode cX5_merge 35 = .ok (.imul, 1) := by decide +kernel
theorem dX5_merge_36 : decode cX5_merge 36 = .ok (.invokevirtual 94, 3) := by decide +kernel
theorem dX5_merge_39 : decode cX5_merge 39 = .ok (.istore 6, 2) := by decide +kernel
theorem dX5_merge_41 : decode cX5_merge 41 = .ok (.aload_n 0, 1) := by decide +kernel
theorem dX5_merge_42 : decode cX5_merge 42 = .ok (.getfield 32, 3) := by decide +kernel
theorem dX5_merge_45 : decode cX5_merge 45 = .ok (.iload_n 1, 1) := by decide +kernel
theorem dX5_merge_46 : decode cX5_merge 46 = .ok (.iconst 2, 1) := by decide +kernel
theorem dX5_merge_47 : decode cX5_merge 47 = .ok (.iload_n 2, 1) := by decide +kernel
theorem dX5_merge_48 : decode cX5_merge 48 = .ok (.imul, 1) := by decide +kernel
theorem dX5_merge_49 : decode cX5_merge 49 = .ok (.iconst 1, 1) := by decide +kernel
theorem dX5_merge_50 : decode cX5_merge 50 = .ok (.iadd, 1) := by decide +kernel
theorem dX5_merge_51 : decode cX5_merge 51 = .ok (.invokevirtual 94, 3) := by decide +kernel
theorem dX5_merge_54 : decode cX5_merge 54 = .ok (.istore 7, 2) := by decide +kernel
theorem dX5_merge_56 : decode cX5_merge 56 = .ok (.iconst 0, 1) := by decide +kernel
theorem dX5_merge_57 : decode cX5_merge 57 = .ok (.istore 8, 2) := by decide +kernel
theorem dX5_merge_59 : decode cX5_merge 59 = .ok (.iconst 0, 1) := by decide +kernel
theorem dX5_merge_60 : decode cX5_merge 60 = .ok (.istore 9, 2) := by decide +kernel
theorem dX5_merge_62 : decode cX5_merge 62 = .ok (.iconst 0, 1) := by decide +kernel
theorem dX5_merge_63 : decode cX5_merge 63 = .ok (.istore 10, 2) := by decide +kernel
theorem dX5_merge_65 : decode cX5_merge 65 = .ok (.iload 10, 2) := by decide +kernel
theorem dX5_merge_67 : decode cX5_merge 67 = .ok (.iload_n 3, 1) := by decide +kernel
theorem dX5_merge_68 : decode cX5_merge 68 = .ok (.if_icmp .ge 208, 3) := by decide +kernel
theorem dX5_merge_71 : decode cX5_merge 71 = .ok (.iload 8, 2) := by decide +kernel
theorem dX5_merge_73 : decode cX5_merge 73 = .ok (.aload_n 0, 1) := by decide +kernel
theorem dX5_merge_74 : decode cX5_merge 74 = .ok (.getfield 21, 3) := by decide +kernel
theorem dX5_merge_77 : decode cX5_merge 77 = .ok (.iload 4, 2) := by decide +kernel
theorem dX5_merge_79 : decode cX5_merge 79 = .ok (.iaload, 1) := by decide +kernel
theorem dX5_merge_80 : decode cX5_merge 80 = .ok (.if_icmp .lt 15, 3) := by decide +kernel
theorem dX5_merge_83 : decode cX5_merge 83 = .ok (.iload 9, 2) := by decide +kernel
theorem dX5_merge_85 : decode cX5_merge 85 = .ok (.aload_n 0, 1) := by decide +kernel
theorem dX5_merge_86 : decode cX5_merge 86 = .ok (.getfield 21, 3) := by decide +kernel
theorem dX5_merge_89 : decode cX5_merge 89 = .ok (.iload 5, 2) := by decide +kernel
theorem dX5_merge_91 : decode cX5_merge 91 = .ok (.iaload, 1) := by decide +kernel
theorem dX5_merge_92 : decode cX5_merge 92 = .ok (.if_icmp .ge 184, 3) := by decide +kernel
theorem dX5_merge_95 : decode cX5_merge 95 = .ok (.iload 8, 2) := by decide +kernel
theorem dX5_merge_97 : decode cX5_merge 97 = .ok (.aload_n 0, 1) := by decide +kernel
theorem dX5_merge_98 : decode cX5_merge 98 = .ok (.getfield 21, 3) := by decide +kernel
theorem dX5_merge_101 : decode cX5_merge 101 = .ok (.iload 4, 2) := by decide +kernel
theorem dX5_merge_103 : decode cX5_merge 103 = .ok (.iaload, 1) := by decide +kernel
theorem dX5_merge_104 : decode cX5_merge 104 = .ok (.if_icmp .ge 22, 3) := by decide +kernel
theorem dX5_merge_107 : decode cX5_merge 107 = .ok (.aload_n 0, 1) := by decide +kernel
theorem dX5_merge_108 : decode cX5_merge 108 = .ok (.getfield 15, 3) := by decide +kernel
theorem dX5_merge_111 : decode cX5_merge 111 = .ok (.iload 4, 2) := by decide +kernel
theorem dX5_merge_113 : decode cX5_merge 113 = .ok (.bipush 8, 2) := by decide +kernel
theorem dX5_merge_115 : decode cX5_merge 115 = .ok (.imul, 1) := by decide +kernel
theorem dX5_merge_116 : decode cX5_merge 116 = .ok (.iload 8, 2) := by decide +kernel
theorem dX5_merge_118 : decode cX5_merge 118 = .ok (.iadd, 1) := by decide +kernel
theorem dX5_merge_119 : decode cX5_merge 119 = .ok (.iaload, 1) := by decide +kernel
theorem dX5_merge_120 : decode cX5_merge 120 = .ok (.iload 6, 2) := by decide +kernel
theorem dX5_merge_122 : decode cX5_merge 122 = .ok (.iadd, 1) := by decide +kernel
theorem dX5_merge_123 : decode cX5_merge 123 = .ok (.goto 5, 3) := by decide +kernel
theorem dX5_merge_126 : decode cX5_merge 126 = .ok (.ldc 87, 2) := by decide +kernel
theorem dX5_merge_128 : decode cX5_merge 128 = .ok (.istore 11, 2) := by decide +kernel
theorem dX5_merge_130 : decode cX5_merge 130 = .ok (.iload 9, 2) := by decide +kernel
theorem dX5_merge_132 : decode cX5_merge 132 = .ok (.aload_n 0, 1) := by decide +kernel
theorem dX5_merge_133 : decode cX5_merge 133 = .ok (.getfield 21, 3) := by decide +kernel
theorem dX5_merge_136 : decode cX5_merge 136 = .ok (.iload 5, 2) := by decide +kernel
theorem dX5_merge_138 : decode cX5_merge 138 = .ok (.iaload, 1) := by decide +kernel
theorem dX5_merge_139 : decode cX5_merge 139 = .ok (.if_icmp .ge 22, 3) := by decide +kernel
theorem dX5_merge_142 : decode cX5_merge 142 = .ok (.aload_n 0, 1) := by decide +kernel
theorem dX5_merge_143 : decode cX5_merge 143 = .ok (.getfield 15, 3) := by decide +kernel
theorem dX5_merge_146 : decode cX5_merge 146 = .ok (.iload 5, 2) := by decide +kernel
theorem dX5_merge_148 : decode cX5_merge 148 = .ok (.bipush 8, 2) := by decide +kernel
theorem dX5_merge_150 : decode cX5_merge 150 = .ok (.imul, 1) := by decide +kernel
theorem dX5_merge_151 : decode cX5_merge 151 = .ok (.iload 9, 2) := by decide +kernel
theorem dX5_merge_153 : decode cX5_merge 153 = .ok (.iadd, 1) := by decide +kernel
theorem dX5_merge_154 : decode cX5_merge 154 = .ok (.iaload, 1) := by decide +kernel
theorem dX5_merge_155 : decode cX5_merge 155 = .ok (.iload 7, 2) := by decide +kernel
theorem dX5_merge_157 : decode cX5_merge 157 = .ok (.iadd, 1) := by decide +kernel
theorem dX5_merge_158 : decode cX5_merge 158 = .ok (.goto 5, 3) := by decide +kernel
theorem dX5_merge_161 : decode cX5_merge 161 = .ok (.ldc 87, 2) := by decide +kernel
theorem dX5_merge_163 : decode cX5_merge 163 = .ok (.istore 12, 2) := by decide +kernel
theorem dX5_merge_165 : decode cX5_merge 165 = .ok (.iload 11, 2) := by decide +kernel
theorem dX5_merge_167 : decode cX5_merge 167 = .ok (.iload 12, 2) := by decide +kernel
theorem dX5_merge_169 : decode cX5_merge 169 = .ok (.if_icmp .gt 7, 3) := by decide +kernel
theorem dX5_merge_172 : decode cX5_merge 172 = .ok (.iconst 1, 1) := by decide +kernel
theorem dX5_merge_173 : decode cX5_merge 173 = .ok (.goto 4, 3) := by decide +kernel
theorem dX5_merge_176 : decode cX5_merge 176 = .ok (.iconst 0, 1) := by decide +kernel
theorem dX5_merge_177 : decode cX5_merge 177 = .ok (.istore 13, 2) := by decide +kernel
theorem dX5_merge_179 : decode cX5_merge 179 = .ok (.aload_n 0, 1) := by decide +kernel
theorem dX5_merge_180 : decode cX5_merge 180 = .ok (.getfield 9, 3) := by decide +kernel
theorem dX5_merge_183 : decode cX5_merge 183 = .ok (.iload_n 2, 1) := by decide +kernel
theorem dX5_merge_184 : decode cX5_merge 184 = .ok (.bipush 8, 2) := by decide +kernel
theorem dX5_merge_186 : decode cX5_merge 186 = .ok (.imul, 1) := by decide +kernel
theorem dX5_merge_187 : decode cX5_merge 187 = .ok (.iload 10, 2) := by decide +kernel
theorem dX5_merge_189 : decode cX5_merge 189 = .ok (.iadd, 1) := by decide +kernel
theorem dX5_merge_190 : decode cX5_merge 190 = .ok (.iload 13, 2) := by decide +kernel
theorem dX5_merge_192 : decode cX5_merge 192 = .ok (.ifCond .eq 8, 3) := by decide +kernel
theorem dX5_merge_195 : decode cX5_merge 195 = .ok (.iload 11, 2) := by decide +kernel
theorem dX5_merge_197 : decode cX5_merge 197 = .ok (.goto 5, 3) := by decide +kernel
theorem dX5_merge_200 : decode cX5_merge 200 = .ok (.iload 12, 2) := by decide +kernel
theorem dX5_merge_202 : decode cX5_merge 202 = .ok (.iastore, 1) := by decide +kernel
theorem dX5_merge_203 : decode cX5_merge 203 = .ok (.iload_n 1, 1) := by decide +kernel
theorem dX5_merge_204 : decode cX5_merge 204 = .ok (.bipush 64, 2) := by decide +kernel
theorem dX5_merge_206 : decode cX5_merge 206 = .ok (.imul, 1) := by decide +kernel
theorem dX5_merge_207 : decode cX5_merge 207 = .ok (.iload_n 2, 1) := by decide +kernel
theorem dX5_merge_208 : decode cX5_merge 208 = .ok (.iadd, 1) := by decide +kernel
theorem dX5_merge_209 : decode cX5_merge 209 = .ok (.bipush 8, 2) := by decide +kernel
theorem dX5_merge_211 : decode cX5_merge 211 = .ok (.imul, 1) := by decide +kernel
theorem dX5_merge_212 : decode cX5_merge 212 = .ok (.iload 10, 2) := by decide +kernel
theorem dX5_merge_214 : decode cX5_merge 214 = .ok (.iadd, 1) := by decide +kernel
theorem dX5_merge_215 : decode cX5_merge 215 = .ok (.istore 14, 2) := by decide +kernel
theorem dX5_merge_217 : decode cX5_merge 217 = .ok (.aload_n 0, 1) := by decide +kernel
theorem dX5_merge_218 : decode cX5_merge 218 = .ok (.getfield 25, 3) := by decide +kernel
theorem dX5_merge_221 : decode cX5_merge 221 = .ok (.iload 14, 2) := by decide +kernel
theorem dX5_merge_223 : decode cX5_merge 223 = .ok (.iload 13, 2) := by decide +kernel
theorem dX5_merge_225 : decode cX5_merge 225 = .ok (.ifCond .eq 8, 3) := by decide +kernel
theorem dX5_merge_228 : decode cX5_merge 228 = .ok (.iload 8, 2) := by decide +kernel
theorem dX5_merge_230 : decode cX5_merge 230 = .ok (.goto 8, 3) := by decide +kernel
theorem dX5_merge_233 : decode cX5_merge 233 = .ok (.bipush 8, 2) := by decide +kernel
theorem dX5_merge_235 : decode cX5_merge 235 = .ok (.iload 9, 2) := by decide +kernel
theorem dX5_merge_237 : decode cX5_merge 237 = .ok (.iadd, 1) := by decide +kernel
theorem dX5_merge_238 : decode cX5_merge 238 = .ok (.i2b, 1) := by decide +kernel
theorem dX5_merge_239 : decode cX5_merge 239 = .ok (.bastore, 1) := by decide +kernel
theorem dX5_merge_240 : decode cX5_merge 240 = .ok (.iload 8, 2) := by decide +kernel
theorem dX5_merge_242 : decode cX5_merge 242 = .ok (.iload 13, 2) := by decide +kernel
theorem dX5_merge_244 : decode cX5_merge 244 = .ok (.ifCond .eq 7, 3) := by decide +kernel
theorem dX5_merge_247 : decode cX5_merge 247 = .ok (.iconst 1, 1) := by decide +kernel
theorem dX5_merge_248 : decode cX5_merge 248 = .ok (.goto 4, 3) := by decide +kernel
theorem dX5_merge_251 : decode cX5_merge 251 = .ok (.iconst 0, 1) := by decide +kernel
theorem dX5_merge_252 : decode cX5_merge 252 = .ok (.iadd, 1) := by decide +kernel
theorem dX5_merge_253 : decode cX5_merge 253 = .ok (.istore 8, 2) := by decide +kernel
theorem dX5_merge_255 : decode cX5_merge 255 = .ok (.iload 9, 2) := by decide +kernel
theorem dX5_merge_257 : decode cX5_merge 257 = .ok (.iload 13, 2) := by decide +kernel
theorem dX5_merge_259 : decode cX5_merge 259 = .ok (.ifCond .eq 7, 3) := by decide +kernel
theorem dX5_merge_262 : decode cX5_merge 262 = .ok (.iconst 0, 1) := by decide +kernel
theorem dX5_merge_263 : decode cX5_merge 263 = .ok (.goto 4, 3) := by decide +kernel
theorem dX5_merge_266 : decode cX5_merge 266 = .ok (.iconst 1, 1) := by decide +kernel
theorem dX5_merge_267 : decode cX5_merge 267 = .ok (.iadd, 1) := by decide +kernel
theorem dX5_merge_268 : decode cX5_merge 268 = .ok (.istore 9, 2) := by decide +kernel
theorem dX5_merge_270 : decode cX5_merge 270 = .ok (.iinc 10 1, 3) := by decide +kernel
theorem dX5_merge_273 : decode cX5_merge 273 = .ok (.goto (-208), 3) := by decide +kernel
theorem dX5_merge_276 : decode cX5_merge 276 = .ok (.aload_n 0, 1) := by decide +kernel
theorem dX5_merge_277 : decode cX5_merge 277 = .ok (.getfield 18, 3) := by decide +kernel
theorem dX5_merge_280 : decode cX5_merge 280 = .ok (.iload_n 2, 1) := by decide +kernel
theorem dX5_merge_281 : decode cX5_merge 281 = .ok (.iload 10, 2) := by decide +kernel
theorem dX5_merge_283 : decode cX5_merge 283 = .ok (.iastore, 1) := by decide +kernel
theorem dX5_merge_284 : decode cX5_merge 284 = .ok (.return_, 1) := by decide +kernel
theorem dX5_follow_0 : decode cX5_follow 0 = .ok (.aload_n 0, 1) := by decide +kernel
theorem dX5_follow_1 : decode cX5_follow 1 = .ok (.getfield 36, 3) := by decide +kernel
theorem dX5_follow_4 : decode cX5_follow 4 = .ok (.invokevirtual 98, 3) := by decide +kernel
theorem dX5_follow_7 : decode cX5_follow 7 = .ok (.astore 4, 2) := by decide +kernel
theorem dX5_follow_9 : decode cX5_follow 9 = .ok (.aload 4, 2) := by decide +kernel
theorem dX5_follow_11 : decode cX5_follow 11 = .ok (.aload_n 0, 1) := by decide +kernel
theorem dX5_follow_12 : decode cX5_follow 12 = .ok (.getfield 15, 3) := by decide +kernel
theorem dX5_follow_15 : decode cX5_follow 15 = .ok (.iload_n 1, 1) := by decide +kernel
theorem dX5_follow_16 : decode cX5_follow 16 = .ok (.bipush 8, 2) := by decide +kernel
theorem dX5_follow_18 : decode cX5_follow 18 = .ok (.imul, 1) := by decide +kernel
theorem dX5_follow_19 : decode cX5_follow 19 = .ok (.iload_n 2, 1) := by decide +kernel
theorem dX5_follow_20 : decode cX5_follow 20 = .ok (.iadd, 1) := by decide +kernel
theorem dX5_follow_21 : decode cX5_follow 21 = .ok (.iaload, 1) := by decide +kernel
theorem dX5_follow_22 : decode cX5_follow 22 = .ok (.iload_n 1, 1) := by decide +kernel
theorem dX5_follow_23 : decode cX5_follow 23 = .ok (.iload_n 3, 1) := by decide +kernel
theorem dX5_follow_24 : decode cX5_follow 24 = .ok (.invokevirtual 102, 3) := by decide +kernel
theorem dX5_follow_27 : decode cX5_follow 27 = .ok (.iload_n 1, 1) := by decide +kernel
theorem dX5_follow_28 : decode cX5_follow 28 = .ok (.istore 5, 2) := by decide +kernel
theorem dX5_follow_30 : decode cX5_follow 30 = .ok (.iload_n 2, 1) := by decide +kernel
theorem dX5_follow_31 : decode cX5_follow 31 = .ok (.istore 6, 2) := by decide +kernel
theorem dX5_follow_33 : decode cX5_follow 33 = .ok (.iconst 0, 1) := by decide +kernel
theorem dX5_follow_34 : decode cX5_follow 34 = .ok (.istore 7, 2) := by decide +kernel
theorem dX5_follow_36 : decode cX5_follow 36 = .ok (.iload 7, 2) := by decide +kernel
theorem dX5_follow_38 : decode cX5_follow 38 = .ok (.iload_n 3, 1) := by decide +kernel
theorem dX5_follow_39 : decode cX5_follow 39 = .ok (.if_icmp .ge 72, 3) := by decide +kernel
theorem dX5_follow_42 : decode cX5_follow 42 = .ok (.aload_n 0, 1) := by decide +kernel
theorem dX5_follow_43 : decode cX5_follow 43 = .ok (.getfield 25, 3) := by decide +kernel
theorem dX5_follow_46 : decode cX5_follow 46 = .ok (.iload 7, 2) := by decide +kernel
theorem dX5_follow_48 : decode cX5_follow 48 = .ok (.bipush 64, 2) := by decide +kernel
theorem dX5_follow_50 : decode cX5_follow 50 = .ok (.imul, 1) := by decide +kernel
theorem dX5_follow_51 : decode cX5_follow 51 = .ok (.iload 5, 2) := by decide +kernel
theorem dX5_follow_53 : decode cX5_follow 53 = .ok (.iadd, 1) := by decide +kernel
theorem dX5_follow_54 : decode cX5_follow 54 = .ok (.bipush 8, 2) := by decide +kernel
theorem dX5_follow_56 : decode cX5_follow 56 = .ok (.imul, 1) := by decide +kernel
theorem dX5_follow_57 : decode cX5_follow 57 = .ok (.iload 6, 2) := by decide +kernel
theorem dX5_follow_59 : decode cX5_follow 59 = .ok (.iadd, 1) := by decide +kernel
theorem dX5_follow_60 : decode cX5_follow 60 = .ok (.baload, 1) := by decide +kernel
theorem dX5_follow_61 : decode cX5_follow 61 = .ok (.istore 8, 2) := by decide +kernel
theorem dX5_follow_63 : decode cX5_follow 63 = .ok (.iload 8, 2) := by decide +kernel
theorem dX5_follow_65 : decode cX5_follow 65 = .ok (.bipush 8, 2) := by decide +kernel
theorem dX5_follow_67 : decode cX5_follow 67 = .ok (.idiv, 1) := by decide +kernel
theorem dX5_follow_68 : decode cX5_follow 68 = .ok (.istore 9, 2) := by decide +kernel
theorem dX5_follow_70 : decode cX5_follow 70 = .ok (.iload 8, 2) := by decide +kernel
theorem dX5_follow_72 : decode cX5_follow 72 = .ok (.bipush 8, 2) := by decide +kernel
theorem dX5_follow_74 : decode cX5_follow 74 = .ok (.irem, 1) := by decide +kernel
theorem dX5_follow_75 : decode cX5_follow 75 = .ok (.istore 6, 2) := by decide +kernel
theorem dX5_follow_77 : decode cX5_follow 77 = .ok (.aload 4, 2) := by decide +kernel
theorem dX5_follow_79 : decode cX5_follow 79 = .ok (.getfield 107, 3) := by decide +kernel
theorem dX5_follow_82 : decode cX5_follow 82 = .ok (.iload 7, 2) := by decide +kernel
theorem dX5_follow_84 : decode cX5_follow 84 = .ok (.iload 9, 2) := by decide +kernel
theorem dX5_follow_86 : decode cX5_follow 86 = .ok (.i2b, 1) := by decide +kernel
theorem dX5_follow_87 : decode cX5_follow 87 = .ok (.bastore, 1) := by decide +kernel
theorem dX5_follow_88 : decode cX5_follow 88 = .ok (.aload_n 0, 1) := by decide +kernel
theorem dX5_follow_89 : decode cX5_follow 89 = .ok (.getfield 32, 3) := by decide +kernel
theorem dX5_follow_92 : decode cX5_follow 92 = .ok (.getfield 91, 3) := by decide +kernel
theorem dX5_follow_95 : decode cX5_follow 95 = .ok (.iconst 2, 1) := by decide +kernel
theorem dX5_follow_96 : decode cX5_follow 96 = .ok (.iload 5, 2) := by decide +kernel
theorem dX5_follow_98 : decode cX5_follow 98 = .ok (.imul, 1) := by decide +kernel
theorem dX5_follow_99 : decode cX5_follow 99 = .ok (.iload 9, 2) := by decide +kernel
theorem dX5_follow_101 : decode cX5_follow 101 = .ok (.iadd, 1) := by decide +kernel
theorem dX5_follow_102 : decode cX5_follow 102 = .ok (.iaload, 1) := by decide +kernel
theorem dX5_follow_103 : decode cX5_follow 103 = .ok (.istore 5, 2) := by decide +kernel
theorem dX5_follow_105 : decode cX5_follow 105 = .ok (.iinc 7 1, 3) := by decide +kernel
theorem dX5_follow_108 : decode cX5_follow 108 = .ok (.goto (-72), 3) := by decide +kernel
theorem dX5_follow_111 : decode cX5_follow 111 = .ok (.return_, 1) := by decide +kernel
theorem dX5_findByFew_0 : decode cX5_findByFew 0 = .ok (.aload_n 1, 1) := by decide +kernel
theorem dX5_findByFew_1 : decode cX5_findByFew 1 = .ok (.iload_n 2, 1) := by decide +kernel
theorem dX5_findByFew_2 : decode cX5_findByFew 2 = .ok (.invokevirtual 110, 3) := by decide +kernel
theorem dX5_findByFew_5 : decode cX5_findByFew 5 = .ok (.istore 4, 2) := by decide +kernel
theorem dX5_findByFew_7 : decode cX5_findByFew 7 = .ok (.iconst 0, 1) := by decide +kernel
theorem dX5_findByFew_8 : decode cX5_findByFew 8 = .ok (.istore 5, 2) := by decide +kernel
theorem dX5_findByFew_10 : decode cX5_findByFew 10 = .ok (.iload 5, 2) := by decide +kernel
theorem dX5_findByFew_12 : decode cX5_findByFew 12 = .ok (.aload_n 0, 1) := by decide +kernel
theorem dX5_findByFew_13 : decode cX5_findByFew 13 = .ok (.getfield 32, 3) := by decide +kernel
theorem dX5_findByFew_16 : decode cX5_findByFew 16 = .ok (.getfield 80, 3) := by decide +kernel
theorem dX5_findByFew_19 : decode cX5_findByFew 19 = .ok (.if_icmp .ge 27, 3) := by decide +kernel
theorem dX5_findByFew_22 : decode cX5_findByFew 22 = .ok (.aload_n 0, 1) := by decide +kernel
theorem dX5_findByFew_23 : decode cX5_findByFew 23 = .ok (.getfield 15, 3) := by decide +kernel
theorem dX5_findByFew_26 : decode cX5_findByFew 26 = .ok (.iload 5, 2) := by decide +kernel
theorem dX5_findByFew_28 : decode cX5_findByFew 28 = .ok (.iload 5, 2) := by decide +kernel
theorem dX5_findByFew_30 : decode cX5_findByFew 30 = .ok (.ifCond .ne 7, 3) := by decide +kernel
theorem dX5_findByFew_33 : decode cX5_findByFew 33 = .ok (.iconst 0, 1) := by decide +kernel
theorem dX5_findByFew_34 : decode cX5_findByFew 34 = .ok (.goto 5, 3) := by decide +kernel
theorem dX5_findByFew_37 : decode cX5_findByFew 37 = .ok (.ldc 87, 2) := by decide +kernel
theorem dX5_findByFew_39 : decode cX5_findByFew 39 = .ok (.iastore, 1) := by decide +kernel
theorem dX5_findByFew_40 : decode cX5_findByFew 40 = .ok (.iinc 5 1, 3) := by decide +kernel
theorem dX5_findByFew_43 : decode cX5_findByFew 43 = .ok (.goto (-33), 3) := by decide +kernel
theorem dX5_findByFew_46 : decode cX5_findByFew 46 = .ok (.iconst 0, 1) := by decide +kernel
theorem dX5_findByFew_47 : decode cX5_findByFew 47 = .ok (.istore 5, 2) := by decide +kernel
theorem dX5_findByFew_49 : decode cX5_findByFew 49 = .ok (.iload 5, 2) := by decide +kernel
theorem dX5_findByFew_51 : decode cX5_findByFew 51 = .ok (.iload 4, 2) := by decide +kernel
theorem dX5_findByFew_53 : decode cX5_findByFew 53 = .ok (.if_icmp .ge 31, 3) := by decide +kernel
theorem dX5_findByFew_56 : decode cX5_findByFew 56 = .ok (.aload_n 0, 1) := by decide +kernel
theorem dX5_findByFew_57 : decode cX5_findByFew 57 = .ok (.iload 5, 2) := by decide +kernel
theorem dX5_findByFew_59 : decode cX5_findByFew 59 = .ok (.iload 5, 2) := by decide +kernel
theorem dX5_findByFew_61 : decode cX5_findByFew 61 = .ok (.iload_n 2, 1) := by decide +kernel
theorem dX5_findByFew_62 : decode cX5_findByFew 62 = .ok (.if_icmp .lt 7, 3) := by decide +kernel
theorem dX5_findByFew_65 : decode cX5_findByFew 65 = .ok (.iconst 1, 1) := by decide +kernel
theorem dX5_findByFew_66 : decode cX5_findByFew 66 = .ok (.goto 4, 3) := by decide +kernel
theorem dX5_findByFew_69 : decode cX5_findByFew 69 = .ok (.iconst 0, 1) := by decide +kernel
theorem dX5_findByFew_70 : decode cX5_findByFew 70 = .ok (.invokevirtual 114, 3) := by decide +kernel
theorem dX5_findByFew_73 : decode cX5_findByFew 73 = .ok (.aload_n 0, 1) := by decide +kernel
theorem dX5_findByFew_74 : decode cX5_findByFew 74 = .ok (.iload_n 3, 1) := by decide +kernel
theorem dX5_findByFew_75 : decode cX5_findByFew 75 = .ok (.invokevirtual 118, 3) := by decide +kernel
theorem dX5_findByFew_78 : decode cX5_findByFew 78 = .ok (.iinc 5 1, 3) := by decide +kernel
theorem dX5_findByFew_81 : decode cX5_findByFew 81 = .ok (.goto (-32), 3) := by decide +kernel
theorem dX5_findByFew_84 : decode cX5_findByFew 84 = .ok (.aload_n 1, 1) := by decide +kernel
theorem dX5_findByFew_85 : decode cX5_findByFew 85 = .ok (.getfield 121, 3) := by decide +kernel
theorem dX5_findByFew_88 : decode cX5_findByFew 88 = .ok (.iconst 3, 1) := by decide +kernel
theorem dX5_findByFew_89 : decode cX5_findByFew 89 = .ok (.if_icmp .ne 7, 3) := by decide +kernel
theorem dX5_findByFew_92 : decode cX5_findByFew 92 = .ok (.iconst 0, 1) := by decide +kernel
theorem dX5_findByFew_93 : decode cX5_findByFew 93 = .ok (.goto 7, 3) := by decide +kernel
theorem dX5_findByFew_96 : decode cX5_findByFew 96 = .ok (.aload_n 0, 1) := by decide +kernel
theorem dX5_findByFew_97 : decode cX5_findByFew 97 = .ok (.invokevirtual 124, 3) := by decide +kernel
theorem dX5_findByFew_100 : decode cX5_findByFew 100 = .ok (.istore 5, 2) := by decide +kernel
theorem dX5_findByFew_102 : decode cX5_findByFew 102 = .ok (.aload_n 0, 1) := by decide +kernel
theorem dX5_findByFew_103 : decode cX5_findByFew 103 = .ok (.getfield 36, 3) := by decide +kernel
theorem dX5_findByFew_106 : decode cX5_findByFew 106 = .ok (.iconst 1, 1) := by decide +kernel
theorem dX5_findByFew_107 : decode cX5_findByFew 107 = .ok (.invokevirtual 40, 3) := by decide +kernel
theorem dX5_findByFew_110 : decode cX5_findByFew 110 = .ok (.aload_n 0, 1) := by decide +kernel
theorem dX5_findByFew_111 : decode cX5_findByFew 111 = .ok (.getfield 15, 3) := by decide +kernel
theorem dX5_findByFew_114 : decode cX5_findByFew 114 = .ok (.iload 5, 2) := by decide +kernel
theorem dX5_findByFew_116 : decode cX5_findByFew 116 = .ok (.iaload, 1) := by decide +kernel
theorem dX5_findByFew_117 : decode cX5_findByFew 117 = .ok (.ldc 87, 2) := by decide +kernel
theorem dX5_findByFew_119 : decode cX5_findByFew 119 = .ok (.if_icmp .ge 20, 3) := by decide +kernel
theorem dX5_findByFew_122 : decode cX5_findByFew 122 = .ok (.aload_n 0, 1) := by decide +kernel
theorem dX5_findByFew_123 : decode cX5_findByFew 123 = .ok (.iload 5, 2) := by decide +kernel
theorem dX5_findByFew_125 : decode cX5_findByFew 125 = .ok (.iload 4, 2) := by decide +kernel
theorem dX5_findByFew_127 : decode cX5_findByFew 127 = .ok (.iload_n 2, 1) := by decide +kernel
theorem dX5_findByFew_128 : decode cX5_findByFew 128 = .ok (.invokevirtual 127, 3) := by decide +kernel
theorem dX5_findByFew_131 : decode cX5_findByFew 131 = .ok (.aload_n 0, 1) := by decide +kernel
theorem dX5_findByFew_132 : decode cX5_findByFew 132 = .ok (.getfield 36, 3) := by decide +kernel
theorem dX5_findByFew_135 : decode cX5_findByFew 135 = .ok (.invokevirtual 77, 3) := by decide +kernel
theorem dX5_findByFew_138 : decode cX5_findByFew 138 = .ok (.pop, 1) := by decide +kernel
theorem dX5_findByFew_139 : decode cX5_findByFew 139 = .ok (.return_, 1) := by decide +kernel
theorem dX5_goOn_0 : decode cX5_goOn 0 = .ok (.iconst 0, 1) := by decide +kernel
theorem dX5_goOn_1 : decode cX5_goOn 1 = .ok (.istore_n 3, 1) := by decide +kernel
theorem dX5_goOn_2 : decode cX5_goOn 2 = .ok (.iload_n 3, 1) := by decide +kernel
theorem dX5_goOn_3 : decode cX5_goOn 3 = .ok (.aload_n 0, 1) := by decide +kernel
theorem dX5_goOn_4 : decode cX5_goOn 4 = .ok (.getfield 32, 3) := by decide +kernel
theorem dX5_goOn_7 : decode cX5_goOn 7 = .ok (.getfield 80, 3) := by decide +kernel
theorem dX5_goOn_10 : decode cX5_goOn 10 = .ok (.if_icmp .ge 17, 3) := by decide +kernel
theorem dX5_goOn_13 : decode cX5_goOn 13 = .ok (.aload_n 0, 1) := by decide +kernel
theorem dX5_goOn_14 : decode cX5_goOn 14 = .ok (.getfield 9, 3) := by decide +kernel
theorem dX5_goOn_17 : decode cX5_goOn 17 = .ok (.iload_n 3, 1) := by decide +kernel
theorem dX5_goOn_18 : decode cX5_goOn 18 = .ok (.ldc 87, 2) := by decide +kernel
theorem dX5_goOn_20 : decode cX5_goOn 20 = .ok (.iastore, 1) := by decide +kernel
theorem dX5_goOn_21 : decode cX5_goOn 21 = .ok (.iinc 3 1, 3) := by decide +kernel
theorem dX5_goOn_24 : decode cX5_goOn 24 = .ok (.goto (-22), 3) := by decide +kernel
theorem dX5_goOn_27 : decode cX5_goOn 27 = .ok (.iconst 0, 1) := by decide +kernel
theorem dX5_goOn_28 : decode cX5_goOn 28 = .ok (.istore_n 3, 1) := by decide +kernel
theorem dX5_goOn_29 : decode cX5_goOn 29 = .ok (.iload_n 3, 1) := by decide +kernel
theorem dX5_goOn_30 : decode cX5_goOn 30 = .ok (.iconst 2, 1) := by decide +kernel
theorem dX5_goOn_31 : decode cX5_goOn 31 = .ok (.aload_n 0, 1) := by decide +kernel
theorem dX5_goOn_32 : decode cX5_goOn 32 = .ok (.getfield 32, 3) := by decide +kernel
theorem dX5_goOn_35 : decode cX5_goOn 35 = .ok (.getfield 80, 3) := by decide +kernel
theorem dX5_goOn_38 : decode cX5_goOn 38 = .ok (.imul, 1) := by decide +kernel
theorem dX5_goOn_39 : decode cX5_goOn 39 = .ok (.if_icmp .ge 132, 3) := by decide +kernel
theorem dX5_goOn_42 : decode cX5_goOn 42 = .ok (.iload_n 3, 1) := by decide +kernel
theorem dX5_goOn_43 : decode cX5_goOn 43 = .ok (.iconst 2, 1) := by decide +kernel
theorem dX5_goOn_44 : decode cX5_goOn 44 = .ok (.idiv, 1) := by decide +kernel
theorem dX5_goOn_45 : decode cX5_goOn 45 = .ok (.istore 4, 2) := by decide +kernel
theorem dX5_goOn_47 : decode cX5_goOn 47 = .ok (.aload_n 0, 1) := by decide +kernel
theorem dX5_goOn_48 : decode cX5_goOn 48 = .ok (.getfield 32, 3) := by decide +kernel
theorem dX5_goOn_51 : decode cX5_goOn 51 = .ok (.getfield 91, 3) := by decide +kernel
theorem dX5_goOn_54 : decode cX5_goOn 54 = .ok (.iload_n 3, 1) := by decide +kernel
theorem dX5_goOn_55 : decode cX5_goOn 55 = .ok (.iaload, 1) := by decide +kernel
theorem dX5_goOn_56 : decode cX5_goOn 56 = .ok (.istore 5, 2) := by decide +kernel
theorem dX5_goOn_58 : decode cX5_goOn 58 = .ok (.aload_n 0, 1) := by decide +kernel
theorem dX5_goOn_59 : decode cX5_goOn 59 = .ok (.getfield 15, 3) := by decide +kernel
theorem dX5_goOn_62 : decode cX5_goOn 62 = .ok (.iload 4, 2) := by decide +kernel
theorem dX5_goOn_64 : decode cX5_goOn 64 = .ok (.iaload, 1) := by decide +kernel
theorem dX5_goOn_65 : decode cX5_goOn 65 = .ok (.ldc 87, 2) := by decide +kernel
theorem dX5_goOn_67 : decode cX5_goOn 67 = .ok (.if_icmp .ge 24, 3) := by decide +kernel
theorem dX5_goOn_70 : decode cX5_goOn 70 = .ok (.iload_n 2, 1) := by decide +kernel
theorem dX5_goOn_71 : decode cX5_goOn 71 = .ok (.ifCond .eq 16, 3) := by decide +kernel
theorem dX5_goOn_74 : decode cX5_goOn 74 = .ok (.iload_n 3, 1) := by decide +kernel
theorem dX5_goOn_75 : decode cX5_goOn 75 = .ok (.aload_n 0, 1) := by decide +kernel
theorem dX5_goOn_76 : decode cX5_goOn 76 = .ok (.getfield 32, 3) := by decide +kernel
theorem dX5_goOn_79 : decode cX5_goOn 79 = .ok (.iload 4, 2) := by decide +kernel
theorem dX5_goOn_81 : decode cX5_goOn 81 = .ok (.invokevirtual 130, 3) := by decide +kernel
theorem dX5_goOn_84 : decode cX5_goOn 84 = .ok (.if_icmp .ne 7, 3) := by decide +kernel
theorem dX5_goOn_87 : decode cX5_goOn 87 = .ok (.iconst 1, 1) := by decide +kernel
theorem dX5_goOn_88 : decode cX5_goOn 88 = .ok (.goto 4, 3) := by decide +kernel
theorem dX5_goOn_91 : decode cX5_goOn 91 = .ok (.iconst 0, 1) := by decide +kernel
theorem dX5_goOn_92 : decode cX5_goOn 92 = .ok (.istore 6, 2) := by decide +kernel
theorem dX5_goOn_94 : decode cX5_goOn 94 = .ok (.iload 6, 2) := by decide +kernel
theorem dX5_goOn_96 : decode cX5_goOn 96 = .ok (.ifCond .eq 69, 3) := by decide +kernel
theorem dX5_goOn_99 : decode cX5_goOn 99 = .ok (.aload_n 0, 1) := by decide +kernel
theorem dX5_goOn_100 : decode cX5_goOn 100 = .ok (.getfield 15, 3) := by decide +kernel
theorem dX5_goOn_103 : decode cX5_goOn 103 = .ok (.iload 4, 2) := by decide +kernel
theorem dX5_goOn_105 : decode cX5_goOn 105 = .ok (.iaload, 1) := by decide +kernel
theorem dX5_goOn_106 : decode cX5_goOn 106 = .ok (.aload_n 0, 1) := by decide +kernel
theorem dX5_goOn_107 : decode cX5_goOn 107 = .ok (.getfield 32, 3) := by decide +kernel
theorem dX5_goOn_110 : decode cX5_goOn 110 = .ok (.iload_n 1, 1) := by decide +kernel
theorem dX5_goOn_111 : decode cX5_goOn 111 = .ok (.iload_n 3, 1) := by decide +kernel
theorem dX5_goOn_112 : decode cX5_goOn 112 = .ok (.invokevirtual 94, 3) := by decide +kernel
theorem dX5_goOn_115 : decode cX5_goOn 115 = .ok (.iadd, 1) := by decide +kernel
theorem dX5_goOn_116 : decode cX5_goOn 116 = .ok (.aload_n 0, 1) := by decide +kernel
theorem dX5_goOn_117 : decode cX5_goOn 117 = .ok (.getfield 9, 3) := by decide +kernel
theorem dX5_goOn_120 : decode cX5_goOn 120 = .ok (.iload 5, 2) := by decide +kernel
theorem dX5_goOn_122 : decode cX5_goOn 122 = .ok (.iaload, 1) := by decide +kernel
theorem dX5_goOn_123 : decode cX5_goOn 123 = .ok (.if_icmp .ge 42, 3) := by decide +kernel
theorem dX5_goOn_126 : decode cX5_goOn 126 = .ok (.aload_n 0, 1) := by decide +kernel
theorem dX5_goOn_127 : decode cX5_goOn 127 = .ok (.getfield 9, 3) := by decide +kernel
theorem dX5_goOn_130 : decode cX5_goOn 130 = .ok (.iload 5, 2) := by decide +kernel
theorem dX5_goOn_132 : decode cX5_goOn 132 = .ok (.aload_n 0, 1) := by decide +kernel
theorem dX5_goOn_133 : decode cX5_goOn 133 = .ok (.getfield 15, 3) := by decide +kernel
theorem dX5_goOn_136 : decode cX5_goOn 136 = .ok (.iload 4, 2) := by decide +kernel
theorem dX5_goOn_138 : decode cX5_goOn 138 = .ok (.iaload, 1) := by decide +kernel
theorem dX5_goOn_139 : decode cX5_goOn 139 = .ok (.aload_n 0, 1) := by decide +kernel
theorem dX5_goOn_140 : decode cX5_goOn 140 = .ok (.getfield 32, 3) := by decide +kernel
theorem dX5_goOn_143 : decode cX5_goOn 143 = .ok (.iload_n 1, 1) := by decide +kernel
theorem dX5_goOn_144 : decode cX5_goOn 144 = .ok (.iload_n 3, 1) := by decide +kernel
theorem dX5_goOn_145 : decode cX5_goOn 145 = .ok (.invokevirtual 94, 3) := by decide +kernel
theorem dX5_goOn_148 : decode cX5_goOn 148 = .ok (.iadd, 1) := by decide +kernel
theorem dX5_goOn_149 : decode cX5_goOn 149 = .ok (.iastore, 1) := by decide +kernel
theorem dX5_goOn_150 : decode cX5_goOn 150 = .ok (.aload_n 0, 1) := by decide +kernel
theorem dX5_goOn_151 : decode cX5_goOn 151 = .ok (.getfield 29, 3) := by decide +kernel
theorem dX5_goOn_154 : decode cX5_goOn 154 = .ok (.iload_n 1, 1) := by decide +kernel
theorem dX5_goOn_155 : decode cX5_goOn 155 = .ok (.bipush 64, 2) := by decide +kernel
theorem dX5_goOn_157 : decode cX5_goOn 157 = .ok (.imul, 1) := by decide +kernel
theorem dX5_goOn_158 : decode cX5_goOn 158 = .ok (.iload 5, 2) := by decide +kernel
theorem dX5_goOn_160 : decode cX5_goOn 160 = .ok (.iadd, 1) := by decide +kernel
theorem dX5_goOn_161 : decode cX5_goOn 161 = .ok (.iload 4, 2) := by decide +kernel
theorem dX5_goOn_163 : decode cX5_goOn 163 = .ok (.i2b, 1) := by decide +kernel
theorem dX5_goOn_164 : decode cX5_goOn 164 = .ok (.bastore, 1) := by decide +kernel
theorem dX5_goOn_165 : decode cX5_goOn 165 = .ok (.iinc 3 1, 3) := by decide +kernel
theorem dX5_goOn_168 : decode cX5_goOn 168 = .ok (.goto (-139), 3) := by decide +kernel
theorem dX5_goOn_171 : decode cX5_goOn 171 = .ok (.aload_n 0, 1) := by decide +kernel
theorem dX5_goOn_172 : decode cX5_goOn 172 = .ok (.getfield 9, 3) := by decide +kernel
theorem dX5_goOn_175 : decode cX5_goOn 175 = .ok (.astore_n 3, 1) := by decide +kernel
theorem dX5_goOn_176 : decode cX5_goOn 176 = .ok (.aload_n 0, 1) := by decide +kernel
theorem dX5_goOn_177 : decode cX5_goOn 177 = .ok (.aload_n 0, 1) := by decide +kernel
theorem dX5_goOn_178 : decode cX5_goOn 178 = .ok (.getfield 15, 3) := by decide +kernel
theorem dX5_goOn_181 : decode cX5_goOn 181 = .ok (.putfield 9, 3) := by decide +kernel
theorem dX5_goOn_184 : decode cX5_goOn 184 = .ok (.aload_n 0, 1) := by decide +kernel
theorem dX5_goOn_185 : decode cX5_goOn 185 = .ok (.aload_n 3, 1) := by decide +kernel
theorem dX5_goOn_186 : decode cX5_goOn 186 = .ok (.putfield 15, 3) := by decide +kernel
theorem dX5_goOn_189 : decode cX5_goOn 189 = .ok (.return_, 1) := by decide +kernel
theorem dX5_thin_0 : decode cX5_thin 0 = .ok (.iconst 0, 1) := by decide +kernel
theorem dX5_thin_1 : decode cX5_thin 1 = .ok (.istore_n 2, 1) := by decide +kernel
theorem dX5_thin_2 : decode cX5_thin 2 = .ok (.iload_n 2, 1) := by decide +kernel
theorem dX5_thin_3 : decode cX5_thin 3 = .ok (.aload_n 0, 1) := by decide +kernel
theorem dX5_thin_4 : decode cX5_thin 4 = .ok (.getfield 32, 3) := by decide +kernel
theorem dX5_thin_7 : decode cX5_thin 7 = .ok (.getfield 80, 3) := by decide +kernel
theorem dX5_thin_10 : decode cX5_thin 10 = .ok (.if_icmp .ge 95, 3) := by decide +kernel
theorem dX5_thin_13 : decode cX5_thin 13 = .ok (.iconst 0, 1) := by decide +kernel
theorem dX5_thin_14 : decode cX5_thin 14 = .ok (.istore_n 3, 1) := by decide +kernel
theorem dX5_thin_15 : decode cX5_thin 15 = .ok (.iconst 0, 1) := by decide +kernel
theorem dX5_thin_16 : decode cX5_thin 16 = .ok (.istore 4, 2) := by decide +kernel
theorem dX5_thin_18 : decode cX5_thin 18 = .ok (.iload 4, 2) := by decide +kernel
theorem dX5_thin_20 : decode cX5_thin 20 = .ok (.aload_n 0, 1) := by decide +kernel
theorem dX5_thin_21 : decode cX5_thin 21 = .ok (.getfield 32, 3) := by decide +kernel
theorem dX5_thin_24 : decode cX5_thin 24 = .ok (.getfield 80, 3) := by decide +kernel
theorem dX5_thin_27 : decode cX5_thin 27 = .ok (.if_icmp .ge 50, 3) := by decide +kernel
theorem dX5_thin_30 : decode cX5_thin 30 = .ok (.aload_n 0, 1) := by decide +kernel
theorem dX5_thin_31 : decode cX5_thin 31 = .ok (.getfield 15, 3) := by decide +kernel
theorem dX5_thin_34 : decode cX5_thin 34 = .ok (.iload 4, 2) := by decide +kernel
theorem dX5_thin_36 : decode cX5_thin 36 = .ok (.iaload, 1) := by decide +kernel
theorem dX5_thin_37 : decode cX5_thin 37 = .ok (.aload_n 0, 1) := by decide +kernel
theorem dX5_thin_38 : decode cX5_thin 38 = .ok (.getfield 15, 3) := by decide +kernel
theorem dX5_thin_41 : decode cX5_thin 41 = .ok (.iload_n 2, 1) := by decide +kernel
theorem dX5_thin_42 : decode cX5_thin 42 = .ok (.iaload, 1) := by decide +kernel
theorem dX5_thin_43 : decode cX5_thin 43 = .ok (.if_icmp .lt 25, 3) := by decide +kernel
theorem dX5_thin_46 : decode cX5_thin 46 = .ok (.aload_n 0, 1) := by decide +kernel
theorem dX5_thin_47 : decode cX5_thin 47 = .ok (.getfield 15, 3) := by decide +kernel
theorem dX5_thin_50 : decode cX5_thin 50 = .ok (.iload 4, 2) := by decide +kernel
theorem dX5_thin_52 : decode cX5_thin 52 = .ok (.iaload, 1) := by decide +kernel
theorem dX5_thin_53 : decode cX5_thin 53 = .ok (.aload_n 0, 1) := by decide +kernel
theorem dX5_thin_54 : decode cX5_thin 54 = .ok (.getfield 15, 3) := by decide +kernel
theorem dX5_thin_57 : decode cX5_thin 57 = .ok (.iload_n 2, 1) := by decide +kernel
theorem dX5_thin_58 : decode cX5_thin 58 = .ok (.iaload, 1) := by decide +kernel
theorem dX5_thin_59 : decode cX5_thin 59 = .ok (.if_icmp .ne 12, 3) := by decide +kernel
theorem dX5_thin_62 : decode cX5_thin 62 = .ok (.iload 4, 2) := by decide +kernel
theorem dX5_thin_64 : decode cX5_thin 64 = .ok (.iload_n 2, 1) := by decide +kernel
theorem dX5_thin_65 : decode cX5_thin 65 = .ok (.if_icmp .ge 6, 3) := by decide +kernel
theorem dX5_thin_68 : decode cX5_thin 68 = .ok (.iinc 3 1, 3) := by decide +kernel
theorem dX5_thin_71 : decode cX5_thin 71 = .ok (.iinc 4 1, 3) := by decide +kernel
theorem dX5_thin_74 : decode cX5_thin 74 = .ok (.goto (-56), 3) := by decide +kernel
theorem dX5_thin_77 : decode cX5_thin 77 = .ok (.aload_n 0, 1) := by decide +kernel
theorem dX5_thin_78 : decode cX5_thin 78 = .ok (.getfield 9, 3) := by decide +kernel
theorem dX5_thin_81 : decode cX5_thin 81 = .ok (.iload_n 2, 1) := by decide +kernel
theorem dX5_thin_82 : decode cX5_thin 82 = .ok (.iload_n 3, 1) := by decide +kernel
theorem dX5_thin_83 : decode cX5_thin 83 = .ok (.iload_n 1, 1) := by decide +kernel
theorem dX5_thin_84 : decode cX5_thin 84 = .ok (.if_icmp .ge 12, 3) := by decide +kernel
theorem dX5_thin_87 : decode cX5_thin 87 = .ok (.aload_n 0, 1) := by decide +kernel
theorem dX5_thin_88 : decode cX5_thin 88 = .ok (.getfield 15, 3) := by decide +kernel
theorem dX5_thin_91 : decode cX5_thin 91 = .ok (.iload_n 2, 1) := by decide +kernel
theorem dX5_thin_92 : decode cX5_thin 92 = .ok (.iaload, 1) := by decide +kernel
theorem dX5_thin_93 : decode cX5_thin 93 = .ok (.goto 5, 3) := by decide +kernel
theorem dX5_thin_96 : decode cX5_thin 96 = .ok (.ldc 87, 2) := by decide +kernel
theorem dX5_thin_98 : decode cX5_thin 98 = .ok (.iastore, 1) := by decide +kernel
theorem dX5_thin_99 : decode cX5_thin 99 = .ok (.iinc 2 1, 3) := by decide +kernel
theorem dX5_thin_102 : decode cX5_thin 102 = .ok (.goto (-100), 3) := by decide +kernel
theorem dX5_thin_105 : decode cX5_thin 105 = .ok (.aload_n 0, 1) := by decide +kernel
theorem dX5_thin_106 : decode cX5_thin 106 = .ok (.getfield 9, 3) := by decide +kernel
theorem dX5_thin_109 : decode cX5_thin 109 = .ok (.astore_n 2, 1) := by decide +kernel
theorem dX5_thin_110 : decode cX5_thin 110 = .ok (.aload_n 0, 1) := by decide +kernel
theorem dX5_thin_111 : decode cX5_thin 111 = .ok (.aload_n 0, 1) := by decide +kernel
theorem dX5_thin_112 : decode cX5_thin 112 = .ok (.getfield 15, 3) := by decide +kernel
theorem dX5_thin_115 : decode cX5_thin 115 = .ok (.putfield 9, 3) := by decide +kernel
theorem dX5_thin_118 : decode cX5_thin 118 = .ok (.aload_n 0, 1) := by decide +kernel
theorem dX5_thin_119 : decode cX5_thin 119 = .ok (.aload_n 2, 1) := by decide +kernel
theorem dX5_thin_120 : decode cX5_thin 120 = .ok (.putfield 15, 3) := by decide +kernel
theorem dX5_thin_123 : decode cX5_thin 123 = .ok (.return_, 1) := by decide +kernel
theorem dX5_cheapestState_0 : decode cX5_cheapestState 0 = .ok (.iconst 0, 1) := by decide +kernel
theorem dX5_cheapestState_1 : decode cX5_cheapestState 1 = .ok (.istore_n 1, 1) := by decide +kernel
theorem dX5_cheapestState_2 : decode cX5_cheapestState 2 = .ok (.iconst 1, 1) := by decide +kernel
theorem dX5_cheapestState_3 : decode cX5_cheapestState 3 = .ok (.istore_n 2, 1) := by decide +kernel
theorem dX5_cheapestState_4 : decode cX5_cheapestState 4 = .ok (.iload_n 2, 1) := by decide +kernel
theorem dX5_cheapestState_5 : decode cX5_cheapestState 5 = .ok (.aload_n 0, 1) := by decide +kernel
theorem dX5_cheapestState_6 : decode cX5_cheapestState 6 = .ok (.getfield 32, 3) := by decide +kernel
theorem dX5_cheapestState_9 : decode cX5_cheapestState 9 = .ok (.getfield 80, 3) := by decide +kernel
theorem dX5_cheapestState_12 : decode cX5_cheapestState 12 = .ok (.if_icmp .ge 26, 3) := by decide +kernel
theorem dX5_cheapestState_15 : decode cX5_cheapestState 15 = .ok (.aload_n 0, 1) := by decide +kernel
theorem dX5_cheapestState_16 : decode cX5_cheapestState 16 = .ok (.getfield 15, 3) := by decide +kernel
theorem dX5_cheapestState_19 : decode cX5_cheapestState 19 = .ok (.iload_n 2, 1) := by decide +kernel
theorem dX5_cheapestState_20 : decode cX5_cheapestState 20 = .ok (.iaload, 1) := by decide +kernel
theorem dX5_cheapestState_21 : decode cX5_cheapestState 21 = .ok (.aload_n 0, 1) := by decide +kernel
theorem dX5_cheapestState_22 : decode cX5_cheapestState 22 = .ok (.getfield 15, 3) := by decide +kernel
theorem dX5_cheapestState_25 : decode cX5_cheapestState 25 = .ok (.iload_n 1, 1) := by decide +kernel
theorem dX5_cheapestState_26 : decode cX5_cheapestState 26 = .ok (.iaload, 1) := by decide +kernel
theorem dX5_cheapestState_27 : decode cX5_cheapestState 27 = .ok (.if_icmp .ge 5, 3) := by decide +kernel
theorem dX5_cheapestState_30 : decode cX5_cheapestState 30 = .ok (.iload_n 2, 1) := by decide +kernel
theorem dX5_cheapestState_31 : decode cX5_cheapestState 31 = .ok (.istore_n 1, 1) := by decide +kernel
theorem dX5_cheapestState_32 : decode cX5_cheapestState 32 = .ok (.iinc 2 1, 3) := by decide +kernel
theorem dX5_cheapestState_35 : decode cX5_cheapestState 35 = .ok (.goto (-31), 3) := by decide +kernel
theorem dX5_cheapestState_38 : decode cX5_cheapestState 38 = .ok (.iload_n 1, 1) := by decide +kernel
theorem dX5_cheapestState_39 : decode cX5_cheapestState 39 = .ok (.ireturn, 1) := by decide +kernel
theorem dX5_goBack_0 : decode cX5_goBack 0 = .ok (.aload_n 0, 1) := by decide +kernel
theorem dX5_goBack_1 : decode cX5_goBack 1 = .ok (.getfield 36, 3) := by decide +kernel
theorem dX5_goBack_4 : decode cX5_goBack 4 = .ok (.invokevirtual 98, 3) := by decide +kernel
theorem dX5_goBack_7 : decode cX5_goBack 7 = .ok (.astore 4, 2) := by decide +kernel
theorem dX5_goBack_9 : decode cX5_goBack 9 = .ok (.aload 4, 2) := by decide +kernel
theorem dX5_goBack_11 : decode cX5_goBack 11 = .ok (.aload_n 0, 1) := by decide +kernel
theorem dX5_goBack_12 : decode cX5_goBack 12 = .ok (.getfield 15, 3) := by decide +kernel
theorem dX5_goBack_15 : decode cX5_goBack 15 = .ok (.iload_n 1, 1) := by decide +kernel
theorem dX5_goBack_16 : decode cX5_goBack 16 = .ok (.iaload, 1) := by decide +kernel
theorem dX5_goBack_17 : decode cX5_goBack 17 = .ok (.iconst 0, 1) := by decide +kernel
theorem dX5_goBack_18 : decode cX5_goBack 18 = .ok (.iload_n 3, 1) := by decide +kernel
theorem dX5_goBack_19 : decode cX5_goBack 19 = .ok (.invokevirtual 102, 3) := by decide +kernel
theorem dX5_goBack_22 : decode cX5_goBack 22 = .ok (.iload_n 1, 1) := by decide +kernel
theorem dX5_goBack_23 : decode cX5_goBack 23 = .ok (.istore 5, 2) := by decide +kernel
theorem dX5_goBack_25 : decode cX5_goBack 25 = .ok (.iload_n 2, 1) := by decide +kernel
theorem dX5_goBack_26 : decode cX5_goBack 26 = .ok (.iconst 1, 1) := by decide +kernel
theorem dX5_goBack_27 : decode cX5_goBack 27 = .ok (.isub, 1) := by decide +kernel
theorem dX5_goBack_28 : decode cX5_goBack 28 = .ok (.istore 6, 2) := by decide +kernel
theorem dX5_goBack_30 : decode cX5_goBack 30 = .ok (.iload 6, 2) := by decide +kernel
theorem dX5_goBack_32 : decode cX5_goBack 32 = .ok (.ifCond .lt 65, 3) := by decide +kernel
theorem dX5_goBack_35 : decode cX5_goBack 35 = .ok (.aload_n 0, 1) := by decide +kernel
theorem dX5_goBack_36 : decode cX5_goBack 36 = .ok (.getfield 29, 3) := by decide +kernel
theorem dX5_goBack_39 : decode cX5_goBack 39 = .ok (.iload 6, 2) := by decide +kernel
theorem dX5_goBack_41 : decode cX5_goBack 41 = .ok (.bipush 64, 2) := by decide +kernel
theorem dX5_goBack_43 : decode cX5_goBack 43 = .ok (.imul, 1) := by decide +kernel
theorem dX5_goBack_44 : decode cX5_goBack 44 = .ok (.iload 5, 2) := by decide +kernel
theorem dX5_goBack_46 : decode cX5_goBack 46 = .ok (.iadd, 1) := by decide +kernel
theorem dX5_goBack_47 : decode cX5_goBack 47 = .ok (.baload, 1) := by decide +kernel
theorem dX5_goBack_48 : decode cX5_goBack 48 = .ok (.istore 7, 2) := by decide +kernel
theorem dX5_goBack_50 : decode cX5_goBack 50 = .ok (.iload 6, 2) := by decide +kernel
theorem dX5_goBack_52 : decode cX5_goBack 52 = .ok (.iload_n 3, 1) := by decide +kernel
theorem dX5_goBack_53 : decode cX5_goBack 53 = .ok (.if_icmp .ge 34, 3) := by decide +kernel
theorem dX5_goBack_56 : decode cX5_goBack 56 = .ok (.aload 4, 2) := by decide +kernel
theorem dX5_goBack_58 : decode cX5_goBack 58 = .ok (.getfield 107, 3) := by decide +kernel
theorem dX5_goBack_61 : decode cX5_goBack 61 = .ok (.iload 6, 2) := by decide +kernel
theorem dX5_goBack_63 : decode cX5_goBack 63 = .ok (.aload_n 0, 1) := by decide +kernel
theorem dX5_goBack_64 : decode cX5_goBack 64 = .ok (.getfield 32, 3) := by decide +kernel
theorem dX5_goBack_67 : decode cX5_goBack 67 = .ok (.getfield 91, 3) := by decide +kernel
theorem dX5_goBack_70 : decode cX5_goBack 70 = .ok (.iconst 2, 1) := by decide +kernel
theorem dX5_goBack_71 : decode cX5_goBack 71 = .ok (.iload 7, 2) := by decide +kernel
theorem dX5_goBack_73 : decode cX5_goBack 73 = .ok (.imul, 1) := by decide +kernel
theorem dX5_goBack_74 : decode cX5_goBack 74 = .ok (.iaload, 1) := by decide +kernel
theorem dX5_goBack_75 : decode cX5_goBack 75 = .ok (.iload 5, 2) := by decide +kernel
theorem dX5_goBack_77 : decode cX5_goBack 77 = .ok (.if_icmp .ne 7, 3) := by decide +kernel
theorem dX5_goBack_80 : decode cX5_goBack 80 = .ok (.iconst 0, 1) := by decide +kernel
theorem dX5_goBack_81 : decode cX5_goBack 81 = .ok (.goto 4, 3) := by decide +kernel
theorem dX5_goBack_84 : decode cX5_goBack 84 = .ok (.iconst 1, 1) := by decide +kernel
theorem dX5_goBack_85 : decode cX5_goBack 85 = .ok (.i2b, 1) := by decide +kernel
theorem dX5_goBack_86 : decode cX5_goBack 86 = .ok (.bastore, 1) := by decide +kernel
theorem dX5_goBack_87 : decode cX5_goBack 87 = .ok (.iload 7, 2) := by decide +kernel
theorem dX5_goBack_89 : decode cX5_goBack 89 = .ok (.istore 5, 2) := by decide +kernel
theorem dX5_goBack_91 : decode cX5_goBack 91 = .ok (.iinc 6 (-1), 3) := by decide +kernel
theorem dX5_goBack_94 : decode cX5_goBack 94 = .ok (.goto (-64), 3) := by decide +kernel
theorem dX5_goBack_97 : decode cX5_goBack 97 = .ok (.return_, 1) := by decide +kernel
theorem dX6_init_0 : decode cX6_init 0 = .ok (.aload_n 0, 1) := by decide +kernel
theorem dX6_init_1 : decode cX6_init 1 = .ok (.invokespecial 3, 3) := by decide +kernel
theorem dX6_init_4 : decode cX6_init 4 = .ok (.aload_n 0, 1) := by decide +kernel
theorem dX6_init_5 : decode cX6_init 5 = .ok (.sipush 12800, 3) := by decide +kernel
theorem dX6_init_8 : decode cX6_init 8 = .ok (.newarray .int, 2) := by decide +kernel
theorem dX6_init_10 : decode cX6_init 10 = .ok (.putfield 9, 3) := by decide +kernel
theorem dX6_init_13 : decode cX6_init 13 = .ok (.aload_n 0, 1) := by decide +kernel
theorem dX6_init_14 : decode cX6_init 14 = .ok (.bipush 64, 2) := by decide +kernel
theorem dX6_init_16 : decode cX6_init 16 = .ok (.newarray .int, 2) := by decide +kernel
theorem dX6_init_18 : decode cX6_init 18 = .ok (.putfield 15, 3) := by decide +kernel
theorem dX6_init_21 : decode cX6_init 21 = .ok (.aload_n 0, 1) := by decide +kernel
theorem dX6_init_22 : decode cX6_init 22 = .ok (.bipush 64, 2) := by decide +kernel
theorem dX6_init_24 : decode cX6_init 24 = .ok (.newarray .int, 2) := by decide +kernel
theorem dX6_init_26 : decode cX6_init 26 = .ok (.putfield 18, 3) := by decide +kernel
theorem dX6_init_29 : decode cX6_init 29 = .ok (.aload_n 0, 1) := by decide +kernel
theorem dX6_init_30 : decode cX6_init 30 = .ok (.sipush 200, 3) := by decide +kernel
theorem dX6_init_33 : decode cX6_init 33 = .ok (.newarray .int, 2) := by decide +kernel
theorem dX6_init_35 : decode cX6_init 35 = .ok (.putfield 21, 3) := by decide +kernel
theorem dX6_init_38 : decode cX6_init 38 = .ok (.aload_n 0, 1) := by decide +kernel
theorem dX6_init_39 : decode cX6_init 39 = .ok (.sipush 200, 3) := by decide +kernel
theorem dX6_init_42 : decode cX6_init 42 = .ok (.newarray .int, 2) := by decide +kernel
theorem dX6_init_44 : decode cX6_init 44 = .ok (.putfield 24, 3) := by decide +kernel
theorem dX6_init_47 : decode cX6_init 47 = .ok (.aload_n 0, 1) := by decide +kernel
theorem dX6_init_48 : decode cX6_init 48 = .ok (.aload_n 1, 1) := by decide +kernel
theorem dX6_init_49 : decode cX6_init 49 = .ok (.putfield 27, 3) := by decide +kernel
theorem dX6_init_52 : decode cX6_init 52 = .ok (.return_, 1) := by decide +kernel
theorem dX6_tell_0 : decode cX6_tell 0 = .ok (.iconst 0, 1) := by decide +kernel
theorem dX6_tell_1 : decode cX6_tell 1 = .ok (.istore 4, 2) := by decide +kernel
theorem dX6_tell_3 : decode cX6_tell 3 = .ok (.iload 4, 2) := by decide +kernel
theorem dX6_tell_5 : decode cX6_tell 5 = .ok (.iload_n 2, 1) := by decide +kernel
theorem dX6_tell_6 : decode cX6_tell 6 = .ok (.if_icmp .ge 27, 3) := by decide +kernel
theorem dX6_tell_9 : decode cX6_tell 9 = .ok (.aload_n 0, 1) := by decide +kernel
theorem dX6_tell_10 : decode cX6_tell 10 = .ok (.getfield 21, 3) := by decide +kernel
theorem dX6_tell_13 : decode cX6_tell 13 = .ok (.iload 4, 2) := by decide +kernel
theorem dX6_tell_15 : decode cX6_tell 15 = .ok (.ldc 31, 2) := by decide +kernel
theorem dX6_tell_17 : decode cX6_tell 17 = .ok (.iastore, 1) := by decide +kernel
theorem dX6_tell_18 : decode cX6_tell 18 = .ok (.aload_n 0, 1) := by decide +kernel
theorem dX6_tell_19 : decode cX6_tell 19 = .ok (.getfield 24, 3) := by decide +kernel
theorem dX6_tell_22 : decode cX6_tell 22 = .ok (.iload 4, 2) := by decide +kernel
theorem dX6_tell_24 : decode cX6_tell 24 = .ok (.ldc 31, 2) := by decide +kernel
theorem dX6_tell_26 : decode cX6_tell 26 = .ok (.iastore, 1) := by decide +kernel
theorem dX6_tell_27 : decode cX6_tell 27 = .ok (.iinc 4 1, 3) := by decide +kernel
theorem dX6_tell_30 : decode cX6_tell 30 = .ok (.goto (-27), 3) := by decide +kernel
theorem dX6_tell_33 : decode cX6_tell 33 = .ok (.iconst 0, 1) := by decide +kernel
theorem dX6_tell_34 : decode cX6_tell 34 = .ok (.istore 4, 2) := by decide +kernel
theorem dX6_tell_36 : decode cX6_tell 36 = .ok (.iload 4, 2) := by decide +kernel
theorem dX6_tell_38 : decode cX6_tell 38 = .ok (.aload_n 1, 1) := by decide +kernel
theorem dX6_tell_39 : decode cX6_tell 39 = .ok (.invokevirtual 32, 3) := by decide +kernel
theorem dX6_tell_42 : decode cX6_tell 42 = .ok (.if_icmp .ge 32, 3) := by decide +kernel
theorem dX6_tell_45 : decode cX6_tell 45 = .ok (.aload_n 0, 1) := by decide +kernel
theorem dX6_tell_46 : decode cX6_tell 46 = .ok (.getfield 27, 3) := by decide +kernel
theorem dX6_tell_49 : decode cX6_tell 49 = .ok (.aload_n 1, 1) := by decide +kernel
theorem dX6_tell_50 : decode cX6_tell 50 = .ok (.iload_n 2, 1) := by decide +kernel
theorem dX6_tell_51 : decode cX6_tell 51 = .ok (.iload 4, 2) := by decide +kernel
theorem dX6_tell_53 : decode cX6_tell 53 = .ok (.invokevirtual 38, 3) := by decide +kernel
theorem dX6_tell_56 : decode cX6_tell 56 = .ok (.aload_n 0, 1) := by decide +kernel
theorem dX6_tell_57 : decode cX6_tell 57 = .ok (.iload 4, 2) := by decide +kernel
theorem dX6_tell_59 : decode cX6_tell 59 = .ok (.iload_n 2, 1) := by decide +kernel
theorem dX6_tell_60 : decode cX6_tell 60 = .ok (.invokevirtual 44, 3) := by decide +kernel
theorem dX6_tell_63 : decode cX6_tell 63 = .ok (.aload_n 0, 1) := by decide +kernel
theorem dX6_tell_64 : decode cX6_tell 64 = .ok (.iload_n 2, 1) := by decide +kernel
theorem dX6_tell_65 : decode cX6_tell 65 = .ok (.invokevirtual 48, 3) := by decide +kernel
theorem dX6_tell_68 : decode cX6_tell 68 = .ok (.iinc 4 1, 3) := by decide +kernel
theorem dX6_tell_71 : decode cX6_tell 71 = .ok (.goto (-35), 3) := by decide +kernel
theorem dX6_tell_74 : decode cX6_tell 74 = .ok (.iconst 0, 1) := by decide +kernel
theorem dX6_tell_75 : decode cX6_tell 75 = .ok (.istore 4, 2) := by decide +kernel
theorem dX6_tell_77 : decode cX6_tell 77 = .ok (.iload 4, 2) := by decide +kernel
theorem dX6_tell_79 : decode cX6_tell 79 = .ok (.iload_n 2, 1) := by decide +kernel
theorem dX6_tell_80 : decode cX6_tell 80 = .ok (.if_icmp .ge 77, 3) := by decide +kernel
theorem dX6_tell_83 : decode cX6_tell 83 = .ok (.iload 4, 2) := by decide +kernel
theorem dX6_tell_85 : decode cX6_tell 85 = .ok (.aload_n 3, 1) := by decide +kernel
theorem dX6_tell_86 : decode cX6_tell 86 = .ok (.arraylength, 1) := by decide +kernel
theorem dX6_tell_87 : decode cX6_tell 87 = .ok (.if_icmp .ge 70, 3) := by decide +kernel
theorem dX6_tell_90 : decode cX6_tell 90 = .ok (.aload_n 0, 1) := by decide +kernel
theorem dX6_tell_91 : decode cX6_tell 91 = .ok (.getfield 24, 3) := by decide +kernel
theorem dX6_tell_94 : decode cX6_tell 94 = .ok (.iload 4, 2) := by decide +kernel
theorem dX6_tell_96 : decode cX6_tell 96 = .ok (.iaload, 1) := by decide +kernel
theorem dX6_tell_97 : decode cX6_tell 97 = .ok (.ldc 31, 2) := by decide +kernel
theorem dX6_tell_99 : decode cX6_tell 99 = .ok (.if_icmp .lt 12, 3) := by decide +kernel
theorem dX6_tell_102 : decode cX6_tell 102 = .ok (.aload_n 3, 1) := by decide +kernel
theorem dX6_tell_103 : decode cX6_tell 103 = .ok (.iload 4, 2) := by decide +kernel
theorem dX6_tell_105 : decode cX6_tell 105 = .ok (.ldc 52, 2) := by decide +kernel
theorem dX6_tell_107 : decode cX6_tell 107 = .ok (.iastore, 1) := by decide +kernel
theorem dX6_tell_108 : decode cX6_tell 108 = .ok (.goto 43, 3) := by decide +kernel
theorem dX6_tell_111 : decode cX6_tell 111 = .ok (.aload_n 0, 1) := by decide +kernel
theorem dX6_tell_112 : decode cX6_tell 112 = .ok (.getfield 21, 3) := by decide +kernel
theorem dX6_tell_115 : decode cX6_tell 115 = .ok (.iload 4, 2) := by decide +kernel
theorem dX6_tell_117 : decode cX6_tell 117 = .ok (.iaload, 1) := by decide +kernel
theorem dX6_tell_118 : decode cX6_tell 118 = .ok (.ldc 31, 2) := by decide +kernel
theorem dX6_tell_120 : decode cX6_tell 120 = .ok (.if_icmp .lt 12, 3) := by decide +kernel
theorem dX6_tell_123 : decode cX6_tell 123 = .ok (.aload_n 3, 1) := by decide +kernel
theorem dX6_tell_124 : decode cX6_tell 124 = .ok (.iload 4, 2) := by decide +kernel
theorem dX6_tell_126 : decode cX6_tell 126 = .ok (.ldc 53, 2) := by decide +kernel
theorem dX6_tell_128 : decode cX6_tell 128 = .ok (.iastore, 1) := by decide +kernel
theorem dX6_tell_129 : decode cX6_tell 129 = .ok (.goto 22, 3) := by decide +kernel
theorem dX6_tell_132 : decode cX6_tell 132 = .ok (.aload_n 3, 1) := by decide +kernel
theorem dX6_tell_133 : decode cX6_tell 133 = .ok (.iload 4, 2) := by decide +kernel
theorem dX6_tell_135 : decode cX6_tell 135 = .ok (.aload_n 0, 1) := by decide +kernel
theorem dX6_tell_136 : decode cX6_tell 136 = .ok (.getfield 24, 3) := by decide +kernel
theorem dX6_tell_139 : decode cX6_tell 139 = .ok (.iload 4, 2) := by decide +kernel
theorem dX6_tell_141 : decode cX6_tell 141 = .ok (.iaload, 1) := by decide +kernel
theorem dX6_tell_142 : decode cX6_tell 142 = .ok (.aload_n 0, 1) := by decide +kernel
theorem dX6_tell_143 : decode cX6_tell 143 = .ok (.getfield 21, 3) := by decide +kernel
theorem dX6_tell_146 : decode cX6_tell 146 = .ok (.iload 4, 2) := by decide +kernel
theorem dX6_tell_148 : decode cX6_tell 148 = .ok (.iaload, 1) := by decide +kernel
theorem dX6_tell_149 : decode cX6_tell 149 = .ok (.isub, 1) := by decide +kernel
theorem dX6_tell_150 : decode cX6_tell 150 = .ok (.iastore, 1) := by decide +kernel
theorem dX6_tell_151 : decode cX6_tell 151 = .ok (.iinc 4 1, 3) := by decide +kernel
theorem dX6_tell_154 : decode cX6_tell 154 = .ok (.goto (-77), 3) := by decide +kernel
theorem dX6_tell_157 : decode cX6_tell 157 = .ok (.return_, 1) := by decide +kernel
theorem dX6_reach_0 : decode cX6_reach 0 = .ok (.iconst 0, 1) := by decide +kernel
theorem dX6_reach_1 : decode cX6_reach 1 = .ok (.istore_n 3, 1) := by decide +kernel
theorem dX6_reach_2 : decode cX6_reach 2 = .ok (.iload_n 3, 1) := by decide +kernel
theorem dX6_reach_3 : decode cX6_reach 3 = .ok (.iload_n 2, 1) := by decide +kernel
theorem dX6_reach_4 : decode cX6_reach 4 = .ok (.bipush 64, 2) := by decide +kernel
theorem dX6_reach_6 : decode cX6_reach 6 = .ok (.imul, 1) := by decide +kernel
theorem dX6_reach_7 : decode cX6_reach 7 = .ok (.if_icmp .ge 17, 3) := by decide +kernel
theorem dX6_reach_10 : decode cX6_reach 10 = .ok (.aload_n 0, 1) := by decide +kernel
theorem dX6_reach_11 : decode cX6_reach 11 = .ok (.getfield 9, 3) := by decide +kernel
theorem dX6_reach_14 : decode cX6_reach 14 = .ok (.iload_n 3, 1) := by decide +kernel
theorem dX6_reach_15 : decode cX6_reach 15 = .ok (.ldc 31, 2) := by decide +kernel
theorem dX6_reach_17 : decode cX6_reach 17 = .ok (.iastore, 1) := by decide +kernel
theorem dX6_reach_18 : decode cX6_reach 18 = .ok (.iinc 3 1, 3) := by decide +kernel
theorem dX6_reach_21 : decode cX6_reach 21 = .ok (.goto (-19), 3) := by decide +kernel
theorem dX6_reach_24 : decode cX6_reach 24 = .ok (.aload_n 0, 1) := by decide +kernel
theorem dX6_reach_25 : decode cX6_reach 25 = .ok (.getfield 9, 3) := by decide +kernel
theorem dX6_reach_28 : decode cX6_reach 28 = .ok (.iload_n 1, 1) := by decide +kernel
theorem dX6_reach_29 : decode cX6_reach 29 = .ok (.iconst 0, 1) := by decide +kernel
theorem dX6_reach_30 : decode cX6_reach 30 = .ok (.iastore, 1) := by decide +kernel
theorem dX6_reach_31 : decode cX6_reach 31 = .ok (.iconst 0, 1) := by decide +kernel
theorem dX6_reach_32 : decode cX6_reach 32 = .ok (.istore_n 3, 1) := by decide +kernel
theorem dX6_reach_33 : decode cX6_reach 33 = .ok (.iload_n 3, 1) := by decide +kernel
theorem dX6_reach_34 : decode cX6_reach 34 = .ok (.iload_n 2, 1) := by decide +kernel
theorem dX6_reach_35 : decode cX6_reach 35 = .ok (.iconst 1, 1) := by decide +kernel
theorem dX6_reach_36 : decode cX6_reach 36 = .ok (.isub, 1) := by decide +kernel
theorem dX6_reach_37 : decode cX6_reach 37 = .ok (.if_icmp .ge 109, 3) := by decide +kernel
theorem dX6_reach_40 : decode cX6_reach 40 = .ok (.iconst 0, 1) := by decide +kernel
theorem dX6_reach_41 : decode cX6_reach 41 = .ok (.istore 4, 2) := by decide +kernel
theorem dX6_reach_43 : decode cX6_reach 43 = .ok (.iload 4, 2) := by decide +kernel
theorem dX6_reach_45 : decode cX6_reach 45 = .ok (.iconst 2, 1) := by decide +kernel
theorem dX6_reach_46 : decode cX6_reach 46 = .ok (.aload_n 0, 1) := by decide +kernel
theorem dX6_reach_47 : decode cX6_reach 47 = .ok (.getfield 27, 3) := by decide +kernel
theorem dX6_reach_50 : decode cX6_reach 50 = .ok (.getfield 54, 3) := by decide +kernel
theorem dX6_reach_53 : decode cX6_reach 53 = .ok (.imul, 1) := by decide +kernel
theorem dX6_reach_54 : decode cX6_reach 54 = .ok (.if_icmp .ge 86, 3) := by decide +kernel
theorem dX6_reach_57 : decode cX6_reach 57 = .ok (.iload_n 3, 1) := by decide +kernel
theorem dX6_reach_58 : decode cX6_reach 58 = .ok (.bipush 64, 2) := by decide +kernel
theorem dX6_reach_60 : decode cX6_reach 60 = .ok (.imul, 1) := by decide +kernel
theorem dX6_reach_61 : decode cX6_reach 61 = .ok (.iload 4, 2) := by decide +kernel
theorem dX6_reach_63 : decode cX6_reach 63 = .ok (.iconst 2, 1) := by decide +kernel
theorem dX6_reach_64 : decode cX6_reach 64 = .ok (.idiv, 1) := by decide +kernel
theorem dX6_reach_65 : decode cX6_reach 65 = .ok (.iadd, 1) := by decide +kernel
theorem dX6_reach_66 : decode cX6_reach 66 = .ok (.istore 5, 2) := by decide +kernel
theorem dX6_reach_68 : decode cX6_reach 68 = .ok (.iload_n 3, 1) := by decide +kernel
theorem dX6_reach_69 : decode cX6_reach 69 = .ok (.iconst 1, 1) := by decide +kernel
theorem dX6_reach_70 : decode cX6_reach 70 = .ok (.iadd, 1) := by decide +kernel
theorem dX6_reach_71 : decode cX6_reach 71 = .ok (.bipush 64, 2) := by decide +kernel
theorem dX6_reach_73 : decode cX6_reach 73 = .ok (.imul, 1) := by decide +kernel
theorem dX6_reach_74 : decode cX6_reach 74 = .ok (.aload_n 0, 1) := by decide +kernel
theorem dX6_reach_75 : decode cX6_reach 75 = .ok (.getfield 27, 3) := by decide +kernel
theorem dX6_reach_78 : decode cX6_reach 78 = .ok (.getfield 58, 3) := by decide +kernel
theorem dX6_reach_81 : decode cX6_reach 81 = .ok (.iload 4, 2) := by decide +kernel
theorem dX6_reach_83 : decode cX6_reach 83 = .ok (.iaload, 1) := by decide +kernel
theorem dX6_reach_84 : decode cX6_reach 84 = .ok (.iadd, 1) := by decide +kernel
theorem dX6_reach_85 : decode cX6_reach 85 = .ok (.istore 6, 2) := by decide +kernel
theorem dX6_reach_87 : decode cX6_reach 87 = .ok (.aload_n 0, 1) := by decide +kernel
theorem dX6_reach_88 : decode cX6_reach 88 = .ok (.getfield 9, 3) := by decide +kernel
theorem dX6_reach_91 : decode cX6_reach 91 = .ok (.iload 5, 2) := by decide +kernel
theorem dX6_reach_93 : decode cX6_reach 93 = .ok (.iaload, 1) := by decide +kernel
theorem dX6_reach_94 : decode cX6_reach 94 = .ok (.ldc 31, 2) := by decide +kernel
theorem dX6_reach_96 : decode cX6_reach 96 = .ok (.if_icmp .ge 38, 3) := by decide +kernel
theorem dX6_reach_99 : decode cX6_reach 99 = .ok (.aload_n 0, 1) := by decide +kernel
theorem dX6_reach_100 : decode cX6_reach 100 = .ok (.getfield 9, 3) := by decide +kernel
theorem dX6_reach_103 : decode cX6_reach 103 = .ok (.iload 6, 2) := by decide +kernel
theorem dX6_reach_105 : decode cX6_reach 105 = .ok (.aload_n 0, 1) := by decide +kernel
theorem dX6_reach_106 : decode cX6_reach 106 = .ok (.getfield 9, 3) := by decide +kernel
theorem dX6_reach_109 : decode cX6_reach 109 = .ok (.iload 6, 2) := by decide +kernel
theorem dX6_reach_111 : decode cX6_reach 111 = .ok (.iaload, 1) := by decide +kernel
theorem dX6_reach_112 : decode cX6_reach 112 = .ok (.aload_n 0, 1) := by decide +kernel
theorem dX6_reach_113 : decode cX6_reach 113 = .ok (.getfield 9, 3) := by decide +kernel
theorem dX6_reach_116 : decode cX6_reach 116 = .ok (.iload 5, 2) := by decide +kernel
theorem dX6_reach_118 : decode cX6_reach 118 = .ok (.iaload, 1) := by decide +kernel
theorem dX6_reach_119 : decode cX6_reach 119 = .ok (.aload_n 0, 1) := by decide +kernel
theorem dX6_reach_120 : decode cX6_reach 120 = .ok (.getfield 27, 3) := by decide +kernel
theorem dX6_reach_123 : decode cX6_reach 123 = .ok (.iload_n 3, 1) := by decide +kernel
theorem dX6_reach_124 : decode cX6_reach 124 = .ok (.iload 4, 2) := by decide +kernel
theorem dX6_reach_126 : decode cX6_reach 126 = .ok (.invokevirtual 61, 3) := by decide +kernel
theorem dX6_reach_129 : decode cX6_reach 129 = .ok (.iadd, 1) := by decide +kernel
theorem dX6_reach_130 : decode cX6_reach 130 = .ok (.invokestatic 65, 3) := by decide +kernel
theorem dX6_reach_133 : decode cX6_reach 133 = .ok (.iastore, 1) := by decide +kernel
theorem dX6_reach_134 : decode cX6_reach 134 = .ok (.iinc 4 1, 3) := by decide +kernel
theorem dX6_reach_137 : decode cX6_reach 137 = .ok (.goto (-94), 3) := by decide +kernel
theorem dX6_reach_140 : decode cX6_reach 140 = .ok (.iinc 3 1, 3) := by decide +kernel
theorem dX6_reach_143 : decode cX6_reach 143 = .ok (.goto (-110), 3) := by decide +kernel
theorem dX6_reach_146 : decode cX6_reach 146 = .ok (.return_, 1) := by decide +kernel
theorem dX6_meet_0 : decode cX6_meet 0 = .ok (.iconst 0, 1) := by decide +kernel
theorem dX6_meet_1 : decode cX6_meet 1 = .ok (.istore_n 2, 1) := by decide +kernel
theorem dX6_meet_2 : decode cX6_meet 2 = .ok (.iload_n 2, 1) := by decide +kernel
theorem dX6_meet_3 : decode cX6_meet 3 = .ok (.aload_n 0, 1) := by decide +kernel
theorem dX6_meet_4 : decode cX6_meet 4 = .ok (.getfield 27, 3) := by decide +kernel
theorem dX6_meet_7 : decode cX6_meet 7 = .ok (.getfield 54, 3) := by decide +kernel
theorem dX6_meet_10 : decode cX6_meet 10 = .ok (.if_icmp .ge 24, 3) := by decide +kernel
theorem dX6_meet_13 : decode cX6_meet 13 = .ok (.aload_n 0, 1) := by decide +kernel
theorem dX6_meet_14 : decode cX6_meet 14 = .ok (.getfield 18, 3) := by decide +kernel
theorem dX6_meet_17 : decode cX6_meet 17 = .ok (.iload_n 2, 1) := by decide +kernel
theorem dX6_meet_18 : decode cX6_meet 18 = .ok (.aload_n 0, 1) := by decide +kernel
theorem dX6_meet_19 : decode cX6_meet 19 = .ok (.getfield 27, 3) := by decide +kernel
theorem dX6_meet_22 : decode cX6_meet 22 = .ok (.getfield 70, 3) := by decide +kernel
theorem dX6_meet_25 : decode cX6_meet 25 = .ok (.iload_n 2, 1) := by decide +kernel
theorem dX6_meet_26 : decode cX6_meet 26 = .ok (.iaload, 1) := by decide +kernel
theorem dX6_meet_27 : decode cX6_meet 27 = .ok (.iastore, 1) := by decide +kernel
theorem dX6_meet_28 : decode cX6_meet 28 = .ok (.iinc 2 1, 3) := by decide +kernel
theorem dX6_meet_31 : decode cX6_meet 31 = .ok (.goto (-29), 3) := by decide +kernel
theorem dX6_meet_34 : decode cX6_meet 34 = .ok (.iload_n 1, 1) := by decide +kernel
theorem dX6_meet_35 : decode cX6_meet 35 = .ok (.iconst 1, 1) := by decide +kernel
theorem dX6_meet_36 : decode cX6_meet 36 = .ok (.isub, 1) := by decide +kernel
theorem dX6_meet_37 : decode cX6_meet 37 = .ok (.istore_n 2, 1) := by decide +kernel
theorem dX6_meet_38 : decode cX6_meet 38 = .ok (.iload_n 2, 1) := by decide +kernel
theorem dX6_meet_39 : decode cX6_meet 39 = .ok (.ifCond .lt 141, 3) := by decide +kernel
theorem dX6_meet_42 : decode cX6_meet 42 = .ok (.iconst 0, 1) := by decide +kernel
theorem dX6_meet_43 : decode cX6_meet 43 = .ok (.istore_n 3, 1) := by decide +kernel
theorem dX6_meet_44 : decode cX6_meet 44 = .ok (.iload_n 3, 1) := by decide +kernel
theorem dX6_meet_45 : decode cX6_meet 45 = .ok (.aload_n 0, 1) := by decide +kernel
theorem dX6_meet_46 : decode cX6_meet 46 = .ok (.getfield 27, 3) := by decide +kernel
theorem dX6_meet_49 : decode cX6_meet 49 = .ok (.getfield 54, 3) := by decide +kernel
theorem dX6_meet_52 : decode cX6_meet 52 = .ok (.if_icmp .ge 104, 3) := by decide +kernel
theorem dX6_meet_55 : decode cX6_meet 55 = .ok (.aload_n 0, 1) := by decide +kernel
theorem dX6_meet_56 : decode cX6_meet 56 = .ok (.getfield 9, 3) := by decide +kernel
theorem dX6_meet_59 : decode cX6_meet 59 = .ok (.iload_n 2, 1) := by decide +kernel
theorem dX6_meet_60 : decode cX6_meet 60 = .ok (.bipush 64, 2) := by decide +kernel
theorem dX6_meet_62 : decode cX6_meet 62 = .ok (.imul, 1) := by decide +kernel
theorem dX6_meet_63 : decode cX6_meet 63 = .ok (.iload_n 3, 1) := by decide +kernel
theorem dX6_meet_64 : decode cX6_meet 64 = .ok (.iadd, 1) := by decide +kernel
theorem dX6_meet_65 : decode cX6_meet 65 = .ok (.iaload, 1) := by decide +kernel
theorem dX6_meet_66 : decode cX6_meet 66 = .ok (.istore 4, 2) := by decide +kernel
theorem dX6_meet_68 : decode cX6_meet 68 = .ok (.aload_n 0, 1) := by decide +kernel
theorem dX6_meet_69 : decode cX6_meet 69 = .ok (.iload_n 2, 1) := by decide +kernel
theorem dX6_meet_70 : decode cX6_meet 70 = .ok (.iconst 2, 1) := by decide +kernel
theorem dX6_meet_71 : decode cX6_meet 71 = .ok (.iload_n 3, 1) := by decide +kernel
theorem dX6_meet_72 : decode cX6_meet 72 = .ok (.imul, 1) := by decide +kernel
theorem dX6_meet_73 : decode cX6_meet 73 = .ok (.invokevirtual 73, 3) := by decide +kernel
theorem dX6_meet_76 : decode cX6_meet 76 = .ok (.istore 5, 2) := by decide +kernel
theorem dX6_meet_78 : decode cX6_meet 78 = .ok (.aload_n 0, 1) := by decide +kernel
theorem dX6_meet_79 : decode cX6_meet 79 = .ok (.iload_n 2, 1) := by decide +kernel
theorem dX6_meet_80 : decode cX6_meet 80 = .ok (.iconst 2, 1) := by decide +kernel
theorem dX6_meet_81 : decode cX6_meet 81 = .ok (.iload_n 3, 1) := by decide +kernel
theorem dX6_meet_82 : decode cX6_meet 82 = .ok (.imul, 1) := by decide +kernel
theorem dX6_meet_83 : decode cX6_meet 83 = .ok (.iconst 1, 1) := by decide +kernel
theorem dX6_meet_84 : decode cX6_meet 84 = .ok (.iadd, 1) := by decide +kernel
theorem dX6_meet_85 : decode cX6_meet 85 = .ok (.invokevirtual 73, 3) := by decide +kernel
theorem dX6_meet_88 : decode cX6_meet 88 = .ok (.istore 6, 2) := by decide +kernel
theorem dX6_meet_90 : decode cX6_meet 90 = .ok (.aload_n 0, 1) := by decide +kernel
theorem dX6_meet_91 : decode cX6_meet 91 = .ok (.getfield 15, 3) := by decide +kernel
theorem dX6_meet_94 : decode cX6_meet 94 = .ok (.iload_n 3, 1) := by decide +kernel
theorem dX6_meet_95 : decode cX6_meet 95 = .ok (.iload 5, 2) := by decide +kernel
theorem dX6_meet_97 : decode cX6_meet 97 = .ok (.iload 6, 2) := by decide +kernel
theorem dX6_meet_99 : decode cX6_meet 99 = .ok (.invokestatic 65, 3) := by decide +kernel
theorem dX6_meet_102 : decode cX6_meet 102 = .ok (.iastore, 1) := by decide +kernel
theorem dX6_meet_103 : decode cX6_meet 103 = .ok (.iload 4, 2) := by decide +kernel
theorem dX6_meet_105 : decode cX6_meet 105 = .ok (.ldc 31, 2) := by decide +kernel
theorem dX6_meet_107 : decode cX6_meet 107 = .ok (.if_icmp .ge 43, 3) := by decide +kernel
theorem dX6_meet_110 : decode cX6_meet 110 = .ok (.aload_n 0, 1) := by decide +kernel
theorem dX6_meet_111 : decode cX6_meet 111 = .ok (.getfield 21, 3) := by decide +kernel
theorem dX6_meet_114 : decode cX6_meet 114 = .ok (.iload_n 2, 1) := by decide +kernel
theorem dX6_meet_115 : decode cX6_meet 115 = .ok (.aload_n 0, 1) := by decide +kernel
theorem dX6_meet_116 : decode cX6_meet 116 = .ok (.getfield 21, 3) := by decide +kernel
theorem dX6_meet_119 : decode cX6_meet 119 = .ok (.iload_n 2, 1) := by decide +kernel
theorem dX6_meet_120 : decode cX6_meet 120 = .ok (.iaload, 1) := by decide +kernel
theorem dX6_meet_121 : decode cX6_meet 121 = .ok (.iload 4, 2) := by decide +kernel
theorem dX6_meet_123 : decode cX6_meet 123 = .ok (.iload 5, 2) := by decide +kernel
theorem dX6_meet_125 : decode cX6_meet 125 = .ok (.iadd, 1) := by decide +kernel
theorem dX6_meet_126 : decode cX6_meet 126 = .ok (.invokestatic 65, 3) := by decide +kernel
theorem dX6_meet_129 : decode cX6_meet 129 = .ok (.iastore, 1) := by decide +kernel
theorem dX6_meet_130 : decode cX6_meet 130 = .ok (.aload_n 0, 1) := by decide +kernel
theorem dX6_meet_131 : decode cX6_meet 131 = .ok (.getfield 24, 3) := by decide +kernel
theorem dX6_meet_134 : decode cX6_meet 134 = .ok (.iload_n 2, 1) := by decide +kernel
theorem dX6_meet_135 : decode cX6_meet 135 = .ok (.aload_n 0, 1) := by decide +kernel
theorem dX6_meet_136 : decode cX6_meet 136 = .ok (.getfield 24, 3) := by decide +kernel
theorem dX6_meet_139 : decode cX6_meet 139 = .ok (.iload_n 2, 1) := by decide +kernel
theorem dX6_meet_140 : decode cX6_meet 140 = .ok (.iaload, 1) := by decide +kernel
theorem dX6_meet_141 : decode cX6_meet 141 = .ok (.iload 4, 2) := by decide +kernel
theorem dX6_meet_143 : decode cX6_meet 143 = .ok (.iload 6, 2) := by decide +kernel
theorem dX6_meet_145 : decode cX6_meet 145 = .ok (.iadd, 1) := by decide +kernel
theorem dX6_meet_146 : decode cX6_meet 146 = .ok (.invokestatic 65, 3) := by decide +kernel
theorem dX6_meet_149 : decode cX6_meet 149 = .ok (.iastore, 1) := by decide +kernel
theorem dX6_meet_150 : decode cX6_meet 150 = .ok (.iinc 3 1, 3) := by decide +kernel
theorem dX6_meet_153 : decode cX6_meet 153 = .ok (.goto (-109), 3) := by decide +kernel
theorem dX6_meet_156 : decode cX6_meet 156 = .ok (.aload_n 0, 1) := by decide +kernel
theorem dX6_meet_157 : decode cX6_meet 157 = .ok (.getfield 15, 3) := by decide +kernel
theorem dX6_meet_160 : decode cX6_meet 160 = .ok (.astore_n 3, 1) := by decide +kernel
theorem dX6_meet_161 : decode cX6_meet 161 = .ok (.aload_n 0, 1) := by decide +kernel
theorem dX6_meet_162 : decode cX6_meet 162 = .ok (.aload_n 0, 1) := by decide +kernel
theorem dX6_meet_163 : decode cX6_meet 163 = .ok (.getfield 18, 3) := by decide +kernel
theorem dX6_meet_166 : decode cX6_meet 166 = .ok (.putfield 15, 3) := by decide +kernel
theorem dX6_meet_169 : decode cX6_meet 169 = .ok (.aload_n 0, 1) := by decide +kernel
theorem dX6_meet_170 : decode cX6_meet 170 = .ok (.aload_n 3, 1) := by decide +kernel
theorem dX6_meet_171 : decode cX6_meet 171 = .ok (.putfield 18, 3) := by decide +kernel
theorem dX6_meet_174 : decode cX6_meet 174 = .ok (.iinc 2 (-1), 3) := by decide +kernel
theorem dX6_meet_177 : decode cX6_meet 177 = .ok (.goto (-139), 3) := by decide +kernel
theorem dX6_meet_180 : decode cX6_meet 180 = .ok (.return_, 1) := by decide +kernel
theorem dX6_behind_0 : decode cX6_behind 0 = .ok (.aload_n 0, 1) := by decide +kernel
theorem dX6_behind_1 : decode cX6_behind 1 = .ok (.getfield 18, 3) := by decide +kernel
theorem dX6_behind_4 : decode cX6_behind 4 = .ok (.aload_n 0, 1) := by decide +kernel
theorem dX6_behind_5 : decode cX6_behind 5 = .ok (.getfield 27, 3) := by decide +kernel
theorem dX6_behind_8 : decode cX6_behind 8 = .ok (.getfield 58, 3) := by decide +kernel
theorem dX6_behind_11 : decode cX6_behind 11 = .ok (.iload_n 2, 1) := by decide +kernel
theorem dX6_behind_12 : decode cX6_behind 12 = .ok (.iaload, 1) := by decide +kernel
theorem dX6_behind_13 : decode cX6_behind 13 = .ok (.iaload, 1) := by decide +kernel
theorem dX6_behind_14 : decode cX6_behind 14 = .ok (.istore_n 3, 1) := by decide +kernel
theorem dX6_behind_15 : decode cX6_behind 15 = .ok (.iload_n 3, 1) := by decide +kernel
theorem dX6_behind_16 : decode cX6_behind 16 = .ok (.ldc 31, 2) := by decide +kernel
theorem dX6_behind_18 : decode cX6_behind 18 = .ok (.if_icmp .ge 17, 3) := by decide +kernel
theorem dX6_behind_21 : decode cX6_behind 21 = .ok (.iload_n 3, 1) := by decide +kernel
theorem dX6_behind_22 : decode cX6_behind 22 = .ok (.aload_n 0, 1) := by decide +kernel
theorem dX6_behind_23 : decode cX6_behind 23 = .ok (.getfield 27, 3) := by decide +kernel
theorem dX6_behind_26 : decode cX6_behind 26 = .ok (.iload_n 1, 1) := by decide +kernel
theorem dX6_behind_27 : decode cX6_behind 27 = .ok (.iload_n 2, 1) := by decide +kernel
theorem dX6_behind_28 : decode cX6_behind 28 = .ok (.invokevirtual 61, 3) := by decide +kernel
theorem dX6_behind_31 : decode cX6_behind 31 = .ok (.iadd, 1) := by decide +kernel
theorem dX6_behind_32 : decode cX6_behind 32 = .ok (.goto 5, 3) := by decide +kernel
theorem dX6_behind_35 : decode cX6_behind 35 = .ok (.ldc 31, 2) := by decide +kernel
theorem dX6_behind_37 : decode cX6_behind 37 = .ok (.ireturn, 1) := by decide +kernel
theorem dX7_init_0 : decode cX7_init 0 = .ok (.aload_n 0, 1) := by decide +kernel
theorem dX7_init_1 : decode cX7_init 1 = .ok (.invokespecial 3, 3) := by decide +kernel
theorem dX7_init_4 : decode cX7_init 4 = .ok (.aload_n 0, 1) := by decide +kernel
theorem dX7_init_5 : decode cX7_init 5 = .ok (.bipush 64, 2) := by decide +kernel
theorem dX7_init_7 : decode cX7_init 7 = .ok (.newarray .int, 2) := by decide +kernel
theorem dX7_init_9 : decode cX7_init 9 = .ok (.putfield 9, 3) := by decide +kernel
theorem dX7_init_12 : decode cX7_init 12 = .ok (.aload_n 0, 1) := by decide +kernel
theorem dX7_init_13 : decode cX7_init 13 = .ok (.iconst 0, 1) := by decide +kernel
theorem dX7_init_14 : decode cX7_init 14 = .ok (.putfield 15, 3) := by decide +kernel
theorem dX7_init_17 : decode cX7_init 17 = .ok (.aload_n 0, 1) := by decide +kernel
theorem dX7_init_18 : decode cX7_init 18 = .ok (.bipush 64, 2) := by decide +kernel
theorem dX7_init_20 : decode cX7_init 20 = .ok (.newarray .int, 2) := by decide +kernel
theorem dX7_init_22 : decode cX7_init 22 = .ok (.putfield 19, 3) := by decide +kernel
theorem dX7_init_25 : decode cX7_init 25 = .ok (.aload_n 0, 1) := by decide +kernel
theorem dX7_init_26 : decode cX7_init 26 = .ok (.bipush 64, 2) := by decide +kernel
theorem dX7_init_28 : decode cX7_init 28 = .ok (.newarray .int, 2) := by decide +kernel
theorem dX7_init_30 : decode cX7_init 30 = .ok (.putfield 22, 3) := by decide +kernel
theorem dX7_init_33 : decode cX7_init 33 = .ok (.aload_n 0, 1) := by decide +kernel
theorem dX7_init_34 : decode cX7_init 34 = .ok (.sipush 1984, 3) := by decide +kernel
theorem dX7_init_37 : decode cX7_init 37 = .ok (.newarray .long, 2) := by decide +kernel
theorem dX7_init_39 : decode cX7_init 39 = .ok (.putfield 25, 3) := by decide +kernel
theorem dX7_init_42 : decode cX7_init 42 = .ok (.aload_n 0, 1) := by decide +kernel
theorem dX7_init_43 : decode cX7_init 43 = .ok (.aload_n 1, 1) := by decide +kernel
theorem dX7_init_44 : decode cX7_init 44 = .ok (.putfield 29, 3) := by decide +kernel
theorem dX7_init_47 : decode cX7_init 47 = .ok (.return_, 1) := by decide +kernel
theorem dX7_weightOf_0 : decode cX7_weightOf 0 = .ok (.aload_n 0, 1) := by decide +kernel
theorem dX7_weightOf_1 : decode cX7_weightOf 1 = .ok (.getfield 29, 3) := by decide +kernel
theorem dX7_weightOf_4 : decode cX7_weightOf 4 = .ok (.getfield 33, 3) := by decide +kernel
theorem dX7_weightOf_7 : decode cX7_weightOf 7 = .ok (.iload_n 1, 1) := by decide +kernel
theorem dX7_weightOf_8 : decode cX7_weightOf 8 = .ok (.iaload, 1) := by decide +kernel
theorem dX7_weightOf_9 : decode cX7_weightOf 9 = .ok (.invokestatic 38, 3) := by decide +kernel
theorem dX7_weightOf_12 : decode cX7_weightOf 12 = .ok (.ireturn, 1) := by decide +kernel
theorem dX7_isSilent_0 : decode cX7_isSilent 0 = .ok (.aload_n 0, 1) := by decide +kernel
theorem dX7_isSilent_1 : decode cX7_isSilent 1 = .ok (.iload_n 1, 1) := by decide +kernel
theorem dX7_isSilent_2 : decode cX7_isSilent 2 = .ok (.invokevirtual 44, 3) := by decide +kernel
theorem dX7_isSilent_5 : decode cX7_isSilent 5 = .ok (.ifCond .ne 25, 3) := by decide +kernel
theorem dX7_isSilent_8 : decode cX7_isSilent 8 = .ok (.iload_n 1, 1) := by decide +kernel
theorem dX7_isSilent_9 : decode cX7_isSilent 9 = .ok (.iconst 2, 1) := by decide +kernel
theorem dX7_isSilent_10 : decode cX7_isSilent 10 = .ok (.idiv, 1) := by decide +kernel
theorem dX7_isSilent_11 : decode cX7_isSilent 11 = .ok (.ifCond .ne 15, 3) := by decide +kernel
theorem dX7_isSilent_14 : decode cX7_isSilent 14 = .ok (.aload_n 0, 1) := by decide +kernel
theorem dX7_isSilent_15 : decode cX7_isSilent 15 = .ok (.getfield 29, 3) := by decide +kernel
theorem dX7_isSilent_18 : decode cX7_isSilent 18 = .ok (.getfield 47, 3) := by decide +kernel
theorem dX7_isSilent_21 : decode cX7_isSilent 21 = .ok (.iload_n 1, 1) := by decide +kernel
theorem dX7_isSilent_22 : decode cX7_isSilent 22 = .ok (.iaload, 1) := by decide +kernel
theorem dX7_isSilent_23 : decode cX7_isSilent 23 = .ok (.ifCond .eq 7, 3) := by decide +kernel
theorem dX7_isSilent_26 : decode cX7_isSilent 26 = .ok (.iconst 1, 1) := by decide +kernel
theorem dX7_isSilent_27 : decode cX7_isSilent 27 = .ok (.goto 4, 3) := by decide +kernel
theorem dX7_isSilent_30 : decode cX7_isSilent 30 = .ok (.iconst 0, 1) := by decide +kernel
theorem dX7_isSilent_31 : decode cX7_isSilent 31 = .ok (.ireturn, 1) := by decide +kernel
theorem dX7_read_0 : decode cX7_read 0 = .ok (.aload_n 0, 1) := by decide +kernel
theorem dX7_read_1 : decode cX7_read 1 = .ok (.getfield 29, 3) := by decide +kernel
theorem dX7_read_4 : decode cX7_read 4 = .ok (.aload_n 1, 1) := by decide +kernel
theorem dX7_read_5 : decode cX7_read 5 = .ok (.invokevirtual 50, 3) := by decide +kernel
theorem dX7_read_8 : decode cX7_read 8 = .ok (.iconst 0, 1) := by decide +kernel
theorem dX7_read_9 : decode cX7_read 9 = .ok (.istore_n 2, 1) := by decide +kernel
theorem dX7_read_10 : decode cX7_read 10 = .ok (.iload_n 2, 1) := by decide +kernel
theorem dX7_read_11 : decode cX7_read 11 = .ok (.aload_n 0, 1) := by decide +kernel
theorem dX7_read_12 : decode cX7_read 12 = .ok (.getfield 29, 3) := by decide +kernel
theorem dX7_read_15 : decode cX7_read 15 = .ok (.getfield 54, 3) := by decide +kernel
theorem dX7_read_18 : decode cX7_read 18 = .ok (.if_icmp .ge 16, 3) := by decide +kernel
theorem dX7_read_21 : decode cX7_read 21 = .ok (.aload_n 0, 1) := by decide +kernel
theorem dX7_read_22 : decode cX7_read 22 = .ok (.getfield 19, 3) := by decide +kernel
theorem dX7_read_25 : decode cX7_read 25 = .ok (.iload_n 2, 1) := by decide +kernel
theorem dX7_read_26 : decode cX7_read 26 = .ok (.iconst 0, 1) := by decide +kernel
theorem dX7_read_27 : decode cX7_read 27 = .ok (.iastore, 1) := by decide +kernel
theorem dX7_read_28 : decode cX7_read 28 = .ok (.iinc 2 1, 3) := by decide +kernel
theorem dX7_read_31 : decode cX7_read 31 = .ok (.goto (-21), 3) := by decide +kernel
theorem dX7_read_34 : decode cX7_read 34 = .ok (.iconst 0, 1) := by decide +kernel
theorem dX7_read_35 : decode cX7_read 35 = .ok (.istore_n 2, 1) := by decide +kernel
theorem dX7_read_36 : decode cX7_read 36 = .ok (.iload_n 2, 1) := by decide +kernel
theorem dX7_read_37 : decode cX7_read 37 = .ok (.iconst 2, 1) := by decide +kernel
theorem dX7_read_38 : decode cX7_read 38 = .ok (.aload_n 0, 1) := by decide +kernel
theorem dX7_read_39 : decode cX7_read 39 = .ok (.getfield 29, 3) := by decide +kernel
theorem dX7_read_42 : decode cX7_read 42 = .ok (.getfield 54, 3) := by decide +kernel
theorem dX7_read_45 : decode cX7_read 45 = .ok (.imul, 1) := by decide +kernel
theorem dX7_read_46 : decode cX7_read 46 = .ok (.if_icmp .ge 39, 3) := by decide +kernel
theorem dX7_read_49 : decode cX7_read 49 = .ok (.aload_n 0, 1) := by decide +kernel
theorem dX7_read_50 : decode cX7_read 50 = .ok (.getfield 19, 3) := by decide +kernel
theorem dX7_read_53 : decode cX7_read 53 = .ok (.aload_n 0, 1) := by decide +kernel
theorem dX7_read_54 : decode cX7_read 54 = .ok (.getfield 29, 3) := by decide +kernel
theorem dX7_read_57 : decode cX7_read 57 = .ok (.getfield 47, 3) := by decide +kernel
theorem dX7_read_60 : decode cX7_read 60 = .ok (.iload_n 2, 1) := by decide +kernel
theorem dX7_read_61 : decode cX7_read 61 = .ok (.iaload, 1) := by decide +kernel
theorem dX7_read_62 : decode cX7_read 62 = .ok (.dup2, 1) := by decide +kernel
theorem dX7_read_63 : decode cX7_read 63 = .ok (.iaload, 1) := by decide +kernel
theorem dX7_read_64 : decode cX7_read 64 = .ok (.aload_n 0, 1) := by decide +kernel
theorem dX7_read_65 : decode cX7_read 65 = .ok (.iload_n 2, 1) := by decide +kernel
theorem dX7_read_66 : decode cX7_read 66 = .ok (.invokevirtual 57, 3) := by decide +kernel
theorem dX7_read_69 : decode cX7_read 69 = .ok (.ifCond .eq 7, 3) := by decide +kernel
theorem dX7_read_72 : decode cX7_read 72 = .ok (.iconst 1, 1) := by decide +kernel
theorem dX7_read_73 : decode cX7_read 73 = .ok (.goto 4, 3) := by decide +kernel
theorem dX7_read_76 : decode cX7_read 76 = .ok (.iconst 0, 1) := by decide +kernel
theorem dX7_read_77 : decode cX7_read 77 = .ok (.iadd, 1) := by decide +kernel
theorem dX7_read_78 : decode cX7_read 78 = .ok (.iastore, 1) := by decide +kernel
theorem dX7_read_79 : decode cX7_read 79 = .ok (.iinc 2 1, 3) := by decide +kernel
theorem dX7_read_82 : decode cX7_read 82 = .ok (.goto (-46), 3) := by decide +kernel
theorem dX7_read_85 : decode cX7_read 85 = .ok (.aload_n 0, 1) := by decide +kernel
theorem dX7_read_86 : decode cX7_read 86 = .ok (.iconst 0, 1) := by decide +kernel
theorem dX7_read_87 : decode cX7_read 87 = .ok (.putfield 15, 3) := by decide +kernel
theorem dX7_read_90 : decode cX7_read 90 = .ok (.iconst 0, 1) := by decide +kernel
theorem dX7_read_91 : decode cX7_read 91 = .ok (.istore_n 2, 1) := by decide +kernel
theorem dX7_read_92 : decode cX7_read 92 = .ok (.iload_n 2, 1) := by decide +kernel
theorem dX7_read_93 : decode cX7_read 93 = .ok (.aload_n 0, 1) := by decide +kernel
theorem dX7_read_94 : decode cX7_read 94 = .ok (.getfield 29, 3) := by decide +kernel
theorem dX7_read_97 : decode cX7_read 97 = .ok (.getfield 54, 3) := by decide +kernel
theorem dX7_read_100 : decode cX7_read 100 = .ok (.if_icmp .ge 14, 3) := by decide +kernel
theorem dX7_read_103 : decode cX7_read 103 = .ok (.aload_n 0, 1) := by decide +kernel
theorem dX7_read_104 : decode cX7_read 104 = .ok (.iload_n 2, 1) := by decide +kernel
theorem dX7_read_105 : decode cX7_read 105 = .ok (.invokevirtual 61, 3) := by decide +kernel
theorem dX7_read_108 : decode cX7_read 108 = .ok (.iinc 2 1, 3) := by decide +kernel
theorem dX7_read_111 : decode cX7_read 111 = .ok (.goto (-19), 3) := by decide +kernel
theorem dX7_read_114 : decode cX7_read 114 = .ok (.iconst 0, 1) := by decide +kernel
theorem dX7_read_115 : decode cX7_read 115 = .ok (.istore_n 2, 1) := by decide +kernel
theorem dX7_read_116 : decode cX7_read 116 = .ok (.iload_n 2, 1) := by decide +kernel
theorem dX7_read_117 : decode cX7_read 117 = .ok (.aload_n 0, 1) := by decide +kernel
theorem dX7_read_118 : decode cX7_read 118 = .ok (.getfield 15, 3) := by decide +kernel
theorem dX7_read_121 : decode cX7_read 121 = .ok (.if_icmp .ge 88, 3) := by decide +kernel
theorem dX7_read_124 : decode cX7_read 124 = .ok (.iload_n 2, 1) := by decide +kernel
theorem dX7_read_125 : decode cX7_read 125 = .ok (.aload_n 0, 1) := by decide +kernel
theorem dX7_read_126 : decode cX7_read 126 = .ok (.getfield 29, 3) := by decide +kernel
theorem dX7_read_129 : decode cX7_read 129 = .ok (.getfield 54, 3) := by decide +kernel
theorem dX7_read_132 : decode cX7_read 132 = .ok (.if_icmp .ge 77, 3) := by decide +kernel
theorem dX7_read_135 : decode cX7_read 135 = .ok (.iconst 2, 1) := by decide +kernel
theorem dX7_read_136 : decode cX7_read 136 = .ok (.aload_n 0, 1) := by decide +kernel
theorem dX7_read_137 : decode cX7_read 137 = .ok (.getfield 9, 3) := by decide +kernel
theorem dX7_read_140 : decode cX7_read 140 = .ok (.iload_n 2, 1) := by decide +kernel
theorem dX7_read_141 : decode cX7_read 141 = .ok (.iaload, 1) := by decide +kernel
theorem dX7_read_142 : decode cX7_read 142 = .ok (.imul, 1) := by decide +kernel
theorem dX7_read_143 : decode cX7_read 143 = .ok (.istore_n 3, 1) := by decide +kernel
theorem dX7_read_144 : decode cX7_read 144 = .ok (.iload_n 3, 1) := by decide +kernel
theorem dX7_read_145 : decode cX7_read 145 = .ok (.iconst 2, 1) := by decide +kernel
theorem dX7_read_146 : decode cX7_read 146 = .ok (.aload_n 0, 1) := by decide +kernel
theorem dX7_read_147 : decode cX7_read 147 = .ok (.getfield 9, 3) := by decide +kernel
theorem dX7_read_150 : decode cX7_read 150 = .ok (.iload_n 2, 1) := by decide +kernel
theorem dX7_read_151 : decode cX7_read 151 = .ok (.iaload, 1) := by decide +kernel
theorem dX7_read_152 : decode cX7_read 152 = .ok (.imul, 1) := by decide +kernel
theorem dX7_read_153 : decode cX7_read 153 = .ok (.iconst 1, 1) := by decide +kernel
theorem dX7_read_154 : decode cX7_read 154 = .ok (.iadd, 1) := by decide +kernel
theorem dX7_read_155 : decode cX7_read 155 = .ok (.if_icmp .gt 48, 3) := by decide +kernel
theorem dX7_read_158 : decode cX7_read 158 = .ok (.aload_n 0, 1) := by decide +kernel
theorem dX7_read_159 : decode cX7_read 159 = .ok (.iload_n 3, 1) := by decide +kernel
theorem dX7_read_160 : decode cX7_read 160 = .ok (.invokevirtual 57, 3) := by decide +kernel
theorem dX7_read_163 : decode cX7_read 163 = .ok (.ifCond .eq 34, 3) := by decide +kernel
theorem dX7_read_166 : decode cX7_read 166 = .ok (.aload_n 0, 1) := by decide +kernel
theorem dX7_read_167 : decode cX7_read 167 = .ok (.getfield 19, 3) := by decide +kernel
theorem dX7_read_170 : decode cX7_read 170 = .ok (.aload_n 0, 1) := by decide +kernel
theorem dX7_read_171 : decode cX7_read 171 = .ok (.getfield 29, 3) := by decide +kernel
theorem dX7_read_174 : decode cX7_read 174 = .ok (.getfield 47, 3) := by decide +kernel
theorem dX7_read_177 : decode cX7_read 177 = .ok (.iload_n 3, 1) := by decide +kernel
theorem dX7_read_178 : decode cX7_read 178 = .ok (.iaload, 1) := by decide +kernel
theorem dX7_read_179 : decode cX7_read 179 = .ok (.dup2, 1) := by decide +kernel
theorem dX7_read_180 : decode cX7_read 180 = .ok (.iaload, 1) := by decide +kernel
theorem dX7_read_181 : decode cX7_read 181 = .ok (.iconst 1, 1) := by decide +kernel
theorem dX7_read_182 : decode cX7_read 182 = .ok (.isub, 1) := by decide +kernel
theorem dX7_read_183 : decode cX7_read 183 = .ok (.iastore, 1) := by decide +kernel
theorem dX7_read_184 : decode cX7_read 184 = .ok (.aload_n 0, 1) := by decide +kernel
theorem dX7_read_185 : decode cX7_read 185 = .ok (.aload_n 0, 1) := by decide +kernel
theorem dX7_read_186 : decode cX7_read 186 = .ok (.getfield 29, 3) := by decide +kernel
theorem dX7_read_189 : decode cX7_read 189 = .ok (.getfield 47, 3) := by decide +kernel
theorem dX7_read_192 : decode cX7_read 192 = .ok (.iload_n 3, 1) := by decide +kernel
theorem dX7_read_193 : decode cX7_read 193 = .ok (.iaload, 1) := by decide +kernel
theorem dX7_read_194 : decode cX7_read 194 = .ok (.invokevirtual 61, 3) := by decide +kernel
theorem dX7_read_197 : decode cX7_read 197 = .ok (.iinc 3 1, 3) := by decide +kernel
theorem dX7_read_200 : decode cX7_read 200 = .ok (.goto (-56), 3) := by decide +kernel
theorem dX7_read_203 : decode cX7_read 203 = .ok (.iinc 2 1, 3) := by decide +kernel
theorem dX7_read_206 : decode cX7_read 206 = .ok (.goto (-90), 3) := by decide +kernel
theorem dX7_read_209 : decode cX7_read 209 = .ok (.return_, 1) := by decide +kernel
theorem dX7_addIfFree_0 : decode cX7_addIfFree 0 = .ok (.aload_n 0, 1) := by decide +kernel
theorem dX7_addIfFree_1 : decode cX7_addIfFree 1 = .ok (.getfield 19, 3) := by decide +kernel
theorem dX7_addIfFree_4 : decode cX7_addIfFree 4 = .ok (.iload_n 1, 1) := by decide +kernel
theorem dX7_addIfFree_5 : decode cX7_addIfFree 5 = .ok (.iaload, 1) := by decide +kernel
theorem dX7_addIfFree_6 : decode cX7_addIfFree 6 = .ok (.ifCond .ne 32, 3) := by decide +kernel
theorem dX7_addIfFree_9 : decode cX7_addIfFree 9 = .ok (.aload_n 0, 1) := by decide +kernel
theorem dX7_addIfFree_10 : decode cX7_addIfFree 10 = .ok (.getfield 15, 3) := by decide +kernel
theorem dX7_addIfFree_13 : decode cX7_addIfFree 13 = .ok (.bipush 64, 2) := by decide +kernel
theorem dX7_addIfFree_15 : decode cX7_addIfFree 15 = .ok (.if_icmp .ge 23, 3) := by decide +kernel
theorem dX7_addIfFree_18 : decode cX7_addIfFree 18 = .ok (.aload_n 0, 1) := by decide +kernel
theorem dX7_addIfFree_19 : decode cX7_addIfFree 19 = .ok (.getfield 9, 3) := by decide +kernel
theorem dX7_addIfFree_22 : decode cX7_addIfFree 22 = .ok (.aload_n 0, 1) := by decide +kernel
theorem dX7_addIfFree_23 : decode cX7_addIfFree 23 = .ok (.getfield 15, 3) := by decide +kernel
theorem dX7_addIfFree_26 : decode cX7_addIfFree 26 = .ok (.iload_n 1, 1) := by decide +kernel
theorem dX7_addIfFree_27 : decode cX7_addIfFree 27 = .ok (.iastore, 1) := by decide +kernel
theorem dX7_addIfFree_28 : decode cX7_addIfFree 28 = .ok (.aload_n 0, 1) := by decide +kernel
theorem dX7_addIfFree_29 : decode cX7_addIfFree 29 = .ok (.dup, 1) := by decide +kernel
theorem dX7_addIfFree_30 : decode cX7_addIfFree 30 = .ok (.getfield 15, 3) := by decide +kernel
theorem dX7_addIfFree_33 : decode cX7_addIfFree 33 = .ok (.iconst 1, 1) := by decide +kernel
theorem dX7_addIfFree_34 : decode cX7_addIfFree 34 = .ok (.iadd, 1) := by decide +kernel
theorem dX7_addIfFree_35 : decode cX7_addIfFree 35 = .ok (.putfield 15, 3) := by decide +kernel
theorem dX7_addIfFree_38 : decode cX7_addIfFree 38 = .ok (.return_, 1) := by decide +kernel
theorem dX7_isBad_0 : decode cX7_isBad 0 = .ok (.aload_n 0, 1) := by decide +kernel
theorem dX7_isBad_1 : decode cX7_isBad 1 = .ok (.getfield 15, 3) := by decide +kernel
theorem dX7_isBad_4 : decode cX7_isBad 4 = .ok (.aload_n 0, 1) := by decide +kernel
theorem dX7_isBad_5 : decode cX7_isBad 5 = .ok (.getfield 29, 3) := by decide +kernel
theorem dX7_isBad_8 : decode cX7_isBad 8 = .ok (.getfield 54, 3) := by decide +kernel
theorem dX7_isBad_11 : decode cX7_isBad 11 = .ok (.if_icmp .ge 7, 3) := by decide +kernel
theorem dX7_isBad_14 : decode cX7_isBad 14 = .ok (.iconst 1, 1) := by decide +kernel
theorem dX7_isBad_15 : decode cX7_isBad 15 = .ok (.goto 4, 3) := by decide +kernel
theorem dX7_isBad_18 : decode cX7_isBad 18 = .ok (.iconst 0, 1) := by decide +kernel
theorem dX7_isBad_19 : decode cX7_isBad 19 = .ok (.ireturn, 1) := by decide +kernel
theorem dX7_leastWeight_0 : decode cX7_leastWeight 0 = .ok (.iconst 0, 1) := by decide +kernel
theorem dX7_leastWeight_1 : decode cX7_leastWeight 1 = .ok (.istore_n 1, 1) := by decide +kernel
theorem dX7_leastWeight_2 : decode cX7_leastWeight 2 = .ok (.iload_n 1, 1) := by decide +kernel
theorem dX7_leastWeight_3 : decode cX7_leastWeight 3 = .ok (.aload_n 0, 1) := by decide +kernel
theorem dX7_leastWeight_4 : decode cX7_leastWeight 4 = .ok (.getfield 29, 3) := by decide +kernel
theorem dX7_leastWeight_7 : decode cX7_leastWeight 7 = .ok (.getfield 54, 3) := by decide +kernel
theorem dX7_leastWeight_10 : decode cX7_leastWeight 10 = .ok (.if_icmp .ge 17, 3) := by decide +kernel
theorem dX7_leastWeight_13 : decode cX7_leastWeight 13 = .ok (.aload_n 0, 1) := by decide +kernel
theorem dX7_leastWeight_14 : decode cX7_leastWeight 14 = .ok (.getfield 22, 3) := by decide +kernel
theorem dX7_leastWeight_17 : decode cX7_leastWeight 17 = .ok (.iload_n 1, 1) := by decide +kernel
theorem dX7_leastWeight_18 : decode cX7_leastWeight 18 = .ok (.ldc 65, 2) := by decide +kernel
theorem dX7_leastWeight_20 : decode cX7_leastWeight 20 = .ok (.iastore, 1) := by decide +kernel
theorem dX7_leastWeight_21 : decode cX7_leastWeight 21 = .ok (.iinc 1 1, 3) := by decide +kernel
theorem dX7_leastWeight_24 : decode cX7_leastWeight 24 = .ok (.goto (-22), 3) := by decide +kernel
theorem dX7_leastWeight_27 : decode cX7_leastWeight 27 = .ok (.aload_n 0, 1) := by decide +kernel
theorem dX7_leastWeight_28 : decode cX7_leastWeight 28 = .ok (.getfield 22, 3) := by decide +kernel
theorem dX7_leastWeight_31 : decode cX7_leastWeight 31 = .ok (.iconst 1, 1) := by decide +kernel
theorem dX7_leastWeight_32 : decode cX7_leastWeight 32 = .ok (.aload_n 0, 1) := by decide +kernel
theorem dX7_leastWeight_33 : decode cX7_leastWeight 33 = .ok (.iconst 1, 1) := by decide +kernel
theorem dX7_leastWeight_34 : decode cX7_leastWeight 34 = .ok (.invokevirtual 44, 3) := by decide +kernel
theorem dX7_leastWeight_37 : decode cX7_leastWeight 37 = .ok (.iastore, 1) := by decide +kernel
theorem dX7_leastWeight_38 : decode cX7_leastWeight 38 = .ok (.ldc 65, 2) := by decide +kernel
theorem dX7_leastWeight_40 : decode cX7_leastWeight 40 = .ok (.istore_n 1, 1) := by decide +kernel
theorem dX7_leastWeight_41 : decode cX7_leastWeight 41 = .ok (.iconst 0, 1) := by decide +kernel
theorem dX7_leastWeight_42 : decode cX7_leastWeight 42 = .ok (.istore_n 2, 1) := by decide +kernel
theorem dX7_leastWeight_43 : decode cX7_leastWeight 43 = .ok (.iload_n 2, 1) := by decide +kernel
theorem dX7_leastWeight_44 : decode cX7_leastWeight 44 = .ok (.aload_n 0, 1) := by decide +kernel
theorem dX7_leastWeight_45 : decode cX7_leastWeight 45 = .ok (.getfield 29, 3) := by decide +kernel
theorem dX7_leastWeight_48 : decode cX7_leastWeight 48 = .ok (.getfield 54, 3) := by decide +kernel
theorem dX7_leastWeight_51 : decode cX7_leastWeight 51 = .ok (.if_icmp .ge 91, 3) := by decide +kernel
theorem dX7_leastWeight_54 : decode cX7_leastWeight 54 = .ok (.iconst 2, 1) := by decide +kernel
theorem dX7_leastWeight_55 : decode cX7_leastWeight 55 = .ok (.istore_n 3, 1) := by decide +kernel
theorem dX7_leastWeight_56 : decode cX7_leastWeight 56 = .ok (.iload_n 3, 1) := by decide +kernel
theorem dX7_leastWeight_57 : decode cX7_leastWeight 57 = .ok (.iconst 2, 1) := by decide +kernel
theorem dX7_leastWeight_58 : decode cX7_leastWeight 58 = .ok (.aload_n 0, 1) := by decide +kernel
theorem dX7_leastWeight_59 : decode cX7_leastWeight 59 = .ok (.getfield 29, 3) := by decide +kernel
theorem dX7_leastWeight_62 : decode cX7_leastWeight 62 = .ok (.getfield 54, 3) := by decide +kernel
theorem dX7_leastWeight_65 : decode cX7_leastWeight 65 = .ok (.imul, 1) := by decide +kernel
theorem dX7_leastWeight_66 : decode cX7_leastWeight 66 = .ok (.if_icmp .ge 70, 3) := by decide +kernel
theorem dX7_leastWeight_69 : decode cX7_leastWeight 69 = .ok (.aload_n 0, 1) := by decide +kernel
theorem dX7_leastWeight_70 : decode cX7_leastWeight 70 = .ok (.getfield 22, 3) := by decide +kernel
theorem dX7_leastWeight_73 : decode cX7_leastWeight 73 = .ok (.iload_n 3, 1) := by decide +kernel
theorem dX7_leastWeight_74 : decode cX7_leastWeight 74 = .ok (.iconst 2, 1) := by decide +kernel
theorem dX7_leastWeight_75 : decode cX7_leastWeight 75 = .ok (.idiv, 1) := by decide +kernel
theorem dX7_leastWeight_76 : decode cX7_leastWeight 76 = .ok (.iaload, 1) := by decide +kernel
theorem dX7_leastWeight_77 : decode cX7_leastWeight 77 = .ok (.aload_n 0, 1) := by decide +kernel
theorem dX7_leastWeight_78 : decode cX7_leastWeight 78 = .ok (.iload_n 3, 1) := by decide +kernel
theorem dX7_leastWeight_79 : decode cX7_leastWeight 79 = .ok (.invokevirtual 44, 3) := by decide +kernel
theorem dX7_leastWeight_82 : decode cX7_leastWeight 82 = .ok (.iadd, 1) := by decide +kernel
theorem dX7_leastWeight_83 : decode cX7_leastWeight 83 = .ok (.istore 4, 2) := by decide +kernel
theorem dX7_leastWeight_85 : decode cX7_leastWeight 85 = .ok (.aload_n 0, 1) := by decide +kernel
theorem dX7_leastWeight_86 : decode cX7_leastWeight 86 = .ok (.getfield 29, 3) := by decide +kernel
theorem dX7_leastWeight_89 : decode cX7_leastWeight 89 = .ok (.getfield 47, 3) := by decide +kernel
theorem dX7_leastWeight_92 : decode cX7_leastWeight 92 = .ok (.iload_n 3, 1) := by decide +kernel
theorem dX7_leastWeight_93 : decode cX7_leastWeight 93 = .ok (.iaload, 1) := by decide +kernel
theorem dX7_leastWeight_94 : decode cX7_leastWeight 94 = .ok (.istore 5, 2) := by decide +kernel
theorem dX7_leastWeight_96 : decode cX7_leastWeight 96 = .ok (.iload 5, 2) := by decide +kernel
theorem dX7_leastWeight_98 : decode cX7_leastWeight 98 = .ok (.ifCond .ne 13, 3) := by decide +kernel
theorem dX7_leastWeight_101 : decode cX7_leastWeight 101 = .ok (.iload_n 1, 1) := by decide +kernel
theorem dX7_leastWeight_102 : decode cX7_leastWeight 102 = .ok (.iload 4, 2) := by decide +kernel
theorem dX7_leastWeight_104 : decode cX7_leastWeight 104 = .ok (.invokestatic 66, 3) := by decide +kernel
theorem dX7_leastWeight_107 : decode cX7_leastWeight 107 = .ok (.istore_n 1, 1) := by decide +kernel
theorem dX7_leastWeight_108 : decode cX7_leastWeight 108 = .ok (.goto 22, 3) := by decide +kernel
theorem dX7_leastWeight_111 : decode cX7_leastWeight 111 = .ok (.aload_n 0, 1) := by decide +kernel
theorem dX7_leastWeight_112 : decode cX7_leastWeight 112 = .ok (.getfield 22, 3) := by decide +kernel
theorem dX7_leastWeight_115 : decode cX7_leastWeight 115 = .ok (.iload 5, 2) := by decide +kernel
theorem dX7_leastWeight_117 : decode cX7_leastWeight 117 = .ok (.aload_n 0, 1) := by decide +kernel
theorem dX7_leastWeight_118 : decode cX7_leastWeight 118 = .ok (.getfield 22, 3) := by decide +kernel
theorem dX7_leastWeight_121 : decode cX7_leastWeight 121 = .ok (.iload 5, 2) := by decide +kernel
theorem dX7_leastWeight_123 : decode cX7_leastWeight 123 = .ok (.iaload, 1) := by decide +kernel
theorem dX7_leastWeight_124 : decode cX7_leastWeight 124 = .ok (.iload 4, 2) := by decide +kernel
theorem dX7_leastWeight_126 : decode cX7_leastWeight 126 = .ok (.invokestatic 66, 3) := by decide +kernel
theorem dX7_leastWeight_129 : decode cX7_leastWeight 129 = .ok (.iastore, 1) := by decide +kernel
theorem dX7_leastWeight_130 : decode cX7_leastWeight 130 = .ok (.iinc 3 1, 3) := by decide +kernel
theorem dX7_leastWeight_133 : decode cX7_leastWeight 133 = .ok (.goto (-77), 3) := by decide +kernel
theorem dX7_leastWeight_136 : decode cX7_leastWeight 136 = .ok (.iinc 2 1, 3) := by decide +kernel
theorem dX7_leastWeight_139 : decode cX7_leastWeight 139 = .ok (.goto (-96), 3) := by decide +kernel
theorem dX7_leastWeight_142 : decode cX7_leastWeight 142 = .ok (.iload_n 1, 1) := by decide +kernel
theorem dX7_leastWeight_143 : decode cX7_leastWeight 143 = .ok (.ireturn, 1) := by decide +kernel
theorem dX7_waysOfWeight_0 : decode cX7_waysOfWeight 0 = .ok (.iconst 0, 1) := by decide +kernel
theorem dX7_waysOfWeight_1 : decode cX7_waysOfWeight 1 = .ok (.istore_n 2, 1) := by decide +kernel
theorem dX7_waysOfWeight_2 : decode cX7_waysOfWeight 2 = .ok (.iload_n 2, 1) := by decide +kernel
theorem dX7_waysOfWeight_3 : decode cX7_waysOfWeight 3 = .ok (.iload_n 1, 1) := by decide +kernel
theorem dX7_waysOfWeight_4 : decode cX7_waysOfWeight 4 = .ok (.iconst 1, 1) := by decide +kernel
theorem dX7_waysOfWeight_5 : decode cX7_waysOfWeight 5 = .ok (.iadd, 1) := by decide +kernel
theorem dX7_waysOfWeight_6 : decode cX7_waysOfWeight 6 = .ok (.bipush 64, 2) := by decide +kernel
theorem dX7_waysOfWeight_8 : decode cX7_waysOfWeight 8 = .ok (.imul, 1) := by decide +kernel
theorem dX7_waysOfWeight_9 : decode cX7_waysOfWeight 9 = .ok (.if_icmp .ge 16, 3) := by decide +kernel
theorem dX7_waysOfWeight_12 : decode cX7_waysOfWeight 12 = .ok (.aload_n 0, 1) := by decide +kernel
theorem dX7_waysOfWeight_13 : decode cX7_waysOfWeight 13 = .ok (.getfield 25, 3) := by decide +kernel
theorem dX7_waysOfWeight_16 : decode cX7_waysOfWeight 16 = .ok (.iload_n 2, 1) := by decide +kernel
theorem dX7_waysOfWeight_17 : decode cX7_waysOfWeight 17 = .ok (.lconst 0, 1) := by decide +kernel
theorem dX7_waysOfWeight_18 : decode cX7_waysOfWeight 18 = .ok (.lastore, 1) := by decide +kernel
theorem dX7_waysOfWeight_19 : decode cX7_waysOfWeight 19 = .ok (.iinc 2 1, 3) := by decide +kernel
theorem dX7_waysOfWeight_22 : decode cX7_waysOfWeight 22 = .ok (.goto (-20), 3) := by decide +kernel
theorem dX7_waysOfWeight_25 : decode cX7_waysOfWeight 25 = .ok (.aload_n 0, 1) := by decide +kernel
theorem dX7_waysOfWeight_26 : decode cX7_waysOfWeight 26 = .ok (.iconst 1, 1) := by decide +kernel
theorem dX7_waysOfWeight_27 : decode cX7_waysOfWeight 27 = .ok (.invokevirtual 44, 3) := by decide +kernel
theorem dX7_waysOfWeight_30 : decode cX7_waysOfWeight 30 = .ok (.iload_n 1, 1) := by decide +kernel
theorem dX7_waysOfWeight_31 : decode cX7_waysOfWeight 31 = .ok (.if_icmp .gt 19, 3) := by decide +kernel
theorem dX7_waysOfWeight_34 : decode cX7_waysOfWeight 34 = .ok (.aload_n 0, 1) := by decide +kernel
theorem dX7_waysOfWeight_35 : decode cX7_waysOfWeight 35 = .ok (.getfield 25, 3) := by decide +kernel
theorem dX7_waysOfWeight_38 : decode cX7_waysOfWeight 38 = .ok (.aload_n 0, 1) := by decide +kernel
theorem dX7_waysOfWeight_39 : decode cX7_waysOfWeight 39 = .ok (.iconst 1, 1) := by decide +kernel
theorem dX7_waysOfWeight_40 : decode cX7_waysOfWeight 40 = .ok (.invokevirtual 44, 3) := by decide +kernel
theorem dX7_waysOfWeight_43 : decode cX7_waysOfWeight 43 = .ok (.bipush 64, 2) := by decide +kernel
theorem dX7_waysOfWeight_45 : decode cX7_waysOfWeight 45 = .ok (.imul, 1) := by decide +kernel
theorem dX7_waysOfWeight_46 : decode cX7_waysOfWeight 46 = .ok (.iconst 1, 1) := by decide +kernel
theorem dX7_waysOfWeight_47 : decode cX7_waysOfWeight 47 = .ok (.iadd, 1) := by decide +kernel
theorem dX7_waysOfWeight_48 : decode cX7_waysOfWeight 48 = .ok (.lconst 1, 1) := by decide +kernel
theorem dX7_waysOfWeight_49 : decode cX7_waysOfWeight 49 = .ok (.lastore, 1) := by decide +kernel
theorem dX7_waysOfWeight_50 : decode cX7_waysOfWeight 50 = .ok (.iconst 0, 1) := by decide +kernel
theorem dX7_waysOfWeight_51 : decode cX7_waysOfWeight 51 = .ok (.istore_n 2, 1) := by decide +kernel
theorem dX7_waysOfWeight_52 : decode cX7_waysOfWeight 52 = .ok (.iload_n 2, 1) := by decide +kernel
theorem dX7_waysOfWeight_53 : decode cX7_waysOfWeight 53 = .ok (.iload_n 1, 1) := by decide +kernel
theorem dX7_waysOfWeight_54 : decode cX7_waysOfWeight 54 = .ok (.if_icmp .gt 46, 3) := by decide +kernel
theorem dX7_waysOfWeight_57 : decode cX7_waysOfWeight 57 = .ok (.iconst 0, 1) := by decide +kernel
theorem dX7_waysOfWeight_58 : decode cX7_waysOfWeight 58 = .ok (.istore_n 3, 1) := by decide +kernel
theorem dX7_waysOfWeight_59 : decode cX7_waysOfWeight 59 = .ok (.iload_n 3, 1) := by decide +kernel
theorem dX7_waysOfWeight_60 : decode cX7_waysOfWeight 60 = .ok (.aload_n 0, 1) := by decide +kernel
theorem dX7_waysOfWeight_61 : decode cX7_waysOfWeight 61 = .ok (.getfield 15, 3) := by decide +kernel
theorem dX7_waysOfWeight_64 : decode cX7_waysOfWeight 64 = .ok (.if_icmp .ge 30, 3) := by decide +kernel
theorem dX7_waysOfWeight_67 : decode cX7_waysOfWeight 67 = .ok (.aload_n 0, 1) := by decide +kernel
theorem dX7_waysOfWeight_68 : decode cX7_waysOfWeight 68 = .ok (.getfield 9, 3) := by decide +kernel
theorem dX7_waysOfWeight_71 : decode cX7_waysOfWeight 71 = .ok (.iload_n 3, 1) := by decide +kernel
theorem dX7_waysOfWeight_72 : decode cX7_waysOfWeight 72 = .ok (.iaload, 1) := by decide +kernel
theorem dX7_waysOfWeight_73 : decode cX7_waysOfWeight 73 = .ok (.ifCond .eq 15, 3) := by decide +kernel
theorem dX7_waysOfWeight_76 : decode cX7_waysOfWeight 76 = .ok (.aload_n 0, 1) := by decide +kernel
theorem dX7_waysOfWeight_77 : decode cX7_waysOfWeight 77 = .ok (.iload_n 2, 1) := by decide +kernel
theorem dX7_waysOfWeight_78 : decode cX7_waysOfWeight 78 = .ok (.aload_n 0, 1) := by decide +kernel
theorem dX7_waysOfWeight_79 : decode cX7_waysOfWeight 79 = .ok (.getfield 9, 3) := by decide +kernel
theorem dX7_waysOfWeight_82 : decode cX7_waysOfWeight 82 = .ok (.iload_n 3, 1) := by decide +kernel
theorem dX7_waysOfWeight_83 : decode cX7_waysOfWeight 83 = .ok (.iaload, 1) := by decide +kernel
theorem dX7_waysOfWeight_84 : decode cX7_waysOfWeight 84 = .ok (.iload_n 1, 1) := by decide +kernel
theorem dX7_waysOfWeight_85 : decode cX7_waysOfWeight 85 = .ok (.invokevirtual 72, 3) := by decide +kernel
theorem dX7_waysOfWeight_88 : decode cX7_waysOfWeight 88 = .ok (.iinc 3 1, 3) := by decide +kernel
theorem dX7_waysOfWeight_91 : decode cX7_waysOfWeight 91 = .ok (.goto (-32), 3) := by decide +kernel
theorem dX7_waysOfWeight_94 : decode cX7_waysOfWeight 94 = .ok (.iinc 2 1, 3) := by decide +kernel
theorem dX7_waysOfWeight_97 : decode cX7_waysOfWeight 97 = .ok (.goto (-45), 3) := by decide +kernel
theorem dX7_waysOfWeight_100 : decode cX7_waysOfWeight 100 = .ok (.aload_n 0, 1) := by decide +kernel
theorem dX7_waysOfWeight_101 : decode cX7_waysOfWeight 101 = .ok (.getfield 25, 3) := by decide +kernel
theorem dX7_waysOfWeight_104 : decode cX7_waysOfWeight 104 = .ok (.iload_n 1, 1) := by decide +kernel
theorem dX7_waysOfWeight_105 : decode cX7_waysOfWeight 105 = .ok (.bipush 64, 2) := by decide +kernel
theorem dX7_waysOfWeight_107 : decode cX7_waysOfWeight 107 = .ok (.imul, 1) := by decide +kernel
theorem dX7_waysOfWeight_108 : decode cX7_waysOfWeight 108 = .ok (.laload, 1) := by decide +kernel
theorem dX7_waysOfWeight_109 : decode cX7_waysOfWeight 109 = .ok (.lreturn, 1) := by decide +kernel
theorem dX7_spread_0 : decode cX7_spread 0 = .ok (.iconst 2, 1) := by decide +kernel
theorem dX7_spread_1 : decode cX7_spread 1 = .ok (.iload_n 2, 1) := by decide +kernel
theorem dX7_spread_2 : decode cX7_spread 2 = .ok (.imul, 1) := by decide +kernel
theorem dX7_spread_3 : decode cX7_spread 3 = .ok (.istore 4, 2) := by decide +kernel
theorem dX7_spread_5 : decode cX7_spread 5 = .ok (.iload 4, 2) := by decide +kernel
theorem dX7_spread_7 : decode cX7_spread 7 = .ok (.iconst 2, 1) := by decide +kernel
theorem dX7_spread_8 : decode cX7_spread 8 = .ok (.iload_n 2, 1) := by decide +kernel
theorem dX7_spread_9 : decode cX7_spread 9 = .ok (.imul, 1) := by decide +kernel
theorem dX7_spread_10 : decode cX7_spread 10 = .ok (.iconst 1, 1) := by decide +kernel
theorem dX7_spread_11 : decode cX7_spread 11 = .ok (.iadd, 1) := by decide +kernel
theorem dX7_spread_12 : decode cX7_spread 12 = .ok (.if_icmp .gt 60, 3) := by decide +kernel
theorem dX7_spread_15 : decode cX7_spread 15 = .ok (.iload_n 1, 1) := by decide +kernel
theorem dX7_spread_16 : decode cX7_spread 16 = .ok (.aload_n 0, 1) := by decide +kernel
theorem dX7_spread_17 : decode cX7_spread 17 = .ok (.iload 4, 2) := by decide +kernel
theorem dX7_spread_19 : decode cX7_spread 19 = .ok (.invokevirtual 44, 3) := by decide +kernel
theorem dX7_spread_22 : decode cX7_spread 22 = .ok (.iadd, 1) := by decide +kernel
theorem dX7_spread_23 : decode cX7_spread 23 = .ok (.istore 5, 2) := by decide +kernel
theorem dX7_spread_25 : decode cX7_spread 25 = .ok (.iload 5, 2) := by decide +kernel
theorem dX7_spread_27 : decode cX7_spread 27 = .ok (.iload_n 3, 1) := by decide +kernel
theorem dX7_spread_28 : decode cX7_spread 28 = .ok (.if_icmp .gt 38, 3) := by decide +kernel
theorem dX7_spread_31 : decode cX7_spread 31 = .ok (.aload_n 0, 1) := by decide +kernel
theorem dX7_spread_32 : decode cX7_spread 32 = .ok (.getfield 25, 3) := by decide +kernel
theorem dX7_spread_35 : decode cX7_spread 35 = .ok (.iload 5, 2) := by decide +kernel
theorem dX7_spread_37 : decode cX7_spread 37 = .ok (.bipush 64, 2) := by decide +kernel
theorem dX7_spread_39 : decode cX7_spread 39 = .ok (.imul, 1) := by decide +kernel
theorem dX7_spread_40 : decode cX7_spread 40 = .ok (.aload_n 0, 1) := by decide +kernel
theorem dX7_spread_41 : decode cX7_spread 41 = .ok (.getfield 29, 3) := by decide +kernel
theorem dX7_spread_44 : decode cX7_spread 44 = .ok (.getfield 47, 3) := by decide +kernel
theorem dX7_spread_47 : decode cX7_spread 47 = .ok (.iload 4, 2) := by decide +kernel
theorem dX7_spread_49 : decode cX7_spread 49 = .ok (.iaload, 1) := by decide +kernel
theorem dX7_spread_50 : decode cX7_spread 50 = .ok (.iadd, 1) := by decide +kernel
theorem dX7_spread_51 : decode cX7_spread 51 = .ok (.dup2, 1) := by decide +kernel
theorem dX7_spread_52 : decode cX7_spread 52 = .ok (.laload, 1) := by decide +kernel
theorem dX7_spread_53 : decode cX7_spread 53 = .ok (.aload_n 0, 1) := by decide +kernel
theorem dX7_spread_54 : decode cX7_spread 54 = .ok (.getfield 25, 3) := by decide +kernel
theorem dX7_spread_57 : decode cX7_spread 57 = .ok (.iload_n 1, 1) := by decide +kernel
theorem dX7_spread_58 : decode cX7_spread 58 = .ok (.bipush 64, 2) := by decide +kernel
theorem dX7_spread_60 : decode cX7_spread 60 = .ok (.imul, 1) := by decide +kernel
theorem dX7_spread_61 : decode cX7_spread 61 = .ok (.iload_n 2, 1) := by decide +kernel
theorem dX7_spread_62 : decode cX7_spread 62 = .ok (.iadd, 1) := by decide +kernel
theorem dX7_spread_63 : decode cX7_spread 63 = .ok (.laload, 1) := by decide +kernel
theorem dX7_spread_64 : decode cX7_spread 64 = .ok (.ladd, 1) := by decide +kernel
theorem dX7_spread_65 : decode cX7_spread 65 = .ok (.lastore, 1) := by decide +kernel
theorem dX7_spread_66 : decode cX7_spread 66 = .ok (.iinc 4 1, 3) := by decide +kernel
theorem dX7_spread_69 : decode cX7_spread 69 = .ok (.goto (-64), 3) := by decide +kernel
theorem dX7_spread_72 : decode cX7_spread 72 = .ok (.return_, 1) := by decide +kernel
theorem dX8_init_0 : decode cX8_init 0 = .ok (.aload_n 0, 1) := by decide +kernel
theorem dX8_init_1 : decode cX8_init 1 = .ok (.invokespecial 3, 3) := by decide +kernel
theorem dX8_init_4 : decode cX8_init 4 = .ok (.aload_n 0, 1) := by decide +kernel
theorem dX8_init_5 : decode cX8_init 5 = .ok (.sipush 200, 3) := by decide +kernel
theorem dX8_init_8 : decode cX8_init 8 = .ok (.newarray .int, 2) := by decide +kernel
theorem dX8_init_10 : decode cX8_init 10 = .ok (.putfield 9, 3) := by decide +kernel
theorem dX8_init_13 : decode cX8_init 13 = .ok (.aload_n 0, 1) := by decide +kernel
theorem dX8_init_14 : decode cX8_init 14 = .ok (.sipush 200, 3) := by decide +kernel
theorem dX8_init_17 : decode cX8_init 17 = .ok (.newarray .int, 2) := by decide +kernel
theorem dX8_init_19 : decode cX8_init 19 = .ok (.putfield 15, 3) := by decide +kernel
theorem dX8_init_22 : decode cX8_init 22 = .ok (.aload_n 0, 1) := by decide +kernel
theorem dX8_init_23 : decode cX8_init 23 = .ok (.sipush 200, 3) := by decide +kernel
theorem dX8_init_26 : decode cX8_init 26 = .ok (.newarray .int, 2) := by decide +kernel
theorem dX8_init_28 : decode cX8_init 28 = .ok (.putfield 18, 3) := by decide +kernel
theorem dX8_init_31 : decode cX8_init 31 = .ok (.aload_n 0, 1) := by decide +kernel
theorem dX8_init_32 : decode cX8_init 32 = .ok (.sipush 200, 3) := by decide +kernel
theorem dX8_init_35 : decode cX8_init 35 = .ok (.newarray .int, 2) := by decide +kernel
theorem dX8_init_37 : decode cX8_init 37 = .ok (.putfield 21, 3) := by decide +kernel
theorem dX8_init_40 : decode cX8_init 40 = .ok (.aload_n 0, 1) := by decide +kernel
theorem dX8_init_41 : decode cX8_init 41 = .ok (.iconst 0, 1) := by decide +kernel
theorem dX8_init_42 : decode cX8_init 42 = .ok (.putfield 24, 3) := by decide +kernel
theorem dX8_init_45 : decode cX8_init 45 = .ok (.aload_n 0, 1) := by decide +kernel
theorem dX8_init_46 : decode cX8_init 46 = .ok (.aload_n 1, 1) := by decide +kernel
theorem dX8_init_47 : decode cX8_init 47 = .ok (.putfield 28, 3) := by decide +kernel
theorem dX8_init_50 : decode cX8_init 50 = .ok (.aload_n 0, 1) := by decide +kernel
theorem dX8_init_51 : decode cX8_init 51 = .ok (.aload_n 2, 1) := by decide +kernel
theorem dX8_init_52 : decode cX8_init 52 = .ok (.putfield 32, 3) := by decide +kernel
theorem dX8_init_55 : decode cX8_init 55 = .ok (.aload_n 0, 1) := by decide +kernel
theorem dX8_init_56 : decode cX8_init 56 = .ok (.aload_n 3, 1) := by decide +kernel
theorem dX8_init_57 : decode cX8_init 57 = .ok (.putfield 36, 3) := by decide +kernel
theorem dX8_init_60 : decode cX8_init 60 = .ok (.return_, 1) := by decide +kernel
theorem dX8_didAgree_0 : decode cX8_didAgree 0 = .ok (.aload_n 0, 1) := by decide +kernel
theorem dX8_didAgree_1 : decode cX8_didAgree 1 = .ok (.getfield 24, 3) := by decide +kernel
theorem dX8_didAgree_4 : decode cX8_didAgree 4 = .ok (.ireturn, 1) := by decide +kernel
theorem dX8_lastSeeming_0 : decode cX8_lastSeeming 0 = .ok (.aload_n 0, 1) := by decide +kernel
theorem dX8_lastSeeming_1 : decode cX8_lastSeeming 1 = .ok (.getfield 21, 3) := by decide +kernel
theorem dX8_lastSeeming_4 : decode cX8_lastSeeming 4 = .ok (.iload_n 1, 1) := by decide +kernel
theorem dX8_lastSeeming_5 : decode cX8_lastSeeming 5 = .ok (.iaload, 1) := by decide +kernel
theorem dX8_lastSeeming_6 : decode cX8_lastSeeming 6 = .ok (.ireturn, 1) := by decide +kernel
theorem dX8_run_0 : decode cX8_run 0 = .ok (.iconst 0, 1) := by decide +kernel
theorem dX8_run_1 : decode cX8_run 1 = .ok (.istore 4, 2) := by decide +kernel
theorem dX8_run_3 : decode cX8_run 3 = .ok (.iload 4, 2) := by decide +kernel
theorem dX8_run_5 : decode cX8_run 5 = .ok (.iload_n 2, 1) := by decide +kernel
theorem dX8_run_6 : decode cX8_run 6 = .ok (.if_icmp .ge 17, 3) := by decide +kernel
theorem dX8_run_9 : decode cX8_run 9 = .ok (.aload_n 0, 1) := by decide +kernel
theorem dX8_run_10 : decode cX8_run 10 = .ok (.getfield 9, 3) := by decide +kernel
theorem dX8_run_13 : decode cX8_run 13 = .ok (.iload 4, 2) := by decide +kernel
theorem dX8_run_15 : decode cX8_run 15 = .ok (.iconst 0, 1) := by decide +kernel
theorem dX8_run_16 : decode cX8_run 16 = .ok (.iastore, 1) := by decide +kernel
theorem dX8_run_17 : decode cX8_run 17 = .ok (.iinc 4 1, 3) := by decide +kernel
theorem dX8_run_20 : decode cX8_run 20 = .ok (.goto (-17), 3) := by decide +kernel
theorem dX8_run_23 : decode cX8_run 23 = .ok (.aload_n 0, 1) := by decide +kernel
theorem dX8_run_24 : decode cX8_run 24 = .ok (.iconst 0, 1) := by decide +kernel
theorem dX8_run_25 : decode cX8_run 25 = .ok (.putfield 24, 3) := by decide +kernel
theorem dX8_run_28 : decode cX8_run 28 = .ok (.iconst 0, 1) := by decide +kernel
theorem dX8_run_29 : decode cX8_run 29 = .ok (.istore 4, 2) := by decide +kernel
theorem dX8_run_31 : decode cX8_run 31 = .ok (.iload 4, 2) := by decide +kernel
theorem dX8_run_33 : decode cX8_run 33 = .ok (.iload_n 3, 1) := by decide +kernel
theorem dX8_run_34 : decode cX8_run 34 = .ok (.if_icmp .ge 39, 3) := by decide +kernel
theorem dX8_run_37 : decode cX8_run 37 = .ok (.aload_n 0, 1) := by decide +kernel
theorem dX8_run_38 : decode cX8_run 38 = .ok (.getfield 24, 3) := by decide +kernel
theorem dX8_run_41 : decode cX8_run 41 = .ok (.ifCond .ne 32, 3) := by decide +kernel
theorem dX8_run_44 : decode cX8_run 44 = .ok (.aload_n 0, 1) := by decide +kernel
theorem dX8_run_45 : decode cX8_run 45 = .ok (.aload_n 1, 1) := by decide +kernel
theorem dX8_run_46 : decode cX8_run 46 = .ok (.iload_n 2, 1) := by decide +kernel
theorem dX8_run_47 : decode cX8_run 47 = .ok (.iconst 0, 1) := by decide +kernel
theorem dX8_run_48 : decode cX8_run 48 = .ok (.invokevirtual 40, 3) := by decide +kernel
theorem dX8_run_51 : decode cX8_run 51 = .ok (.aload_n 0, 1) := by decide +kernel
theorem dX8_run_52 : decode cX8_run 52 = .ok (.aload_n 1, 1) := by decide +kernel
theorem dX8_run_53 : decode cX8_run 53 = .ok (.iload_n 2, 1) := by decide +kernel
theorem dX8_run_54 : decode cX8_run 54 = .ok (.iconst 1, 1) := by decide +kernel
theorem dX8_run_55 : decode cX8_run 55 = .ok (.invokevirtual 40, 3) := by decide +kernel
theorem dX8_run_58 : decode cX8_run 58 = .ok (.aload_n 0, 1) := by decide +kernel
theorem dX8_run_59 : decode cX8_run 59 = .ok (.aload_n 0, 1) := by decide +kernel
theorem dX8_run_60 : decode cX8_run 60 = .ok (.iload_n 2, 1) := by decide +kernel
theorem dX8_run_61 : decode cX8_run 61 = .ok (.invokevirtual 44, 3) := by decide +kernel
theorem dX8_run_64 : decode cX8_run 64 = .ok (.putfield 24, 3) := by decide +kernel
theorem dX8_run_67 : decode cX8_run 67 = .ok (.iinc 4 1, 3) := by decide +kernel
theorem dX8_run_70 : decode cX8_run 70 = .ok (.goto (-39), 3) := by decide +kernel
theorem dX8_run_73 : decode cX8_run 73 = .ok (.iload 4, 2) := by decide +kernel
theorem dX8_run_75 : decode cX8_run 75 = .ok (.ireturn, 1) := by decide +kernel
theorem dX8_sayTheSame_0 : decode cX8_sayTheSame 0 = .ok (.iconst 0, 1) := by decide +kernel
theorem dX8_sayTheSame_1 : decode cX8_sayTheSame 1 = .ok (.istore_n 2, 1) := by decide +kernel
theorem dX8_sayTheSame_2 : decode cX8_sayTheSame 2 = .ok (.iload_n 2, 1) := by decide +kernel
theorem dX8_sayTheSame_3 : decode cX8_sayTheSame 3 = .ok (.iload_n 1, 1) := by decide +kernel
theorem dX8_sayTheSame_4 : decode cX8_sayTheSame 4 = .ok (.if_icmp .ge 42, 3) := by decide +kernel
theorem dX8_sayTheSame_7 : decode cX8_sayTheSame 7 = .ok (.aload_n 0, 1) := by decide +kernel
theorem dX8_sayTheSame_8 : decode cX8_sayTheSame 8 = .ok (.getfield 18, 3) := by decide +kernel
theorem dX8_sayTheSame_11 : decode cX8_sayTheSame 11 = .ok (.iload_n 2, 1) := by decide +kernel
theorem dX8_sayTheSame_12 : decode cX8_sayTheSame 12 = .ok (.iaload, 1) := by decide +kernel
theorem dX8_sayTheSame_13 : decode cX8_sayTheSame 13 = .ok (.ifCond .ge 7, 3) := by decide +kernel
theorem dX8_sayTheSame_16 : decode cX8_sayTheSame 16 = .ok (.iconst 1, 1) := by decide +kernel
theorem dX8_sayTheSame_17 : decode cX8_sayTheSame 17 = .ok (.goto 4, 3) := by decide +kernel
theorem dX8_sayTheSame_20 : decode cX8_sayTheSame 20 = .ok (.iconst 0, 1) := by decide +kernel
theorem dX8_sayTheSame_21 : decode cX8_sayTheSame 21 = .ok (.aload_n 0, 1) := by decide +kernel
theorem dX8_sayTheSame_22 : decode cX8_sayTheSame 22 = .ok (.getfield 21, 3) := by decide +kernel
theorem dX8_sayTheSame_25 : decode cX8_sayTheSame 25 = .ok (.iload_n 2, 1) := by decide +kernel
theorem dX8_sayTheSame_26 : decode cX8_sayTheSame 26 = .ok (.iaload, 1) := by decide +kernel
theorem dX8_sayTheSame_27 : decode cX8_sayTheSame 27 = .ok (.ifCond .ge 7, 3) := by decide +kernel
theorem dX8_sayTheSame_30 : decode cX8_sayTheSame 30 = .ok (.iconst 1, 1) := by decide +kernel
theorem dX8_sayTheSame_31 : decode cX8_sayTheSame 31 = .ok (.goto 4, 3) := by decide +kernel
theorem dX8_sayTheSame_34 : decode cX8_sayTheSame 34 = .ok (.iconst 0, 1) := by decide +kernel
theorem dX8_sayTheSame_35 : decode cX8_sayTheSame 35 = .ok (.if_icmp .eq 5, 3) := by decide +kernel
theorem dX8_sayTheSame_38 : decode cX8_sayTheSame 38 = .ok (.iconst 0, 1) := by decide +kernel
theorem dX8_sayTheSame_39 : decode cX8_sayTheSame 39 = .ok (.ireturn, 1) := by decide +kernel
theorem dX8_sayTheSame_40 : decode cX8_sayTheSame 40 = .ok (.iinc 2 1, 3) := by decide +kernel
theorem dX8_sayTheSame_43 : decode cX8_sayTheSame 43 = .ok (.goto (-41), 3) := by decide +kernel
theorem dX8_sayTheSame_46 : decode cX8_sayTheSame 46 = .ok (.iconst 1, 1) := by decide +kernel
theorem dX8_sayTheSame_47 : decode cX8_sayTheSame 47 = .ok (.ireturn, 1) := by decide +kernel
theorem dX8_doHalf_0 : decode cX8_doHalf 0 = .ok (.iconst 0, 1) := by decide +kernel
theorem dX8_doHalf_1 : decode cX8_doHalf 1 = .ok (.istore 4, 2) := by decide +kernel
theorem dX8_doHalf_3 : decode cX8_doHalf 3 = .ok (.iload 4, 2) := by decide +kernel
theorem dX8_doHalf_5 : decode cX8_doHalf 5 = .ok (.iload_n 2, 1) := by decide +kernel
theorem dX8_doHalf_6 : decode cX8_doHalf 6 = .ok (.if_icmp .ge 33, 3) := by decide +kernel
theorem dX8_doHalf_9 : decode cX8_doHalf 9 = .ok (.aload_n 0, 1) := by decide +kernel
theorem dX8_doHalf_10 : decode cX8_doHalf 10 = .ok (.aload_n 1, 1) := by decide +kernel
theorem dX8_doHalf_11 : decode cX8_doHalf 11 = .ok (.iload 4, 2) := by decide +kernel
theorem dX8_doHalf_13 : decode cX8_doHalf 13 = .ok (.iload_n 3, 1) := by decide +kernel
theorem dX8_doHalf_14 : decode cX8_doHalf 14 = .ok (.ifCond .eq 13, 3) := by decide +kernel
theorem dX8_doHalf_17 : decode cX8_doHalf 17 = .ok (.aload_n 1, 1) := by decide +kernel
theorem dX8_doHalf_18 : decode cX8_doHalf 18 = .ok (.iload 4, 2) := by decide +kernel
theorem dX8_doHalf_20 : decode cX8_doHalf 20 = .ok (.iload_n 2, 1) := by decide +kernel
theorem dX8_doHalf_21 : decode cX8_doHalf 21 = .ok (.invokevirtual 48, 3) := by decide +kernel
theorem dX8_doHalf_24 : decode cX8_doHalf 24 = .ok (.goto 5, 3) := by decide +kernel
theorem dX8_doHalf_27 : decode cX8_doHalf 27 = .ok (.iload 4, 2) := by decide +kernel
theorem dX8_doHalf_29 : decode cX8_doHalf 29 = .ok (.iload_n 3, 1) := by decide +kernel
theorem dX8_doHalf_30 : decode cX8_doHalf 30 = .ok (.invokevirtual 54, 3) := by decide +kernel
theorem dX8_doHalf_33 : decode cX8_doHalf 33 = .ok (.iinc 4 1, 3) := by decide +kernel
theorem dX8_doHalf_36 : decode cX8_doHalf 36 = .ok (.goto (-33), 3) := by decide +kernel
theorem dX8_doHalf_39 : decode cX8_doHalf 39 = .ok (.aload_n 0, 1) := by decide +kernel
theorem dX8_doHalf_40 : decode cX8_doHalf 40 = .ok (.getfield 36, 3) := by decide +kernel
theorem dX8_doHalf_43 : decode cX8_doHalf 43 = .ok (.aload_n 1, 1) := by decide +kernel
theorem dX8_doHalf_44 : decode cX8_doHalf 44 = .ok (.iload_n 2, 1) := by decide +kernel
theorem dX8_doHalf_45 : decode cX8_doHalf 45 = .ok (.aload_n 0, 1) := by decide +kernel
theorem dX8_doHalf_46 : decode cX8_doHalf 46 = .ok (.getfield 15, 3) := by decide +kernel
theorem dX8_doHalf_49 : decode cX8_doHalf 49 = .ok (.invokevirtual 58, 3) := by decide +kernel
theorem dX8_doHalf_52 : decode cX8_doHalf 52 = .ok (.iconst 0, 1) := by decide +kernel
theorem dX8_doHalf_53 : decode cX8_doHalf 53 = .ok (.istore 4, 2) := by decide +kernel
theorem dX8_doHalf_55 : decode cX8_doHalf 55 = .ok (.iload 4, 2) := by decide +kernel
theorem dX8_doHalf_57 : decode cX8_doHalf 57 = .ok (.iload_n 2, 1) := by decide +kernel
theorem dX8_doHalf_58 : decode cX8_doHalf 58 = .ok (.if_icmp .ge 110, 3) := by decide +kernel
theorem dX8_doHalf_61 : decode cX8_doHalf 61 = .ok (.iload_n 3, 1) := by decide +kernel
theorem dX8_doHalf_62 : decode cX8_doHalf 62 = .ok (.ifCond .eq 13, 3) := by decide +kernel
theorem dX8_doHalf_65 : decode cX8_doHalf 65 = .ok (.aload_n 1, 1) := by decide +kernel
theorem dX8_doHalf_66 : decode cX8_doHalf 66 = .ok (.iload 4, 2) := by decide +kernel
theorem dX8_doHalf_68 : decode cX8_doHalf 68 = .ok (.iload_n 2, 1) := by decide +kernel
theorem dX8_doHalf_69 : decode cX8_doHalf 69 = .ok (.invokevirtual 48, 3) := by decide +kernel
theorem dX8_doHalf_72 : decode cX8_doHalf 72 = .ok (.goto 5, 3) := by decide +kernel
theorem dX8_doHalf_75 : decode cX8_doHalf 75 = .ok (.iload 4, 2) := by decide +kernel
theorem dX8_doHalf_77 : decode cX8_doHalf 77 = .ok (.istore 5, 2) := by decide +kernel
theorem dX8_doHalf_79 : decode cX8_doHalf 79 = .ok (.aload_n 0, 1) := by decide +kernel
theorem dX8_doHalf_80 : decode cX8_doHalf 80 = .ok (.getfield 15, 3) := by decide +kernel
theorem dX8_doHalf_83 : decode cX8_doHalf 83 = .ok (.iload 4, 2) := by decide +kernel
theorem dX8_doHalf_85 : decode cX8_doHalf 85 = .ok (.iaload, 1) := by decide +kernel
theorem dX8_doHalf_86 : decode cX8_doHalf 86 = .ok (.aload_n 0, 1) := by decide +kernel
theorem dX8_doHalf_87 : decode cX8_doHalf 87 = .ok (.getfield 9, 3) := by decide +kernel
theorem dX8_doHalf_90 : decode cX8_doHalf 90 = .ok (.iload 5, 2) := by decide +kernel
theorem dX8_doHalf_92 : decode cX8_doHalf 92 = .ok (.iaload, 1) := by decide +kernel
theorem dX8_doHalf_93 : decode cX8_doHalf 93 = .ok (.isub, 1) := by decide +kernel
theorem dX8_doHalf_94 : decode cX8_doHalf 94 = .ok (.aload_n 0, 1) := by decide +kernel
theorem dX8_doHalf_95 : decode cX8_doHalf 95 = .ok (.getfield 28, 3) := by decide +kernel
theorem dX8_doHalf_98 : decode cX8_doHalf 98 = .ok (.iload 5, 2) := by decide +kernel
theorem dX8_doHalf_100 : decode cX8_doHalf 100 = .ok (.bipush 7, 2) := by decide +kernel
theorem dX8_doHalf_102 : decode cX8_doHalf 102 = .ok (.imul, 1) := by decide +kernel
theorem dX8_doHalf_103 : decode cX8_doHalf 103 = .ok (.invokevirtual 64, 3) := by decide +kernel
theorem dX8_doHalf_106 : decode cX8_doHalf 106 = .ok (.isub, 1) := by decide +kernel
theorem dX8_doHalf_107 : decode cX8_doHalf 107 = .ok (.istore 6, 2) := by decide +kernel
theorem dX8_doHalf_109 : decode cX8_doHalf 109 = .ok (.aload_n 0, 1) := by decide +kernel
theorem dX8_doHalf_110 : decode cX8_doHalf 110 = .ok (.getfield 9, 3) := by decide +kernel
theorem dX8_doHalf_113 : decode cX8_doHalf 113 = .ok (.iload 5, 2) := by decide +kernel
theorem dX8_doHalf_115 : decode cX8_doHalf 115 = .ok (.iload 6, 2) := by decide +kernel
theorem dX8_doHalf_117 : decode cX8_doHalf 117 = .ok (.sipush (-5000), 3) := by decide +kernel
theorem dX8_doHalf_120 : decode cX8_doHalf 120 = .ok (.sipush 5000, 3) := by decide +kernel
theorem dX8_doHalf_123 : decode cX8_doHalf 123 = .ok (.invokestatic 70, 3) := by decide +kernel
theorem dX8_doHalf_126 : decode cX8_doHalf 126 = .ok (.iastore, 1) := by decide +kernel
theorem dX8_doHalf_127 : decode cX8_doHalf 127 = .ok (.iload_n 3, 1) := by decide +kernel
theorem dX8_doHalf_128 : decode cX8_doHalf 128 = .ok (.ifCond .eq 20, 3) := by decide +kernel
theorem dX8_doHalf_131 : decode cX8_doHalf 131 = .ok (.aload_n 0, 1) := by decide +kernel
theorem dX8_doHalf_132 : decode cX8_doHalf 132 = .ok (.getfield 21, 3) := by decide +kernel
theorem dX8_doHalf_135 : decode cX8_doHalf 135 = .ok (.iload 5, 2) := by decide +kernel
theorem dX8_doHalf_137 : decode cX8_doHalf 137 = .ok (.aload_n 0, 1) := by decide +kernel
theorem dX8_doHalf_138 : decode cX8_doHalf 138 = .ok (.getfield 15, 3) := by decide +kernel
theorem dX8_doHalf_141 : decode cX8_doHalf 141 = .ok (.iload 4, 2) := by decide +kernel
theorem dX8_doHalf_143 : decode cX8_doHalf 143 = .ok (.iaload, 1) := by decide +kernel
theorem dX8_doHalf_144 : decode cX8_doHalf 144 = .ok (.iastore, 1) := by decide +kernel
theorem dX8_doHalf_145 : decode cX8_doHalf 145 = .ok (.goto 17, 3) := by decide +kernel
theorem dX8_doHalf_148 : decode cX8_doHalf 148 = .ok (.aload_n 0, 1) := by decide +kernel
theorem dX8_doHalf_149 : decode cX8_doHalf 149 = .ok (.getfield 18, 3) := by decide +kernel
theorem dX8_doHalf_152 : decode cX8_doHalf 152 = .ok (.iload 5, 2) := by decide +kernel
theorem dX8_doHalf_154 : decode cX8_doHalf 154 = .ok (.aload_n 0, 1) := by decide +kernel
theorem dX8_doHalf_155 : decode cX8_doHalf 155 = .ok (.getfield 15, 3) := by decide +kernel
theorem dX8_doHalf_158 : decode cX8_doHalf 158 = .ok (.iload 4, 2) := by decide +kernel
theorem dX8_doHalf_160 : decode cX8_doHalf 160 = .ok (.iaload, 1) := by decide +kernel
theorem dX8_doHalf_161 : decode cX8_doHalf 161 = .ok (.iastore, 1) := by decide +kernel
theorem dX8_doHalf_162 : decode cX8_doHalf 162 = .ok (.iinc 4 1, 3) := by decide +kernel
theorem dX8_doHalf_165 : decode cX8_doHalf 165 = .ok (.goto (-110), 3) := by decide +kernel
theorem dX8_doHalf_168 : decode cX8_doHalf 168 = .ok (.return_, 1) := by decide +kernel
theorem dX8_price_0 : decode cX8_price 0 = .ok (.iload_n 3, 1) := by decide +kernel
theorem dX8_price_1 : decode cX8_price 1 = .ok (.bipush 7, 2) := by decide +kernel
theorem dX8_price_3 : decode cX8_price 3 = .ok (.imul, 1) := by decide +kernel
theorem dX8_price_4 : decode cX8_price 4 = .ok (.istore 5, 2) := by decide +kernel
theorem dX8_price_6 : decode cX8_price 6 = .ok (.aload_n 0, 1) := by decide +kernel
theorem dX8_price_7 : decode cX8_price 7 = .ok (.getfield 28, 3) := by decide +kernel
theorem dX8_price_10 : decode cX8_price 10 = .ok (.getfield 74, 3) := by decide +kernel
theorem dX8_price_13 : decode cX8_price 13 = .ok (.iload 5, 2) := by decide +kernel
theorem dX8_price_15 : decode cX8_price 15 = .ok (.iaload, 1) := by decide +kernel
theorem dX8_price_16 : decode cX8_price 16 = .ok (.iconst 0, 1) := by decide +kernel
theorem dX8_price_17 : decode cX8_price 17 = .ok (.aload_n 0, 1) := by decide +kernel
theorem dX8_price_18 : decode cX8_price 18 = .ok (.getfield 9, 3) := by decide +kernel
theorem dX8_price_21 : decode cX8_price 21 = .ok (.iload_n 3, 1) := by decide +kernel
theorem dX8_price_22 : decode cX8_price 22 = .ok (.iaload, 1) := by decide +kernel
theorem dX8_price_23 : decode cX8_price 23 = .ok (.ineg, 1) := by decide +kernel
theorem dX8_price_24 : decode cX8_price 24 = .ok (.invokestatic 77, 3) := by decide +kernel
theorem dX8_price_27 : decode cX8_price 27 = .ok (.iadd, 1) := by decide +kernel
theorem dX8_price_28 : decode cX8_price 28 = .ok (.istore 6, 2) := by decide +kernel
theorem dX8_price_30 : decode cX8_price 30 = .ok (.aload_n 0, 1) := by decide +kernel
theorem dX8_price_31 : decode cX8_price 31 = .ok (.getfield 28, 3) := by decide +kernel
theorem dX8_price_34 : decode cX8_price 34 = .ok (.getfield 82, 3) := by decide +kernel
theorem dX8_price_37 : decode cX8_price 37 = .ok (.iload 5, 2) := by decide +kernel
theorem dX8_price_39 : decode cX8_price 39 = .ok (.iaload, 1) := by decide +kernel
theorem dX8_price_40 : decode cX8_price 40 = .ok (.iconst 0, 1) := by decide +kernel
theorem dX8_price_41 : decode cX8_price 41 = .ok (.aload_n 0, 1) := by decide +kernel
theorem dX8_price_42 : decode cX8_price 42 = .ok (.getfield 9, 3) := by decide +kernel
theorem dX8_price_45 : decode cX8_price 45 = .ok (.iload_n 3, 1) := by decide +kernel
theorem dX8_price_46 : decode cX8_price 46 = .ok (.iaload, 1) := by decide +kernel
theorem dX8_price_47 : decode cX8_price 47 = .ok (.invokestatic 77, 3) := by decide +kernel
theorem dX8_price_50 : decode cX8_price 50 = .ok (.iadd, 1) := by decide +kernel
theorem dX8_price_51 : decode cX8_price 51 = .ok (.istore 7, 2) := by decide +kernel
theorem dX8_price_53 : decode cX8_price 53 = .ok (.aload_n 0, 1) := by decide +kernel
theorem dX8_price_54 : decode cX8_price 54 = .ok (.getfield 32, 3) := by decide +kernel
theorem dX8_price_57 : decode cX8_price 57 = .ok (.iload_n 2, 1) := by decide +kernel
theorem dX8_price_58 : decode cX8_price 58 = .ok (.invokevirtual 85, 3) := by decide +kernel
theorem dX8_price_61 : decode cX8_price 61 = .ok (.aload_n 0, 1) := by decide +kernel
theorem dX8_price_62 : decode cX8_price 62 = .ok (.getfield 32, 3) := by decide +kernel
theorem dX8_price_65 : decode cX8_price 65 = .ok (.iload_n 2, 1) := by decide +kernel
theorem dX8_price_66 : decode cX8_price 66 = .ok (.iconst 0, 1) := by decide +kernel
theorem dX8_price_67 : decode cX8_price 67 = .ok (.iload 6, 2) := by decide +kernel
theorem dX8_price_69 : decode cX8_price 69 = .ok (.iload 7, 2) := by decide +kernel
theorem dX8_price_71 : decode cX8_price 71 = .ok (.invokevirtual 91, 3) := by decide +kernel
theorem dX8_price_74 : decode cX8_price 74 = .ok (.iconst 1, 1) := by decide +kernel
theorem dX8_price_75 : decode cX8_price 75 = .ok (.istore 8, 2) := by decide +kernel
theorem dX8_price_77 : decode cX8_price 77 = .ok (.iload 8, 2) := by decide +kernel
theorem dX8_price_79 : decode cX8_price 79 = .ok (.aload_n 1, 1) := by decide +kernel
theorem dX8_price_80 : decode cX8_price 80 = .ok (.getfield 95, 3) := by decide +kernel
theorem dX8_price_83 : decode cX8_price 83 = .ok (.if_icmp .ge 64, 3) := by decide +kernel
theorem dX8_price_86 : decode cX8_price 86 = .ok (.iload_n 2, 1) := by decide +kernel
theorem dX8_price_87 : decode cX8_price 87 = .ok (.bipush 7, 2) := by decide +kernel
theorem dX8_price_89 : decode cX8_price 89 = .ok (.imul, 1) := by decide +kernel
theorem dX8_price_90 : decode cX8_price 90 = .ok (.iload 8, 2) := by decide +kernel
theorem dX8_price_92 : decode cX8_price 92 = .ok (.iadd, 1) := by decide +kernel
theorem dX8_price_93 : decode cX8_price 93 = .ok (.iload 4, 2) := by decide +kernel
theorem dX8_price_95 : decode cX8_price 95 = .ok (.ifCond .eq 12, 3) := by decide +kernel
theorem dX8_price_98 : decode cX8_price 98 = .ok (.aload_n 1, 1) := by decide +kernel
theorem dX8_price_99 : decode cX8_price 99 = .ok (.getfield 95, 3) := by decide +kernel
theorem dX8_price_102 : decode cX8_price 102 = .ok (.iconst 1, 1) := by decide +kernel
theorem dX8_price_103 : decode cX8_price 103 = .ok (.isub, 1) := by decide +kernel
theorem dX8_price_104 : decode cX8_price 104 = .ok (.goto 4, 3) := by decide +kernel
theorem dX8_price_107 : decode cX8_price 107 = .ok (.iconst 0, 1) := by decide +kernel
theorem dX8_price_108 : decode cX8_price 108 = .ok (.iadd, 1) := by decide +kernel
theorem dX8_price_109 : decode cX8_price 109 = .ok (.istore 9, 2) := by decide +kernel
theorem dX8_price_111 : decode cX8_price 111 = .ok (.aload_n 0, 1) := by decide +kernel
theorem dX8_price_112 : decode cX8_price 112 = .ok (.getfield 32, 3) := by decide +kernel
theorem dX8_price_115 : decode cX8_price 115 = .ok (.iload_n 2, 1) := by decide +kernel
theorem dX8_price_116 : decode cX8_price 116 = .ok (.iload 8, 2) := by decide +kernel
theorem dX8_price_118 : decode cX8_price 118 = .ok (.aload_n 0, 1) := by decide +kernel
theorem dX8_price_119 : decode cX8_price 119 = .ok (.getfield 28, 3) := by decide +kernel
theorem dX8_price_122 : decode cX8_price 122 = .ok (.getfield 74, 3) := by decide +kernel
theorem dX8_price_125 : decode cX8_price 125 = .ok (.iload 9, 2) := by decide +kernel
theorem dX8_price_127 : decode cX8_price 127 = .ok (.iaload, 1) := by decide +kernel
theorem dX8_price_128 : decode cX8_price 128 = .ok (.aload_n 0, 1) := by decide +kernel
theorem dX8_price_129 : decode cX8_price 129 = .ok (.getfield 28, 3) := by decide +kernel
theorem dX8_price_132 : decode cX8_price 132 = .ok (.getfield 82, 3) := by decide +kernel
theorem dX8_price_135 : decode cX8_price 135 = .ok (.iload 9, 2) := by decide +kernel
theorem dX8_price_137 : decode cX8_price 137 = .ok (.iaload, 1) := by decide +kernel
theorem dX8_price_138 : decode cX8_price 138 = .ok (.invokevirtual 91, 3) := by decide +kernel
theorem dX8_price_141 : decode cX8_price 141 = .ok (.iinc 8 1, 3) := by decide +kernel
theorem dX8_price_144 : decode cX8_price 144 = .ok (.goto (-67), 3) := by decide +kernel
theorem dX8_price_147 : decode cX8_price 147 = .ok (.return_, 1) := by decide +kernel
theorem dX9_init_0 : decode cX9_init 0 = .ok (.aload_n 0, 1) := by decide +kernel
theorem dX9_init_1 : decode cX9_init 1 = .ok (.invokespecial 3, 3) := by decide +kernel
theorem dX9_init_4 : decode cX9_init 4 = .ok (.aload_n 0, 1) := by decide +kernel
theorem dX9_init_5 : decode cX9_init 5 = .ok (.iconst 0, 1) := by decide +kernel
theorem dX9_init_6 : decode cX9_init 6 = .ok (.putfield 9, 3) := by decide +kernel
theorem dX9_init_9 : decode cX9_init 9 = .ok (.aload_n 0, 1) := by decide +kernel
theorem dX9_init_10 : decode cX9_init 10 = .ok (.iconst 0, 1) := by decide +kernel
theorem dX9_init_11 : decode cX9_init 11 = .ok (.putfield 15, 3) := by decide +kernel
theorem dX9_init_14 : decode cX9_init 14 = .ok (.aload_n 0, 1) := by decide +kernel
theorem dX9_init_15 : decode cX9_init 15 = .ok (.iconst 0, 1) := by decide +kernel
theorem dX9_init_16 : decode cX9_init 16 = .ok (.putfield 18, 3) := by decide +kernel
theorem dX9_init_19 : decode cX9_init 19 = .ok (.aload_n 0, 1) := by decide +kernel
theorem dX9_init_20 : decode cX9_init 20 = .ok (.sipush 200, 3) := by decide +kernel
theorem dX9_init_23 : decode cX9_init 23 = .ok (.newarray .byte, 2) := by decide +kernel
theorem dX9_init_25 : decode cX9_init 25 = .ok (.putfield 21, 3) := by decide +kernel
theorem dX9_init_28 : decode cX9_init 28 = .ok (.return_, 1) := by decide +kernel
theorem dX9_begin_0 : decode cX9_begin 0 = .ok (.aload_n 0, 1) := by decide +kernel
theorem dX9_begin_1 : decode cX9_begin 1 = .ok (.iload_n 1, 1) := by decide +kernel
theorem dX9_begin_2 : decode cX9_begin 2 = .ok (.putfield 9, 3) := by decide +kernel
theorem dX9_begin_5 : decode cX9_begin 5 = .ok (.aload_n 0, 1) := by decide +kernel
theorem dX9_begin_6 : decode cX9_begin 6 = .ok (.iload_n 2, 1) := by decide +kernel
theorem dX9_begin_7 : decode cX9_begin 7 = .ok (.putfield 15, 3) := by decide +kernel
theorem dX9_begin_10 : decode cX9_begin 10 = .ok (.aload_n 0, 1) := by decide +kernel
theorem dX9_begin_11 : decode cX9_begin 11 = .ok (.iload_n 3, 1) := by decide +kernel
theorem dX9_begin_12 : decode cX9_begin 12 = .ok (.putfield 18, 3) := by decide +kernel
theorem dX9_begin_15 : decode cX9_begin 15 = .ok (.return_, 1) := by decide +kernel
theorem dX9_isAheadOf_0 : decode cX9_isAheadOf 0 = .ok (.aload_n 0, 1) := by decide +kernel
theorem dX9_isAheadOf_1 : decode cX9_isAheadOf 1 = .ok (.getfield 9, 3) := by decide +kernel
theorem dX9_isAheadOf_4 : decode cX9_isAheadOf 4 = .ok (.aload_n 1, 1) := by decide +kernel
theorem dX9_isAheadOf_5 : decode cX9_isAheadOf 5 = .ok (.getfield 9, 3) := by decide +kernel
theorem dX9_isAheadOf_8 : decode cX9_isAheadOf 8 = .ok (.if_icmp .eq 20, 3) := by decide +kernel
theorem dX9_isAheadOf_11 : decode cX9_isAheadOf 11 = .ok (.aload_n 0, 1) := by decide +kernel
theorem dX9_isAheadOf_12 : decode cX9_isAheadOf 12 = .ok (.getfield 9, 3) := by decide +kernel
theorem dX9_isAheadOf_15 : decode cX9_isAheadOf 15 = .ok (.aload_n 1, 1) := by decide +kernel
theorem dX9_isAheadOf_16 : decode cX9_isAheadOf 16 = .ok (.getfield 9, 3) := by decide +kernel
theorem dX9_isAheadOf_19 : decode cX9_isAheadOf 19 = .ok (.if_icmp .ge 7, 3) := by decide +kernel
theorem dX9_isAheadOf_22 : decode cX9_isAheadOf 22 = .ok (.iconst 1, 1) := by decide +kernel
theorem dX9_isAheadOf_23 : decode cX9_isAheadOf 23 = .ok (.goto 4, 3) := by decide +kernel
theorem dX9_isAheadOf_26 : decode cX9_isAheadOf 26 = .ok (.iconst 0, 1) := by decide +kernel
theorem dX9_isAheadOf_27 : decode cX9_isAheadOf 27 = .ok (.ireturn, 1) := by decide +kernel
theorem dX9_isAheadOf_28 : decode cX9_isAheadOf 28 = .ok (.iconst 0, 1) := by decide +kernel
theorem dX9_isAheadOf_29 : decode cX9_isAheadOf 29 = .ok (.istore_n 2, 1) := by decide +kernel
theorem dX9_isAheadOf_30 : decode cX9_isAheadOf 30 = .ok (.iload_n 2, 1) := by decide +kernel
theorem dX9_isAheadOf_31 : decode cX9_isAheadOf 31 = .ok (.aload_n 0, 1) := by decide +kernel
theorem dX9_isAheadOf_32 : decode cX9_isAheadOf 32 = .ok (.getfield 18, 3) := by decide +kernel
theorem dX9_isAheadOf_35 : decode cX9_isAheadOf 35 = .ok (.if_icmp .ge 45, 3) := by decide +kernel
theorem dX9_isAheadOf_38 : decode cX9_isAheadOf 38 = .ok (.aload_n 0, 1) := by decide +kernel
theorem dX9_isAheadOf_39 : decode cX9_isAheadOf 39 = .ok (.getfield 21, 3) := by decide +kernel
theorem dX9_isAheadOf_42 : decode cX9_isAheadOf 42 = .ok (.iload_n 2, 1) := by decide +kernel
theorem dX9_isAheadOf_43 : decode cX9_isAheadOf 43 = .ok (.baload, 1) := by decide +kernel
theorem dX9_isAheadOf_44 : decode cX9_isAheadOf 44 = .ok (.aload_n 1, 1) := by decide +kernel
theorem dX9_isAheadOf_45 : decode cX9_isAheadOf 45 = .ok (.getfield 21, 3) := by decide +kernel
theorem dX9_isAheadOf_48 : decode cX9_isAheadOf 48 = .ok (.iload_n 2, 1) := by decide +kernel
theorem dX9_isAheadOf_49 : decode cX9_isAheadOf 49 = .ok (.baload, 1) := by decide +kernel
theorem dX9_isAheadOf_50 : decode cX9_isAheadOf 50 = .ok (.if_icmp .eq 24, 3) := by decide +kernel
theorem dX9_isAheadOf_53 : decode cX9_isAheadOf 53 = .ok (.aload_n 0, 1) := by decide +kernel
theorem dX9_isAheadOf_54 : decode cX9_isAheadOf 54 = .ok (.getfield 21, 3) := by decide +kernel
theorem dX9_isAheadOf_57 : decode cX9_isAheadOf 57 = .ok (.iload_n 2, 1) := by decide +kernel
theorem dX9_isAheadOf_58 : decode cX9_isAheadOf 58 = .ok (.baload, 1) := by decide +kernel
theorem dX9_isAheadOf_59 : decode cX9_isAheadOf 59 = .ok (.aload_n 1, 1) := by decide +kernel
theorem dX9_isAheadOf_60 : decode cX9_isAheadOf 60 = .ok (.getfield 21, 3) := by decide +kernel
theorem dX9_isAheadOf_63 : decode cX9_isAheadOf 63 = .ok (.iload_n 2, 1) := by decide +kernel
theorem dX9_isAheadOf_64 : decode cX9_isAheadOf 64 = .ok (.baload, 1) := by decide +kernel
theorem dX9_isAheadOf_65 : decode cX9_isAheadOf 65 = .ok (.if_icmp .ge 7, 3) := by decide +kernel
theorem dX9_isAheadOf_68 : decode cX9_isAheadOf 68 = .ok (.iconst 1, 1) := by decide +kernel
theorem dX9_isAheadOf_69 : decode cX9_isAheadOf 69 = .ok (.goto 4, 3) := by decide +kernel
theorem dX9_isAheadOf_72 : decode cX9_isAheadOf 72 = .ok (.iconst 0, 1) := by decide +kernel
theorem dX9_isAheadOf_73 : decode cX9_isAheadOf 73 = .ok (.ireturn, 1) := by decide +kernel
theorem dX9_isAheadOf_74 : decode cX9_isAheadOf 74 = .ok (.iinc 2 1, 3) := by decide +kernel
theorem dX9_isAheadOf_77 : decode cX9_isAheadOf 77 = .ok (.goto (-47), 3) := by decide +kernel
theorem dX9_isAheadOf_80 : decode cX9_isAheadOf 80 = .ok (.aload_n 0, 1) := by decide +kernel
theorem dX9_isAheadOf_81 : decode cX9_isAheadOf 81 = .ok (.getfield 15, 3) := by decide +kernel
theorem dX9_isAheadOf_84 : decode cX9_isAheadOf 84 = .ok (.aload_n 1, 1) := by decide +kernel
theorem dX9_isAheadOf_85 : decode cX9_isAheadOf 85 = .ok (.getfield 15, 3) := by decide +kernel
theorem dX9_isAheadOf_88 : decode cX9_isAheadOf 88 = .ok (.if_icmp .ge 7, 3) := by decide +kernel
theorem dX9_isAheadOf_91 : decode cX9_isAheadOf 91 = .ok (.iconst 1, 1) := by decide +kernel
theorem dX9_isAheadOf_92 : decode cX9_isAheadOf 92 = .ok (.goto 4, 3) := by decide +kernel
theorem dX9_isAheadOf_95 : decode cX9_isAheadOf 95 = .ok (.iconst 0, 1) := by decide +kernel
theorem dX9_isAheadOf_96 : decode cX9_isAheadOf 96 = .ok (.ireturn, 1) := by decide +kernel
