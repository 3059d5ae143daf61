theorem dX5_init_7 : decode cX5_init 7 = .ok (.newarray .int, 2) := by decide +kernel
theorem dX5_init_9 : decode cX5_init 9 = .ok (.putfield 7, 3) := by decide +kernel
theorem dX5_init_12 : decode cX5_init 12 = .ok (.aload_n 0, 1) := by decide +kernel
theorem dX5_init_13 : decode cX5_init 13 = .ok (.iconst 4, 1) := by decide +kernel
theorem dX5_init_14 : decode cX5_init 14 = .ok (.newarray .int, 2) := by decide +kernel
theorem dX5_init_16 : decode cX5_init 16 = .ok (.putfield 13, 3) := by decide +kernel
theorem dX5_init_19 : decode cX5_init 19 = .ok (.aload_n 0, 1) := by decide +kernel
theorem dX5_init_20 : decode cX5_init 20 = .ok (.bipush 48, 2) := by decide +kernel
theorem dX5_init_22 : decode cX5_init 22 = .ok (.newarray .int, 2) := by decide +kernel
theorem dX5_init_24 : decode cX5_init 24 = .ok (.putfield 16, 3) := by decide +kernel
theorem dX5_init_27 : decode cX5_init 27 = .ok (.aload_n 0, 1) := by decide +kernel
theorem dX5_init_28 : decode cX5_init 28 = .ok (.bipush 6, 2) := by decide +kernel
theorem dX5_init_30 : decode cX5_init 30 = .ok (.newarray .int, 2) := by decide +kernel
theorem dX5_init_32 : decode cX5_init 32 = .ok (.putfield 19, 3) := by decide +kernel
theorem dX5_init_35 : decode cX5_init 35 = .ok (.aload_n 0, 1) := by decide +kernel
theorem dX5_init_36 : decode cX5_init 36 = .ok (.bipush 6, 2) := by decide +kernel
theorem dX5_init_38 : decode cX5_init 38 = .ok (.newarray .int, 2) := by decide +kernel
theorem dX5_init_40 : decode cX5_init 40 = .ok (.putfield 22, 3) := by decide +kernel
theorem dX5_init_43 : decode cX5_init 43 = .ok (.aload_n 0, 1) := by decide +kernel
theorem dX5_init_44 : decode cX5_init 44 = .ok (.bipush 24, 2) := by decide +kernel
theorem dX5_init_46 : decode cX5_init 46 = .ok (.newarray .int, 2) := by decide +kernel
theorem dX5_init_48 : decode cX5_init 48 = .ok (.putfield 25, 3) := by decide +kernel
theorem dX5_init_51 : decode cX5_init 51 = .ok (.aload_n 0, 1) := by decide +kernel
theorem dX5_init_52 : decode cX5_init 52 = .ok (.bipush 96, 2) := by decide +kernel
theorem dX5_init_54 : decode cX5_init 54 = .ok (.newarray .int, 2) := by decide +kernel
theorem dX5_init_56 : decode cX5_init 56 = .ok (.putfield 28, 3) := by decide +kernel
theorem dX5_init_59 : decode cX5_init 59 = .ok (.aload_n 0, 1) := by decide +kernel
theorem dX5_init_60 : decode cX5_init 60 = .ok (.bipush 48, 2) := by decide +kernel
theorem dX5_init_62 : decode cX5_init 62 = .ok (.newarray .int, 2) := by decide +kernel
theorem dX5_init_64 : decode cX5_init 64 = .ok (.putfield 31, 3) := by decide +kernel
theorem dX5_init_67 : decode cX5_init 67 = .ok (.aload_n 0, 1) := by decide +kernel
theorem dX5_init_68 : decode cX5_init 68 = .ok (.bipush 48, 2) := by decide +kernel
theorem dX5_init_70 : decode cX5_init 70 = .ok (.newarray .int, 2) := by decide +kernel
theorem dX5_init_72 : decode cX5_init 72 = .ok (.putfield 34, 3) := by decide +kernel
theorem dX5_init_75 : decode cX5_init 75 = .ok (.aload_n 0, 1) := by decide +kernel
theorem dX5_init_76 : decode cX5_init 76 = .ok (.sipush 144, 3) := by decide +kernel
theorem dX5_init_79 : decode cX5_init 79 = .ok (.newarray .int, 2) := by decide +kernel
theorem dX5_init_81 : decode cX5_init 81 = .ok (.putfield 37, 3) := by decide +kernel
theorem dX5_init_84 : decode cX5_init 84 = .ok (.aload_n 0, 1) := by decide +kernel
theorem dX5_init_85 : decode cX5_init 85 = .ok (.sipush 200, 3) := by decide +kernel
theorem dX5_init_88 : decode cX5_init 88 = .ok (.newarray .int, 2) := by decide +kernel
theorem dX5_init_90 : decode cX5_init 90 = .ok (.putfield 40, 3) := by decide +kernel
theorem dX5_init_93 : decode cX5_init 93 = .ok (.aload_n 0, 1) := by decide +kernel
theorem dX5_init_94 : decode cX5_init 94 = .ok (.bipush 24, 2) := by decide +kernel
theorem dX5_init_96 : decode cX5_init 96 = .ok (.newarray .long, 2) := by decide +kernel
theorem dX5_init_98 : decode cX5_init 98 = .ok (.putfield 43, 3) := by decide +kernel
theorem dX5_init_101 : decode cX5_init 101 = .ok (.aload_n 0, 1) := by decide +kernel
theorem dX5_init_102 : decode cX5_init 102 = .ok (.bipush 8, 2) := by decide +kernel
theorem dX5_init_104 : decode cX5_init 104 = .ok (.newarray .int, 2) := by decide +kernel
theorem dX5_init_106 : decode cX5_init 106 = .ok (.putfield 47, 3) := by decide +kernel
theorem dX5_init_109 : decode cX5_init 109 = .ok (.aload_n 0, 1) := by decide +kernel
theorem dX5_init_110 : decode cX5_init 110 = .ok (.getfield 13, 3) := by decide +kernel
theorem dX5_init_113 : decode cX5_init 113 = .ok (.iconst 0, 1) := by decide +kernel
theorem dX5_init_114 : decode cX5_init 114 = .ok (.bipush 16, 2) := by decide +kernel
theorem dX5_init_116 : decode cX5_init 116 = .ok (.iastore, 1) := by decide +kernel
theorem dX5_init_117 : decode cX5_init 117 = .ok (.aload_n 0, 1) := by decide +kernel
theorem dX5_init_118 : decode cX5_init 118 = .ok (.getfield 13, 3) := by decide +kernel
theorem dX5_init_121 : decode cX5_init 121 = .ok (.iconst 1, 1) := by decide +kernel
theorem dX5_init_122 : decode cX5_init 122 = .ok (.iconst 2, 1) := by decide +kernel
theorem dX5_init_123 : decode cX5_init 123 = .ok (.iastore, 1) := by decide +kernel
theorem dX5_init_124 : decode cX5_init 124 = .ok (.aload_n 0, 1) := by decide +kernel
theorem dX5_init_125 : decode cX5_init 125 = .ok (.getfield 13, 3) := by decide +kernel
theorem dX5_init_128 : decode cX5_init 128 = .ok (.iconst 2, 1) := by decide +kernel
theorem dX5_init_129 : decode cX5_init 129 = .ok (.bipush 20, 2) := by decide +kernel
theorem dX5_init_131 : decode cX5_init 131 = .ok (.iastore, 1) := by decide +kernel
theorem dX5_init_132 : decode cX5_init 132 = .ok (.aload_n 0, 1) := by decide +kernel
theorem dX5_init_133 : decode cX5_init 133 = .ok (.invokevirtual 50, 3) := by decide +kernel
theorem dX5_init_136 : decode cX5_init 136 = .ok (.return_, 1) := by decide +kernel
theorem dX5_no_0 : decode cX5_no 0 = .ok (.aload_n 0, 1) := by decide +kernel
theorem dX5_no_1 : decode cX5_no 1 = .ok (.getfield 7, 3) := by decide +kernel
theorem dX5_no_4 : decode cX5_no 4 = .ok (.iload_n 1, 1) := by decide +kernel
theorem dX5_no_5 : decode cX5_no 5 = .ok (.ineg, 1) := by decide +kernel
theorem dX5_no_6 : decode cX5_no 6 = .ok (.dup2, 1) := by decide +kernel
theorem dX5_no_7 : decode cX5_no 7 = .ok (.iaload, 1) := by decide +kernel
theorem dX5_no_8 : decode cX5_no 8 = .ok (.iconst 1, 1) := by decide +kernel
theorem dX5_no_9 : decode cX5_no 9 = .ok (.iadd, 1) := by decide +kernel
theorem dX5_no_10 : decode cX5_no 10 = .ok (.iastore, 1) := by decide +kernel
theorem dX5_no_11 : decode cX5_no 11 = .ok (.iload_n 1, 1) := by decide +kernel
theorem dX5_no_12 : decode cX5_no 12 = .ok (.ireturn, 1) := by decide +kernel
theorem dX5_lowest_0 : decode cX5_lowest 0 = .ok (.aload_n 0, 1) := by decide +kernel
theorem dX5_lowest_1 : decode cX5_lowest 1 = .ok (.getfield 7, 3) := by decide +kernel
theorem dX5_lowest_4 : decode cX5_lowest 4 = .ok (.iload_n 1, 1) := by decide +kernel
theorem dX5_lowest_5 : decode cX5_lowest 5 = .ok (.ineg, 1) := by decide +kernel
theorem dX5_lowest_6 : decode cX5_lowest 6 = .ok (.dup2, 1) := by decide +kernel
theorem dX5_lowest_7 : decode cX5_lowest 7 = .ok (.iaload, 1) := by decide +kernel
theorem dX5_lowest_8 : decode cX5_lowest 8 = .ok (.iconst 1, 1) := by decide +kernel
theorem dX5_lowest_9 : decode cX5_lowest 9 = .ok (.iadd, 1) := by decide +kernel
theorem dX5_lowest_10 : decode cX5_lowest 10 = .ok (.iastore, 1) := by decide +kernel
theorem dX5_lowest_11 : decode cX5_lowest 11 = .ok (.ldc2_w 53, 3) := by decide +kernel
theorem dX5_lowest_14 : decode cX5_lowest 14 = .ok (.iload_n 1, 1) := by decide +kernel
theorem dX5_lowest_15 : decode cX5_lowest 15 = .ok (.i2l, 1) := by decide +kernel
theorem dX5_lowest_16 : decode cX5_lowest 16 = .ok (.lsub, 1) := by decide +kernel
theorem dX5_lowest_17 : decode cX5_lowest 17 = .ok (.lreturn, 1) := by decide +kernel
theorem dX5_isIn_0 : decode cX5_isIn 0 = .ok (.iload_n 0, 1) := by decide +kernel
theorem dX5_isIn_1 : decode cX5_isIn 1 = .ok (.iload_n 1, 1) := by decide +kernel
theorem dX5_isIn_2 : decode cX5_isIn 2 = .ok (.if_icmp .lt 12, 3) := by decide +kernel
theorem dX5_isIn_5 : decode cX5_isIn 5 = .ok (.iload_n 0, 1) := by decide +kernel
theorem dX5_isIn_6 : decode cX5_isIn 6 = .ok (.iload_n 2, 1) := by decide +kernel
theorem dX5_isIn_7 : decode cX5_isIn 7 = .ok (.if_icmp .gt 7, 3) := by decide +kernel
theorem dX5_isIn_10 : decode cX5_isIn 10 = .ok (.iconst 1, 1) := by decide +kernel
theorem dX5_isIn_11 : decode cX5_isIn 11 = .ok (.goto 4, 3) := by decide +kernel
theorem dX5_isIn_14 : decode cX5_isIn 14 = .ok (.iconst 0, 1) := by decide +kernel
theorem dX5_isIn_15 : decode cX5_isIn 15 = .ok (.ireturn, 1) := by decide +kernel
theorem dX5_bound_0 : decode cX5_bound 0 = .ok (.iload_n 0, 1) := by decide +kernel
theorem dX5_bound_1 : decode cX5_bound 1 = .ok (.iload_n 1, 1) := by decide +kernel
theorem dX5_bound_2 : decode cX5_bound 2 = .ok (.if_icmp .ge 8, 3) := by decide +kernel
theorem dX5_bound_5 : decode cX5_bound 5 = .ok (.bipush (-4), 2) := by decide +kernel
theorem dX5_bound_7 : decode cX5_bound 7 = .ok (.goto 14, 3) := by decide +kernel
theorem dX5_bound_10 : decode cX5_bound 10 = .ok (.iload_n 0, 1) := by decide +kernel
theorem dX5_bound_11 : decode cX5_bound 11 = .ok (.iload_n 2, 1) := by decide +kernel
theorem dX5_bound_12 : decode cX5_bound 12 = .ok (.if_icmp .le 8, 3) := by decide +kernel
theorem dX5_bound_15 : decode cX5_bound 15 = .ok (.bipush (-6), 2) := by decide +kernel
theorem dX5_bound_17 : decode cX5_bound 17 = .ok (.goto 4, 3) := by decide +kernel
theorem dX5_bound_20 : decode cX5_bound 20 = .ok (.iconst 0, 1) := by decide +kernel
theorem dX5_bound_21 : decode cX5_bound 21 = .ok (.ireturn, 1) := by decide +kernel
theorem dX5_isInch_0 : decode cX5_isInch 0 = .ok (.iload_n 0, 1) := by decide +kernel
theorem dX5_isInch_1 : decode cX5_isInch 1 = .ok (.ifCond .lt 13, 3) := by decide +kernel
theorem dX5_isInch_4 : decode cX5_isInch 4 = .ok (.iload_n 0, 1) := by decide +kernel
theorem dX5_isInch_5 : decode cX5_isInch 5 = .ok (.bipush 48, 2) := by decide +kernel
theorem dX5_isInch_7 : decode cX5_isInch 7 = .ok (.if_icmp .ge 7, 3) := by decide +kernel
theorem dX5_isInch_10 : decode cX5_isInch 10 = .ok (.iconst 1, 1) := by decide +kernel
theorem dX5_isInch_11 : decode cX5_isInch 11 = .ok (.goto 4, 3) := by decide +kernel
theorem dX5_isInch_14 : decode cX5_isInch 14 = .ok (.iconst 0, 1) := by decide +kernel
theorem dX5_isInch_15 : decode cX5_isInch 15 = .ok (.ireturn, 1) := by decide +kernel
theorem dX5_modulo_0 : decode cX5_modulo 0 = .ok (.iload_n 0, 1) := by decide +kernel
theorem dX5_modulo_1 : decode cX5_modulo 1 = .ok (.iload_n 1, 1) := by decide +kernel
theorem dX5_modulo_2 : decode cX5_modulo 2 = .ok (.irem, 1) := by decide +kernel
theorem dX5_modulo_3 : decode cX5_modulo 3 = .ok (.istore_n 2, 1) := by decide +kernel
theorem dX5_modulo_4 : decode cX5_modulo 4 = .ok (.iload_n 2, 1) := by decide +kernel
theorem dX5_modulo_5 : decode cX5_modulo 5 = .ok (.ifCond .ge 9, 3) := by decide +kernel
theorem dX5_modulo_8 : decode cX5_modulo 8 = .ok (.iload_n 2, 1) := by decide +kernel
theorem dX5_modulo_9 : decode cX5_modulo 9 = .ok (.iload_n 1, 1) := by decide +kernel
theorem dX5_modulo_10 : decode cX5_modulo 10 = .ok (.iadd, 1) := by decide +kernel
theorem dX5_modulo_11 : decode cX5_modulo 11 = .ok (.goto 4, 3) := by decide +kernel
theorem dX5_modulo_14 : decode cX5_modulo 14 = .ok (.iload_n 2, 1) := by decide +kernel
theorem dX5_modulo_15 : decode cX5_modulo 15 = .ok (.ireturn, 1) := by decide +kernel
theorem dX5_alike_0 : decode cX5_alike 0 = .ok (.iconst 0, 1) := by decide +kernel
theorem dX5_alike_1 : decode cX5_alike 1 = .ok (.istore_n 1, 1) := by decide +kernel
theorem dX5_alike_2 : decode cX5_alike 2 = .ok (.iload_n 1, 1) := by decide +kernel
theorem dX5_alike_3 : decode cX5_alike 3 = .ok (.bipush 24, 2) := by decide +kernel
theorem dX5_alike_5 : decode cX5_alike 5 = .ok (.if_icmp .ge 16, 3) := by decide +kernel
theorem dX5_alike_8 : decode cX5_alike 8 = .ok (.aload_n 0, 1) := by decide +kernel
theorem dX5_alike_9 : decode cX5_alike 9 = .ok (.getfield 25, 3) := by decide +kernel
theorem dX5_alike_12 : decode cX5_alike 12 = .ok (.iload_n 1, 1) := by decide +kernel
theorem dX5_alike_13 : decode cX5_alike 13 = .ok (.iconst 1, 1) := by decide +kernel
theorem dX5_alike_14 : decode cX5_alike 14 = .ok (.iastore, 1) := by decide +kernel
theorem dX5_alike_15 : decode cX5_alike 15 = .ok (.iinc 1 1, 3) := by decide +kernel
theorem dX5_alike_18 : decode cX5_alike 18 = .ok (.goto (-16), 3) := by decide +kernel
theorem dX5_alike_21 : decode cX5_alike 21 = .ok (.aload_n 0, 1) := by decide +kernel
theorem dX5_alike_22 : decode cX5_alike 22 = .ok (.iconst 0, 1) := by decide +kernel
theorem dX5_alike_23 : decode cX5_alike 23 = .ok (.putfield 55, 3) := by decide +kernel
theorem dX5_alike_26 : decode cX5_alike 26 = .ok (.return_, 1) := by decide +kernel
theorem dX5_letter_0 : decode cX5_letter 0 = .ok (.iload_n 1, 1) := by decide +kernel
theorem dX5_letter_1 : decode cX5_letter 1 = .ok (.iconst 0, 1) := by decide +kernel
theorem dX5_letter_2 : decode cX5_letter 2 = .ok (.sipush 255, 3) := by decide +kernel
theorem dX5_letter_5 : decode cX5_letter 5 = .ok (.invokestatic 59, 3) := by decide +kernel
theorem dX5_letter_8 : decode cX5_letter 8 = .ok (.istore_n 2, 1) := by decide +kernel
theorem dX5_letter_9 : decode cX5_letter 9 = .ok (.iload_n 2, 1) := by decide +kernel
theorem dX5_letter_10 : decode cX5_letter 10 = .ok (.ifCond .ne 15, 3) := by decide +kernel
theorem dX5_letter_13 : decode cX5_letter 13 = .ok (.aload_n 0, 1) := by decide +kernel
theorem dX5_letter_14 : decode cX5_letter 14 = .ok (.getfield 63, 3) := by decide +kernel
theorem dX5_letter_17 : decode cX5_letter 17 = .ok (.bipush 96, 2) := by decide +kernel
theorem dX5_letter_19 : decode cX5_letter 19 = .ok (.if_icmp .ne 6, 3) := by decide +kernel
theorem dX5_letter_22 : decode cX5_letter 22 = .ok (.bipush (-6), 2) := by decide +kernel
theorem dX5_letter_24 : decode cX5_letter 24 = .ok (.istore_n 2, 1) := by decide +kernel
theorem dX5_letter_25 : decode cX5_letter 25 = .ok (.iload_n 2, 1) := by decide +kernel
theorem dX5_letter_26 : decode cX5_letter 26 = .ok (.ifCond .eq 9, 3) := by decide +kernel
theorem dX5_letter_29 : decode cX5_letter 29 = .ok (.aload_n 0, 1) := by decide +kernel
theorem dX5_letter_30 : decode cX5_letter 30 = .ok (.iload_n 2, 1) := by decide +kernel
theorem dX5_letter_31 : decode cX5_letter 31 = .ok (.invokevirtual 66, 3) := by decide +kernel
theorem dX5_letter_34 : decode cX5_letter 34 = .ok (.ireturn, 1) := by decide +kernel
theorem dX5_letter_35 : decode cX5_letter 35 = .ok (.aload_n 0, 1) := by decide +kernel
theorem dX5_letter_36 : decode cX5_letter 36 = .ok (.getfield 28, 3) := by decide +kernel
theorem dX5_letter_39 : decode cX5_letter 39 = .ok (.aload_n 0, 1) := by decide +kernel
theorem dX5_letter_40 : decode cX5_letter 40 = .ok (.getfield 63, 3) := by decide +kernel
theorem dX5_letter_43 : decode cX5_letter 43 = .ok (.iload_n 1, 1) := by decide +kernel
theorem dX5_letter_44 : decode cX5_letter 44 = .ok (.iastore, 1) := by decide +kernel
theorem dX5_letter_45 : decode cX5_letter 45 = .ok (.aload_n 0, 1) := by decide +kernel
theorem dX5_letter_46 : decode cX5_letter 46 = .ok (.dup, 1) := by decide +kernel
theorem dX5_letter_47 : decode cX5_letter 47 = .ok (.getfield 63, 3) := by decide +kernel
theorem dX5_letter_50 : decode cX5_letter 50 = .ok (.iconst 1, 1) := by decide +kernel
theorem dX5_letter_51 : decode cX5_letter 51 = .ok (.iadd, 1) := by decide +kernel
theorem dX5_letter_52 : decode cX5_letter 52 = .ok (.putfield 63, 3) := by decide +kernel
theorem dX5_letter_55 : decode cX5_letter 55 = .ok (.aload_n 0, 1) := by decide +kernel
theorem dX5_letter_56 : decode cX5_letter 56 = .ok (.getfield 63, 3) := by decide +kernel
theorem dX5_letter_59 : decode cX5_letter 59 = .ok (.ireturn, 1) := by decide +kernel
theorem dX5_next_0 : decode cX5_next 0 = .ok (.aload_n 0, 1) := by decide +kernel
theorem dX5_next_1 : decode cX5_next 1 = .ok (.getfield 70, 3) := by decide +kernel
theorem dX5_next_4 : decode cX5_next 4 = .ok (.aload_n 0, 1) := by decide +kernel
theorem dX5_next_5 : decode cX5_next 5 = .ok (.getfield 63, 3) := by decide +kernel
theorem dX5_next_8 : decode cX5_next 8 = .ok (.if_icmp .ge 15, 3) := by decide +kernel
theorem dX5_next_11 : decode cX5_next 11 = .ok (.aload_n 0, 1) := by decide +kernel
theorem dX5_next_12 : decode cX5_next 12 = .ok (.getfield 28, 3) := by decide +kernel
theorem dX5_next_15 : decode cX5_next 15 = .ok (.aload_n 0, 1) := by decide +kernel
theorem dX5_next_16 : decode cX5_next 16 = .ok (.getfield 70, 3) := by decide +kernel
theorem dX5_next_19 : decode cX5_next 19 = .ok (.iaload, 1) := by decide +kernel
theorem dX5_next_20 : decode cX5_next 20 = .ok (.goto 4, 3) := by decide +kernel
theorem dX5_next_23 : decode cX5_next 23 = .ok (.iconst (-1), 1) := by decide +kernel
theorem dX5_next_24 : decode cX5_next 24 = .ok (.ireturn, 1) := by decide +kernel
theorem dX5_readsNumber_0 : decode cX5_readsNumber 0 = .ok (.iconst 0, 1) := by decide +kernel
theorem dX5_readsNumber_1 : decode cX5_readsNumber 1 = .ok (.istore 4, 2) := by decide +kernel
theorem dX5_readsNumber_3 : decode cX5_readsNumber 3 = .ok (.iconst 0, 1) := by decide +kernel
theorem dX5_readsNumber_4 : decode cX5_readsNumber 4 = .ok (.istore 5, 2) := by decide +kernel
theorem dX5_readsNumber_6 : decode cX5_readsNumber 6 = .ok (.iload 5, 2) := by decide +kernel
theorem dX5_readsNumber_8 : decode cX5_readsNumber 8 = .ok (.iload_n 3, 1) := by decide +kernel
theorem dX5_readsNumber_9 : decode cX5_readsNumber 9 = .ok (.if_icmp .ge 48, 3) := by decide +kernel
theorem dX5_readsNumber_12 : decode cX5_readsNumber 12 = .ok (.aload_n 0, 1) := by decide +kernel
theorem dX5_readsNumber_13 : decode cX5_readsNumber 13 = .ok (.invokevirtual 73, 3) := by decide +kernel
theorem dX5_readsNumber_16 : decode cX5_readsNumber 16 = .ok (.bipush 48, 2) := by decide +kernel
theorem dX5_readsNumber_18 : decode cX5_readsNumber 18 = .ok (.bipush 57, 2) := by decide +kernel
theorem dX5_readsNumber_20 : decode cX5_readsNumber 20 = .ok (.invokestatic 77, 3) := by decide +kernel
theorem dX5_readsNumber_23 : decode cX5_readsNumber 23 = .ok (.ifCond .eq 34, 3) := by decide +kernel
theorem dX5_readsNumber_26 : decode cX5_readsNumber 26 = .ok (.bipush 10, 2) := by decide +kernel
theorem dX5_readsNumber_28 : decode cX5_readsNumber 28 = .ok (.iload 4, 2) := by decide +kernel
theorem dX5_readsNumber_30 : decode cX5_readsNumber 30 = .ok (.imul, 1) := by decide +kernel
theorem dX5_readsNumber_31 : decode cX5_readsNumber 31 = .ok (.aload_n 0, 1) := by decide +kernel
theorem dX5_readsNumber_32 : decode cX5_readsNumber 32 = .ok (.invokevirtual 73, 3) := by decide +kernel
theorem dX5_readsNumber_35 : decode cX5_readsNumber 35 = .ok (.iadd, 1) := by decide +kernel
theorem dX5_readsNumber_36 : decode cX5_readsNumber 36 = .ok (.bipush 48, 2) := by decide +kernel
theorem dX5_readsNumber_38 : decode cX5_readsNumber 38 = .ok (.isub, 1) := by decide +kernel
theorem dX5_readsNumber_39 : decode cX5_readsNumber 39 = .ok (.istore 4, 2) := by decide +kernel
theorem dX5_readsNumber_41 : decode cX5_readsNumber 41 = .ok (.aload_n 0, 1) := by decide +kernel
theorem dX5_readsNumber_42 : decode cX5_readsNumber 42 = .ok (.dup, 1) := by decide +kernel
theorem dX5_readsNumber_43 : decode cX5_readsNumber 43 = .ok (.getfield 70, 3) := by decide +kernel
theorem dX5_readsNumber_46 : decode cX5_readsNumber 46 = .ok (.iconst 1, 1) := by decide +kernel
theorem dX5_readsNumber_47 : decode cX5_readsNumber 47 = .ok (.iadd, 1) := by decide +kernel
theorem dX5_readsNumber_48 : decode cX5_readsNumber 48 = .ok (.putfield 70, 3) := by decide +kernel
theorem dX5_readsNumber_51 : decode cX5_readsNumber 51 = .ok (.iinc 5 1, 3) := by decide +kernel
theorem dX5_readsNumber_54 : decode cX5_readsNumber 54 = .ok (.goto (-48), 3) := by decide +kernel
theorem dX5_readsNumber_57 : decode cX5_readsNumber 57 = .ok (.aload_n 0, 1) := by decide +kernel
theorem dX5_readsNumber_58 : decode cX5_readsNumber 58 = .ok (.getfield 37, 3) := by decide +kernel
theorem dX5_readsNumber_61 : decode cX5_readsNumber 61 = .ok (.iload_n 1, 1) := by decide +kernel
theorem dX5_readsNumber_62 : decode cX5_readsNumber 62 = .ok (.iload 4, 2) := by decide +kernel
theorem dX5_readsNumber_64 : decode cX5_readsNumber 64 = .ok (.iastore, 1) := by decide +kernel
theorem dX5_readsNumber_65 : decode cX5_readsNumber 65 = .ok (.iload 5, 2) := by decide +kernel
theorem dX5_readsNumber_67 : decode cX5_readsNumber 67 = .ok (.iload_n 2, 1) := by decide +kernel
theorem dX5_readsNumber_68 : decode cX5_readsNumber 68 = .ok (.if_icmp .lt 7, 3) := by decide +kernel
theorem dX5_readsNumber_71 : decode cX5_readsNumber 71 = .ok (.iconst 1, 1) := by decide +kernel
theorem dX5_readsNumber_72 : decode cX5_readsNumber 72 = .ok (.goto 4, 3) := by decide +kernel
theorem dX5_readsNumber_75 : decode cX5_readsNumber 75 = .ok (.iconst 0, 1) := by decide +kernel
theorem dX5_readsNumber_76 : decode cX5_readsNumber 76 = .ok (.ireturn, 1) := by decide +kernel
theorem dX5_readsSign_0 : decode cX5_readsSign 0 = .ok (.aload_n 0, 1) := by decide +kernel
theorem dX5_readsSign_1 : decode cX5_readsSign 1 = .ok (.invokevirtual 73, 3) := by decide +kernel
theorem dX5_readsSign_4 : decode cX5_readsSign 4 = .ok (.bipush 43, 2) := by decide +kernel
theorem dX5_readsSign_6 : decode cX5_readsSign 6 = .ok (.if_icmp .eq 14, 3) := by decide +kernel
theorem dX5_readsSign_9 : decode cX5_readsSign 9 = .ok (.aload_n 0, 1) := by decide +kernel
theorem dX5_readsSign_10 : decode cX5_readsSign 10 = .ok (.invokevirtual 73, 3) := by decide +kernel
theorem dX5_readsSign_13 : decode cX5_readsSign 13 = .ok (.bipush 45, 2) := by decide +kernel
theorem dX5_readsSign_15 : decode cX5_readsSign 15 = .ok (.if_icmp .eq 5, 3) := by decide +kernel
theorem dX5_readsSign_18 : decode cX5_readsSign 18 = .ok (.iconst 0, 1) := by decide +kernel
theorem dX5_readsSign_19 : decode cX5_readsSign 19 = .ok (.ireturn, 1) := by decide +kernel
theorem dX5_readsSign_20 : decode cX5_readsSign 20 = .ok (.aload_n 0, 1) := by decide +kernel
theorem dX5_readsSign_21 : decode cX5_readsSign 21 = .ok (.getfield 37, 3) := by decide +kernel
theorem dX5_readsSign_24 : decode cX5_readsSign 24 = .ok (.iload_n 1, 1) := by decide +kernel
theorem dX5_readsSign_25 : decode cX5_readsSign 25 = .ok (.aload_n 0, 1) := by decide +kernel
theorem dX5_readsSign_26 : decode cX5_readsSign 26 = .ok (.invokevirtual 73, 3) := by decide +kernel
theorem dX5_readsSign_29 : decode cX5_readsSign 29 = .ok (.bipush 43, 2) := by decide +kernel
theorem dX5_readsSign_31 : decode cX5_readsSign 31 = .ok (.if_icmp .ne 7, 3) := by decide +kernel
theorem dX5_readsSign_34 : decode cX5_readsSign 34 = .ok (.iconst 1, 1) := by decide +kernel
theorem dX5_readsSign_35 : decode cX5_readsSign 35 = .ok (.goto 4, 3) := by decide +kernel
theorem dX5_readsSign_38 : decode cX5_readsSign 38 = .ok (.iconst 0, 1) := by decide +kernel
theorem dX5_readsSign_39 : decode cX5_readsSign 39 = .ok (.iastore, 1) := by decide +kernel
theorem dX5_readsSign_40 : decode cX5_readsSign 40 = .ok (.aload_n 0, 1) := by decide +kernel
theorem dX5_readsSign_41 : decode cX5_readsSign 41 = .ok (.dup, 1) := by decide +kernel
theorem dX5_readsSign_42 : decode cX5_readsSign 42 = .ok (.getfield 70, 3) := by decide +kernel
theorem dX5_readsSign_45 : decode cX5_readsSign 45 = .ok (.iconst 1, 1) := by decide +kernel
theorem dX5_readsSign_46 : decode cX5_readsSign 46 = .ok (.iadd, 1) := by decide +kernel
theorem dX5_readsSign_47 : decode cX5_readsSign 47 = .ok (.putfield 70, 3) := by decide +kernel
theorem dX5_readsSign_50 : decode cX5_readsSign 50 = .ok (.iconst 1, 1) := by decide +kernel
theorem dX5_readsSign_51 : decode cX5_readsSign 51 = .ok (.ireturn, 1) := by decide +kernel
theorem dX5_readsSpace_0 : decode cX5_readsSpace 0 = .ok (.aload_n 0, 1) := by decide +kernel
theorem dX5_readsSpace_1 : decode cX5_readsSpace 1 = .ok (.iload_n 1, 1) := by decide +kernel
theorem dX5_readsSpace_2 : decode cX5_readsSpace 2 = .ok (.iconst 1, 1) := by decide +kernel
theorem dX5_readsSpace_3 : decode cX5_readsSpace 3 = .ok (.iconst 2, 1) := by decide +kernel
theorem dX5_readsSpace_4 : decode cX5_readsSpace 4 = .ok (.invokevirtual 81, 3) := by decide +kernel
theorem dX5_readsSpace_7 : decode cX5_readsSpace 7 = .ok (.ifCond .eq 12, 3) := by decide +kernel
theorem dX5_readsSpace_10 : decode cX5_readsSpace 10 = .ok (.aload_n 0, 1) := by decide +kernel
theorem dX5_readsSpace_11 : decode cX5_readsSpace 11 = .ok (.invokevirtual 73, 3) := by decide +kernel
theorem dX5_readsSpace_14 : decode cX5_readsSpace 14 = .ok (.bipush 44, 2) := by decide +kernel
theorem dX5_readsSpace_16 : decode cX5_readsSpace 16 = .ok (.if_icmp .eq 5, 3) := by decide +kernel
theorem dX5_readsSpace_19 : decode cX5_readsSpace 19 = .ok (.iconst 0, 1) := by decide +kernel
theorem dX5_readsSpace_20 : decode cX5_readsSpace 20 = .ok (.ireturn, 1) := by decide +kernel
theorem dX5_readsSpace_21 : decode cX5_readsSpace 21 = .ok (.aload_n 0, 1) := by decide +kernel
theorem dX5_readsSpace_22 : decode cX5_readsSpace 22 = .ok (.dup, 1) := by decide +kernel
theorem dX5_readsSpace_23 : decode cX5_readsSpace 23 = .ok (.getfield 70, 3) := by decide +kernel
theorem dX5_readsSpace_26 : decode cX5_readsSpace 26 = .ok (.iconst 1, 1) := by decide +kernel
theorem dX5_readsSpace_27 : decode cX5_readsSpace 27 = .ok (.iadd, 1) := by decide +kernel
theorem dX5_readsSpace_28 : decode cX5_readsSpace 28 = .ok (.putfield 70, 3) := by decide +kernel
theorem dX5_readsSpace_31 : decode cX5_readsSpace 31 = .ok (.aload_n 0, 1) := by decide +kernel
theorem dX5_readsSpace_32 : decode cX5_readsSpace 32 = .ok (.iload_n 1, 1) := by decide +kernel
theorem dX5_readsSpace_33 : decode cX5_readsSpace 33 = .ok (.iconst 1, 1) := by decide +kernel
theorem dX5_readsSpace_34 : decode cX5_readsSpace 34 = .ok (.iadd, 1) := by decide +kernel
theorem dX5_readsSpace_35 : decode cX5_readsSpace 35 = .ok (.iconst 1, 1) := by decide +kernel
theorem dX5_readsSpace_36 : decode cX5_readsSpace 36 = .ok (.iconst 1, 1) := by decide +kernel
theorem dX5_readsSpace_37 : decode cX5_readsSpace 37 = .ok (.invokevirtual 81, 3) := by decide +kernel
theorem dX5_readsSpace_40 : decode cX5_readsSpace 40 = .ok (.ireturn, 1) := by decide +kernel
theorem dX5_lawOf_0 : decode cX5_lawOf 0 = .ok (.iload_n 0, 1) := by decide +kernel
theorem dX5_lawOf_1 : decode cX5_lawOf 1 = .ok (.tableswitch 95 99 115 #[89, 87, 95, 95, 95, 91, 95, 95, 95, 83, 95, 95, 95, 95, 95, 85, 93], 83) := by decide +kernel
theorem dX5_lawOf_84 : decode cX5_lawOf 84 = .ok (.iconst 0, 1) := by decide +kernel
theorem dX5_lawOf_85 : decode cX5_lawOf 85 = .ok (.ireturn, 1) := by decide +kernel
theorem dX5_lawOf_86 : decode cX5_lawOf 86 = .ok (.iconst 1, 1) := by decide +kernel
theorem dX5_lawOf_87 : decode cX5_lawOf 87 = .ok (.ireturn, 1) := by decide +kernel
theorem dX5_lawOf_88 : decode cX5_lawOf 88 = .ok (.iconst 2, 1) := by decide +kernel
theorem dX5_lawOf_89 : decode cX5_lawOf 89 = .ok (.ireturn, 1) := by decide +kernel
theorem dX5_lawOf_90 : decode cX5_lawOf 90 = .ok (.iconst 3, 1) := by decide +kernel
theorem dX5_lawOf_91 : decode cX5_lawOf 91 = .ok (.ireturn, 1) := by decide +kernel
theorem dX5_lawOf_92 : decode cX5_lawOf 92 = .ok (.iconst 4, 1) := by decide +kernel
theorem dX5_lawOf_93 : decode cX5_lawOf 93 = .ok (.ireturn, 1) := by decide +kernel
theorem dX5_lawOf_94 : decode cX5_lawOf 94 = .ok (.iconst 5, 1) := by decide +kernel
theorem dX5_lawOf_95 : decode cX5_lawOf 95 = .ok (.ireturn, 1) := by decide +kernel
theorem dX5_lawOf_96 : decode cX5_lawOf 96 = .ok (.iconst (-1), 1) := by decide +kernel
theorem dX5_lawOf_97 : decode cX5_lawOf 97 = .ok (.ireturn, 1) := by decide +kernel
theorem dX5_readsLaw_0 : decode cX5_readsLaw 0 = .ok (.aload_n 0, 1) := by decide +kernel
theorem dX5_readsLaw_1 : decode cX5_readsLaw 1 = .ok (.getfield 37, 3) := by decide +kernel
theorem dX5_readsLaw_4 : decode cX5_readsLaw 4 = .ok (.iload_n 1, 1) := by decide +kernel
theorem dX5_readsLaw_5 : decode cX5_readsLaw 5 = .ok (.aload_n 0, 1) := by decide +kernel
theorem dX5_readsLaw_6 : decode cX5_readsLaw 6 = .ok (.invokevirtual 73, 3) := by decide +kernel
theorem dX5_readsLaw_9 : decode cX5_readsLaw 9 = .ok (.invokestatic 84, 3) := by decide +kernel
theorem dX5_readsLaw_12 : decode cX5_readsLaw 12 = .ok (.iastore, 1) := by decide +kernel
theorem dX5_readsLaw_13 : decode cX5_readsLaw 13 = .ok (.aload_n 0, 1) := by decide +kernel
theorem dX5_readsLaw_14 : decode cX5_readsLaw 14 = .ok (.getfield 37, 3) := by decide +kernel
theorem dX5_readsLaw_17 : decode cX5_readsLaw 17 = .ok (.iload_n 1, 1) := by decide +kernel
theorem dX5_readsLaw_18 : decode cX5_readsLaw 18 = .ok (.iaload, 1) := by decide +kernel
theorem dX5_readsLaw_19 : decode cX5_readsLaw 19 = .ok (.ifCond .ge 5, 3) := by decide +kernel
theorem dX5_readsLaw_22 : decode cX5_readsLaw 22 = .ok (.iconst 0, 1) := by decide +kernel
theorem dX5_readsLaw_23 : decode cX5_readsLaw 23 = .ok (.ireturn, 1) := by decide +kernel
theorem dX5_readsLaw_24 : decode cX5_readsLaw 24 = .ok (.aload_n 0, 1) := by decide +kernel
theorem dX5_readsLaw_25 : decode cX5_readsLaw 25 = .ok (.dup, 1) := by decide +kernel
theorem dX5_readsLaw_26 : decode cX5_readsLaw 26 = .ok (.getfield 70, 3) := by decide +kernel
theorem dX5_readsLaw_29 : decode cX5_readsLaw 29 = .ok (.iconst 1, 1) := by decide +kernel
theorem dX5_readsLaw_30 : decode cX5_readsLaw 30 = .ok (.iadd, 1) := by decide +kernel
theorem dX5_readsLaw_31 : decode cX5_readsLaw 31 = .ok (.putfield 70, 3) := by decide +kernel
theorem dX5_readsLaw_34 : decode cX5_readsLaw 34 = .ok (.iconst 1, 1) := by decide +kernel
theorem dX5_readsLaw_35 : decode cX5_readsLaw 35 = .ok (.ireturn, 1) := by decide +kernel
theorem dX5_readsAll_0 : decode cX5_readsAll 0 = .ok (.iload_n 1, 1) := by decide +kernel
theorem dX5_readsAll_1 : decode cX5_readsAll 1 = .ok (.lookupswitch 135 #[(100, 63), (108, 57), (110, 109), (115, 51), (116, 71)], 51) := by decide +kernel
theorem dX5_readsAll_52 : decode cX5_readsAll 52 = .ok (.aload_n 0, 1) := by decide +kernel
theorem dX5_readsAll_53 : decode cX5_readsAll 53 = .ok (.iload_n 2, 1) := by decide +kernel
theorem dX5_readsAll_54 : decode cX5_readsAll 54 = .ok (.invokevirtual 87, 3) := by decide +kernel
theorem dX5_readsAll_57 : decode cX5_readsAll 57 = .ok (.ireturn, 1) := by decide +kernel
theorem dX5_readsAll_58 : decode cX5_readsAll 58 = .ok (.aload_n 0, 1) := by decide +kernel
theorem dX5_readsAll_59 : decode cX5_readsAll 59 = .ok (.iload_n 2, 1) := by decide +kernel
theorem dX5_readsAll_60 : decode cX5_readsAll 60 = .ok (.invokevirtual 91, 3) := by decide +kernel
theorem dX5_readsAll_63 : decode cX5_readsAll 63 = .ok (.ireturn, 1) := by decide +kernel
theorem dX5_readsAll_64 : decode cX5_readsAll 64 = .ok (.aload_n 0, 1) := by decide +kernel
theorem dX5_readsAll_65 : decode cX5_readsAll 65 = .ok (.iload_n 2, 1) := by decide +kernel
theorem dX5_readsAll_66 : decode cX5_readsAll 66 = .ok (.iconst 2, 1) := by decide +kernel
theorem dX5_readsAll_67 : decode cX5_readsAll 67 = .ok (.iconst 2, 1) := by decide +kernel
theorem dX5_readsAll_68 : decode cX5_readsAll 68 = .ok (.invokevirtual 81, 3) := by decide +kernel
theorem dX5_readsAll_71 : decode cX5_readsAll 71 = .ok (.ireturn, 1) := by decide +kernel
theorem dX5_readsAll_72 : decode cX5_readsAll 72 = .ok (.aload_n 0, 1) := by decide +kernel
theorem dX5_readsAll_73 : decode cX5_readsAll 73 = .ok (.iload_n 2, 1) := by decide +kernel
theorem dX5_readsAll_74 : decode cX5_readsAll 74 = .ok (.iconst 1, 1) := by decide +kernel
theorem dX5_readsAll_75 : decode cX5_readsAll 75 = .ok (.iconst 1, 1) := by decide +kernel
theorem dX5_readsAll_76 : decode cX5_readsAll 76 = .ok (.invokevirtual 81, 3) := by decide +kernel
theorem dX5_readsAll_79 : decode cX5_readsAll 79 = .ok (.ifCond .eq 29, 3) := by decide +kernel
theorem dX5_readsAll_82 : decode cX5_readsAll 82 = .ok (.aload_n 0, 1) := by decide +kernel
theorem dX5_readsAll_83 : decode cX5_readsAll 83 = .ok (.iload_n 2, 1) := by decide +kernel
theorem dX5_readsAll_84 : decode cX5_readsAll 84 = .ok (.iconst 1, 1) := by decide +kernel
theorem dX5_readsAll_85 : decode cX5_readsAll 85 = .ok (.iadd, 1) := by decide +kernel
theorem dX5_readsAll_86 : decode cX5_readsAll 86 = .ok (.iconst 2, 1) := by decide +kernel
theorem dX5_readsAll_87 : decode cX5_readsAll 87 = .ok (.iconst 2, 1) := by decide +kernel
theorem dX5_readsAll_88 : decode cX5_readsAll 88 = .ok (.invokevirtual 81, 3) := by decide +kernel
theorem dX5_readsAll_91 : decode cX5_readsAll 91 = .ok (.ifCond .eq 17, 3) := by decide +kernel
theorem dX5_readsAll_94 : decode cX5_readsAll 94 = .ok (.aload_n 0, 1) := by decide +kernel
theorem dX5_readsAll_95 : decode cX5_readsAll 95 = .ok (.iload_n 2, 1) := by decide +kernel
theorem dX5_readsAll_96 : decode cX5_readsAll 96 = .ok (.iconst 2, 1) := by decide +kernel
theorem dX5_readsAll_97 : decode cX5_readsAll 97 = .ok (.iadd, 1) := by decide +kernel
theorem dX5_readsAll_98 : decode cX5_readsAll 98 = .ok (.invokevirtual 94, 3) := by decide +kernel
theorem dX5_readsAll_101 : decode cX5_readsAll 101 = .ok (.ifCond .eq 7, 3) := by decide +kernel
theorem dX5_readsAll_104 : decode cX5_readsAll 104 = .ok (.iconst 1, 1) := by decide +kernel
theorem dX5_readsAll_105 : decode cX5_readsAll 105 = .ok (.goto 4, 3) := by decide +kernel
theorem dX5_readsAll_108 : decode cX5_readsAll 108 = .ok (.iconst 0, 1) := by decide +kernel
theorem dX5_readsAll_109 : decode cX5_readsAll 109 = .ok (.ireturn, 1) := by decide +kernel
theorem dX5_readsAll_110 : decode cX5_readsAll 110 = .ok (.aload_n 0, 1) := by decide +kernel
theorem dX5_readsAll_111 : decode cX5_readsAll 111 = .ok (.iload_n 2, 1) := by decide +kernel
theorem dX5_readsAll_112 : decode cX5_readsAll 112 = .ok (.iconst 2, 1) := by decide +kernel
theorem dX5_readsAll_113 : decode cX5_readsAll 113 = .ok (.iconst 2, 1) := by decide +kernel
theorem dX5_readsAll_114 : decode cX5_readsAll 114 = .ok (.invokevirtual 81, 3) := by decide +kernel
theorem dX5_readsAll_117 : decode cX5_readsAll 117 = .ok (.ifCond .eq 17, 3) := by decide +kernel
theorem dX5_readsAll_120 : decode cX5_readsAll 120 = .ok (.aload_n 0, 1) := by decide +kernel
theorem dX5_readsAll_121 : decode cX5_readsAll 121 = .ok (.iload_n 2, 1) := by decide +kernel
theorem dX5_readsAll_122 : decode cX5_readsAll 122 = .ok (.iconst 1, 1) := by decide +kernel
theorem dX5_readsAll_123 : decode cX5_readsAll 123 = .ok (.iadd, 1) := by decide +kernel
theorem dX5_readsAll_124 : decode cX5_readsAll 124 = .ok (.invokevirtual 94, 3) := by decide +kernel
theorem dX5_readsAll_127 : decode cX5_readsAll 127 = .ok (.ifCond .eq 7, 3) := by decide +kernel
theorem dX5_readsAll_130 : decode cX5_readsAll 130 = .ok (.iconst 1, 1) := by decide +kernel
theorem dX5_readsAll_131 : decode cX5_readsAll 131 = .ok (.goto 4, 3) := by decide +kernel
theorem dX5_readsAll_134 : decode cX5_readsAll 134 = .ok (.iconst 0, 1) := by decide +kernel
theorem dX5_readsAll_135 : decode cX5_readsAll 135 = .ok (.ireturn, 1) := by decide +kernel
theorem dX5_readsAll_136 : decode cX5_readsAll 136 = .ok (.aload_n 0, 1) := by decide +kernel
theorem dX5_readsAll_137 : decode cX5_readsAll 137 = .ok (.iload_n 2, 1) := by decide +kernel
theorem dX5_readsAll_138 : decode cX5_readsAll 138 = .ok (.iconst 2, 1) := by decide +kernel
theorem dX5_readsAll_139 : decode cX5_readsAll 139 = .ok (.iconst 2, 1) := by decide +kernel
theorem dX5_readsAll_140 : decode cX5_readsAll 140 = .ok (.invokevirtual 81, 3) := by decide +kernel
theorem dX5_readsAll_143 : decode cX5_readsAll 143 = .ok (.ifCond .eq 19, 3) := by decide +kernel
theorem dX5_readsAll_146 : decode cX5_readsAll 146 = .ok (.aload_n 0, 1) := by decide +kernel
theorem dX5_readsAll_147 : decode cX5_readsAll 147 = .ok (.iload_n 2, 1) := by decide +kernel
theorem dX5_readsAll_148 : decode cX5_readsAll 148 = .ok (.iconst 1, 1) := by decide +kernel
theorem dX5_readsAll_149 : decode cX5_readsAll 149 = .ok (.iadd, 1) := by decide +kernel
theorem dX5_readsAll_150 : decode cX5_readsAll 150 = .ok (.iconst 1, 1) := by decide +kernel
theorem dX5_readsAll_151 : decode cX5_readsAll 151 = .ok (.iconst 1, 1) := by decide +kernel
theorem dX5_readsAll_152 : decode cX5_readsAll 152 = .ok (.invokevirtual 81, 3) := by decide +kernel
theorem dX5_readsAll_155 : decode cX5_readsAll 155 = .ok (.ifCond .eq 7, 3) := by decide +kernel
theorem dX5_readsAll_158 : decode cX5_readsAll 158 = .ok (.iconst 1, 1) := by decide +kernel
theorem dX5_readsAll_159 : decode cX5_readsAll 159 = .ok (.goto 4, 3) := by decide +kernel
theorem dX5_readsAll_162 : decode cX5_readsAll 162 = .ok (.iconst 0, 1) := by decide +kernel
theorem dX5_readsAll_163 : decode cX5_readsAll 163 = .ok (.ireturn, 1) := by decide +kernel
theorem dX5_statement_0 : decode cX5_statement 0 = .ok (.aload_n 0, 1) := by decide +kernel
theorem dX5_statement_1 : decode cX5_statement 1 = .ok (.invokevirtual 73, 3) := by decide +kernel
theorem dX5_statement_4 : decode cX5_statement 4 = .ok (.istore_n 1, 1) := by decide +kernel
theorem dX5_statement_5 : decode cX5_statement 5 = .ok (.iload_n 1, 1) := by decide +kernel
theorem dX5_statement_6 : decode cX5_statement 6 = .ok (.bipush 115, 2) := by decide +kernel
theorem dX5_statement_8 : decode cX5_statement 8 = .ok (.if_icmp .eq 35, 3) := by decide +kernel
theorem dX5_statement_11 : decode cX5_statement 11 = .ok (.iload_n 1, 1) := by decide +kernel
theorem dX5_statement_12 : decode cX5_statement 12 = .ok (.bipush 108, 2) := by decide +kernel
theorem dX5_statement_14 : decode cX5_statement 14 = .ok (.if_icmp .eq 29, 3) := by decide +kernel
theorem dX5_statement_17 : decode cX5_statement 17 = .ok (.iload_n 1, 1) := by decide +kernel
theorem dX5_statement_18 : decode cX5_statement 18 = .ok (.bipush 100, 2) := by decide +kernel
theorem dX5_statement_20 : decode cX5_statement 20 = .ok (.if_icmp .eq 23, 3) := by decide +kernel
theorem dX5_statement_23 : decode cX5_statement 23 = .ok (.iload_n 1, 1) := by decide +kernel
theorem dX5_statement_24 : decode cX5_statement 24 = .ok (.bipush 116, 2) := by decide +kernel
theorem dX5_statement_26 : decode cX5_statement 26 = .ok (.if_icmp .eq 17, 3) := by decide +kernel
theorem dX5_statement_29 : decode cX5_statement 29 = .ok (.iload_n 1, 1) := by decide +kernel
theorem dX5_statement_30 : decode cX5_statement 30 = .ok (.bipush 110, 2) := by decide +kernel
theorem dX5_statement_32 : decode cX5_statement 32 = .ok (.if_icmp .eq 11, 3) := by decide +kernel
theorem dX5_statement_35 : decode cX5_statement 35 = .ok (.iload_n 1, 1) := by decide +kernel
theorem dX5_statement_36 : decode cX5_statement 36 = .ok (.bipush 112, 2) := by decide +kernel
theorem dX5_statement_38 : decode cX5_statement 38 = .ok (.if_icmp .eq 5, 3) := by decide +kernel
theorem dX5_statement_41 : decode cX5_statement 41 = .ok (.iconst 0, 1) := by decide +kernel
theorem dX5_statement_42 : decode cX5_statement 42 = .ok (.ireturn, 1) := by decide +kernel
theorem dX5_statement_43 : decode cX5_statement 43 = .ok (.aload_n 0, 1) := by decide +kernel
theorem dX5_statement_44 : decode cX5_statement 44 = .ok (.getfield 31, 3) := by decide +kernel
theorem dX5_statement_47 : decode cX5_statement 47 = .ok (.aload_n 0, 1) := by decide +kernel
theorem dX5_statement_48 : decode cX5_statement 48 = .ok (.getfield 97, 3) := by decide +kernel
theorem dX5_statement_51 : decode cX5_statement 51 = .ok (.iload_n 1, 1) := by decide +kernel
theorem dX5_statement_52 : decode cX5_statement 52 = .ok (.iastore, 1) := by decide +kernel
theorem dX5_statement_53 : decode cX5_statement 53 = .ok (.aload_n 0, 1) := by decide +kernel
theorem dX5_statement_54 : decode cX5_statement 54 = .ok (.getfield 34, 3) := by decide +kernel
theorem dX5_statement_57 : decode cX5_statement 57 = .ok (.aload_n 0, 1) := by decide +kernel
theorem dX5_statement_58 : decode cX5_statement 58 = .ok (.getfield 97, 3) := by decide +kernel
theorem dX5_statement_61 : decode cX5_statement 61 = .ok (.aload_n 0, 1) := by decide +kernel
theorem dX5_statement_62 : decode cX5_statement 62 = .ok (.getfield 70, 3) := by decide +kernel
theorem dX5_statement_65 : decode cX5_statement 65 = .ok (.iastore, 1) := by decide +kernel
theorem dX5_statement_66 : decode cX5_statement 66 = .ok (.aload_n 0, 1) := by decide +kernel
theorem dX5_statement_67 : decode cX5_statement 67 = .ok (.dup, 1) := by decide +kernel
theorem dX5_statement_68 : decode cX5_statement 68 = .ok (.getfield 70, 3) := by decide +kernel
theorem dX5_statement_71 : decode cX5_statement 71 = .ok (.iconst 1, 1) := by decide +kernel
theorem dX5_statement_72 : decode cX5_statement 72 = .ok (.iadd, 1) := by decide +kernel
theorem dX5_statement_73 : decode cX5_statement 73 = .ok (.putfield 70, 3) := by decide +kernel
theorem dX5_statement_76 : decode cX5_statement 76 = .ok (.aload_n 0, 1) := by decide +kernel
theorem dX5_statement_77 : decode cX5_statement 77 = .ok (.iload_n 1, 1) := by decide +kernel
theorem dX5_statement_78 : decode cX5_statement 78 = .ok (.iconst 3, 1) := by decide +kernel
theorem dX5_statement_79 : decode cX5_statement 79 = .ok (.aload_n 0, 1) := by decide +kernel
theorem dX5_statement_80 : decode cX5_statement 80 = .ok (.getfield 97, 3) := by decide +kernel
theorem dX5_statement_83 : decode cX5_statement 83 = .ok (.imul, 1) := by decide +kernel
theorem dX5_statement_84 : decode cX5_statement 84 = .ok (.invokevirtual 100, 3) := by decide +kernel
theorem dX5_statement_87 : decode cX5_statement 87 = .ok (.ifCond .eq 12, 3) := by decide +kernel
theorem dX5_statement_90 : decode cX5_statement 90 = .ok (.aload_n 0, 1) := by decide +kernel
theorem dX5_statement_91 : decode cX5_statement 91 = .ok (.invokevirtual 73, 3) := by decide +kernel
theorem dX5_statement_94 : decode cX5_statement 94 = .ok (.bipush 59, 2) := by decide +kernel
theorem dX5_statement_96 : decode cX5_statement 96 = .ok (.if_icmp .eq 5, 3) := by decide +kernel
theorem dX5_statement_99 : decode cX5_statement 99 = .ok (.iconst 0, 1) := by decide +kernel
theorem dX5_statement_100 : decode cX5_statement 100 = .ok (.ireturn, 1) := by decide +kernel
theorem dX5_statement_101 : decode cX5_statement 101 = .ok (.aload_n 0, 1) := by decide +kernel
theorem dX5_statement_102 : decode cX5_statement 102 = .ok (.dup, 1) := by decide +kernel
theorem dX5_statement_103 : decode cX5_statement 103 = .ok (.getfield 70, 3) := by decide +kernel
theorem dX5_statement_106 : decode cX5_statement 106 = .ok (.iconst 1, 1) := by decide +kernel
theorem dX5_statement_107 : decode cX5_statement 107 = .ok (.iadd, 1) := by decide +kernel
theorem dX5_statement_108 : decode cX5_statement 108 = .ok (.putfield 70, 3) := by decide +kernel
theorem dX5_statement_111 : decode cX5_statement 111 = .ok (.iconst 1, 1) := by decide +kernel
theorem dX5_statement_112 : decode cX5_statement 112 = .ok (.ireturn, 1) := by decide +kernel
theorem dX5_leastOf_0 : decode cX5_leastOf 0 = .ok (.iload_n 0, 1) := by decide +kernel
theorem dX5_leastOf_1 : decode cX5_leastOf 1 = .ok (.ifCond .ne 8, 3) := by decide +kernel
theorem dX5_leastOf_4 : decode cX5_leastOf 4 = .ok (.bipush 6, 2) := by decide +kernel
theorem dX5_leastOf_6 : decode cX5_leastOf 6 = .ok (.goto 13, 3) := by decide +kernel
theorem dX5_leastOf_9 : decode cX5_leastOf 9 = .ok (.iload_n 0, 1) := by decide +kernel
theorem dX5_leastOf_10 : decode cX5_leastOf 10 = .ok (.iconst 1, 1) := by decide +kernel
theorem dX5_leastOf_11 : decode cX5_leastOf 11 = .ok (.if_icmp .ne 7, 3) := by decide +kernel
theorem dX5_leastOf_14 : decode cX5_leastOf 14 = .ok (.iconst 1, 1) := by decide +kernel
theorem dX5_leastOf_15 : decode cX5_leastOf 15 = .ok (.goto 4, 3) := by decide +kernel
theorem dX5_leastOf_18 : decode cX5_leastOf 18 = .ok (.iconst 0, 1) := by decide +kernel
theorem dX5_leastOf_19 : decode cX5_leastOf 19 = .ok (.ireturn, 1) := by decide +kernel
theorem dX5_mostOf_0 : decode cX5_mostOf 0 = .ok (.iload_n 0, 1) := by decide +kernel
theorem dX5_mostOf_1 : decode cX5_mostOf 1 = .ok (.ifCond .ne 8, 3) := by decide +kernel
theorem dX5_mostOf_4 : decode cX5_mostOf 4 = .ok (.bipush 24, 2) := by decide +kernel
theorem dX5_mostOf_6 : decode cX5_mostOf 6 = .ok (.goto 23, 3) := by decide +kernel
theorem dX5_mostOf_9 : decode cX5_mostOf 9 = .ok (.iload_n 0, 1) := by decide +kernel
theorem dX5_mostOf_10 : decode cX5_mostOf 10 = .ok (.iconst 1, 1) := by decide +kernel
theorem dX5_mostOf_11 : decode cX5_mostOf 11 = .ok (.if_icmp .ne 7, 3) := by decide +kernel
theorem dX5_mostOf_14 : decode cX5_mostOf 14 = .ok (.iconst 4, 1) := by decide +kernel
theorem dX5_mostOf_15 : decode cX5_mostOf 15 = .ok (.goto 14, 3) := by decide +kernel
theorem dX5_mostOf_18 : decode cX5_mostOf 18 = .ok (.iload_n 0, 1) := by decide +kernel
theorem dX5_mostOf_19 : decode cX5_mostOf 19 = .ok (.iconst 2, 1) := by decide +kernel
theorem dX5_mostOf_20 : decode cX5_mostOf 20 = .ok (.if_icmp .ne 8, 3) := by decide +kernel
theorem dX5_mostOf_23 : decode cX5_mostOf 23 = .ok (.bipush 47, 2) := by decide +kernel
theorem dX5_mostOf_25 : decode cX5_mostOf 25 = .ok (.goto 4, 3) := by decide +kernel
theorem dX5_mostOf_28 : decode cX5_mostOf 28 = .ok (.iconst 5, 1) := by decide +kernel
theorem dX5_mostOf_29 : decode cX5_mostOf 29 = .ok (.ireturn, 1) := by decide +kernel
theorem dX5_comesSet_0 : decode cX5_comesSet 0 = .ok (.iload_n 2, 1) := by decide +kernel
theorem dX5_comesSet_1 : decode cX5_comesSet 1 = .ok (.iload_n 1, 1) := by decide +kernel
theorem dX5_comesSet_2 : decode cX5_comesSet 2 = .ok (.invokestatic 104, 3) := by decide +kernel
theorem dX5_comesSet_5 : decode cX5_comesSet 5 = .ok (.iload_n 1, 1) := by decide +kernel
theorem dX5_comesSet_6 : decode cX5_comesSet 6 = .ok (.invokestatic 107, 3) := by decide +kernel
theorem dX5_comesSet_9 : decode cX5_comesSet 9 = .ok (.invokestatic 59, 3) := by decide +kernel
theorem dX5_comesSet_12 : decode cX5_comesSet 12 = .ok (.ifCond .eq 5, 3) := by decide +kernel
theorem dX5_comesSet_15 : decode cX5_comesSet 15 = .ok (.iconst 0, 1) := by decide +kernel
theorem dX5_comesSet_16 : decode cX5_comesSet 16 = .ok (.ireturn, 1) := by decide +kernel
theorem dX5_comesSet_17 : decode cX5_comesSet 17 = .ok (.aload_n 0, 1) := by decide +kernel
theorem dX5_comesSet_18 : decode cX5_comesSet 18 = .ok (.getfield 13, 3) := by decide +kernel
theorem dX5_comesSet_21 : decode cX5_comesSet 21 = .ok (.iload_n 1, 1) := by decide +kernel
theorem dX5_comesSet_22 : decode cX5_comesSet 22 = .ok (.iload_n 2, 1) := by decide +kernel
theorem dX5_comesSet_23 : decode cX5_comesSet 23 = .ok (.iastore, 1) := by decide +kernel
theorem dX5_comesSet_24 : decode cX5_comesSet 24 = .ok (.aload_n 0, 1) := by decide +kernel
theorem dX5_comesSet_25 : decode cX5_comesSet 25 = .ok (.invokevirtual 50, 3) := by decide +kernel
theorem dX5_comesSet_28 : decode cX5_comesSet 28 = .ok (.iconst 1, 1) := by decide +kernel
theorem dX5_comesSet_29 : decode cX5_comesSet 29 = .ok (.ireturn, 1) := by decide +kernel
theorem dX5_comes_0 : decode cX5_comes 0 = .ok (.iconst 3, 1) := by decide +kernel
theorem dX5_comes_1 : decode cX5_comes 1 = .ok (.iload_n 1, 1) := by decide +kernel
theorem dX5_comes_2 : decode cX5_comes 2 = .ok (.imul, 1) := by decide +kernel
theorem dX5_comes_3 : decode cX5_comes 3 = .ok (.istore_n 2, 1) := by decide +kernel
theorem dX5_comes_4 : decode cX5_comes 4 = .ok (.aload_n 0, 1) := by decide +kernel
theorem dX5_comes_5 : decode cX5_comes 5 = .ok (.getfield 31, 3) := by decide +kernel
theorem dX5_comes_8 : decode cX5_comes 8 = .ok (.iload_n 1, 1) := by decide +kernel
theorem dX5_comes_9 : decode cX5_comes 9 = .ok (.iaload, 1) := by decide +kernel
theorem dX5_comes_10 : decode cX5_comes 10 = .ok (.lookupswitch 228 #[(100, 98), (108, 86), (110, 173), (115, 50), (116, 110)], 50) := by decide +kernel
theorem dX5_comes_60 : decode cX5_comes 60 = .ok (.aload_n 0, 1) := by decide +kernel
theorem dX5_comes_61 : decode cX5_comes 61 = .ok (.iconst 0, 1) := by decide +kernel
theorem dX5_comes_62 : decode cX5_comes 62 = .ok (.aload_n 0, 1) := by decide +kernel
theorem dX5_comes_63 : decode cX5_comes 63 = .ok (.getfield 37, 3) := by decide +kernel
theorem dX5_comes_66 : decode cX5_comes 66 = .ok (.iload_n 2, 1) := by decide +kernel
theorem dX5_comes_67 : decode cX5_comes 67 = .ok (.iaload, 1) := by decide +kernel
theorem dX5_comes_68 : decode cX5_comes 68 = .ok (.invokevirtual 110, 3) := by decide +kernel
theorem dX5_comes_71 : decode cX5_comes 71 = .ok (.ifCond .eq 23, 3) := by decide +kernel
theorem dX5_comes_74 : decode cX5_comes 74 = .ok (.aload_n 0, 1) := by decide +kernel
theorem dX5_comes_75 : decode cX5_comes 75 = .ok (.iconst 1, 1) := by decide +kernel
theorem dX5_comes_76 : decode cX5_comes 76 = .ok (.aload_n 0, 1) := by decide +kernel
theorem dX5_comes_77 : decode cX5_comes 77 = .ok (.getfield 37, 3) := by decide +kernel
theorem dX5_comes_80 : decode cX5_comes 80 = .ok (.iload_n 2, 1) := by decide +kernel
theorem dX5_comes_81 : decode cX5_comes 81 = .ok (.iconst 1, 1) := by decide +kernel
theorem dX5_comes_82 : decode cX5_comes 82 = .ok (.iadd, 1) := by decide +kernel
theorem dX5_comes_83 : decode cX5_comes 83 = .ok (.iaload, 1) := by decide +kernel
theorem dX5_comes_84 : decode cX5_comes 84 = .ok (.invokevirtual 110, 3) := by decide +kernel
theorem dX5_comes_87 : decode cX5_comes 87 = .ok (.ifCond .eq 7, 3) := by decide +kernel
theorem dX5_comes_90 : decode cX5_comes 90 = .ok (.iconst 1, 1) := by decide +kernel
theorem dX5_comes_91 : decode cX5_comes 91 = .ok (.goto 4, 3) := by decide +kernel
theorem dX5_comes_94 : decode cX5_comes 94 = .ok (.iconst 0, 1) := by decide +kernel
theorem dX5_comes_95 : decode cX5_comes 95 = .ok (.ireturn, 1) := by decide +kernel
theorem dX5_comes_96 : decode cX5_comes 96 = .ok (.aload_n 0, 1) := by decide +kernel
theorem dX5_comes_97 : decode cX5_comes 97 = .ok (.iconst 3, 1) := by decide +kernel
theorem dX5_comes_98 : decode cX5_comes 98 = .ok (.aload_n 0, 1) := by decide +kernel
theorem dX5_comes_99 : decode cX5_comes 99 = .ok (.getfield 37, 3) := by decide +kernel
theorem dX5_comes_102 : decode cX5_comes 102 = .ok (.iload_n 2, 1) := by decide +kernel
theorem dX5_comes_103 : decode cX5_comes 103 = .ok (.iaload, 1) := by decide +kernel
theorem dX5_comes_104 : decode cX5_comes 104 = .ok (.invokevirtual 110, 3) := by decide +kernel
theorem dX5_comes_107 : decode cX5_comes 107 = .ok (.ireturn, 1) := by decide +kernel
theorem dX5_comes_108 : decode cX5_comes 108 = .ok (.aload_n 0, 1) := by decide +kernel
theorem dX5_comes_109 : decode cX5_comes 109 = .ok (.iconst 2, 1) := by decide +kernel
theorem dX5_comes_110 : decode cX5_comes 110 = .ok (.aload_n 0, 1) := by decide +kernel
theorem dX5_comes_111 : decode cX5_comes 111 = .ok (.getfield 37, 3) := by decide +kernel
theorem dX5_comes_114 : decode cX5_comes 114 = .ok (.iload_n 2, 1) := by decide +kernel
theorem dX5_comes_115 : decode cX5_comes 115 = .ok (.iaload, 1) := by decide +kernel
theorem dX5_comes_116 : decode cX5_comes 116 = .ok (.invokevirtual 110, 3) := by decide +kernel
theorem dX5_comes_119 : decode cX5_comes 119 = .ok (.ireturn, 1) := by decide +kernel
theorem dX5_comes_120 : decode cX5_comes 120 = .ok (.aload_n 0, 1) := by decide +kernel
theorem dX5_comes_121 : decode cX5_comes 121 = .ok (.getfield 37, 3) := by decide +kernel
theorem dX5_comes_124 : decode cX5_comes 124 = .ok (.iload_n 2, 1) := by decide +kernel
theorem dX5_comes_125 : decode cX5_comes 125 = .ok (.iaload, 1) := by decide +kernel
theorem dX5_comes_126 : decode cX5_comes 126 = .ok (.iconst 4, 1) := by decide +kernel
theorem dX5_comes_127 : decode cX5_comes 127 = .ok (.if_icmp .gt 26, 3) := by decide +kernel
theorem dX5_comes_130 : decode cX5_comes 130 = .ok (.aload_n 0, 1) := by decide +kernel
theorem dX5_comes_131 : decode cX5_comes 131 = .ok (.getfield 37, 3) := by decide +kernel
theorem dX5_comes_134 : decode cX5_comes 134 = .ok (.iload_n 2, 1) := by decide +kernel
theorem dX5_comes_135 : decode cX5_comes 135 = .ok (.iconst 1, 1) := by decide +kernel
theorem dX5_comes_136 : decode cX5_comes 136 = .ok (.iadd, 1) := by decide +kernel
theorem dX5_comes_137 : decode cX5_comes 137 = .ok (.iaload, 1) := by decide +kernel
theorem dX5_comes_138 : decode cX5_comes 138 = .ok (.invokestatic 113, 3) := by decide +kernel
theorem dX5_comes_141 : decode cX5_comes 141 = .ok (.ifCond .eq 12, 3) := by decide +kernel
theorem dX5_comes_144 : decode cX5_comes 144 = .ok (.aload_n 0, 1) := by decide +kernel
theorem dX5_comes_145 : decode cX5_comes 145 = .ok (.getfield 55, 3) := by decide +kernel
theorem dX5_comes_148 : decode cX5_comes 148 = .ok (.bipush 6, 2) := by decide +kernel
theorem dX5_comes_150 : decode cX5_comes 150 = .ok (.if_icmp .ne 5, 3) := by decide +kernel
theorem dX5_comes_153 : decode cX5_comes 153 = .ok (.iconst 0, 1) := by decide +kernel
theorem dX5_comes_154 : decode cX5_comes 154 = .ok (.ireturn, 1) := by decide +kernel
theorem dX5_comes_155 : decode cX5_comes 155 = .ok (.aload_n 0, 1) := by decide +kernel
theorem dX5_comes_156 : decode cX5_comes 156 = .ok (.aload_n 0, 1) := by decide +kernel
theorem dX5_comes_157 : decode cX5_comes 157 = .ok (.getfield 37, 3) := by decide +kernel
theorem dX5_comes_160 : decode cX5_comes 160 = .ok (.iload_n 2, 1) := by decide +kernel
theorem dX5_comes_161 : decode cX5_comes 161 = .ok (.iaload, 1) := by decide +kernel
theorem dX5_comes_162 : decode cX5_comes 162 = .ok (.aload_n 0, 1) := by decide +kernel
theorem dX5_comes_163 : decode cX5_comes 163 = .ok (.getfield 37, 3) := by decide +kernel
theorem dX5_comes_166 : decode cX5_comes 166 = .ok (.iload_n 2, 1) := by decide +kernel
theorem dX5_comes_167 : decode cX5_comes 167 = .ok (.iconst 1, 1) := by decide +kernel
theorem dX5_comes_168 : decode cX5_comes 168 = .ok (.iadd, 1) := by decide +kernel
theorem dX5_comes_169 : decode cX5_comes 169 = .ok (.iaload, 1) := by decide +kernel
theorem dX5_comes_170 : decode cX5_comes 170 = .ok (.aload_n 0, 1) := by decide +kernel
theorem dX5_comes_171 : decode cX5_comes 171 = .ok (.getfield 37, 3) := by decide +kernel
theorem dX5_comes_174 : decode cX5_comes 174 = .ok (.iload_n 2, 1) := by decide +kernel
theorem dX5_comes_175 : decode cX5_comes 175 = .ok (.iconst 2, 1) := by decide +kernel
theorem dX5_comes_176 : decode cX5_comes 176 = .ok (.iadd, 1) := by decide +kernel
theorem dX5_comes_177 : decode cX5_comes 177 = .ok (.iaload, 1) := by decide +kernel
theorem dX5_comes_178 : decode cX5_comes 178 = .ok (.invokevirtual 116, 3) := by decide +kernel
theorem dX5_comes_181 : decode cX5_comes 181 = .ok (.iconst 1, 1) := by decide +kernel
theorem dX5_comes_182 : decode cX5_comes 182 = .ok (.ireturn, 1) := by decide +kernel
theorem dX5_comes_183 : decode cX5_comes 183 = .ok (.aload_n 0, 1) := by decide +kernel
theorem dX5_comes_184 : decode cX5_comes 184 = .ok (.getfield 37, 3) := by decide +kernel
theorem dX5_comes_187 : decode cX5_comes 187 = .ok (.iload_n 2, 1) := by decide +kernel
theorem dX5_comes_188 : decode cX5_comes 188 = .ok (.iaload, 1) := by decide +kernel
theorem dX5_comes_189 : decode cX5_comes 189 = .ok (.invokestatic 113, 3) := by decide +kernel
theorem dX5_comes_192 : decode cX5_comes 192 = .ok (.ifCond .eq 24, 3) := by decide +kernel
theorem dX5_comes_195 : decode cX5_comes 195 = .ok (.aload_n 0, 1) := by decide +kernel
theorem dX5_comes_196 : decode cX5_comes 196 = .ok (.aload_n 0, 1) := by decide +kernel
theorem dX5_comes_197 : decode cX5_comes 197 = .ok (.getfield 37, 3) := by decide +kernel
theorem dX5_comes_200 : decode cX5_comes 200 = .ok (.iload_n 2, 1) := by decide +kernel
theorem dX5_comes_201 : decode cX5_comes 201 = .ok (.iaload, 1) := by decide +kernel
theorem dX5_comes_202 : decode cX5_comes 202 = .ok (.aload_n 0, 1) := by decide +kernel
theorem dX5_comes_203 : decode cX5_comes 203 = .ok (.getfield 37, 3) := by decide +kernel
theorem dX5_comes_206 : decode cX5_comes 206 = .ok (.iload_n 2, 1) := by decide +kernel
theorem dX5_comes_207 : decode cX5_comes 207 = .ok (.iconst 1, 1) := by decide +kernel
theorem dX5_comes_208 : decode cX5_comes 208 = .ok (.iadd, 1) := by decide +kernel
theorem dX5_comes_209 : decode cX5_comes 209 = .ok (.iaload, 1) := by decide +kernel
theorem dX5_comes_210 : decode cX5_comes 210 = .ok (.invokevirtual 120, 3) := by decide +kernel
theorem dX5_comes_213 : decode cX5_comes 213 = .ok (.ifCond .ne 5, 3) := by decide +kernel
theorem dX5_comes_216 : decode cX5_comes 216 = .ok (.iconst 0, 1) := by decide +kernel
theorem dX5_comes_217 : decode cX5_comes 217 = .ok (.ireturn, 1) := by decide +kernel
theorem dX5_comes_218 : decode cX5_comes 218 = .ok (.aload_n 0, 1) := by decide +kernel
theorem dX5_comes_219 : decode cX5_comes 219 = .ok (.aload_n 0, 1) := by decide +kernel
theorem dX5_comes_220 : decode cX5_comes 220 = .ok (.getfield 37, 3) := by decide +kernel
theorem dX5_comes_223 : decode cX5_comes 223 = .ok (.iload_n 2, 1) := by decide +kernel
theorem dX5_comes_224 : decode cX5_comes 224 = .ok (.iaload, 1) := by decide +kernel
theorem dX5_comes_225 : decode cX5_comes 225 = .ok (.aload_n 0, 1) := by decide +kernel
theorem dX5_comes_226 : decode cX5_comes 226 = .ok (.getfield 37, 3) := by decide +kernel
theorem dX5_comes_229 : decode cX5_comes 229 = .ok (.iload_n 2, 1) := by decide +kernel
theorem dX5_comes_230 : decode cX5_comes 230 = .ok (.iconst 1, 1) := by decide +kernel
theorem dX5_comes_231 : decode cX5_comes 231 = .ok (.iadd, 1) := by decide +kernel
theorem dX5_comes_232 : decode cX5_comes 232 = .ok (.iaload, 1) := by decide +kernel
theorem dX5_comes_233 : decode cX5_comes 233 = .ok (.invokevirtual 124, 3) := by decide +kernel
theorem dX5_comes_236 : decode cX5_comes 236 = .ok (.iconst 1, 1) := by decide +kernel
theorem dX5_comes_237 : decode cX5_comes 237 = .ok (.ireturn, 1) := by decide +kernel
theorem dX5_comes_238 : decode cX5_comes 238 = .ok (.aload_n 0, 1) := by decide +kernel
theorem dX5_comes_239 : decode cX5_comes 239 = .ok (.getfield 37, 3) := by decide +kernel
theorem dX5_comes_242 : decode cX5_comes 242 = .ok (.iload_n 2, 1) := by decide +kernel
theorem dX5_comes_243 : decode cX5_comes 243 = .ok (.iaload, 1) := by decide +kernel
theorem dX5_comes_244 : decode cX5_comes 244 = .ok (.invokestatic 113, 3) := by decide +kernel
theorem dX5_comes_247 : decode cX5_comes 247 = .ok (.ifCond .eq 12, 3) := by decide +kernel
theorem dX5_comes_250 : decode cX5_comes 250 = .ok (.aload_n 0, 1) := by decide +kernel
theorem dX5_comes_251 : decode cX5_comes 251 = .ok (.getfield 128, 3) := by decide +kernel
theorem dX5_comes_254 : decode cX5_comes 254 = .ok (.bipush 6, 2) := by decide +kernel
theorem dX5_comes_256 : decode cX5_comes 256 = .ok (.if_icmp .ne 5, 3) := by decide +kernel
theorem dX5_comes_259 : decode cX5_comes 259 = .ok (.iconst 0, 1) := by decide +kernel
theorem dX5_comes_260 : decode cX5_comes 260 = .ok (.ireturn, 1) := by decide +kernel
theorem dX5_comes_261 : decode cX5_comes 261 = .ok (.aload_n 0, 1) := by decide +kernel
theorem dX5_comes_262 : decode cX5_comes 262 = .ok (.aload_n 0, 1) := by decide +kernel
theorem dX5_comes_263 : decode cX5_comes 263 = .ok (.getfield 37, 3) := by decide +kernel
theorem dX5_comes_266 : decode cX5_comes 266 = .ok (.iload_n 2, 1) := by decide +kernel
theorem dX5_comes_267 : decode cX5_comes 267 = .ok (.iaload, 1) := by decide +kernel
theorem dX5_comes_268 : decode cX5_comes 268 = .ok (.aload_n 0, 1) := by decide +kernel
theorem dX5_comes_269 : decode cX5_comes 269 = .ok (.getfield 37, 3) := by decide +kernel
theorem dX5_comes_272 : decode cX5_comes 272 = .ok (.iload_n 2, 1) := by decide +kernel
theorem dX5_comes_273 : decode cX5_comes 273 = .ok (.iconst 1, 1) := by decide +kernel
theorem dX5_comes_274 : decode cX5_comes 274 = .ok (.iadd, 1) := by decide +kernel
theorem dX5_comes_275 : decode cX5_comes 275 = .ok (.iaload, 1) := by decide +kernel
theorem dX5_comes_276 : decode cX5_comes 276 = .ok (.invokevirtual 131, 3) := by decide +kernel
theorem dX5_comes_279 : decode cX5_comes 279 = .ok (.iconst 1, 1) := by decide +kernel
theorem dX5_comes_280 : decode cX5_comes 280 = .ok (.ireturn, 1) := by decide +kernel
theorem dX5_comesPipe_0 : decode cX5_comesPipe 0 = .ok (.aload_n 0, 1) := by decide +kernel
theorem dX5_comesPipe_1 : decode cX5_comesPipe 1 = .ok (.getfield 19, 3) := by decide +kernel
theorem dX5_comesPipe_4 : decode cX5_comesPipe 4 = .ok (.aload_n 0, 1) := by decide +kernel
theorem dX5_comesPipe_5 : decode cX5_comesPipe 5 = .ok (.getfield 128, 3) := by decide +kernel
theorem dX5_comesPipe_8 : decode cX5_comesPipe 8 = .ok (.iload_n 1, 1) := by decide +kernel
theorem dX5_comesPipe_9 : decode cX5_comesPipe 9 = .ok (.iastore, 1) := by decide +kernel
theorem dX5_comesPipe_10 : decode cX5_comesPipe 10 = .ok (.aload_n 0, 1) := by decide +kernel
theorem dX5_comesPipe_11 : decode cX5_comesPipe 11 = .ok (.getfield 22, 3) := by decide +kernel
theorem dX5_comesPipe_14 : decode cX5_comesPipe 14 = .ok (.aload_n 0, 1) := by decide +kernel
theorem dX5_comesPipe_15 : decode cX5_comesPipe 15 = .ok (.getfield 128, 3) := by decide +kernel
theorem dX5_comesPipe_18 : decode cX5_comesPipe 18 = .ok (.iload_n 2, 1) := by decide +kernel
theorem dX5_comesPipe_19 : decode cX5_comesPipe 19 = .ok (.iastore, 1) := by decide +kernel
theorem dX5_comesPipe_20 : decode cX5_comesPipe 20 = .ok (.aload_n 0, 1) := by decide +kernel
theorem dX5_comesPipe_21 : decode cX5_comesPipe 21 = .ok (.dup, 1) := by decide +kernel
theorem dX5_comesPipe_22 : decode cX5_comesPipe 22 = .ok (.getfield 128, 3) := by decide +kernel
theorem dX5_comesPipe_25 : decode cX5_comesPipe 25 = .ok (.iconst 1, 1) := by decide +kernel
theorem dX5_comesPipe_26 : decode cX5_comesPipe 26 = .ok (.iadd, 1) := by decide +kernel
theorem dX5_comesPipe_27 : decode cX5_comesPipe 27 = .ok (.putfield 128, 3) := by decide +kernel
theorem dX5_comesPipe_30 : decode cX5_comesPipe 30 = .ok (.return_, 1) := by decide +kernel
theorem dX5_wall_0 : decode cX5_wall 0 = .ok (.aload_n 0, 1) := by decide +kernel
theorem dX5_wall_1 : decode cX5_wall 1 = .ok (.iconst 0, 1) := by decide +kernel
theorem dX5_wall_2 : decode cX5_wall 2 = .ok (.putfield 70, 3) := by decide +kernel
theorem dX5_wall_5 : decode cX5_wall 5 = .ok (.aload_n 0, 1) := by decide +kernel
theorem dX5_wall_6 : decode cX5_wall 6 = .ok (.iconst 0, 1) := by decide +kernel
theorem dX5_wall_7 : decode cX5_wall 7 = .ok (.putfield 97, 3) := by decide +kernel
theorem dX5_wall_10 : decode cX5_wall 10 = .ok (.iconst 1, 1) := by decide +kernel
theorem dX5_wall_11 : decode cX5_wall 11 = .ok (.istore_n 1, 1) := by decide +kernel
theorem dX5_wall_12 : decode cX5_wall 12 = .ok (.iload_n 1, 1) := by decide +kernel
theorem dX5_wall_13 : decode cX5_wall 13 = .ok (.ifCond .eq 47, 3) := by decide +kernel
theorem dX5_wall_16 : decode cX5_wall 16 = .ok (.aload_n 0, 1) := by decide +kernel
theorem dX5_wall_17 : decode cX5_wall 17 = .ok (.getfield 70, 3) := by decide +kernel
theorem dX5_wall_20 : decode cX5_wall 20 = .ok (.aload_n 0, 1) := by decide +kernel
theorem dX5_wall_21 : decode cX5_wall 21 = .ok (.getfield 63, 3) := by decide +kernel
theorem dX5_wall_24 : decode cX5_wall 24 = .ok (.if_icmp .lt 10, 3) := by decide +kernel
theorem dX5_wall_27 : decode cX5_wall 27 = .ok (.aload_n 0, 1) := by decide +kernel
theorem dX5_wall_28 : decode cX5_wall 28 = .ok (.getfield 97, 3) := by decide +kernel
theorem dX5_wall_31 : decode cX5_wall 31 = .ok (.ifCond .ne 29, 3) := by decide +kernel
theorem dX5_wall_34 : decode cX5_wall 34 = .ok (.aload_n 0, 1) := by decide +kernel
theorem dX5_wall_35 : decode cX5_wall 35 = .ok (.invokevirtual 134, 3) := by decide +kernel
theorem dX5_wall_38 : decode cX5_wall 38 = .ok (.istore_n 1, 1) := by decide +kernel
theorem dX5_wall_39 : decode cX5_wall 39 = .ok (.aload_n 0, 1) := by decide +kernel
theorem dX5_wall_40 : decode cX5_wall 40 = .ok (.dup, 1) := by decide +kernel
theorem dX5_wall_41 : decode cX5_wall 41 = .ok (.getfield 97, 3) := by decide +kernel
theorem dX5_wall_44 : decode cX5_wall 44 = .ok (.iload_n 1, 1) := by decide +kernel
theorem dX5_wall_45 : decode cX5_wall 45 = .ok (.ifCond .eq 7, 3) := by decide +kernel
theorem dX5_wall_48 : decode cX5_wall 48 = .ok (.iconst 1, 1) := by decide +kernel
theorem dX5_wall_49 : decode cX5_wall 49 = .ok (.goto 4, 3) := by decide +kernel
theorem dX5_wall_52 : decode cX5_wall 52 = .ok (.iconst 0, 1) := by decide +kernel
theorem dX5_wall_53 : decode cX5_wall 53 = .ok (.iadd, 1) := by decide +kernel
theorem dX5_wall_54 : decode cX5_wall 54 = .ok (.putfield 97, 3) := by decide +kernel
theorem dX5_wall_57 : decode cX5_wall 57 = .ok (.goto (-45), 3) := by decide +kernel
theorem dX5_wall_60 : decode cX5_wall 60 = .ok (.aload_n 0, 1) := by decide +kernel
theorem dX5_wall_61 : decode cX5_wall 61 = .ok (.iconst 0, 1) := by decide +kernel
theorem dX5_wall_62 : decode cX5_wall 62 = .ok (.putfield 63, 3) := by decide +kernel
theorem dX5_wall_65 : decode cX5_wall 65 = .ok (.iload_n 1, 1) := by decide +kernel
theorem dX5_wall_66 : decode cX5_wall 66 = .ok (.ifCond .ne 12, 3) := by decide +kernel
theorem dX5_wall_69 : decode cX5_wall 69 = .ok (.sipush (-1000), 3) := by decide +kernel
theorem dX5_wall_72 : decode cX5_wall 72 = .ok (.aload_n 0, 1) := by decide +kernel
theorem dX5_wall_73 : decode cX5_wall 73 = .ok (.getfield 70, 3) := by decide +kernel
theorem dX5_wall_76 : decode cX5_wall 76 = .ok (.isub, 1) := by decide +kernel
theorem dX5_wall_77 : decode cX5_wall 77 = .ok (.ireturn, 1) := by decide +kernel
theorem dX5_wall_78 : decode cX5_wall 78 = .ok (.aload_n 0, 1) := by decide +kernel
theorem dX5_wall_79 : decode cX5_wall 79 = .ok (.iconst 1, 1) := by decide +kernel
theorem dX5_wall_80 : decode cX5_wall 80 = .ok (.iconst 1, 1) := by decide +kernel
theorem dX5_wall_81 : decode cX5_wall 81 = .ok (.invokevirtual 138, 3) := by decide +kernel
theorem dX5_wall_84 : decode cX5_wall 84 = .ok (.iconst 0, 1) := by decide +kernel
theorem dX5_wall_85 : decode cX5_wall 85 = .ok (.istore_n 2, 1) := by decide +kernel
theorem dX5_wall_86 : decode cX5_wall 86 = .ok (.iload_n 2, 1) := by decide +kernel
theorem dX5_wall_87 : decode cX5_wall 87 = .ok (.aload_n 0, 1) := by decide +kernel
theorem dX5_wall_88 : decode cX5_wall 88 = .ok (.getfield 97, 3) := by decide +kernel
theorem dX5_wall_91 : decode cX5_wall 91 = .ok (.if_icmp .ge 37, 3) := by decide +kernel
theorem dX5_wall_94 : decode cX5_wall 94 = .ok (.aload_n 0, 1) := by decide +kernel
theorem dX5_wall_95 : decode cX5_wall 95 = .ok (.iload_n 2, 1) := by decide +kernel
theorem dX5_wall_96 : decode cX5_wall 96 = .ok (.invokevirtual 142, 3) := by decide +kernel
theorem dX5_wall_99 : decode cX5_wall 99 = .ok (.ifCond .eq 6, 3) := by decide +kernel
theorem dX5_wall_102 : decode cX5_wall 102 = .ok (.goto 20, 3) := by decide +kernel
theorem dX5_wall_105 : decode cX5_wall 105 = .ok (.aload_n 0, 1) := by decide +kernel
theorem dX5_wall_106 : decode cX5_wall 106 = .ok (.iconst 1, 1) := by decide +kernel
theorem dX5_wall_107 : decode cX5_wall 107 = .ok (.iconst 0, 1) := by decide +kernel
theorem dX5_wall_108 : decode cX5_wall 108 = .ok (.invokevirtual 138, 3) := by decide +kernel
theorem dX5_wall_111 : decode cX5_wall 111 = .ok (.sipush (-2000), 3) := by decide +kernel
theorem dX5_wall_114 : decode cX5_wall 114 = .ok (.aload_n 0, 1) := by decide +kernel
theorem dX5_wall_115 : decode cX5_wall 115 = .ok (.getfield 34, 3) := by decide +kernel
theorem dX5_wall_118 : decode cX5_wall 118 = .ok (.iload_n 2, 1) := by decide +kernel
theorem dX5_wall_119 : decode cX5_wall 119 = .ok (.iaload, 1) := by decide +kernel
theorem dX5_wall_120 : decode cX5_wall 120 = .ok (.isub, 1) := by decide +kernel
theorem dX5_wall_121 : decode cX5_wall 121 = .ok (.ireturn, 1) := by decide +kernel
theorem dX5_wall_122 : decode cX5_wall 122 = .ok (.iinc 2 1, 3) := by decide +kernel
theorem dX5_wall_125 : decode cX5_wall 125 = .ok (.goto (-39), 3) := by decide +kernel
theorem dX5_wall_128 : decode cX5_wall 128 = .ok (.aload_n 0, 1) := by decide +kernel
theorem dX5_wall_129 : decode cX5_wall 129 = .ok (.getfield 97, 3) := by decide +kernel
theorem dX5_wall_132 : decode cX5_wall 132 = .ok (.ireturn, 1) := by decide +kernel
theorem dX5_passes_0 : decode cX5_passes 0 = .ok (.iconst 0, 1) := by decide +kernel
theorem dX5_passes_1 : decode cX5_passes 1 = .ok (.istore_n 2, 1) := by decide +kernel
theorem dX5_passes_2 : decode cX5_passes 2 = .ok (.iload_n 2, 1) := by decide +kernel
theorem dX5_passes_3 : decode cX5_passes 3 = .ok (.aload_n 1, 1) := by decide +kernel
theorem dX5_passes_4 : decode cX5_passes 4 = .ok (.arraylength, 1) := by decide +kernel
theorem dX5_passes_5 : decode cX5_passes 5 = .ok (.if_icmp .ge 53, 3) := by decide +kernel
theorem dX5_passes_8 : decode cX5_passes 8 = .ok (.aload_n 0, 1) := by decide +kernel
theorem dX5_passes_9 : decode cX5_passes 9 = .ok (.getfield 145, 3) := by decide +kernel
theorem dX5_passes_12 : decode cX5_passes 12 = .ok (.ifCond .eq 18, 3) := by decide +kernel
theorem dX5_passes_15 : decode cX5_passes 15 = .ok (.aload_n 0, 1) := by decide +kernel
theorem dX5_passes_16 : decode cX5_passes 16 = .ok (.getfield 40, 3) := by decide +kernel
theorem dX5_passes_19 : decode cX5_passes 19 = .ok (.aload_n 0, 1) := by decide +kernel
theorem dX5_passes_20 : decode cX5_passes 20 = .ok (.getfield 149, 3) := by decide +kernel
theorem dX5_passes_23 : decode cX5_passes 23 = .ok (.aload_n 1, 1) := by decide +kernel
theorem dX5_passes_24 : decode cX5_passes 24 = .ok (.iload_n 2, 1) := by decide +kernel
theorem dX5_passes_25 : decode cX5_passes 25 = .ok (.iaload, 1) := by decide +kernel
theorem dX5_passes_26 : decode cX5_passes 26 = .ok (.iastore, 1) := by decide +kernel
theorem dX5_passes_27 : decode cX5_passes 27 = .ok (.goto 15, 3) := by decide +kernel
theorem dX5_passes_30 : decode cX5_passes 30 = .ok (.aload_n 1, 1) := by decide +kernel
theorem dX5_passes_31 : decode cX5_passes 31 = .ok (.iload_n 2, 1) := by decide +kernel
theorem dX5_passes_32 : decode cX5_passes 32 = .ok (.aload_n 0, 1) := by decide +kernel
theorem dX5_passes_33 : decode cX5_passes 33 = .ok (.getfield 40, 3) := by decide +kernel
theorem dX5_passes_36 : decode cX5_passes 36 = .ok (.aload_n 0, 1) := by decide +kernel
theorem dX5_passes_37 : decode cX5_passes 37 = .ok (.getfield 149, 3) := by decide +kernel
theorem dX5_passes_40 : decode cX5_passes 40 = .ok (.iaload, 1) := by decide +kernel
theorem dX5_passes_41 : decode cX5_passes 41 = .ok (.iastore, 1) := by decide +kernel
theorem dX5_passes_42 : decode cX5_passes 42 = .ok (.aload_n 0, 1) := by decide +kernel
theorem dX5_passes_43 : decode cX5_passes 43 = .ok (.dup, 1) := by decide +kernel
theorem dX5_passes_44 : decode cX5_passes 44 = .ok (.getfield 149, 3) := by decide +kernel
theorem dX5_passes_47 : decode cX5_passes 47 = .ok (.iconst 1, 1) := by decide +kernel
theorem dX5_passes_48 : decode cX5_passes 48 = .ok (.iadd, 1) := by decide +kernel
theorem dX5_passes_49 : decode cX5_passes 49 = .ok (.putfield 149, 3) := by decide +kernel
theorem dX5_passes_52 : decode cX5_passes 52 = .ok (.iinc 2 1, 3) := by decide +kernel
theorem dX5_passes_55 : decode cX5_passes 55 = .ok (.goto (-53), 3) := by decide +kernel
theorem dX5_passes_58 : decode cX5_passes 58 = .ok (.return_, 1) := by decide +kernel
theorem dX5_passOne_0 : decode cX5_passOne 0 = .ok (.aload_n 0, 1) := by decide +kernel
theorem dX5_passOne_1 : decode cX5_passOne 1 = .ok (.getfield 145, 3) := by decide +kernel
theorem dX5_passOne_4 : decode cX5_passOne 4 = .ok (.ifCond .eq 7, 3) := by decide +kernel
theorem dX5_passOne_7 : decode cX5_passOne 7 = .ok (.iload_n 1, 1) := by decide +kernel
theorem dX5_passOne_8 : decode cX5_passOne 8 = .ok (.goto 12, 3) := by decide +kernel
theorem dX5_passOne_11 : decode cX5_passOne 11 = .ok (.aload_n 0, 1) := by decide +kernel
theorem dX5_passOne_12 : decode cX5_passOne 12 = .ok (.getfield 40, 3) := by decide +kernel
theorem dX5_passOne_15 : decode cX5_passOne 15 = .ok (.aload_n 0, 1) := by decide +kernel
theorem dX5_passOne_16 : decode cX5_passOne 16 = .ok (.getfield 149, 3) := by decide +kernel
theorem dX5_passOne_19 : decode cX5_passOne 19 = .ok (.iaload, 1) := by decide +kernel
theorem dX5_passOne_20 : decode cX5_passOne 20 = .ok (.istore_n 2, 1) := by decide +kernel
theorem dX5_passOne_21 : decode cX5_passOne 21 = .ok (.aload_n 0, 1) := by decide +kernel
theorem dX5_passOne_22 : decode cX5_passOne 22 = .ok (.getfield 145, 3) := by decide +kernel
theorem dX5_passOne_25 : decode cX5_passOne 25 = .ok (.ifCond .eq 13, 3) := by decide +kernel
theorem dX5_passOne_28 : decode cX5_passOne 28 = .ok (.aload_n 0, 1) := by decide +kernel
theorem dX5_passOne_29 : decode cX5_passOne 29 = .ok (.getfield 40, 3) := by decide +kernel
theorem dX5_passOne_32 : decode cX5_passOne 32 = .ok (.aload_n 0, 1) := by decide +kernel
theorem dX5_passOne_33 : decode cX5_passOne 33 = .ok (.getfield 149, 3) := by decide +kernel
theorem dX5_passOne_36 : decode cX5_passOne 36 = .ok (.iload_n 1, 1) := by decide +kernel
theorem dX5_passOne_37 : decode cX5_passOne 37 = .ok (.iastore, 1) := by decide +kernel
theorem dX5_passOne_38 : decode cX5_passOne 38 = .ok (.aload_n 0, 1) := by decide +kernel
theorem dX5_passOne_39 : decode cX5_passOne 39 = .ok (.dup, 1) := by decide +kernel
theorem dX5_passOne_40 : decode cX5_passOne 40 = .ok (.getfield 149, 3) := by decide +kernel
theorem dX5_passOne_43 : decode cX5_passOne 43 = .ok (.iconst 1, 1) := by decide +kernel
theorem dX5_passOne_44 : decode cX5_passOne 44 = .ok (.iadd, 1) := by decide +kernel
theorem dX5_passOne_45 : decode cX5_passOne 45 = .ok (.putfield 149, 3) := by decide +kernel
theorem dX5_passOne_48 : decode cX5_passOne 48 = .ok (.iload_n 2, 1) := by decide +kernel
theorem dX5_passOne_49 : decode cX5_passOne 49 = .ok (.ireturn, 1) := by decide +kernel
theorem dX5_passesAll_0 : decode cX5_passesAll 0 = .ok (.aload_n 0, 1) := by decide +kernel
theorem dX5_passesAll_1 : decode cX5_passesAll 1 = .ok (.bipush 100, 2) := by decide +kernel
theorem dX5_passesAll_3 : decode cX5_passesAll 3 = .ok (.iload_n 1, 1) := by decide +kernel
theorem dX5_passesAll_4 : decode cX5_passesAll 4 = .ok (.imul, 1) := by decide +kernel
theorem dX5_passesAll_5 : decode cX5_passesAll 5 = .ok (.putfield 149, 3) := by decide +kernel
theorem dX5_passesAll_8 : decode cX5_passesAll 8 = .ok (.aload_n 0, 1) := by decide +kernel
theorem dX5_passesAll_9 : decode cX5_passesAll 9 = .ok (.iload_n 2, 1) := by decide +kernel
theorem dX5_passesAll_10 : decode cX5_passesAll 10 = .ok (.putfield 145, 3) := by decide +kernel
theorem dX5_passesAll_13 : decode cX5_passesAll 13 = .ok (.aload_n 0, 1) := by decide +kernel
theorem dX5_passesAll_14 : decode cX5_passesAll 14 = .ok (.aload_n 0, 1) := by decide +kernel
theorem dX5_passesAll_15 : decode cX5_passesAll 15 = .ok (.getfield 13, 3) := by decide +kernel
theorem dX5_passesAll_18 : decode cX5_passesAll 18 = .ok (.invokevirtual 152, 3) := by decide +kernel
theorem dX5_passesAll_21 : decode cX5_passesAll 21 = .ok (.aload_n 0, 1) := by decide +kernel
theorem dX5_passesAll_22 : decode cX5_passesAll 22 = .ok (.aload_n 0, 1) := by decide +kernel
theorem dX5_passesAll_23 : decode cX5_passesAll 23 = .ok (.getfield 16, 3) := by decide +kernel
theorem dX5_passesAll_26 : decode cX5_passesAll 26 = .ok (.invokevirtual 152, 3) := by decide +kernel
theorem dX5_passesAll_29 : decode cX5_passesAll 29 = .ok (.aload_n 0, 1) := by decide +kernel
theorem dX5_passesAll_30 : decode cX5_passesAll 30 = .ok (.aload_n 0, 1) := by decide +kernel
theorem dX5_passesAll_31 : decode cX5_passesAll 31 = .ok (.getfield 19, 3) := by decide +kernel
theorem dX5_passesAll_34 : decode cX5_passesAll 34 = .ok (.invokevirtual 152, 3) := by decide +kernel
theorem dX5_passesAll_37 : decode cX5_passesAll 37 = .ok (.aload_n 0, 1) := by decide +kernel
theorem dX5_passesAll_38 : decode cX5_passesAll 38 = .ok (.aload_n 0, 1) := by decide +kernel
theorem dX5_passesAll_39 : decode cX5_passesAll 39 = .ok (.getfield 22, 3) := by decide +kernel
theorem dX5_passesAll_42 : decode cX5_passesAll 42 = .ok (.invokevirtual 152, 3) := by decide +kernel
theorem dX5_passesAll_45 : decode cX5_passesAll 45 = .ok (.aload_n 0, 1) := by decide +kernel
theorem dX5_passesAll_46 : decode cX5_passesAll 46 = .ok (.aload_n 0, 1) := by decide +kernel
theorem dX5_passesAll_47 : decode cX5_passesAll 47 = .ok (.getfield 25, 3) := by decide +kernel
theorem dX5_passesAll_50 : decode cX5_passesAll 50 = .ok (.invokevirtual 152, 3) := by decide +kernel
theorem dX5_passesAll_53 : decode cX5_passesAll 53 = .ok (.aload_n 0, 1) := by decide +kernel
theorem dX5_passesAll_54 : decode cX5_passesAll 54 = .ok (.aload_n 0, 1) := by decide +kernel
theorem dX5_passesAll_55 : decode cX5_passesAll 55 = .ok (.aload_n 0, 1) := by decide +kernel
theorem dX5_passesAll_56 : decode cX5_passesAll 56 = .ok (.getfield 128, 3) := by decide +kernel
theorem dX5_passesAll_59 : decode cX5_passesAll 59 = .ok (.invokevirtual 156, 3) := by decide +kernel
theorem dX5_passesAll_62 : decode cX5_passesAll 62 = .ok (.putfield 128, 3) := by decide +kernel
theorem dX5_passesAll_65 : decode cX5_passesAll 65 = .ok (.aload_n 0, 1) := by decide +kernel
theorem dX5_passesAll_66 : decode cX5_passesAll 66 = .ok (.aload_n 0, 1) := by decide +kernel
theorem dX5_passesAll_67 : decode cX5_passesAll 67 = .ok (.aload_n 0, 1) := by decide +kernel
theorem dX5_passesAll_68 : decode cX5_passesAll 68 = .ok (.getfield 55, 3) := by decide +kernel
theorem dX5_passesAll_71 : decode cX5_passesAll 71 = .ok (.invokevirtual 156, 3) := by decide +kernel
theorem dX5_passesAll_74 : decode cX5_passesAll 74 = .ok (.putfield 55, 3) := by decide +kernel
theorem dX5_passesAll_77 : decode cX5_passesAll 77 = .ok (.return_, 1) := by decide +kernel
theorem dX5_image_0 : decode cX5_image 0 = .ok (.aload_n 0, 1) := by decide +kernel
theorem dX5_image_1 : decode cX5_image 1 = .ok (.iconst 1, 1) := by decide +kernel
theorem dX5_image_2 : decode cX5_image 2 = .ok (.putfield 159, 3) := by decide +kernel
theorem dX5_image_5 : decode cX5_image 5 = .ok (.aload_n 0, 1) := by decide +kernel
theorem dX5_image_6 : decode cX5_image 6 = .ok (.iconst 0, 1) := by decide +kernel
theorem dX5_image_7 : decode cX5_image 7 = .ok (.iconst 1, 1) := by decide +kernel
theorem dX5_image_8 : decode cX5_image 8 = .ok (.invokevirtual 138, 3) := by decide +kernel
theorem dX5_image_11 : decode cX5_image 11 = .ok (.aload_n 0, 1) := by decide +kernel
theorem dX5_image_12 : decode cX5_image 12 = .ok (.getfield 55, 3) := by decide +kernel
theorem dX5_image_15 : decode cX5_image 15 = .ok (.ireturn, 1) := by decide +kernel
theorem dX5_on_0 : decode cX5_on 0 = .ok (.aload_n 0, 1) := by decide +kernel
theorem dX5_on_1 : decode cX5_on 1 = .ok (.getfield 159, 3) := by decide +kernel
theorem dX5_on_4 : decode cX5_on 4 = .ok (.ifCond .ne 10, 3) := by decide +kernel
theorem dX5_on_7 : decode cX5_on 7 = .ok (.aload_n 0, 1) := by decide +kernel
theorem dX5_on_8 : decode cX5_on 8 = .ok (.bipush (-3), 2) := by decide +kernel
theorem dX5_on_10 : decode cX5_on 10 = .ok (.invokevirtual 66, 3) := by decide +kernel
theorem dX5_on_13 : decode cX5_on 13 = .ok (.ireturn, 1) := by decide +kernel
theorem dX5_on_14 : decode cX5_on 14 = .ok (.aload_n 0, 1) := by decide +kernel
theorem dX5_on_15 : decode cX5_on 15 = .ok (.iconst 0, 1) := by decide +kernel
theorem dX5_on_16 : decode cX5_on 16 = .ok (.iconst 0, 1) := by decide +kernel
theorem dX5_on_17 : decode cX5_on 17 = .ok (.invokevirtual 138, 3) := by decide +kernel
theorem dX5_on_20 : decode cX5_on 20 = .ok (.aload_n 0, 1) := by decide +kernel
theorem dX5_on_21 : decode cX5_on 21 = .ok (.getfield 55, 3) := by decide +kernel
theorem dX5_on_24 : decode cX5_on 24 = .ok (.ireturn, 1) := by decide +kernel
theorem dX5_isLeft_0 : decode cX5_isLeft 0 = .ok (.iload_n 1, 1) := by decide +kernel
theorem dX5_isLeft_1 : decode cX5_isLeft 1 = .ok (.iload_n 2, 1) := by decide +kernel
theorem dX5_isLeft_2 : decode cX5_isLeft 2 = .ok (.isub, 1) := by decide +kernel
theorem dX5_isLeft_3 : decode cX5_isLeft 3 = .ok (.aload_n 0, 1) := by decide +kernel
theorem dX5_isLeft_4 : decode cX5_isLeft 4 = .ok (.getfield 13, 3) := by decide +kernel
theorem dX5_isLeft_7 : decode cX5_isLeft 7 = .ok (.iconst 0, 1) := by decide +kernel
theorem dX5_isLeft_8 : decode cX5_isLeft 8 = .ok (.iaload, 1) := by decide +kernel
theorem dX5_isLeft_9 : decode cX5_isLeft 9 = .ok (.invokestatic 162, 3) := by decide +kernel
theorem dX5_isLeft_12 : decode cX5_isLeft 12 = .ok (.aload_n 0, 1) := by decide +kernel
theorem dX5_isLeft_13 : decode cX5_isLeft 13 = .ok (.getfield 13, 3) := by decide +kernel
theorem dX5_isLeft_16 : decode cX5_isLeft 16 = .ok (.iconst 1, 1) := by decide +kernel
theorem dX5_isLeft_17 : decode cX5_isLeft 17 = .ok (.iaload, 1) := by decide +kernel
theorem dX5_isLeft_18 : decode cX5_isLeft 18 = .ok (.if_icmp .ge 7, 3) := by decide +kernel
theorem dX5_isLeft_21 : decode cX5_isLeft 21 = .ok (.iconst 1, 1) := by decide +kernel
theorem dX5_isLeft_22 : decode cX5_isLeft 22 = .ok (.goto 4, 3) := by decide +kernel
theorem dX5_isLeft_25 : decode cX5_isLeft 25 = .ok (.iconst 0, 1) := by decide +kernel
theorem dX5_isLeft_26 : decode cX5_isLeft 26 = .ok (.ireturn, 1) := by decide +kernel
theorem dX5_isDoored_0 : decode cX5_isDoored 0 = .ok (.aload_n 0, 1) := by decide +kernel
theorem dX5_isDoored_1 : decode cX5_isDoored 1 = .ok (.iload_n 1, 1) := by decide +kernel
theorem dX5_isDoored_2 : decode cX5_isDoored 2 = .ok (.iload_n 2, 1) := by decide +kernel
theorem dX5_isDoored_3 : decode cX5_isDoored 3 = .ok (.invokevirtual 165, 3) := by decide +kernel
theorem dX5_isDoored_6 : decode cX5_isDoored 6 = .ok (.ifCond .ne 31, 3) := by decide +kernel
theorem dX5_isDoored_9 : decode cX5_isDoored 9 = .ok (.iload_n 1, 1) := by decide +kernel
theorem dX5_isDoored_10 : decode cX5_isDoored 10 = .ok (.aload_n 0, 1) := by decide +kernel
theorem dX5_isDoored_11 : decode cX5_isDoored 11 = .ok (.getfield 13, 3) := by decide +kernel
theorem dX5_isDoored_14 : decode cX5_isDoored 14 = .ok (.iconst 2, 1) := by decide +kernel
theorem dX5_isDoored_15 : decode cX5_isDoored 15 = .ok (.iaload, 1) := by decide +kernel
theorem dX5_isDoored_16 : decode cX5_isDoored 16 = .ok (.aload_n 0, 1) := by decide +kernel
theorem dX5_isDoored_17 : decode cX5_isDoored 17 = .ok (.getfield 13, 3) := by decide +kernel
theorem dX5_isDoored_20 : decode cX5_isDoored 20 = .ok (.iconst 2, 1) := by decide +kernel
theorem dX5_isDoored_21 : decode cX5_isDoored 21 = .ok (.iaload, 1) := by decide +kernel
theorem dX5_isDoored_22 : decode cX5_isDoored 22 = .ok (.aload_n 0, 1) := by decide +kernel
theorem dX5_isDoored_23 : decode cX5_isDoored 23 = .ok (.getfield 13, 3) := by decide +kernel
theorem dX5_isDoored_26 : decode cX5_isDoored 26 = .ok (.iconst 1, 1) := by decide +kernel
theorem dX5_isDoored_27 : decode cX5_isDoored 27 = .ok (.iaload, 1) := by decide +kernel
theorem dX5_isDoored_28 : decode cX5_isDoored 28 = .ok (.iadd, 1) := by decide +kernel
theorem dX5_isDoored_29 : decode cX5_isDoored 29 = .ok (.iconst 1, 1) := by decide +kernel
theorem dX5_isDoored_30 : decode cX5_isDoored 30 = .ok (.isub, 1) := by decide +kernel
theorem dX5_isDoored_31 : decode cX5_isDoored 31 = .ok (.invokestatic 77, 3) := by decide +kernel
theorem dX5_isDoored_34 : decode cX5_isDoored 34 = .ok (.ifCond .eq 7, 3) := by decide +kernel
theorem dX5_isDoored_37 : decode cX5_isDoored 37 = .ok (.iconst 1, 1) := by decide +kernel
theorem dX5_isDoored_38 : decode cX5_isDoored 38 = .ok (.goto 4, 3) := by decide +kernel
theorem dX5_isDoored_41 : decode cX5_isDoored 41 = .ok (.iconst 0, 1) := by decide +kernel
theorem dX5_isDoored_42 : decode cX5_isDoored 42 = .ok (.ireturn, 1) := by decide +kernel
theorem dX5_isWood_0 : decode cX5_isWood 0 = .ok (.aload_n 0, 1) := by decide +kernel
theorem dX5_isWood_1 : decode cX5_isWood 1 = .ok (.getfield 13, 3) := by decide +kernel
theorem dX5_isWood_4 : decode cX5_isWood 4 = .ok (.iconst 3, 1) := by decide +kernel
theorem dX5_isWood_5 : decode cX5_isWood 5 = .ok (.iaload, 1) := by decide +kernel
theorem dX5_isWood_6 : decode cX5_isWood 6 = .ok (.tableswitch 146 1 5 #[34, 44, 51, 92, 125], 34) := by decide +kernel
theorem dX5_isWood_40 : decode cX5_isWood 40 = .ok (.aload_n 0, 1) := by decide +kernel
theorem dX5_isWood_41 : decode cX5_isWood 41 = .ok (.bipush 47, 2) := by decide +kernel
theorem dX5_isWood_43 : decode cX5_isWood 43 = .ok (.iload_n 1, 1) := by decide +kernel
theorem dX5_isWood_44 : decode cX5_isWood 44 = .ok (.isub, 1) := by decide +kernel
theorem dX5_isWood_45 : decode cX5_isWood 45 = .ok (.iload_n 2, 1) := by decide +kernel
theorem dX5_isWood_46 : decode cX5_isWood 46 = .ok (.invokevirtual 165, 3) := by decide +kernel
theorem dX5_isWood_49 : decode cX5_isWood 49 = .ok (.ireturn, 1) := by decide +kernel
theorem dX5_isWood_50 : decode cX5_isWood 50 = .ok (.aload_n 0, 1) := by decide +kernel
theorem dX5_isWood_51 : decode cX5_isWood 51 = .ok (.iload_n 1, 1) := by decide +kernel
theorem dX5_isWood_52 : decode cX5_isWood 52 = .ok (.iload_n 2, 1) := by decide +kernel
theorem dX5_isWood_53 : decode cX5_isWood 53 = .ok (.invokevirtual 168, 3) := by decide +kernel
theorem dX5_isWood_56 : decode cX5_isWood 56 = .ok (.ireturn, 1) := by decide +kernel
theorem dX5_isWood_57 : decode cX5_isWood 57 = .ok (.aload_n 0, 1) := by decide +kernel
theorem dX5_isWood_58 : decode cX5_isWood 58 = .ok (.bipush 47, 2) := by decide +kernel
theorem dX5_isWood_60 : decode cX5_isWood 60 = .ok (.iload_n 1, 1) := by decide +kernel
theorem dX5_isWood_61 : decode cX5_isWood 61 = .ok (.isub, 1) := by decide +kernel
theorem dX5_isWood_62 : decode cX5_isWood 62 = .ok (.iload_n 2, 1) := by decide +kernel
theorem dX5_isWood_63 : decode cX5_isWood 63 = .ok (.invokevirtual 165, 3) := by decide +kernel
theorem dX5_isWood_66 : decode cX5_isWood 66 = .ok (.ifCond .ne 26, 3) := by decide +kernel
theorem dX5_isWood_69 : decode cX5_isWood 69 = .ok (.iload_n 1, 1) := by decide +kernel
theorem dX5_isWood_70 : decode cX5_isWood 70 = .ok (.aload_n 0, 1) := by decide +kernel
theorem dX5_isWood_71 : decode cX5_isWood 71 = .ok (.getfield 13, 3) := by decide +kernel
theorem dX5_isWood_74 : decode cX5_isWood 74 = .ok (.iconst 1, 1) := by decide +kernel
theorem dX5_isWood_75 : decode cX5_isWood 75 = .ok (.iaload, 1) := by decide +kernel
theorem dX5_isWood_76 : decode cX5_isWood 76 = .ok (.if_icmp .lt 16, 3) := by decide +kernel
theorem dX5_isWood_79 : decode cX5_isWood 79 = .ok (.iload_n 1, 1) := by decide +kernel
theorem dX5_isWood_80 : decode cX5_isWood 80 = .ok (.bipush 47, 2) := by decide +kernel
theorem dX5_isWood_82 : decode cX5_isWood 82 = .ok (.aload_n 0, 1) := by decide +kernel
theorem dX5_isWood_83 : decode cX5_isWood 83 = .ok (.getfield 13, 3) := by decide +kernel
theorem dX5_isWood_86 : decode cX5_isWood 86 = .ok (.iconst 1, 1) := by decide +kernel
theorem dX5_isWood_87 : decode cX5_isWood 87 = .ok (.iaload, 1) := by decide +kernel
theorem dX5_isWood_88 : decode cX5_isWood 88 = .ok (.isub, 1) := by decide +kernel
theorem dX5_isWood_89 : decode cX5_isWood 89 = .ok (.if_icmp .le 7, 3) := by decide +kernel
theorem dX5_isWood_92 : decode cX5_isWood 92 = .ok (.iconst 1, 1) := by decide +kernel
theorem dX5_isWood_93 : decode cX5_isWood 93 = .ok (.goto 4, 3) := by decide +kernel
theorem dX5_isWood_96 : decode cX5_isWood 96 = .ok (.iconst 0, 1) := by decide +kernel
theorem dX5_isWood_97 : decode cX5_isWood 97 = .ok (.ireturn, 1) := by decide +kernel
theorem dX5_isWood_98 : decode cX5_isWood 98 = .ok (.aload_n 0, 1) := by decide +kernel
theorem dX5_isWood_99 : decode cX5_isWood 99 = .ok (.iload_n 1, 1) := by decide +kernel
theorem dX5_isWood_100 : decode cX5_isWood 100 = .ok (.iload_n 2, 1) := by decide +kernel
theorem dX5_isWood_101 : decode cX5_isWood 101 = .ok (.invokevirtual 168, 3) := by decide +kernel
theorem dX5_isWood_104 : decode cX5_isWood 104 = .ok (.ifCond .ne 21, 3) := by decide +kernel
theorem dX5_isWood_107 : decode cX5_isWood 107 = .ok (.aload_n 0, 1) := by decide +kernel
theorem dX5_isWood_108 : decode cX5_isWood 108 = .ok (.iload_n 1, 1) := by decide +kernel
theorem dX5_isWood_109 : decode cX5_isWood 109 = .ok (.aload_n 0, 1) := by decide +kernel
theorem dX5_isWood_110 : decode cX5_isWood 110 = .ok (.getfield 13, 3) := by decide +kernel
theorem dX5_isWood_113 : decode cX5_isWood 113 = .ok (.iconst 0, 1) := by decide +kernel
theorem dX5_isWood_114 : decode cX5_isWood 114 = .ok (.iaload, 1) := by decide +kernel
theorem dX5_isWood_115 : decode cX5_isWood 115 = .ok (.iconst 2, 1) := by decide +kernel
theorem dX5_isWood_116 : decode cX5_isWood 116 = .ok (.idiv, 1) := by decide +kernel
theorem dX5_isWood_117 : decode cX5_isWood 117 = .ok (.iadd, 1) := by decide +kernel
theorem dX5_isWood_118 : decode cX5_isWood 118 = .ok (.iload_n 2, 1) := by decide +kernel
theorem dX5_isWood_119 : decode cX5_isWood 119 = .ok (.invokevirtual 168, 3) := by decide +kernel
theorem dX5_isWood_122 : decode cX5_isWood 122 = .ok (.ifCond .eq 7, 3) := by decide +kernel
theorem dX5_isWood_125 : decode cX5_isWood 125 = .ok (.iconst 1, 1) := by decide +kernel
theorem dX5_isWood_126 : decode cX5_isWood 126 = .ok (.goto 4, 3) := by decide +kernel
theorem dX5_isWood_129 : decode cX5_isWood 129 = .ok (.iconst 0, 1) := by decide +kernel
theorem dX5_isWood_130 : decode cX5_isWood 130 = .ok (.ireturn, 1) := by decide +kernel
theorem dX5_isWood_131 : decode cX5_isWood 131 = .ok (.iload_n 1, 1) := by decide +kernel
theorem dX5_isWood_132 : decode cX5_isWood 132 = .ok (.bipush 40, 2) := by decide +kernel
theorem dX5_isWood_134 : decode cX5_isWood 134 = .ok (.if_icmp .ge 16, 3) := by decide +kernel
theorem dX5_isWood_137 : decode cX5_isWood 137 = .ok (.aload_n 0, 1) := by decide +kernel
theorem dX5_isWood_138 : decode cX5_isWood 138 = .ok (.iload_n 1, 1) := by decide +kernel
theorem dX5_isWood_139 : decode cX5_isWood 139 = .ok (.iload_n 2, 1) := by decide +kernel
theorem dX5_isWood_140 : decode cX5_isWood 140 = .ok (.invokevirtual 165, 3) := by decide +kernel
theorem dX5_isWood_143 : decode cX5_isWood 143 = .ok (.ifCond .eq 7, 3) := by decide +kernel
theorem dX5_isWood_146 : decode cX5_isWood 146 = .ok (.iconst 1, 1) := by decide +kernel
theorem dX5_isWood_147 : decode cX5_isWood 147 = .ok (.goto 4, 3) := by decide +kernel
theorem dX5_isWood_150 : decode cX5_isWood 150 = .ok (.iconst 0, 1) := by decide +kernel
theorem dX5_isWood_151 : decode cX5_isWood 151 = .ok (.ireturn, 1) := by decide +kernel
theorem dX5_isWood_152 : decode cX5_isWood 152 = .ok (.aload_n 0, 1) := by decide +kernel
theorem dX5_isWood_153 : decode cX5_isWood 153 = .ok (.iload_n 1, 1) := by decide +kernel
theorem dX5_isWood_154 : decode cX5_isWood 154 = .ok (.iload_n 2, 1) := by decide +kernel
theorem dX5_isWood_155 : decode cX5_isWood 155 = .ok (.invokevirtual 165, 3) := by decide +kernel
theorem dX5_isWood_158 : decode cX5_isWood 158 = .ok (.ireturn, 1) := by decide +kernel
theorem dX5_inWood_0 : decode cX5_inWood 0 = .ok (.iload_n 0, 1) := by decide +kernel
theorem dX5_inWood_1 : decode cX5_inWood 1 = .ok (.tableswitch 42 1 4 #[31, 33, 36, 39], 31) := by decide +kernel
theorem dX5_inWood_32 : decode cX5_inWood 32 = .ok (.iconst 4, 1) := by decide +kernel
theorem dX5_inWood_33 : decode cX5_inWood 33 = .ok (.ireturn, 1) := by decide +kernel
theorem dX5_inWood_34 : decode cX5_inWood 34 = .ok (.bipush 6, 2) := by decide +kernel
theorem dX5_inWood_36 : decode cX5_inWood 36 = .ok (.ireturn, 1) := by decide +kernel
theorem dX5_inWood_37 : decode cX5_inWood 37 = .ok (.bipush 8, 2) := by decide +kernel
theorem dX5_inWood_39 : decode cX5_inWood 39 = .ok (.ireturn, 1) := by decide +kernel
theorem dX5_inWood_40 : decode cX5_inWood 40 = .ok (.bipush 9, 2) := by decide +kernel
theorem dX5_inWood_42 : decode cX5_inWood 42 = .ok (.ireturn, 1) := by decide +kernel
theorem dX5_inWood_43 : decode cX5_inWood 43 = .ok (.bipush 7, 2) := by decide +kernel
theorem dX5_inWood_45 : decode cX5_inWood 45 = .ok (.ireturn, 1) := by decide +kernel
theorem dX5_inNone_0 : decode cX5_inNone 0 = .ok (.iload_n 0, 1) := by decide +kernel
theorem dX5_inNone_1 : decode cX5_inNone 1 = .ok (.ifCond .ne 8, 3) := by decide +kernel
theorem dX5_inNone_4 : decode cX5_inNone 4 = .ok (.bipush 7, 2) := by decide +kernel
theorem dX5_inNone_6 : decode cX5_inNone 6 = .ok (.goto 15, 3) := by decide +kernel
theorem dX5_inNone_9 : decode cX5_inNone 9 = .ok (.iload_n 0, 1) := by decide +kernel
theorem dX5_inNone_10 : decode cX5_inNone 10 = .ok (.iconst 3, 1) := by decide +kernel
theorem dX5_inNone_11 : decode cX5_inNone 11 = .ok (.if_icmp .ne 8, 3) := by decide +kernel
theorem dX5_inNone_14 : decode cX5_inNone 14 = .ok (.bipush 6, 2) := by decide +kernel
theorem dX5_inNone_16 : decode cX5_inNone 16 = .ok (.goto 5, 3) := by decide +kernel
theorem dX5_inNone_19 : decode cX5_inNone 19 = .ok (.bipush 9, 2) := by decide +kernel
theorem dX5_inNone_21 : decode cX5_inNone 21 = .ok (.ireturn, 1) := by decide +kernel
theorem dX5_costOf_0 : decode cX5_costOf 0 = .ok (.iload_n 0, 1) := by decide +kernel
theorem dX5_costOf_1 : decode cX5_costOf 1 = .ok (.iconst 1, 1) := by decide +kernel
theorem dX5_costOf_2 : decode cX5_costOf 2 = .ok (.if_icmp .ne 7, 3) := by decide +kernel
theorem dX5_costOf_5 : decode cX5_costOf 5 = .ok (.iconst 3, 1) := by decide +kernel
theorem dX5_costOf_6 : decode cX5_costOf 6 = .ok (.goto 22, 3) := by decide +kernel
theorem dX5_costOf_9 : decode cX5_costOf 9 = .ok (.iload_n 0, 1) := by decide +kernel
theorem dX5_costOf_10 : decode cX5_costOf 10 = .ok (.iconst 2, 1) := by decide +kernel
theorem dX5_costOf_11 : decode cX5_costOf 11 = .ok (.if_icmp .ne 7, 3) := by decide +kernel
theorem dX5_costOf_14 : decode cX5_costOf 14 = .ok (.iconst 2, 1) := by decide +kernel
theorem dX5_costOf_15 : decode cX5_costOf 15 = .ok (.goto 13, 3) := by decide +kernel
theorem dX5_costOf_18 : decode cX5_costOf 18 = .ok (.iload_n 0, 1) := by decide +kernel
theorem dX5_costOf_19 : decode cX5_costOf 19 = .ok (.iconst 4, 1) := by decide +kernel
theorem dX5_costOf_20 : decode cX5_costOf 20 = .ok (.if_icmp .ne 7, 3) := by decide +kernel
theorem dX5_costOf_23 : decode cX5_costOf 23 = .ok (.iconst 5, 1) := by decide +kernel
theorem dX5_costOf_24 : decode cX5_costOf 24 = .ok (.goto 4, 3) := by decide +kernel
theorem dX5_costOf_27 : decode cX5_costOf 27 = .ok (.iconst 1, 1) := by decide +kernel
theorem dX5_costOf_28 : decode cX5_costOf 28 = .ok (.ireturn, 1) := by decide +kernel
theorem dX5_tenths_0 : decode cX5_tenths 0 = .ok (.aload_n 0, 1) := by decide +kernel
theorem dX5_tenths_1 : decode cX5_tenths 1 = .ok (.iload_n 2, 1) := by decide +kernel
theorem dX5_tenths_2 : decode cX5_tenths 2 = .ok (.iload 4, 2) := by decide +kernel
theorem dX5_tenths_4 : decode cX5_tenths 4 = .ok (.invokevirtual 171, 3) := by decide +kernel
theorem dX5_tenths_7 : decode cX5_tenths 7 = .ok (.istore 5, 2) := by decide +kernel
theorem dX5_tenths_9 : decode cX5_tenths 9 = .ok (.iload 5, 2) := by decide +kernel
theorem dX5_tenths_11 : decode cX5_tenths 11 = .ok (.ifCond .eq 10, 3) := by decide +kernel
theorem dX5_tenths_14 : decode cX5_tenths 14 = .ok (.iload_n 1, 1) := by decide +kernel
theorem dX5_tenths_15 : decode cX5_tenths 15 = .ok (.invokestatic 174, 3) := by decide +kernel
theorem dX5_tenths_18 : decode cX5_tenths 18 = .ok (.goto 7, 3) := by decide +kernel
theorem dX5_tenths_21 : decode cX5_tenths 21 = .ok (.iload_n 1, 1) := by decide +kernel
theorem dX5_tenths_22 : decode cX5_tenths 22 = .ok (.invokestatic 177, 3) := by decide +kernel
theorem dX5_tenths_25 : decode cX5_tenths 25 = .ok (.istore 6, 2) := by decide +kernel
theorem dX5_tenths_27 : decode cX5_tenths 27 = .ok (.iload 5, 2) := by decide +kernel
theorem dX5_tenths_29 : decode cX5_tenths 29 = .ok (.iload_n 3, 1) := by decide +kernel
theorem dX5_tenths_30 : decode cX5_tenths 30 = .ok (.iconst 1, 1) := by decide +kernel
theorem dX5_tenths_31 : decode cX5_tenths 31 = .ok (.if_icmp .ne 7, 3) := by decide +kernel
theorem dX5_tenths_34 : decode cX5_tenths 34 = .ok (.iconst 1, 1) := by decide +kernel
theorem dX5_tenths_35 : decode cX5_tenths 35 = .ok (.goto 4, 3) := by decide +kernel
theorem dX5_tenths_38 : decode cX5_tenths 38 = .ok (.iconst 0, 1) := by decide +kernel
theorem dX5_tenths_39 : decode cX5_tenths 39 = .ok (.if_icmp .ne 8, 3) := by decide +kernel
theorem dX5_tenths_42 : decode cX5_tenths 42 = .ok (.iload 6, 2) := by decide +kernel
theorem dX5_tenths_44 : decode cX5_tenths 44 = .ok (.goto 8, 3) := by decide +kernel
theorem dX5_tenths_47 : decode cX5_tenths 47 = .ok (.bipush 10, 2) := by decide +kernel
theorem dX5_tenths_49 : decode cX5_tenths 49 = .ok (.iload 6, 2) := by decide +kernel
theorem dX5_tenths_51 : decode cX5_tenths 51 = .ok (.isub, 1) := by decide +kernel
theorem dX5_tenths_52 : decode cX5_tenths 52 = .ok (.ireturn, 1) := by decide +kernel
theorem dX5_divisor_0 : decode cX5_divisor 0 = .ok (.lload_n 0, 1) := by decide +kernel
theorem dX5_divisor_1 : decode cX5_divisor 1 = .ok (.lstore 4, 2) := by decide +kernel
theorem dX5_divisor_3 : decode cX5_divisor 3 = .ok (.lload_n 2, 1) := by decide +kernel
theorem dX5_divisor_4 : decode cX5_divisor 4 = .ok (.lstore 6, 2) := by decide +kernel
theorem dX5_divisor_6 : decode cX5_divisor 6 = .ok (.lload 6, 2) := by decide +kernel
theorem dX5_divisor_8 : decode cX5_divisor 8 = .ok (.lconst 0, 1) := by decide +kernel
theorem dX5_divisor_9 : decode cX5_divisor 9 = .ok (.lcmp, 1) := by decide +kernel
theorem dX5_divisor_10 : decode cX5_divisor 10 = .ok (.ifCond .eq 21, 3) := by decide +kernel
theorem dX5_divisor_13 : decode cX5_divisor 13 = .ok (.lload 4, 2) := by decide +kernel
theorem dX5_divisor_15 : decode cX5_divisor 15 = .ok (.lload 6, 2) := by decide +kernel
theorem dX5_divisor_17 : decode cX5_divisor 17 = .ok (.lrem, 1) := by decide +kernel
theorem dX5_divisor_18 : decode cX5_divisor 18 = .ok (.lstore 8, 2) := by decide +kernel
theorem dX5_divisor_20 : decode cX5_divisor 20 = .ok (.lload 6, 2) := by decide +kernel
theorem dX5_divisor_22 : decode cX5_divisor 22 = .ok (.lstore 4, 2) := by decide +kernel
theorem dX5_divisor_24 : decode cX5_divisor 24 = .ok (.lload 8, 2) := by decide +kernel
theorem dX5_divisor_26 : decode cX5_divisor 26 = .ok (.lstore 6, 2) := by decide +kernel
theorem dX5_divisor_28 : decode cX5_divisor 28 = .ok (.goto (-22), 3) := by decide +kernel
theorem dX5_divisor_31 : decode cX5_divisor 31 = .ok (.lload 4, 2) := by decide +kernel
theorem dX5_divisor_33 : decode cX5_divisor 33 = .ok (.lreturn, 1) := by decide +kernel
theorem dX5_divides_0 : decode cX5_divides 0 = .ok (.lconst 0, 1) := by decide +kernel
theorem dX5_divides_1 : decode cX5_divides 1 = .ok (.lstore_n 1, 1) := by decide +kernel
theorem dX5_divides_2 : decode cX5_divides 2 = .ok (.iconst 0, 1) := by decide +kernel
theorem dX5_divides_3 : decode cX5_divides 3 = .ok (.istore_n 3, 1) := by decide +kernel
theorem dX5_divides_4 : decode cX5_divides 4 = .ok (.iload_n 3, 1) := by decide +kernel
theorem dX5_divides_5 : decode cX5_divides 5 = .ok (.aload_n 0, 1) := by decide +kernel
theorem dX5_divides_6 : decode cX5_divides 6 = .ok (.getfield 13, 3) := by decide +kernel
theorem dX5_divides_9 : decode cX5_divides 9 = .ok (.iconst 0, 1) := by decide +kernel
theorem dX5_divides_10 : decode cX5_divides 10 = .ok (.iaload, 1) := by decide +kernel
theorem dX5_divides_11 : decode cX5_divides 11 = .ok (.if_icmp .ge 21, 3) := by decide +kernel
theorem dX5_divides_14 : decode cX5_divides 14 = .ok (.lload_n 1, 1) := by decide +kernel
theorem dX5_divides_15 : decode cX5_divides 15 = .ok (.aload_n 0, 1) := by decide +kernel
theorem dX5_divides_16 : decode cX5_divides 16 = .ok (.getfield 25, 3) := by decide +kernel
theorem dX5_divides_19 : decode cX5_divides 19 = .ok (.iload_n 3, 1) := by decide +kernel
theorem dX5_divides_20 : decode cX5_divides 20 = .ok (.iaload, 1) := by decide +kernel
theorem dX5_divides_21 : decode cX5_divides 21 = .ok (.i2l, 1) := by decide +kernel
theorem dX5_divides_22 : decode cX5_divides 22 = .ok (.invokestatic 180, 3) := by decide +kernel
theorem dX5_divides_25 : decode cX5_divides 25 = .ok (.lstore_n 1, 1) := by decide +kernel
theorem dX5_divides_26 : decode cX5_divides 26 = .ok (.iinc 3 1, 3) := by decide +kernel
theorem dX5_divides_29 : decode cX5_divides 29 = .ok (.goto (-25), 3) := by decide +kernel
theorem dX5_divides_32 : decode cX5_divides 32 = .ok (.iconst 0, 1) := by decide +kernel
theorem dX5_divides_33 : decode cX5_divides 33 = .ok (.istore_n 3, 1) := by decide +kernel
theorem dX5_divides_34 : decode cX5_divides 34 = .ok (.iload_n 3, 1) := by decide +kernel
theorem dX5_divides_35 : decode cX5_divides 35 = .ok (.aload_n 0, 1) := by decide +kernel
theorem dX5_divides_36 : decode cX5_divides 36 = .ok (.getfield 13, 3) := by decide +kernel
theorem dX5_divides_39 : decode cX5_divides 39 = .ok (.iconst 0, 1) := by decide +kernel
theorem dX5_divides_40 : decode cX5_divides 40 = .ok (.iaload, 1) := by decide +kernel
theorem dX5_divides_41 : decode cX5_divides 41 = .ok (.if_icmp .ge 26, 3) := by decide +kernel
theorem dX5_divides_44 : decode cX5_divides 44 = .ok (.lload_n 1, 1) := by decide +kernel
theorem dX5_divides_45 : decode cX5_divides 45 = .ok (.lconst 1, 1) := by decide +kernel
theorem dX5_divides_46 : decode cX5_divides 46 = .ok (.lcmp, 1) := by decide +kernel
theorem dX5_divides_47 : decode cX5_divides 47 = .ok (.ifCond .le 20, 3) := by decide +kernel
theorem dX5_divides_50 : decode cX5_divides 50 = .ok (.aload_n 0, 1) := by decide +kernel
theorem dX5_divides_51 : decode cX5_divides 51 = .ok (.getfield 25, 3) := by decide +kernel
theorem dX5_divides_54 : decode cX5_divides 54 = .ok (.iload_n 3, 1) := by decide +kernel
theorem dX5_divides_55 : decode cX5_divides 55 = .ok (.dup2, 1) := by decide +kernel
theorem dX5_divides_56 : decode cX5_divides 56 = .ok (.iaload, 1) := by decide +kernel
theorem dX5_divides_57 : decode cX5_divides 57 = .ok (.lload_n 1, 1) := by decide +kernel
theorem dX5_divides_58 : decode cX5_divides 58 = .ok (.l2i, 1) := by decide +kernel
theorem dX5_divides_59 : decode cX5_divides 59 = .ok (.idiv, 1) := by decide +kernel
theorem dX5_divides_60 : decode cX5_divides 60 = .ok (.iastore, 1) := by decide +kernel
theorem dX5_divides_61 : decode cX5_divides 61 = .ok (.iinc 3 1, 3) := by decide +kernel
theorem dX5_divides_64 : decode cX5_divides 64 = .ok (.goto (-30), 3) := by decide +kernel
theorem dX5_divides_67 : decode cX5_divides 67 = .ok (.return_, 1) := by decide +kernel
theorem dX5_tells_0 : decode cX5_tells 0 = .ok (.iconst 0, 1) := by decide +kernel
theorem dX5_tells_1 : decode cX5_tells 1 = .ok (.istore 4, 2) := by decide +kernel
theorem dX5_tells_3 : decode cX5_tells 3 = .ok (.iload 4, 2) := by decide +kernel
theorem dX5_tells_5 : decode cX5_tells 5 = .ok (.aload_n 0, 1) := by decide +kernel
theorem dX5_tells_6 : decode cX5_tells 6 = .ok (.getfield 13, 3) := by decide +kernel
theorem dX5_tells_9 : decode cX5_tells 9 = .ok (.iconst 0, 1) := by decide +kernel
theorem dX5_tells_10 : decode cX5_tells 10 = .ok (.iaload, 1) := by decide +kernel
theorem dX5_tells_11 : decode cX5_tells 11 = .ok (.if_icmp .ge 28, 3) := by decide +kernel
theorem dX5_tells_14 : decode cX5_tells 14 = .ok (.aload_n 0, 1) := by decide +kernel
theorem dX5_tells_15 : decode cX5_tells 15 = .ok (.getfield 25, 3) := by decide +kernel
theorem dX5_tells_18 : decode cX5_tells 18 = .ok (.iload 4, 2) := by decide +kernel
theorem dX5_tells_20 : decode cX5_tells 20 = .ok (.dup2, 1) := by decide +kernel
theorem dX5_tells_21 : decode cX5_tells 21 = .ok (.iaload, 1) := by decide +kernel
theorem dX5_tells_22 : decode cX5_tells 22 = .ok (.aload_n 0, 1) := by decide +kernel
theorem dX5_tells_23 : decode cX5_tells 23 = .ok (.iload_n 1, 1) := by decide +kernel
theorem dX5_tells_24 : decode cX5_tells 24 = .ok (.iload_n 2, 1) := by decide +kernel
theorem dX5_tells_25 : decode cX5_tells 25 = .ok (.iload_n 3, 1) := by decide +kernel
theorem dX5_tells_26 : decode cX5_tells 26 = .ok (.iload 4, 2) := by decide +kernel
theorem dX5_tells_28 : decode cX5_tells 28 = .ok (.invokevirtual 184, 3) := by decide +kernel
theorem dX5_tells_31 : decode cX5_tells 31 = .ok (.imul, 1) := by decide +kernel
theorem dX5_tells_32 : decode cX5_tells 32 = .ok (.iastore, 1) := by decide +kernel
theorem dX5_tells_33 : decode cX5_tells 33 = .ok (.iinc 4 1, 3) := by decide +kernel
theorem dX5_tells_36 : decode cX5_tells 36 = .ok (.goto (-33), 3) := by decide +kernel
theorem dX5_tells_39 : decode cX5_tells 39 = .ok (.aload_n 0, 1) := by decide +kernel
theorem dX5_tells_40 : decode cX5_tells 40 = .ok (.invokevirtual 188, 3) := by decide +kernel
theorem dX5_tells_43 : decode cX5_tells 43 = .ok (.aload_n 0, 1) := by decide +kernel
theorem dX5_tells_44 : decode cX5_tells 44 = .ok (.dup, 1) := by decide +kernel
theorem dX5_tells_45 : decode cX5_tells 45 = .ok (.getfield 55, 3) := by decide +kernel
theorem dX5_tells_48 : decode cX5_tells 48 = .ok (.iconst 1, 1) := by decide +kernel
theorem dX5_tells_49 : decode cX5_tells 49 = .ok (.iadd, 1) := by decide +kernel
theorem dX5_tells_50 : decode cX5_tells 50 = .ok (.putfield 55, 3) := by decide +kernel
theorem dX5_tells_53 : decode cX5_tells 53 = .ok (.iload_n 1, 1) := by decide +kernel
theorem dX5_tells_54 : decode cX5_tells 54 = .ok (.iconst 4, 1) := by decide +kernel
theorem dX5_tells_55 : decode cX5_tells 55 = .ok (.if_icmp .ne 10, 3) := by decide +kernel
theorem dX5_tells_58 : decode cX5_tells 58 = .ok (.aload_n 0, 1) := by decide +kernel
theorem dX5_tells_59 : decode cX5_tells 59 = .ok (.getfield 16, 3) := by decide +kernel
theorem dX5_tells_62 : decode cX5_tells 62 = .ok (.iload_n 2, 1) := by decide +kernel
theorem dX5_tells_63 : decode cX5_tells 63 = .ok (.iconst 1, 1) := by decide +kernel
theorem dX5_tells_64 : decode cX5_tells 64 = .ok (.iastore, 1) := by decide +kernel
theorem dX5_tells_65 : decode cX5_tells 65 = .ok (.return_, 1) := by decide +kernel
theorem dX5_leftBy_0 : decode cX5_leftBy 0 = .ok (.iconst 0, 1) := by decide +kernel
theorem dX5_leftBy_1 : decode cX5_leftBy 1 = .ok (.istore_n 3, 1) := by decide +kernel
theorem dX5_leftBy_2 : decode cX5_leftBy 2 = .ok (.iconst 0, 1) := by decide +kernel
theorem dX5_leftBy_3 : decode cX5_leftBy 3 = .ok (.istore 4, 2) := by decide +kernel
theorem dX5_leftBy_5 : decode cX5_leftBy 5 = .ok (.iload 4, 2) := by decide +kernel
theorem dX5_leftBy_7 : decode cX5_leftBy 7 = .ok (.aload_n 0, 1) := by decide +kernel
theorem dX5_leftBy_8 : decode cX5_leftBy 8 = .ok (.getfield 13, 3) := by decide +kernel
theorem dX5_leftBy_11 : decode cX5_leftBy 11 = .ok (.iconst 0, 1) := by decide +kernel
theorem dX5_leftBy_12 : decode cX5_leftBy 12 = .ok (.iaload, 1) := by decide +kernel
theorem dX5_leftBy_13 : decode cX5_leftBy 13 = .ok (.if_icmp .ge 47, 3) := by decide +kernel
theorem dX5_leftBy_16 : decode cX5_leftBy 16 = .ok (.iload_n 3, 1) := by decide +kernel
theorem dX5_leftBy_17 : decode cX5_leftBy 17 = .ok (.aload_n 0, 1) := by decide +kernel
theorem dX5_leftBy_18 : decode cX5_leftBy 18 = .ok (.getfield 25, 3) := by decide +kernel
theorem dX5_leftBy_21 : decode cX5_leftBy 21 = .ok (.iload 4, 2) := by decide +kernel
theorem dX5_leftBy_23 : decode cX5_leftBy 23 = .ok (.iaload, 1) := by decide +kernel
theorem dX5_leftBy_24 : decode cX5_leftBy 24 = .ok (.ifCond .le 27, 3) := by decide +kernel
theorem dX5_leftBy_27 : decode cX5_leftBy 27 = .ok (.aload_n 0, 1) := by decide +kernel
theorem dX5_leftBy_28 : decode cX5_leftBy 28 = .ok (.iload_n 1, 1) := by decide +kernel
theorem dX5_leftBy_29 : decode cX5_leftBy 29 = .ok (.iload 4, 2) := by decide +kernel
theorem dX5_leftBy_31 : decode cX5_leftBy 31 = .ok (.invokevirtual 171, 3) := by decide +kernel
theorem dX5_leftBy_34 : decode cX5_leftBy 34 = .ok (.iload_n 2, 1) := by decide +kernel
theorem dX5_leftBy_35 : decode cX5_leftBy 35 = .ok (.iconst 1, 1) := by decide +kernel
theorem dX5_leftBy_36 : decode cX5_leftBy 36 = .ok (.if_icmp .ne 7, 3) := by decide +kernel
theorem dX5_leftBy_39 : decode cX5_leftBy 39 = .ok (.iconst 1, 1) := by decide +kernel
theorem dX5_leftBy_40 : decode cX5_leftBy 40 = .ok (.goto 4, 3) := by decide +kernel
theorem dX5_leftBy_43 : decode cX5_leftBy 43 = .ok (.iconst 0, 1) := by decide +kernel
theorem dX5_leftBy_44 : decode cX5_leftBy 44 = .ok (.if_icmp .ne 7, 3) := by decide +kernel
theorem dX5_leftBy_47 : decode cX5_leftBy 47 = .ok (.iconst 1, 1) := by decide +kernel
theorem dX5_leftBy_48 : decode cX5_leftBy 48 = .ok (.goto 4, 3) := by decide +kernel
theorem dX5_leftBy_51 : decode cX5_leftBy 51 = .ok (.iconst 0, 1) := by decide +kernel
theorem dX5_leftBy_52 : decode cX5_leftBy 52 = .ok (.iadd, 1) := by decide +kernel
theorem dX5_leftBy_53 : decode cX5_leftBy 53 = .ok (.istore_n 3, 1) := by decide +kernel
theorem dX5_leftBy_54 : decode cX5_leftBy 54 = .ok (.iinc 4 1, 3) := by decide +kernel
theorem dX5_leftBy_57 : decode cX5_leftBy 57 = .ok (.goto (-52), 3) := by decide +kernel
theorem dX5_leftBy_60 : decode cX5_leftBy 60 = .ok (.iload_n 3, 1) := by decide +kernel
theorem dX5_leftBy_61 : decode cX5_leftBy 61 = .ok (.ireturn, 1) := by decide +kernel
theorem dX5_leaves_0 : decode cX5_leaves 0 = .ok (.iconst 0, 1) := by decide +kernel
theorem dX5_leaves_1 : decode cX5_leaves 1 = .ok (.istore_n 3, 1) := by decide +kernel
theorem dX5_leaves_2 : decode cX5_leaves 2 = .ok (.iload_n 3, 1) := by decide +kernel
theorem dX5_leaves_3 : decode cX5_leaves 3 = .ok (.aload_n 0, 1) := by decide +kernel
theorem dX5_leaves_4 : decode cX5_leaves 4 = .ok (.getfield 13, 3) := by decide +kernel
theorem dX5_leaves_7 : decode cX5_leaves 7 = .ok (.iconst 0, 1) := by decide +kernel
theorem dX5_leaves_8 : decode cX5_leaves 8 = .ok (.iaload, 1) := by decide +kernel
theorem dX5_leaves_9 : decode cX5_leaves 9 = .ok (.if_icmp .ge 44, 3) := by decide +kernel
theorem dX5_leaves_12 : decode cX5_leaves 12 = .ok (.aload_n 0, 1) := by decide +kernel
theorem dX5_leaves_13 : decode cX5_leaves 13 = .ok (.getfield 25, 3) := by decide +kernel
theorem dX5_leaves_16 : decode cX5_leaves 16 = .ok (.iload_n 3, 1) := by decide +kernel
theorem dX5_leaves_17 : decode cX5_leaves 17 = .ok (.aload_n 0, 1) := by decide +kernel
theorem dX5_leaves_18 : decode cX5_leaves 18 = .ok (.iload_n 1, 1) := by decide +kernel
theorem dX5_leaves_19 : decode cX5_leaves 19 = .ok (.iload_n 3, 1) := by decide +kernel
theorem dX5_leaves_20 : decode cX5_leaves 20 = .ok (.invokevirtual 171, 3) := by decide +kernel
theorem dX5_leaves_23 : decode cX5_leaves 23 = .ok (.iload_n 2, 1) := by decide +kernel
theorem dX5_leaves_24 : decode cX5_leaves 24 = .ok (.iconst 1, 1) := by decide +kernel
theorem dX5_leaves_25 : decode cX5_leaves 25 = .ok (.if_icmp .ne 7, 3) := by decide +kernel
theorem dX5_leaves_28 : decode cX5_leaves 28 = .ok (.iconst 1, 1) := by decide +kernel
theorem dX5_leaves_29 : decode cX5_leaves 29 = .ok (.goto 4, 3) := by decide +kernel
theorem dX5_leaves_32 : decode cX5_leaves 32 = .ok (.iconst 0, 1) := by decide +kernel
theorem dX5_leaves_33 : decode cX5_leaves 33 = .ok (.if_icmp .ne 12, 3) := by decide +kernel
theorem dX5_leaves_36 : decode cX5_leaves 36 = .ok (.aload_n 0, 1) := by decide +kernel
theorem dX5_leaves_37 : decode cX5_leaves 37 = .ok (.getfield 25, 3) := by decide +kernel
theorem dX5_leaves_40 : decode cX5_leaves 40 = .ok (.iload_n 3, 1) := by decide +kernel
theorem dX5_leaves_41 : decode cX5_leaves 41 = .ok (.iaload, 1) := by decide +kernel
theorem dX5_leaves_42 : decode cX5_leaves 42 = .ok (.goto 4, 3) := by decide +kernel
theorem dX5_leaves_45 : decode cX5_leaves 45 = .ok (.iconst 0, 1) := by decide +kernel
theorem dX5_leaves_46 : decode cX5_leaves 46 = .ok (.iastore, 1) := by decide +kernel
theorem dX5_leaves_47 : decode cX5_leaves 47 = .ok (.iinc 3 1, 3) := by decide +kernel
theorem dX5_leaves_50 : decode cX5_leaves 50 = .ok (.goto (-48), 3) := by decide +kernel
theorem dX5_leaves_53 : decode cX5_leaves 53 = .ok (.return_, 1) := by decide +kernel
theorem dX5_nails_0 : decode cX5_nails 0 = .ok (.aload_n 0, 1) := by decide +kernel
theorem dX5_nails_1 : decode cX5_nails 1 = .ok (.iload_n 1, 1) := by decide +kernel
theorem dX5_nails_2 : decode cX5_nails 2 = .ok (.iload_n 2, 1) := by decide +kernel
theorem dX5_nails_3 : decode cX5_nails 3 = .ok (.invokevirtual 191, 3) := by decide +kernel
theorem dX5_nails_6 : decode cX5_nails 6 = .ok (.aload_n 0, 1) := by decide +kernel
theorem dX5_nails_7 : decode cX5_nails 7 = .ok (.invokevirtual 188, 3) := by decide +kernel
theorem dX5_nails_10 : decode cX5_nails 10 = .ok (.aload_n 0, 1) := by decide +kernel
theorem dX5_nails_11 : decode cX5_nails 11 = .ok (.getfield 16, 3) := by decide +kernel
theorem dX5_nails_14 : decode cX5_nails 14 = .ok (.iload_n 1, 1) := by decide +kernel
theorem dX5_nails_15 : decode cX5_nails 15 = .ok (.iconst 1, 1) := by decide +kernel
theorem dX5_nails_16 : decode cX5_nails 16 = .ok (.iastore, 1) := by decide +kernel
theorem dX5_nails_17 : decode cX5_nails 17 = .ok (.return_, 1) := by decide +kernel
theorem dX5_set_0 : decode cX5_set 0 = .ok (.iload_n 1, 1) := by decide +kernel
theorem dX5_set_1 : decode cX5_set 1 = .ok (.iconst 0, 1) := by decide +kernel
theorem dX5_set_2 : decode cX5_set 2 = .ok (.iconst 3, 1) := by decide +kernel
theorem dX5_set_3 : decode cX5_set 3 = .ok (.invokestatic 77, 3) := by decide +kernel
theorem dX5_set_6 : decode cX5_set 6 = .ok (.ifCond .ne 8, 3) := by decide +kernel
theorem dX5_set_9 : decode cX5_set 9 = .ok (.bipush (-2), 2) := by decide +kernel
theorem dX5_set_11 : decode cX5_set 11 = .ok (.goto 15, 3) := by decide +kernel
theorem dX5_set_14 : decode cX5_set 14 = .ok (.iload_n 2, 1) := by decide +kernel
theorem dX5_set_15 : decode cX5_set 15 = .ok (.iload_n 1, 1) := by decide +kernel
theorem dX5_set_16 : decode cX5_set 16 = .ok (.invokestatic 104, 3) := by decide +kernel
theorem dX5_set_19 : decode cX5_set 19 = .ok (.iload_n 1, 1) := by decide +kernel
theorem dX5_set_20 : decode cX5_set 20 = .ok (.invokestatic 107, 3) := by decide +kernel
theorem dX5_set_23 : decode cX5_set 23 = .ok (.invokestatic 59, 3) := by decide +kernel
theorem dX5_set_26 : decode cX5_set 26 = .ok (.istore_n 3, 1) := by decide +kernel
theorem dX5_set_27 : decode cX5_set 27 = .ok (.iload_n 3, 1) := by decide +kernel
theorem dX5_set_28 : decode cX5_set 28 = .ok (.ifCond .eq 9, 3) := by decide +kernel
theorem dX5_set_31 : decode cX5_set 31 = .ok (.aload_n 0, 1) := by decide +kernel
theorem dX5_set_32 : decode cX5_set 32 = .ok (.iload_n 3, 1) := by decide +kernel
theorem dX5_set_33 : decode cX5_set 33 = .ok (.invokevirtual 66, 3) := by decide +kernel
theorem dX5_set_36 : decode cX5_set 36 = .ok (.ireturn, 1) := by decide +kernel
theorem dX5_set_37 : decode cX5_set 37 = .ok (.aload_n 0, 1) := by decide +kernel
theorem dX5_set_38 : decode cX5_set 38 = .ok (.getfield 13, 3) := by decide +kernel
theorem dX5_set_41 : decode cX5_set 41 = .ok (.iload_n 1, 1) := by decide +kernel
theorem dX5_set_42 : decode cX5_set 42 = .ok (.iaload, 1) := by decide +kernel
theorem dX5_set_43 : decode cX5_set 43 = .ok (.istore 4, 2) := by decide +kernel
theorem dX5_set_45 : decode cX5_set 45 = .ok (.aload_n 0, 1) := by decide +kernel
theorem dX5_set_46 : decode cX5_set 46 = .ok (.getfield 13, 3) := by decide +kernel
theorem dX5_set_49 : decode cX5_set 49 = .ok (.iload_n 1, 1) := by decide +kernel
theorem dX5_set_50 : decode cX5_set 50 = .ok (.iload_n 2, 1) := by decide +kernel
theorem dX5_set_51 : decode cX5_set 51 = .ok (.iastore, 1) := by decide +kernel
theorem dX5_set_52 : decode cX5_set 52 = .ok (.aload_n 0, 1) := by decide +kernel
theorem dX5_set_53 : decode cX5_set 53 = .ok (.invokevirtual 50, 3) := by decide +kernel
theorem dX5_set_56 : decode cX5_set 56 = .ok (.iload 4, 2) := by decide +kernel
theorem dX5_set_58 : decode cX5_set 58 = .ok (.ireturn, 1) := by decide +kernel
theorem dX5_isOffset_0 : decode cX5_isOffset 0 = .ok (.iload_n 1, 1) := by decide +kernel
theorem dX5_isOffset_1 : decode cX5_isOffset 1 = .ok (.ifCond .lt 17, 3) := by decide +kernel
theorem dX5_isOffset_4 : decode cX5_isOffset 4 = .ok (.iload_n 1, 1) := by decide +kernel
theorem dX5_isOffset_5 : decode cX5_isOffset 5 = .ok (.aload_n 0, 1) := by decide +kernel
theorem dX5_isOffset_6 : decode cX5_isOffset 6 = .ok (.getfield 13, 3) := by decide +kernel
theorem dX5_isOffset_9 : decode cX5_isOffset 9 = .ok (.iconst 0, 1) := by decide +kernel
theorem dX5_isOffset_10 : decode cX5_isOffset 10 = .ok (.iaload, 1) := by decide +kernel
theorem dX5_isOffset_11 : decode cX5_isOffset 11 = .ok (.if_icmp .ge 7, 3) := by decide +kernel
theorem dX5_isOffset_14 : decode cX5_isOffset 14 = .ok (.iconst 1, 1) := by decide +kernel
theorem dX5_isOffset_15 : decode cX5_isOffset 15 = .ok (.goto 4, 3) := by decide +kernel
theorem dX5_isOffset_18 : decode cX5_isOffset 18 = .ok (.iconst 0, 1) := by decide +kernel
theorem dX5_isOffset_19 : decode cX5_isOffset 19 = .ok (.ireturn, 1) := by decide +kernel
theorem dX5_wood_0 : decode cX5_wood 0 = .ok (.iload_n 1, 1) := by decide +kernel
theorem dX5_wood_1 : decode cX5_wood 1 = .ok (.invokestatic 113, 3) := by decide +kernel
theorem dX5_wood_4 : decode cX5_wood 4 = .ok (.ifCond .eq 11, 3) := by decide +kernel
theorem dX5_wood_7 : decode cX5_wood 7 = .ok (.aload_n 0, 1) := by decide +kernel
theorem dX5_wood_8 : decode cX5_wood 8 = .ok (.iload_n 2, 1) := by decide +kernel
theorem dX5_wood_9 : decode cX5_wood 9 = .ok (.invokevirtual 194, 3) := by decide +kernel
theorem dX5_wood_12 : decode cX5_wood 12 = .ok (.ifCond .ne 9, 3) := by decide +kernel
theorem dX5_wood_15 : decode cX5_wood 15 = .ok (.aload_n 0, 1) := by decide +kernel
theorem dX5_wood_16 : decode cX5_wood 16 = .ok (.iconst (-1), 1) := by decide +kernel
theorem dX5_wood_17 : decode cX5_wood 17 = .ok (.invokevirtual 66, 3) := by decide +kernel
theorem dX5_wood_20 : decode cX5_wood 20 = .ok (.ireturn, 1) := by decide +kernel
theorem dX5_wood_21 : decode cX5_wood 21 = .ok (.aload_n 0, 1) := by decide +kernel
theorem dX5_wood_22 : decode cX5_wood 22 = .ok (.iload_n 1, 1) := by decide +kernel
theorem dX5_wood_23 : decode cX5_wood 23 = .ok (.iload_n 2, 1) := by decide +kernel
theorem dX5_wood_24 : decode cX5_wood 24 = .ok (.invokevirtual 171, 3) := by decide +kernel
theorem dX5_wood_27 : decode cX5_wood 27 = .ok (.ifCond .eq 7, 3) := by decide +kernel
theorem dX5_wood_30 : decode cX5_wood 30 = .ok (.iconst 1, 1) := by decide +kernel
theorem dX5_wood_31 : decode cX5_wood 31 = .ok (.goto 4, 3) := by decide +kernel
theorem dX5_wood_34 : decode cX5_wood 34 = .ok (.iconst 0, 1) := by decide +kernel
theorem dX5_wood_35 : decode cX5_wood 35 = .ok (.ireturn, 1) := by decide +kernel
theorem dX5_weight_0 : decode cX5_weight 0 = .ok (.aload_n 0, 1) := by decide +kernel
theorem dX5_weight_1 : decode cX5_weight 1 = .ok (.iload_n 1, 1) := by decide +kernel
theorem dX5_weight_2 : decode cX5_weight 2 = .ok (.invokevirtual 194, 3) := by decide +kernel
theorem dX5_weight_5 : decode cX5_weight 5 = .ok (.ifCond .eq 13, 3) := by decide +kernel
theorem dX5_weight_8 : decode cX5_weight 8 = .ok (.aload_n 0, 1) := by decide +kernel
theorem dX5_weight_9 : decode cX5_weight 9 = .ok (.getfield 25, 3) := by decide +kernel
theorem dX5_weight_12 : decode cX5_weight 12 = .ok (.iload_n 1, 1) := by decide +kernel
theorem dX5_weight_13 : decode cX5_weight 13 = .ok (.iaload, 1) := by decide +kernel
theorem dX5_weight_14 : decode cX5_weight 14 = .ok (.i2l, 1) := by decide +kernel
theorem dX5_weight_15 : decode cX5_weight 15 = .ok (.goto 8, 3) := by decide +kernel
theorem dX5_weight_18 : decode cX5_weight 18 = .ok (.aload_n 0, 1) := by decide +kernel
theorem dX5_weight_19 : decode cX5_weight 19 = .ok (.iconst (-1), 1) := by decide +kernel
theorem dX5_weight_20 : decode cX5_weight 20 = .ok (.invokevirtual 197, 3) := by decide +kernel
theorem dX5_weight_23 : decode cX5_weight 23 = .ok (.lreturn, 1) := by decide +kernel
theorem dX5_tool_0 : decode cX5_tool 0 = .ok (.iload_n 1, 1) := by decide +kernel
theorem dX5_tool_1 : decode cX5_tool 1 = .ok (.iconst 0, 1) := by decide +kernel
theorem dX5_tool_2 : decode cX5_tool 2 = .ok (.iconst 4, 1) := by decide +kernel
theorem dX5_tool_3 : decode cX5_tool 3 = .ok (.invokestatic 77, 3) := by decide +kernel
theorem dX5_tool_6 : decode cX5_tool 6 = .ok (.ifCond .eq 12, 3) := by decide +kernel
theorem dX5_tool_9 : decode cX5_tool 9 = .ok (.iload_n 2, 1) := by decide +kernel
theorem dX5_tool_10 : decode cX5_tool 10 = .ok (.iconst 0, 1) := by decide +kernel
theorem dX5_tool_11 : decode cX5_tool 11 = .ok (.iconst 2, 1) := by decide +kernel
theorem dX5_tool_12 : decode cX5_tool 12 = .ok (.invokestatic 77, 3) := by decide +kernel
theorem dX5_tool_15 : decode cX5_tool 15 = .ok (.ifCond .ne 10, 3) := by decide +kernel
theorem dX5_tool_18 : decode cX5_tool 18 = .ok (.aload_n 0, 1) := by decide +kernel
theorem dX5_tool_19 : decode cX5_tool 19 = .ok (.bipush (-2), 2) := by decide +kernel
theorem dX5_tool_21 : decode cX5_tool 21 = .ok (.invokevirtual 66, 3) := by decide +kernel
theorem dX5_tool_24 : decode cX5_tool 24 = .ok (.ireturn, 1) := by decide +kernel
theorem dX5_tool_25 : decode cX5_tool 25 = .ok (.iload_n 2, 1) := by decide +kernel
theorem dX5_tool_26 : decode cX5_tool 26 = .ok (.ifCond .ne 10, 3) := by decide +kernel
theorem dX5_tool_29 : decode cX5_tool 29 = .ok (.iload_n 1, 1) := by decide +kernel
theorem dX5_tool_30 : decode cX5_tool 30 = .ok (.invokestatic 174, 3) := by decide +kernel
theorem dX5_tool_33 : decode cX5_tool 33 = .ok (.goto 19, 3) := by decide +kernel
theorem dX5_tool_36 : decode cX5_tool 36 = .ok (.iload_n 2, 1) := by decide +kernel
theorem dX5_tool_37 : decode cX5_tool 37 = .ok (.iconst 1, 1) := by decide +kernel
theorem dX5_tool_38 : decode cX5_tool 38 = .ok (.if_icmp .ne 10, 3) := by decide +kernel
theorem dX5_tool_41 : decode cX5_tool 41 = .ok (.iload_n 1, 1) := by decide +kernel
theorem dX5_tool_42 : decode cX5_tool 42 = .ok (.invokestatic 177, 3) := by decide +kernel
theorem dX5_tool_45 : decode cX5_tool 45 = .ok (.goto 7, 3) := by decide +kernel
theorem dX5_tool_48 : decode cX5_tool 48 = .ok (.iload_n 1, 1) := by decide +kernel
theorem dX5_tool_49 : decode cX5_tool 49 = .ok (.invokestatic 201, 3) := by decide +kernel
theorem dX5_tool_52 : decode cX5_tool 52 = .ok (.ireturn, 1) := by decide +kernel
theorem dX5_telling_0 : decode cX5_telling 0 = .ok (.iload_n 1, 1) := by decide +kernel
theorem dX5_telling_1 : decode cX5_telling 1 = .ok (.iconst 0, 1) := by decide +kernel
theorem dX5_telling_2 : decode cX5_telling 2 = .ok (.iconst 4, 1) := by decide +kernel
theorem dX5_telling_3 : decode cX5_telling 3 = .ok (.invokestatic 77, 3) := by decide +kernel
theorem dX5_telling_6 : decode cX5_telling 6 = .ok (.ifCond .ne 8, 3) := by decide +kernel
theorem dX5_telling_9 : decode cX5_telling 9 = .ok (.bipush (-2), 2) := by decide +kernel
theorem dX5_telling_11 : decode cX5_telling 11 = .ok (.goto 43, 3) := by decide +kernel
theorem dX5_telling_14 : decode cX5_telling 14 = .ok (.iload_n 2, 1) := by decide +kernel
theorem dX5_telling_15 : decode cX5_telling 15 = .ok (.invokestatic 113, 3) := by decide +kernel
theorem dX5_telling_18 : decode cX5_telling 18 = .ok (.ifCond .ne 7, 3) := by decide +kernel
theorem dX5_telling_21 : decode cX5_telling 21 = .ok (.iconst (-1), 1) := by decide +kernel
theorem dX5_telling_22 : decode cX5_telling 22 = .ok (.goto 32, 3) := by decide +kernel
theorem dX5_telling_25 : decode cX5_telling 25 = .ok (.iload_n 3, 1) := by decide +kernel
theorem dX5_telling_26 : decode cX5_telling 26 = .ok (.iconst 0, 1) := by decide +kernel
theorem dX5_telling_27 : decode cX5_telling 27 = .ok (.iconst 1, 1) := by decide +kernel
theorem dX5_telling_28 : decode cX5_telling 28 = .ok (.invokestatic 77, 3) := by decide +kernel
theorem dX5_telling_31 : decode cX5_telling 31 = .ok (.ifCond .ne 8, 3) := by decide +kernel
theorem dX5_telling_34 : decode cX5_telling 34 = .ok (.bipush (-2), 2) := by decide +kernel
theorem dX5_telling_36 : decode cX5_telling 36 = .ok (.goto 18, 3) := by decide +kernel
theorem dX5_telling_39 : decode cX5_telling 39 = .ok (.aload_n 0, 1) := by decide +kernel
theorem dX5_telling_40 : decode cX5_telling 40 = .ok (.getfield 55, 3) := by decide +kernel
theorem dX5_telling_43 : decode cX5_telling 43 = .ok (.bipush 6, 2) := by decide +kernel
theorem dX5_telling_45 : decode cX5_telling 45 = .ok (.if_icmp .ne 8, 3) := by decide +kernel
theorem dX5_telling_48 : decode cX5_telling 48 = .ok (.bipush (-6), 2) := by decide +kernel
theorem dX5_telling_50 : decode cX5_telling 50 = .ok (.goto 4, 3) := by decide +kernel
theorem dX5_telling_53 : decode cX5_telling 53 = .ok (.iconst 0, 1) := by decide +kernel
theorem dX5_telling_54 : decode cX5_telling 54 = .ok (.istore 4, 2) := by decide +kernel
theorem dX5_telling_56 : decode cX5_telling 56 = .ok (.iload 4, 2) := by decide +kernel
theorem dX5_telling_58 : decode cX5_telling 58 = .ok (.ifCond .eq 10, 3) := by decide +kernel
theorem dX5_telling_61 : decode cX5_telling 61 = .ok (.aload_n 0, 1) := by decide +kernel
theorem dX5_telling_62 : decode cX5_telling 62 = .ok (.iload 4, 2) := by decide +kernel
theorem dX5_telling_64 : decode cX5_telling 64 = .ok (.invokevirtual 66, 3) := by decide +kernel
theorem dX5_telling_67 : decode cX5_telling 67 = .ok (.ireturn, 1) := by decide +kernel
theorem dX5_telling_68 : decode cX5_telling 68 = .ok (.aload_n 0, 1) := by decide +kernel
theorem dX5_telling_69 : decode cX5_telling 69 = .ok (.iload_n 1, 1) := by decide +kernel
theorem dX5_telling_70 : decode cX5_telling 70 = .ok (.iload_n 2, 1) := by decide +kernel
theorem dX5_telling_71 : decode cX5_telling 71 = .ok (.iload_n 3, 1) := by decide +kernel
theorem dX5_telling_72 : decode cX5_telling 72 = .ok (.invokevirtual 116, 3) := by decide +kernel
theorem dX5_telling_75 : decode cX5_telling 75 = .ok (.aload_n 0, 1) := by decide +kernel
theorem dX5_telling_76 : decode cX5_telling 76 = .ok (.getfield 55, 3) := by decide +kernel
theorem dX5_telling_79 : decode cX5_telling 79 = .ok (.ireturn, 1) := by decide +kernel
theorem dX5_nail_0 : decode cX5_nail 0 = .ok (.iload_n 1, 1) := by decide +kernel
theorem dX5_nail_1 : decode cX5_nail 1 = .ok (.invokestatic 113, 3) := by decide +kernel
theorem dX5_nail_4 : decode cX5_nail 4 = .ok (.ifCond .ne 7, 3) := by decide +kernel
theorem dX5_nail_7 : decode cX5_nail 7 = .ok (.iconst (-1), 1) := by decide +kernel
theorem dX5_nail_8 : decode cX5_nail 8 = .ok (.goto 32, 3) := by decide +kernel
theorem dX5_nail_11 : decode cX5_nail 11 = .ok (.iload_n 2, 1) := by decide +kernel
theorem dX5_nail_12 : decode cX5_nail 12 = .ok (.iconst 0, 1) := by decide +kernel
theorem dX5_nail_13 : decode cX5_nail 13 = .ok (.iconst 1, 1) := by decide +kernel
theorem dX5_nail_14 : decode cX5_nail 14 = .ok (.invokestatic 77, 3) := by decide +kernel
theorem dX5_nail_17 : decode cX5_nail 17 = .ok (.ifCond .ne 8, 3) := by decide +kernel
theorem dX5_nail_20 : decode cX5_nail 20 = .ok (.bipush (-2), 2) := by decide +kernel
theorem dX5_nail_22 : decode cX5_nail 22 = .ok (.goto 18, 3) := by decide +kernel
theorem dX5_nail_25 : decode cX5_nail 25 = .ok (.aload_n 0, 1) := by decide +kernel
theorem dX5_nail_26 : decode cX5_nail 26 = .ok (.iload_n 1, 1) := by decide +kernel
theorem dX5_nail_27 : decode cX5_nail 27 = .ok (.iload_n 2, 1) := by decide +kernel
theorem dX5_nail_28 : decode cX5_nail 28 = .ok (.invokevirtual 120, 3) := by decide +kernel
theorem dX5_nail_31 : decode cX5_nail 31 = .ok (.ifCond .ne 8, 3) := by decide +kernel
theorem dX5_nail_34 : decode cX5_nail 34 = .ok (.bipush (-3), 2) := by decide +kernel
theorem dX5_nail_36 : decode cX5_nail 36 = .ok (.goto 4, 3) := by decide +kernel
theorem dX5_nail_39 : decode cX5_nail 39 = .ok (.iconst 0, 1) := by decide +kernel
theorem dX5_nail_40 : decode cX5_nail 40 = .ok (.istore_n 3, 1) := by decide +kernel
theorem dX5_nail_41 : decode cX5_nail 41 = .ok (.iload_n 3, 1) := by decide +kernel
theorem dX5_nail_42 : decode cX5_nail 42 = .ok (.ifCond .eq 9, 3) := by decide +kernel
theorem dX5_nail_45 : decode cX5_nail 45 = .ok (.aload_n 0, 1) := by decide +kernel
theorem dX5_nail_46 : decode cX5_nail 46 = .ok (.iload_n 3, 1) := by decide +kernel
theorem dX5_nail_47 : decode cX5_nail 47 = .ok (.invokevirtual 66, 3) := by decide +kernel
theorem dX5_nail_50 : decode cX5_nail 50 = .ok (.ireturn, 1) := by decide +kernel
theorem dX5_nail_51 : decode cX5_nail 51 = .ok (.aload_n 0, 1) := by decide +kernel
theorem dX5_nail_52 : decode cX5_nail 52 = .ok (.iload_n 1, 1) := by decide +kernel
theorem dX5_nail_53 : decode cX5_nail 53 = .ok (.iload_n 2, 1) := by decide +kernel
theorem dX5_nail_54 : decode cX5_nail 54 = .ok (.invokevirtual 124, 3) := by decide +kernel
theorem dX5_nail_57 : decode cX5_nail 57 = .ok (.aload_n 0, 1) := by decide +kernel
theorem dX5_nail_58 : decode cX5_nail 58 = .ok (.invokevirtual 204, 3) := by decide +kernel
theorem dX5_nail_61 : decode cX5_nail 61 = .ok (.ireturn, 1) := by decide +kernel
theorem dX5_pipe_0 : decode cX5_pipe 0 = .ok (.iload_n 1, 1) := by decide +kernel
theorem dX5_pipe_1 : decode cX5_pipe 1 = .ok (.invokestatic 113, 3) := by decide +kernel
theorem dX5_pipe_4 : decode cX5_pipe 4 = .ok (.ifCond .ne 7, 3) := by decide +kernel
theorem dX5_pipe_7 : decode cX5_pipe 7 = .ok (.iconst (-1), 1) := by decide +kernel
theorem dX5_pipe_8 : decode cX5_pipe 8 = .ok (.goto 10, 3) := by decide +kernel
theorem dX5_pipe_11 : decode cX5_pipe 11 = .ok (.iload_n 2, 1) := by decide +kernel
theorem dX5_pipe_12 : decode cX5_pipe 12 = .ok (.iconst 0, 1) := by decide +kernel
theorem dX5_pipe_13 : decode cX5_pipe 13 = .ok (.bipush 9, 2) := by decide +kernel
theorem dX5_pipe_15 : decode cX5_pipe 15 = .ok (.invokestatic 59, 3) := by decide +kernel
theorem dX5_pipe_18 : decode cX5_pipe 18 = .ok (.istore_n 3, 1) := by decide +kernel
theorem dX5_pipe_19 : decode cX5_pipe 19 = .ok (.iload_n 3, 1) := by decide +kernel
theorem dX5_pipe_20 : decode cX5_pipe 20 = .ok (.ifCond .ne 15, 3) := by decide +kernel
theorem dX5_pipe_23 : decode cX5_pipe 23 = .ok (.aload_n 0, 1) := by decide +kernel
theorem dX5_pipe_24 : decode cX5_pipe 24 = .ok (.getfield 128, 3) := by decide +kernel
theorem dX5_pipe_27 : decode cX5_pipe 27 = .ok (.bipush 6, 2) := by decide +kernel
theorem dX5_pipe_29 : decode cX5_pipe 29 = .ok (.if_icmp .ne 6, 3) := by decide +kernel
theorem dX5_pipe_32 : decode cX5_pipe 32 = .ok (.bipush (-6), 2) := by decide +kernel
theorem dX5_pipe_34 : decode cX5_pipe 34 = .ok (.istore_n 3, 1) := by decide +kernel
theorem dX5_pipe_35 : decode cX5_pipe 35 = .ok (.iload_n 3, 1) := by decide +kernel
theorem dX5_pipe_36 : decode cX5_pipe 36 = .ok (.ifCond .eq 9, 3) := by decide +kernel
theorem dX5_pipe_39 : decode cX5_pipe 39 = .ok (.aload_n 0, 1) := by decide +kernel
theorem dX5_pipe_40 : decode cX5_pipe 40 = .ok (.iload_n 3, 1) := by decide +kernel
theorem dX5_pipe_41 : decode cX5_pipe 41 = .ok (.invokevirtual 66, 3) := by decide +kernel
theorem dX5_pipe_44 : decode cX5_pipe 44 = .ok (.ireturn, 1) := by decide +kernel
theorem dX5_pipe_45 : decode cX5_pipe 45 = .ok (.aload_n 0, 1) := by decide +kernel
theorem dX5_pipe_46 : decode cX5_pipe 46 = .ok (.iload_n 1, 1) := by decide +kernel
theorem dX5_pipe_47 : decode cX5_pipe 47 = .ok (.iload_n 2, 1) := by decide +kernel
theorem dX5_pipe_48 : decode cX5_pipe 48 = .ok (.invokevirtual 131, 3) := by decide +kernel
theorem dX5_pipe_51 : decode cX5_pipe 51 = .ok (.aload_n 0, 1) := by decide +kernel
theorem dX5_pipe_52 : decode cX5_pipe 52 = .ok (.getfield 128, 3) := by decide +kernel
theorem dX5_pipe_55 : decode cX5_pipe 55 = .ok (.iconst 1, 1) := by decide +kernel
theorem dX5_pipe_56 : decode cX5_pipe 56 = .ok (.isub, 1) := by decide +kernel
theorem dX5_pipe_57 : decode cX5_pipe 57 = .ok (.ireturn, 1) := by decide +kernel
theorem dX5_chancesAt_0 : decode cX5_chancesAt 0 = .ok (.iconst 0, 1) := by decide +kernel
theorem dX5_chancesAt_1 : decode cX5_chancesAt 1 = .ok (.istore_n 2, 1) := by decide +kernel
theorem dX5_chancesAt_2 : decode cX5_chancesAt 2 = .ok (.iconst 0, 1) := by decide +kernel
theorem dX5_chancesAt_3 : decode cX5_chancesAt 3 = .ok (.istore_n 3, 1) := by decide +kernel
theorem dX5_chancesAt_4 : decode cX5_chancesAt 4 = .ok (.iload_n 3, 1) := by decide +kernel
theorem dX5_chancesAt_5 : decode cX5_chancesAt 5 = .ok (.aload_n 0, 1) := by decide +kernel
theorem dX5_chancesAt_6 : decode cX5_chancesAt 6 = .ok (.getfield 128, 3) := by decide +kernel
theorem dX5_chancesAt_9 : decode cX5_chancesAt 9 = .ok (.if_icmp .ge 32, 3) := by decide +kernel
theorem dX5_chancesAt_12 : decode cX5_chancesAt 12 = .ok (.iload_n 2, 1) := by decide +kernel
theorem dX5_chancesAt_13 : decode cX5_chancesAt 13 = .ok (.aload_n 0, 1) := by decide +kernel
theorem dX5_chancesAt_14 : decode cX5_chancesAt 14 = .ok (.getfield 19, 3) := by decide +kernel
theorem dX5_chancesAt_17 : decode cX5_chancesAt 17 = .ok (.iload_n 3, 1) := by decide +kernel
theorem dX5_chancesAt_18 : decode cX5_chancesAt 18 = .ok (.iaload, 1) := by decide +kernel
theorem dX5_chancesAt_19 : decode cX5_chancesAt 19 = .ok (.iload_n 1, 1) := by decide +kernel
theorem dX5_chancesAt_20 : decode cX5_chancesAt 20 = .ok (.if_icmp .ne 12, 3) := by decide +kernel
theorem dX5_chancesAt_23 : decode cX5_chancesAt 23 = .ok (.aload_n 0, 1) := by decide +kernel
theorem dX5_chancesAt_24 : decode cX5_chancesAt 24 = .ok (.getfield 22, 3) := by decide +kernel
theorem dX5_chancesAt_27 : decode cX5_chancesAt 27 = .ok (.iload_n 3, 1) := by decide +kernel
theorem dX5_chancesAt_28 : decode cX5_chancesAt 28 = .ok (.iaload, 1) := by decide +kernel
theorem dX5_chancesAt_29 : decode cX5_chancesAt 29 = .ok (.goto 4, 3) := by decide +kernel
theorem dX5_chancesAt_32 : decode cX5_chancesAt 32 = .ok (.iconst 0, 1) := by decide +kernel
theorem dX5_chancesAt_33 : decode cX5_chancesAt 33 = .ok (.iadd, 1) := by decide +kernel
theorem dX5_chancesAt_34 : decode cX5_chancesAt 34 = .ok (.istore_n 2, 1) := by decide +kernel
theorem dX5_chancesAt_35 : decode cX5_chancesAt 35 = .ok (.iinc 3 1, 3) := by decide +kernel
theorem dX5_chancesAt_38 : decode cX5_chancesAt 38 = .ok (.goto (-34), 3) := by decide +kernel
