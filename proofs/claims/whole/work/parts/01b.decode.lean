theorem dX0_init_0 : decode cX0_init 0 = .ok (.aload_n 0, 1) := by decide +kernel
theorem dX0_init_1 : decode cX0_init 1 = .ok (.invokespecial 3, 3) := by decide +kernel
theorem dX0_init_4 : decode cX0_init 4 = .ok (.aload_n 0, 1) := by decide +kernel
theorem dX0_init_5 : decode cX0_init 5 = .ok (.bipush 8, 2) := by decide +kernel
theorem dX0_init_7 : decode cX0_init 7 = .ok (.newarray .int, 2) := by decide +kernel
theorem dX0_init_9 : decode cX0_init 9 = .ok (.putfield 9, 3) := by decide +kernel
theorem dX0_init_12 : decode cX0_init 12 = .ok (.aload_n 0, 1) := by decide +kernel
theorem dX0_init_13 : decode cX0_init 13 = .ok (.iconst 0, 1) := by decide +kernel
theorem dX0_init_14 : decode cX0_init 14 = .ok (.putfield 15, 3) := by decide +kernel
theorem dX0_init_17 : decode cX0_init 17 = .ok (.return_, 1) := by decide +kernel
theorem dX0_inchOf_0 : decode cX0_inchOf 0 = .ok (.iload_n 0, 1) := by decide +kernel
theorem dX0_inchOf_1 : decode cX0_inchOf 1 = .ok (.bipush 50, 2) := by decide +kernel
theorem dX0_inchOf_3 : decode cX0_inchOf 3 = .ok (.irem, 1) := by decide +kernel
theorem dX0_inchOf_4 : decode cX0_inchOf 4 = .ok (.ireturn, 1) := by decide +kernel
theorem dX0_tellsWood_0 : decode cX0_tellsWood 0 = .ok (.iload_n 0, 1) := by decide +kernel
theorem dX0_tellsWood_1 : decode cX0_tellsWood 1 = .ok (.bipush 50, 2) := by decide +kernel
theorem dX0_tellsWood_3 : decode cX0_tellsWood 3 = .ok (.if_icmp .lt 7, 3) := by decide +kernel
theorem dX0_tellsWood_6 : decode cX0_tellsWood 6 = .ok (.iconst 1, 1) := by decide +kernel
theorem dX0_tellsWood_7 : decode cX0_tellsWood 7 = .ok (.goto 4, 3) := by decide +kernel
theorem dX0_tellsWood_10 : decode cX0_tellsWood 10 = .ok (.iconst 0, 1) := by decide +kernel
theorem dX0_tellsWood_11 : decode cX0_tellsWood 11 = .ok (.ireturn, 1) := by decide +kernel
theorem dX0_offsetsBy_0 : decode cX0_offsetsBy 0 = .ok (.iload_n 1, 1) := by decide +kernel
theorem dX0_offsetsBy_1 : decode cX0_offsetsBy 1 = .ok (.invokestatic 19, 3) := by decide +kernel
theorem dX0_offsetsBy_4 : decode cX0_offsetsBy 4 = .ok (.istore_n 2, 1) := by decide +kernel
theorem dX0_offsetsBy_5 : decode cX0_offsetsBy 5 = .ok (.iload_n 2, 1) := by decide +kernel
theorem dX0_offsetsBy_6 : decode cX0_offsetsBy 6 = .ok (.invokestatic 23, 3) := by decide +kernel
theorem dX0_offsetsBy_9 : decode cX0_offsetsBy 9 = .ok (.ifCond .eq 5, 3) := by decide +kernel
theorem dX0_offsetsBy_12 : decode cX0_offsetsBy 12 = .ok (.iconst 0, 1) := by decide +kernel
theorem dX0_offsetsBy_13 : decode cX0_offsetsBy 13 = .ok (.ireturn, 1) := by decide +kernel
theorem dX0_offsetsBy_14 : decode cX0_offsetsBy 14 = .ok (.iload_n 1, 1) := by decide +kernel
theorem dX0_offsetsBy_15 : decode cX0_offsetsBy 15 = .ok (.invokestatic 27, 3) := by decide +kernel
theorem dX0_offsetsBy_18 : decode cX0_offsetsBy 18 = .ok (.ifCond .eq 12, 3) := by decide +kernel
theorem dX0_offsetsBy_21 : decode cX0_offsetsBy 21 = .ok (.aload_n 0, 1) := by decide +kernel
theorem dX0_offsetsBy_22 : decode cX0_offsetsBy 22 = .ok (.getfield 30, 3) := by decide +kernel
theorem dX0_offsetsBy_25 : decode cX0_offsetsBy 25 = .ok (.iload_n 2, 1) := by decide +kernel
theorem dX0_offsetsBy_26 : decode cX0_offsetsBy 26 = .ok (.iaload, 1) := by decide +kernel
theorem dX0_offsetsBy_27 : decode cX0_offsetsBy 27 = .ok (.goto 11, 3) := by decide +kernel
theorem dX0_offsetsBy_30 : decode cX0_offsetsBy 30 = .ok (.aload_n 0, 1) := by decide +kernel
theorem dX0_offsetsBy_31 : decode cX0_offsetsBy 31 = .ok (.getfield 30, 3) := by decide +kernel
theorem dX0_offsetsBy_34 : decode cX0_offsetsBy 34 = .ok (.iload_n 2, 1) := by decide +kernel
theorem dX0_offsetsBy_35 : decode cX0_offsetsBy 35 = .ok (.iaload, 1) := by decide +kernel
theorem dX0_offsetsBy_36 : decode cX0_offsetsBy 36 = .ok (.iconst (-1), 1) := by decide +kernel
theorem dX0_offsetsBy_37 : decode cX0_offsetsBy 37 = .ok (.ixor, 1) := by decide +kernel
theorem dX0_offsetsBy_38 : decode cX0_offsetsBy 38 = .ok (.ireturn, 1) := by decide +kernel
theorem dX0_offsetsThatFit_0 : decode cX0_offsetsThatFit 0 = .ok (.aload_n 1, 1) := by decide +kernel
theorem dX0_offsetsThatFit_1 : decode cX0_offsetsThatFit 1 = .ok (.getfield 35, 3) := by decide +kernel
theorem dX0_offsetsThatFit_4 : decode cX0_offsetsThatFit 4 = .ok (.istore_n 3, 1) := by decide +kernel
theorem dX0_offsetsThatFit_5 : decode cX0_offsetsThatFit 5 = .ok (.iconst 0, 1) := by decide +kernel
theorem dX0_offsetsThatFit_6 : decode cX0_offsetsThatFit 6 = .ok (.istore 4, 2) := by decide +kernel
theorem dX0_offsetsThatFit_8 : decode cX0_offsetsThatFit 8 = .ok (.iload 4, 2) := by decide +kernel
theorem dX0_offsetsThatFit_10 : decode cX0_offsetsThatFit 10 = .ok (.iload_n 2, 1) := by decide +kernel
theorem dX0_offsetsThatFit_11 : decode cX0_offsetsThatFit 11 = .ok (.if_icmp .ge 30, 3) := by decide +kernel
theorem dX0_offsetsThatFit_14 : decode cX0_offsetsThatFit 14 = .ok (.iload 4, 2) := by decide +kernel
theorem dX0_offsetsThatFit_16 : decode cX0_offsetsThatFit 16 = .ok (.bipush 8, 2) := by decide +kernel
theorem dX0_offsetsThatFit_18 : decode cX0_offsetsThatFit 18 = .ok (.if_icmp .ge 23, 3) := by decide +kernel
theorem dX0_offsetsThatFit_21 : decode cX0_offsetsThatFit 21 = .ok (.iload_n 3, 1) := by decide +kernel
theorem dX0_offsetsThatFit_22 : decode cX0_offsetsThatFit 22 = .ok (.aload_n 1, 1) := by decide +kernel
theorem dX0_offsetsThatFit_23 : decode cX0_offsetsThatFit 23 = .ok (.aload_n 0, 1) := by decide +kernel
theorem dX0_offsetsThatFit_24 : decode cX0_offsetsThatFit 24 = .ok (.getfield 9, 3) := by decide +kernel
theorem dX0_offsetsThatFit_27 : decode cX0_offsetsThatFit 27 = .ok (.iload 4, 2) := by decide +kernel
theorem dX0_offsetsThatFit_29 : decode cX0_offsetsThatFit 29 = .ok (.iaload, 1) := by decide +kernel
theorem dX0_offsetsThatFit_30 : decode cX0_offsetsThatFit 30 = .ok (.invokestatic 38, 3) := by decide +kernel
theorem dX0_offsetsThatFit_33 : decode cX0_offsetsThatFit 33 = .ok (.iand, 1) := by decide +kernel
theorem dX0_offsetsThatFit_34 : decode cX0_offsetsThatFit 34 = .ok (.istore_n 3, 1) := by decide +kernel
theorem dX0_offsetsThatFit_35 : decode cX0_offsetsThatFit 35 = .ok (.iinc 4 1, 3) := by decide +kernel
theorem dX0_offsetsThatFit_38 : decode cX0_offsetsThatFit 38 = .ok (.goto (-30), 3) := by decide +kernel
theorem dX0_offsetsThatFit_41 : decode cX0_offsetsThatFit 41 = .ok (.iload_n 3, 1) := by decide +kernel
theorem dX0_offsetsThatFit_42 : decode cX0_offsetsThatFit 42 = .ok (.ireturn, 1) := by decide +kernel
theorem dX0_waysToTell_0 : decode cX0_waysToTell 0 = .ok (.lconst 0, 1) := by decide +kernel
theorem dX0_waysToTell_1 : decode cX0_waysToTell 1 = .ok (.lstore_n 3, 1) := by decide +kernel
theorem dX0_waysToTell_2 : decode cX0_waysToTell 2 = .ok (.iconst 0, 1) := by decide +kernel
theorem dX0_waysToTell_3 : decode cX0_waysToTell 3 = .ok (.istore 5, 2) := by decide +kernel
theorem dX0_waysToTell_5 : decode cX0_waysToTell 5 = .ok (.iload 5, 2) := by decide +kernel
theorem dX0_waysToTell_7 : decode cX0_waysToTell 7 = .ok (.bipush 24, 2) := by decide +kernel
theorem dX0_waysToTell_9 : decode cX0_waysToTell 9 = .ok (.if_icmp .ge 68, 3) := by decide +kernel
theorem dX0_waysToTell_12 : decode cX0_waysToTell 12 = .ok (.aload_n 1, 1) := by decide +kernel
theorem dX0_waysToTell_13 : decode cX0_waysToTell 13 = .ok (.getfield 42, 3) := by decide +kernel
theorem dX0_waysToTell_16 : decode cX0_waysToTell 16 = .ok (.iload 5, 2) := by decide +kernel
theorem dX0_waysToTell_18 : decode cX0_waysToTell 18 = .ok (.laload, 1) := by decide +kernel
theorem dX0_waysToTell_19 : decode cX0_waysToTell 19 = .ok (.lstore 6, 2) := by decide +kernel
theorem dX0_waysToTell_21 : decode cX0_waysToTell 21 = .ok (.iconst 0, 1) := by decide +kernel
theorem dX0_waysToTell_22 : decode cX0_waysToTell 22 = .ok (.istore 8, 2) := by decide +kernel
theorem dX0_waysToTell_24 : decode cX0_waysToTell 24 = .ok (.iload 8, 2) := by decide +kernel
theorem dX0_waysToTell_26 : decode cX0_waysToTell 26 = .ok (.aload_n 0, 1) := by decide +kernel
theorem dX0_waysToTell_27 : decode cX0_waysToTell 27 = .ok (.getfield 15, 3) := by decide +kernel
theorem dX0_waysToTell_30 : decode cX0_waysToTell 30 = .ok (.if_icmp .ge 36, 3) := by decide +kernel
theorem dX0_waysToTell_33 : decode cX0_waysToTell 33 = .ok (.iload 8, 2) := by decide +kernel
theorem dX0_waysToTell_35 : decode cX0_waysToTell 35 = .ok (.bipush 8, 2) := by decide +kernel
theorem dX0_waysToTell_37 : decode cX0_waysToTell 37 = .ok (.if_icmp .ge 29, 3) := by decide +kernel
theorem dX0_waysToTell_40 : decode cX0_waysToTell 40 = .ok (.lload 6, 2) := by decide +kernel
theorem dX0_waysToTell_42 : decode cX0_waysToTell 42 = .ok (.aload_n 1, 1) := by decide +kernel
theorem dX0_waysToTell_43 : decode cX0_waysToTell 43 = .ok (.iload_n 2, 1) := by decide +kernel
theorem dX0_waysToTell_44 : decode cX0_waysToTell 44 = .ok (.iload 5, 2) := by decide +kernel
theorem dX0_waysToTell_46 : decode cX0_waysToTell 46 = .ok (.aload_n 0, 1) := by decide +kernel
theorem dX0_waysToTell_47 : decode cX0_waysToTell 47 = .ok (.getfield 9, 3) := by decide +kernel
theorem dX0_waysToTell_50 : decode cX0_waysToTell 50 = .ok (.iload 8, 2) := by decide +kernel
theorem dX0_waysToTell_52 : decode cX0_waysToTell 52 = .ok (.iaload, 1) := by decide +kernel
theorem dX0_waysToTell_53 : decode cX0_waysToTell 53 = .ok (.invokestatic 46, 3) := by decide +kernel
theorem dX0_waysToTell_56 : decode cX0_waysToTell 56 = .ok (.i2l, 1) := by decide +kernel
theorem dX0_waysToTell_57 : decode cX0_waysToTell 57 = .ok (.lmul, 1) := by decide +kernel
theorem dX0_waysToTell_58 : decode cX0_waysToTell 58 = .ok (.lstore 6, 2) := by decide +kernel
theorem dX0_waysToTell_60 : decode cX0_waysToTell 60 = .ok (.iinc 8 1, 3) := by decide +kernel
theorem dX0_waysToTell_63 : decode cX0_waysToTell 63 = .ok (.goto (-39), 3) := by decide +kernel
theorem dX0_waysToTell_66 : decode cX0_waysToTell 66 = .ok (.lload_n 3, 1) := by decide +kernel
theorem dX0_waysToTell_67 : decode cX0_waysToTell 67 = .ok (.lload 6, 2) := by decide +kernel
theorem dX0_waysToTell_69 : decode cX0_waysToTell 69 = .ok (.ladd, 1) := by decide +kernel
theorem dX0_waysToTell_70 : decode cX0_waysToTell 70 = .ok (.lstore_n 3, 1) := by decide +kernel
theorem dX0_waysToTell_71 : decode cX0_waysToTell 71 = .ok (.iinc 5 1, 3) := by decide +kernel
theorem dX0_waysToTell_74 : decode cX0_waysToTell 74 = .ok (.goto (-69), 3) := by decide +kernel
theorem dX0_waysToTell_77 : decode cX0_waysToTell 77 = .ok (.lload_n 3, 1) := by decide +kernel
theorem dX0_waysToTell_78 : decode cX0_waysToTell 78 = .ok (.lreturn, 1) := by decide +kernel
theorem dX0_tenthsOf_0 : decode cX0_tenthsOf 0 = .ok (.iload_n 3, 1) := by decide +kernel
theorem dX0_tenthsOf_1 : decode cX0_tenthsOf 1 = .ok (.invokestatic 19, 3) := by decide +kernel
theorem dX0_tenthsOf_4 : decode cX0_tenthsOf 4 = .ok (.istore 4, 2) := by decide +kernel
theorem dX0_tenthsOf_6 : decode cX0_tenthsOf 6 = .ok (.iload 4, 2) := by decide +kernel
theorem dX0_tenthsOf_8 : decode cX0_tenthsOf 8 = .ok (.invokestatic 23, 3) := by decide +kernel
theorem dX0_tenthsOf_11 : decode cX0_tenthsOf 11 = .ok (.ifCond .eq 5, 3) := by decide +kernel
theorem dX0_tenthsOf_14 : decode cX0_tenthsOf 14 = .ok (.iconst 0, 1) := by decide +kernel
theorem dX0_tenthsOf_15 : decode cX0_tenthsOf 15 = .ok (.ireturn, 1) := by decide +kernel
theorem dX0_tenthsOf_16 : decode cX0_tenthsOf 16 = .ok (.iload_n 1, 1) := by decide +kernel
theorem dX0_tenthsOf_17 : decode cX0_tenthsOf 17 = .ok (.iload_n 3, 1) := by decide +kernel
theorem dX0_tenthsOf_18 : decode cX0_tenthsOf 18 = .ok (.invokestatic 27, 3) := by decide +kernel
theorem dX0_tenthsOf_21 : decode cX0_tenthsOf 21 = .ok (.aload_n 0, 1) := by decide +kernel
theorem dX0_tenthsOf_22 : decode cX0_tenthsOf 22 = .ok (.iload 4, 2) := by decide +kernel
theorem dX0_tenthsOf_24 : decode cX0_tenthsOf 24 = .ok (.iload_n 2, 1) := by decide +kernel
theorem dX0_tenthsOf_25 : decode cX0_tenthsOf 25 = .ok (.invokevirtual 50, 3) := by decide +kernel
theorem dX0_tenthsOf_28 : decode cX0_tenthsOf 28 = .ok (.invokestatic 54, 3) := by decide +kernel
theorem dX0_tenthsOf_31 : decode cX0_tenthsOf 31 = .ok (.ireturn, 1) := by decide +kernel
theorem dX0_allWays_0 : decode cX0_allWays 0 = .ok (.aload_n 1, 1) := by decide +kernel
theorem dX0_allWays_1 : decode cX0_allWays 1 = .ok (.getfield 58, 3) := by decide +kernel
theorem dX0_allWays_4 : decode cX0_allWays 4 = .ok (.lstore_n 2, 1) := by decide +kernel
theorem dX0_allWays_5 : decode cX0_allWays 5 = .ok (.iconst 0, 1) := by decide +kernel
theorem dX0_allWays_6 : decode cX0_allWays 6 = .ok (.istore 4, 2) := by decide +kernel
theorem dX0_allWays_8 : decode cX0_allWays 8 = .ok (.iload 4, 2) := by decide +kernel
theorem dX0_allWays_10 : decode cX0_allWays 10 = .ok (.aload_n 0, 1) := by decide +kernel
theorem dX0_allWays_11 : decode cX0_allWays 11 = .ok (.getfield 15, 3) := by decide +kernel
theorem dX0_allWays_14 : decode cX0_allWays 14 = .ok (.if_icmp .ge 22, 3) := by decide +kernel
theorem dX0_allWays_17 : decode cX0_allWays 17 = .ok (.iload 4, 2) := by decide +kernel
theorem dX0_allWays_19 : decode cX0_allWays 19 = .ok (.bipush 8, 2) := by decide +kernel
theorem dX0_allWays_21 : decode cX0_allWays 21 = .ok (.if_icmp .ge 15, 3) := by decide +kernel
theorem dX0_allWays_24 : decode cX0_allWays 24 = .ok (.lload_n 2, 1) := by decide +kernel
theorem dX0_allWays_25 : decode cX0_allWays 25 = .ok (.ldc2_w 62, 3) := by decide +kernel
theorem dX0_allWays_28 : decode cX0_allWays 28 = .ok (.lmul, 1) := by decide +kernel
theorem dX0_allWays_29 : decode cX0_allWays 29 = .ok (.lstore_n 2, 1) := by decide +kernel
theorem dX0_allWays_30 : decode cX0_allWays 30 = .ok (.iinc 4 1, 3) := by decide +kernel
theorem dX0_allWays_33 : decode cX0_allWays 33 = .ok (.goto (-25), 3) := by decide +kernel
theorem dX0_allWays_36 : decode cX0_allWays 36 = .ok (.lload_n 2, 1) := by decide +kernel
theorem dX0_allWays_37 : decode cX0_allWays 37 = .ok (.lreturn, 1) := by decide +kernel
theorem dX1_init_0 : decode cX1_init 0 = .ok (.aload_n 0, 1) := by decide +kernel
theorem dX1_init_1 : decode cX1_init 1 = .ok (.invokespecial 3, 3) := by decide +kernel
theorem dX1_init_4 : decode cX1_init 4 = .ok (.aload_n 0, 1) := by decide +kernel
theorem dX1_init_5 : decode cX1_init 5 = .ok (.iconst 0, 1) := by decide +kernel
theorem dX1_init_6 : decode cX1_init 6 = .ok (.putfield 9, 3) := by decide +kernel
theorem dX1_init_9 : decode cX1_init 9 = .ok (.aload_n 0, 1) := by decide +kernel
theorem dX1_init_10 : decode cX1_init 10 = .ok (.lconst 0, 1) := by decide +kernel
theorem dX1_init_11 : decode cX1_init 11 = .ok (.putfield 15, 3) := by decide +kernel
theorem dX1_init_14 : decode cX1_init 14 = .ok (.aload_n 0, 1) := by decide +kernel
theorem dX1_init_15 : decode cX1_init 15 = .ok (.bipush 48, 2) := by decide +kernel
theorem dX1_init_17 : decode cX1_init 17 = .ok (.newarray .int, 2) := by decide +kernel
theorem dX1_init_19 : decode cX1_init 19 = .ok (.putfield 19, 3) := by decide +kernel
theorem dX1_init_22 : decode cX1_init 22 = .ok (.aload_n 0, 1) := by decide +kernel
theorem dX1_init_23 : decode cX1_init 23 = .ok (.iconst 0, 1) := by decide +kernel
theorem dX1_init_24 : decode cX1_init 24 = .ok (.putfield 23, 3) := by decide +kernel
theorem dX1_init_27 : decode cX1_init 27 = .ok (.aload_n 0, 1) := by decide +kernel
theorem dX1_init_28 : decode cX1_init 28 = .ok (.bipush 48, 2) := by decide +kernel
theorem dX1_init_30 : decode cX1_init 30 = .ok (.newarray .long, 2) := by decide +kernel
theorem dX1_init_32 : decode cX1_init 32 = .ok (.putfield 26, 3) := by decide +kernel
theorem dX1_init_35 : decode cX1_init 35 = .ok (.return_, 1) := by decide +kernel
theorem dX1_lookWith_0 : decode cX1_lookWith 0 = .ok (.aload_n 0, 1) := by decide +kernel
theorem dX1_lookWith_1 : decode cX1_lookWith 1 = .ok (.aload_n 1, 1) := by decide +kernel
theorem dX1_lookWith_2 : decode cX1_lookWith 2 = .ok (.invokevirtual 30, 3) := by decide +kernel
theorem dX1_lookWith_5 : decode cX1_lookWith 5 = .ok (.aload_n 0, 1) := by decide +kernel
theorem dX1_lookWith_6 : decode cX1_lookWith 6 = .ok (.iconst 0, 1) := by decide +kernel
theorem dX1_lookWith_7 : decode cX1_lookWith 7 = .ok (.putfield 9, 3) := by decide +kernel
theorem dX1_lookWith_10 : decode cX1_lookWith 10 = .ok (.ldc2_w 34, 3) := by decide +kernel
theorem dX1_lookWith_13 : decode cX1_lookWith 13 = .ok (.lstore_n 3, 1) := by decide +kernel
theorem dX1_lookWith_14 : decode cX1_lookWith 14 = .ok (.iconst 0, 1) := by decide +kernel
theorem dX1_lookWith_15 : decode cX1_lookWith 15 = .ok (.istore 5, 2) := by decide +kernel
theorem dX1_lookWith_17 : decode cX1_lookWith 17 = .ok (.iload 5, 2) := by decide +kernel
theorem dX1_lookWith_19 : decode cX1_lookWith 19 = .ok (.aload_n 0, 1) := by decide +kernel
theorem dX1_lookWith_20 : decode cX1_lookWith 20 = .ok (.getfield 23, 3) := by decide +kernel
theorem dX1_lookWith_23 : decode cX1_lookWith 23 = .ok (.if_icmp .ge 103, 3) := by decide +kernel
theorem dX1_lookWith_26 : decode cX1_lookWith 26 = .ok (.iload 5, 2) := by decide +kernel
theorem dX1_lookWith_28 : decode cX1_lookWith 28 = .ok (.bipush 48, 2) := by decide +kernel
theorem dX1_lookWith_30 : decode cX1_lookWith 30 = .ok (.if_icmp .ge 96, 3) := by decide +kernel
theorem dX1_lookWith_33 : decode cX1_lookWith 33 = .ok (.aload_n 0, 1) := by decide +kernel
theorem dX1_lookWith_34 : decode cX1_lookWith 34 = .ok (.getfield 19, 3) := by decide +kernel
theorem dX1_lookWith_37 : decode cX1_lookWith 37 = .ok (.iload 5, 2) := by decide +kernel
theorem dX1_lookWith_39 : decode cX1_lookWith 39 = .ok (.iaload, 1) := by decide +kernel
theorem dX1_lookWith_40 : decode cX1_lookWith 40 = .ok (.istore 6, 2) := by decide +kernel
theorem dX1_lookWith_42 : decode cX1_lookWith 42 = .ok (.iconst 0, 1) := by decide +kernel
theorem dX1_lookWith_43 : decode cX1_lookWith 43 = .ok (.istore 7, 2) := by decide +kernel
theorem dX1_lookWith_45 : decode cX1_lookWith 45 = .ok (.iload 7, 2) := by decide +kernel
theorem dX1_lookWith_47 : decode cX1_lookWith 47 = .ok (.aload_n 0, 1) := by decide +kernel
theorem dX1_lookWith_48 : decode cX1_lookWith 48 = .ok (.getfield 23, 3) := by decide +kernel
theorem dX1_lookWith_51 : decode cX1_lookWith 51 = .ok (.if_icmp .ge 36, 3) := by decide +kernel
theorem dX1_lookWith_54 : decode cX1_lookWith 54 = .ok (.iload 7, 2) := by decide +kernel
theorem dX1_lookWith_56 : decode cX1_lookWith 56 = .ok (.bipush 48, 2) := by decide +kernel
theorem dX1_lookWith_58 : decode cX1_lookWith 58 = .ok (.if_icmp .ge 29, 3) := by decide +kernel
theorem dX1_lookWith_61 : decode cX1_lookWith 61 = .ok (.aload_n 0, 1) := by decide +kernel
theorem dX1_lookWith_62 : decode cX1_lookWith 62 = .ok (.getfield 26, 3) := by decide +kernel
theorem dX1_lookWith_65 : decode cX1_lookWith 65 = .ok (.iload 7, 2) := by decide +kernel
theorem dX1_lookWith_67 : decode cX1_lookWith 67 = .ok (.aload_n 1, 1) := by decide +kernel
theorem dX1_lookWith_68 : decode cX1_lookWith 68 = .ok (.iload 6, 2) := by decide +kernel
theorem dX1_lookWith_70 : decode cX1_lookWith 70 = .ok (.aload_n 0, 1) := by decide +kernel
theorem dX1_lookWith_71 : decode cX1_lookWith 71 = .ok (.getfield 19, 3) := by decide +kernel
theorem dX1_lookWith_74 : decode cX1_lookWith 74 = .ok (.iload 7, 2) := by decide +kernel
theorem dX1_lookWith_76 : decode cX1_lookWith 76 = .ok (.iaload, 1) := by decide +kernel
theorem dX1_lookWith_77 : decode cX1_lookWith 77 = .ok (.invokevirtual 36, 3) := by decide +kernel
theorem dX1_lookWith_80 : decode cX1_lookWith 80 = .ok (.lastore, 1) := by decide +kernel
theorem dX1_lookWith_81 : decode cX1_lookWith 81 = .ok (.iinc 7 1, 3) := by decide +kernel
theorem dX1_lookWith_84 : decode cX1_lookWith 84 = .ok (.goto (-39), 3) := by decide +kernel
theorem dX1_lookWith_87 : decode cX1_lookWith 87 = .ok (.aload_n 0, 1) := by decide +kernel
theorem dX1_lookWith_88 : decode cX1_lookWith 88 = .ok (.aload_n 1, 1) := by decide +kernel
theorem dX1_lookWith_89 : decode cX1_lookWith 89 = .ok (.iload_n 2, 1) := by decide +kernel
theorem dX1_lookWith_90 : decode cX1_lookWith 90 = .ok (.iconst 1, 1) := by decide +kernel
theorem dX1_lookWith_91 : decode cX1_lookWith 91 = .ok (.invokevirtual 42, 3) := by decide +kernel
theorem dX1_lookWith_94 : decode cX1_lookWith 94 = .ok (.aload_n 0, 1) := by decide +kernel
theorem dX1_lookWith_95 : decode cX1_lookWith 95 = .ok (.aload_n 1, 1) := by decide +kernel
theorem dX1_lookWith_96 : decode cX1_lookWith 96 = .ok (.iload_n 2, 1) := by decide +kernel
theorem dX1_lookWith_97 : decode cX1_lookWith 97 = .ok (.iconst 0, 1) := by decide +kernel
theorem dX1_lookWith_98 : decode cX1_lookWith 98 = .ok (.invokevirtual 42, 3) := by decide +kernel
theorem dX1_lookWith_101 : decode cX1_lookWith 101 = .ok (.ladd, 1) := by decide +kernel
theorem dX1_lookWith_102 : decode cX1_lookWith 102 = .ok (.lstore 7, 2) := by decide +kernel
theorem dX1_lookWith_104 : decode cX1_lookWith 104 = .ok (.lload 7, 2) := by decide +kernel
theorem dX1_lookWith_106 : decode cX1_lookWith 106 = .ok (.lload_n 3, 1) := by decide +kernel
theorem dX1_lookWith_107 : decode cX1_lookWith 107 = .ok (.lcmp, 1) := by decide +kernel
theorem dX1_lookWith_108 : decode cX1_lookWith 108 = .ok (.ifCond .le 12, 3) := by decide +kernel
theorem dX1_lookWith_111 : decode cX1_lookWith 111 = .ok (.lload 7, 2) := by decide +kernel
theorem dX1_lookWith_113 : decode cX1_lookWith 113 = .ok (.lstore_n 3, 1) := by decide +kernel
theorem dX1_lookWith_114 : decode cX1_lookWith 114 = .ok (.aload_n 0, 1) := by decide +kernel
theorem dX1_lookWith_115 : decode cX1_lookWith 115 = .ok (.iload 6, 2) := by decide +kernel
theorem dX1_lookWith_117 : decode cX1_lookWith 117 = .ok (.putfield 9, 3) := by decide +kernel
theorem dX1_lookWith_120 : decode cX1_lookWith 120 = .ok (.iinc 5 1, 3) := by decide +kernel
theorem dX1_lookWith_123 : decode cX1_lookWith 123 = .ok (.goto (-106), 3) := by decide +kernel
theorem dX1_lookWith_126 : decode cX1_lookWith 126 = .ok (.aload_n 0, 1) := by decide +kernel
theorem dX1_lookWith_127 : decode cX1_lookWith 127 = .ok (.lload_n 3, 1) := by decide +kernel
theorem dX1_lookWith_128 : decode cX1_lookWith 128 = .ok (.ldc2_w 46, 3) := by decide +kernel
theorem dX1_lookWith_131 : decode cX1_lookWith 131 = .ok (.aload_n 1, 1) := by decide +kernel
theorem dX1_lookWith_132 : decode cX1_lookWith 132 = .ok (.getfield 48, 3) := by decide +kernel
theorem dX1_lookWith_135 : decode cX1_lookWith 135 = .ok (.aload_n 1, 1) := by decide +kernel
theorem dX1_lookWith_136 : decode cX1_lookWith 136 = .ok (.iconst 0, 1) := by decide +kernel
theorem dX1_lookWith_137 : decode cX1_lookWith 137 = .ok (.bipush 48, 2) := by decide +kernel
theorem dX1_lookWith_139 : decode cX1_lookWith 139 = .ok (.invokevirtual 51, 3) := by decide +kernel
theorem dX1_lookWith_142 : decode cX1_lookWith 142 = .ok (.laload, 1) := by decide +kernel
theorem dX1_lookWith_143 : decode cX1_lookWith 143 = .ok (.lmul, 1) := by decide +kernel
theorem dX1_lookWith_144 : decode cX1_lookWith 144 = .ok (.lsub, 1) := by decide +kernel
theorem dX1_lookWith_145 : decode cX1_lookWith 145 = .ok (.putfield 15, 3) := by decide +kernel
theorem dX1_lookWith_148 : decode cX1_lookWith 148 = .ok (.return_, 1) := by decide +kernel
theorem dX1_gatherUnlike_0 : decode cX1_gatherUnlike 0 = .ok (.aload_n 0, 1) := by decide +kernel
theorem dX1_gatherUnlike_1 : decode cX1_gatherUnlike 1 = .ok (.iconst 0, 1) := by decide +kernel
theorem dX1_gatherUnlike_2 : decode cX1_gatherUnlike 2 = .ok (.putfield 23, 3) := by decide +kernel
theorem dX1_gatherUnlike_5 : decode cX1_gatherUnlike 5 = .ok (.iconst 0, 1) := by decide +kernel
theorem dX1_gatherUnlike_6 : decode cX1_gatherUnlike 6 = .ok (.istore_n 2, 1) := by decide +kernel
theorem dX1_gatherUnlike_7 : decode cX1_gatherUnlike 7 = .ok (.iload_n 2, 1) := by decide +kernel
theorem dX1_gatherUnlike_8 : decode cX1_gatherUnlike 8 = .ok (.bipush 48, 2) := by decide +kernel
theorem dX1_gatherUnlike_10 : decode cX1_gatherUnlike 10 = .ok (.if_icmp .ge 100, 3) := by decide +kernel
theorem dX1_gatherUnlike_13 : decode cX1_gatherUnlike 13 = .ok (.iconst 1, 1) := by decide +kernel
theorem dX1_gatherUnlike_14 : decode cX1_gatherUnlike 14 = .ok (.istore_n 3, 1) := by decide +kernel
theorem dX1_gatherUnlike_15 : decode cX1_gatherUnlike 15 = .ok (.iconst 0, 1) := by decide +kernel
theorem dX1_gatherUnlike_16 : decode cX1_gatherUnlike 16 = .ok (.istore 4, 2) := by decide +kernel
theorem dX1_gatherUnlike_18 : decode cX1_gatherUnlike 18 = .ok (.iload 4, 2) := by decide +kernel
theorem dX1_gatherUnlike_20 : decode cX1_gatherUnlike 20 = .ok (.aload_n 0, 1) := by decide +kernel
theorem dX1_gatherUnlike_21 : decode cX1_gatherUnlike 21 = .ok (.getfield 23, 3) := by decide +kernel
theorem dX1_gatherUnlike_24 : decode cX1_gatherUnlike 24 = .ok (.if_icmp .ge 47, 3) := by decide +kernel
theorem dX1_gatherUnlike_27 : decode cX1_gatherUnlike 27 = .ok (.iload 4, 2) := by decide +kernel
theorem dX1_gatherUnlike_29 : decode cX1_gatherUnlike 29 = .ok (.bipush 48, 2) := by decide +kernel
theorem dX1_gatherUnlike_31 : decode cX1_gatherUnlike 31 = .ok (.if_icmp .ge 40, 3) := by decide +kernel
theorem dX1_gatherUnlike_34 : decode cX1_gatherUnlike 34 = .ok (.iload_n 3, 1) := by decide +kernel
theorem dX1_gatherUnlike_35 : decode cX1_gatherUnlike 35 = .ok (.ifCond .eq 36, 3) := by decide +kernel
theorem dX1_gatherUnlike_38 : decode cX1_gatherUnlike 38 = .ok (.aload_n 1, 1) := by decide +kernel
theorem dX1_gatherUnlike_39 : decode cX1_gatherUnlike 39 = .ok (.getfield 55, 3) := by decide +kernel
theorem dX1_gatherUnlike_42 : decode cX1_gatherUnlike 42 = .ok (.aload_n 0, 1) := by decide +kernel
theorem dX1_gatherUnlike_43 : decode cX1_gatherUnlike 43 = .ok (.getfield 19, 3) := by decide +kernel
theorem dX1_gatherUnlike_46 : decode cX1_gatherUnlike 46 = .ok (.iload 4, 2) := by decide +kernel
theorem dX1_gatherUnlike_48 : decode cX1_gatherUnlike 48 = .ok (.iaload, 1) := by decide +kernel
theorem dX1_gatherUnlike_49 : decode cX1_gatherUnlike 49 = .ok (.iaload, 1) := by decide +kernel
theorem dX1_gatherUnlike_50 : decode cX1_gatherUnlike 50 = .ok (.aload_n 1, 1) := by decide +kernel
theorem dX1_gatherUnlike_51 : decode cX1_gatherUnlike 51 = .ok (.getfield 55, 3) := by decide +kernel
theorem dX1_gatherUnlike_54 : decode cX1_gatherUnlike 54 = .ok (.iload_n 2, 1) := by decide +kernel
theorem dX1_gatherUnlike_55 : decode cX1_gatherUnlike 55 = .ok (.iaload, 1) := by decide +kernel
theorem dX1_gatherUnlike_56 : decode cX1_gatherUnlike 56 = .ok (.if_icmp .eq 7, 3) := by decide +kernel
theorem dX1_gatherUnlike_59 : decode cX1_gatherUnlike 59 = .ok (.iconst 1, 1) := by decide +kernel
theorem dX1_gatherUnlike_60 : decode cX1_gatherUnlike 60 = .ok (.goto 4, 3) := by decide +kernel
theorem dX1_gatherUnlike_63 : decode cX1_gatherUnlike 63 = .ok (.iconst 0, 1) := by decide +kernel
theorem dX1_gatherUnlike_64 : decode cX1_gatherUnlike 64 = .ok (.istore_n 3, 1) := by decide +kernel
theorem dX1_gatherUnlike_65 : decode cX1_gatherUnlike 65 = .ok (.iinc 4 1, 3) := by decide +kernel
theorem dX1_gatherUnlike_68 : decode cX1_gatherUnlike 68 = .ok (.goto (-50), 3) := by decide +kernel
theorem dX1_gatherUnlike_71 : decode cX1_gatherUnlike 71 = .ok (.iload_n 3, 1) := by decide +kernel
theorem dX1_gatherUnlike_72 : decode cX1_gatherUnlike 72 = .ok (.ifCond .eq 32, 3) := by decide +kernel
theorem dX1_gatherUnlike_75 : decode cX1_gatherUnlike 75 = .ok (.aload_n 0, 1) := by decide +kernel
theorem dX1_gatherUnlike_76 : decode cX1_gatherUnlike 76 = .ok (.getfield 23, 3) := by decide +kernel
theorem dX1_gatherUnlike_79 : decode cX1_gatherUnlike 79 = .ok (.bipush 48, 2) := by decide +kernel
theorem dX1_gatherUnlike_81 : decode cX1_gatherUnlike 81 = .ok (.if_icmp .ge 23, 3) := by decide +kernel
theorem dX1_gatherUnlike_84 : decode cX1_gatherUnlike 84 = .ok (.aload_n 0, 1) := by decide +kernel
theorem dX1_gatherUnlike_85 : decode cX1_gatherUnlike 85 = .ok (.getfield 19, 3) := by decide +kernel
theorem dX1_gatherUnlike_88 : decode cX1_gatherUnlike 88 = .ok (.aload_n 0, 1) := by decide +kernel
theorem dX1_gatherUnlike_89 : decode cX1_gatherUnlike 89 = .ok (.getfield 23, 3) := by decide +kernel
theorem dX1_gatherUnlike_92 : decode cX1_gatherUnlike 92 = .ok (.iload_n 2, 1) := by decide +kernel
theorem dX1_gatherUnlike_93 : decode cX1_gatherUnlike 93 = .ok (.iastore, 1) := by decide +kernel
theorem dX1_gatherUnlike_94 : decode cX1_gatherUnlike 94 = .ok (.aload_n 0, 1) := by decide +kernel
theorem dX1_gatherUnlike_95 : decode cX1_gatherUnlike 95 = .ok (.dup, 1) := by decide +kernel
theorem dX1_gatherUnlike_96 : decode cX1_gatherUnlike 96 = .ok (.getfield 23, 3) := by decide +kernel
theorem dX1_gatherUnlike_99 : decode cX1_gatherUnlike 99 = .ok (.iconst 1, 1) := by decide +kernel
theorem dX1_gatherUnlike_100 : decode cX1_gatherUnlike 100 = .ok (.iadd, 1) := by decide +kernel
theorem dX1_gatherUnlike_101 : decode cX1_gatherUnlike 101 = .ok (.putfield 23, 3) := by decide +kernel
theorem dX1_gatherUnlike_104 : decode cX1_gatherUnlike 104 = .ok (.iinc 2 1, 3) := by decide +kernel
theorem dX1_gatherUnlike_107 : decode cX1_gatherUnlike 107 = .ok (.goto (-100), 3) := by decide +kernel
theorem dX1_gatherUnlike_110 : decode cX1_gatherUnlike 110 = .ok (.return_, 1) := by decide +kernel
theorem dX1_greatestThen_0 : decode cX1_greatestThen 0 = .ok (.iload_n 2, 1) := by decide +kernel
theorem dX1_greatestThen_1 : decode cX1_greatestThen 1 = .ok (.iload_n 3, 1) := by decide +kernel
theorem dX1_greatestThen_2 : decode cX1_greatestThen 2 = .ok (.iconst 1, 1) := by decide +kernel
theorem dX1_greatestThen_3 : decode cX1_greatestThen 3 = .ok (.invokestatic 58, 3) := by decide +kernel
theorem dX1_greatestThen_6 : decode cX1_greatestThen 6 = .ok (.istore 4, 2) := by decide +kernel
theorem dX1_greatestThen_8 : decode cX1_greatestThen 8 = .ok (.iload_n 2, 1) := by decide +kernel
theorem dX1_greatestThen_9 : decode cX1_greatestThen 9 = .ok (.iload_n 3, 1) := by decide +kernel
theorem dX1_greatestThen_10 : decode cX1_greatestThen 10 = .ok (.iconst 0, 1) := by decide +kernel
theorem dX1_greatestThen_11 : decode cX1_greatestThen 11 = .ok (.invokestatic 58, 3) := by decide +kernel
theorem dX1_greatestThen_14 : decode cX1_greatestThen 14 = .ok (.istore 5, 2) := by decide +kernel
theorem dX1_greatestThen_16 : decode cX1_greatestThen 16 = .ok (.lconst 0, 1) := by decide +kernel
theorem dX1_greatestThen_17 : decode cX1_greatestThen 17 = .ok (.lstore 6, 2) := by decide +kernel
theorem dX1_greatestThen_19 : decode cX1_greatestThen 19 = .ok (.iconst 0, 1) := by decide +kernel
theorem dX1_greatestThen_20 : decode cX1_greatestThen 20 = .ok (.istore 8, 2) := by decide +kernel
theorem dX1_greatestThen_22 : decode cX1_greatestThen 22 = .ok (.iload 8, 2) := by decide +kernel
theorem dX1_greatestThen_24 : decode cX1_greatestThen 24 = .ok (.aload_n 0, 1) := by decide +kernel
theorem dX1_greatestThen_25 : decode cX1_greatestThen 25 = .ok (.getfield 23, 3) := by decide +kernel
theorem dX1_greatestThen_28 : decode cX1_greatestThen 28 = .ok (.if_icmp .ge 63, 3) := by decide +kernel
theorem dX1_greatestThen_31 : decode cX1_greatestThen 31 = .ok (.iload 8, 2) := by decide +kernel
theorem dX1_greatestThen_33 : decode cX1_greatestThen 33 = .ok (.bipush 48, 2) := by decide +kernel
theorem dX1_greatestThen_35 : decode cX1_greatestThen 35 = .ok (.if_icmp .ge 56, 3) := by decide +kernel
theorem dX1_greatestThen_38 : decode cX1_greatestThen 38 = .ok (.iload 4, 2) := by decide +kernel
theorem dX1_greatestThen_40 : decode cX1_greatestThen 40 = .ok (.i2l, 1) := by decide +kernel
theorem dX1_greatestThen_41 : decode cX1_greatestThen 41 = .ok (.aload_n 0, 1) := by decide +kernel
theorem dX1_greatestThen_42 : decode cX1_greatestThen 42 = .ok (.getfield 26, 3) := by decide +kernel
theorem dX1_greatestThen_45 : decode cX1_greatestThen 45 = .ok (.iload 8, 2) := by decide +kernel
theorem dX1_greatestThen_47 : decode cX1_greatestThen 47 = .ok (.laload, 1) := by decide +kernel
theorem dX1_greatestThen_48 : decode cX1_greatestThen 48 = .ok (.lmul, 1) := by decide +kernel
theorem dX1_greatestThen_49 : decode cX1_greatestThen 49 = .ok (.iload 5, 2) := by decide +kernel
theorem dX1_greatestThen_51 : decode cX1_greatestThen 51 = .ok (.i2l, 1) := by decide +kernel
theorem dX1_greatestThen_52 : decode cX1_greatestThen 52 = .ok (.aload_n 1, 1) := by decide +kernel
theorem dX1_greatestThen_53 : decode cX1_greatestThen 53 = .ok (.getfield 48, 3) := by decide +kernel
theorem dX1_greatestThen_56 : decode cX1_greatestThen 56 = .ok (.aload_n 0, 1) := by decide +kernel
theorem dX1_greatestThen_57 : decode cX1_greatestThen 57 = .ok (.getfield 19, 3) := by decide +kernel
theorem dX1_greatestThen_60 : decode cX1_greatestThen 60 = .ok (.iload 8, 2) := by decide +kernel
theorem dX1_greatestThen_62 : decode cX1_greatestThen 62 = .ok (.iaload, 1) := by decide +kernel
theorem dX1_greatestThen_63 : decode cX1_greatestThen 63 = .ok (.laload, 1) := by decide +kernel
theorem dX1_greatestThen_64 : decode cX1_greatestThen 64 = .ok (.aload_n 0, 1) := by decide +kernel
theorem dX1_greatestThen_65 : decode cX1_greatestThen 65 = .ok (.getfield 26, 3) := by decide +kernel
theorem dX1_greatestThen_68 : decode cX1_greatestThen 68 = .ok (.iload 8, 2) := by decide +kernel
theorem dX1_greatestThen_70 : decode cX1_greatestThen 70 = .ok (.laload, 1) := by decide +kernel
theorem dX1_greatestThen_71 : decode cX1_greatestThen 71 = .ok (.lsub, 1) := by decide +kernel
theorem dX1_greatestThen_72 : decode cX1_greatestThen 72 = .ok (.lmul, 1) := by decide +kernel
theorem dX1_greatestThen_73 : decode cX1_greatestThen 73 = .ok (.ladd, 1) := by decide +kernel
theorem dX1_greatestThen_74 : decode cX1_greatestThen 74 = .ok (.lstore 9, 2) := by decide +kernel
theorem dX1_greatestThen_76 : decode cX1_greatestThen 76 = .ok (.lload 6, 2) := by decide +kernel
theorem dX1_greatestThen_78 : decode cX1_greatestThen 78 = .ok (.lload 9, 2) := by decide +kernel
theorem dX1_greatestThen_80 : decode cX1_greatestThen 80 = .ok (.invokestatic 62, 3) := by decide +kernel
theorem dX1_greatestThen_83 : decode cX1_greatestThen 83 = .ok (.lstore 6, 2) := by decide +kernel
theorem dX1_greatestThen_85 : decode cX1_greatestThen 85 = .ok (.iinc 8 1, 3) := by decide +kernel
theorem dX1_greatestThen_88 : decode cX1_greatestThen 88 = .ok (.goto (-66), 3) := by decide +kernel
theorem dX1_greatestThen_91 : decode cX1_greatestThen 91 = .ok (.lload 6, 2) := by decide +kernel
theorem dX1_greatestThen_93 : decode cX1_greatestThen 93 = .ok (.lreturn, 1) := by decide +kernel
theorem dX2_init_0 : decode cX2_init 0 = .ok (.aload_n 0, 1) := by decide +kernel
theorem dX2_init_1 : decode cX2_init 1 = .ok (.invokespecial 3, 3) := by decide +kernel
theorem dX2_init_4 : decode cX2_init 4 = .ok (.aload_n 0, 1) := by decide +kernel
theorem dX2_init_5 : decode cX2_init 5 = .ok (.bipush 96, 2) := by decide +kernel
theorem dX2_init_7 : decode cX2_init 7 = .ok (.newarray .char, 2) := by decide +kernel
theorem dX2_init_9 : decode cX2_init 9 = .ok (.putfield 9, 3) := by decide +kernel
theorem dX2_init_12 : decode cX2_init 12 = .ok (.aload_n 0, 1) := by decide +kernel
theorem dX2_init_13 : decode cX2_init 13 = .ok (.iconst 0, 1) := by decide +kernel
theorem dX2_init_14 : decode cX2_init 14 = .ok (.putfield 15, 3) := by decide +kernel
theorem dX2_init_17 : decode cX2_init 17 = .ok (.aload_n 0, 1) := by decide +kernel
theorem dX2_init_18 : decode cX2_init 18 = .ok (.iconst 0, 1) := by decide +kernel
theorem dX2_init_19 : decode cX2_init 19 = .ok (.putfield 19, 3) := by decide +kernel
theorem dX2_init_22 : decode cX2_init 22 = .ok (.return_, 1) := by decide +kernel
theorem dX2_signAt_0 : decode cX2_signAt 0 = .ok (.iload_n 1, 1) := by decide +kernel
theorem dX2_signAt_1 : decode cX2_signAt 1 = .ok (.ifCond .lt 17, 3) := by decide +kernel
theorem dX2_signAt_4 : decode cX2_signAt 4 = .ok (.iload_n 1, 1) := by decide +kernel
theorem dX2_signAt_5 : decode cX2_signAt 5 = .ok (.aload_n 0, 1) := by decide +kernel
theorem dX2_signAt_6 : decode cX2_signAt 6 = .ok (.getfield 15, 3) := by decide +kernel
theorem dX2_signAt_9 : decode cX2_signAt 9 = .ok (.if_icmp .ge 9, 3) := by decide +kernel
theorem dX2_signAt_12 : decode cX2_signAt 12 = .ok (.iload_n 1, 1) := by decide +kernel
theorem dX2_signAt_13 : decode cX2_signAt 13 = .ok (.bipush 96, 2) := by decide +kernel
theorem dX2_signAt_15 : decode cX2_signAt 15 = .ok (.if_icmp .lt 7, 3) := by decide +kernel
theorem dX2_signAt_18 : decode cX2_signAt 18 = .ok (.iconst 0, 1) := by decide +kernel
theorem dX2_signAt_19 : decode cX2_signAt 19 = .ok (.goto 9, 3) := by decide +kernel
theorem dX2_signAt_22 : decode cX2_signAt 22 = .ok (.aload_n 0, 1) := by decide +kernel
theorem dX2_signAt_23 : decode cX2_signAt 23 = .ok (.getfield 9, 3) := by decide +kernel
theorem dX2_signAt_26 : decode cX2_signAt 26 = .ok (.iload_n 1, 1) := by decide +kernel
theorem dX2_signAt_27 : decode cX2_signAt 27 = .ok (.caload, 1) := by decide +kernel
theorem dX2_signAt_28 : decode cX2_signAt 28 = .ok (.ireturn, 1) := by decide +kernel
theorem dX2_passAll_0 : decode cX2_passAll 0 = .ok (.aload_n 0, 1) := by decide +kernel
theorem dX2_passAll_1 : decode cX2_passAll 1 = .ok (.iconst 0, 1) := by decide +kernel
theorem dX2_passAll_2 : decode cX2_passAll 2 = .ok (.putfield 19, 3) := by decide +kernel
theorem dX2_passAll_5 : decode cX2_passAll 5 = .ok (.iconst 1, 1) := by decide +kernel
theorem dX2_passAll_6 : decode cX2_passAll 6 = .ok (.istore_n 1, 1) := by decide +kernel
theorem dX2_passAll_7 : decode cX2_passAll 7 = .ok (.iconst 0, 1) := by decide +kernel
theorem dX2_passAll_8 : decode cX2_passAll 8 = .ok (.istore_n 2, 1) := by decide +kernel
theorem dX2_passAll_9 : decode cX2_passAll 9 = .ok (.iload_n 1, 1) := by decide +kernel
theorem dX2_passAll_10 : decode cX2_passAll 10 = .ok (.ifCond .eq 35, 3) := by decide +kernel
theorem dX2_passAll_13 : decode cX2_passAll 13 = .ok (.iload_n 2, 1) := by decide +kernel
theorem dX2_passAll_14 : decode cX2_passAll 14 = .ok (.ifCond .eq 14, 3) := by decide +kernel
theorem dX2_passAll_17 : decode cX2_passAll 17 = .ok (.aload_n 0, 1) := by decide +kernel
theorem dX2_passAll_18 : decode cX2_passAll 18 = .ok (.getfield 19, 3) := by decide +kernel
theorem dX2_passAll_21 : decode cX2_passAll 21 = .ok (.aload_n 0, 1) := by decide +kernel
theorem dX2_passAll_22 : decode cX2_passAll 22 = .ok (.getfield 15, 3) := by decide +kernel
theorem dX2_passAll_25 : decode cX2_passAll 25 = .ok (.if_icmp .ge 20, 3) := by decide +kernel
theorem dX2_passAll_28 : decode cX2_passAll 28 = .ok (.iload_n 2, 1) := by decide +kernel
theorem dX2_passAll_29 : decode cX2_passAll 29 = .ok (.bipush 96, 2) := by decide +kernel
theorem dX2_passAll_31 : decode cX2_passAll 31 = .ok (.if_icmp .ge 14, 3) := by decide +kernel
theorem dX2_passAll_34 : decode cX2_passAll 34 = .ok (.aload_n 0, 1) := by decide +kernel
theorem dX2_passAll_35 : decode cX2_passAll 35 = .ok (.invokevirtual 22, 3) := by decide +kernel
theorem dX2_passAll_38 : decode cX2_passAll 38 = .ok (.istore_n 1, 1) := by decide +kernel
theorem dX2_passAll_39 : decode cX2_passAll 39 = .ok (.iinc 2 1, 3) := by decide +kernel
theorem dX2_passAll_42 : decode cX2_passAll 42 = .ok (.goto (-33), 3) := by decide +kernel
theorem dX2_passAll_45 : decode cX2_passAll 45 = .ok (.iload_n 1, 1) := by decide +kernel
theorem dX2_passAll_46 : decode cX2_passAll 46 = .ok (.ireturn, 1) := by decide +kernel
theorem dX2_passStatement_0 : decode cX2_passStatement 0 = .ok (.aload_n 0, 1) := by decide +kernel
theorem dX2_passStatement_1 : decode cX2_passStatement 1 = .ok (.aload_n 0, 1) := by decide +kernel
theorem dX2_passStatement_2 : decode cX2_passStatement 2 = .ok (.getfield 19, 3) := by decide +kernel
theorem dX2_passStatement_5 : decode cX2_passStatement 5 = .ok (.invokevirtual 26, 3) := by decide +kernel
theorem dX2_passStatement_8 : decode cX2_passStatement 8 = .ok (.invokestatic 30, 3) := by decide +kernel
theorem dX2_passStatement_11 : decode cX2_passStatement 11 = .ok (.astore_n 1, 1) := by decide +kernel
theorem dX2_passStatement_12 : decode cX2_passStatement 12 = .ok (.aload_n 1, 1) := by decide +kernel
theorem dX2_passStatement_13 : decode cX2_passStatement 13 = .ok (.invokevirtual 34, 3) := by decide +kernel
theorem dX2_passStatement_16 : decode cX2_passStatement 16 = .ok (.ifCond .eq 5, 3) := by decide +kernel
theorem dX2_passStatement_19 : decode cX2_passStatement 19 = .ok (.iconst 0, 1) := by decide +kernel
theorem dX2_passStatement_20 : decode cX2_passStatement 20 = .ok (.ireturn, 1) := by decide +kernel
theorem dX2_passStatement_21 : decode cX2_passStatement 21 = .ok (.aload_n 0, 1) := by decide +kernel
theorem dX2_passStatement_22 : decode cX2_passStatement 22 = .ok (.dup, 1) := by decide +kernel
theorem dX2_passStatement_23 : decode cX2_passStatement 23 = .ok (.getfield 19, 3) := by decide +kernel
theorem dX2_passStatement_26 : decode cX2_passStatement 26 = .ok (.iconst 1, 1) := by decide +kernel
theorem dX2_passStatement_27 : decode cX2_passStatement 27 = .ok (.iadd, 1) := by decide +kernel
theorem dX2_passStatement_28 : decode cX2_passStatement 28 = .ok (.putfield 19, 3) := by decide +kernel
theorem dX2_passStatement_31 : decode cX2_passStatement 31 = .ok (.iconst 0, 1) := by decide +kernel
theorem dX2_passStatement_32 : decode cX2_passStatement 32 = .ok (.istore_n 2, 1) := by decide +kernel
theorem dX2_passStatement_33 : decode cX2_passStatement 33 = .ok (.iload_n 2, 1) := by decide +kernel
theorem dX2_passStatement_34 : decode cX2_passStatement 34 = .ok (.aload_n 1, 1) := by decide +kernel
theorem dX2_passStatement_35 : decode cX2_passStatement 35 = .ok (.invokevirtual 39, 3) := by decide +kernel
theorem dX2_passStatement_38 : decode cX2_passStatement 38 = .ok (.if_icmp .ge 53, 3) := by decide +kernel
theorem dX2_passStatement_41 : decode cX2_passStatement 41 = .ok (.aload_n 0, 1) := by decide +kernel
theorem dX2_passStatement_42 : decode cX2_passStatement 42 = .ok (.aload_n 0, 1) := by decide +kernel
theorem dX2_passStatement_43 : decode cX2_passStatement 43 = .ok (.getfield 19, 3) := by decide +kernel
theorem dX2_passStatement_46 : decode cX2_passStatement 46 = .ok (.invokevirtual 26, 3) := by decide +kernel
theorem dX2_passStatement_49 : decode cX2_passStatement 49 = .ok (.aload_n 1, 1) := by decide +kernel
theorem dX2_passStatement_50 : decode cX2_passStatement 50 = .ok (.iload_n 2, 1) := by decide +kernel
theorem dX2_passStatement_51 : decode cX2_passStatement 51 = .ok (.invokevirtual 42, 3) := by decide +kernel
theorem dX2_passStatement_54 : decode cX2_passStatement 54 = .ok (.invokestatic 45, 3) := by decide +kernel
theorem dX2_passStatement_57 : decode cX2_passStatement 57 = .ok (.ifCond .eq 16, 3) := by decide +kernel
theorem dX2_passStatement_60 : decode cX2_passStatement 60 = .ok (.aload_n 0, 1) := by decide +kernel
theorem dX2_passStatement_61 : decode cX2_passStatement 61 = .ok (.dup, 1) := by decide +kernel
theorem dX2_passStatement_62 : decode cX2_passStatement 62 = .ok (.getfield 19, 3) := by decide +kernel
theorem dX2_passStatement_65 : decode cX2_passStatement 65 = .ok (.iconst 1, 1) := by decide +kernel
theorem dX2_passStatement_66 : decode cX2_passStatement 66 = .ok (.iadd, 1) := by decide +kernel
theorem dX2_passStatement_67 : decode cX2_passStatement 67 = .ok (.putfield 19, 3) := by decide +kernel
theorem dX2_passStatement_70 : decode cX2_passStatement 70 = .ok (.goto 15, 3) := by decide +kernel
theorem dX2_passStatement_73 : decode cX2_passStatement 73 = .ok (.aload_n 1, 1) := by decide +kernel
theorem dX2_passStatement_74 : decode cX2_passStatement 74 = .ok (.iload_n 2, 1) := by decide +kernel
theorem dX2_passStatement_75 : decode cX2_passStatement 75 = .ok (.invokevirtual 42, 3) := by decide +kernel
theorem dX2_passStatement_78 : decode cX2_passStatement 78 = .ok (.bipush 63, 2) := by decide +kernel
theorem dX2_passStatement_80 : decode cX2_passStatement 80 = .ok (.if_icmp .eq 5, 3) := by decide +kernel
theorem dX2_passStatement_83 : decode cX2_passStatement 83 = .ok (.iconst 0, 1) := by decide +kernel
theorem dX2_passStatement_84 : decode cX2_passStatement 84 = .ok (.ireturn, 1) := by decide +kernel
theorem dX2_passStatement_85 : decode cX2_passStatement 85 = .ok (.iinc 2 1, 3) := by decide +kernel
theorem dX2_passStatement_88 : decode cX2_passStatement 88 = .ok (.goto (-55), 3) := by decide +kernel
theorem dX2_passStatement_91 : decode cX2_passStatement 91 = .ok (.iconst 1, 1) := by decide +kernel
theorem dX2_passStatement_92 : decode cX2_passStatement 92 = .ok (.ireturn, 1) := by decide +kernel
theorem dX2_formBehind_0 : decode cX2_formBehind 0 = .ok (.iload_n 0, 1) := by decide +kernel
theorem dX2_formBehind_1 : decode cX2_formBehind 1 = .ok (.tableswitch 101 100 116 #[89, 101, 101, 101, 101, 101, 101, 101, 86, 101, 95, 101, 98, 101, 101, 83, 92], 83) := by decide +kernel
theorem dX2_formBehind_84 : decode cX2_formBehind 84 = .ok (.ldc 49, 2) := by decide +kernel
theorem dX2_formBehind_86 : decode cX2_formBehind 86 = .ok (.areturn, 1) := by decide +kernel
theorem dX2_formBehind_87 : decode cX2_formBehind 87 = .ok (.ldc 51, 2) := by decide +kernel
theorem dX2_formBehind_89 : decode cX2_formBehind 89 = .ok (.areturn, 1) := by decide +kernel
theorem dX2_formBehind_90 : decode cX2_formBehind 90 = .ok (.ldc 53, 2) := by decide +kernel
theorem dX2_formBehind_92 : decode cX2_formBehind 92 = .ok (.areturn, 1) := by decide +kernel
theorem dX2_formBehind_93 : decode cX2_formBehind 93 = .ok (.ldc 55, 2) := by decide +kernel
theorem dX2_formBehind_95 : decode cX2_formBehind 95 = .ok (.areturn, 1) := by decide +kernel
theorem dX2_formBehind_96 : decode cX2_formBehind 96 = .ok (.ldc 57, 2) := by decide +kernel
theorem dX2_formBehind_98 : decode cX2_formBehind 98 = .ok (.areturn, 1) := by decide +kernel
theorem dX2_formBehind_99 : decode cX2_formBehind 99 = .ok (.ldc 59, 2) := by decide +kernel
theorem dX2_formBehind_101 : decode cX2_formBehind 101 = .ok (.areturn, 1) := by decide +kernel
theorem dX2_formBehind_102 : decode cX2_formBehind 102 = .ok (.ldc 61, 2) := by decide +kernel
theorem dX2_formBehind_104 : decode cX2_formBehind 104 = .ok (.areturn, 1) := by decide +kernel
theorem dX2_fits_0 : decode cX2_fits 0 = .ok (.iload_n 1, 1) := by decide +kernel
theorem dX2_fits_1 : decode cX2_fits 1 = .ok (.lookupswitch 94 #[(43, 76), (57, 43), (63, 43), (108, 61)], 43) := by decide +kernel
theorem dX2_fits_44 : decode cX2_fits 44 = .ok (.iload_n 0, 1) := by decide +kernel
theorem dX2_fits_45 : decode cX2_fits 45 = .ok (.bipush 48, 2) := by decide +kernel
theorem dX2_fits_47 : decode cX2_fits 47 = .ok (.if_icmp .lt 13, 3) := by decide +kernel
theorem dX2_fits_50 : decode cX2_fits 50 = .ok (.iload_n 0, 1) := by decide +kernel
theorem dX2_fits_51 : decode cX2_fits 51 = .ok (.bipush 57, 2) := by decide +kernel
theorem dX2_fits_53 : decode cX2_fits 53 = .ok (.if_icmp .gt 7, 3) := by decide +kernel
theorem dX2_fits_56 : decode cX2_fits 56 = .ok (.iconst 1, 1) := by decide +kernel
theorem dX2_fits_57 : decode cX2_fits 57 = .ok (.goto 4, 3) := by decide +kernel
theorem dX2_fits_60 : decode cX2_fits 60 = .ok (.iconst 0, 1) := by decide +kernel
theorem dX2_fits_61 : decode cX2_fits 61 = .ok (.ireturn, 1) := by decide +kernel
theorem dX2_fits_62 : decode cX2_fits 62 = .ok (.ldc 63, 2) := by decide +kernel
theorem dX2_fits_64 : decode cX2_fits 64 = .ok (.iload_n 0, 1) := by decide +kernel
theorem dX2_fits_65 : decode cX2_fits 65 = .ok (.invokevirtual 65, 3) := by decide +kernel
theorem dX2_fits_68 : decode cX2_fits 68 = .ok (.ifCond .lt 7, 3) := by decide +kernel
theorem dX2_fits_71 : decode cX2_fits 71 = .ok (.iconst 1, 1) := by decide +kernel
theorem dX2_fits_72 : decode cX2_fits 72 = .ok (.goto 4, 3) := by decide +kernel
theorem dX2_fits_75 : decode cX2_fits 75 = .ok (.iconst 0, 1) := by decide +kernel
theorem dX2_fits_76 : decode cX2_fits 76 = .ok (.ireturn, 1) := by decide +kernel
theorem dX2_fits_77 : decode cX2_fits 77 = .ok (.iload_n 0, 1) := by decide +kernel
theorem dX2_fits_78 : decode cX2_fits 78 = .ok (.bipush 43, 2) := by decide +kernel
theorem dX2_fits_80 : decode cX2_fits 80 = .ok (.if_icmp .eq 9, 3) := by decide +kernel
theorem dX2_fits_83 : decode cX2_fits 83 = .ok (.iload_n 0, 1) := by decide +kernel
theorem dX2_fits_84 : decode cX2_fits 84 = .ok (.bipush 45, 2) := by decide +kernel
theorem dX2_fits_86 : decode cX2_fits 86 = .ok (.if_icmp .ne 7, 3) := by decide +kernel
theorem dX2_fits_89 : decode cX2_fits 89 = .ok (.iconst 1, 1) := by decide +kernel
theorem dX2_fits_90 : decode cX2_fits 90 = .ok (.goto 4, 3) := by decide +kernel
theorem dX2_fits_93 : decode cX2_fits 93 = .ok (.iconst 0, 1) := by decide +kernel
theorem dX2_fits_94 : decode cX2_fits 94 = .ok (.ireturn, 1) := by decide +kernel
theorem dX2_fits_95 : decode cX2_fits 95 = .ok (.iload_n 0, 1) := by decide +kernel
theorem dX2_fits_96 : decode cX2_fits 96 = .ok (.iload_n 1, 1) := by decide +kernel
theorem dX2_fits_97 : decode cX2_fits 97 = .ok (.if_icmp .ne 7, 3) := by decide +kernel
theorem dX2_fits_100 : decode cX2_fits 100 = .ok (.iconst 1, 1) := by decide +kernel
theorem dX2_fits_101 : decode cX2_fits 101 = .ok (.goto 4, 3) := by decide +kernel
theorem dX2_fits_104 : decode cX2_fits 104 = .ok (.iconst 0, 1) := by decide +kernel
theorem dX2_fits_105 : decode cX2_fits 105 = .ok (.ireturn, 1) := by decide +kernel
theorem dX2_readStatement_0 : decode cX2_readStatement 0 = .ok (.aload_n 0, 1) := by decide +kernel
theorem dX2_readStatement_1 : decode cX2_readStatement 1 = .ok (.aload_n 0, 1) := by decide +kernel
theorem dX2_readStatement_2 : decode cX2_readStatement 2 = .ok (.getfield 19, 3) := by decide +kernel
theorem dX2_readStatement_5 : decode cX2_readStatement 5 = .ok (.invokevirtual 26, 3) := by decide +kernel
theorem dX2_readStatement_8 : decode cX2_readStatement 8 = .ok (.istore_n 2, 1) := by decide +kernel
theorem dX2_readStatement_9 : decode cX2_readStatement 9 = .ok (.aload_n 0, 1) := by decide +kernel
theorem dX2_readStatement_10 : decode cX2_readStatement 10 = .ok (.invokevirtual 69, 3) := by decide +kernel
theorem dX2_readStatement_13 : decode cX2_readStatement 13 = .ok (.iload_n 2, 1) := by decide +kernel
theorem dX2_readStatement_14 : decode cX2_readStatement 14 = .ok (.lookupswitch 80 #[(100, 62), (108, 56), (110, 74), (115, 50), (116, 68)], 50) := by decide +kernel
theorem dX2_readStatement_64 : decode cX2_readStatement 64 = .ok (.aload_n 0, 1) := by decide +kernel
theorem dX2_readStatement_65 : decode cX2_readStatement 65 = .ok (.aload_n 1, 1) := by decide +kernel
theorem dX2_readStatement_66 : decode cX2_readStatement 66 = .ok (.invokevirtual 72, 3) := by decide +kernel
theorem dX2_readStatement_69 : decode cX2_readStatement 69 = .ok (.ireturn, 1) := by decide +kernel
theorem dX2_readStatement_70 : decode cX2_readStatement 70 = .ok (.aload_n 0, 1) := by decide +kernel
theorem dX2_readStatement_71 : decode cX2_readStatement 71 = .ok (.aload_n 1, 1) := by decide +kernel
theorem dX2_readStatement_72 : decode cX2_readStatement 72 = .ok (.invokevirtual 76, 3) := by decide +kernel
theorem dX2_readStatement_75 : decode cX2_readStatement 75 = .ok (.ireturn, 1) := by decide +kernel
theorem dX2_readStatement_76 : decode cX2_readStatement 76 = .ok (.aload_n 0, 1) := by decide +kernel
theorem dX2_readStatement_77 : decode cX2_readStatement 77 = .ok (.aload_n 1, 1) := by decide +kernel
theorem dX2_readStatement_78 : decode cX2_readStatement 78 = .ok (.invokevirtual 79, 3) := by decide +kernel
theorem dX2_readStatement_81 : decode cX2_readStatement 81 = .ok (.ireturn, 1) := by decide +kernel
theorem dX2_readStatement_82 : decode cX2_readStatement 82 = .ok (.aload_n 0, 1) := by decide +kernel
theorem dX2_readStatement_83 : decode cX2_readStatement 83 = .ok (.aload_n 1, 1) := by decide +kernel
theorem dX2_readStatement_84 : decode cX2_readStatement 84 = .ok (.invokevirtual 82, 3) := by decide +kernel
theorem dX2_readStatement_87 : decode cX2_readStatement 87 = .ok (.ireturn, 1) := by decide +kernel
theorem dX2_readStatement_88 : decode cX2_readStatement 88 = .ok (.aload_n 0, 1) := by decide +kernel
theorem dX2_readStatement_89 : decode cX2_readStatement 89 = .ok (.aload_n 1, 1) := by decide +kernel
theorem dX2_readStatement_90 : decode cX2_readStatement 90 = .ok (.invokevirtual 85, 3) := by decide +kernel
theorem dX2_readStatement_93 : decode cX2_readStatement 93 = .ok (.ireturn, 1) := by decide +kernel
theorem dX2_readStatement_94 : decode cX2_readStatement 94 = .ok (.aload_n 0, 1) := by decide +kernel
theorem dX2_readStatement_95 : decode cX2_readStatement 95 = .ok (.aload_n 1, 1) := by decide +kernel
theorem dX2_readStatement_96 : decode cX2_readStatement 96 = .ok (.invokevirtual 88, 3) := by decide +kernel
theorem dX2_readStatement_99 : decode cX2_readStatement 99 = .ok (.ireturn, 1) := by decide +kernel
theorem dX2_readSpaces_0 : decode cX2_readSpaces 0 = .ok (.aload_n 0, 1) := by decide +kernel
theorem dX2_readSpaces_1 : decode cX2_readSpaces 1 = .ok (.aload_n 0, 1) := by decide +kernel
theorem dX2_readSpaces_2 : decode cX2_readSpaces 2 = .ok (.aload_n 0, 1) := by decide +kernel
theorem dX2_readSpaces_3 : decode cX2_readSpaces 3 = .ok (.getfield 19, 3) := by decide +kernel
theorem dX2_readSpaces_6 : decode cX2_readSpaces 6 = .ok (.iconst 1, 1) := by decide +kernel
theorem dX2_readSpaces_7 : decode cX2_readSpaces 7 = .ok (.iadd, 1) := by decide +kernel
theorem dX2_readSpaces_8 : decode cX2_readSpaces 8 = .ok (.invokevirtual 26, 3) := by decide +kernel
theorem dX2_readSpaces_11 : decode cX2_readSpaces 11 = .ok (.bipush 44, 2) := by decide +kernel
theorem dX2_readSpaces_13 : decode cX2_readSpaces 13 = .ok (.if_icmp .ne 7, 3) := by decide +kernel
theorem dX2_readSpaces_16 : decode cX2_readSpaces 16 = .ok (.iconst 1, 1) := by decide +kernel
theorem dX2_readSpaces_17 : decode cX2_readSpaces 17 = .ok (.goto 4, 3) := by decide +kernel
theorem dX2_readSpaces_20 : decode cX2_readSpaces 20 = .ok (.iconst 2, 1) := by decide +kernel
theorem dX2_readSpaces_21 : decode cX2_readSpaces 21 = .ok (.invokevirtual 91, 3) := by decide +kernel
theorem dX2_readSpaces_24 : decode cX2_readSpaces 24 = .ok (.istore_n 2, 1) := by decide +kernel
theorem dX2_readSpaces_25 : decode cX2_readSpaces 25 = .ok (.aload_n 0, 1) := by decide +kernel
theorem dX2_readSpaces_26 : decode cX2_readSpaces 26 = .ok (.invokevirtual 69, 3) := by decide +kernel
theorem dX2_readSpaces_29 : decode cX2_readSpaces 29 = .ok (.aload_n 0, 1) := by decide +kernel
theorem dX2_readSpaces_30 : decode cX2_readSpaces 30 = .ok (.iconst 1, 1) := by decide +kernel
theorem dX2_readSpaces_31 : decode cX2_readSpaces 31 = .ok (.invokevirtual 91, 3) := by decide +kernel
theorem dX2_readSpaces_34 : decode cX2_readSpaces 34 = .ok (.istore_n 3, 1) := by decide +kernel
theorem dX2_readSpaces_35 : decode cX2_readSpaces 35 = .ok (.aload_n 0, 1) := by decide +kernel
theorem dX2_readSpaces_36 : decode cX2_readSpaces 36 = .ok (.invokevirtual 69, 3) := by decide +kernel
theorem dX2_readSpaces_39 : decode cX2_readSpaces 39 = .ok (.iconst 0, 1) := by decide +kernel
theorem dX2_readSpaces_40 : decode cX2_readSpaces 40 = .ok (.iload_n 2, 1) := by decide +kernel
theorem dX2_readSpaces_41 : decode cX2_readSpaces 41 = .ok (.invokestatic 94, 3) := by decide +kernel
theorem dX2_readSpaces_44 : decode cX2_readSpaces 44 = .ok (.ifCond .ne 11, 3) := by decide +kernel
theorem dX2_readSpaces_47 : decode cX2_readSpaces 47 = .ok (.iconst 1, 1) := by decide +kernel
theorem dX2_readSpaces_48 : decode cX2_readSpaces 48 = .ok (.iload_n 3, 1) := by decide +kernel
theorem dX2_readSpaces_49 : decode cX2_readSpaces 49 = .ok (.invokestatic 94, 3) := by decide +kernel
theorem dX2_readSpaces_52 : decode cX2_readSpaces 52 = .ok (.ifCond .eq 5, 3) := by decide +kernel
theorem dX2_readSpaces_55 : decode cX2_readSpaces 55 = .ok (.iconst 0, 1) := by decide +kernel
theorem dX2_readSpaces_56 : decode cX2_readSpaces 56 = .ok (.ireturn, 1) := by decide +kernel
theorem dX2_readSpaces_57 : decode cX2_readSpaces 57 = .ok (.aload_n 1, 1) := by decide +kernel
theorem dX2_readSpaces_58 : decode cX2_readSpaces 58 = .ok (.iload_n 2, 1) := by decide +kernel
theorem dX2_readSpaces_59 : decode cX2_readSpaces 59 = .ok (.putfield 98, 3) := by decide +kernel
theorem dX2_readSpaces_62 : decode cX2_readSpaces 62 = .ok (.aload_n 1, 1) := by decide +kernel
theorem dX2_readSpaces_63 : decode cX2_readSpaces 63 = .ok (.iload_n 3, 1) := by decide +kernel
theorem dX2_readSpaces_64 : decode cX2_readSpaces 64 = .ok (.putfield 103, 3) := by decide +kernel
theorem dX2_readSpaces_67 : decode cX2_readSpaces 67 = .ok (.aload_n 1, 1) := by decide +kernel
theorem dX2_readSpaces_68 : decode cX2_readSpaces 68 = .ok (.invokevirtual 106, 3) := by decide +kernel
theorem dX2_readSpaces_71 : decode cX2_readSpaces 71 = .ok (.iconst 1, 1) := by decide +kernel
theorem dX2_readSpaces_72 : decode cX2_readSpaces 72 = .ok (.ireturn, 1) := by decide +kernel
theorem dX2_readLaw_0 : decode cX2_readLaw 0 = .ok (.ldc 63, 2) := by decide +kernel
theorem dX2_readLaw_2 : decode cX2_readLaw 2 = .ok (.aload_n 0, 1) := by decide +kernel
theorem dX2_readLaw_3 : decode cX2_readLaw 3 = .ok (.aload_n 0, 1) := by decide +kernel
theorem dX2_readLaw_4 : decode cX2_readLaw 4 = .ok (.getfield 19, 3) := by decide +kernel
theorem dX2_readLaw_7 : decode cX2_readLaw 7 = .ok (.invokevirtual 26, 3) := by decide +kernel
theorem dX2_readLaw_10 : decode cX2_readLaw 10 = .ok (.invokevirtual 65, 3) := by decide +kernel
theorem dX2_readLaw_13 : decode cX2_readLaw 13 = .ok (.istore_n 2, 1) := by decide +kernel
theorem dX2_readLaw_14 : decode cX2_readLaw 14 = .ok (.aload_n 0, 1) := by decide +kernel
theorem dX2_readLaw_15 : decode cX2_readLaw 15 = .ok (.invokevirtual 69, 3) := by decide +kernel
theorem dX2_readLaw_18 : decode cX2_readLaw 18 = .ok (.aload_n 0, 1) := by decide +kernel
theorem dX2_readLaw_19 : decode cX2_readLaw 19 = .ok (.invokevirtual 69, 3) := by decide +kernel
theorem dX2_readLaw_22 : decode cX2_readLaw 22 = .ok (.aload_n 1, 1) := by decide +kernel
theorem dX2_readLaw_23 : decode cX2_readLaw 23 = .ok (.iload_n 2, 1) := by decide +kernel
theorem dX2_readLaw_24 : decode cX2_readLaw 24 = .ok (.putfield 109, 3) := by decide +kernel
theorem dX2_readLaw_27 : decode cX2_readLaw 27 = .ok (.aload_n 1, 1) := by decide +kernel
theorem dX2_readLaw_28 : decode cX2_readLaw 28 = .ok (.invokevirtual 106, 3) := by decide +kernel
theorem dX2_readLaw_31 : decode cX2_readLaw 31 = .ok (.iconst 1, 1) := by decide +kernel
theorem dX2_readLaw_32 : decode cX2_readLaw 32 = .ok (.ireturn, 1) := by decide +kernel
theorem dX2_readDoor_0 : decode cX2_readDoor 0 = .ok (.aload_n 0, 1) := by decide +kernel
theorem dX2_readDoor_1 : decode cX2_readDoor 1 = .ok (.iconst 2, 1) := by decide +kernel
theorem dX2_readDoor_2 : decode cX2_readDoor 2 = .ok (.invokevirtual 91, 3) := by decide +kernel
theorem dX2_readDoor_5 : decode cX2_readDoor 5 = .ok (.istore_n 2, 1) := by decide +kernel
theorem dX2_readDoor_6 : decode cX2_readDoor 6 = .ok (.aload_n 0, 1) := by decide +kernel
theorem dX2_readDoor_7 : decode cX2_readDoor 7 = .ok (.invokevirtual 69, 3) := by decide +kernel
theorem dX2_readDoor_10 : decode cX2_readDoor 10 = .ok (.iconst 2, 1) := by decide +kernel
theorem dX2_readDoor_11 : decode cX2_readDoor 11 = .ok (.iload_n 2, 1) := by decide +kernel
theorem dX2_readDoor_12 : decode cX2_readDoor 12 = .ok (.invokestatic 94, 3) := by decide +kernel
theorem dX2_readDoor_15 : decode cX2_readDoor 15 = .ok (.ifCond .eq 5, 3) := by decide +kernel
theorem dX2_readDoor_18 : decode cX2_readDoor 18 = .ok (.iconst 0, 1) := by decide +kernel
theorem dX2_readDoor_19 : decode cX2_readDoor 19 = .ok (.ireturn, 1) := by decide +kernel
theorem dX2_readDoor_20 : decode cX2_readDoor 20 = .ok (.aload_n 1, 1) := by decide +kernel
theorem dX2_readDoor_21 : decode cX2_readDoor 21 = .ok (.iload_n 2, 1) := by decide +kernel
theorem dX2_readDoor_22 : decode cX2_readDoor 22 = .ok (.putfield 112, 3) := by decide +kernel
theorem dX2_readDoor_25 : decode cX2_readDoor 25 = .ok (.aload_n 1, 1) := by decide +kernel
theorem dX2_readDoor_26 : decode cX2_readDoor 26 = .ok (.invokevirtual 106, 3) := by decide +kernel
theorem dX2_readDoor_29 : decode cX2_readDoor 29 = .ok (.iconst 1, 1) := by decide +kernel
theorem dX2_readDoor_30 : decode cX2_readDoor 30 = .ok (.ireturn, 1) := by decide +kernel
theorem dX2_readTelling_0 : decode cX2_readTelling 0 = .ok (.aload_n 0, 1) := by decide +kernel
theorem dX2_readTelling_1 : decode cX2_readTelling 1 = .ok (.iconst 1, 1) := by decide +kernel
theorem dX2_readTelling_2 : decode cX2_readTelling 2 = .ok (.invokevirtual 91, 3) := by decide +kernel
theorem dX2_readTelling_5 : decode cX2_readTelling 5 = .ok (.istore_n 2, 1) := by decide +kernel
theorem dX2_readTelling_6 : decode cX2_readTelling 6 = .ok (.aload_n 0, 1) := by decide +kernel
theorem dX2_readTelling_7 : decode cX2_readTelling 7 = .ok (.iconst 2, 1) := by decide +kernel
theorem dX2_readTelling_8 : decode cX2_readTelling 8 = .ok (.invokevirtual 91, 3) := by decide +kernel
theorem dX2_readTelling_11 : decode cX2_readTelling 11 = .ok (.istore_n 3, 1) := by decide +kernel
theorem dX2_readTelling_12 : decode cX2_readTelling 12 = .ok (.aload_n 0, 1) := by decide +kernel
theorem dX2_readTelling_13 : decode cX2_readTelling 13 = .ok (.invokevirtual 115, 3) := by decide +kernel
theorem dX2_readTelling_16 : decode cX2_readTelling 16 = .ok (.istore 4, 2) := by decide +kernel
theorem dX2_readTelling_18 : decode cX2_readTelling 18 = .ok (.aload_n 0, 1) := by decide +kernel
theorem dX2_readTelling_19 : decode cX2_readTelling 19 = .ok (.invokevirtual 69, 3) := by decide +kernel
theorem dX2_readTelling_22 : decode cX2_readTelling 22 = .ok (.iload_n 2, 1) := by decide +kernel
theorem dX2_readTelling_23 : decode cX2_readTelling 23 = .ok (.invokestatic 118, 3) := by decide +kernel
theorem dX2_readTelling_26 : decode cX2_readTelling 26 = .ok (.ifCond .ne 19, 3) := by decide +kernel
theorem dX2_readTelling_29 : decode cX2_readTelling 29 = .ok (.iload_n 3, 1) := by decide +kernel
theorem dX2_readTelling_30 : decode cX2_readTelling 30 = .ok (.invokestatic 122, 3) := by decide +kernel
theorem dX2_readTelling_33 : decode cX2_readTelling 33 = .ok (.ifCond .ne 12, 3) := by decide +kernel
theorem dX2_readTelling_36 : decode cX2_readTelling 36 = .ok (.aload_n 1, 1) := by decide +kernel
theorem dX2_readTelling_37 : decode cX2_readTelling 37 = .ok (.getfield 125, 3) := by decide +kernel
theorem dX2_readTelling_40 : decode cX2_readTelling 40 = .ok (.bipush 6, 2) := by decide +kernel
theorem dX2_readTelling_42 : decode cX2_readTelling 42 = .ok (.if_icmp .lt 5, 3) := by decide +kernel
theorem dX2_readTelling_45 : decode cX2_readTelling 45 = .ok (.iconst 0, 1) := by decide +kernel
theorem dX2_readTelling_46 : decode cX2_readTelling 46 = .ok (.ireturn, 1) := by decide +kernel
theorem dX2_readTelling_47 : decode cX2_readTelling 47 = .ok (.aload_n 1, 1) := by decide +kernel
theorem dX2_readTelling_48 : decode cX2_readTelling 48 = .ok (.iload_n 2, 1) := by decide +kernel
theorem dX2_readTelling_49 : decode cX2_readTelling 49 = .ok (.iload_n 3, 1) := by decide +kernel
theorem dX2_readTelling_50 : decode cX2_readTelling 50 = .ok (.iload 4, 2) := by decide +kernel
theorem dX2_readTelling_52 : decode cX2_readTelling 52 = .ok (.invokevirtual 128, 3) := by decide +kernel
theorem dX2_readTelling_55 : decode cX2_readTelling 55 = .ok (.iconst 1, 1) := by decide +kernel
theorem dX2_readTelling_56 : decode cX2_readTelling 56 = .ok (.ireturn, 1) := by decide +kernel
theorem dX2_readNail_0 : decode cX2_readNail 0 = .ok (.aload_n 0, 1) := by decide +kernel
theorem dX2_readNail_1 : decode cX2_readNail 1 = .ok (.iconst 2, 1) := by decide +kernel
theorem dX2_readNail_2 : decode cX2_readNail 2 = .ok (.invokevirtual 91, 3) := by decide +kernel
theorem dX2_readNail_5 : decode cX2_readNail 5 = .ok (.istore_n 2, 1) := by decide +kernel
theorem dX2_readNail_6 : decode cX2_readNail 6 = .ok (.aload_n 0, 1) := by decide +kernel
theorem dX2_readNail_7 : decode cX2_readNail 7 = .ok (.invokevirtual 115, 3) := by decide +kernel
theorem dX2_readNail_10 : decode cX2_readNail 10 = .ok (.istore_n 3, 1) := by decide +kernel
theorem dX2_readNail_11 : decode cX2_readNail 11 = .ok (.aload_n 0, 1) := by decide +kernel
theorem dX2_readNail_12 : decode cX2_readNail 12 = .ok (.invokevirtual 69, 3) := by decide +kernel
theorem dX2_readNail_15 : decode cX2_readNail 15 = .ok (.iload_n 2, 1) := by decide +kernel
theorem dX2_readNail_16 : decode cX2_readNail 16 = .ok (.invokestatic 122, 3) := by decide +kernel
theorem dX2_readNail_19 : decode cX2_readNail 19 = .ok (.ifCond .ne 12, 3) := by decide +kernel
theorem dX2_readNail_22 : decode cX2_readNail 22 = .ok (.aload_n 1, 1) := by decide +kernel
theorem dX2_readNail_23 : decode cX2_readNail 23 = .ok (.iload_n 2, 1) := by decide +kernel
theorem dX2_readNail_24 : decode cX2_readNail 24 = .ok (.iload_n 3, 1) := by decide +kernel
theorem dX2_readNail_25 : decode cX2_readNail 25 = .ok (.invokevirtual 132, 3) := by decide +kernel
theorem dX2_readNail_28 : decode cX2_readNail 28 = .ok (.ifCond .ne 5, 3) := by decide +kernel
theorem dX2_readNail_31 : decode cX2_readNail 31 = .ok (.iconst 0, 1) := by decide +kernel
theorem dX2_readNail_32 : decode cX2_readNail 32 = .ok (.ireturn, 1) := by decide +kernel
theorem dX2_readNail_33 : decode cX2_readNail 33 = .ok (.aload_n 1, 1) := by decide +kernel
theorem dX2_readNail_34 : decode cX2_readNail 34 = .ok (.iload_n 2, 1) := by decide +kernel
theorem dX2_readNail_35 : decode cX2_readNail 35 = .ok (.iload_n 3, 1) := by decide +kernel
theorem dX2_readNail_36 : decode cX2_readNail 36 = .ok (.invokevirtual 136, 3) := by decide +kernel
theorem dX2_readNail_39 : decode cX2_readNail 39 = .ok (.iconst 1, 1) := by decide +kernel
theorem dX2_readNail_40 : decode cX2_readNail 40 = .ok (.ireturn, 1) := by decide +kernel
theorem dX2_readPipe_0 : decode cX2_readPipe 0 = .ok (.aload_n 0, 1) := by decide +kernel
theorem dX2_readPipe_1 : decode cX2_readPipe 1 = .ok (.iconst 2, 1) := by decide +kernel
theorem dX2_readPipe_2 : decode cX2_readPipe 2 = .ok (.invokevirtual 91, 3) := by decide +kernel
theorem dX2_readPipe_5 : decode cX2_readPipe 5 = .ok (.istore_n 2, 1) := by decide +kernel
theorem dX2_readPipe_6 : decode cX2_readPipe 6 = .ok (.aload_n 0, 1) := by decide +kernel
theorem dX2_readPipe_7 : decode cX2_readPipe 7 = .ok (.iconst 1, 1) := by decide +kernel
theorem dX2_readPipe_8 : decode cX2_readPipe 8 = .ok (.invokevirtual 91, 3) := by decide +kernel
theorem dX2_readPipe_11 : decode cX2_readPipe 11 = .ok (.istore_n 3, 1) := by decide +kernel
theorem dX2_readPipe_12 : decode cX2_readPipe 12 = .ok (.aload_n 0, 1) := by decide +kernel
theorem dX2_readPipe_13 : decode cX2_readPipe 13 = .ok (.invokevirtual 69, 3) := by decide +kernel
theorem dX2_readPipe_16 : decode cX2_readPipe 16 = .ok (.iload_n 2, 1) := by decide +kernel
theorem dX2_readPipe_17 : decode cX2_readPipe 17 = .ok (.invokestatic 122, 3) := by decide +kernel
theorem dX2_readPipe_20 : decode cX2_readPipe 20 = .ok (.ifCond .ne 10, 3) := by decide +kernel
theorem dX2_readPipe_23 : decode cX2_readPipe 23 = .ok (.aload_n 1, 1) := by decide +kernel
theorem dX2_readPipe_24 : decode cX2_readPipe 24 = .ok (.invokevirtual 140, 3) := by decide +kernel
theorem dX2_readPipe_27 : decode cX2_readPipe 27 = .ok (.ifCond .ne 5, 3) := by decide +kernel
theorem dX2_readPipe_30 : decode cX2_readPipe 30 = .ok (.iconst 0, 1) := by decide +kernel
theorem dX2_readPipe_31 : decode cX2_readPipe 31 = .ok (.ireturn, 1) := by decide +kernel
theorem dX2_readPipe_32 : decode cX2_readPipe 32 = .ok (.aload_n 1, 1) := by decide +kernel
theorem dX2_readPipe_33 : decode cX2_readPipe 33 = .ok (.iload_n 2, 1) := by decide +kernel
theorem dX2_readPipe_34 : decode cX2_readPipe 34 = .ok (.iload_n 3, 1) := by decide +kernel
theorem dX2_readPipe_35 : decode cX2_readPipe 35 = .ok (.invokevirtual 143, 3) := by decide +kernel
theorem dX2_readPipe_38 : decode cX2_readPipe 38 = .ok (.iconst 1, 1) := by decide +kernel
theorem dX2_readPipe_39 : decode cX2_readPipe 39 = .ok (.ireturn, 1) := by decide +kernel
theorem dX2_readNumber_0 : decode cX2_readNumber 0 = .ok (.iconst 0, 1) := by decide +kernel
theorem dX2_readNumber_1 : decode cX2_readNumber 1 = .ok (.istore_n 2, 1) := by decide +kernel
theorem dX2_readNumber_2 : decode cX2_readNumber 2 = .ok (.iconst 0, 1) := by decide +kernel
theorem dX2_readNumber_3 : decode cX2_readNumber 3 = .ok (.istore_n 3, 1) := by decide +kernel
theorem dX2_readNumber_4 : decode cX2_readNumber 4 = .ok (.iload_n 3, 1) := by decide +kernel
theorem dX2_readNumber_5 : decode cX2_readNumber 5 = .ok (.iload_n 1, 1) := by decide +kernel
theorem dX2_readNumber_6 : decode cX2_readNumber 6 = .ok (.if_icmp .ge 30, 3) := by decide +kernel
theorem dX2_readNumber_9 : decode cX2_readNumber 9 = .ok (.bipush 10, 2) := by decide +kernel
theorem dX2_readNumber_11 : decode cX2_readNumber 11 = .ok (.iload_n 2, 1) := by decide +kernel
theorem dX2_readNumber_12 : decode cX2_readNumber 12 = .ok (.imul, 1) := by decide +kernel
theorem dX2_readNumber_13 : decode cX2_readNumber 13 = .ok (.aload_n 0, 1) := by decide +kernel
theorem dX2_readNumber_14 : decode cX2_readNumber 14 = .ok (.aload_n 0, 1) := by decide +kernel
theorem dX2_readNumber_15 : decode cX2_readNumber 15 = .ok (.getfield 19, 3) := by decide +kernel
theorem dX2_readNumber_18 : decode cX2_readNumber 18 = .ok (.invokevirtual 26, 3) := by decide +kernel
theorem dX2_readNumber_21 : decode cX2_readNumber 21 = .ok (.iadd, 1) := by decide +kernel
theorem dX2_readNumber_22 : decode cX2_readNumber 22 = .ok (.bipush 48, 2) := by decide +kernel
theorem dX2_readNumber_24 : decode cX2_readNumber 24 = .ok (.isub, 1) := by decide +kernel
theorem dX2_readNumber_25 : decode cX2_readNumber 25 = .ok (.istore_n 2, 1) := by decide +kernel
theorem dX2_readNumber_26 : decode cX2_readNumber 26 = .ok (.aload_n 0, 1) := by decide +kernel
theorem dX2_readNumber_27 : decode cX2_readNumber 27 = .ok (.invokevirtual 69, 3) := by decide +kernel
theorem dX2_readNumber_30 : decode cX2_readNumber 30 = .ok (.iinc 3 1, 3) := by decide +kernel
theorem dX2_readNumber_33 : decode cX2_readNumber 33 = .ok (.goto (-29), 3) := by decide +kernel
theorem dX2_readNumber_36 : decode cX2_readNumber 36 = .ok (.iload_n 2, 1) := by decide +kernel
theorem dX2_readNumber_37 : decode cX2_readNumber 37 = .ok (.ireturn, 1) := by decide +kernel
theorem dX2_readPlus_0 : decode cX2_readPlus 0 = .ok (.aload_n 0, 1) := by decide +kernel
theorem dX2_readPlus_1 : decode cX2_readPlus 1 = .ok (.aload_n 0, 1) := by decide +kernel
theorem dX2_readPlus_2 : decode cX2_readPlus 2 = .ok (.getfield 19, 3) := by decide +kernel
theorem dX2_readPlus_5 : decode cX2_readPlus 5 = .ok (.invokevirtual 26, 3) := by decide +kernel
theorem dX2_readPlus_8 : decode cX2_readPlus 8 = .ok (.bipush 43, 2) := by decide +kernel
theorem dX2_readPlus_10 : decode cX2_readPlus 10 = .ok (.if_icmp .ne 7, 3) := by decide +kernel
theorem dX2_readPlus_13 : decode cX2_readPlus 13 = .ok (.iconst 1, 1) := by decide +kernel
theorem dX2_readPlus_14 : decode cX2_readPlus 14 = .ok (.goto 4, 3) := by decide +kernel
theorem dX2_readPlus_17 : decode cX2_readPlus 17 = .ok (.iconst 0, 1) := by decide +kernel
theorem dX2_readPlus_18 : decode cX2_readPlus 18 = .ok (.istore_n 1, 1) := by decide +kernel
theorem dX2_readPlus_19 : decode cX2_readPlus 19 = .ok (.aload_n 0, 1) := by decide +kernel
theorem dX2_readPlus_20 : decode cX2_readPlus 20 = .ok (.invokevirtual 69, 3) := by decide +kernel
theorem dX2_readPlus_23 : decode cX2_readPlus 23 = .ok (.iload_n 1, 1) := by decide +kernel
theorem dX2_readPlus_24 : decode cX2_readPlus 24 = .ok (.ireturn, 1) := by decide +kernel
theorem dX2_skipSign_0 : decode cX2_skipSign 0 = .ok (.aload_n 0, 1) := by decide +kernel
theorem dX2_skipSign_1 : decode cX2_skipSign 1 = .ok (.dup, 1) := by decide +kernel
theorem dX2_skipSign_2 : decode cX2_skipSign 2 = .ok (.getfield 19, 3) := by decide +kernel
theorem dX2_skipSign_5 : decode cX2_skipSign 5 = .ok (.iconst 1, 1) := by decide +kernel
theorem dX2_skipSign_6 : decode cX2_skipSign 6 = .ok (.iadd, 1) := by decide +kernel
theorem dX2_skipSign_7 : decode cX2_skipSign 7 = .ok (.putfield 19, 3) := by decide +kernel
theorem dX2_skipSign_10 : decode cX2_skipSign 10 = .ok (.return_, 1) := by decide +kernel
theorem dX3_init_0 : decode cX3_init 0 = .ok (.aload_n 0, 1) := by decide +kernel
theorem dX3_init_1 : decode cX3_init 1 = .ok (.invokespecial 3, 3) := by decide +kernel
theorem dX3_init_4 : decode cX3_init 4 = .ok (.aload_n 0, 1) := by decide +kernel
theorem dX3_init_5 : decode cX3_init 5 = .ok (.bipush 16, 2) := by decide +kernel
theorem dX3_init_7 : decode cX3_init 7 = .ok (.putfield 9, 3) := by decide +kernel
theorem dX3_init_10 : decode cX3_init 10 = .ok (.aload_n 0, 1) := by decide +kernel
theorem dX3_init_11 : decode cX3_init 11 = .ok (.iconst 2, 1) := by decide +kernel
theorem dX3_init_12 : decode cX3_init 12 = .ok (.putfield 15, 3) := by decide +kernel
theorem dX3_init_15 : decode cX3_init 15 = .ok (.aload_n 0, 1) := by decide +kernel
theorem dX3_init_16 : decode cX3_init 16 = .ok (.bipush 20, 2) := by decide +kernel
theorem dX3_init_18 : decode cX3_init 18 = .ok (.putfield 18, 3) := by decide +kernel
theorem dX3_init_21 : decode cX3_init 21 = .ok (.aload_n 0, 1) := by decide +kernel
theorem dX3_init_22 : decode cX3_init 22 = .ok (.iconst 0, 1) := by decide +kernel
theorem dX3_init_23 : decode cX3_init 23 = .ok (.putfield 21, 3) := by decide +kernel
theorem dX3_init_26 : decode cX3_init 26 = .ok (.aload_n 0, 1) := by decide +kernel
theorem dX3_init_27 : decode cX3_init 27 = .ok (.iconst 0, 1) := by decide +kernel
theorem dX3_init_28 : decode cX3_init 28 = .ok (.putfield 24, 3) := by decide +kernel
theorem dX3_init_31 : decode cX3_init 31 = .ok (.aload_n 0, 1) := by decide +kernel
theorem dX3_init_32 : decode cX3_init 32 = .ok (.iconst 0, 1) := by decide +kernel
theorem dX3_init_33 : decode cX3_init 33 = .ok (.putfield 27, 3) := by decide +kernel
theorem dX3_init_36 : decode cX3_init 36 = .ok (.aload_n 0, 1) := by decide +kernel
theorem dX3_init_37 : decode cX3_init 37 = .ok (.lconst 0, 1) := by decide +kernel
theorem dX3_init_38 : decode cX3_init 38 = .ok (.putfield 30, 3) := by decide +kernel
theorem dX3_init_41 : decode cX3_init 41 = .ok (.aload_n 0, 1) := by decide +kernel
theorem dX3_init_42 : decode cX3_init 42 = .ok (.bipush 6, 2) := by decide +kernel
theorem dX3_init_44 : decode cX3_init 44 = .ok (.newarray .int, 2) := by decide +kernel
theorem dX3_init_46 : decode cX3_init 46 = .ok (.putfield 34, 3) := by decide +kernel
theorem dX3_init_49 : decode cX3_init 49 = .ok (.aload_n 0, 1) := by decide +kernel
theorem dX3_init_50 : decode cX3_init 50 = .ok (.bipush 6, 2) := by decide +kernel
theorem dX3_init_52 : decode cX3_init 52 = .ok (.newarray .int, 2) := by decide +kernel
theorem dX3_init_54 : decode cX3_init 54 = .ok (.putfield 38, 3) := by decide +kernel
theorem dX3_init_57 : decode cX3_init 57 = .ok (.aload_n 0, 1) := by decide +kernel
theorem dX3_init_58 : decode cX3_init 58 = .ok (.bipush 24, 2) := by decide +kernel
theorem dX3_init_60 : decode cX3_init 60 = .ok (.newarray .long, 2) := by decide +kernel
theorem dX3_init_62 : decode cX3_init 62 = .ok (.putfield 41, 3) := by decide +kernel
theorem dX3_init_65 : decode cX3_init 65 = .ok (.aload_n 0, 1) := by decide +kernel
theorem dX3_init_66 : decode cX3_init 66 = .ok (.bipush 48, 2) := by decide +kernel
theorem dX3_init_68 : decode cX3_init 68 = .ok (.newarray .int, 2) := by decide +kernel
theorem dX3_init_70 : decode cX3_init 70 = .ok (.putfield 45, 3) := by decide +kernel
theorem dX3_init_73 : decode cX3_init 73 = .ok (.aload_n 0, 1) := by decide +kernel
theorem dX3_init_74 : decode cX3_init 74 = .ok (.bipush 48, 2) := by decide +kernel
theorem dX3_init_76 : decode cX3_init 76 = .ok (.newarray .long, 2) := by decide +kernel
theorem dX3_init_78 : decode cX3_init 78 = .ok (.putfield 48, 3) := by decide +kernel
theorem dX3_init_81 : decode cX3_init 81 = .ok (.aload_n 0, 1) := by decide +kernel
theorem dX3_init_82 : decode cX3_init 82 = .ok (.lconst 0, 1) := by decide +kernel
theorem dX3_init_83 : decode cX3_init 83 = .ok (.putfield 51, 3) := by decide +kernel
theorem dX3_init_86 : decode cX3_init 86 = .ok (.aload_n 0, 1) := by decide +kernel
theorem dX3_init_87 : decode cX3_init 87 = .ok (.iconst 0, 1) := by decide +kernel
theorem dX3_init_88 : decode cX3_init 88 = .ok (.putfield 54, 3) := by decide +kernel
theorem dX3_init_91 : decode cX3_init 91 = .ok (.aload_n 0, 1) := by decide +kernel
theorem dX3_init_92 : decode cX3_init 92 = .ok (.invokevirtual 57, 3) := by decide +kernel
theorem dX3_init_95 : decode cX3_init 95 = .ok (.return_, 1) := by decide +kernel
theorem dX3_becomeAs_0 : decode cX3_becomeAs 0 = .ok (.aload_n 0, 1) := by decide +kernel
theorem dX3_becomeAs_1 : decode cX3_becomeAs 1 = .ok (.aload_n 1, 1) := by decide +kernel
theorem dX3_becomeAs_2 : decode cX3_becomeAs 2 = .ok (.getfield 9, 3) := by decide +kernel
theorem dX3_becomeAs_5 : decode cX3_becomeAs 5 = .ok (.putfield 9, 3) := by decide +kernel
theorem dX3_becomeAs_8 : decode cX3_becomeAs 8 = .ok (.aload_n 0, 1) := by decide +kernel
theorem dX3_becomeAs_9 : decode cX3_becomeAs 9 = .ok (.aload_n 1, 1) := by decide +kernel
theorem dX3_becomeAs_10 : decode cX3_becomeAs 10 = .ok (.getfield 15, 3) := by decide +kernel
theorem dX3_becomeAs_13 : decode cX3_becomeAs 13 = .ok (.putfield 15, 3) := by decide +kernel
theorem dX3_becomeAs_16 : decode cX3_becomeAs 16 = .ok (.aload_n 0, 1) := by decide +kernel
theorem dX3_becomeAs_17 : decode cX3_becomeAs 17 = .ok (.aload_n 1, 1) := by decide +kernel
theorem dX3_becomeAs_18 : decode cX3_becomeAs 18 = .ok (.getfield 18, 3) := by decide +kernel
theorem dX3_becomeAs_21 : decode cX3_becomeAs 21 = .ok (.putfield 18, 3) := by decide +kernel
theorem dX3_becomeAs_24 : decode cX3_becomeAs 24 = .ok (.aload_n 0, 1) := by decide +kernel
theorem dX3_becomeAs_25 : decode cX3_becomeAs 25 = .ok (.aload_n 1, 1) := by decide +kernel
theorem dX3_becomeAs_26 : decode cX3_becomeAs 26 = .ok (.getfield 21, 3) := by decide +kernel
theorem dX3_becomeAs_29 : decode cX3_becomeAs 29 = .ok (.putfield 21, 3) := by decide +kernel
theorem dX3_becomeAs_32 : decode cX3_becomeAs 32 = .ok (.aload_n 0, 1) := by decide +kernel
theorem dX3_becomeAs_33 : decode cX3_becomeAs 33 = .ok (.aload_n 1, 1) := by decide +kernel
theorem dX3_becomeAs_34 : decode cX3_becomeAs 34 = .ok (.getfield 24, 3) := by decide +kernel
theorem dX3_becomeAs_37 : decode cX3_becomeAs 37 = .ok (.putfield 24, 3) := by decide +kernel
theorem dX3_becomeAs_40 : decode cX3_becomeAs 40 = .ok (.aload_n 0, 1) := by decide +kernel
theorem dX3_becomeAs_41 : decode cX3_becomeAs 41 = .ok (.aload_n 1, 1) := by decide +kernel
theorem dX3_becomeAs_42 : decode cX3_becomeAs 42 = .ok (.getfield 27, 3) := by decide +kernel
theorem dX3_becomeAs_45 : decode cX3_becomeAs 45 = .ok (.putfield 27, 3) := by decide +kernel
theorem dX3_becomeAs_48 : decode cX3_becomeAs 48 = .ok (.aload_n 0, 1) := by decide +kernel
theorem dX3_becomeAs_49 : decode cX3_becomeAs 49 = .ok (.aload_n 1, 1) := by decide +kernel
theorem dX3_becomeAs_50 : decode cX3_becomeAs 50 = .ok (.getfield 30, 3) := by decide +kernel
theorem dX3_becomeAs_53 : decode cX3_becomeAs 53 = .ok (.putfield 30, 3) := by decide +kernel
theorem dX3_becomeAs_56 : decode cX3_becomeAs 56 = .ok (.aload_n 1, 1) := by decide +kernel
theorem dX3_becomeAs_57 : decode cX3_becomeAs 57 = .ok (.getfield 34, 3) := by decide +kernel
theorem dX3_becomeAs_60 : decode cX3_becomeAs 60 = .ok (.iconst 0, 1) := by decide +kernel
theorem dX3_becomeAs_61 : decode cX3_becomeAs 61 = .ok (.aload_n 0, 1) := by decide +kernel
theorem dX3_becomeAs_62 : decode cX3_becomeAs 62 = .ok (.getfield 34, 3) := by decide +kernel
theorem dX3_becomeAs_65 : decode cX3_becomeAs 65 = .ok (.iconst 0, 1) := by decide +kernel
theorem dX3_becomeAs_66 : decode cX3_becomeAs 66 = .ok (.bipush 6, 2) := by decide +kernel
theorem dX3_becomeAs_68 : decode cX3_becomeAs 68 = .ok (.invokestatic 60, 3) := by decide +kernel
theorem dX3_becomeAs_71 : decode cX3_becomeAs 71 = .ok (.aload_n 1, 1) := by decide +kernel
theorem dX3_becomeAs_72 : decode cX3_becomeAs 72 = .ok (.getfield 38, 3) := by decide +kernel
theorem dX3_becomeAs_75 : decode cX3_becomeAs 75 = .ok (.iconst 0, 1) := by decide +kernel
theorem dX3_becomeAs_76 : decode cX3_becomeAs 76 = .ok (.aload_n 0, 1) := by decide +kernel
theorem dX3_becomeAs_77 : decode cX3_becomeAs 77 = .ok (.getfield 38, 3) := by decide +kernel
theorem dX3_becomeAs_80 : decode cX3_becomeAs 80 = .ok (.iconst 0, 1) := by decide +kernel
theorem dX3_becomeAs_81 : decode cX3_becomeAs 81 = .ok (.bipush 6, 2) := by decide +kernel
theorem dX3_becomeAs_83 : decode cX3_becomeAs 83 = .ok (.invokestatic 60, 3) := by decide +kernel
theorem dX3_becomeAs_86 : decode cX3_becomeAs 86 = .ok (.aload_n 1, 1) := by decide +kernel
theorem dX3_becomeAs_87 : decode cX3_becomeAs 87 = .ok (.getfield 41, 3) := by decide +kernel
theorem dX3_becomeAs_90 : decode cX3_becomeAs 90 = .ok (.iconst 0, 1) := by decide +kernel
theorem dX3_becomeAs_91 : decode cX3_becomeAs 91 = .ok (.aload_n 0, 1) := by decide +kernel
theorem dX3_becomeAs_92 : decode cX3_becomeAs 92 = .ok (.getfield 41, 3) := by decide +kernel
theorem dX3_becomeAs_95 : decode cX3_becomeAs 95 = .ok (.iconst 0, 1) := by decide +kernel
theorem dX3_becomeAs_96 : decode cX3_becomeAs 96 = .ok (.bipush 24, 2) := by decide +kernel
theorem dX3_becomeAs_98 : decode cX3_becomeAs 98 = .ok (.invokestatic 60, 3) := by decide +kernel
theorem dX3_becomeAs_101 : decode cX3_becomeAs 101 = .ok (.aload_n 1, 1) := by decide +kernel
theorem dX3_becomeAs_102 : decode cX3_becomeAs 102 = .ok (.getfield 45, 3) := by decide +kernel
theorem dX3_becomeAs_105 : decode cX3_becomeAs 105 = .ok (.iconst 0, 1) := by decide +kernel
theorem dX3_becomeAs_106 : decode cX3_becomeAs 106 = .ok (.aload_n 0, 1) := by decide +kernel
theorem dX3_becomeAs_107 : decode cX3_becomeAs 107 = .ok (.getfield 45, 3) := by decide +kernel
theorem dX3_becomeAs_110 : decode cX3_becomeAs 110 = .ok (.iconst 0, 1) := by decide +kernel
theorem dX3_becomeAs_111 : decode cX3_becomeAs 111 = .ok (.bipush 48, 2) := by decide +kernel
theorem dX3_becomeAs_113 : decode cX3_becomeAs 113 = .ok (.invokestatic 60, 3) := by decide +kernel
theorem dX3_becomeAs_116 : decode cX3_becomeAs 116 = .ok (.aload_n 1, 1) := by decide +kernel
theorem dX3_becomeAs_117 : decode cX3_becomeAs 117 = .ok (.getfield 48, 3) := by decide +kernel
theorem dX3_becomeAs_120 : decode cX3_becomeAs 120 = .ok (.iconst 0, 1) := by decide +kernel
theorem dX3_becomeAs_121 : decode cX3_becomeAs 121 = .ok (.aload_n 0, 1) := by decide +kernel
theorem dX3_becomeAs_122 : decode cX3_becomeAs 122 = .ok (.getfield 48, 3) := by decide +kernel
theorem dX3_becomeAs_125 : decode cX3_becomeAs 125 = .ok (.iconst 0, 1) := by decide +kernel
theorem dX3_becomeAs_126 : decode cX3_becomeAs 126 = .ok (.bipush 48, 2) := by decide +kernel
theorem dX3_becomeAs_128 : decode cX3_becomeAs 128 = .ok (.invokestatic 60, 3) := by decide +kernel
theorem dX3_becomeAs_131 : decode cX3_becomeAs 131 = .ok (.aload_n 0, 1) := by decide +kernel
theorem dX3_becomeAs_132 : decode cX3_becomeAs 132 = .ok (.aload_n 1, 1) := by decide +kernel
theorem dX3_becomeAs_133 : decode cX3_becomeAs 133 = .ok (.getfield 51, 3) := by decide +kernel
theorem dX3_becomeAs_136 : decode cX3_becomeAs 136 = .ok (.putfield 51, 3) := by decide +kernel
theorem dX3_becomeAs_139 : decode cX3_becomeAs 139 = .ok (.aload_n 0, 1) := by decide +kernel
theorem dX3_becomeAs_140 : decode cX3_becomeAs 140 = .ok (.aload_n 1, 1) := by decide +kernel
theorem dX3_becomeAs_141 : decode cX3_becomeAs 141 = .ok (.getfield 54, 3) := by decide +kernel
theorem dX3_becomeAs_144 : decode cX3_becomeAs 144 = .ok (.putfield 54, 3) := by decide +kernel
theorem dX3_becomeAs_147 : decode cX3_becomeAs 147 = .ok (.return_, 1) := by decide +kernel
theorem dX3_measure_0 : decode cX3_measure 0 = .ok (.iload_n 1, 1) := by decide +kernel
theorem dX3_measure_1 : decode cX3_measure 1 = .ok (.tableswitch 42 0 2 #[27, 32, 37], 27) := by decide +kernel
theorem dX3_measure_28 : decode cX3_measure 28 = .ok (.aload_n 0, 1) := by decide +kernel
theorem dX3_measure_29 : decode cX3_measure 29 = .ok (.getfield 9, 3) := by decide +kernel
theorem dX3_measure_32 : decode cX3_measure 32 = .ok (.ireturn, 1) := by decide +kernel
theorem dX3_measure_33 : decode cX3_measure 33 = .ok (.aload_n 0, 1) := by decide +kernel
theorem dX3_measure_34 : decode cX3_measure 34 = .ok (.getfield 15, 3) := by decide +kernel
theorem dX3_measure_37 : decode cX3_measure 37 = .ok (.ireturn, 1) := by decide +kernel
theorem dX3_measure_38 : decode cX3_measure 38 = .ok (.aload_n 0, 1) := by decide +kernel
theorem dX3_measure_39 : decode cX3_measure 39 = .ok (.getfield 18, 3) := by decide +kernel
theorem dX3_measure_42 : decode cX3_measure 42 = .ok (.ireturn, 1) := by decide +kernel
theorem dX3_measure_43 : decode cX3_measure 43 = .ok (.aload_n 0, 1) := by decide +kernel
theorem dX3_measure_44 : decode cX3_measure 44 = .ok (.getfield 21, 3) := by decide +kernel
theorem dX3_measure_47 : decode cX3_measure 47 = .ok (.ireturn, 1) := by decide +kernel
theorem dX3_changeMeasure_0 : decode cX3_changeMeasure 0 = .ok (.iload_n 1, 1) := by decide +kernel
theorem dX3_changeMeasure_1 : decode cX3_changeMeasure 1 = .ok (.tableswitch 51 0 2 #[27, 35, 43], 27) := by decide +kernel
theorem dX3_changeMeasure_28 : decode cX3_changeMeasure 28 = .ok (.aload_n 0, 1) := by decide +kernel
theorem dX3_changeMeasure_29 : decode cX3_changeMeasure 29 = .ok (.iload_n 2, 1) := by decide +kernel
theorem dX3_changeMeasure_30 : decode cX3_changeMeasure 30 = .ok (.putfield 9, 3) := by decide +kernel
theorem dX3_changeMeasure_33 : decode cX3_changeMeasure 33 = .ok (.goto 24, 3) := by decide +kernel
theorem dX3_changeMeasure_36 : decode cX3_changeMeasure 36 = .ok (.aload_n 0, 1) := by decide +kernel
theorem dX3_changeMeasure_37 : decode cX3_changeMeasure 37 = .ok (.iload_n 2, 1) := by decide +kernel
theorem dX3_changeMeasure_38 : decode cX3_changeMeasure 38 = .ok (.putfield 15, 3) := by decide +kernel
theorem dX3_changeMeasure_41 : decode cX3_changeMeasure 41 = .ok (.goto 16, 3) := by decide +kernel
theorem dX3_changeMeasure_44 : decode cX3_changeMeasure 44 = .ok (.aload_n 0, 1) := by decide +kernel
theorem dX3_changeMeasure_45 : decode cX3_changeMeasure 45 = .ok (.iload_n 2, 1) := by decide +kernel
theorem dX3_changeMeasure_46 : decode cX3_changeMeasure 46 = .ok (.putfield 18, 3) := by decide +kernel
theorem dX3_changeMeasure_49 : decode cX3_changeMeasure 49 = .ok (.goto 8, 3) := by decide +kernel
theorem dX3_changeMeasure_52 : decode cX3_changeMeasure 52 = .ok (.aload_n 0, 1) := by decide +kernel
theorem dX3_changeMeasure_53 : decode cX3_changeMeasure 53 = .ok (.iload_n 2, 1) := by decide +kernel
theorem dX3_changeMeasure_54 : decode cX3_changeMeasure 54 = .ok (.putfield 21, 3) := by decide +kernel
theorem dX3_changeMeasure_57 : decode cX3_changeMeasure 57 = .ok (.return_, 1) := by decide +kernel
theorem dX3_beginAnew_0 : decode cX3_beginAnew 0 = .ok (.iconst 0, 1) := by decide +kernel
theorem dX3_beginAnew_1 : decode cX3_beginAnew 1 = .ok (.istore_n 1, 1) := by decide +kernel
theorem dX3_beginAnew_2 : decode cX3_beginAnew 2 = .ok (.iload_n 1, 1) := by decide +kernel
theorem dX3_beginAnew_3 : decode cX3_beginAnew 3 = .ok (.bipush 24, 2) := by decide +kernel
theorem dX3_beginAnew_5 : decode cX3_beginAnew 5 = .ok (.if_icmp .ge 28, 3) := by decide +kernel
theorem dX3_beginAnew_8 : decode cX3_beginAnew 8 = .ok (.aload_n 0, 1) := by decide +kernel
theorem dX3_beginAnew_9 : decode cX3_beginAnew 9 = .ok (.getfield 41, 3) := by decide +kernel
theorem dX3_beginAnew_12 : decode cX3_beginAnew 12 = .ok (.iload_n 1, 1) := by decide +kernel
theorem dX3_beginAnew_13 : decode cX3_beginAnew 13 = .ok (.iload_n 1, 1) := by decide +kernel
theorem dX3_beginAnew_14 : decode cX3_beginAnew 14 = .ok (.aload_n 0, 1) := by decide +kernel
theorem dX3_beginAnew_15 : decode cX3_beginAnew 15 = .ok (.getfield 9, 3) := by decide +kernel
theorem dX3_beginAnew_18 : decode cX3_beginAnew 18 = .ok (.if_icmp .ge 7, 3) := by decide +kernel
theorem dX3_beginAnew_21 : decode cX3_beginAnew 21 = .ok (.lconst 1, 1) := by decide +kernel
theorem dX3_beginAnew_22 : decode cX3_beginAnew 22 = .ok (.goto 4, 3) := by decide +kernel
theorem dX3_beginAnew_25 : decode cX3_beginAnew 25 = .ok (.lconst 0, 1) := by decide +kernel
theorem dX3_beginAnew_26 : decode cX3_beginAnew 26 = .ok (.lastore, 1) := by decide +kernel
theorem dX3_beginAnew_27 : decode cX3_beginAnew 27 = .ok (.iinc 1 1, 3) := by decide +kernel
theorem dX3_beginAnew_30 : decode cX3_beginAnew 30 = .ok (.goto (-28), 3) := by decide +kernel
theorem dX3_beginAnew_33 : decode cX3_beginAnew 33 = .ok (.aload_n 0, 1) := by decide +kernel
theorem dX3_beginAnew_34 : decode cX3_beginAnew 34 = .ok (.iconst 0, 1) := by decide +kernel
theorem dX3_beginAnew_35 : decode cX3_beginAnew 35 = .ok (.putfield 24, 3) := by decide +kernel
theorem dX3_beginAnew_38 : decode cX3_beginAnew 38 = .ok (.iconst 0, 1) := by decide +kernel
theorem dX3_beginAnew_39 : decode cX3_beginAnew 39 = .ok (.istore_n 1, 1) := by decide +kernel
theorem dX3_beginAnew_40 : decode cX3_beginAnew 40 = .ok (.iload_n 1, 1) := by decide +kernel
theorem dX3_beginAnew_41 : decode cX3_beginAnew 41 = .ok (.bipush 48, 2) := by decide +kernel
theorem dX3_beginAnew_43 : decode cX3_beginAnew 43 = .ok (.if_icmp .ge 20, 3) := by decide +kernel
theorem dX3_beginAnew_46 : decode cX3_beginAnew 46 = .ok (.aload_n 0, 1) := by decide +kernel
theorem dX3_beginAnew_47 : decode cX3_beginAnew 47 = .ok (.getfield 45, 3) := by decide +kernel
theorem dX3_beginAnew_50 : decode cX3_beginAnew 50 = .ok (.iload_n 1, 1) := by decide +kernel
theorem dX3_beginAnew_51 : decode cX3_beginAnew 51 = .ok (.aload_n 0, 1) := by decide +kernel
theorem dX3_beginAnew_52 : decode cX3_beginAnew 52 = .ok (.iload_n 1, 1) := by decide +kernel
theorem dX3_beginAnew_53 : decode cX3_beginAnew 53 = .ok (.invokevirtual 66, 3) := by decide +kernel
theorem dX3_beginAnew_56 : decode cX3_beginAnew 56 = .ok (.iastore, 1) := by decide +kernel
theorem dX3_beginAnew_57 : decode cX3_beginAnew 57 = .ok (.iinc 1 1, 3) := by decide +kernel
theorem dX3_beginAnew_60 : decode cX3_beginAnew 60 = .ok (.goto (-20), 3) := by decide +kernel
theorem dX3_beginAnew_63 : decode cX3_beginAnew 63 = .ok (.aload_n 0, 1) := by decide +kernel
theorem dX3_beginAnew_64 : decode cX3_beginAnew 64 = .ok (.invokevirtual 70, 3) := by decide +kernel
theorem dX3_beginAnew_67 : decode cX3_beginAnew 67 = .ok (.return_, 1) := by decide +kernel
theorem dX3_woodsByLaw_0 : decode cX3_woodsByLaw 0 = .ok (.aload_n 0, 1) := by decide +kernel
theorem dX3_woodsByLaw_1 : decode cX3_woodsByLaw 1 = .ok (.getfield 21, 3) := by decide +kernel
theorem dX3_woodsByLaw_4 : decode cX3_woodsByLaw 4 = .ok (.tableswitch 110 1 5 #[36, 45, 51, 75, 94], 36) := by decide +kernel
theorem dX3_woodsByLaw_40 : decode cX3_woodsByLaw 40 = .ok (.aload_n 0, 1) := by decide +kernel
theorem dX3_woodsByLaw_41 : decode cX3_woodsByLaw 41 = .ok (.bipush 47, 2) := by decide +kernel
theorem dX3_woodsByLaw_43 : decode cX3_woodsByLaw 43 = .ok (.iload_n 1, 1) := by decide +kernel
theorem dX3_woodsByLaw_44 : decode cX3_woodsByLaw 44 = .ok (.isub, 1) := by decide +kernel
theorem dX3_woodsByLaw_45 : decode cX3_woodsByLaw 45 = .ok (.invokevirtual 73, 3) := by decide +kernel
theorem dX3_woodsByLaw_48 : decode cX3_woodsByLaw 48 = .ok (.ireturn, 1) := by decide +kernel
theorem dX3_woodsByLaw_49 : decode cX3_woodsByLaw 49 = .ok (.aload_n 0, 1) := by decide +kernel
theorem dX3_woodsByLaw_50 : decode cX3_woodsByLaw 50 = .ok (.iload_n 1, 1) := by decide +kernel
theorem dX3_woodsByLaw_51 : decode cX3_woodsByLaw 51 = .ok (.invokevirtual 76, 3) := by decide +kernel
theorem dX3_woodsByLaw_54 : decode cX3_woodsByLaw 54 = .ok (.ireturn, 1) := by decide +kernel
theorem dX3_woodsByLaw_55 : decode cX3_woodsByLaw 55 = .ok (.aload_n 0, 1) := by decide +kernel
theorem dX3_woodsByLaw_56 : decode cX3_woodsByLaw 56 = .ok (.iload_n 1, 1) := by decide +kernel
theorem dX3_woodsByLaw_57 : decode cX3_woodsByLaw 57 = .ok (.invokevirtual 79, 3) := by decide +kernel
theorem dX3_woodsByLaw_60 : decode cX3_woodsByLaw 60 = .ok (.ifCond .eq 10, 3) := by decide +kernel
theorem dX3_woodsByLaw_63 : decode cX3_woodsByLaw 63 = .ok (.aload_n 0, 1) := by decide +kernel
theorem dX3_woodsByLaw_64 : decode cX3_woodsByLaw 64 = .ok (.invokevirtual 83, 3) := by decide +kernel
theorem dX3_woodsByLaw_67 : decode cX3_woodsByLaw 67 = .ok (.goto 11, 3) := by decide +kernel
theorem dX3_woodsByLaw_70 : decode cX3_woodsByLaw 70 = .ok (.aload_n 0, 1) := by decide +kernel
theorem dX3_woodsByLaw_71 : decode cX3_woodsByLaw 71 = .ok (.bipush 47, 2) := by decide +kernel
theorem dX3_woodsByLaw_73 : decode cX3_woodsByLaw 73 = .ok (.iload_n 1, 1) := by decide +kernel
theorem dX3_woodsByLaw_74 : decode cX3_woodsByLaw 74 = .ok (.isub, 1) := by decide +kernel
theorem dX3_woodsByLaw_75 : decode cX3_woodsByLaw 75 = .ok (.invokevirtual 73, 3) := by decide +kernel
theorem dX3_woodsByLaw_78 : decode cX3_woodsByLaw 78 = .ok (.ireturn, 1) := by decide +kernel
theorem dX3_woodsByLaw_79 : decode cX3_woodsByLaw 79 = .ok (.aload_n 0, 1) := by decide +kernel
theorem dX3_woodsByLaw_80 : decode cX3_woodsByLaw 80 = .ok (.iload_n 1, 1) := by decide +kernel
theorem dX3_woodsByLaw_81 : decode cX3_woodsByLaw 81 = .ok (.invokevirtual 76, 3) := by decide +kernel
theorem dX3_woodsByLaw_84 : decode cX3_woodsByLaw 84 = .ok (.aload_n 0, 1) := by decide +kernel
theorem dX3_woodsByLaw_85 : decode cX3_woodsByLaw 85 = .ok (.iload_n 1, 1) := by decide +kernel
theorem dX3_woodsByLaw_86 : decode cX3_woodsByLaw 86 = .ok (.aload_n 0, 1) := by decide +kernel
theorem dX3_woodsByLaw_87 : decode cX3_woodsByLaw 87 = .ok (.getfield 9, 3) := by decide +kernel
theorem dX3_woodsByLaw_90 : decode cX3_woodsByLaw 90 = .ok (.iconst 2, 1) := by decide +kernel
theorem dX3_woodsByLaw_91 : decode cX3_woodsByLaw 91 = .ok (.idiv, 1) := by decide +kernel
theorem dX3_woodsByLaw_92 : decode cX3_woodsByLaw 92 = .ok (.iadd, 1) := by decide +kernel
theorem dX3_woodsByLaw_93 : decode cX3_woodsByLaw 93 = .ok (.invokevirtual 76, 3) := by decide +kernel
theorem dX3_woodsByLaw_96 : decode cX3_woodsByLaw 96 = .ok (.ior, 1) := by decide +kernel
theorem dX3_woodsByLaw_97 : decode cX3_woodsByLaw 97 = .ok (.ireturn, 1) := by decide +kernel
theorem dX3_woodsByLaw_98 : decode cX3_woodsByLaw 98 = .ok (.iload_n 1, 1) := by decide +kernel
theorem dX3_woodsByLaw_99 : decode cX3_woodsByLaw 99 = .ok (.bipush 40, 2) := by decide +kernel
theorem dX3_woodsByLaw_101 : decode cX3_woodsByLaw 101 = .ok (.if_icmp .ge 11, 3) := by decide +kernel
theorem dX3_woodsByLaw_104 : decode cX3_woodsByLaw 104 = .ok (.aload_n 0, 1) := by decide +kernel
theorem dX3_woodsByLaw_105 : decode cX3_woodsByLaw 105 = .ok (.iload_n 1, 1) := by decide +kernel
theorem dX3_woodsByLaw_106 : decode cX3_woodsByLaw 106 = .ok (.invokevirtual 73, 3) := by decide +kernel
theorem dX3_woodsByLaw_109 : decode cX3_woodsByLaw 109 = .ok (.goto 4, 3) := by decide +kernel
theorem dX3_woodsByLaw_112 : decode cX3_woodsByLaw 112 = .ok (.iconst 0, 1) := by decide +kernel
theorem dX3_woodsByLaw_113 : decode cX3_woodsByLaw 113 = .ok (.ireturn, 1) := by decide +kernel
theorem dX3_woodsByLaw_114 : decode cX3_woodsByLaw 114 = .ok (.aload_n 0, 1) := by decide +kernel
theorem dX3_woodsByLaw_115 : decode cX3_woodsByLaw 115 = .ok (.iload_n 1, 1) := by decide +kernel
theorem dX3_woodsByLaw_116 : decode cX3_woodsByLaw 116 = .ok (.invokevirtual 73, 3) := by decide +kernel
theorem dX3_woodsByLaw_119 : decode cX3_woodsByLaw 119 = .ok (.ireturn, 1) := by decide +kernel
theorem dX3_byLeft_0 : decode cX3_byLeft 0 = .ok (.iconst 0, 1) := by decide +kernel
theorem dX3_byLeft_1 : decode cX3_byLeft 1 = .ok (.istore_n 2, 1) := by decide +kernel
theorem dX3_byLeft_2 : decode cX3_byLeft 2 = .ok (.iconst 0, 1) := by decide +kernel
theorem dX3_byLeft_3 : decode cX3_byLeft 3 = .ok (.istore_n 3, 1) := by decide +kernel
theorem dX3_byLeft_4 : decode cX3_byLeft 4 = .ok (.iload_n 3, 1) := by decide +kernel
theorem dX3_byLeft_5 : decode cX3_byLeft 5 = .ok (.aload_n 0, 1) := by decide +kernel
theorem dX3_byLeft_6 : decode cX3_byLeft 6 = .ok (.getfield 15, 3) := by decide +kernel
theorem dX3_byLeft_9 : decode cX3_byLeft 9 = .ok (.if_icmp .ge 34, 3) := by decide +kernel
theorem dX3_byLeft_12 : decode cX3_byLeft 12 = .ok (.aload_n 0, 1) := by decide +kernel
theorem dX3_byLeft_13 : decode cX3_byLeft 13 = .ok (.getfield 9, 3) := by decide +kernel
theorem dX3_byLeft_16 : decode cX3_byLeft 16 = .ok (.ifCond .le 27, 3) := by decide +kernel
theorem dX3_byLeft_19 : decode cX3_byLeft 19 = .ok (.iload_n 2, 1) := by decide +kernel
theorem dX3_byLeft_20 : decode cX3_byLeft 20 = .ok (.iconst 1, 1) := by decide +kernel
theorem dX3_byLeft_21 : decode cX3_byLeft 21 = .ok (.iload_n 1, 1) := by decide +kernel
theorem dX3_byLeft_22 : decode cX3_byLeft 22 = .ok (.iload_n 3, 1) := by decide +kernel
theorem dX3_byLeft_23 : decode cX3_byLeft 23 = .ok (.isub, 1) := by decide +kernel
theorem dX3_byLeft_24 : decode cX3_byLeft 24 = .ok (.aload_n 0, 1) := by decide +kernel
theorem dX3_byLeft_25 : decode cX3_byLeft 25 = .ok (.getfield 9, 3) := by decide +kernel
theorem dX3_byLeft_28 : decode cX3_byLeft 28 = .ok (.iadd, 1) := by decide +kernel
theorem dX3_byLeft_29 : decode cX3_byLeft 29 = .ok (.aload_n 0, 1) := by decide +kernel
theorem dX3_byLeft_30 : decode cX3_byLeft 30 = .ok (.getfield 9, 3) := by decide +kernel
theorem dX3_byLeft_33 : decode cX3_byLeft 33 = .ok (.irem, 1) := by decide +kernel
theorem dX3_byLeft_34 : decode cX3_byLeft 34 = .ok (.ishl, 1) := by decide +kernel
theorem dX3_byLeft_35 : decode cX3_byLeft 35 = .ok (.ior, 1) := by decide +kernel
theorem dX3_byLeft_36 : decode cX3_byLeft 36 = .ok (.istore_n 2, 1) := by decide +kernel
theorem dX3_byLeft_37 : decode cX3_byLeft 37 = .ok (.iinc 3 1, 3) := by decide +kernel
theorem dX3_byLeft_40 : decode cX3_byLeft 40 = .ok (.goto (-36), 3) := by decide +kernel
theorem dX3_byLeft_43 : decode cX3_byLeft 43 = .ok (.iload_n 2, 1) := by decide +kernel
theorem dX3_byLeft_44 : decode cX3_byLeft 44 = .ok (.ireturn, 1) := by decide +kernel
theorem dX3_byDoored_0 : decode cX3_byDoored 0 = .ok (.iload_n 1, 1) := by decide +kernel
theorem dX3_byDoored_1 : decode cX3_byDoored 1 = .ok (.aload_n 0, 1) := by decide +kernel
theorem dX3_byDoored_2 : decode cX3_byDoored 2 = .ok (.getfield 18, 3) := by decide +kernel
theorem dX3_byDoored_5 : decode cX3_byDoored 5 = .ok (.if_icmp .lt 23, 3) := by decide +kernel
theorem dX3_byDoored_8 : decode cX3_byDoored 8 = .ok (.iload_n 1, 1) := by decide +kernel
theorem dX3_byDoored_9 : decode cX3_byDoored 9 = .ok (.aload_n 0, 1) := by decide +kernel
theorem dX3_byDoored_10 : decode cX3_byDoored 10 = .ok (.getfield 18, 3) := by decide +kernel
theorem dX3_byDoored_13 : decode cX3_byDoored 13 = .ok (.aload_n 0, 1) := by decide +kernel
theorem dX3_byDoored_14 : decode cX3_byDoored 14 = .ok (.getfield 15, 3) := by decide +kernel
theorem dX3_byDoored_17 : decode cX3_byDoored 17 = .ok (.iadd, 1) := by decide +kernel
theorem dX3_byDoored_18 : decode cX3_byDoored 18 = .ok (.if_icmp .ge 10, 3) := by decide +kernel
theorem dX3_byDoored_21 : decode cX3_byDoored 21 = .ok (.aload_n 0, 1) := by decide +kernel
theorem dX3_byDoored_22 : decode cX3_byDoored 22 = .ok (.invokevirtual 83, 3) := by decide +kernel
theorem dX3_byDoored_25 : decode cX3_byDoored 25 = .ok (.goto 8, 3) := by decide +kernel
theorem dX3_byDoored_28 : decode cX3_byDoored 28 = .ok (.aload_n 0, 1) := by decide +kernel
theorem dX3_byDoored_29 : decode cX3_byDoored 29 = .ok (.iload_n 1, 1) := by decide +kernel
theorem dX3_byDoored_30 : decode cX3_byDoored 30 = .ok (.invokevirtual 73, 3) := by decide +kernel
theorem dX3_byDoored_33 : decode cX3_byDoored 33 = .ok (.ireturn, 1) := by decide +kernel
theorem dX3_isCorner_0 : decode cX3_isCorner 0 = .ok (.iload_n 1, 1) := by decide +kernel
theorem dX3_isCorner_1 : decode cX3_isCorner 1 = .ok (.aload_n 0, 1) := by decide +kernel
theorem dX3_isCorner_2 : decode cX3_isCorner 2 = .ok (.getfield 15, 3) := by decide +kernel
theorem dX3_isCorner_5 : decode cX3_isCorner 5 = .ok (.if_icmp .lt 14, 3) := by decide +kernel
theorem dX3_isCorner_8 : decode cX3_isCorner 8 = .ok (.iload_n 1, 1) := by decide +kernel
theorem dX3_isCorner_9 : decode cX3_isCorner 9 = .ok (.bipush 47, 2) := by decide +kernel
theorem dX3_isCorner_11 : decode cX3_isCorner 11 = .ok (.aload_n 0, 1) := by decide +kernel
theorem dX3_isCorner_12 : decode cX3_isCorner 12 = .ok (.getfield 15, 3) := by decide +kernel
theorem dX3_isCorner_15 : decode cX3_isCorner 15 = .ok (.isub, 1) := by decide +kernel
theorem dX3_isCorner_16 : decode cX3_isCorner 16 = .ok (.if_icmp .le 7, 3) := by decide +kernel
theorem dX3_isCorner_19 : decode cX3_isCorner 19 = .ok (.iconst 1, 1) := by decide +kernel
theorem dX3_isCorner_20 : decode cX3_isCorner 20 = .ok (.goto 4, 3) := by decide +kernel
theorem dX3_isCorner_23 : decode cX3_isCorner 23 = .ok (.iconst 0, 1) := by decide +kernel
theorem dX3_isCorner_24 : decode cX3_isCorner 24 = .ok (.ireturn, 1) := by decide +kernel
theorem dX3_allOffsets_0 : decode cX3_allOffsets 0 = .ok (.iconst 1, 1) := by decide +kernel
theorem dX3_allOffsets_1 : decode cX3_allOffsets 1 = .ok (.aload_n 0, 1) := by decide +kernel
theorem dX3_allOffsets_2 : decode cX3_allOffsets 2 = .ok (.getfield 9, 3) := by decide +kernel
theorem dX3_allOffsets_5 : decode cX3_allOffsets 5 = .ok (.ishl, 1) := by decide +kernel
theorem dX3_allOffsets_6 : decode cX3_allOffsets 6 = .ok (.iconst 1, 1) := by decide +kernel
theorem dX3_allOffsets_7 : decode cX3_allOffsets 7 = .ok (.isub, 1) := by decide +kernel
theorem dX3_allOffsets_8 : decode cX3_allOffsets 8 = .ok (.ireturn, 1) := by decide +kernel
theorem dX3_hasWood_0 : decode cX3_hasWood 0 = .ok (.aload_n 0, 1) := by decide +kernel
theorem dX3_hasWood_1 : decode cX3_hasWood 1 = .ok (.getfield 45, 3) := by decide +kernel
theorem dX3_hasWood_4 : decode cX3_hasWood 4 = .ok (.iload_n 1, 1) := by decide +kernel
theorem dX3_hasWood_5 : decode cX3_hasWood 5 = .ok (.iaload, 1) := by decide +kernel
theorem dX3_hasWood_6 : decode cX3_hasWood 6 = .ok (.iload_n 2, 1) := by decide +kernel
theorem dX3_hasWood_7 : decode cX3_hasWood 7 = .ok (.invokestatic 87, 3) := by decide +kernel
theorem dX3_hasWood_10 : decode cX3_hasWood 10 = .ok (.ireturn, 1) := by decide +kernel
theorem dX3_addUp_0 : decode cX3_addUp 0 = .ok (.aload_n 0, 1) := by decide +kernel
theorem dX3_addUp_1 : decode cX3_addUp 1 = .ok (.iconst 0, 1) := by decide +kernel
theorem dX3_addUp_2 : decode cX3_addUp 2 = .ok (.putfield 54, 3) := by decide +kernel
theorem dX3_addUp_5 : decode cX3_addUp 5 = .ok (.iconst 0, 1) := by decide +kernel
theorem dX3_addUp_6 : decode cX3_addUp 6 = .ok (.istore_n 1, 1) := by decide +kernel
theorem dX3_addUp_7 : decode cX3_addUp 7 = .ok (.iload_n 1, 1) := by decide +kernel
theorem dX3_addUp_8 : decode cX3_addUp 8 = .ok (.bipush 24, 2) := by decide +kernel
theorem dX3_addUp_10 : decode cX3_addUp 10 = .ok (.if_icmp .ge 32, 3) := by decide +kernel
theorem dX3_addUp_13 : decode cX3_addUp 13 = .ok (.aload_n 0, 1) := by decide +kernel
theorem dX3_addUp_14 : decode cX3_addUp 14 = .ok (.getfield 41, 3) := by decide +kernel
theorem dX3_addUp_17 : decode cX3_addUp 17 = .ok (.iload_n 1, 1) := by decide +kernel
theorem dX3_addUp_18 : decode cX3_addUp 18 = .ok (.laload, 1) := by decide +kernel
theorem dX3_addUp_19 : decode cX3_addUp 19 = .ok (.lconst 0, 1) := by decide +kernel
theorem dX3_addUp_20 : decode cX3_addUp 20 = .ok (.lcmp, 1) := by decide +kernel
theorem dX3_addUp_21 : decode cX3_addUp 21 = .ok (.ifCond .le 15, 3) := by decide +kernel
theorem dX3_addUp_24 : decode cX3_addUp 24 = .ok (.aload_n 0, 1) := by decide +kernel
theorem dX3_addUp_25 : decode cX3_addUp 25 = .ok (.dup, 1) := by decide +kernel
theorem dX3_addUp_26 : decode cX3_addUp 26 = .ok (.getfield 54, 3) := by decide +kernel
theorem dX3_addUp_29 : decode cX3_addUp 29 = .ok (.iconst 1, 1) := by decide +kernel
theorem dX3_addUp_30 : decode cX3_addUp 30 = .ok (.iload_n 1, 1) := by decide +kernel
theorem dX3_addUp_31 : decode cX3_addUp 31 = .ok (.ishl, 1) := by decide +kernel
theorem dX3_addUp_32 : decode cX3_addUp 32 = .ok (.ior, 1) := by decide +kernel
theorem dX3_addUp_33 : decode cX3_addUp 33 = .ok (.putfield 54, 3) := by decide +kernel
theorem dX3_addUp_36 : decode cX3_addUp 36 = .ok (.iinc 1 1, 3) := by decide +kernel
theorem dX3_addUp_39 : decode cX3_addUp 39 = .ok (.goto (-32), 3) := by decide +kernel
theorem dX3_addUp_42 : decode cX3_addUp 42 = .ok (.aload_n 0, 1) := by decide +kernel
theorem dX3_addUp_43 : decode cX3_addUp 43 = .ok (.aload_n 0, 1) := by decide +kernel
theorem dX3_addUp_44 : decode cX3_addUp 44 = .ok (.aload_n 0, 1) := by decide +kernel
theorem dX3_addUp_45 : decode cX3_addUp 45 = .ok (.getfield 54, 3) := by decide +kernel
theorem dX3_addUp_48 : decode cX3_addUp 48 = .ok (.invokevirtual 91, 3) := by decide +kernel
theorem dX3_addUp_51 : decode cX3_addUp 51 = .ok (.putfield 51, 3) := by decide +kernel
theorem dX3_addUp_54 : decode cX3_addUp 54 = .ok (.iconst 0, 1) := by decide +kernel
theorem dX3_addUp_55 : decode cX3_addUp 55 = .ok (.istore_n 1, 1) := by decide +kernel
theorem dX3_addUp_56 : decode cX3_addUp 56 = .ok (.iload_n 1, 1) := by decide +kernel
theorem dX3_addUp_57 : decode cX3_addUp 57 = .ok (.bipush 48, 2) := by decide +kernel
theorem dX3_addUp_59 : decode cX3_addUp 59 = .ok (.if_icmp .ge 25, 3) := by decide +kernel
theorem dX3_addUp_62 : decode cX3_addUp 62 = .ok (.aload_n 0, 1) := by decide +kernel
theorem dX3_addUp_63 : decode cX3_addUp 63 = .ok (.getfield 48, 3) := by decide +kernel
theorem dX3_addUp_66 : decode cX3_addUp 66 = .ok (.iload_n 1, 1) := by decide +kernel
theorem dX3_addUp_67 : decode cX3_addUp 67 = .ok (.aload_n 0, 1) := by decide +kernel
theorem dX3_addUp_68 : decode cX3_addUp 68 = .ok (.aload_n 0, 1) := by decide +kernel
theorem dX3_addUp_69 : decode cX3_addUp 69 = .ok (.getfield 45, 3) := by decide +kernel
theorem dX3_addUp_72 : decode cX3_addUp 72 = .ok (.iload_n 1, 1) := by decide +kernel
theorem dX3_addUp_73 : decode cX3_addUp 73 = .ok (.iaload, 1) := by decide +kernel
theorem dX3_addUp_74 : decode cX3_addUp 74 = .ok (.invokevirtual 91, 3) := by decide +kernel
theorem dX3_addUp_77 : decode cX3_addUp 77 = .ok (.lastore, 1) := by decide +kernel
theorem dX3_addUp_78 : decode cX3_addUp 78 = .ok (.iinc 1 1, 3) := by decide +kernel
theorem dX3_addUp_81 : decode cX3_addUp 81 = .ok (.goto (-25), 3) := by decide +kernel
theorem dX3_addUp_84 : decode cX3_addUp 84 = .ok (.return_, 1) := by decide +kernel
theorem dX3_sumOf_0 : decode cX3_sumOf 0 = .ok (.lconst 0, 1) := by decide +kernel
theorem dX3_sumOf_1 : decode cX3_sumOf 1 = .ok (.lstore_n 2, 1) := by decide +kernel
theorem dX3_sumOf_2 : decode cX3_sumOf 2 = .ok (.iconst 0, 1) := by decide +kernel
theorem dX3_sumOf_3 : decode cX3_sumOf 3 = .ok (.istore 4, 2) := by decide +kernel
theorem dX3_sumOf_5 : decode cX3_sumOf 5 = .ok (.iload 4, 2) := by decide +kernel
theorem dX3_sumOf_7 : decode cX3_sumOf 7 = .ok (.bipush 24, 2) := by decide +kernel
theorem dX3_sumOf_9 : decode cX3_sumOf 9 = .ok (.if_icmp .ge 35, 3) := by decide +kernel
theorem dX3_sumOf_12 : decode cX3_sumOf 12 = .ok (.iload_n 1, 1) := by decide +kernel
theorem dX3_sumOf_13 : decode cX3_sumOf 13 = .ok (.iload 4, 2) := by decide +kernel
theorem dX3_sumOf_15 : decode cX3_sumOf 15 = .ok (.ishr, 1) := by decide +kernel
theorem dX3_sumOf_16 : decode cX3_sumOf 16 = .ok (.ifCond .eq 28, 3) := by decide +kernel
theorem dX3_sumOf_19 : decode cX3_sumOf 19 = .ok (.iload_n 1, 1) := by decide +kernel
theorem dX3_sumOf_20 : decode cX3_sumOf 20 = .ok (.iload 4, 2) := by decide +kernel
theorem dX3_sumOf_22 : decode cX3_sumOf 22 = .ok (.invokestatic 87, 3) := by decide +kernel
theorem dX3_sumOf_25 : decode cX3_sumOf 25 = .ok (.ifCond .eq 13, 3) := by decide +kernel
theorem dX3_sumOf_28 : decode cX3_sumOf 28 = .ok (.lload_n 2, 1) := by decide +kernel
theorem dX3_sumOf_29 : decode cX3_sumOf 29 = .ok (.aload_n 0, 1) := by decide +kernel
theorem dX3_sumOf_30 : decode cX3_sumOf 30 = .ok (.getfield 41, 3) := by decide +kernel
theorem dX3_sumOf_33 : decode cX3_sumOf 33 = .ok (.iload 4, 2) := by decide +kernel
theorem dX3_sumOf_35 : decode cX3_sumOf 35 = .ok (.laload, 1) := by decide +kernel
theorem dX3_sumOf_36 : decode cX3_sumOf 36 = .ok (.ladd, 1) := by decide +kernel
theorem dX3_sumOf_37 : decode cX3_sumOf 37 = .ok (.lstore_n 2, 1) := by decide +kernel
theorem dX3_sumOf_38 : decode cX3_sumOf 38 = .ok (.iinc 4 1, 3) := by decide +kernel
theorem dX3_sumOf_41 : decode cX3_sumOf 41 = .ok (.goto (-36), 3) := by decide +kernel
theorem dX3_sumOf_44 : decode cX3_sumOf 44 = .ok (.lload_n 2, 1) := by decide +kernel
theorem dX3_sumOf_45 : decode cX3_sumOf 45 = .ok (.lreturn, 1) := by decide +kernel
theorem dX3_sumAtBoth_0 : decode cX3_sumAtBoth 0 = .ok (.aload_n 0, 1) := by decide +kernel
theorem dX3_sumAtBoth_1 : decode cX3_sumAtBoth 1 = .ok (.aload_n 0, 1) := by decide +kernel
theorem dX3_sumAtBoth_2 : decode cX3_sumAtBoth 2 = .ok (.getfield 45, 3) := by decide +kernel
theorem dX3_sumAtBoth_5 : decode cX3_sumAtBoth 5 = .ok (.iload_n 1, 1) := by decide +kernel
theorem dX3_sumAtBoth_6 : decode cX3_sumAtBoth 6 = .ok (.iaload, 1) := by decide +kernel
theorem dX3_sumAtBoth_7 : decode cX3_sumAtBoth 7 = .ok (.aload_n 0, 1) := by decide +kernel
theorem dX3_sumAtBoth_8 : decode cX3_sumAtBoth 8 = .ok (.getfield 45, 3) := by decide +kernel
theorem dX3_sumAtBoth_11 : decode cX3_sumAtBoth 11 = .ok (.iload_n 2, 1) := by decide +kernel
theorem dX3_sumAtBoth_12 : decode cX3_sumAtBoth 12 = .ok (.iaload, 1) := by decide +kernel
theorem dX3_sumAtBoth_13 : decode cX3_sumAtBoth 13 = .ok (.iand, 1) := by decide +kernel
theorem dX3_sumAtBoth_14 : decode cX3_sumAtBoth 14 = .ok (.invokevirtual 91, 3) := by decide +kernel
theorem dX3_sumAtBoth_17 : decode cX3_sumAtBoth 17 = .ok (.lreturn, 1) := by decide +kernel
theorem dX3_takeTelling_0 : decode cX3_takeTelling 0 = .ok (.iconst 0, 1) := by decide +kernel
theorem dX3_takeTelling_1 : decode cX3_takeTelling 1 = .ok (.istore 4, 2) := by decide +kernel
theorem dX3_takeTelling_3 : decode cX3_takeTelling 3 = .ok (.iload 4, 2) := by decide +kernel
theorem dX3_takeTelling_5 : decode cX3_takeTelling 5 = .ok (.bipush 24, 2) := by decide +kernel
theorem dX3_takeTelling_7 : decode cX3_takeTelling 7 = .ok (.if_icmp .ge 32, 3) := by decide +kernel
theorem dX3_takeTelling_10 : decode cX3_takeTelling 10 = .ok (.aload_n 0, 1) := by decide +kernel
theorem dX3_takeTelling_11 : decode cX3_takeTelling 11 = .ok (.getfield 41, 3) := by decide +kernel
theorem dX3_takeTelling_14 : decode cX3_takeTelling 14 = .ok (.iload 4, 2) := by decide +kernel
theorem dX3_takeTelling_16 : decode cX3_takeTelling 16 = .ok (.dup2, 1) := by decide +kernel
theorem dX3_takeTelling_17 : decode cX3_takeTelling 17 = .ok (.laload, 1) := by decide +kernel
theorem dX3_takeTelling_18 : decode cX3_takeTelling 18 = .ok (.iload_n 1, 1) := by decide +kernel
theorem dX3_takeTelling_19 : decode cX3_takeTelling 19 = .ok (.iload_n 3, 1) := by decide +kernel
theorem dX3_takeTelling_20 : decode cX3_takeTelling 20 = .ok (.aload_n 0, 1) := by decide +kernel
theorem dX3_takeTelling_21 : decode cX3_takeTelling 21 = .ok (.iload_n 2, 1) := by decide +kernel
theorem dX3_takeTelling_22 : decode cX3_takeTelling 22 = .ok (.iload 4, 2) := by decide +kernel
theorem dX3_takeTelling_24 : decode cX3_takeTelling 24 = .ok (.invokevirtual 95, 3) := by decide +kernel
theorem dX3_takeTelling_27 : decode cX3_takeTelling 27 = .ok (.invokestatic 98, 3) := by decide +kernel
theorem dX3_takeTelling_30 : decode cX3_takeTelling 30 = .ok (.i2l, 1) := by decide +kernel
theorem dX3_takeTelling_31 : decode cX3_takeTelling 31 = .ok (.lmul, 1) := by decide +kernel
theorem dX3_takeTelling_32 : decode cX3_takeTelling 32 = .ok (.lastore, 1) := by decide +kernel
theorem dX3_takeTelling_33 : decode cX3_takeTelling 33 = .ok (.iinc 4 1, 3) := by decide +kernel
theorem dX3_takeTelling_36 : decode cX3_takeTelling 36 = .ok (.goto (-33), 3) := by decide +kernel
theorem dX3_takeTelling_39 : decode cX3_takeTelling 39 = .ok (.aload_n 0, 1) := by decide +kernel
theorem dX3_takeTelling_40 : decode cX3_takeTelling 40 = .ok (.dup, 1) := by decide +kernel
theorem dX3_takeTelling_41 : decode cX3_takeTelling 41 = .ok (.getfield 24, 3) := by decide +kernel
theorem dX3_takeTelling_44 : decode cX3_takeTelling 44 = .ok (.iconst 1, 1) := by decide +kernel
theorem dX3_takeTelling_45 : decode cX3_takeTelling 45 = .ok (.iadd, 1) := by decide +kernel
theorem dX3_takeTelling_46 : decode cX3_takeTelling 46 = .ok (.putfield 24, 3) := by decide +kernel
theorem dX3_takeTelling_49 : decode cX3_takeTelling 49 = .ok (.iload_n 1, 1) := by decide +kernel
theorem dX3_takeTelling_50 : decode cX3_takeTelling 50 = .ok (.iconst 4, 1) := by decide +kernel
theorem dX3_takeTelling_51 : decode cX3_takeTelling 51 = .ok (.if_icmp .ne 8, 3) := by decide +kernel
theorem dX3_takeTelling_54 : decode cX3_takeTelling 54 = .ok (.aload_n 0, 1) := by decide +kernel
theorem dX3_takeTelling_55 : decode cX3_takeTelling 55 = .ok (.iload_n 2, 1) := by decide +kernel
theorem dX3_takeTelling_56 : decode cX3_takeTelling 56 = .ok (.invokevirtual 102, 3) := by decide +kernel
theorem dX3_takeTelling_59 : decode cX3_takeTelling 59 = .ok (.aload_n 0, 1) := by decide +kernel
theorem dX3_takeTelling_60 : decode cX3_takeTelling 60 = .ok (.invokevirtual 106, 3) := by decide +kernel
theorem dX3_takeTelling_63 : decode cX3_takeTelling 63 = .ok (.aload_n 0, 1) := by decide +kernel
theorem dX3_takeTelling_64 : decode cX3_takeTelling 64 = .ok (.invokevirtual 70, 3) := by decide +kernel
theorem dX3_takeTelling_67 : decode cX3_takeTelling 67 = .ok (.return_, 1) := by decide +kernel
theorem dX3_offsetsByNail_0 : decode cX3_offsetsByNail 0 = .ok (.aload_n 0, 1) := by decide +kernel
theorem dX3_offsetsByNail_1 : decode cX3_offsetsByNail 1 = .ok (.getfield 54, 3) := by decide +kernel
theorem dX3_offsetsByNail_4 : decode cX3_offsetsByNail 4 = .ok (.iload_n 2, 1) := by decide +kernel
theorem dX3_offsetsByNail_5 : decode cX3_offsetsByNail 5 = .ok (.ifCond .eq 12, 3) := by decide +kernel
theorem dX3_offsetsByNail_8 : decode cX3_offsetsByNail 8 = .ok (.aload_n 0, 1) := by decide +kernel
theorem dX3_offsetsByNail_9 : decode cX3_offsetsByNail 9 = .ok (.getfield 45, 3) := by decide +kernel
theorem dX3_offsetsByNail_12 : decode cX3_offsetsByNail 12 = .ok (.iload_n 1, 1) := by decide +kernel
theorem dX3_offsetsByNail_13 : decode cX3_offsetsByNail 13 = .ok (.iaload, 1) := by decide +kernel
theorem dX3_offsetsByNail_14 : decode cX3_offsetsByNail 14 = .ok (.goto 11, 3) := by decide +kernel
theorem dX3_offsetsByNail_17 : decode cX3_offsetsByNail 17 = .ok (.aload_n 0, 1) := by decide +kernel
theorem dX3_offsetsByNail_18 : decode cX3_offsetsByNail 18 = .ok (.getfield 45, 3) := by decide +kernel
theorem dX3_offsetsByNail_21 : decode cX3_offsetsByNail 21 = .ok (.iload_n 1, 1) := by decide +kernel
theorem dX3_offsetsByNail_22 : decode cX3_offsetsByNail 22 = .ok (.iaload, 1) := by decide +kernel
theorem dX3_offsetsByNail_23 : decode cX3_offsetsByNail 23 = .ok (.iconst (-1), 1) := by decide +kernel
theorem dX3_offsetsByNail_24 : decode cX3_offsetsByNail 24 = .ok (.ixor, 1) := by decide +kernel
theorem dX3_offsetsByNail_25 : decode cX3_offsetsByNail 25 = .ok (.iand, 1) := by decide +kernel
theorem dX3_offsetsByNail_26 : decode cX3_offsetsByNail 26 = .ok (.ireturn, 1) := by decide +kernel
theorem dX3_couldNail_0 : decode cX3_couldNail 0 = .ok (.aload_n 0, 1) := by decide +kernel
theorem dX3_couldNail_1 : decode cX3_couldNail 1 = .ok (.iload_n 1, 1) := by decide +kernel
theorem dX3_couldNail_2 : decode cX3_couldNail 2 = .ok (.iload_n 2, 1) := by decide +kernel
theorem dX3_couldNail_3 : decode cX3_couldNail 3 = .ok (.invokevirtual 109, 3) := by decide +kernel
theorem dX3_couldNail_6 : decode cX3_couldNail 6 = .ok (.ifCond .eq 7, 3) := by decide +kernel
theorem dX3_couldNail_9 : decode cX3_couldNail 9 = .ok (.iconst 1, 1) := by decide +kernel
theorem dX3_couldNail_10 : decode cX3_couldNail 10 = .ok (.goto 4, 3) := by decide +kernel
theorem dX3_couldNail_13 : decode cX3_couldNail 13 = .ok (.iconst 0, 1) := by decide +kernel
theorem dX3_couldNail_14 : decode cX3_couldNail 14 = .ok (.ireturn, 1) := by decide +kernel
theorem dX3_takeNail_0 : decode cX3_takeNail 0 = .ok (.aload_n 0, 1) := by decide +kernel
theorem dX3_takeNail_1 : decode cX3_takeNail 1 = .ok (.iload_n 1, 1) := by decide +kernel
theorem dX3_takeNail_2 : decode cX3_takeNail 2 = .ok (.iload_n 2, 1) := by decide +kernel
theorem dX3_takeNail_3 : decode cX3_takeNail 3 = .ok (.invokevirtual 109, 3) := by decide +kernel
theorem dX3_takeNail_6 : decode cX3_takeNail 6 = .ok (.istore_n 3, 1) := by decide +kernel
theorem dX3_takeNail_7 : decode cX3_takeNail 7 = .ok (.iconst 0, 1) := by decide +kernel
theorem dX3_takeNail_8 : decode cX3_takeNail 8 = .ok (.istore 4, 2) := by decide +kernel
theorem dX3_takeNail_10 : decode cX3_takeNail 10 = .ok (.iload 4, 2) := by decide +kernel
theorem dX3_takeNail_12 : decode cX3_takeNail 12 = .ok (.bipush 24, 2) := by decide +kernel
theorem dX3_takeNail_14 : decode cX3_takeNail 14 = .ok (.if_icmp .ge 26, 3) := by decide +kernel
theorem dX3_takeNail_17 : decode cX3_takeNail 17 = .ok (.iload_n 3, 1) := by decide +kernel
theorem dX3_takeNail_18 : decode cX3_takeNail 18 = .ok (.iload 4, 2) := by decide +kernel
theorem dX3_takeNail_20 : decode cX3_takeNail 20 = .ok (.invokestatic 87, 3) := by decide +kernel
theorem dX3_takeNail_23 : decode cX3_takeNail 23 = .ok (.ifCond .ne 11, 3) := by decide +kernel
theorem dX3_takeNail_26 : decode cX3_takeNail 26 = .ok (.aload_n 0, 1) := by decide +kernel
theorem dX3_takeNail_27 : decode cX3_takeNail 27 = .ok (.getfield 41, 3) := by decide +kernel
theorem dX3_takeNail_30 : decode cX3_takeNail 30 = .ok (.iload 4, 2) := by decide +kernel
theorem dX3_takeNail_32 : decode cX3_takeNail 32 = .ok (.lconst 0, 1) := by decide +kernel
theorem dX3_takeNail_33 : decode cX3_takeNail 33 = .ok (.lastore, 1) := by decide +kernel
theorem dX3_takeNail_34 : decode cX3_takeNail 34 = .ok (.iinc 4 1, 3) := by decide +kernel
theorem dX3_takeNail_37 : decode cX3_takeNail 37 = .ok (.goto (-27), 3) := by decide +kernel
theorem dX3_takeNail_40 : decode cX3_takeNail 40 = .ok (.aload_n 0, 1) := by decide +kernel
theorem dX3_takeNail_41 : decode cX3_takeNail 41 = .ok (.iload_n 1, 1) := by decide +kernel
theorem dX3_takeNail_42 : decode cX3_takeNail 42 = .ok (.invokevirtual 102, 3) := by decide +kernel
theorem dX3_takeNail_45 : decode cX3_takeNail 45 = .ok (.aload_n 0, 1) := by decide +kernel
theorem dX3_takeNail_46 : decode cX3_takeNail 46 = .ok (.invokevirtual 106, 3) := by decide +kernel
theorem dX3_takeNail_49 : decode cX3_takeNail 49 = .ok (.aload_n 0, 1) := by decide +kernel
theorem dX3_takeNail_50 : decode cX3_takeNail 50 = .ok (.invokevirtual 70, 3) := by decide +kernel
theorem dX3_takeNail_53 : decode cX3_takeNail 53 = .ok (.return_, 1) := by decide +kernel
theorem dX3_lessenWeights_0 : decode cX3_lessenWeights 0 = .ok (.lconst 0, 1) := by decide +kernel
theorem dX3_lessenWeights_1 : decode cX3_lessenWeights 1 = .ok (.lstore_n 1, 1) := by decide +kernel
theorem dX3_lessenWeights_2 : decode cX3_lessenWeights 2 = .ok (.iconst 0, 1) := by decide +kernel
theorem dX3_lessenWeights_3 : decode cX3_lessenWeights 3 = .ok (.istore_n 3, 1) := by decide +kernel
theorem dX3_lessenWeights_4 : decode cX3_lessenWeights 4 = .ok (.iload_n 3, 1) := by decide +kernel
theorem dX3_lessenWeights_5 : decode cX3_lessenWeights 5 = .ok (.bipush 24, 2) := by decide +kernel
theorem dX3_lessenWeights_7 : decode cX3_lessenWeights 7 = .ok (.if_icmp .ge 20, 3) := by decide +kernel
theorem dX3_lessenWeights_10 : decode cX3_lessenWeights 10 = .ok (.aload_n 0, 1) := by decide +kernel
theorem dX3_lessenWeights_11 : decode cX3_lessenWeights 11 = .ok (.getfield 41, 3) := by decide +kernel
theorem dX3_lessenWeights_14 : decode cX3_lessenWeights 14 = .ok (.iload_n 3, 1) := by decide +kernel
theorem dX3_lessenWeights_15 : decode cX3_lessenWeights 15 = .ok (.laload, 1) := by decide +kernel
theorem dX3_lessenWeights_16 : decode cX3_lessenWeights 16 = .ok (.lload_n 1, 1) := by decide +kernel
theorem dX3_lessenWeights_17 : decode cX3_lessenWeights 17 = .ok (.invokestatic 113, 3) := by decide +kernel
theorem dX3_lessenWeights_20 : decode cX3_lessenWeights 20 = .ok (.lstore_n 1, 1) := by decide +kernel
theorem dX3_lessenWeights_21 : decode cX3_lessenWeights 21 = .ok (.iinc 3 1, 3) := by decide +kernel
theorem dX3_lessenWeights_24 : decode cX3_lessenWeights 24 = .ok (.goto (-20), 3) := by decide +kernel
theorem dX3_lessenWeights_27 : decode cX3_lessenWeights 27 = .ok (.iconst 0, 1) := by decide +kernel
theorem dX3_lessenWeights_28 : decode cX3_lessenWeights 28 = .ok (.istore_n 3, 1) := by decide +kernel
theorem dX3_lessenWeights_29 : decode cX3_lessenWeights 29 = .ok (.iload_n 3, 1) := by decide +kernel
theorem dX3_lessenWeights_30 : decode cX3_lessenWeights 30 = .ok (.bipush 24, 2) := by decide +kernel
theorem dX3_lessenWeights_32 : decode cX3_lessenWeights 32 = .ok (.if_icmp .ge 25, 3) := by decide +kernel
theorem dX3_lessenWeights_35 : decode cX3_lessenWeights 35 = .ok (.lload_n 1, 1) := by decide +kernel
theorem dX3_lessenWeights_36 : decode cX3_lessenWeights 36 = .ok (.lconst 1, 1) := by decide +kernel
theorem dX3_lessenWeights_37 : decode cX3_lessenWeights 37 = .ok (.lcmp, 1) := by decide +kernel
theorem dX3_lessenWeights_38 : decode cX3_lessenWeights 38 = .ok (.ifCond .le 19, 3) := by decide +kernel
theorem dX3_lessenWeights_41 : decode cX3_lessenWeights 41 = .ok (.aload_n 0, 1) := by decide +kernel
theorem dX3_lessenWeights_42 : decode cX3_lessenWeights 42 = .ok (.getfield 41, 3) := by decide +kernel
theorem dX3_lessenWeights_45 : decode cX3_lessenWeights 45 = .ok (.iload_n 3, 1) := by decide +kernel
theorem dX3_lessenWeights_46 : decode cX3_lessenWeights 46 = .ok (.dup2, 1) := by decide +kernel
theorem dX3_lessenWeights_47 : decode cX3_lessenWeights 47 = .ok (.laload, 1) := by decide +kernel
theorem dX3_lessenWeights_48 : decode cX3_lessenWeights 48 = .ok (.lload_n 1, 1) := by decide +kernel
theorem dX3_lessenWeights_49 : decode cX3_lessenWeights 49 = .ok (.ldiv, 1) := by decide +kernel
theorem dX3_lessenWeights_50 : decode cX3_lessenWeights 50 = .ok (.lastore, 1) := by decide +kernel
theorem dX3_lessenWeights_51 : decode cX3_lessenWeights 51 = .ok (.iinc 3 1, 3) := by decide +kernel
theorem dX3_lessenWeights_54 : decode cX3_lessenWeights 54 = .ok (.goto (-25), 3) := by decide +kernel
theorem dX3_lessenWeights_57 : decode cX3_lessenWeights 57 = .ok (.return_, 1) := by decide +kernel
theorem dX3_drill_0 : decode cX3_drill 0 = .ok (.aload_n 0, 1) := by decide +kernel
theorem dX3_drill_1 : decode cX3_drill 1 = .ok (.dup, 1) := by decide +kernel
theorem dX3_drill_2 : decode cX3_drill 2 = .ok (.getfield 30, 3) := by decide +kernel
theorem dX3_drill_5 : decode cX3_drill 5 = .ok (.lconst 1, 1) := by decide +kernel
theorem dX3_drill_6 : decode cX3_drill 6 = .ok (.iload_n 1, 1) := by decide +kernel
theorem dX3_drill_7 : decode cX3_drill 7 = .ok (.lshl, 1) := by decide +kernel
theorem dX3_drill_8 : decode cX3_drill 8 = .ok (.lor, 1) := by decide +kernel
theorem dX3_drill_9 : decode cX3_drill 9 = .ok (.putfield 30, 3) := by decide +kernel
theorem dX3_drill_12 : decode cX3_drill 12 = .ok (.return_, 1) := by decide +kernel
theorem dX3_holesWithin_0 : decode cX3_holesWithin 0 = .ok (.lconst 1, 1) := by decide +kernel
theorem dX3_holesWithin_1 : decode cX3_holesWithin 1 = .ok (.iload_n 2, 1) := by decide +kernel
theorem dX3_holesWithin_2 : decode cX3_holesWithin 2 = .ok (.lshl, 1) := by decide +kernel
theorem dX3_holesWithin_3 : decode cX3_holesWithin 3 = .ok (.lconst 1, 1) := by decide +kernel
theorem dX3_holesWithin_4 : decode cX3_holesWithin 4 = .ok (.lsub, 1) := by decide +kernel
theorem dX3_holesWithin_5 : decode cX3_holesWithin 5 = .ok (.iload_n 1, 1) := by decide +kernel
theorem dX3_holesWithin_6 : decode cX3_holesWithin 6 = .ok (.lshl, 1) := by decide +kernel
theorem dX3_holesWithin_7 : decode cX3_holesWithin 7 = .ok (.lstore_n 3, 1) := by decide +kernel
theorem dX3_holesWithin_8 : decode cX3_holesWithin 8 = .ok (.aload_n 0, 1) := by decide +kernel
theorem dX3_holesWithin_9 : decode cX3_holesWithin 9 = .ok (.getfield 30, 3) := by decide +kernel
theorem dX3_holesWithin_12 : decode cX3_holesWithin 12 = .ok (.lload_n 3, 1) := by decide +kernel
theorem dX3_holesWithin_13 : decode cX3_holesWithin 13 = .ok (.land, 1) := by decide +kernel
theorem dX3_holesWithin_14 : decode cX3_holesWithin 14 = .ok (.invokestatic 117, 3) := by decide +kernel
theorem dX3_holesWithin_17 : decode cX3_holesWithin 17 = .ok (.ireturn, 1) := by decide +kernel
theorem dX3_hasRoomForPipe_0 : decode cX3_hasRoomForPipe 0 = .ok (.aload_n 0, 1) := by decide +kernel
theorem dX3_hasRoomForPipe_1 : decode cX3_hasRoomForPipe 1 = .ok (.getfield 27, 3) := by decide +kernel
theorem dX3_hasRoomForPipe_4 : decode cX3_hasRoomForPipe 4 = .ok (.bipush 6, 2) := by decide +kernel
theorem dX3_hasRoomForPipe_6 : decode cX3_hasRoomForPipe 6 = .ok (.if_icmp .ge 7, 3) := by decide +kernel
theorem dX3_hasRoomForPipe_9 : decode cX3_hasRoomForPipe 9 = .ok (.iconst 1, 1) := by decide +kernel
theorem dX3_hasRoomForPipe_10 : decode cX3_hasRoomForPipe 10 = .ok (.goto 4, 3) := by decide +kernel
theorem dX3_hasRoomForPipe_13 : decode cX3_hasRoomForPipe 13 = .ok (.iconst 0, 1) := by decide +kernel
theorem dX3_hasRoomForPipe_14 : decode cX3_hasRoomForPipe 14 = .ok (.ireturn, 1) := by decide +kernel
theorem dX3_takePipe_0 : decode cX3_takePipe 0 = .ok (.aload_n 0, 1) := by decide +kernel
theorem dX3_takePipe_1 : decode cX3_takePipe 1 = .ok (.invokevirtual 123, 3) := by decide +kernel
theorem dX3_takePipe_4 : decode cX3_takePipe 4 = .ok (.ifCond .eq 33, 3) := by decide +kernel
theorem dX3_takePipe_7 : decode cX3_takePipe 7 = .ok (.aload_n 0, 1) := by decide +kernel
theorem dX3_takePipe_8 : decode cX3_takePipe 8 = .ok (.getfield 34, 3) := by decide +kernel
theorem dX3_takePipe_11 : decode cX3_takePipe 11 = .ok (.aload_n 0, 1) := by decide +kernel
theorem dX3_takePipe_12 : decode cX3_takePipe 12 = .ok (.getfield 27, 3) := by decide +kernel
theorem dX3_takePipe_15 : decode cX3_takePipe 15 = .ok (.iload_n 1, 1) := by decide +kernel
theorem dX3_takePipe_16 : decode cX3_takePipe 16 = .ok (.iastore, 1) := by decide +kernel
theorem dX3_takePipe_17 : decode cX3_takePipe 17 = .ok (.aload_n 0, 1) := by decide +kernel
theorem dX3_takePipe_18 : decode cX3_takePipe 18 = .ok (.getfield 38, 3) := by decide +kernel
theorem dX3_takePipe_21 : decode cX3_takePipe 21 = .ok (.aload_n 0, 1) := by decide +kernel
theorem dX3_takePipe_22 : decode cX3_takePipe 22 = .ok (.getfield 27, 3) := by decide +kernel
theorem dX3_takePipe_25 : decode cX3_takePipe 25 = .ok (.iload_n 2, 1) := by decide +kernel
theorem dX3_takePipe_26 : decode cX3_takePipe 26 = .ok (.iastore, 1) := by decide +kernel
theorem dX3_takePipe_27 : decode cX3_takePipe 27 = .ok (.aload_n 0, 1) := by decide +kernel
theorem dX3_takePipe_28 : decode cX3_takePipe 28 = .ok (.dup, 1) := by decide +kernel
theorem dX3_takePipe_29 : decode cX3_takePipe 29 = .ok (.getfield 27, 3) := by decide +kernel
theorem dX3_takePipe_32 : decode cX3_takePipe 32 = .ok (.iconst 1, 1) := by decide +kernel
theorem dX3_takePipe_33 : decode cX3_takePipe 33 = .ok (.iadd, 1) := by decide +kernel
theorem dX3_takePipe_34 : decode cX3_takePipe 34 = .ok (.putfield 27, 3) := by decide +kernel
theorem dX3_takePipe_37 : decode cX3_takePipe 37 = .ok (.return_, 1) := by decide +kernel
theorem dX3_riskAt_0 : decode cX3_riskAt 0 = .ok (.iconst 0, 1) := by decide +kernel
theorem dX3_riskAt_1 : decode cX3_riskAt 1 = .ok (.istore_n 2, 1) := by decide +kernel
theorem dX3_riskAt_2 : decode cX3_riskAt 2 = .ok (.iconst 0, 1) := by decide +kernel
theorem dX3_riskAt_3 : decode cX3_riskAt 3 = .ok (.istore_n 3, 1) := by decide +kernel
theorem dX3_riskAt_4 : decode cX3_riskAt 4 = .ok (.iload_n 3, 1) := by decide +kernel
theorem dX3_riskAt_5 : decode cX3_riskAt 5 = .ok (.bipush 6, 2) := by decide +kernel
theorem dX3_riskAt_7 : decode cX3_riskAt 7 = .ok (.if_icmp .ge 36, 3) := by decide +kernel
theorem dX3_riskAt_10 : decode cX3_riskAt 10 = .ok (.iload_n 3, 1) := by decide +kernel
theorem dX3_riskAt_11 : decode cX3_riskAt 11 = .ok (.aload_n 0, 1) := by decide +kernel
theorem dX3_riskAt_12 : decode cX3_riskAt 12 = .ok (.getfield 27, 3) := by decide +kernel
theorem dX3_riskAt_15 : decode cX3_riskAt 15 = .ok (.if_icmp .ge 28, 3) := by decide +kernel
theorem dX3_riskAt_18 : decode cX3_riskAt 18 = .ok (.aload_n 0, 1) := by decide +kernel
theorem dX3_riskAt_19 : decode cX3_riskAt 19 = .ok (.getfield 34, 3) := by decide +kernel
theorem dX3_riskAt_22 : decode cX3_riskAt 22 = .ok (.iload_n 3, 1) := by decide +kernel
theorem dX3_riskAt_23 : decode cX3_riskAt 23 = .ok (.iaload, 1) := by decide +kernel
theorem dX3_riskAt_24 : decode cX3_riskAt 24 = .ok (.iload_n 1, 1) := by decide +kernel
theorem dX3_riskAt_25 : decode cX3_riskAt 25 = .ok (.if_icmp .ne 12, 3) := by decide +kernel
theorem dX3_riskAt_28 : decode cX3_riskAt 28 = .ok (.iload_n 2, 1) := by decide +kernel
theorem dX3_riskAt_29 : decode cX3_riskAt 29 = .ok (.aload_n 0, 1) := by decide +kernel
theorem dX3_riskAt_30 : decode cX3_riskAt 30 = .ok (.getfield 38, 3) := by decide +kernel
theorem dX3_riskAt_33 : decode cX3_riskAt 33 = .ok (.iload_n 3, 1) := by decide +kernel
theorem dX3_riskAt_34 : decode cX3_riskAt 34 = .ok (.iaload, 1) := by decide +kernel
theorem dX3_riskAt_35 : decode cX3_riskAt 35 = .ok (.iadd, 1) := by decide +kernel
theorem dX3_riskAt_36 : decode cX3_riskAt 36 = .ok (.istore_n 2, 1) := by decide +kernel
theorem dX3_riskAt_37 : decode cX3_riskAt 37 = .ok (.iinc 3 1, 3) := by decide +kernel
theorem dX3_riskAt_40 : decode cX3_riskAt 40 = .ok (.goto (-36), 3) := by decide +kernel
theorem dX3_riskAt_43 : decode cX3_riskAt 43 = .ok (.iload_n 2, 1) := by decide +kernel
theorem dX3_riskAt_44 : decode cX3_riskAt 44 = .ok (.bipush 10, 2) := by decide +kernel
theorem dX3_riskAt_46 : decode cX3_riskAt 46 = .ok (.invokestatic 127, 3) := by decide +kernel
theorem dX3_riskAt_49 : decode cX3_riskAt 49 = .ok (.ireturn, 1) := by decide +kernel
theorem dX3_safety_0 : decode cX3_safety 0 = .ok (.aload_n 0, 1) := by decide +kernel
theorem dX3_safety_1 : decode cX3_safety 1 = .ok (.getfield 48, 3) := by decide +kernel
theorem dX3_safety_4 : decode cX3_safety 4 = .ok (.iload_n 1, 1) := by decide +kernel
theorem dX3_safety_5 : decode cX3_safety 5 = .ok (.laload, 1) := by decide +kernel
theorem dX3_safety_6 : decode cX3_safety 6 = .ok (.bipush 10, 2) := by decide +kernel
theorem dX3_safety_8 : decode cX3_safety 8 = .ok (.aload_n 0, 1) := by decide +kernel
theorem dX3_safety_9 : decode cX3_safety 9 = .ok (.iload_n 1, 1) := by decide +kernel
theorem dX3_safety_10 : decode cX3_safety 10 = .ok (.invokevirtual 133, 3) := by decide +kernel
theorem dX3_safety_13 : decode cX3_safety 13 = .ok (.isub, 1) := by decide +kernel
theorem dX3_safety_14 : decode cX3_safety 14 = .ok (.i2l, 1) := by decide +kernel
theorem dX3_safety_15 : decode cX3_safety 15 = .ok (.lmul, 1) := by decide +kernel
theorem dX3_safety_16 : decode cX3_safety 16 = .ok (.lreturn, 1) := by decide +kernel
theorem dX3_isSure_0 : decode cX3_isSure 0 = .ok (.aload_n 0, 1) := by decide +kernel
theorem dX3_isSure_1 : decode cX3_isSure 1 = .ok (.getfield 54, 3) := by decide +kernel
theorem dX3_isSure_4 : decode cX3_isSure 4 = .ok (.iload_n 2, 1) := by decide +kernel
theorem dX3_isSure_5 : decode cX3_isSure 5 = .ok (.ifCond .eq 14, 3) := by decide +kernel
theorem dX3_isSure_8 : decode cX3_isSure 8 = .ok (.aload_n 0, 1) := by decide +kernel
theorem dX3_isSure_9 : decode cX3_isSure 9 = .ok (.getfield 45, 3) := by decide +kernel
theorem dX3_isSure_12 : decode cX3_isSure 12 = .ok (.iload_n 1, 1) := by decide +kernel
theorem dX3_isSure_13 : decode cX3_isSure 13 = .ok (.iaload, 1) := by decide +kernel
theorem dX3_isSure_14 : decode cX3_isSure 14 = .ok (.iconst (-1), 1) := by decide +kernel
theorem dX3_isSure_15 : decode cX3_isSure 15 = .ok (.ixor, 1) := by decide +kernel
theorem dX3_isSure_16 : decode cX3_isSure 16 = .ok (.goto 9, 3) := by decide +kernel
theorem dX3_isSure_19 : decode cX3_isSure 19 = .ok (.aload_n 0, 1) := by decide +kernel
theorem dX3_isSure_20 : decode cX3_isSure 20 = .ok (.getfield 45, 3) := by decide +kernel
theorem dX3_isSure_23 : decode cX3_isSure 23 = .ok (.iload_n 1, 1) := by decide +kernel
theorem dX3_isSure_24 : decode cX3_isSure 24 = .ok (.iaload, 1) := by decide +kernel
theorem dX3_isSure_25 : decode cX3_isSure 25 = .ok (.iand, 1) := by decide +kernel
theorem dX3_isSure_26 : decode cX3_isSure 26 = .ok (.ifCond .ne 7, 3) := by decide +kernel
theorem dX3_isSure_29 : decode cX3_isSure 29 = .ok (.iconst 1, 1) := by decide +kernel
theorem dX3_isSure_30 : decode cX3_isSure 30 = .ok (.goto 4, 3) := by decide +kernel
theorem dX3_isSure_33 : decode cX3_isSure 33 = .ok (.iconst 0, 1) := by decide +kernel
theorem dX3_isSure_34 : decode cX3_isSure 34 = .ok (.ireturn, 1) := by decide +kernel
theorem dX3_likeliest_0 : decode cX3_likeliest 0 = .ok (.iload_n 1, 1) := by decide +kernel
theorem dX3_likeliest_1 : decode cX3_likeliest 1 = .ok (.istore_n 3, 1) := by decide +kernel
theorem dX3_likeliest_2 : decode cX3_likeliest 2 = .ok (.iload_n 1, 1) := by decide +kernel
theorem dX3_likeliest_3 : decode cX3_likeliest 3 = .ok (.iconst 1, 1) := by decide +kernel
theorem dX3_likeliest_4 : decode cX3_likeliest 4 = .ok (.iadd, 1) := by decide +kernel
theorem dX3_likeliest_5 : decode cX3_likeliest 5 = .ok (.istore 4, 2) := by decide +kernel
theorem dX3_likeliest_7 : decode cX3_likeliest 7 = .ok (.iload 4, 2) := by decide +kernel
theorem dX3_likeliest_9 : decode cX3_likeliest 9 = .ok (.iload_n 2, 1) := by decide +kernel
theorem dX3_likeliest_10 : decode cX3_likeliest 10 = .ok (.if_icmp .ge 36, 3) := by decide +kernel
theorem dX3_likeliest_13 : decode cX3_likeliest 13 = .ok (.iload 4, 2) := by decide +kernel
theorem dX3_likeliest_15 : decode cX3_likeliest 15 = .ok (.bipush 48, 2) := by decide +kernel
theorem dX3_likeliest_17 : decode cX3_likeliest 17 = .ok (.if_icmp .ge 29, 3) := by decide +kernel
theorem dX3_likeliest_20 : decode cX3_likeliest 20 = .ok (.aload_n 0, 1) := by decide +kernel
theorem dX3_likeliest_21 : decode cX3_likeliest 21 = .ok (.getfield 48, 3) := by decide +kernel
theorem dX3_likeliest_24 : decode cX3_likeliest 24 = .ok (.iload 4, 2) := by decide +kernel
theorem dX3_likeliest_26 : decode cX3_likeliest 26 = .ok (.laload, 1) := by decide +kernel
theorem dX3_likeliest_27 : decode cX3_likeliest 27 = .ok (.aload_n 0, 1) := by decide +kernel
theorem dX3_likeliest_28 : decode cX3_likeliest 28 = .ok (.getfield 48, 3) := by decide +kernel
theorem dX3_likeliest_31 : decode cX3_likeliest 31 = .ok (.iload_n 3, 1) := by decide +kernel
theorem dX3_likeliest_32 : decode cX3_likeliest 32 = .ok (.laload, 1) := by decide +kernel
theorem dX3_likeliest_33 : decode cX3_likeliest 33 = .ok (.lcmp, 1) := by decide +kernel
theorem dX3_likeliest_34 : decode cX3_likeliest 34 = .ok (.ifCond .le 6, 3) := by decide +kernel
theorem dX3_likeliest_37 : decode cX3_likeliest 37 = .ok (.iload 4, 2) := by decide +kernel
theorem dX3_likeliest_39 : decode cX3_likeliest 39 = .ok (.istore_n 3, 1) := by decide +kernel
theorem dX3_likeliest_40 : decode cX3_likeliest 40 = .ok (.iinc 4 1, 3) := by decide +kernel
theorem dX3_likeliest_43 : decode cX3_likeliest 43 = .ok (.goto (-36), 3) := by decide +kernel
theorem dX3_likeliest_46 : decode cX3_likeliest 46 = .ok (.iload_n 3, 1) := by decide +kernel
theorem dX3_likeliest_47 : decode cX3_likeliest 47 = .ok (.ireturn, 1) := by decide +kernel
theorem dX3_likeliestPair_0 : decode cX3_likeliestPair 0 = .ok (.iconst 0, 1) := by decide +kernel
theorem dX3_likeliestPair_1 : decode cX3_likeliestPair 1 = .ok (.istore_n 2, 1) := by decide +kernel
theorem dX3_likeliestPair_2 : decode cX3_likeliestPair 2 = .ok (.ldc2_w 136, 3) := by decide +kernel
theorem dX3_likeliestPair_5 : decode cX3_likeliestPair 5 = .ok (.lstore_n 3, 1) := by decide +kernel
theorem dX3_likeliestPair_6 : decode cX3_likeliestPair 6 = .ok (.iconst 0, 1) := by decide +kernel
theorem dX3_likeliestPair_7 : decode cX3_likeliestPair 7 = .ok (.istore 5, 2) := by decide +kernel
theorem dX3_likeliestPair_9 : decode cX3_likeliestPair 9 = .ok (.iload 5, 2) := by decide +kernel
theorem dX3_likeliestPair_11 : decode cX3_likeliestPair 11 = .ok (.bipush 48, 2) := by decide +kernel
theorem dX3_likeliestPair_13 : decode cX3_likeliestPair 13 = .ok (.iload_n 1, 1) := by decide +kernel
theorem dX3_likeliestPair_14 : decode cX3_likeliestPair 14 = .ok (.isub, 1) := by decide +kernel
theorem dX3_likeliestPair_15 : decode cX3_likeliestPair 15 = .ok (.if_icmp .ge 34, 3) := by decide +kernel
theorem dX3_likeliestPair_18 : decode cX3_likeliestPair 18 = .ok (.aload_n 0, 1) := by decide +kernel
theorem dX3_likeliestPair_19 : decode cX3_likeliestPair 19 = .ok (.iload 5, 2) := by decide +kernel
theorem dX3_likeliestPair_21 : decode cX3_likeliestPair 21 = .ok (.iload 5, 2) := by decide +kernel
theorem dX3_likeliestPair_23 : decode cX3_likeliestPair 23 = .ok (.iload_n 1, 1) := by decide +kernel
theorem dX3_likeliestPair_24 : decode cX3_likeliestPair 24 = .ok (.iadd, 1) := by decide +kernel
theorem dX3_likeliestPair_25 : decode cX3_likeliestPair 25 = .ok (.invokevirtual 138, 3) := by decide +kernel
theorem dX3_likeliestPair_28 : decode cX3_likeliestPair 28 = .ok (.lstore 6, 2) := by decide +kernel
theorem dX3_likeliestPair_30 : decode cX3_likeliestPair 30 = .ok (.lload 6, 2) := by decide +kernel
theorem dX3_likeliestPair_32 : decode cX3_likeliestPair 32 = .ok (.lload_n 3, 1) := by decide +kernel
theorem dX3_likeliestPair_33 : decode cX3_likeliestPair 33 = .ok (.lcmp, 1) := by decide +kernel
theorem dX3_likeliestPair_34 : decode cX3_likeliestPair 34 = .ok (.ifCond .le 9, 3) := by decide +kernel
theorem dX3_likeliestPair_37 : decode cX3_likeliestPair 37 = .ok (.iload 5, 2) := by decide +kernel
theorem dX3_likeliestPair_39 : decode cX3_likeliestPair 39 = .ok (.istore_n 2, 1) := by decide +kernel
theorem dX3_likeliestPair_40 : decode cX3_likeliestPair 40 = .ok (.lload 6, 2) := by decide +kernel
theorem dX3_likeliestPair_42 : decode cX3_likeliestPair 42 = .ok (.lstore_n 3, 1) := by decide +kernel
theorem dX3_likeliestPair_43 : decode cX3_likeliestPair 43 = .ok (.iinc 5 1, 3) := by decide +kernel
theorem dX3_likeliestPair_46 : decode cX3_likeliestPair 46 = .ok (.goto (-37), 3) := by decide +kernel
theorem dX3_likeliestPair_49 : decode cX3_likeliestPair 49 = .ok (.iload_n 2, 1) := by decide +kernel
theorem dX3_likeliestPair_50 : decode cX3_likeliestPair 50 = .ok (.ireturn, 1) := by decide +kernel
theorem dX3_tillWood_0 : decode cX3_tillWood 0 = .ok (.iload_n 1, 1) := by decide +kernel
theorem dX3_tillWood_1 : decode cX3_tillWood 1 = .ok (.istore_n 3, 1) := by decide +kernel
theorem dX3_tillWood_2 : decode cX3_tillWood 2 = .ok (.iconst 1, 1) := by decide +kernel
theorem dX3_tillWood_3 : decode cX3_tillWood 3 = .ok (.istore 4, 2) := by decide +kernel
theorem dX3_tillWood_5 : decode cX3_tillWood 5 = .ok (.iload 4, 2) := by decide +kernel
theorem dX3_tillWood_7 : decode cX3_tillWood 7 = .ok (.bipush 48, 2) := by decide +kernel
theorem dX3_tillWood_9 : decode cX3_tillWood 9 = .ok (.if_icmp .gt 30, 3) := by decide +kernel
theorem dX3_tillWood_12 : decode cX3_tillWood 12 = .ok (.aload_n 0, 1) := by decide +kernel
theorem dX3_tillWood_13 : decode cX3_tillWood 13 = .ok (.iload_n 3, 1) := by decide +kernel
theorem dX3_tillWood_14 : decode cX3_tillWood 14 = .ok (.iload_n 2, 1) := by decide +kernel
theorem dX3_tillWood_15 : decode cX3_tillWood 15 = .ok (.invokevirtual 95, 3) := by decide +kernel
theorem dX3_tillWood_18 : decode cX3_tillWood 18 = .ok (.ifCond .ne 21, 3) := by decide +kernel
theorem dX3_tillWood_21 : decode cX3_tillWood 21 = .ok (.iload_n 3, 1) := by decide +kernel
theorem dX3_tillWood_22 : decode cX3_tillWood 22 = .ok (.aload_n 0, 1) := by decide +kernel
theorem dX3_tillWood_23 : decode cX3_tillWood 23 = .ok (.getfield 15, 3) := by decide +kernel
theorem dX3_tillWood_26 : decode cX3_tillWood 26 = .ok (.iadd, 1) := by decide +kernel
theorem dX3_tillWood_27 : decode cX3_tillWood 27 = .ok (.bipush 48, 2) := by decide +kernel
theorem dX3_tillWood_29 : decode cX3_tillWood 29 = .ok (.invokestatic 142, 3) := by decide +kernel
theorem dX3_tillWood_32 : decode cX3_tillWood 32 = .ok (.istore_n 3, 1) := by decide +kernel
theorem dX3_tillWood_33 : decode cX3_tillWood 33 = .ok (.iinc 4 1, 3) := by decide +kernel
theorem dX3_tillWood_36 : decode cX3_tillWood 36 = .ok (.goto (-31), 3) := by decide +kernel
theorem dX3_tillWood_39 : decode cX3_tillWood 39 = .ok (.iload 4, 2) := by decide +kernel
theorem dX3_tillWood_41 : decode cX3_tillWood 41 = .ok (.ireturn, 1) := by decide +kernel
theorem dX3_worstTillWood_0 : decode cX3_worstTillWood 0 = .ok (.iconst 0, 1) := by decide +kernel
theorem dX3_worstTillWood_1 : decode cX3_worstTillWood 1 = .ok (.istore_n 2, 1) := by decide +kernel
