theorem dX3_worstTillWood_2 : decode cX3_worstTillWood 2 = .ok (.iconst 0, 1) := by decide +kernel
theorem dX3_worstTillWood_3 : decode cX3_worstTillWood 3 = .ok (.istore_n 3, 1) := by decide +kernel
theorem dX3_worstTillWood_4 : decode cX3_worstTillWood 4 = .ok (.iload_n 3, 1) := by decide +kernel
theorem dX3_worstTillWood_5 : decode cX3_worstTillWood 5 = .ok (.bipush 24, 2) := by decide +kernel
theorem dX3_worstTillWood_7 : decode cX3_worstTillWood 7 = .ok (.if_icmp .ge 31, 3) := by decide +kernel
theorem dX3_worstTillWood_10 : decode cX3_worstTillWood 10 = .ok (.aload_n 0, 1) := by decide +kernel
theorem dX3_worstTillWood_11 : decode cX3_worstTillWood 11 = .ok (.getfield 41, 3) := by decide +kernel
theorem dX3_worstTillWood_14 : decode cX3_worstTillWood 14 = .ok (.iload_n 3, 1) := by decide +kernel
theorem dX3_worstTillWood_15 : decode cX3_worstTillWood 15 = .ok (.laload, 1) := by decide +kernel
theorem dX3_worstTillWood_16 : decode cX3_worstTillWood 16 = .ok (.lconst 0, 1) := by decide +kernel
theorem dX3_worstTillWood_17 : decode cX3_worstTillWood 17 = .ok (.lcmp, 1) := by decide +kernel
theorem dX3_worstTillWood_18 : decode cX3_worstTillWood 18 = .ok (.ifCond .le 14, 3) := by decide +kernel
theorem dX3_worstTillWood_21 : decode cX3_worstTillWood 21 = .ok (.iload_n 2, 1) := by decide +kernel
theorem dX3_worstTillWood_22 : decode cX3_worstTillWood 22 = .ok (.aload_n 0, 1) := by decide +kernel
theorem dX3_worstTillWood_23 : decode cX3_worstTillWood 23 = .ok (.iload_n 1, 1) := by decide +kernel
theorem dX3_worstTillWood_24 : decode cX3_worstTillWood 24 = .ok (.iload_n 3, 1) := by decide +kernel
theorem dX3_worstTillWood_25 : decode cX3_worstTillWood 25 = .ok (.invokevirtual 145, 3) := by decide +kernel
theorem dX3_worstTillWood_28 : decode cX3_worstTillWood 28 = .ok (.invokestatic 148, 3) := by decide +kernel
theorem dX3_worstTillWood_31 : decode cX3_worstTillWood 31 = .ok (.istore_n 2, 1) := by decide +kernel
theorem dX3_worstTillWood_32 : decode cX3_worstTillWood 32 = .ok (.iinc 3 1, 3) := by decide +kernel
theorem dX3_worstTillWood_35 : decode cX3_worstTillWood 35 = .ok (.goto (-31), 3) := by decide +kernel
theorem dX3_worstTillWood_38 : decode cX3_worstTillWood 38 = .ok (.iload_n 2, 1) := by decide +kernel
theorem dX3_worstTillWood_39 : decode cX3_worstTillWood 39 = .ok (.bipush 48, 2) := by decide +kernel
theorem dX3_worstTillWood_41 : decode cX3_worstTillWood 41 = .ok (.if_icmp .le 8, 3) := by decide +kernel
theorem dX3_worstTillWood_44 : decode cX3_worstTillWood 44 = .ok (.bipush (-9), 2) := by decide +kernel
theorem dX3_worstTillWood_46 : decode cX3_worstTillWood 46 = .ok (.goto 4, 3) := by decide +kernel
theorem dX3_worstTillWood_49 : decode cX3_worstTillWood 49 = .ok (.iload_n 2, 1) := by decide +kernel
theorem dX3_worstTillWood_50 : decode cX3_worstTillWood 50 = .ok (.ireturn, 1) := by decide +kernel
theorem dX3_allTillWood_0 : decode cX3_allTillWood 0 = .ok (.lconst 0, 1) := by decide +kernel
theorem dX3_allTillWood_1 : decode cX3_allTillWood 1 = .ok (.lstore_n 2, 1) := by decide +kernel
theorem dX3_allTillWood_2 : decode cX3_allTillWood 2 = .ok (.iconst 0, 1) := by decide +kernel
theorem dX3_allTillWood_3 : decode cX3_allTillWood 3 = .ok (.istore 4, 2) := by decide +kernel
theorem dX3_allTillWood_5 : decode cX3_allTillWood 5 = .ok (.iload 4, 2) := by decide +kernel
theorem dX3_allTillWood_7 : decode cX3_allTillWood 7 = .ok (.bipush 24, 2) := by decide +kernel
theorem dX3_allTillWood_9 : decode cX3_allTillWood 9 = .ok (.if_icmp .ge 45, 3) := by decide +kernel
theorem dX3_allTillWood_12 : decode cX3_allTillWood 12 = .ok (.aload_n 0, 1) := by decide +kernel
theorem dX3_allTillWood_13 : decode cX3_allTillWood 13 = .ok (.getfield 41, 3) := by decide +kernel
theorem dX3_allTillWood_16 : decode cX3_allTillWood 16 = .ok (.iload 4, 2) := by decide +kernel
theorem dX3_allTillWood_18 : decode cX3_allTillWood 18 = .ok (.laload, 1) := by decide +kernel
theorem dX3_allTillWood_19 : decode cX3_allTillWood 19 = .ok (.lconst 0, 1) := by decide +kernel
theorem dX3_allTillWood_20 : decode cX3_allTillWood 20 = .ok (.lcmp, 1) := by decide +kernel
theorem dX3_allTillWood_21 : decode cX3_allTillWood 21 = .ok (.ifCond .le 27, 3) := by decide +kernel
theorem dX3_allTillWood_24 : decode cX3_allTillWood 24 = .ok (.lload_n 2, 1) := by decide +kernel
theorem dX3_allTillWood_25 : decode cX3_allTillWood 25 = .ok (.aload_n 0, 1) := by decide +kernel
theorem dX3_allTillWood_26 : decode cX3_allTillWood 26 = .ok (.getfield 41, 3) := by decide +kernel
theorem dX3_allTillWood_29 : decode cX3_allTillWood 29 = .ok (.iload 4, 2) := by decide +kernel
theorem dX3_allTillWood_31 : decode cX3_allTillWood 31 = .ok (.laload, 1) := by decide +kernel
theorem dX3_allTillWood_32 : decode cX3_allTillWood 32 = .ok (.aload_n 0, 1) := by decide +kernel
theorem dX3_allTillWood_33 : decode cX3_allTillWood 33 = .ok (.iload_n 1, 1) := by decide +kernel
theorem dX3_allTillWood_34 : decode cX3_allTillWood 34 = .ok (.iload 4, 2) := by decide +kernel
theorem dX3_allTillWood_36 : decode cX3_allTillWood 36 = .ok (.invokevirtual 145, 3) := by decide +kernel
theorem dX3_allTillWood_39 : decode cX3_allTillWood 39 = .ok (.bipush 48, 2) := by decide +kernel
theorem dX3_allTillWood_41 : decode cX3_allTillWood 41 = .ok (.invokestatic 127, 3) := by decide +kernel
theorem dX3_allTillWood_44 : decode cX3_allTillWood 44 = .ok (.i2l, 1) := by decide +kernel
theorem dX3_allTillWood_45 : decode cX3_allTillWood 45 = .ok (.lmul, 1) := by decide +kernel
theorem dX3_allTillWood_46 : decode cX3_allTillWood 46 = .ok (.ladd, 1) := by decide +kernel
theorem dX3_allTillWood_47 : decode cX3_allTillWood 47 = .ok (.lstore_n 2, 1) := by decide +kernel
theorem dX3_allTillWood_48 : decode cX3_allTillWood 48 = .ok (.iinc 4 1, 3) := by decide +kernel
theorem dX3_allTillWood_51 : decode cX3_allTillWood 51 = .ok (.goto (-46), 3) := by decide +kernel
theorem dX3_allTillWood_54 : decode cX3_allTillWood 54 = .ok (.lload_n 2, 1) := by decide +kernel
theorem dX3_allTillWood_55 : decode cX3_allTillWood 55 = .ok (.lreturn, 1) := by decide +kernel
theorem dX3_nailsTillWood_0 : decode cX3_nailsTillWood 0 = .ok (.aload_n 0, 1) := by decide +kernel
theorem dX3_nailsTillWood_1 : decode cX3_nailsTillWood 1 = .ok (.invokevirtual 83, 3) := by decide +kernel
theorem dX3_nailsTillWood_4 : decode cX3_nailsTillWood 4 = .ok (.istore_n 2, 1) := by decide +kernel
theorem dX3_nailsTillWood_5 : decode cX3_nailsTillWood 5 = .ok (.iconst 0, 1) := by decide +kernel
theorem dX3_nailsTillWood_6 : decode cX3_nailsTillWood 6 = .ok (.istore_n 3, 1) := by decide +kernel
theorem dX3_nailsTillWood_7 : decode cX3_nailsTillWood 7 = .ok (.iconst 0, 1) := by decide +kernel
theorem dX3_nailsTillWood_8 : decode cX3_nailsTillWood 8 = .ok (.istore 4, 2) := by decide +kernel
theorem dX3_nailsTillWood_10 : decode cX3_nailsTillWood 10 = .ok (.iload_n 3, 1) := by decide +kernel
theorem dX3_nailsTillWood_11 : decode cX3_nailsTillWood 11 = .ok (.bipush 48, 2) := by decide +kernel
theorem dX3_nailsTillWood_13 : decode cX3_nailsTillWood 13 = .ok (.if_icmp .ge 42, 3) := by decide +kernel
theorem dX3_nailsTillWood_16 : decode cX3_nailsTillWood 16 = .ok (.iload 4, 2) := by decide +kernel
theorem dX3_nailsTillWood_18 : decode cX3_nailsTillWood 18 = .ok (.ifCond .ne 37, 3) := by decide +kernel
theorem dX3_nailsTillWood_21 : decode cX3_nailsTillWood 21 = .ok (.aload_n 0, 1) := by decide +kernel
theorem dX3_nailsTillWood_22 : decode cX3_nailsTillWood 22 = .ok (.iload_n 2, 1) := by decide +kernel
theorem dX3_nailsTillWood_23 : decode cX3_nailsTillWood 23 = .ok (.invokevirtual 151, 3) := by decide +kernel
theorem dX3_nailsTillWood_26 : decode cX3_nailsTillWood 26 = .ok (.istore 5, 2) := by decide +kernel
theorem dX3_nailsTillWood_28 : decode cX3_nailsTillWood 28 = .ok (.aload_n 0, 1) := by decide +kernel
theorem dX3_nailsTillWood_29 : decode cX3_nailsTillWood 29 = .ok (.iload 5, 2) := by decide +kernel
theorem dX3_nailsTillWood_31 : decode cX3_nailsTillWood 31 = .ok (.iload_n 1, 1) := by decide +kernel
theorem dX3_nailsTillWood_32 : decode cX3_nailsTillWood 32 = .ok (.invokevirtual 95, 3) := by decide +kernel
theorem dX3_nailsTillWood_35 : decode cX3_nailsTillWood 35 = .ok (.istore 4, 2) := by decide +kernel
theorem dX3_nailsTillWood_37 : decode cX3_nailsTillWood 37 = .ok (.iload_n 2, 1) := by decide +kernel
theorem dX3_nailsTillWood_38 : decode cX3_nailsTillWood 38 = .ok (.aload_n 0, 1) := by decide +kernel
theorem dX3_nailsTillWood_39 : decode cX3_nailsTillWood 39 = .ok (.getfield 45, 3) := by decide +kernel
theorem dX3_nailsTillWood_42 : decode cX3_nailsTillWood 42 = .ok (.iload 5, 2) := by decide +kernel
theorem dX3_nailsTillWood_44 : decode cX3_nailsTillWood 44 = .ok (.iaload, 1) := by decide +kernel
theorem dX3_nailsTillWood_45 : decode cX3_nailsTillWood 45 = .ok (.iconst (-1), 1) := by decide +kernel
theorem dX3_nailsTillWood_46 : decode cX3_nailsTillWood 46 = .ok (.ixor, 1) := by decide +kernel
theorem dX3_nailsTillWood_47 : decode cX3_nailsTillWood 47 = .ok (.iand, 1) := by decide +kernel
theorem dX3_nailsTillWood_48 : decode cX3_nailsTillWood 48 = .ok (.istore_n 2, 1) := by decide +kernel
theorem dX3_nailsTillWood_49 : decode cX3_nailsTillWood 49 = .ok (.iinc 3 1, 3) := by decide +kernel
theorem dX3_nailsTillWood_52 : decode cX3_nailsTillWood 52 = .ok (.goto (-42), 3) := by decide +kernel
theorem dX3_nailsTillWood_55 : decode cX3_nailsTillWood 55 = .ok (.iload_n 3, 1) := by decide +kernel
theorem dX3_nailsTillWood_56 : decode cX3_nailsTillWood 56 = .ok (.ireturn, 1) := by decide +kernel
theorem dX3_inchOfMost_0 : decode cX3_inchOfMost 0 = .ok (.iconst 0, 1) := by decide +kernel
theorem dX3_inchOfMost_1 : decode cX3_inchOfMost 1 = .ok (.istore_n 2, 1) := by decide +kernel
theorem dX3_inchOfMost_2 : decode cX3_inchOfMost 2 = .ok (.iconst (-1), 1) := by decide +kernel
theorem dX3_inchOfMost_3 : decode cX3_inchOfMost 3 = .ok (.istore_n 3, 1) := by decide +kernel
theorem dX3_inchOfMost_4 : decode cX3_inchOfMost 4 = .ok (.iconst 0, 1) := by decide +kernel
theorem dX3_inchOfMost_5 : decode cX3_inchOfMost 5 = .ok (.istore 4, 2) := by decide +kernel
theorem dX3_inchOfMost_7 : decode cX3_inchOfMost 7 = .ok (.iload 4, 2) := by decide +kernel
theorem dX3_inchOfMost_9 : decode cX3_inchOfMost 9 = .ok (.bipush 48, 2) := by decide +kernel
theorem dX3_inchOfMost_11 : decode cX3_inchOfMost 11 = .ok (.if_icmp .ge 35, 3) := by decide +kernel
theorem dX3_inchOfMost_14 : decode cX3_inchOfMost 14 = .ok (.aload_n 0, 1) := by decide +kernel
theorem dX3_inchOfMost_15 : decode cX3_inchOfMost 15 = .ok (.getfield 45, 3) := by decide +kernel
theorem dX3_inchOfMost_18 : decode cX3_inchOfMost 18 = .ok (.iload 4, 2) := by decide +kernel
theorem dX3_inchOfMost_20 : decode cX3_inchOfMost 20 = .ok (.iaload, 1) := by decide +kernel
theorem dX3_inchOfMost_21 : decode cX3_inchOfMost 21 = .ok (.iload_n 1, 1) := by decide +kernel
theorem dX3_inchOfMost_22 : decode cX3_inchOfMost 22 = .ok (.iand, 1) := by decide +kernel
theorem dX3_inchOfMost_23 : decode cX3_inchOfMost 23 = .ok (.invokestatic 154, 3) := by decide +kernel
theorem dX3_inchOfMost_26 : decode cX3_inchOfMost 26 = .ok (.istore 5, 2) := by decide +kernel
theorem dX3_inchOfMost_28 : decode cX3_inchOfMost 28 = .ok (.iload 5, 2) := by decide +kernel
theorem dX3_inchOfMost_30 : decode cX3_inchOfMost 30 = .ok (.iload_n 3, 1) := by decide +kernel
theorem dX3_inchOfMost_31 : decode cX3_inchOfMost 31 = .ok (.if_icmp .le 9, 3) := by decide +kernel
theorem dX3_inchOfMost_34 : decode cX3_inchOfMost 34 = .ok (.iload 4, 2) := by decide +kernel
theorem dX3_inchOfMost_36 : decode cX3_inchOfMost 36 = .ok (.istore_n 2, 1) := by decide +kernel
theorem dX3_inchOfMost_37 : decode cX3_inchOfMost 37 = .ok (.iload 5, 2) := by decide +kernel
theorem dX3_inchOfMost_39 : decode cX3_inchOfMost 39 = .ok (.istore_n 3, 1) := by decide +kernel
theorem dX3_inchOfMost_40 : decode cX3_inchOfMost 40 = .ok (.iinc 4 1, 3) := by decide +kernel
theorem dX3_inchOfMost_43 : decode cX3_inchOfMost 43 = .ok (.goto (-36), 3) := by decide +kernel
theorem dX3_inchOfMost_46 : decode cX3_inchOfMost 46 = .ok (.iload_n 2, 1) := by decide +kernel
theorem dX3_inchOfMost_47 : decode cX3_inchOfMost 47 = .ok (.ireturn, 1) := by decide +kernel
theorem dX4_init_0 : decode cX4_init 0 = .ok (.aload_n 0, 1) := by decide +kernel
theorem dX4_init_1 : decode cX4_init 1 = .ok (.invokespecial 1, 3) := by decide +kernel
theorem dX4_init_4 : decode cX4_init 4 = .ok (.aload_n 0, 1) := by decide +kernel
theorem dX4_init_5 : decode cX4_init 5 = .ok (.new 7, 3) := by decide +kernel
theorem dX4_init_8 : decode cX4_init 8 = .ok (.dup, 1) := by decide +kernel
theorem dX4_init_9 : decode cX4_init 9 = .ok (.invokespecial 9, 3) := by decide +kernel
theorem dX4_init_12 : decode cX4_init 12 = .ok (.putfield 10, 3) := by decide +kernel
theorem dX4_init_15 : decode cX4_init 15 = .ok (.aload_n 0, 1) := by decide +kernel
theorem dX4_init_16 : decode cX4_init 16 = .ok (.new 7, 3) := by decide +kernel
theorem dX4_init_19 : decode cX4_init 19 = .ok (.dup, 1) := by decide +kernel
theorem dX4_init_20 : decode cX4_init 20 = .ok (.invokespecial 9, 3) := by decide +kernel
theorem dX4_init_23 : decode cX4_init 23 = .ok (.putfield 16, 3) := by decide +kernel
theorem dX4_init_26 : decode cX4_init 26 = .ok (.aload_n 0, 1) := by decide +kernel
theorem dX4_init_27 : decode cX4_init 27 = .ok (.new 7, 3) := by decide +kernel
theorem dX4_init_30 : decode cX4_init 30 = .ok (.dup, 1) := by decide +kernel
theorem dX4_init_31 : decode cX4_init 31 = .ok (.invokespecial 9, 3) := by decide +kernel
theorem dX4_init_34 : decode cX4_init 34 = .ok (.putfield 19, 3) := by decide +kernel
theorem dX4_init_37 : decode cX4_init 37 = .ok (.aload_n 0, 1) := by decide +kernel
theorem dX4_init_38 : decode cX4_init 38 = .ok (.new 22, 3) := by decide +kernel
theorem dX4_init_41 : decode cX4_init 41 = .ok (.dup, 1) := by decide +kernel
theorem dX4_init_42 : decode cX4_init 42 = .ok (.invokespecial 24, 3) := by decide +kernel
theorem dX4_init_45 : decode cX4_init 45 = .ok (.putfield 25, 3) := by decide +kernel
theorem dX4_init_48 : decode cX4_init 48 = .ok (.aload_n 0, 1) := by decide +kernel
theorem dX4_init_49 : decode cX4_init 49 = .ok (.new 29, 3) := by decide +kernel
theorem dX4_init_52 : decode cX4_init 52 = .ok (.dup, 1) := by decide +kernel
theorem dX4_init_53 : decode cX4_init 53 = .ok (.invokespecial 31, 3) := by decide +kernel
theorem dX4_init_56 : decode cX4_init 56 = .ok (.putfield 32, 3) := by decide +kernel
theorem dX4_init_59 : decode cX4_init 59 = .ok (.aload_n 0, 1) := by decide +kernel
theorem dX4_init_60 : decode cX4_init 60 = .ok (.new 36, 3) := by decide +kernel
theorem dX4_init_63 : decode cX4_init 63 = .ok (.dup, 1) := by decide +kernel
theorem dX4_init_64 : decode cX4_init 64 = .ok (.invokespecial 38, 3) := by decide +kernel
theorem dX4_init_67 : decode cX4_init 67 = .ok (.putfield 39, 3) := by decide +kernel
theorem dX4_init_70 : decode cX4_init 70 = .ok (.aload_n 0, 1) := by decide +kernel
theorem dX4_init_71 : decode cX4_init 71 = .ok (.bipush 7, 2) := by decide +kernel
theorem dX4_init_73 : decode cX4_init 73 = .ok (.newarray .int, 2) := by decide +kernel
theorem dX4_init_75 : decode cX4_init 75 = .ok (.putfield 43, 3) := by decide +kernel
theorem dX4_init_78 : decode cX4_init 78 = .ok (.aload_n 0, 1) := by decide +kernel
theorem dX4_init_79 : decode cX4_init 79 = .ok (.iconst 0, 1) := by decide +kernel
theorem dX4_init_80 : decode cX4_init 80 = .ok (.putfield 47, 3) := by decide +kernel
theorem dX4_init_83 : decode cX4_init 83 = .ok (.return_, 1) := by decide +kernel
theorem dX4_letter_0 : decode cX4_letter 0 = .ok (.iload_n 1, 1) := by decide +kernel
theorem dX4_letter_1 : decode cX4_letter 1 = .ok (.ifCond .ge 10, 3) := by decide +kernel
theorem dX4_letter_4 : decode cX4_letter 4 = .ok (.aload_n 0, 1) := by decide +kernel
theorem dX4_letter_5 : decode cX4_letter 5 = .ok (.bipush (-4), 2) := by decide +kernel
theorem dX4_letter_7 : decode cX4_letter 7 = .ok (.invokevirtual 51, 3) := by decide +kernel
theorem dX4_letter_10 : decode cX4_letter 10 = .ok (.ireturn, 1) := by decide +kernel
theorem dX4_letter_11 : decode cX4_letter 11 = .ok (.iload_n 1, 1) := by decide +kernel
theorem dX4_letter_12 : decode cX4_letter 12 = .ok (.sipush 255, 3) := by decide +kernel
theorem dX4_letter_15 : decode cX4_letter 15 = .ok (.if_icmp .gt 15, 3) := by decide +kernel
theorem dX4_letter_18 : decode cX4_letter 18 = .ok (.aload_n 0, 1) := by decide +kernel
theorem dX4_letter_19 : decode cX4_letter 19 = .ok (.getfield 25, 3) := by decide +kernel
theorem dX4_letter_22 : decode cX4_letter 22 = .ok (.getfield 55, 3) := by decide +kernel
theorem dX4_letter_25 : decode cX4_letter 25 = .ok (.bipush 96, 2) := by decide +kernel
theorem dX4_letter_27 : decode cX4_letter 27 = .ok (.if_icmp .lt 10, 3) := by decide +kernel
theorem dX4_letter_30 : decode cX4_letter 30 = .ok (.aload_n 0, 1) := by decide +kernel
theorem dX4_letter_31 : decode cX4_letter 31 = .ok (.bipush (-6), 2) := by decide +kernel
theorem dX4_letter_33 : decode cX4_letter 33 = .ok (.invokevirtual 51, 3) := by decide +kernel
theorem dX4_letter_36 : decode cX4_letter 36 = .ok (.ireturn, 1) := by decide +kernel
theorem dX4_letter_37 : decode cX4_letter 37 = .ok (.aload_n 0, 1) := by decide +kernel
theorem dX4_letter_38 : decode cX4_letter 38 = .ok (.getfield 25, 3) := by decide +kernel
theorem dX4_letter_41 : decode cX4_letter 41 = .ok (.getfield 59, 3) := by decide +kernel
theorem dX4_letter_44 : decode cX4_letter 44 = .ok (.aload_n 0, 1) := by decide +kernel
theorem dX4_letter_45 : decode cX4_letter 45 = .ok (.getfield 25, 3) := by decide +kernel
theorem dX4_letter_48 : decode cX4_letter 48 = .ok (.getfield 55, 3) := by decide +kernel
theorem dX4_letter_51 : decode cX4_letter 51 = .ok (.iload_n 1, 1) := by decide +kernel
theorem dX4_letter_52 : decode cX4_letter 52 = .ok (.i2c, 1) := by decide +kernel
theorem dX4_letter_53 : decode cX4_letter 53 = .ok (.castore, 1) := by decide +kernel
theorem dX4_letter_54 : decode cX4_letter 54 = .ok (.aload_n 0, 1) := by decide +kernel
theorem dX4_letter_55 : decode cX4_letter 55 = .ok (.getfield 25, 3) := by decide +kernel
theorem dX4_letter_58 : decode cX4_letter 58 = .ok (.dup, 1) := by decide +kernel
theorem dX4_letter_59 : decode cX4_letter 59 = .ok (.getfield 55, 3) := by decide +kernel
theorem dX4_letter_62 : decode cX4_letter 62 = .ok (.iconst 1, 1) := by decide +kernel
theorem dX4_letter_63 : decode cX4_letter 63 = .ok (.iadd, 1) := by decide +kernel
theorem dX4_letter_64 : decode cX4_letter 64 = .ok (.putfield 55, 3) := by decide +kernel
theorem dX4_letter_67 : decode cX4_letter 67 = .ok (.aload_n 0, 1) := by decide +kernel
theorem dX4_letter_68 : decode cX4_letter 68 = .ok (.getfield 25, 3) := by decide +kernel
theorem dX4_letter_71 : decode cX4_letter 71 = .ok (.getfield 55, 3) := by decide +kernel
theorem dX4_letter_74 : decode cX4_letter 74 = .ok (.ireturn, 1) := by decide +kernel
theorem dX4_wall_0 : decode cX4_wall 0 = .ok (.aload_n 0, 1) := by decide +kernel
theorem dX4_wall_1 : decode cX4_wall 1 = .ok (.getfield 25, 3) := by decide +kernel
theorem dX4_wall_4 : decode cX4_wall 4 = .ok (.invokevirtual 63, 3) := by decide +kernel
theorem dX4_wall_7 : decode cX4_wall 7 = .ok (.ifCond .eq 7, 3) := by decide +kernel
theorem dX4_wall_10 : decode cX4_wall 10 = .ok (.iconst 0, 1) := by decide +kernel
theorem dX4_wall_11 : decode cX4_wall 11 = .ok (.goto 14, 3) := by decide +kernel
theorem dX4_wall_14 : decode cX4_wall 14 = .ok (.sipush (-1000), 3) := by decide +kernel
theorem dX4_wall_17 : decode cX4_wall 17 = .ok (.aload_n 0, 1) := by decide +kernel
theorem dX4_wall_18 : decode cX4_wall 18 = .ok (.getfield 25, 3) := by decide +kernel
theorem dX4_wall_21 : decode cX4_wall 21 = .ok (.getfield 67, 3) := by decide +kernel
theorem dX4_wall_24 : decode cX4_wall 24 = .ok (.isub, 1) := by decide +kernel
theorem dX4_wall_25 : decode cX4_wall 25 = .ok (.istore_n 1, 1) := by decide +kernel
theorem dX4_wall_26 : decode cX4_wall 26 = .ok (.aload_n 0, 1) := by decide +kernel
theorem dX4_wall_27 : decode cX4_wall 27 = .ok (.getfield 19, 3) := by decide +kernel
theorem dX4_wall_30 : decode cX4_wall 30 = .ok (.aload_n 0, 1) := by decide +kernel
theorem dX4_wall_31 : decode cX4_wall 31 = .ok (.getfield 10, 3) := by decide +kernel
theorem dX4_wall_34 : decode cX4_wall 34 = .ok (.invokevirtual 70, 3) := by decide +kernel
theorem dX4_wall_37 : decode cX4_wall 37 = .ok (.aload_n 0, 1) := by decide +kernel
theorem dX4_wall_38 : decode cX4_wall 38 = .ok (.getfield 25, 3) := by decide +kernel
theorem dX4_wall_41 : decode cX4_wall 41 = .ok (.iconst 0, 1) := by decide +kernel
theorem dX4_wall_42 : decode cX4_wall 42 = .ok (.putfield 67, 3) := by decide +kernel
theorem dX4_wall_45 : decode cX4_wall 45 = .ok (.iload_n 1, 1) := by decide +kernel
theorem dX4_wall_46 : decode cX4_wall 46 = .ok (.ifCond .lt 63, 3) := by decide +kernel
theorem dX4_wall_49 : decode cX4_wall 49 = .ok (.iload_n 1, 1) := by decide +kernel
theorem dX4_wall_50 : decode cX4_wall 50 = .ok (.bipush 96, 2) := by decide +kernel
theorem dX4_wall_52 : decode cX4_wall 52 = .ok (.if_icmp .ge 57, 3) := by decide +kernel
theorem dX4_wall_55 : decode cX4_wall 55 = .ok (.aload_n 0, 1) := by decide +kernel
theorem dX4_wall_56 : decode cX4_wall 56 = .ok (.getfield 25, 3) := by decide +kernel
theorem dX4_wall_59 : decode cX4_wall 59 = .ok (.getfield 67, 3) := by decide +kernel
theorem dX4_wall_62 : decode cX4_wall 62 = .ok (.aload_n 0, 1) := by decide +kernel
theorem dX4_wall_63 : decode cX4_wall 63 = .ok (.getfield 25, 3) := by decide +kernel
theorem dX4_wall_66 : decode cX4_wall 66 = .ok (.getfield 55, 3) := by decide +kernel
theorem dX4_wall_69 : decode cX4_wall 69 = .ok (.if_icmp .ge 40, 3) := by decide +kernel
theorem dX4_wall_72 : decode cX4_wall 72 = .ok (.aload_n 0, 1) := by decide +kernel
theorem dX4_wall_73 : decode cX4_wall 73 = .ok (.getfield 25, 3) := by decide +kernel
theorem dX4_wall_76 : decode cX4_wall 76 = .ok (.getfield 67, 3) := by decide +kernel
theorem dX4_wall_79 : decode cX4_wall 79 = .ok (.istore_n 2, 1) := by decide +kernel
theorem dX4_wall_80 : decode cX4_wall 80 = .ok (.aload_n 0, 1) := by decide +kernel
theorem dX4_wall_81 : decode cX4_wall 81 = .ok (.getfield 25, 3) := by decide +kernel
theorem dX4_wall_84 : decode cX4_wall 84 = .ok (.aload_n 0, 1) := by decide +kernel
theorem dX4_wall_85 : decode cX4_wall 85 = .ok (.getfield 19, 3) := by decide +kernel
theorem dX4_wall_88 : decode cX4_wall 88 = .ok (.invokevirtual 74, 3) := by decide +kernel
theorem dX4_wall_91 : decode cX4_wall 91 = .ok (.ifCond .eq 9, 3) := by decide +kernel
theorem dX4_wall_94 : decode cX4_wall 94 = .ok (.iload_n 1, 1) := by decide +kernel
theorem dX4_wall_95 : decode cX4_wall 95 = .ok (.iconst 1, 1) := by decide +kernel
theorem dX4_wall_96 : decode cX4_wall 96 = .ok (.iadd, 1) := by decide +kernel
theorem dX4_wall_97 : decode cX4_wall 97 = .ok (.goto 8, 3) := by decide +kernel
theorem dX4_wall_100 : decode cX4_wall 100 = .ok (.sipush (-2000), 3) := by decide +kernel
theorem dX4_wall_103 : decode cX4_wall 103 = .ok (.iload_n 2, 1) := by decide +kernel
theorem dX4_wall_104 : decode cX4_wall 104 = .ok (.isub, 1) := by decide +kernel
theorem dX4_wall_105 : decode cX4_wall 105 = .ok (.istore_n 1, 1) := by decide +kernel
theorem dX4_wall_106 : decode cX4_wall 106 = .ok (.goto (-61), 3) := by decide +kernel
theorem dX4_wall_109 : decode cX4_wall 109 = .ok (.iload_n 1, 1) := by decide +kernel
theorem dX4_wall_110 : decode cX4_wall 110 = .ok (.ifCond .le 14, 3) := by decide +kernel
theorem dX4_wall_113 : decode cX4_wall 113 = .ok (.aload_n 0, 1) := by decide +kernel
theorem dX4_wall_114 : decode cX4_wall 114 = .ok (.getfield 10, 3) := by decide +kernel
theorem dX4_wall_117 : decode cX4_wall 117 = .ok (.aload_n 0, 1) := by decide +kernel
theorem dX4_wall_118 : decode cX4_wall 118 = .ok (.getfield 19, 3) := by decide +kernel
theorem dX4_wall_121 : decode cX4_wall 121 = .ok (.invokevirtual 70, 3) := by decide +kernel
theorem dX4_wall_124 : decode cX4_wall 124 = .ok (.aload_n 0, 1) := by decide +kernel
theorem dX4_wall_125 : decode cX4_wall 125 = .ok (.getfield 25, 3) := by decide +kernel
theorem dX4_wall_128 : decode cX4_wall 128 = .ok (.iconst 0, 1) := by decide +kernel
theorem dX4_wall_129 : decode cX4_wall 129 = .ok (.putfield 55, 3) := by decide +kernel
theorem dX4_wall_132 : decode cX4_wall 132 = .ok (.iload_n 1, 1) := by decide +kernel
theorem dX4_wall_133 : decode cX4_wall 133 = .ok (.ireturn, 1) := by decide +kernel
theorem dX4_set_0 : decode cX4_set 0 = .ok (.iload_n 1, 1) := by decide +kernel
theorem dX4_set_1 : decode cX4_set 1 = .ok (.ifCond .lt 8, 3) := by decide +kernel
theorem dX4_set_4 : decode cX4_set 4 = .ok (.iload_n 1, 1) := by decide +kernel
theorem dX4_set_5 : decode cX4_set 5 = .ok (.iconst 3, 1) := by decide +kernel
theorem dX4_set_6 : decode cX4_set 6 = .ok (.if_icmp .le 10, 3) := by decide +kernel
theorem dX4_set_9 : decode cX4_set 9 = .ok (.aload_n 0, 1) := by decide +kernel
theorem dX4_set_10 : decode cX4_set 10 = .ok (.bipush (-2), 2) := by decide +kernel
theorem dX4_set_12 : decode cX4_set 12 = .ok (.invokevirtual 51, 3) := by decide +kernel
theorem dX4_set_15 : decode cX4_set 15 = .ok (.ireturn, 1) := by decide +kernel
theorem dX4_set_16 : decode cX4_set 16 = .ok (.iload_n 1, 1) := by decide +kernel
theorem dX4_set_17 : decode cX4_set 17 = .ok (.iload_n 2, 1) := by decide +kernel
theorem dX4_set_18 : decode cX4_set 18 = .ok (.invokestatic 78, 3) := by decide +kernel
theorem dX4_set_21 : decode cX4_set 21 = .ok (.ifCond .eq 24, 3) := by decide +kernel
theorem dX4_set_24 : decode cX4_set 24 = .ok (.aload_n 0, 1) := by decide +kernel
theorem dX4_set_25 : decode cX4_set 25 = .ok (.iload_n 2, 1) := by decide +kernel
theorem dX4_set_26 : decode cX4_set 26 = .ok (.getstatic 82, 3) := by decide +kernel
theorem dX4_set_29 : decode cX4_set 29 = .ok (.iload_n 1, 1) := by decide +kernel
theorem dX4_set_30 : decode cX4_set 30 = .ok (.iaload, 1) := by decide +kernel
theorem dX4_set_31 : decode cX4_set 31 = .ok (.if_icmp .ge 8, 3) := by decide +kernel
theorem dX4_set_34 : decode cX4_set 34 = .ok (.bipush (-4), 2) := by decide +kernel
theorem dX4_set_36 : decode cX4_set 36 = .ok (.goto 5, 3) := by decide +kernel
theorem dX4_set_39 : decode cX4_set 39 = .ok (.bipush (-6), 2) := by decide +kernel
theorem dX4_set_41 : decode cX4_set 41 = .ok (.invokevirtual 51, 3) := by decide +kernel
theorem dX4_set_44 : decode cX4_set 44 = .ok (.ireturn, 1) := by decide +kernel
theorem dX4_set_45 : decode cX4_set 45 = .ok (.aload_n 0, 1) := by decide +kernel
theorem dX4_set_46 : decode cX4_set 46 = .ok (.getfield 10, 3) := by decide +kernel
theorem dX4_set_49 : decode cX4_set 49 = .ok (.iload_n 1, 1) := by decide +kernel
theorem dX4_set_50 : decode cX4_set 50 = .ok (.invokevirtual 85, 3) := by decide +kernel
theorem dX4_set_53 : decode cX4_set 53 = .ok (.istore_n 3, 1) := by decide +kernel
theorem dX4_set_54 : decode cX4_set 54 = .ok (.aload_n 0, 1) := by decide +kernel
theorem dX4_set_55 : decode cX4_set 55 = .ok (.getfield 10, 3) := by decide +kernel
theorem dX4_set_58 : decode cX4_set 58 = .ok (.iload_n 1, 1) := by decide +kernel
theorem dX4_set_59 : decode cX4_set 59 = .ok (.iload_n 2, 1) := by decide +kernel
theorem dX4_set_60 : decode cX4_set 60 = .ok (.invokevirtual 88, 3) := by decide +kernel
theorem dX4_set_63 : decode cX4_set 63 = .ok (.aload_n 0, 1) := by decide +kernel
theorem dX4_set_64 : decode cX4_set 64 = .ok (.getfield 10, 3) := by decide +kernel
theorem dX4_set_67 : decode cX4_set 67 = .ok (.invokevirtual 92, 3) := by decide +kernel
theorem dX4_set_70 : decode cX4_set 70 = .ok (.iload_n 3, 1) := by decide +kernel
theorem dX4_set_71 : decode cX4_set 71 = .ok (.ireturn, 1) := by decide +kernel
theorem dX4_wood_0 : decode cX4_wood 0 = .ok (.iload_n 1, 1) := by decide +kernel
theorem dX4_wood_1 : decode cX4_wood 1 = .ok (.invokestatic 95, 3) := by decide +kernel
theorem dX4_wood_4 : decode cX4_wood 4 = .ok (.ifCond .ne 11, 3) := by decide +kernel
theorem dX4_wood_7 : decode cX4_wood 7 = .ok (.aload_n 0, 1) := by decide +kernel
theorem dX4_wood_8 : decode cX4_wood 8 = .ok (.iload_n 2, 1) := by decide +kernel
theorem dX4_wood_9 : decode cX4_wood 9 = .ok (.invokevirtual 99, 3) := by decide +kernel
theorem dX4_wood_12 : decode cX4_wood 12 = .ok (.ifCond .eq 9, 3) := by decide +kernel
theorem dX4_wood_15 : decode cX4_wood 15 = .ok (.aload_n 0, 1) := by decide +kernel
theorem dX4_wood_16 : decode cX4_wood 16 = .ok (.iconst (-1), 1) := by decide +kernel
theorem dX4_wood_17 : decode cX4_wood 17 = .ok (.invokevirtual 51, 3) := by decide +kernel
theorem dX4_wood_20 : decode cX4_wood 20 = .ok (.ireturn, 1) := by decide +kernel
theorem dX4_wood_21 : decode cX4_wood 21 = .ok (.aload_n 0, 1) := by decide +kernel
theorem dX4_wood_22 : decode cX4_wood 22 = .ok (.getfield 10, 3) := by decide +kernel
theorem dX4_wood_25 : decode cX4_wood 25 = .ok (.iload_n 1, 1) := by decide +kernel
theorem dX4_wood_26 : decode cX4_wood 26 = .ok (.iload_n 2, 1) := by decide +kernel
theorem dX4_wood_27 : decode cX4_wood 27 = .ok (.invokevirtual 102, 3) := by decide +kernel
theorem dX4_wood_30 : decode cX4_wood 30 = .ok (.ifCond .eq 7, 3) := by decide +kernel
theorem dX4_wood_33 : decode cX4_wood 33 = .ok (.iconst 1, 1) := by decide +kernel
theorem dX4_wood_34 : decode cX4_wood 34 = .ok (.goto 4, 3) := by decide +kernel
theorem dX4_wood_37 : decode cX4_wood 37 = .ok (.iconst 0, 1) := by decide +kernel
theorem dX4_wood_38 : decode cX4_wood 38 = .ok (.ireturn, 1) := by decide +kernel
theorem dX4_weight_0 : decode cX4_weight 0 = .ok (.aload_n 0, 1) := by decide +kernel
theorem dX4_weight_1 : decode cX4_weight 1 = .ok (.iload_n 1, 1) := by decide +kernel
theorem dX4_weight_2 : decode cX4_weight 2 = .ok (.invokevirtual 99, 3) := by decide +kernel
theorem dX4_weight_5 : decode cX4_weight 5 = .ok (.ifCond .eq 9, 3) := by decide +kernel
theorem dX4_weight_8 : decode cX4_weight 8 = .ok (.aload_n 0, 1) := by decide +kernel
theorem dX4_weight_9 : decode cX4_weight 9 = .ok (.iconst (-1), 1) := by decide +kernel
theorem dX4_weight_10 : decode cX4_weight 10 = .ok (.invokevirtual 105, 3) := by decide +kernel
theorem dX4_weight_13 : decode cX4_weight 13 = .ok (.lreturn, 1) := by decide +kernel
theorem dX4_weight_14 : decode cX4_weight 14 = .ok (.aload_n 0, 1) := by decide +kernel
theorem dX4_weight_15 : decode cX4_weight 15 = .ok (.getfield 10, 3) := by decide +kernel
theorem dX4_weight_18 : decode cX4_weight 18 = .ok (.getfield 109, 3) := by decide +kernel
theorem dX4_weight_21 : decode cX4_weight 21 = .ok (.iload_n 1, 1) := by decide +kernel
theorem dX4_weight_22 : decode cX4_weight 22 = .ok (.laload, 1) := by decide +kernel
theorem dX4_weight_23 : decode cX4_weight 23 = .ok (.lreturn, 1) := by decide +kernel
theorem dX4_tool_0 : decode cX4_tool 0 = .ok (.iload_n 1, 1) := by decide +kernel
theorem dX4_tool_1 : decode cX4_tool 1 = .ok (.invokestatic 113, 3) := by decide +kernel
theorem dX4_tool_4 : decode cX4_tool 4 = .ok (.ifCond .ne 12, 3) := by decide +kernel
theorem dX4_tool_7 : decode cX4_tool 7 = .ok (.iload_n 2, 1) := by decide +kernel
theorem dX4_tool_8 : decode cX4_tool 8 = .ok (.ifCond .lt 8, 3) := by decide +kernel
theorem dX4_tool_11 : decode cX4_tool 11 = .ok (.iload_n 2, 1) := by decide +kernel
theorem dX4_tool_12 : decode cX4_tool 12 = .ok (.iconst 2, 1) := by decide +kernel
theorem dX4_tool_13 : decode cX4_tool 13 = .ok (.if_icmp .le 10, 3) := by decide +kernel
theorem dX4_tool_16 : decode cX4_tool 16 = .ok (.aload_n 0, 1) := by decide +kernel
theorem dX4_tool_17 : decode cX4_tool 17 = .ok (.bipush (-2), 2) := by decide +kernel
theorem dX4_tool_19 : decode cX4_tool 19 = .ok (.invokevirtual 51, 3) := by decide +kernel
theorem dX4_tool_22 : decode cX4_tool 22 = .ok (.ireturn, 1) := by decide +kernel
theorem dX4_tool_23 : decode cX4_tool 23 = .ok (.iload_n 2, 1) := by decide +kernel
theorem dX4_tool_24 : decode cX4_tool 24 = .ok (.ifCond .ne 9, 3) := by decide +kernel
theorem dX4_tool_27 : decode cX4_tool 27 = .ok (.getstatic 116, 3) := by decide +kernel
theorem dX4_tool_30 : decode cX4_tool 30 = .ok (.iload_n 1, 1) := by decide +kernel
theorem dX4_tool_31 : decode cX4_tool 31 = .ok (.iaload, 1) := by decide +kernel
theorem dX4_tool_32 : decode cX4_tool 32 = .ok (.ireturn, 1) := by decide +kernel
theorem dX4_tool_33 : decode cX4_tool 33 = .ok (.iload_n 2, 1) := by decide +kernel
theorem dX4_tool_34 : decode cX4_tool 34 = .ok (.iconst 1, 1) := by decide +kernel
theorem dX4_tool_35 : decode cX4_tool 35 = .ok (.if_icmp .ne 11, 3) := by decide +kernel
theorem dX4_tool_38 : decode cX4_tool 38 = .ok (.getstatic 119, 3) := by decide +kernel
theorem dX4_tool_41 : decode cX4_tool 41 = .ok (.iload_n 1, 1) := by decide +kernel
theorem dX4_tool_42 : decode cX4_tool 42 = .ok (.iaload, 1) := by decide +kernel
theorem dX4_tool_43 : decode cX4_tool 43 = .ok (.goto 8, 3) := by decide +kernel
theorem dX4_tool_46 : decode cX4_tool 46 = .ok (.getstatic 122, 3) := by decide +kernel
theorem dX4_tool_49 : decode cX4_tool 49 = .ok (.iload_n 1, 1) := by decide +kernel
theorem dX4_tool_50 : decode cX4_tool 50 = .ok (.iaload, 1) := by decide +kernel
theorem dX4_tool_51 : decode cX4_tool 51 = .ok (.ireturn, 1) := by decide +kernel
theorem dX4_telling_0 : decode cX4_telling 0 = .ok (.iload_n 1, 1) := by decide +kernel
theorem dX4_telling_1 : decode cX4_telling 1 = .ok (.invokestatic 113, 3) := by decide +kernel
theorem dX4_telling_4 : decode cX4_telling 4 = .ok (.ifCond .eq 10, 3) := by decide +kernel
theorem dX4_telling_7 : decode cX4_telling 7 = .ok (.aload_n 0, 1) := by decide +kernel
theorem dX4_telling_8 : decode cX4_telling 8 = .ok (.bipush (-2), 2) := by decide +kernel
theorem dX4_telling_10 : decode cX4_telling 10 = .ok (.invokevirtual 51, 3) := by decide +kernel
theorem dX4_telling_13 : decode cX4_telling 13 = .ok (.ireturn, 1) := by decide +kernel
theorem dX4_telling_14 : decode cX4_telling 14 = .ok (.iload_n 2, 1) := by decide +kernel
theorem dX4_telling_15 : decode cX4_telling 15 = .ok (.invokestatic 95, 3) := by decide +kernel
theorem dX4_telling_18 : decode cX4_telling 18 = .ok (.ifCond .eq 9, 3) := by decide +kernel
theorem dX4_telling_21 : decode cX4_telling 21 = .ok (.aload_n 0, 1) := by decide +kernel
theorem dX4_telling_22 : decode cX4_telling 22 = .ok (.iconst (-1), 1) := by decide +kernel
theorem dX4_telling_23 : decode cX4_telling 23 = .ok (.invokevirtual 51, 3) := by decide +kernel
theorem dX4_telling_26 : decode cX4_telling 26 = .ok (.ireturn, 1) := by decide +kernel
theorem dX4_telling_27 : decode cX4_telling 27 = .ok (.iload_n 3, 1) := by decide +kernel
theorem dX4_telling_28 : decode cX4_telling 28 = .ok (.ifCond .eq 15, 3) := by decide +kernel
theorem dX4_telling_31 : decode cX4_telling 31 = .ok (.iload_n 3, 1) := by decide +kernel
theorem dX4_telling_32 : decode cX4_telling 32 = .ok (.iconst 1, 1) := by decide +kernel
theorem dX4_telling_33 : decode cX4_telling 33 = .ok (.if_icmp .eq 10, 3) := by decide +kernel
theorem dX4_telling_36 : decode cX4_telling 36 = .ok (.aload_n 0, 1) := by decide +kernel
theorem dX4_telling_37 : decode cX4_telling 37 = .ok (.bipush (-2), 2) := by decide +kernel
theorem dX4_telling_39 : decode cX4_telling 39 = .ok (.invokevirtual 51, 3) := by decide +kernel
theorem dX4_telling_42 : decode cX4_telling 42 = .ok (.ireturn, 1) := by decide +kernel
theorem dX4_telling_43 : decode cX4_telling 43 = .ok (.aload_n 0, 1) := by decide +kernel
theorem dX4_telling_44 : decode cX4_telling 44 = .ok (.getfield 10, 3) := by decide +kernel
theorem dX4_telling_47 : decode cX4_telling 47 = .ok (.getfield 125, 3) := by decide +kernel
theorem dX4_telling_50 : decode cX4_telling 50 = .ok (.bipush 6, 2) := by decide +kernel
theorem dX4_telling_52 : decode cX4_telling 52 = .ok (.if_icmp .lt 10, 3) := by decide +kernel
theorem dX4_telling_55 : decode cX4_telling 55 = .ok (.aload_n 0, 1) := by decide +kernel
theorem dX4_telling_56 : decode cX4_telling 56 = .ok (.bipush (-6), 2) := by decide +kernel
theorem dX4_telling_58 : decode cX4_telling 58 = .ok (.invokevirtual 51, 3) := by decide +kernel
theorem dX4_telling_61 : decode cX4_telling 61 = .ok (.ireturn, 1) := by decide +kernel
theorem dX4_telling_62 : decode cX4_telling 62 = .ok (.aload_n 0, 1) := by decide +kernel
theorem dX4_telling_63 : decode cX4_telling 63 = .ok (.getfield 10, 3) := by decide +kernel
theorem dX4_telling_66 : decode cX4_telling 66 = .ok (.iload_n 1, 1) := by decide +kernel
theorem dX4_telling_67 : decode cX4_telling 67 = .ok (.iload_n 2, 1) := by decide +kernel
theorem dX4_telling_68 : decode cX4_telling 68 = .ok (.iload_n 3, 1) := by decide +kernel
theorem dX4_telling_69 : decode cX4_telling 69 = .ok (.iconst 1, 1) := by decide +kernel
theorem dX4_telling_70 : decode cX4_telling 70 = .ok (.if_icmp .ne 7, 3) := by decide +kernel
theorem dX4_telling_73 : decode cX4_telling 73 = .ok (.iconst 1, 1) := by decide +kernel
theorem dX4_telling_74 : decode cX4_telling 74 = .ok (.goto 4, 3) := by decide +kernel
theorem dX4_telling_77 : decode cX4_telling 77 = .ok (.iconst 0, 1) := by decide +kernel
theorem dX4_telling_78 : decode cX4_telling 78 = .ok (.invokevirtual 128, 3) := by decide +kernel
theorem dX4_telling_81 : decode cX4_telling 81 = .ok (.aload_n 0, 1) := by decide +kernel
theorem dX4_telling_82 : decode cX4_telling 82 = .ok (.getfield 10, 3) := by decide +kernel
theorem dX4_telling_85 : decode cX4_telling 85 = .ok (.getfield 125, 3) := by decide +kernel
theorem dX4_telling_88 : decode cX4_telling 88 = .ok (.ireturn, 1) := by decide +kernel
theorem dX4_nail_0 : decode cX4_nail 0 = .ok (.iload_n 1, 1) := by decide +kernel
theorem dX4_nail_1 : decode cX4_nail 1 = .ok (.invokestatic 95, 3) := by decide +kernel
theorem dX4_nail_4 : decode cX4_nail 4 = .ok (.ifCond .eq 9, 3) := by decide +kernel
theorem dX4_nail_7 : decode cX4_nail 7 = .ok (.aload_n 0, 1) := by decide +kernel
theorem dX4_nail_8 : decode cX4_nail 8 = .ok (.iconst (-1), 1) := by decide +kernel
theorem dX4_nail_9 : decode cX4_nail 9 = .ok (.invokevirtual 51, 3) := by decide +kernel
theorem dX4_nail_12 : decode cX4_nail 12 = .ok (.ireturn, 1) := by decide +kernel
theorem dX4_nail_13 : decode cX4_nail 13 = .ok (.iload_n 2, 1) := by decide +kernel
theorem dX4_nail_14 : decode cX4_nail 14 = .ok (.ifCond .eq 15, 3) := by decide +kernel
theorem dX4_nail_17 : decode cX4_nail 17 = .ok (.iload_n 2, 1) := by decide +kernel
theorem dX4_nail_18 : decode cX4_nail 18 = .ok (.iconst 1, 1) := by decide +kernel
theorem dX4_nail_19 : decode cX4_nail 19 = .ok (.if_icmp .eq 10, 3) := by decide +kernel
theorem dX4_nail_22 : decode cX4_nail 22 = .ok (.aload_n 0, 1) := by decide +kernel
theorem dX4_nail_23 : decode cX4_nail 23 = .ok (.bipush (-2), 2) := by decide +kernel
theorem dX4_nail_25 : decode cX4_nail 25 = .ok (.invokevirtual 51, 3) := by decide +kernel
theorem dX4_nail_28 : decode cX4_nail 28 = .ok (.ireturn, 1) := by decide +kernel
theorem dX4_nail_29 : decode cX4_nail 29 = .ok (.aload_n 0, 1) := by decide +kernel
theorem dX4_nail_30 : decode cX4_nail 30 = .ok (.getfield 10, 3) := by decide +kernel
theorem dX4_nail_33 : decode cX4_nail 33 = .ok (.iload_n 1, 1) := by decide +kernel
theorem dX4_nail_34 : decode cX4_nail 34 = .ok (.iload_n 2, 1) := by decide +kernel
theorem dX4_nail_35 : decode cX4_nail 35 = .ok (.iconst 1, 1) := by decide +kernel
theorem dX4_nail_36 : decode cX4_nail 36 = .ok (.if_icmp .ne 7, 3) := by decide +kernel
theorem dX4_nail_39 : decode cX4_nail 39 = .ok (.iconst 1, 1) := by decide +kernel
theorem dX4_nail_40 : decode cX4_nail 40 = .ok (.goto 4, 3) := by decide +kernel
theorem dX4_nail_43 : decode cX4_nail 43 = .ok (.iconst 0, 1) := by decide +kernel
theorem dX4_nail_44 : decode cX4_nail 44 = .ok (.invokevirtual 132, 3) := by decide +kernel
theorem dX4_nail_47 : decode cX4_nail 47 = .ok (.ifCond .ne 10, 3) := by decide +kernel
theorem dX4_nail_50 : decode cX4_nail 50 = .ok (.aload_n 0, 1) := by decide +kernel
theorem dX4_nail_51 : decode cX4_nail 51 = .ok (.bipush (-3), 2) := by decide +kernel
theorem dX4_nail_53 : decode cX4_nail 53 = .ok (.invokevirtual 51, 3) := by decide +kernel
theorem dX4_nail_56 : decode cX4_nail 56 = .ok (.ireturn, 1) := by decide +kernel
theorem dX4_nail_57 : decode cX4_nail 57 = .ok (.aload_n 0, 1) := by decide +kernel
theorem dX4_nail_58 : decode cX4_nail 58 = .ok (.getfield 10, 3) := by decide +kernel
theorem dX4_nail_61 : decode cX4_nail 61 = .ok (.iload_n 1, 1) := by decide +kernel
theorem dX4_nail_62 : decode cX4_nail 62 = .ok (.iload_n 2, 1) := by decide +kernel
theorem dX4_nail_63 : decode cX4_nail 63 = .ok (.iconst 1, 1) := by decide +kernel
theorem dX4_nail_64 : decode cX4_nail 64 = .ok (.if_icmp .ne 7, 3) := by decide +kernel
theorem dX4_nail_67 : decode cX4_nail 67 = .ok (.iconst 1, 1) := by decide +kernel
theorem dX4_nail_68 : decode cX4_nail 68 = .ok (.goto 4, 3) := by decide +kernel
theorem dX4_nail_71 : decode cX4_nail 71 = .ok (.iconst 0, 1) := by decide +kernel
theorem dX4_nail_72 : decode cX4_nail 72 = .ok (.invokevirtual 136, 3) := by decide +kernel
theorem dX4_nail_75 : decode cX4_nail 75 = .ok (.aload_n 0, 1) := by decide +kernel
theorem dX4_nail_76 : decode cX4_nail 76 = .ok (.getfield 10, 3) := by decide +kernel
theorem dX4_nail_79 : decode cX4_nail 79 = .ok (.getfield 140, 3) := by decide +kernel
theorem dX4_nail_82 : decode cX4_nail 82 = .ok (.invokestatic 143, 3) := by decide +kernel
theorem dX4_nail_85 : decode cX4_nail 85 = .ok (.ireturn, 1) := by decide +kernel
theorem dX4_pipe_0 : decode cX4_pipe 0 = .ok (.iload_n 1, 1) := by decide +kernel
theorem dX4_pipe_1 : decode cX4_pipe 1 = .ok (.invokestatic 95, 3) := by decide +kernel
theorem dX4_pipe_4 : decode cX4_pipe 4 = .ok (.ifCond .eq 9, 3) := by decide +kernel
theorem dX4_pipe_7 : decode cX4_pipe 7 = .ok (.aload_n 0, 1) := by decide +kernel
theorem dX4_pipe_8 : decode cX4_pipe 8 = .ok (.iconst (-1), 1) := by decide +kernel
theorem dX4_pipe_9 : decode cX4_pipe 9 = .ok (.invokevirtual 51, 3) := by decide +kernel
theorem dX4_pipe_12 : decode cX4_pipe 12 = .ok (.ireturn, 1) := by decide +kernel
theorem dX4_pipe_13 : decode cX4_pipe 13 = .ok (.iload_n 2, 1) := by decide +kernel
theorem dX4_pipe_14 : decode cX4_pipe 14 = .ok (.ifCond .ge 10, 3) := by decide +kernel
theorem dX4_pipe_17 : decode cX4_pipe 17 = .ok (.aload_n 0, 1) := by decide +kernel
theorem dX4_pipe_18 : decode cX4_pipe 18 = .ok (.bipush (-4), 2) := by decide +kernel
theorem dX4_pipe_20 : decode cX4_pipe 20 = .ok (.invokevirtual 51, 3) := by decide +kernel
theorem dX4_pipe_23 : decode cX4_pipe 23 = .ok (.ireturn, 1) := by decide +kernel
theorem dX4_pipe_24 : decode cX4_pipe 24 = .ok (.iload_n 2, 1) := by decide +kernel
theorem dX4_pipe_25 : decode cX4_pipe 25 = .ok (.bipush 9, 2) := by decide +kernel
theorem dX4_pipe_27 : decode cX4_pipe 27 = .ok (.if_icmp .gt 13, 3) := by decide +kernel
theorem dX4_pipe_30 : decode cX4_pipe 30 = .ok (.aload_n 0, 1) := by decide +kernel
theorem dX4_pipe_31 : decode cX4_pipe 31 = .ok (.getfield 10, 3) := by decide +kernel
theorem dX4_pipe_34 : decode cX4_pipe 34 = .ok (.invokevirtual 148, 3) := by decide +kernel
theorem dX4_pipe_37 : decode cX4_pipe 37 = .ok (.ifCond .ne 10, 3) := by decide +kernel
theorem dX4_pipe_40 : decode cX4_pipe 40 = .ok (.aload_n 0, 1) := by decide +kernel
theorem dX4_pipe_41 : decode cX4_pipe 41 = .ok (.bipush (-6), 2) := by decide +kernel
theorem dX4_pipe_43 : decode cX4_pipe 43 = .ok (.invokevirtual 51, 3) := by decide +kernel
theorem dX4_pipe_46 : decode cX4_pipe 46 = .ok (.ireturn, 1) := by decide +kernel
theorem dX4_pipe_47 : decode cX4_pipe 47 = .ok (.aload_n 0, 1) := by decide +kernel
theorem dX4_pipe_48 : decode cX4_pipe 48 = .ok (.getfield 10, 3) := by decide +kernel
theorem dX4_pipe_51 : decode cX4_pipe 51 = .ok (.iload_n 1, 1) := by decide +kernel
theorem dX4_pipe_52 : decode cX4_pipe 52 = .ok (.iload_n 2, 1) := by decide +kernel
theorem dX4_pipe_53 : decode cX4_pipe 53 = .ok (.invokevirtual 151, 3) := by decide +kernel
theorem dX4_pipe_56 : decode cX4_pipe 56 = .ok (.aload_n 0, 1) := by decide +kernel
theorem dX4_pipe_57 : decode cX4_pipe 57 = .ok (.getfield 10, 3) := by decide +kernel
theorem dX4_pipe_60 : decode cX4_pipe 60 = .ok (.getfield 154, 3) := by decide +kernel
theorem dX4_pipe_63 : decode cX4_pipe 63 = .ok (.iconst 1, 1) := by decide +kernel
theorem dX4_pipe_64 : decode cX4_pipe 64 = .ok (.isub, 1) := by decide +kernel
theorem dX4_pipe_65 : decode cX4_pipe 65 = .ok (.ireturn, 1) := by decide +kernel
theorem dX4_risk_0 : decode cX4_risk 0 = .ok (.iload_n 1, 1) := by decide +kernel
theorem dX4_risk_1 : decode cX4_risk 1 = .ok (.invokestatic 95, 3) := by decide +kernel
theorem dX4_risk_4 : decode cX4_risk 4 = .ok (.ifCond .eq 9, 3) := by decide +kernel
theorem dX4_risk_7 : decode cX4_risk 7 = .ok (.aload_n 0, 1) := by decide +kernel
theorem dX4_risk_8 : decode cX4_risk 8 = .ok (.iconst (-1), 1) := by decide +kernel
theorem dX4_risk_9 : decode cX4_risk 9 = .ok (.invokevirtual 51, 3) := by decide +kernel
theorem dX4_risk_12 : decode cX4_risk 12 = .ok (.ireturn, 1) := by decide +kernel
theorem dX4_risk_13 : decode cX4_risk 13 = .ok (.aload_n 0, 1) := by decide +kernel
theorem dX4_risk_14 : decode cX4_risk 14 = .ok (.getfield 10, 3) := by decide +kernel
theorem dX4_risk_17 : decode cX4_risk 17 = .ok (.iload_n 1, 1) := by decide +kernel
theorem dX4_risk_18 : decode cX4_risk 18 = .ok (.invokevirtual 157, 3) := by decide +kernel
theorem dX4_risk_21 : decode cX4_risk 21 = .ok (.ireturn, 1) := by decide +kernel
theorem dX4_hole_0 : decode cX4_hole 0 = .ok (.iload_n 1, 1) := by decide +kernel
theorem dX4_hole_1 : decode cX4_hole 1 = .ok (.invokestatic 95, 3) := by decide +kernel
theorem dX4_hole_4 : decode cX4_hole 4 = .ok (.ifCond .eq 9, 3) := by decide +kernel
theorem dX4_hole_7 : decode cX4_hole 7 = .ok (.aload_n 0, 1) := by decide +kernel
theorem dX4_hole_8 : decode cX4_hole 8 = .ok (.iconst (-1), 1) := by decide +kernel
theorem dX4_hole_9 : decode cX4_hole 9 = .ok (.invokevirtual 51, 3) := by decide +kernel
theorem dX4_hole_12 : decode cX4_hole 12 = .ok (.ireturn, 1) := by decide +kernel
theorem dX4_hole_13 : decode cX4_hole 13 = .ok (.aload_n 0, 1) := by decide +kernel
theorem dX4_hole_14 : decode cX4_hole 14 = .ok (.getfield 10, 3) := by decide +kernel
theorem dX4_hole_17 : decode cX4_hole 17 = .ok (.iload_n 1, 1) := by decide +kernel
theorem dX4_hole_18 : decode cX4_hole 18 = .ok (.iconst 1, 1) := by decide +kernel
theorem dX4_hole_19 : decode cX4_hole 19 = .ok (.invokevirtual 160, 3) := by decide +kernel
theorem dX4_hole_22 : decode cX4_hole 22 = .ok (.ireturn, 1) := by decide +kernel
theorem dX4_fill_0 : decode cX4_fill 0 = .ok (.aload_n 0, 1) := by decide +kernel
theorem dX4_fill_1 : decode cX4_fill 1 = .ok (.getfield 10, 3) := by decide +kernel
theorem dX4_fill_4 : decode cX4_fill 4 = .ok (.getfield 164, 3) := by decide +kernel
theorem dX4_fill_7 : decode cX4_fill 7 = .ok (.invokestatic 168, 3) := by decide +kernel
theorem dX4_fill_10 : decode cX4_fill 10 = .ok (.istore_n 1, 1) := by decide +kernel
theorem dX4_fill_11 : decode cX4_fill 11 = .ok (.aload_n 0, 1) := by decide +kernel
theorem dX4_fill_12 : decode cX4_fill 12 = .ok (.getfield 10, 3) := by decide +kernel
theorem dX4_fill_15 : decode cX4_fill 15 = .ok (.lconst 0, 1) := by decide +kernel
theorem dX4_fill_16 : decode cX4_fill 16 = .ok (.putfield 164, 3) := by decide +kernel
theorem dX4_fill_19 : decode cX4_fill 19 = .ok (.iload_n 1, 1) := by decide +kernel
theorem dX4_fill_20 : decode cX4_fill 20 = .ok (.ireturn, 1) := by decide +kernel
theorem dX4_likely_0 : decode cX4_likely 0 = .ok (.iload_n 1, 1) := by decide +kernel
theorem dX4_likely_1 : decode cX4_likely 1 = .ok (.invokestatic 95, 3) := by decide +kernel
theorem dX4_likely_4 : decode cX4_likely 4 = .ok (.ifCond .eq 9, 3) := by decide +kernel
theorem dX4_likely_7 : decode cX4_likely 7 = .ok (.aload_n 0, 1) := by decide +kernel
theorem dX4_likely_8 : decode cX4_likely 8 = .ok (.iconst (-1), 1) := by decide +kernel
theorem dX4_likely_9 : decode cX4_likely 9 = .ok (.invokevirtual 105, 3) := by decide +kernel
theorem dX4_likely_12 : decode cX4_likely 12 = .ok (.lreturn, 1) := by decide +kernel
theorem dX4_likely_13 : decode cX4_likely 13 = .ok (.iload_n 2, 1) := by decide +kernel
theorem dX4_likely_14 : decode cX4_likely 14 = .ok (.invokestatic 173, 3) := by decide +kernel
theorem dX4_likely_17 : decode cX4_likely 17 = .ok (.ifCond .eq 10, 3) := by decide +kernel
theorem dX4_likely_20 : decode cX4_likely 20 = .ok (.aload_n 0, 1) := by decide +kernel
theorem dX4_likely_21 : decode cX4_likely 21 = .ok (.bipush (-2), 2) := by decide +kernel
theorem dX4_likely_23 : decode cX4_likely 23 = .ok (.invokevirtual 105, 3) := by decide +kernel
theorem dX4_likely_26 : decode cX4_likely 26 = .ok (.lreturn, 1) := by decide +kernel
theorem dX4_likely_27 : decode cX4_likely 27 = .ok (.aload_n 0, 1) := by decide +kernel
theorem dX4_likely_28 : decode cX4_likely 28 = .ok (.getfield 10, 3) := by decide +kernel
theorem dX4_likely_31 : decode cX4_likely 31 = .ok (.getfield 176, 3) := by decide +kernel
theorem dX4_likely_34 : decode cX4_likely 34 = .ok (.iload_n 1, 1) := by decide +kernel
theorem dX4_likely_35 : decode cX4_likely 35 = .ok (.laload, 1) := by decide +kernel
theorem dX4_likely_36 : decode cX4_likely 36 = .ok (.aload_n 0, 1) := by decide +kernel
theorem dX4_likely_37 : decode cX4_likely 37 = .ok (.getfield 10, 3) := by decide +kernel
theorem dX4_likely_40 : decode cX4_likely 40 = .ok (.getfield 179, 3) := by decide +kernel
theorem dX4_likely_43 : decode cX4_likely 43 = .ok (.iload_n 2, 1) := by decide +kernel
theorem dX4_likely_44 : decode cX4_likely 44 = .ok (.invokestatic 182, 3) := by decide +kernel
theorem dX4_likely_47 : decode cX4_likely 47 = .ok (.lreturn, 1) := by decide +kernel
theorem dX4_sure_0 : decode cX4_sure 0 = .ok (.iload_n 1, 1) := by decide +kernel
theorem dX4_sure_1 : decode cX4_sure 1 = .ok (.ifCond .eq 15, 3) := by decide +kernel
theorem dX4_sure_4 : decode cX4_sure 4 = .ok (.iload_n 1, 1) := by decide +kernel
theorem dX4_sure_5 : decode cX4_sure 5 = .ok (.iconst 1, 1) := by decide +kernel
theorem dX4_sure_6 : decode cX4_sure 6 = .ok (.if_icmp .eq 10, 3) := by decide +kernel
theorem dX4_sure_9 : decode cX4_sure 9 = .ok (.aload_n 0, 1) := by decide +kernel
theorem dX4_sure_10 : decode cX4_sure 10 = .ok (.bipush (-2), 2) := by decide +kernel
theorem dX4_sure_12 : decode cX4_sure 12 = .ok (.invokevirtual 51, 3) := by decide +kernel
theorem dX4_sure_15 : decode cX4_sure 15 = .ok (.ireturn, 1) := by decide +kernel
theorem dX4_sure_16 : decode cX4_sure 16 = .ok (.iload_n 2, 1) := by decide +kernel
theorem dX4_sure_17 : decode cX4_sure 17 = .ok (.iconst (-1), 1) := by decide +kernel
theorem dX4_sure_18 : decode cX4_sure 18 = .ok (.if_icmp .ge 10, 3) := by decide +kernel
theorem dX4_sure_21 : decode cX4_sure 21 = .ok (.aload_n 0, 1) := by decide +kernel
theorem dX4_sure_22 : decode cX4_sure 22 = .ok (.bipush (-4), 2) := by decide +kernel
theorem dX4_sure_24 : decode cX4_sure 24 = .ok (.invokevirtual 51, 3) := by decide +kernel
theorem dX4_sure_27 : decode cX4_sure 27 = .ok (.ireturn, 1) := by decide +kernel
theorem dX4_sure_28 : decode cX4_sure 28 = .ok (.iconst 0, 1) := by decide +kernel
theorem dX4_sure_29 : decode cX4_sure 29 = .ok (.istore_n 3, 1) := by decide +kernel
theorem dX4_sure_30 : decode cX4_sure 30 = .ok (.iconst 0, 1) := by decide +kernel
theorem dX4_sure_31 : decode cX4_sure 31 = .ok (.istore 4, 2) := by decide +kernel
theorem dX4_sure_33 : decode cX4_sure 33 = .ok (.iload 4, 2) := by decide +kernel
theorem dX4_sure_35 : decode cX4_sure 35 = .ok (.bipush 48, 2) := by decide +kernel
theorem dX4_sure_37 : decode cX4_sure 37 = .ok (.if_icmp .ge 41, 3) := by decide +kernel
theorem dX4_sure_40 : decode cX4_sure 40 = .ok (.aload_n 0, 1) := by decide +kernel
theorem dX4_sure_41 : decode cX4_sure 41 = .ok (.getfield 10, 3) := by decide +kernel
theorem dX4_sure_44 : decode cX4_sure 44 = .ok (.iload 4, 2) := by decide +kernel
theorem dX4_sure_46 : decode cX4_sure 46 = .ok (.iload_n 1, 1) := by decide +kernel
theorem dX4_sure_47 : decode cX4_sure 47 = .ok (.ifCond .ne 7, 3) := by decide +kernel
theorem dX4_sure_50 : decode cX4_sure 50 = .ok (.iconst 1, 1) := by decide +kernel
theorem dX4_sure_51 : decode cX4_sure 51 = .ok (.goto 4, 3) := by decide +kernel
theorem dX4_sure_54 : decode cX4_sure 54 = .ok (.iconst 0, 1) := by decide +kernel
theorem dX4_sure_55 : decode cX4_sure 55 = .ok (.invokevirtual 186, 3) := by decide +kernel
theorem dX4_sure_58 : decode cX4_sure 58 = .ok (.ifCond .eq 14, 3) := by decide +kernel
theorem dX4_sure_61 : decode cX4_sure 61 = .ok (.iload_n 3, 1) := by decide +kernel
theorem dX4_sure_62 : decode cX4_sure 62 = .ok (.iload_n 2, 1) := by decide +kernel
theorem dX4_sure_63 : decode cX4_sure 63 = .ok (.if_icmp .ne 6, 3) := by decide +kernel
theorem dX4_sure_66 : decode cX4_sure 66 = .ok (.iload 4, 2) := by decide +kernel
theorem dX4_sure_68 : decode cX4_sure 68 = .ok (.ireturn, 1) := by decide +kernel
theorem dX4_sure_69 : decode cX4_sure 69 = .ok (.iinc 3 1, 3) := by decide +kernel
theorem dX4_sure_72 : decode cX4_sure 72 = .ok (.iinc 4 1, 3) := by decide +kernel
theorem dX4_sure_75 : decode cX4_sure 75 = .ok (.goto (-42), 3) := by decide +kernel
theorem dX4_sure_78 : decode cX4_sure 78 = .ok (.iload_n 2, 1) := by decide +kernel
theorem dX4_sure_79 : decode cX4_sure 79 = .ok (.iconst (-1), 1) := by decide +kernel
theorem dX4_sure_80 : decode cX4_sure 80 = .ok (.if_icmp .ne 7, 3) := by decide +kernel
theorem dX4_sure_83 : decode cX4_sure 83 = .ok (.iload_n 3, 1) := by decide +kernel
theorem dX4_sure_84 : decode cX4_sure 84 = .ok (.goto 5, 3) := by decide +kernel
theorem dX4_sure_87 : decode cX4_sure 87 = .ok (.bipush (-9), 2) := by decide +kernel
theorem dX4_sure_89 : decode cX4_sure 89 = .ok (.ireturn, 1) := by decide +kernel
theorem dX4_best_0 : decode cX4_best 0 = .ok (.aload_n 0, 1) := by decide +kernel
theorem dX4_best_1 : decode cX4_best 1 = .ok (.getfield 10, 3) := by decide +kernel
theorem dX4_best_4 : decode cX4_best 4 = .ok (.iconst 0, 1) := by decide +kernel
theorem dX4_best_5 : decode cX4_best 5 = .ok (.bipush 48, 2) := by decide +kernel
theorem dX4_best_7 : decode cX4_best 7 = .ok (.invokevirtual 189, 3) := by decide +kernel
theorem dX4_best_10 : decode cX4_best 10 = .ok (.ireturn, 1) := by decide +kernel
theorem dX4_safest_0 : decode cX4_safest 0 = .ok (.iconst 0, 1) := by decide +kernel
theorem dX4_safest_1 : decode cX4_safest 1 = .ok (.istore_n 1, 1) := by decide +kernel
theorem dX4_safest_2 : decode cX4_safest 2 = .ok (.iconst 1, 1) := by decide +kernel
theorem dX4_safest_3 : decode cX4_safest 3 = .ok (.istore_n 2, 1) := by decide +kernel
theorem dX4_safest_4 : decode cX4_safest 4 = .ok (.iload_n 2, 1) := by decide +kernel
theorem dX4_safest_5 : decode cX4_safest 5 = .ok (.bipush 48, 2) := by decide +kernel
theorem dX4_safest_7 : decode cX4_safest 7 = .ok (.if_icmp .ge 31, 3) := by decide +kernel
theorem dX4_safest_10 : decode cX4_safest 10 = .ok (.aload_n 0, 1) := by decide +kernel
theorem dX4_safest_11 : decode cX4_safest 11 = .ok (.getfield 10, 3) := by decide +kernel
theorem dX4_safest_14 : decode cX4_safest 14 = .ok (.iload_n 2, 1) := by decide +kernel
theorem dX4_safest_15 : decode cX4_safest 15 = .ok (.invokevirtual 192, 3) := by decide +kernel
theorem dX4_safest_18 : decode cX4_safest 18 = .ok (.aload_n 0, 1) := by decide +kernel
theorem dX4_safest_19 : decode cX4_safest 19 = .ok (.getfield 10, 3) := by decide +kernel
theorem dX4_safest_22 : decode cX4_safest 22 = .ok (.iload_n 1, 1) := by decide +kernel
theorem dX4_safest_23 : decode cX4_safest 23 = .ok (.invokevirtual 192, 3) := by decide +kernel
theorem dX4_safest_26 : decode cX4_safest 26 = .ok (.lcmp, 1) := by decide +kernel
theorem dX4_safest_27 : decode cX4_safest 27 = .ok (.ifCond .le 5, 3) := by decide +kernel
theorem dX4_safest_30 : decode cX4_safest 30 = .ok (.iload_n 2, 1) := by decide +kernel
theorem dX4_safest_31 : decode cX4_safest 31 = .ok (.istore_n 1, 1) := by decide +kernel
theorem dX4_safest_32 : decode cX4_safest 32 = .ok (.iinc 2 1, 3) := by decide +kernel
theorem dX4_safest_35 : decode cX4_safest 35 = .ok (.goto (-31), 3) := by decide +kernel
theorem dX4_safest_38 : decode cX4_safest 38 = .ok (.iload_n 1, 1) := by decide +kernel
theorem dX4_safest_39 : decode cX4_safest 39 = .ok (.ireturn, 1) := by decide +kernel
theorem dX4_holes_0 : decode cX4_holes 0 = .ok (.iload_n 1, 1) := by decide +kernel
theorem dX4_holes_1 : decode cX4_holes 1 = .ok (.invokestatic 95, 3) := by decide +kernel
theorem dX4_holes_4 : decode cX4_holes 4 = .ok (.ifCond .eq 9, 3) := by decide +kernel
theorem dX4_holes_7 : decode cX4_holes 7 = .ok (.aload_n 0, 1) := by decide +kernel
theorem dX4_holes_8 : decode cX4_holes 8 = .ok (.iconst (-1), 1) := by decide +kernel
theorem dX4_holes_9 : decode cX4_holes 9 = .ok (.invokevirtual 51, 3) := by decide +kernel
theorem dX4_holes_12 : decode cX4_holes 12 = .ok (.ireturn, 1) := by decide +kernel
theorem dX4_holes_13 : decode cX4_holes 13 = .ok (.aload_n 0, 1) := by decide +kernel
theorem dX4_holes_14 : decode cX4_holes 14 = .ok (.getfield 10, 3) := by decide +kernel
theorem dX4_holes_17 : decode cX4_holes 17 = .ok (.iload_n 1, 1) := by decide +kernel
theorem dX4_holes_18 : decode cX4_holes 18 = .ok (.invokevirtual 195, 3) := by decide +kernel
theorem dX4_holes_21 : decode cX4_holes 21 = .ok (.ireturn, 1) := by decide +kernel
theorem dX4_mean_0 : decode cX4_mean 0 = .ok (.iload_n 1, 1) := by decide +kernel
theorem dX4_mean_1 : decode cX4_mean 1 = .ok (.invokestatic 95, 3) := by decide +kernel
theorem dX4_mean_4 : decode cX4_mean 4 = .ok (.ifCond .eq 9, 3) := by decide +kernel
theorem dX4_mean_7 : decode cX4_mean 7 = .ok (.aload_n 0, 1) := by decide +kernel
theorem dX4_mean_8 : decode cX4_mean 8 = .ok (.iconst (-1), 1) := by decide +kernel
theorem dX4_mean_9 : decode cX4_mean 9 = .ok (.invokevirtual 105, 3) := by decide +kernel
theorem dX4_mean_12 : decode cX4_mean 12 = .ok (.lreturn, 1) := by decide +kernel
theorem dX4_mean_13 : decode cX4_mean 13 = .ok (.iload_n 2, 1) := by decide +kernel
theorem dX4_mean_14 : decode cX4_mean 14 = .ok (.invokestatic 173, 3) := by decide +kernel
theorem dX4_mean_17 : decode cX4_mean 17 = .ok (.ifCond .eq 10, 3) := by decide +kernel
theorem dX4_mean_20 : decode cX4_mean 20 = .ok (.aload_n 0, 1) := by decide +kernel
theorem dX4_mean_21 : decode cX4_mean 21 = .ok (.bipush (-2), 2) := by decide +kernel
theorem dX4_mean_23 : decode cX4_mean 23 = .ok (.invokevirtual 105, 3) := by decide +kernel
theorem dX4_mean_26 : decode cX4_mean 26 = .ok (.lreturn, 1) := by decide +kernel
theorem dX4_mean_27 : decode cX4_mean 27 = .ok (.aload_n 0, 1) := by decide +kernel
theorem dX4_mean_28 : decode cX4_mean 28 = .ok (.getfield 10, 3) := by decide +kernel
theorem dX4_mean_31 : decode cX4_mean 31 = .ok (.iload_n 1, 1) := by decide +kernel
theorem dX4_mean_32 : decode cX4_mean 32 = .ok (.invokevirtual 198, 3) := by decide +kernel
theorem dX4_mean_35 : decode cX4_mean 35 = .ok (.aload_n 0, 1) := by decide +kernel
theorem dX4_mean_36 : decode cX4_mean 36 = .ok (.getfield 10, 3) := by decide +kernel
theorem dX4_mean_39 : decode cX4_mean 39 = .ok (.getfield 179, 3) := by decide +kernel
theorem dX4_mean_42 : decode cX4_mean 42 = .ok (.iload_n 2, 1) := by decide +kernel
theorem dX4_mean_43 : decode cX4_mean 43 = .ok (.invokestatic 182, 3) := by decide +kernel
theorem dX4_mean_46 : decode cX4_mean 46 = .ok (.lreturn, 1) := by decide +kernel
theorem dX4_from_0 : decode cX4_from 0 = .ok (.iconst 0, 1) := by decide +kernel
theorem dX4_from_1 : decode cX4_from 1 = .ok (.istore_n 1, 1) := by decide +kernel
theorem dX4_from_2 : decode cX4_from 2 = .ok (.aload_n 0, 1) := by decide +kernel
theorem dX4_from_3 : decode cX4_from 3 = .ok (.getfield 10, 3) := by decide +kernel
theorem dX4_from_6 : decode cX4_from 6 = .ok (.iconst 0, 1) := by decide +kernel
theorem dX4_from_7 : decode cX4_from 7 = .ok (.invokevirtual 198, 3) := by decide +kernel
theorem dX4_from_10 : decode cX4_from 10 = .ok (.lstore_n 2, 1) := by decide +kernel
theorem dX4_from_11 : decode cX4_from 11 = .ok (.iconst 1, 1) := by decide +kernel
theorem dX4_from_12 : decode cX4_from 12 = .ok (.istore 4, 2) := by decide +kernel
theorem dX4_from_14 : decode cX4_from 14 = .ok (.iload 4, 2) := by decide +kernel
theorem dX4_from_16 : decode cX4_from 16 = .ok (.bipush 48, 2) := by decide +kernel
theorem dX4_from_18 : decode cX4_from 18 = .ok (.if_icmp .ge 33, 3) := by decide +kernel
theorem dX4_from_21 : decode cX4_from 21 = .ok (.aload_n 0, 1) := by decide +kernel
theorem dX4_from_22 : decode cX4_from 22 = .ok (.getfield 10, 3) := by decide +kernel
theorem dX4_from_25 : decode cX4_from 25 = .ok (.iload 4, 2) := by decide +kernel
theorem dX4_from_27 : decode cX4_from 27 = .ok (.invokevirtual 198, 3) := by decide +kernel
theorem dX4_from_30 : decode cX4_from 30 = .ok (.lstore 5, 2) := by decide +kernel
theorem dX4_from_32 : decode cX4_from 32 = .ok (.lload 5, 2) := by decide +kernel
theorem dX4_from_34 : decode cX4_from 34 = .ok (.lload_n 2, 1) := by decide +kernel
theorem dX4_from_35 : decode cX4_from 35 = .ok (.lcmp, 1) := by decide +kernel
theorem dX4_from_36 : decode cX4_from 36 = .ok (.ifCond .ge 9, 3) := by decide +kernel
theorem dX4_from_39 : decode cX4_from 39 = .ok (.iload 4, 2) := by decide +kernel
theorem dX4_from_41 : decode cX4_from 41 = .ok (.istore_n 1, 1) := by decide +kernel
theorem dX4_from_42 : decode cX4_from 42 = .ok (.lload 5, 2) := by decide +kernel
theorem dX4_from_44 : decode cX4_from 44 = .ok (.lstore_n 2, 1) := by decide +kernel
theorem dX4_from_45 : decode cX4_from 45 = .ok (.iinc 4 1, 3) := by decide +kernel
theorem dX4_from_48 : decode cX4_from 48 = .ok (.goto (-34), 3) := by decide +kernel
theorem dX4_from_51 : decode cX4_from 51 = .ok (.iload_n 1, 1) := by decide +kernel
theorem dX4_from_52 : decode cX4_from 52 = .ok (.ireturn, 1) := by decide +kernel
theorem dX4_next_0 : decode cX4_next 0 = .ok (.iload_n 1, 1) := by decide +kernel
theorem dX4_next_1 : decode cX4_next 1 = .ok (.invokestatic 113, 3) := by decide +kernel
theorem dX4_next_4 : decode cX4_next 4 = .ok (.ifCond .eq 10, 3) := by decide +kernel
theorem dX4_next_7 : decode cX4_next 7 = .ok (.aload_n 0, 1) := by decide +kernel
theorem dX4_next_8 : decode cX4_next 8 = .ok (.bipush (-2), 2) := by decide +kernel
theorem dX4_next_10 : decode cX4_next 10 = .ok (.invokevirtual 51, 3) := by decide +kernel
theorem dX4_next_13 : decode cX4_next 13 = .ok (.ireturn, 1) := by decide +kernel
theorem dX4_next_14 : decode cX4_next 14 = .ok (.aload_n 0, 1) := by decide +kernel
theorem dX4_next_15 : decode cX4_next 15 = .ok (.getfield 39, 3) := by decide +kernel
theorem dX4_next_18 : decode cX4_next 18 = .ok (.aload_n 0, 1) := by decide +kernel
theorem dX4_next_19 : decode cX4_next 19 = .ok (.getfield 10, 3) := by decide +kernel
theorem dX4_next_22 : decode cX4_next 22 = .ok (.iload_n 1, 1) := by decide +kernel
theorem dX4_next_23 : decode cX4_next 23 = .ok (.invokevirtual 201, 3) := by decide +kernel
theorem dX4_next_26 : decode cX4_next 26 = .ok (.aload_n 0, 1) := by decide +kernel
theorem dX4_next_27 : decode cX4_next 27 = .ok (.getfield 39, 3) := by decide +kernel
theorem dX4_next_30 : decode cX4_next 30 = .ok (.getfield 205, 3) := by decide +kernel
theorem dX4_next_33 : decode cX4_next 33 = .ok (.ireturn, 1) := by decide +kernel
theorem dX4_worth_0 : decode cX4_worth 0 = .ok (.iload_n 1, 1) := by decide +kernel
theorem dX4_worth_1 : decode cX4_worth 1 = .ok (.invokestatic 113, 3) := by decide +kernel
theorem dX4_worth_4 : decode cX4_worth 4 = .ok (.ifCond .ne 10, 3) := by decide +kernel
theorem dX4_worth_7 : decode cX4_worth 7 = .ok (.iload_n 2, 1) := by decide +kernel
theorem dX4_worth_8 : decode cX4_worth 8 = .ok (.invokestatic 173, 3) := by decide +kernel
theorem dX4_worth_11 : decode cX4_worth 11 = .ok (.ifCond .eq 10, 3) := by decide +kernel
theorem dX4_worth_14 : decode cX4_worth 14 = .ok (.aload_n 0, 1) := by decide +kernel
theorem dX4_worth_15 : decode cX4_worth 15 = .ok (.bipush (-2), 2) := by decide +kernel
theorem dX4_worth_17 : decode cX4_worth 17 = .ok (.invokevirtual 105, 3) := by decide +kernel
theorem dX4_worth_20 : decode cX4_worth 20 = .ok (.lreturn, 1) := by decide +kernel
theorem dX4_worth_21 : decode cX4_worth 21 = .ok (.aload_n 0, 1) := by decide +kernel
theorem dX4_worth_22 : decode cX4_worth 22 = .ok (.getfield 39, 3) := by decide +kernel
theorem dX4_worth_25 : decode cX4_worth 25 = .ok (.aload_n 0, 1) := by decide +kernel
theorem dX4_worth_26 : decode cX4_worth 26 = .ok (.getfield 10, 3) := by decide +kernel
theorem dX4_worth_29 : decode cX4_worth 29 = .ok (.iload_n 1, 1) := by decide +kernel
theorem dX4_worth_30 : decode cX4_worth 30 = .ok (.invokevirtual 201, 3) := by decide +kernel
theorem dX4_worth_33 : decode cX4_worth 33 = .ok (.aload_n 0, 1) := by decide +kernel
theorem dX4_worth_34 : decode cX4_worth 34 = .ok (.getfield 39, 3) := by decide +kernel
theorem dX4_worth_37 : decode cX4_worth 37 = .ok (.getfield 208, 3) := by decide +kernel
theorem dX4_worth_40 : decode cX4_worth 40 = .ok (.ldc2_w 211, 3) := by decide +kernel
theorem dX4_worth_43 : decode cX4_worth 43 = .ok (.aload_n 0, 1) := by decide +kernel
theorem dX4_worth_44 : decode cX4_worth 44 = .ok (.getfield 10, 3) := by decide +kernel
theorem dX4_worth_47 : decode cX4_worth 47 = .ok (.getfield 179, 3) := by decide +kernel
theorem dX4_worth_50 : decode cX4_worth 50 = .ok (.lmul, 1) := by decide +kernel
theorem dX4_worth_51 : decode cX4_worth 51 = .ok (.iload_n 2, 1) := by decide +kernel
theorem dX4_worth_52 : decode cX4_worth 52 = .ok (.invokestatic 182, 3) := by decide +kernel
theorem dX4_worth_55 : decode cX4_worth 55 = .ok (.lreturn, 1) := by decide +kernel
theorem dX4_kind_0 : decode cX4_kind 0 = .ok (.iconst 0, 1) := by decide +kernel
theorem dX4_kind_1 : decode cX4_kind 1 = .ok (.istore_n 1, 1) := by decide +kernel
theorem dX4_kind_2 : decode cX4_kind 2 = .ok (.lconst 0, 1) := by decide +kernel
theorem dX4_kind_3 : decode cX4_kind 3 = .ok (.lstore_n 2, 1) := by decide +kernel
theorem dX4_kind_4 : decode cX4_kind 4 = .ok (.iconst 0, 1) := by decide +kernel
theorem dX4_kind_5 : decode cX4_kind 5 = .ok (.istore 4, 2) := by decide +kernel
theorem dX4_kind_7 : decode cX4_kind 7 = .ok (.iload 4, 2) := by decide +kernel
theorem dX4_kind_9 : decode cX4_kind 9 = .ok (.iconst 5, 1) := by decide +kernel
theorem dX4_kind_10 : decode cX4_kind 10 = .ok (.if_icmp .ge 60, 3) := by decide +kernel
theorem dX4_kind_13 : decode cX4_kind 13 = .ok (.aload_n 0, 1) := by decide +kernel
theorem dX4_kind_14 : decode cX4_kind 14 = .ok (.getfield 39, 3) := by decide +kernel
theorem dX4_kind_17 : decode cX4_kind 17 = .ok (.aload_n 0, 1) := by decide +kernel
theorem dX4_kind_18 : decode cX4_kind 18 = .ok (.getfield 10, 3) := by decide +kernel
theorem dX4_kind_21 : decode cX4_kind 21 = .ok (.iload 4, 2) := by decide +kernel
theorem dX4_kind_23 : decode cX4_kind 23 = .ok (.invokevirtual 201, 3) := by decide +kernel
theorem dX4_kind_26 : decode cX4_kind 26 = .ok (.aload_n 0, 1) := by decide +kernel
theorem dX4_kind_27 : decode cX4_kind 27 = .ok (.getfield 39, 3) := by decide +kernel
theorem dX4_kind_30 : decode cX4_kind 30 = .ok (.getfield 208, 3) := by decide +kernel
theorem dX4_kind_33 : decode cX4_kind 33 = .ok (.getstatic 122, 3) := by decide +kernel
theorem dX4_kind_36 : decode cX4_kind 36 = .ok (.iload_n 1, 1) := by decide +kernel
theorem dX4_kind_37 : decode cX4_kind 37 = .ok (.iaload, 1) := by decide +kernel
theorem dX4_kind_38 : decode cX4_kind 38 = .ok (.i2l, 1) := by decide +kernel
theorem dX4_kind_39 : decode cX4_kind 39 = .ok (.lmul, 1) := by decide +kernel
theorem dX4_kind_40 : decode cX4_kind 40 = .ok (.lload_n 2, 1) := by decide +kernel
theorem dX4_kind_41 : decode cX4_kind 41 = .ok (.getstatic 122, 3) := by decide +kernel
theorem dX4_kind_44 : decode cX4_kind 44 = .ok (.iload 4, 2) := by decide +kernel
theorem dX4_kind_46 : decode cX4_kind 46 = .ok (.iaload, 1) := by decide +kernel
theorem dX4_kind_47 : decode cX4_kind 47 = .ok (.i2l, 1) := by decide +kernel
theorem dX4_kind_48 : decode cX4_kind 48 = .ok (.lmul, 1) := by decide +kernel
theorem dX4_kind_49 : decode cX4_kind 49 = .ok (.lcmp, 1) := by decide +kernel
theorem dX4_kind_50 : decode cX4_kind 50 = .ok (.ifCond .le 14, 3) := by decide +kernel
theorem dX4_kind_53 : decode cX4_kind 53 = .ok (.iload 4, 2) := by decide +kernel
theorem dX4_kind_55 : decode cX4_kind 55 = .ok (.istore_n 1, 1) := by decide +kernel
theorem dX4_kind_56 : decode cX4_kind 56 = .ok (.aload_n 0, 1) := by decide +kernel
theorem dX4_kind_57 : decode cX4_kind 57 = .ok (.getfield 39, 3) := by decide +kernel
theorem dX4_kind_60 : decode cX4_kind 60 = .ok (.getfield 208, 3) := by decide +kernel
theorem dX4_kind_63 : decode cX4_kind 63 = .ok (.lstore_n 2, 1) := by decide +kernel
theorem dX4_kind_64 : decode cX4_kind 64 = .ok (.iinc 4 1, 3) := by decide +kernel
theorem dX4_kind_67 : decode cX4_kind 67 = .ok (.goto (-60), 3) := by decide +kernel
theorem dX4_kind_70 : decode cX4_kind 70 = .ok (.iload_n 1, 1) := by decide +kernel
theorem dX4_kind_71 : decode cX4_kind 71 = .ok (.ireturn, 1) := by decide +kernel
theorem dX4_covers_0 : decode cX4_covers 0 = .ok (.iload_n 1, 1) := by decide +kernel
theorem dX4_covers_1 : decode cX4_covers 1 = .ok (.ifCond .lt 8, 3) := by decide +kernel
theorem dX4_covers_4 : decode cX4_covers 4 = .ok (.iload_n 2, 1) := by decide +kernel
theorem dX4_covers_5 : decode cX4_covers 5 = .ok (.iconst 1, 1) := by decide +kernel
theorem dX4_covers_6 : decode cX4_covers 6 = .ok (.if_icmp .ge 10, 3) := by decide +kernel
theorem dX4_covers_9 : decode cX4_covers 9 = .ok (.aload_n 0, 1) := by decide +kernel
theorem dX4_covers_10 : decode cX4_covers 10 = .ok (.bipush (-4), 2) := by decide +kernel
theorem dX4_covers_12 : decode cX4_covers 12 = .ok (.invokevirtual 51, 3) := by decide +kernel
theorem dX4_covers_15 : decode cX4_covers 15 = .ok (.ireturn, 1) := by decide +kernel
theorem dX4_covers_16 : decode cX4_covers 16 = .ok (.iload_n 2, 1) := by decide +kernel
theorem dX4_covers_17 : decode cX4_covers 17 = .ok (.bipush 40, 2) := by decide +kernel
theorem dX4_covers_19 : decode cX4_covers 19 = .ok (.if_icmp .gt 11, 3) := by decide +kernel
theorem dX4_covers_22 : decode cX4_covers 22 = .ok (.iload_n 1, 1) := by decide +kernel
theorem dX4_covers_23 : decode cX4_covers 23 = .ok (.bipush 48, 2) := by decide +kernel
theorem dX4_covers_25 : decode cX4_covers 25 = .ok (.iload_n 2, 1) := by decide +kernel
theorem dX4_covers_26 : decode cX4_covers 26 = .ok (.isub, 1) := by decide +kernel
theorem dX4_covers_27 : decode cX4_covers 27 = .ok (.if_icmp .le 10, 3) := by decide +kernel
theorem dX4_covers_30 : decode cX4_covers 30 = .ok (.aload_n 0, 1) := by decide +kernel
theorem dX4_covers_31 : decode cX4_covers 31 = .ok (.bipush (-6), 2) := by decide +kernel
theorem dX4_covers_33 : decode cX4_covers 33 = .ok (.invokevirtual 51, 3) := by decide +kernel
theorem dX4_covers_36 : decode cX4_covers 36 = .ok (.ireturn, 1) := by decide +kernel
theorem dX4_covers_37 : decode cX4_covers 37 = .ok (.aload_n 0, 1) := by decide +kernel
theorem dX4_covers_38 : decode cX4_covers 38 = .ok (.getfield 10, 3) := by decide +kernel
theorem dX4_covers_41 : decode cX4_covers 41 = .ok (.iload_n 1, 1) := by decide +kernel
theorem dX4_covers_42 : decode cX4_covers 42 = .ok (.iload_n 2, 1) := by decide +kernel
theorem dX4_covers_43 : decode cX4_covers 43 = .ok (.invokevirtual 160, 3) := by decide +kernel
theorem dX4_covers_46 : decode cX4_covers 46 = .ok (.ireturn, 1) := by decide +kernel
theorem dX4_hang_0 : decode cX4_hang 0 = .ok (.iload_n 1, 1) := by decide +kernel
theorem dX4_hang_1 : decode cX4_hang 1 = .ok (.iconst 1, 1) := by decide +kernel
theorem dX4_hang_2 : decode cX4_hang 2 = .ok (.if_icmp .ge 10, 3) := by decide +kernel
theorem dX4_hang_5 : decode cX4_hang 5 = .ok (.aload_n 0, 1) := by decide +kernel
theorem dX4_hang_6 : decode cX4_hang 6 = .ok (.bipush (-4), 2) := by decide +kernel
theorem dX4_hang_8 : decode cX4_hang 8 = .ok (.invokevirtual 51, 3) := by decide +kernel
theorem dX4_hang_11 : decode cX4_hang 11 = .ok (.ireturn, 1) := by decide +kernel
theorem dX4_hang_12 : decode cX4_hang 12 = .ok (.iload_n 1, 1) := by decide +kernel
theorem dX4_hang_13 : decode cX4_hang 13 = .ok (.bipush 40, 2) := by decide +kernel
theorem dX4_hang_15 : decode cX4_hang 15 = .ok (.if_icmp .le 10, 3) := by decide +kernel
theorem dX4_hang_18 : decode cX4_hang 18 = .ok (.aload_n 0, 1) := by decide +kernel
theorem dX4_hang_19 : decode cX4_hang 19 = .ok (.bipush (-6), 2) := by decide +kernel
theorem dX4_hang_21 : decode cX4_hang 21 = .ok (.invokevirtual 51, 3) := by decide +kernel
theorem dX4_hang_24 : decode cX4_hang 24 = .ok (.ireturn, 1) := by decide +kernel
theorem dX4_hang_25 : decode cX4_hang 25 = .ok (.iconst 0, 1) := by decide +kernel
theorem dX4_hang_26 : decode cX4_hang 26 = .ok (.istore_n 2, 1) := by decide +kernel
theorem dX4_hang_27 : decode cX4_hang 27 = .ok (.iconst (-1), 1) := by decide +kernel
theorem dX4_hang_28 : decode cX4_hang 28 = .ok (.istore_n 3, 1) := by decide +kernel
theorem dX4_hang_29 : decode cX4_hang 29 = .ok (.ldc2_w 213, 3) := by decide +kernel
theorem dX4_hang_32 : decode cX4_hang 32 = .ok (.lstore 4, 2) := by decide +kernel
theorem dX4_hang_34 : decode cX4_hang 34 = .ok (.iconst 0, 1) := by decide +kernel
theorem dX4_hang_35 : decode cX4_hang 35 = .ok (.istore 6, 2) := by decide +kernel
theorem dX4_hang_37 : decode cX4_hang 37 = .ok (.iload 6, 2) := by decide +kernel
theorem dX4_hang_39 : decode cX4_hang 39 = .ok (.bipush 48, 2) := by decide +kernel
theorem dX4_hang_41 : decode cX4_hang 41 = .ok (.iload_n 1, 1) := by decide +kernel
theorem dX4_hang_42 : decode cX4_hang 42 = .ok (.isub, 1) := by decide +kernel
theorem dX4_hang_43 : decode cX4_hang 43 = .ok (.if_icmp .gt 74, 3) := by decide +kernel
theorem dX4_hang_46 : decode cX4_hang 46 = .ok (.aload_n 0, 1) := by decide +kernel
theorem dX4_hang_47 : decode cX4_hang 47 = .ok (.getfield 10, 3) := by decide +kernel
theorem dX4_hang_50 : decode cX4_hang 50 = .ok (.iload 6, 2) := by decide +kernel
theorem dX4_hang_52 : decode cX4_hang 52 = .ok (.iload_n 1, 1) := by decide +kernel
theorem dX4_hang_53 : decode cX4_hang 53 = .ok (.invokevirtual 160, 3) := by decide +kernel
theorem dX4_hang_56 : decode cX4_hang 56 = .ok (.istore 7, 2) := by decide +kernel
theorem dX4_hang_58 : decode cX4_hang 58 = .ok (.aload_n 0, 1) := by decide +kernel
theorem dX4_hang_59 : decode cX4_hang 59 = .ok (.getfield 10, 3) := by decide +kernel
theorem dX4_hang_62 : decode cX4_hang 62 = .ok (.getfield 176, 3) := by decide +kernel
theorem dX4_hang_65 : decode cX4_hang 65 = .ok (.aload_n 0, 1) := by decide +kernel
theorem dX4_hang_66 : decode cX4_hang 66 = .ok (.getfield 10, 3) := by decide +kernel
theorem dX4_hang_69 : decode cX4_hang 69 = .ok (.iload 6, 2) := by decide +kernel
theorem dX4_hang_71 : decode cX4_hang 71 = .ok (.iload 6, 2) := by decide +kernel
theorem dX4_hang_73 : decode cX4_hang 73 = .ok (.iload_n 1, 1) := by decide +kernel
theorem dX4_hang_74 : decode cX4_hang 74 = .ok (.iadd, 1) := by decide +kernel
theorem dX4_hang_75 : decode cX4_hang 75 = .ok (.invokevirtual 189, 3) := by decide +kernel
theorem dX4_hang_78 : decode cX4_hang 78 = .ok (.laload, 1) := by decide +kernel
theorem dX4_hang_79 : decode cX4_hang 79 = .ok (.lstore 8, 2) := by decide +kernel
theorem dX4_hang_81 : decode cX4_hang 81 = .ok (.iload 7, 2) := by decide +kernel
theorem dX4_hang_83 : decode cX4_hang 83 = .ok (.iload_n 3, 1) := by decide +kernel
theorem dX4_hang_84 : decode cX4_hang 84 = .ok (.if_icmp .gt 17, 3) := by decide +kernel
theorem dX4_hang_87 : decode cX4_hang 87 = .ok (.iload 7, 2) := by decide +kernel
theorem dX4_hang_89 : decode cX4_hang 89 = .ok (.iload_n 3, 1) := by decide +kernel
theorem dX4_hang_90 : decode cX4_hang 90 = .ok (.if_icmp .ne 21, 3) := by decide +kernel
theorem dX4_hang_93 : decode cX4_hang 93 = .ok (.lload 8, 2) := by decide +kernel
theorem dX4_hang_95 : decode cX4_hang 95 = .ok (.lload 4, 2) := by decide +kernel
theorem dX4_hang_97 : decode cX4_hang 97 = .ok (.lcmp, 1) := by decide +kernel
theorem dX4_hang_98 : decode cX4_hang 98 = .ok (.ifCond .le 13, 3) := by decide +kernel
theorem dX4_hang_101 : decode cX4_hang 101 = .ok (.iload 6, 2) := by decide +kernel
theorem dX4_hang_103 : decode cX4_hang 103 = .ok (.istore_n 2, 1) := by decide +kernel
theorem dX4_hang_104 : decode cX4_hang 104 = .ok (.iload 7, 2) := by decide +kernel
theorem dX4_hang_106 : decode cX4_hang 106 = .ok (.istore_n 3, 1) := by decide +kernel
theorem dX4_hang_107 : decode cX4_hang 107 = .ok (.lload 8, 2) := by decide +kernel
theorem dX4_hang_109 : decode cX4_hang 109 = .ok (.lstore 4, 2) := by decide +kernel
theorem dX4_hang_111 : decode cX4_hang 111 = .ok (.iinc 6 1, 3) := by decide +kernel
theorem dX4_hang_114 : decode cX4_hang 114 = .ok (.goto (-77), 3) := by decide +kernel
theorem dX4_hang_117 : decode cX4_hang 117 = .ok (.iload_n 2, 1) := by decide +kernel
theorem dX4_hang_118 : decode cX4_hang 118 = .ok (.ireturn, 1) := by decide +kernel
theorem dX4_middle_0 : decode cX4_middle 0 = .ok (.iload_n 2, 1) := by decide +kernel
theorem dX4_middle_1 : decode cX4_middle 1 = .ok (.invokestatic 95, 3) := by decide +kernel
theorem dX4_middle_4 : decode cX4_middle 4 = .ok (.ifCond .eq 9, 3) := by decide +kernel
theorem dX4_middle_7 : decode cX4_middle 7 = .ok (.aload_n 0, 1) := by decide +kernel
theorem dX4_middle_8 : decode cX4_middle 8 = .ok (.iconst (-1), 1) := by decide +kernel
theorem dX4_middle_9 : decode cX4_middle 9 = .ok (.invokevirtual 51, 3) := by decide +kernel
theorem dX4_middle_12 : decode cX4_middle 12 = .ok (.ireturn, 1) := by decide +kernel
theorem dX4_middle_13 : decode cX4_middle 13 = .ok (.iload_n 1, 1) := by decide +kernel
theorem dX4_middle_14 : decode cX4_middle 14 = .ok (.iconst 1, 1) := by decide +kernel
theorem dX4_middle_15 : decode cX4_middle 15 = .ok (.if_icmp .ge 10, 3) := by decide +kernel
theorem dX4_middle_18 : decode cX4_middle 18 = .ok (.aload_n 0, 1) := by decide +kernel
theorem dX4_middle_19 : decode cX4_middle 19 = .ok (.bipush (-4), 2) := by decide +kernel
theorem dX4_middle_21 : decode cX4_middle 21 = .ok (.invokevirtual 51, 3) := by decide +kernel
theorem dX4_middle_24 : decode cX4_middle 24 = .ok (.ireturn, 1) := by decide +kernel
theorem dX4_middle_25 : decode cX4_middle 25 = .ok (.iload_n 1, 1) := by decide +kernel
theorem dX4_middle_26 : decode cX4_middle 26 = .ok (.bipush 40, 2) := by decide +kernel
theorem dX4_middle_28 : decode cX4_middle 28 = .ok (.if_icmp .le 10, 3) := by decide +kernel
theorem dX4_middle_31 : decode cX4_middle 31 = .ok (.aload_n 0, 1) := by decide +kernel
theorem dX4_middle_32 : decode cX4_middle 32 = .ok (.bipush (-6), 2) := by decide +kernel
theorem dX4_middle_34 : decode cX4_middle 34 = .ok (.invokevirtual 51, 3) := by decide +kernel
theorem dX4_middle_37 : decode cX4_middle 37 = .ok (.ireturn, 1) := by decide +kernel
theorem dX4_middle_38 : decode cX4_middle 38 = .ok (.aload_n 0, 1) := by decide +kernel
theorem dX4_middle_39 : decode cX4_middle 39 = .ok (.getfield 10, 3) := by decide +kernel
theorem dX4_middle_42 : decode cX4_middle 42 = .ok (.getfield 164, 3) := by decide +kernel
theorem dX4_middle_45 : decode cX4_middle 45 = .ok (.invokestatic 168, 3) := by decide +kernel
theorem dX4_middle_48 : decode cX4_middle 48 = .ok (.istore_n 3, 1) := by decide +kernel
theorem dX4_middle_49 : decode cX4_middle 49 = .ok (.bipush (-9), 2) := by decide +kernel
theorem dX4_middle_51 : decode cX4_middle 51 = .ok (.istore 4, 2) := by decide +kernel
theorem dX4_middle_53 : decode cX4_middle 53 = .ok (.sipush 192, 3) := by decide +kernel
theorem dX4_middle_56 : decode cX4_middle 56 = .ok (.istore 5, 2) := by decide +kernel
theorem dX4_middle_58 : decode cX4_middle 58 = .ok (.iconst 0, 1) := by decide +kernel
theorem dX4_middle_59 : decode cX4_middle 59 = .ok (.istore 6, 2) := by decide +kernel
theorem dX4_middle_61 : decode cX4_middle 61 = .ok (.iload 6, 2) := by decide +kernel
theorem dX4_middle_63 : decode cX4_middle 63 = .ok (.bipush 48, 2) := by decide +kernel
theorem dX4_middle_65 : decode cX4_middle 65 = .ok (.iload_n 1, 1) := by decide +kernel
theorem dX4_middle_66 : decode cX4_middle 66 = .ok (.isub, 1) := by decide +kernel
theorem dX4_middle_67 : decode cX4_middle 67 = .ok (.if_icmp .gt 53, 3) := by decide +kernel
theorem dX4_middle_70 : decode cX4_middle 70 = .ok (.iconst 2, 1) := by decide +kernel
theorem dX4_middle_71 : decode cX4_middle 71 = .ok (.iload 6, 2) := by decide +kernel
theorem dX4_middle_73 : decode cX4_middle 73 = .ok (.imul, 1) := by decide +kernel
theorem dX4_middle_74 : decode cX4_middle 74 = .ok (.iload_n 1, 1) := by decide +kernel
theorem dX4_middle_75 : decode cX4_middle 75 = .ok (.iadd, 1) := by decide +kernel
theorem dX4_middle_76 : decode cX4_middle 76 = .ok (.iconst 2, 1) := by decide +kernel
theorem dX4_middle_77 : decode cX4_middle 77 = .ok (.iload_n 2, 1) := by decide +kernel
theorem dX4_middle_78 : decode cX4_middle 78 = .ok (.imul, 1) := by decide +kernel
theorem dX4_middle_79 : decode cX4_middle 79 = .ok (.isub, 1) := by decide +kernel
theorem dX4_middle_80 : decode cX4_middle 80 = .ok (.invokestatic 215, 3) := by decide +kernel
theorem dX4_middle_83 : decode cX4_middle 83 = .ok (.istore 7, 2) := by decide +kernel
theorem dX4_middle_85 : decode cX4_middle 85 = .ok (.aload_n 0, 1) := by decide +kernel
theorem dX4_middle_86 : decode cX4_middle 86 = .ok (.getfield 10, 3) := by decide +kernel
theorem dX4_middle_89 : decode cX4_middle 89 = .ok (.iload 6, 2) := by decide +kernel
theorem dX4_middle_91 : decode cX4_middle 91 = .ok (.iload_n 1, 1) := by decide +kernel
theorem dX4_middle_92 : decode cX4_middle 92 = .ok (.invokevirtual 160, 3) := by decide +kernel
theorem dX4_middle_95 : decode cX4_middle 95 = .ok (.iload_n 3, 1) := by decide +kernel
theorem dX4_middle_96 : decode cX4_middle 96 = .ok (.if_icmp .ne 18, 3) := by decide +kernel
theorem dX4_middle_99 : decode cX4_middle 99 = .ok (.iload 7, 2) := by decide +kernel
theorem dX4_middle_101 : decode cX4_middle 101 = .ok (.iload 5, 2) := by decide +kernel
theorem dX4_middle_103 : decode cX4_middle 103 = .ok (.if_icmp .ge 11, 3) := by decide +kernel
theorem dX4_middle_106 : decode cX4_middle 106 = .ok (.iload 6, 2) := by decide +kernel
theorem dX4_middle_108 : decode cX4_middle 108 = .ok (.istore 4, 2) := by decide +kernel
theorem dX4_middle_110 : decode cX4_middle 110 = .ok (.iload 7, 2) := by decide +kernel
theorem dX4_middle_112 : decode cX4_middle 112 = .ok (.istore 5, 2) := by decide +kernel
theorem dX4_middle_114 : decode cX4_middle 114 = .ok (.iinc 6 1, 3) := by decide +kernel
theorem dX4_middle_117 : decode cX4_middle 117 = .ok (.goto (-56), 3) := by decide +kernel
theorem dX4_middle_120 : decode cX4_middle 120 = .ok (.iload 4, 2) := by decide +kernel
theorem dX4_middle_122 : decode cX4_middle 122 = .ok (.ireturn, 1) := by decide +kernel
theorem dX4_two_0 : decode cX4_two 0 = .ok (.iload_n 1, 1) := by decide +kernel
theorem dX4_two_1 : decode cX4_two 1 = .ok (.iconst 1, 1) := by decide +kernel
theorem dX4_two_2 : decode cX4_two 2 = .ok (.if_icmp .ge 10, 3) := by decide +kernel
theorem dX4_two_5 : decode cX4_two 5 = .ok (.aload_n 0, 1) := by decide +kernel
theorem dX4_two_6 : decode cX4_two 6 = .ok (.bipush (-4), 2) := by decide +kernel
theorem dX4_two_8 : decode cX4_two 8 = .ok (.invokevirtual 51, 3) := by decide +kernel
theorem dX4_two_11 : decode cX4_two 11 = .ok (.ireturn, 1) := by decide +kernel
theorem dX4_two_12 : decode cX4_two 12 = .ok (.iload_n 1, 1) := by decide +kernel
theorem dX4_two_13 : decode cX4_two 13 = .ok (.bipush 40, 2) := by decide +kernel
theorem dX4_two_15 : decode cX4_two 15 = .ok (.if_icmp .le 10, 3) := by decide +kernel
theorem dX4_two_18 : decode cX4_two 18 = .ok (.aload_n 0, 1) := by decide +kernel
theorem dX4_two_19 : decode cX4_two 19 = .ok (.bipush (-6), 2) := by decide +kernel
theorem dX4_two_21 : decode cX4_two 21 = .ok (.invokevirtual 51, 3) := by decide +kernel
theorem dX4_two_24 : decode cX4_two 24 = .ok (.ireturn, 1) := by decide +kernel
theorem dX4_two_25 : decode cX4_two 25 = .ok (.aload_n 0, 1) := by decide +kernel
theorem dX4_two_26 : decode cX4_two 26 = .ok (.getfield 10, 3) := by decide +kernel
theorem dX4_two_29 : decode cX4_two 29 = .ok (.iload_n 1, 1) := by decide +kernel
theorem dX4_two_30 : decode cX4_two 30 = .ok (.invokevirtual 220, 3) := by decide +kernel
theorem dX4_two_33 : decode cX4_two 33 = .ok (.ireturn, 1) := by decide +kernel
theorem dX4_both_0 : decode cX4_both 0 = .ok (.iload_n 1, 1) := by decide +kernel
theorem dX4_both_1 : decode cX4_both 1 = .ok (.iconst 1, 1) := by decide +kernel
theorem dX4_both_2 : decode cX4_both 2 = .ok (.if_icmp .ge 10, 3) := by decide +kernel
theorem dX4_both_5 : decode cX4_both 5 = .ok (.aload_n 0, 1) := by decide +kernel
theorem dX4_both_6 : decode cX4_both 6 = .ok (.bipush (-4), 2) := by decide +kernel
theorem dX4_both_8 : decode cX4_both 8 = .ok (.invokevirtual 105, 3) := by decide +kernel
theorem dX4_both_11 : decode cX4_both 11 = .ok (.lreturn, 1) := by decide +kernel
theorem dX4_both_12 : decode cX4_both 12 = .ok (.iload_n 1, 1) := by decide +kernel
theorem dX4_both_13 : decode cX4_both 13 = .ok (.bipush 40, 2) := by decide +kernel
theorem dX4_both_15 : decode cX4_both 15 = .ok (.if_icmp .le 10, 3) := by decide +kernel
theorem dX4_both_18 : decode cX4_both 18 = .ok (.aload_n 0, 1) := by decide +kernel
theorem dX4_both_19 : decode cX4_both 19 = .ok (.bipush (-6), 2) := by decide +kernel
theorem dX4_both_21 : decode cX4_both 21 = .ok (.invokevirtual 105, 3) := by decide +kernel
theorem dX4_both_24 : decode cX4_both 24 = .ok (.lreturn, 1) := by decide +kernel
theorem dX4_both_25 : decode cX4_both 25 = .ok (.iload_n 2, 1) := by decide +kernel
theorem dX4_both_26 : decode cX4_both 26 = .ok (.invokestatic 173, 3) := by decide +kernel
theorem dX4_both_29 : decode cX4_both 29 = .ok (.ifCond .eq 10, 3) := by decide +kernel
theorem dX4_both_32 : decode cX4_both 32 = .ok (.aload_n 0, 1) := by decide +kernel
theorem dX4_both_33 : decode cX4_both 33 = .ok (.bipush (-2), 2) := by decide +kernel
theorem dX4_both_35 : decode cX4_both 35 = .ok (.invokevirtual 105, 3) := by decide +kernel
theorem dX4_both_38 : decode cX4_both 38 = .ok (.lreturn, 1) := by decide +kernel
theorem dX4_both_39 : decode cX4_both 39 = .ok (.aload_n 0, 1) := by decide +kernel
theorem dX4_both_40 : decode cX4_both 40 = .ok (.getfield 10, 3) := by decide +kernel
theorem dX4_both_43 : decode cX4_both 43 = .ok (.iload_n 1, 1) := by decide +kernel
theorem dX4_both_44 : decode cX4_both 44 = .ok (.invokevirtual 220, 3) := by decide +kernel
theorem dX4_both_47 : decode cX4_both 47 = .ok (.istore_n 3, 1) := by decide +kernel
theorem dX4_both_48 : decode cX4_both 48 = .ok (.aload_n 0, 1) := by decide +kernel
theorem dX4_both_49 : decode cX4_both 49 = .ok (.getfield 10, 3) := by decide +kernel
theorem dX4_both_52 : decode cX4_both 52 = .ok (.iload_n 3, 1) := by decide +kernel
theorem dX4_both_53 : decode cX4_both 53 = .ok (.iload_n 3, 1) := by decide +kernel
theorem dX4_both_54 : decode cX4_both 54 = .ok (.iload_n 1, 1) := by decide +kernel
theorem dX4_both_55 : decode cX4_both 55 = .ok (.iadd, 1) := by decide +kernel
theorem dX4_both_56 : decode cX4_both 56 = .ok (.invokevirtual 223, 3) := by decide +kernel
theorem dX4_both_59 : decode cX4_both 59 = .ok (.aload_n 0, 1) := by decide +kernel
theorem dX4_both_60 : decode cX4_both 60 = .ok (.getfield 10, 3) := by decide +kernel
theorem dX4_both_63 : decode cX4_both 63 = .ok (.getfield 179, 3) := by decide +kernel
theorem dX4_both_66 : decode cX4_both 66 = .ok (.iload_n 2, 1) := by decide +kernel
theorem dX4_both_67 : decode cX4_both 67 = .ok (.invokestatic 182, 3) := by decide +kernel
theorem dX4_both_70 : decode cX4_both 70 = .ok (.lreturn, 1) := by decide +kernel
theorem dX4_wire_0 : decode cX4_wire 0 = .ok (.iload_n 1, 1) := by decide +kernel
theorem dX4_wire_1 : decode cX4_wire 1 = .ok (.iconst 1, 1) := by decide +kernel
theorem dX4_wire_2 : decode cX4_wire 2 = .ok (.if_icmp .lt 7, 3) := by decide +kernel
theorem dX4_wire_5 : decode cX4_wire 5 = .ok (.iload_n 2, 1) := by decide +kernel
theorem dX4_wire_6 : decode cX4_wire 6 = .ok (.ifCond .ge 10, 3) := by decide +kernel
theorem dX4_wire_9 : decode cX4_wire 9 = .ok (.aload_n 0, 1) := by decide +kernel
theorem dX4_wire_10 : decode cX4_wire 10 = .ok (.bipush (-4), 2) := by decide +kernel
theorem dX4_wire_12 : decode cX4_wire 12 = .ok (.invokevirtual 51, 3) := by decide +kernel
theorem dX4_wire_15 : decode cX4_wire 15 = .ok (.ireturn, 1) := by decide +kernel
theorem dX4_wire_16 : decode cX4_wire 16 = .ok (.iload_n 1, 1) := by decide +kernel
theorem dX4_wire_17 : decode cX4_wire 17 = .ok (.bipush 40, 2) := by decide +kernel
theorem dX4_wire_19 : decode cX4_wire 19 = .ok (.if_icmp .gt 9, 3) := by decide +kernel
theorem dX4_wire_22 : decode cX4_wire 22 = .ok (.iload_n 2, 1) := by decide +kernel
theorem dX4_wire_23 : decode cX4_wire 23 = .ok (.bipush 40, 2) := by decide +kernel
theorem dX4_wire_25 : decode cX4_wire 25 = .ok (.if_icmp .le 10, 3) := by decide +kernel
theorem dX4_wire_28 : decode cX4_wire 28 = .ok (.aload_n 0, 1) := by decide +kernel
theorem dX4_wire_29 : decode cX4_wire 29 = .ok (.bipush (-6), 2) := by decide +kernel
theorem dX4_wire_31 : decode cX4_wire 31 = .ok (.invokevirtual 51, 3) := by decide +kernel
theorem dX4_wire_34 : decode cX4_wire 34 = .ok (.ireturn, 1) := by decide +kernel
theorem dX4_wire_35 : decode cX4_wire 35 = .ok (.iload_n 1, 1) := by decide +kernel
theorem dX4_wire_36 : decode cX4_wire 36 = .ok (.iload_n 1, 1) := by decide +kernel
theorem dX4_wire_37 : decode cX4_wire 37 = .ok (.imul, 1) := by decide +kernel
theorem dX4_wire_38 : decode cX4_wire 38 = .ok (.iconst 4, 1) := by decide +kernel
theorem dX4_wire_39 : decode cX4_wire 39 = .ok (.iload_n 2, 1) := by decide +kernel
theorem dX4_wire_40 : decode cX4_wire 40 = .ok (.imul, 1) := by decide +kernel
theorem dX4_wire_41 : decode cX4_wire 41 = .ok (.iload_n 2, 1) := by decide +kernel
theorem dX4_wire_42 : decode cX4_wire 42 = .ok (.imul, 1) := by decide +kernel
theorem dX4_wire_43 : decode cX4_wire 43 = .ok (.iadd, 1) := by decide +kernel
theorem dX4_wire_44 : decode cX4_wire 44 = .ok (.istore_n 3, 1) := by decide +kernel
theorem dX4_wire_45 : decode cX4_wire 45 = .ok (.iconst 1, 1) := by decide +kernel
theorem dX4_wire_46 : decode cX4_wire 46 = .ok (.istore 4, 2) := by decide +kernel
theorem dX4_wire_48 : decode cX4_wire 48 = .ok (.iload 4, 2) := by decide +kernel
theorem dX4_wire_50 : decode cX4_wire 50 = .ok (.iload_n 3, 1) := by decide +kernel
theorem dX4_wire_51 : decode cX4_wire 51 = .ok (.if_icmp .ge 18, 3) := by decide +kernel
theorem dX4_wire_54 : decode cX4_wire 54 = .ok (.iload 4, 2) := by decide +kernel
theorem dX4_wire_56 : decode cX4_wire 56 = .ok (.iload 4, 2) := by decide +kernel
theorem dX4_wire_58 : decode cX4_wire 58 = .ok (.imul, 1) := by decide +kernel
theorem dX4_wire_59 : decode cX4_wire 59 = .ok (.iload_n 3, 1) := by decide +kernel
theorem dX4_wire_60 : decode cX4_wire 60 = .ok (.if_icmp .ge 9, 3) := by decide +kernel
theorem dX4_wire_63 : decode cX4_wire 63 = .ok (.iinc 4 1, 3) := by decide +kernel
theorem dX4_wire_66 : decode cX4_wire 66 = .ok (.goto (-18), 3) := by decide +kernel
theorem dX4_wire_69 : decode cX4_wire 69 = .ok (.iload 4, 2) := by decide +kernel
theorem dX4_wire_71 : decode cX4_wire 71 = .ok (.ireturn, 1) := by decide +kernel
theorem dX4_twin_0 : decode cX4_twin 0 = .ok (.iload_n 1, 1) := by decide +kernel
theorem dX4_twin_1 : decode cX4_twin 1 = .ok (.invokestatic 95, 3) := by decide +kernel
theorem dX4_twin_4 : decode cX4_twin 4 = .ok (.ifCond .eq 9, 3) := by decide +kernel
theorem dX4_twin_7 : decode cX4_twin 7 = .ok (.aload_n 0, 1) := by decide +kernel
theorem dX4_twin_8 : decode cX4_twin 8 = .ok (.iconst (-1), 1) := by decide +kernel
theorem dX4_twin_9 : decode cX4_twin 9 = .ok (.invokevirtual 51, 3) := by decide +kernel
theorem dX4_twin_12 : decode cX4_twin 12 = .ok (.ireturn, 1) := by decide +kernel
theorem dX4_twin_13 : decode cX4_twin 13 = .ok (.aload_n 0, 1) := by decide +kernel
theorem dX4_twin_14 : decode cX4_twin 14 = .ok (.getfield 10, 3) := by decide +kernel
theorem dX4_twin_17 : decode cX4_twin 17 = .ok (.getfield 140, 3) := by decide +kernel
theorem dX4_twin_20 : decode cX4_twin 20 = .ok (.aload_n 0, 1) := by decide +kernel
theorem dX4_twin_21 : decode cX4_twin 21 = .ok (.getfield 10, 3) := by decide +kernel
theorem dX4_twin_24 : decode cX4_twin 24 = .ok (.getfield 227, 3) := by decide +kernel
theorem dX4_twin_27 : decode cX4_twin 27 = .ok (.bipush 47, 2) := by decide +kernel
theorem dX4_twin_29 : decode cX4_twin 29 = .ok (.iload_n 1, 1) := by decide +kernel
theorem dX4_twin_30 : decode cX4_twin 30 = .ok (.isub, 1) := by decide +kernel
theorem dX4_twin_31 : decode cX4_twin 31 = .ok (.iaload, 1) := by decide +kernel
theorem dX4_twin_32 : decode cX4_twin 32 = .ok (.iand, 1) := by decide +kernel
theorem dX4_twin_33 : decode cX4_twin 33 = .ok (.invokestatic 143, 3) := by decide +kernel
theorem dX4_twin_36 : decode cX4_twin 36 = .ok (.ireturn, 1) := by decide +kernel
theorem dX4_twinLikely_0 : decode cX4_twinLikely 0 = .ok (.iload_n 1, 1) := by decide +kernel
theorem dX4_twinLikely_1 : decode cX4_twinLikely 1 = .ok (.invokestatic 95, 3) := by decide +kernel
theorem dX4_twinLikely_4 : decode cX4_twinLikely 4 = .ok (.ifCond .ne 10, 3) := by decide +kernel
theorem dX4_twinLikely_7 : decode cX4_twinLikely 7 = .ok (.iload_n 2, 1) := by decide +kernel
theorem dX4_twinLikely_8 : decode cX4_twinLikely 8 = .ok (.invokestatic 95, 3) := by decide +kernel
theorem dX4_twinLikely_11 : decode cX4_twinLikely 11 = .ok (.ifCond .eq 9, 3) := by decide +kernel
theorem dX4_twinLikely_14 : decode cX4_twinLikely 14 = .ok (.aload_n 0, 1) := by decide +kernel
theorem dX4_twinLikely_15 : decode cX4_twinLikely 15 = .ok (.iconst (-1), 1) := by decide +kernel
theorem dX4_twinLikely_16 : decode cX4_twinLikely 16 = .ok (.invokevirtual 105, 3) := by decide +kernel
theorem dX4_twinLikely_19 : decode cX4_twinLikely 19 = .ok (.lreturn, 1) := by decide +kernel
theorem dX4_twinLikely_20 : decode cX4_twinLikely 20 = .ok (.iload_n 3, 1) := by decide +kernel
theorem dX4_twinLikely_21 : decode cX4_twinLikely 21 = .ok (.invokestatic 173, 3) := by decide +kernel
theorem dX4_twinLikely_24 : decode cX4_twinLikely 24 = .ok (.ifCond .eq 10, 3) := by decide +kernel
theorem dX4_twinLikely_27 : decode cX4_twinLikely 27 = .ok (.aload_n 0, 1) := by decide +kernel
theorem dX4_twinLikely_28 : decode cX4_twinLikely 28 = .ok (.bipush (-2), 2) := by decide +kernel
theorem dX4_twinLikely_30 : decode cX4_twinLikely 30 = .ok (.invokevirtual 105, 3) := by decide +kernel
theorem dX4_twinLikely_33 : decode cX4_twinLikely 33 = .ok (.lreturn, 1) := by decide +kernel
theorem dX4_twinLikely_34 : decode cX4_twinLikely 34 = .ok (.bipush 47, 2) := by decide +kernel
theorem dX4_twinLikely_36 : decode cX4_twinLikely 36 = .ok (.iload_n 1, 1) := by decide +kernel
theorem dX4_twinLikely_37 : decode cX4_twinLikely 37 = .ok (.isub, 1) := by decide +kernel
theorem dX4_twinLikely_38 : decode cX4_twinLikely 38 = .ok (.istore 4, 2) := by decide +kernel
theorem dX4_twinLikely_40 : decode cX4_twinLikely 40 = .ok (.aload_n 0, 1) := by decide +kernel
theorem dX4_twinLikely_41 : decode cX4_twinLikely 41 = .ok (.getfield 10, 3) := by decide +kernel
theorem dX4_twinLikely_44 : decode cX4_twinLikely 44 = .ok (.iload 4, 2) := by decide +kernel
theorem dX4_twinLikely_46 : decode cX4_twinLikely 46 = .ok (.iload_n 2, 1) := by decide +kernel
theorem dX4_twinLikely_47 : decode cX4_twinLikely 47 = .ok (.invokevirtual 223, 3) := by decide +kernel
theorem dX4_twinLikely_50 : decode cX4_twinLikely 50 = .ok (.aload_n 0, 1) := by decide +kernel
theorem dX4_twinLikely_51 : decode cX4_twinLikely 51 = .ok (.getfield 10, 3) := by decide +kernel
theorem dX4_twinLikely_54 : decode cX4_twinLikely 54 = .ok (.getfield 176, 3) := by decide +kernel
theorem dX4_twinLikely_57 : decode cX4_twinLikely 57 = .ok (.iload 4, 2) := by decide +kernel
theorem dX4_twinLikely_59 : decode cX4_twinLikely 59 = .ok (.laload, 1) := by decide +kernel
theorem dX4_twinLikely_60 : decode cX4_twinLikely 60 = .ok (.iload_n 3, 1) := by decide +kernel
theorem dX4_twinLikely_61 : decode cX4_twinLikely 61 = .ok (.invokestatic 182, 3) := by decide +kernel
theorem dX4_twinLikely_64 : decode cX4_twinLikely 64 = .ok (.lreturn, 1) := by decide +kernel
theorem dX4_row_0 : decode cX4_row 0 = .ok (.iload_n 1, 1) := by decide +kernel
theorem dX4_row_1 : decode cX4_row 1 = .ok (.ifCond .ge 10, 3) := by decide +kernel
theorem dX4_row_4 : decode cX4_row 4 = .ok (.aload_n 0, 1) := by decide +kernel
theorem dX4_row_5 : decode cX4_row 5 = .ok (.bipush (-4), 2) := by decide +kernel
theorem dX4_row_7 : decode cX4_row 7 = .ok (.invokevirtual 51, 3) := by decide +kernel
theorem dX4_row_10 : decode cX4_row 10 = .ok (.ireturn, 1) := by decide +kernel
theorem dX4_row_11 : decode cX4_row 11 = .ok (.iload_n 1, 1) := by decide +kernel
theorem dX4_row_12 : decode cX4_row 12 = .ok (.bipush 99, 2) := by decide +kernel
theorem dX4_row_14 : decode cX4_row 14 = .ok (.if_icmp .gt 15, 3) := by decide +kernel
theorem dX4_row_17 : decode cX4_row 17 = .ok (.aload_n 0, 1) := by decide +kernel
theorem dX4_row_18 : decode cX4_row 18 = .ok (.getfield 32, 3) := by decide +kernel
theorem dX4_row_21 : decode cX4_row 21 = .ok (.getfield 230, 3) := by decide +kernel
theorem dX4_row_24 : decode cX4_row 24 = .ok (.bipush 8, 2) := by decide +kernel
theorem dX4_row_26 : decode cX4_row 26 = .ok (.if_icmp .lt 10, 3) := by decide +kernel
theorem dX4_row_29 : decode cX4_row 29 = .ok (.aload_n 0, 1) := by decide +kernel
theorem dX4_row_30 : decode cX4_row 30 = .ok (.bipush (-6), 2) := by decide +kernel
theorem dX4_row_32 : decode cX4_row 32 = .ok (.invokevirtual 51, 3) := by decide +kernel
theorem dX4_row_35 : decode cX4_row 35 = .ok (.ireturn, 1) := by decide +kernel
theorem dX4_row_36 : decode cX4_row 36 = .ok (.aload_n 0, 1) := by decide +kernel
theorem dX4_row_37 : decode cX4_row 37 = .ok (.getfield 32, 3) := by decide +kernel
theorem dX4_row_40 : decode cX4_row 40 = .ok (.getfield 231, 3) := by decide +kernel
theorem dX4_row_43 : decode cX4_row 43 = .ok (.aload_n 0, 1) := by decide +kernel
theorem dX4_row_44 : decode cX4_row 44 = .ok (.getfield 32, 3) := by decide +kernel
theorem dX4_row_47 : decode cX4_row 47 = .ok (.getfield 230, 3) := by decide +kernel
theorem dX4_row_50 : decode cX4_row 50 = .ok (.iload_n 1, 1) := by decide +kernel
theorem dX4_row_51 : decode cX4_row 51 = .ok (.iastore, 1) := by decide +kernel
theorem dX4_row_52 : decode cX4_row 52 = .ok (.aload_n 0, 1) := by decide +kernel
theorem dX4_row_53 : decode cX4_row 53 = .ok (.getfield 32, 3) := by decide +kernel
theorem dX4_row_56 : decode cX4_row 56 = .ok (.dup, 1) := by decide +kernel
theorem dX4_row_57 : decode cX4_row 57 = .ok (.getfield 230, 3) := by decide +kernel
theorem dX4_row_60 : decode cX4_row 60 = .ok (.iconst 1, 1) := by decide +kernel
theorem dX4_row_61 : decode cX4_row 61 = .ok (.iadd, 1) := by decide +kernel
theorem dX4_row_62 : decode cX4_row 62 = .ok (.putfield 230, 3) := by decide +kernel
theorem dX4_row_65 : decode cX4_row 65 = .ok (.aload_n 0, 1) := by decide +kernel
theorem dX4_row_66 : decode cX4_row 66 = .ok (.getfield 32, 3) := by decide +kernel
theorem dX4_row_69 : decode cX4_row 69 = .ok (.getfield 230, 3) := by decide +kernel
theorem dX4_row_72 : decode cX4_row 72 = .ok (.ireturn, 1) := by decide +kernel
theorem dX4_old_0 : decode cX4_old 0 = .ok (.aload_n 0, 1) := by decide +kernel
theorem dX4_old_1 : decode cX4_old 1 = .ok (.getfield 32, 3) := by decide +kernel
theorem dX4_old_4 : decode cX4_old 4 = .ok (.aload_n 0, 1) := by decide +kernel
theorem dX4_old_5 : decode cX4_old 5 = .ok (.getfield 10, 3) := by decide +kernel
theorem dX4_old_8 : decode cX4_old 8 = .ok (.aload_n 0, 1) := by decide +kernel
theorem dX4_old_9 : decode cX4_old 9 = .ok (.getfield 32, 3) := by decide +kernel
theorem dX4_old_12 : decode cX4_old 12 = .ok (.getfield 230, 3) := by decide +kernel
theorem dX4_old_15 : decode cX4_old 15 = .ok (.invokevirtual 234, 3) := by decide +kernel
theorem dX4_old_18 : decode cX4_old 18 = .ok (.ireturn, 1) := by decide +kernel
theorem dX4_happened_0 : decode cX4_happened 0 = .ok (.iload_n 1, 1) := by decide +kernel
theorem dX4_happened_1 : decode cX4_happened 1 = .ok (.invokestatic 113, 3) := by decide +kernel
theorem dX4_happened_4 : decode cX4_happened 4 = .ok (.ifCond .ne 10, 3) := by decide +kernel
theorem dX4_happened_7 : decode cX4_happened 7 = .ok (.iload_n 2, 1) := by decide +kernel
theorem dX4_happened_8 : decode cX4_happened 8 = .ok (.invokestatic 173, 3) := by decide +kernel
theorem dX4_happened_11 : decode cX4_happened 11 = .ok (.ifCond .eq 10, 3) := by decide +kernel
theorem dX4_happened_14 : decode cX4_happened 14 = .ok (.aload_n 0, 1) := by decide +kernel
theorem dX4_happened_15 : decode cX4_happened 15 = .ok (.bipush (-2), 2) := by decide +kernel
theorem dX4_happened_17 : decode cX4_happened 17 = .ok (.invokevirtual 105, 3) := by decide +kernel
theorem dX4_happened_20 : decode cX4_happened 20 = .ok (.lreturn, 1) := by decide +kernel
theorem dX4_happened_21 : decode cX4_happened 21 = .ok (.aload_n 0, 1) := by decide +kernel
theorem dX4_happened_22 : decode cX4_happened 22 = .ok (.getfield 32, 3) := by decide +kernel
theorem dX4_happened_25 : decode cX4_happened 25 = .ok (.aload_n 0, 1) := by decide +kernel
theorem dX4_happened_26 : decode cX4_happened 26 = .ok (.getfield 10, 3) := by decide +kernel
theorem dX4_happened_29 : decode cX4_happened 29 = .ok (.iload_n 1, 1) := by decide +kernel
theorem dX4_happened_30 : decode cX4_happened 30 = .ok (.invokevirtual 238, 3) := by decide +kernel
theorem dX4_happened_33 : decode cX4_happened 33 = .ok (.aload_n 0, 1) := by decide +kernel
theorem dX4_happened_34 : decode cX4_happened 34 = .ok (.getfield 32, 3) := by decide +kernel
theorem dX4_happened_37 : decode cX4_happened 37 = .ok (.aload_n 0, 1) := by decide +kernel
theorem dX4_happened_38 : decode cX4_happened 38 = .ok (.getfield 10, 3) := by decide +kernel
theorem dX4_happened_41 : decode cX4_happened 41 = .ok (.invokevirtual 242, 3) := by decide +kernel
theorem dX4_happened_44 : decode cX4_happened 44 = .ok (.iload_n 2, 1) := by decide +kernel
theorem dX4_happened_45 : decode cX4_happened 45 = .ok (.invokestatic 182, 3) := by decide +kernel
theorem dX4_happened_48 : decode cX4_happened 48 = .ok (.lreturn, 1) := by decide +kernel
theorem dX4_judge_0 : decode cX4_judge 0 = .ok (.bipush (-9), 2) := by decide +kernel
theorem dX4_judge_2 : decode cX4_judge 2 = .ok (.istore_n 1, 1) := by decide +kernel
theorem dX4_judge_3 : decode cX4_judge 3 = .ok (.iconst 0, 1) := by decide +kernel
theorem dX4_judge_4 : decode cX4_judge 4 = .ok (.istore_n 2, 1) := by decide +kernel
theorem dX4_judge_5 : decode cX4_judge 5 = .ok (.iload_n 2, 1) := by decide +kernel
theorem dX4_judge_6 : decode cX4_judge 6 = .ok (.aload_n 0, 1) := by decide +kernel
theorem dX4_judge_7 : decode cX4_judge 7 = .ok (.getfield 32, 3) := by decide +kernel
theorem dX4_judge_10 : decode cX4_judge 10 = .ok (.getfield 230, 3) := by decide +kernel
theorem dX4_judge_13 : decode cX4_judge 13 = .ok (.if_icmp .ge 34, 3) := by decide +kernel
theorem dX4_judge_16 : decode cX4_judge 16 = .ok (.iload_n 1, 1) := by decide +kernel
theorem dX4_judge_17 : decode cX4_judge 17 = .ok (.bipush (-9), 2) := by decide +kernel
theorem dX4_judge_19 : decode cX4_judge 19 = .ok (.if_icmp .ne 28, 3) := by decide +kernel
theorem dX4_judge_22 : decode cX4_judge 22 = .ok (.aload_n 0, 1) := by decide +kernel
theorem dX4_judge_23 : decode cX4_judge 23 = .ok (.getfield 32, 3) := by decide +kernel
theorem dX4_judge_26 : decode cX4_judge 26 = .ok (.aload_n 0, 1) := by decide +kernel
theorem dX4_judge_27 : decode cX4_judge 27 = .ok (.getfield 10, 3) := by decide +kernel
theorem dX4_judge_30 : decode cX4_judge 30 = .ok (.iload_n 2, 1) := by decide +kernel
theorem dX4_judge_31 : decode cX4_judge 31 = .ok (.iconst 1, 1) := by decide +kernel
theorem dX4_judge_32 : decode cX4_judge 32 = .ok (.iadd, 1) := by decide +kernel
theorem dX4_judge_33 : decode cX4_judge 33 = .ok (.invokevirtual 234, 3) := by decide +kernel
theorem dX4_judge_36 : decode cX4_judge 36 = .ok (.ifCond .ne 5, 3) := by decide +kernel
theorem dX4_judge_39 : decode cX4_judge 39 = .ok (.iload_n 2, 1) := by decide +kernel
theorem dX4_judge_40 : decode cX4_judge 40 = .ok (.istore_n 1, 1) := by decide +kernel
theorem dX4_judge_41 : decode cX4_judge 41 = .ok (.iinc 2 1, 3) := by decide +kernel
theorem dX4_judge_44 : decode cX4_judge 44 = .ok (.goto (-39), 3) := by decide +kernel
theorem dX4_judge_47 : decode cX4_judge 47 = .ok (.aload_n 0, 1) := by decide +kernel
theorem dX4_judge_48 : decode cX4_judge 48 = .ok (.getfield 32, 3) := by decide +kernel
theorem dX4_judge_51 : decode cX4_judge 51 = .ok (.iconst 0, 1) := by decide +kernel
theorem dX4_judge_52 : decode cX4_judge 52 = .ok (.putfield 230, 3) := by decide +kernel
theorem dX4_judge_55 : decode cX4_judge 55 = .ok (.iload_n 1, 1) := by decide +kernel
theorem dX4_judge_56 : decode cX4_judge 56 = .ok (.ireturn, 1) := by decide +kernel
theorem dX4_lots_0 : decode cX4_lots 0 = .ok (.iload_n 1, 1) := by decide +kernel
theorem dX4_lots_1 : decode cX4_lots 1 = .ok (.iconst 1, 1) := by decide +kernel
theorem dX4_lots_2 : decode cX4_lots 2 = .ok (.if_icmp .ge 10, 3) := by decide +kernel
theorem dX4_lots_5 : decode cX4_lots 5 = .ok (.aload_n 0, 1) := by decide +kernel
theorem dX4_lots_6 : decode cX4_lots 6 = .ok (.bipush (-4), 2) := by decide +kernel
theorem dX4_lots_8 : decode cX4_lots 8 = .ok (.invokevirtual 51, 3) := by decide +kernel
theorem dX4_lots_11 : decode cX4_lots 11 = .ok (.ireturn, 1) := by decide +kernel
theorem dX4_lots_12 : decode cX4_lots 12 = .ok (.iload_n 1, 1) := by decide +kernel
theorem dX4_lots_13 : decode cX4_lots 13 = .ok (.bipush 30, 2) := by decide +kernel
theorem dX4_lots_15 : decode cX4_lots 15 = .ok (.if_icmp .le 10, 3) := by decide +kernel
theorem dX4_lots_18 : decode cX4_lots 18 = .ok (.aload_n 0, 1) := by decide +kernel
theorem dX4_lots_19 : decode cX4_lots 19 = .ok (.bipush (-6), 2) := by decide +kernel
theorem dX4_lots_21 : decode cX4_lots 21 = .ok (.invokevirtual 51, 3) := by decide +kernel
theorem dX4_lots_24 : decode cX4_lots 24 = .ok (.ireturn, 1) := by decide +kernel
theorem dX4_lots_25 : decode cX4_lots 25 = .ok (.iconst 0, 1) := by decide +kernel
theorem dX4_lots_26 : decode cX4_lots 26 = .ok (.istore_n 3, 1) := by decide +kernel
theorem dX4_lots_27 : decode cX4_lots 27 = .ok (.iload_n 2, 1) := by decide +kernel
theorem dX4_lots_28 : decode cX4_lots 28 = .ok (.istore 4, 2) := by decide +kernel
theorem dX4_lots_30 : decode cX4_lots 30 = .ok (.iconst 0, 1) := by decide +kernel
theorem dX4_lots_31 : decode cX4_lots 31 = .ok (.istore 5, 2) := by decide +kernel
theorem dX4_lots_33 : decode cX4_lots 33 = .ok (.iload 5, 2) := by decide +kernel
theorem dX4_lots_35 : decode cX4_lots 35 = .ok (.iload_n 1, 1) := by decide +kernel
theorem dX4_lots_36 : decode cX4_lots 36 = .ok (.if_icmp .ge 48, 3) := by decide +kernel
theorem dX4_lots_39 : decode cX4_lots 39 = .ok (.iload 4, 2) := by decide +kernel
theorem dX4_lots_41 : decode cX4_lots 41 = .ok (.ldc 246, 2) := by decide +kernel
theorem dX4_lots_43 : decode cX4_lots 43 = .ok (.imul, 1) := by decide +kernel
theorem dX4_lots_44 : decode cX4_lots 44 = .ok (.ldc 247, 2) := by decide +kernel
theorem dX4_lots_46 : decode cX4_lots 46 = .ok (.iadd, 1) := by decide +kernel
theorem dX4_lots_47 : decode cX4_lots 47 = .ok (.istore 4, 2) := by decide +kernel
theorem dX4_lots_49 : decode cX4_lots 49 = .ok (.iload_n 3, 1) := by decide +kernel
theorem dX4_lots_50 : decode cX4_lots 50 = .ok (.aload_n 0, 1) := by decide +kernel
theorem dX4_lots_51 : decode cX4_lots 51 = .ok (.getfield 10, 3) := by decide +kernel
theorem dX4_lots_54 : decode cX4_lots 54 = .ok (.iload 4, 2) := by decide +kernel
theorem dX4_lots_56 : decode cX4_lots 56 = .ok (.ldc 248, 2) := by decide +kernel
theorem dX4_lots_58 : decode cX4_lots 58 = .ok (.iand, 1) := by decide +kernel
theorem dX4_lots_59 : decode cX4_lots 59 = .ok (.sipush 256, 3) := by decide +kernel
theorem dX4_lots_62 : decode cX4_lots 62 = .ok (.idiv, 1) := by decide +kernel
theorem dX4_lots_63 : decode cX4_lots 63 = .ok (.aload_n 0, 1) := by decide +kernel
theorem dX4_lots_64 : decode cX4_lots 64 = .ok (.getfield 10, 3) := by decide +kernel
theorem dX4_lots_67 : decode cX4_lots 67 = .ok (.getfield 249, 3) := by decide +kernel
theorem dX4_lots_70 : decode cX4_lots 70 = .ok (.invokestatic 252, 3) := by decide +kernel
theorem dX4_lots_73 : decode cX4_lots 73 = .ok (.invokevirtual 255, 3) := by decide +kernel
theorem dX4_lots_76 : decode cX4_lots 76 = .ok (.iadd, 1) := by decide +kernel
theorem dX4_lots_77 : decode cX4_lots 77 = .ok (.istore_n 3, 1) := by decide +kernel
theorem dX4_lots_78 : decode cX4_lots 78 = .ok (.iinc 5 1, 3) := by decide +kernel
theorem dX4_lots_81 : decode cX4_lots 81 = .ok (.goto (-48), 3) := by decide +kernel
theorem dX4_lots_84 : decode cX4_lots 84 = .ok (.iload_n 3, 1) := by decide +kernel
theorem dX4_lots_85 : decode cX4_lots 85 = .ok (.ireturn, 1) := by decide +kernel
theorem dX4_image_0 : decode cX4_image 0 = .ok (.aload_n 0, 1) := by decide +kernel
theorem dX4_image_1 : decode cX4_image 1 = .ok (.getfield 16, 3) := by decide +kernel
theorem dX4_image_4 : decode cX4_image 4 = .ok (.aload_n 0, 1) := by decide +kernel
theorem dX4_image_5 : decode cX4_image 5 = .ok (.getfield 10, 3) := by decide +kernel
theorem dX4_image_8 : decode cX4_image 8 = .ok (.invokevirtual 70, 3) := by decide +kernel
theorem dX4_image_11 : decode cX4_image 11 = .ok (.aload_n 0, 1) := by decide +kernel
theorem dX4_image_12 : decode cX4_image 12 = .ok (.iconst 1, 1) := by decide +kernel
theorem dX4_image_13 : decode cX4_image 13 = .ok (.putfield 47, 3) := by decide +kernel
theorem dX4_image_16 : decode cX4_image 16 = .ok (.aload_n 0, 1) := by decide +kernel
theorem dX4_image_17 : decode cX4_image 17 = .ok (.getfield 10, 3) := by decide +kernel
theorem dX4_image_20 : decode cX4_image 20 = .ok (.getfield 125, 3) := by decide +kernel
theorem dX4_image_23 : decode cX4_image 23 = .ok (.ireturn, 1) := by decide +kernel
theorem dX4_on_0 : decode cX4_on 0 = .ok (.aload_n 0, 1) := by decide +kernel
theorem dX4_on_1 : decode cX4_on 1 = .ok (.getfield 47, 3) := by decide +kernel
theorem dX4_on_4 : decode cX4_on 4 = .ok (.ifCond .ne 10, 3) := by decide +kernel
theorem dX4_on_7 : decode cX4_on 7 = .ok (.aload_n 0, 1) := by decide +kernel
theorem dX4_on_8 : decode cX4_on 8 = .ok (.bipush (-3), 2) := by decide +kernel
theorem dX4_on_10 : decode cX4_on 10 = .ok (.invokevirtual 51, 3) := by decide +kernel
theorem dX4_on_13 : decode cX4_on 13 = .ok (.ireturn, 1) := by decide +kernel
theorem dX4_on_14 : decode cX4_on 14 = .ok (.aload_n 0, 1) := by decide +kernel
theorem dX4_on_15 : decode cX4_on 15 = .ok (.getfield 10, 3) := by decide +kernel
theorem dX4_on_18 : decode cX4_on 18 = .ok (.aload_n 0, 1) := by decide +kernel
theorem dX4_on_19 : decode cX4_on 19 = .ok (.getfield 16, 3) := by decide +kernel
theorem dX4_on_22 : decode cX4_on 22 = .ok (.invokevirtual 70, 3) := by decide +kernel
theorem dX4_on_25 : decode cX4_on 25 = .ok (.aload_n 0, 1) := by decide +kernel
theorem dX4_on_26 : decode cX4_on 26 = .ok (.getfield 10, 3) := by decide +kernel
theorem dX4_on_29 : decode cX4_on 29 = .ok (.getfield 125, 3) := by decide +kernel
theorem dX4_on_32 : decode cX4_on 32 = .ok (.ireturn, 1) := by decide +kernel
theorem dX4_count_0 : decode cX4_count 0 = .ok (.iload_n 1, 1) := by decide +kernel
theorem dX4_count_1 : decode cX4_count 1 = .ok (.bipush 10, 2) := by decide +kernel
theorem dX4_count_3 : decode cX4_count 3 = .ok (.if_icmp .le 19, 3) := by decide +kernel
theorem dX4_count_6 : decode cX4_count 6 = .ok (.iload_n 1, 1) := by decide +kernel
theorem dX4_count_7 : decode cX4_count 7 = .ok (.bipush 16, 2) := by decide +kernel
theorem dX4_count_9 : decode cX4_count 9 = .ok (.if_icmp .gt 13, 3) := by decide +kernel
theorem dX4_count_12 : decode cX4_count 12 = .ok (.aload_n 0, 1) := by decide +kernel
theorem dX4_count_13 : decode cX4_count 13 = .ok (.getfield 43, 3) := by decide +kernel
theorem dX4_count_16 : decode cX4_count 16 = .ok (.iload_n 1, 1) := by decide +kernel
theorem dX4_count_17 : decode cX4_count 17 = .ok (.bipush 10, 2) := by decide +kernel
theorem dX4_count_19 : decode cX4_count 19 = .ok (.isub, 1) := by decide +kernel
theorem dX4_count_20 : decode cX4_count 20 = .ok (.iaload, 1) := by decide +kernel
theorem dX4_count_21 : decode cX4_count 21 = .ok (.ireturn, 1) := by decide +kernel
theorem dX4_count_22 : decode cX4_count 22 = .ok (.iload_n 1, 1) := by decide +kernel
theorem dX4_count_23 : decode cX4_count 23 = .ok (.tableswitch 139 0 9 #[53, 64, 72, 83, 91, 99, 107, 115, 123, 131], 53) := by decide +kernel
theorem dX4_count_76 : decode cX4_count 76 = .ok (.aload_n 0, 1) := by decide +kernel
theorem dX4_count_77 : decode cX4_count 77 = .ok (.getfield 10, 3) := by decide +kernel
theorem dX4_count_80 : decode cX4_count 80 = .ok (.getfield 140, 3) := by decide +kernel
theorem dX4_count_83 : decode cX4_count 83 = .ok (.invokestatic 143, 3) := by decide +kernel
theorem dX4_count_86 : decode cX4_count 86 = .ok (.ireturn, 1) := by decide +kernel
theorem dX4_count_87 : decode cX4_count 87 = .ok (.aload_n 0, 1) := by decide +kernel
theorem dX4_count_88 : decode cX4_count 88 = .ok (.getfield 10, 3) := by decide +kernel
theorem dX4_count_91 : decode cX4_count 91 = .ok (.getfield 125, 3) := by decide +kernel
theorem dX4_count_94 : decode cX4_count 94 = .ok (.ireturn, 1) := by decide +kernel
theorem dX4_count_95 : decode cX4_count 95 = .ok (.aload_n 0, 1) := by decide +kernel
theorem dX4_count_96 : decode cX4_count 96 = .ok (.getfield 10, 3) := by decide +kernel
theorem dX4_count_99 : decode cX4_count 99 = .ok (.getfield 164, 3) := by decide +kernel
theorem dX4_count_102 : decode cX4_count 102 = .ok (.invokestatic 168, 3) := by decide +kernel
theorem dX4_count_105 : decode cX4_count 105 = .ok (.ireturn, 1) := by decide +kernel
theorem dX4_count_106 : decode cX4_count 106 = .ok (.aload_n 0, 1) := by decide +kernel
theorem dX4_count_107 : decode cX4_count 107 = .ok (.getfield 10, 3) := by decide +kernel
theorem dX4_count_110 : decode cX4_count 110 = .ok (.getfield 154, 3) := by decide +kernel
theorem dX4_count_113 : decode cX4_count 113 = .ok (.ireturn, 1) := by decide +kernel
theorem dX4_count_114 : decode cX4_count 114 = .ok (.aload_n 0, 1) := by decide +kernel
theorem dX4_count_115 : decode cX4_count 115 = .ok (.getfield 10, 3) := by decide +kernel
theorem dX4_count_118 : decode cX4_count 118 = .ok (.getfield 249, 3) := by decide +kernel
theorem dX4_count_121 : decode cX4_count 121 = .ok (.ireturn, 1) := by decide +kernel
theorem dX4_count_122 : decode cX4_count 122 = .ok (.aload_n 0, 1) := by decide +kernel
theorem dX4_count_123 : decode cX4_count 123 = .ok (.getfield 10, 3) := by decide +kernel
theorem dX4_count_126 : decode cX4_count 126 = .ok (.getfield 258, 3) := by decide +kernel
theorem dX4_count_129 : decode cX4_count 129 = .ok (.ireturn, 1) := by decide +kernel
theorem dX4_count_130 : decode cX4_count 130 = .ok (.aload_n 0, 1) := by decide +kernel
theorem dX4_count_131 : decode cX4_count 131 = .ok (.getfield 10, 3) := by decide +kernel
theorem dX4_count_134 : decode cX4_count 134 = .ok (.getfield 261, 3) := by decide +kernel
theorem dX4_count_137 : decode cX4_count 137 = .ok (.ireturn, 1) := by decide +kernel
theorem dX4_count_138 : decode cX4_count 138 = .ok (.aload_n 0, 1) := by decide +kernel
theorem dX4_count_139 : decode cX4_count 139 = .ok (.getfield 10, 3) := by decide +kernel
theorem dX4_count_142 : decode cX4_count 142 = .ok (.getfield 264, 3) := by decide +kernel
theorem dX4_count_145 : decode cX4_count 145 = .ok (.ireturn, 1) := by decide +kernel
theorem dX4_count_146 : decode cX4_count 146 = .ok (.aload_n 0, 1) := by decide +kernel
theorem dX4_count_147 : decode cX4_count 147 = .ok (.getfield 32, 3) := by decide +kernel
theorem dX4_count_150 : decode cX4_count 150 = .ok (.getfield 230, 3) := by decide +kernel
theorem dX4_count_153 : decode cX4_count 153 = .ok (.ireturn, 1) := by decide +kernel
theorem dX4_count_154 : decode cX4_count 154 = .ok (.aload_n 0, 1) := by decide +kernel
theorem dX4_count_155 : decode cX4_count 155 = .ok (.getfield 25, 3) := by decide +kernel
theorem dX4_count_158 : decode cX4_count 158 = .ok (.getfield 55, 3) := by decide +kernel
theorem dX4_count_161 : decode cX4_count 161 = .ok (.ireturn, 1) := by decide +kernel
theorem dX4_count_162 : decode cX4_count 162 = .ok (.bipush (-9), 2) := by decide +kernel
theorem dX4_count_164 : decode cX4_count 164 = .ok (.ireturn, 1) := by decide +kernel
theorem dX4_refuse_0 : decode cX4_refuse 0 = .ok (.aload_n 0, 1) := by decide +kernel
theorem dX4_refuse_1 : decode cX4_refuse 1 = .ok (.getfield 43, 3) := by decide +kernel
theorem dX4_refuse_4 : decode cX4_refuse 4 = .ok (.iload_n 1, 1) := by decide +kernel
theorem dX4_refuse_5 : decode cX4_refuse 5 = .ok (.ineg, 1) := by decide +kernel
theorem dX4_refuse_6 : decode cX4_refuse 6 = .ok (.dup2, 1) := by decide +kernel
theorem dX4_refuse_7 : decode cX4_refuse 7 = .ok (.iaload, 1) := by decide +kernel
theorem dX4_refuse_8 : decode cX4_refuse 8 = .ok (.iconst 1, 1) := by decide +kernel
theorem dX4_refuse_9 : decode cX4_refuse 9 = .ok (.iadd, 1) := by decide +kernel
theorem dX4_refuse_10 : decode cX4_refuse 10 = .ok (.iastore, 1) := by decide +kernel
theorem dX4_refuse_11 : decode cX4_refuse 11 = .ok (.iload_n 1, 1) := by decide +kernel
theorem dX4_refuse_12 : decode cX4_refuse 12 = .ok (.ireturn, 1) := by decide +kernel
theorem dX4_refuseLong_0 : decode cX4_refuseLong 0 = .ok (.ldc2_w 267, 3) := by decide +kernel
theorem dX4_refuseLong_3 : decode cX4_refuseLong 3 = .ok (.aload_n 0, 1) := by decide +kernel
theorem dX4_refuseLong_4 : decode cX4_refuseLong 4 = .ok (.iload_n 1, 1) := by decide +kernel
theorem dX4_refuseLong_5 : decode cX4_refuseLong 5 = .ok (.invokevirtual 51, 3) := by decide +kernel
theorem dX4_refuseLong_8 : decode cX4_refuseLong 8 = .ok (.i2l, 1) := by decide +kernel
theorem dX4_refuseLong_9 : decode cX4_refuseLong 9 = .ok (.lsub, 1) := by decide +kernel
theorem dX4_refuseLong_10 : decode cX4_refuseLong 10 = .ok (.lreturn, 1) := by decide +kernel
theorem dX4_isNoOffset_0 : decode cX4_isNoOffset 0 = .ok (.iload_n 1, 1) := by decide +kernel
theorem dX4_isNoOffset_1 : decode cX4_isNoOffset 1 = .ok (.ifCond .lt 14, 3) := by decide +kernel
theorem dX4_isNoOffset_4 : decode cX4_isNoOffset 4 = .ok (.iload_n 1, 1) := by decide +kernel
theorem dX4_isNoOffset_5 : decode cX4_isNoOffset 5 = .ok (.aload_n 0, 1) := by decide +kernel
theorem dX4_isNoOffset_6 : decode cX4_isNoOffset 6 = .ok (.getfield 10, 3) := by decide +kernel
theorem dX4_isNoOffset_9 : decode cX4_isNoOffset 9 = .ok (.getfield 249, 3) := by decide +kernel
theorem dX4_isNoOffset_12 : decode cX4_isNoOffset 12 = .ok (.if_icmp .lt 7, 3) := by decide +kernel
theorem dX4_isNoOffset_15 : decode cX4_isNoOffset 15 = .ok (.iconst 1, 1) := by decide +kernel
theorem dX4_isNoOffset_16 : decode cX4_isNoOffset 16 = .ok (.goto 4, 3) := by decide +kernel
theorem dX4_isNoOffset_19 : decode cX4_isNoOffset 19 = .ok (.iconst 0, 1) := by decide +kernel
theorem dX4_isNoOffset_20 : decode cX4_isNoOffset 20 = .ok (.ireturn, 1) := by decide +kernel
theorem dX4_isNoInch_0 : decode cX4_isNoInch 0 = .ok (.iload_n 0, 1) := by decide +kernel
theorem dX4_isNoInch_1 : decode cX4_isNoInch 1 = .ok (.ifCond .lt 9, 3) := by decide +kernel
theorem dX4_isNoInch_4 : decode cX4_isNoInch 4 = .ok (.iload_n 0, 1) := by decide +kernel
theorem dX4_isNoInch_5 : decode cX4_isNoInch 5 = .ok (.bipush 47, 2) := by decide +kernel
theorem dX4_isNoInch_7 : decode cX4_isNoInch 7 = .ok (.if_icmp .le 7, 3) := by decide +kernel
theorem dX4_isNoInch_10 : decode cX4_isNoInch 10 = .ok (.iconst 1, 1) := by decide +kernel
theorem dX4_isNoInch_11 : decode cX4_isNoInch 11 = .ok (.goto 4, 3) := by decide +kernel
theorem dX4_isNoInch_14 : decode cX4_isNoInch 14 = .ok (.iconst 0, 1) := by decide +kernel
theorem dX4_isNoInch_15 : decode cX4_isNoInch 15 = .ok (.ireturn, 1) := by decide +kernel
theorem dX4_isNoTool_0 : decode cX4_isNoTool 0 = .ok (.iload_n 0, 1) := by decide +kernel
theorem dX4_isNoTool_1 : decode cX4_isNoTool 1 = .ok (.ifCond .lt 8, 3) := by decide +kernel
theorem dX4_isNoTool_4 : decode cX4_isNoTool 4 = .ok (.iload_n 0, 1) := by decide +kernel
theorem dX4_isNoTool_5 : decode cX4_isNoTool 5 = .ok (.iconst 5, 1) := by decide +kernel
theorem dX4_isNoTool_6 : decode cX4_isNoTool 6 = .ok (.if_icmp .lt 7, 3) := by decide +kernel
theorem dX4_isNoTool_9 : decode cX4_isNoTool 9 = .ok (.iconst 1, 1) := by decide +kernel
theorem dX4_isNoTool_10 : decode cX4_isNoTool 10 = .ok (.goto 4, 3) := by decide +kernel
theorem dX4_isNoTool_13 : decode cX4_isNoTool 13 = .ok (.iconst 0, 1) := by decide +kernel
theorem dX4_isNoTool_14 : decode cX4_isNoTool 14 = .ok (.ireturn, 1) := by decide +kernel
theorem dX4_isOut_0 : decode cX4_isOut 0 = .ok (.iload_n 1, 1) := by decide +kernel
theorem dX4_isOut_1 : decode cX4_isOut 1 = .ok (.getstatic 82, 3) := by decide +kernel
theorem dX4_isOut_4 : decode cX4_isOut 4 = .ok (.iload_n 0, 1) := by decide +kernel
theorem dX4_isOut_5 : decode cX4_isOut 5 = .ok (.iaload, 1) := by decide +kernel
theorem dX4_isOut_6 : decode cX4_isOut 6 = .ok (.if_icmp .lt 12, 3) := by decide +kernel
theorem dX4_isOut_9 : decode cX4_isOut 9 = .ok (.iload_n 1, 1) := by decide +kernel
theorem dX4_isOut_10 : decode cX4_isOut 10 = .ok (.getstatic 269, 3) := by decide +kernel
theorem dX4_isOut_13 : decode cX4_isOut 13 = .ok (.iload_n 0, 1) := by decide +kernel
theorem dX4_isOut_14 : decode cX4_isOut 14 = .ok (.iaload, 1) := by decide +kernel
theorem dX4_isOut_15 : decode cX4_isOut 15 = .ok (.if_icmp .le 7, 3) := by decide +kernel
theorem dX4_isOut_18 : decode cX4_isOut 18 = .ok (.iconst 1, 1) := by decide +kernel
theorem dX4_isOut_19 : decode cX4_isOut 19 = .ok (.goto 4, 3) := by decide +kernel
theorem dX4_isOut_22 : decode cX4_isOut 22 = .ok (.iconst 0, 1) := by decide +kernel
theorem dX4_isOut_23 : decode cX4_isOut 23 = .ok (.ireturn, 1) := by decide +kernel
theorem dX4_isNoPart_0 : decode cX4_isNoPart 0 = .ok (.iload_n 0, 1) := by decide +kernel
theorem dX4_isNoPart_1 : decode cX4_isNoPart 1 = .ok (.ifCond .eq 12, 3) := by decide +kernel
theorem dX4_isNoPart_4 : decode cX4_isNoPart 4 = .ok (.iload_n 0, 1) := by decide +kernel
theorem dX4_isNoPart_5 : decode cX4_isNoPart 5 = .ok (.iconst 1, 1) := by decide +kernel
theorem dX4_isNoPart_6 : decode cX4_isNoPart 6 = .ok (.if_icmp .eq 7, 3) := by decide +kernel
theorem dX4_isNoPart_9 : decode cX4_isNoPart 9 = .ok (.iconst 1, 1) := by decide +kernel
theorem dX4_isNoPart_10 : decode cX4_isNoPart 10 = .ok (.goto 4, 3) := by decide +kernel
theorem dX4_isNoPart_13 : decode cX4_isNoPart 13 = .ok (.iconst 0, 1) := by decide +kernel
theorem dX4_isNoPart_14 : decode cX4_isNoPart 14 = .ok (.ireturn, 1) := by decide +kernel
theorem dX4_modulo_0 : decode cX4_modulo 0 = .ok (.iload_n 1, 1) := by decide +kernel
theorem dX4_modulo_1 : decode cX4_modulo 1 = .ok (.iconst 1, 1) := by decide +kernel
theorem dX4_modulo_2 : decode cX4_modulo 2 = .ok (.if_icmp .ge 7, 3) := by decide +kernel
theorem dX4_modulo_5 : decode cX4_modulo 5 = .ok (.iconst 0, 1) := by decide +kernel
theorem dX4_modulo_6 : decode cX4_modulo 6 = .ok (.goto 8, 3) := by decide +kernel
theorem dX4_modulo_9 : decode cX4_modulo 9 = .ok (.iload_n 0, 1) := by decide +kernel
theorem dX4_modulo_10 : decode cX4_modulo 10 = .ok (.iload_n 1, 1) := by decide +kernel
theorem dX4_modulo_11 : decode cX4_modulo 11 = .ok (.invokestatic 272, 3) := by decide +kernel
theorem dX4_modulo_14 : decode cX4_modulo 14 = .ok (.ireturn, 1) := by decide +kernel
theorem dX4_isIn_0 : decode cX4_isIn 0 = .ok (.iload_n 0, 1) := by decide +kernel
theorem dX4_isIn_1 : decode cX4_isIn 1 = .ok (.iload_n 1, 1) := by decide +kernel
theorem dX4_isIn_2 : decode cX4_isIn 2 = .ok (.ishr, 1) := by decide +kernel
theorem dX4_isIn_3 : decode cX4_isIn 3 = .ok (.iconst 1, 1) := by decide +kernel
theorem dX4_isIn_4 : decode cX4_isIn 4 = .ok (.iand, 1) := by decide +kernel
theorem dX4_isIn_5 : decode cX4_isIn 5 = .ok (.iconst 1, 1) := by decide +kernel
theorem dX4_isIn_6 : decode cX4_isIn 6 = .ok (.if_icmp .ne 7, 3) := by decide +kernel
theorem dX4_isIn_9 : decode cX4_isIn 9 = .ok (.iconst 1, 1) := by decide +kernel
theorem dX4_isIn_10 : decode cX4_isIn 10 = .ok (.goto 4, 3) := by decide +kernel
theorem dX4_isIn_13 : decode cX4_isIn 13 = .ok (.iconst 0, 1) := by decide +kernel
theorem dX4_isIn_14 : decode cX4_isIn 14 = .ok (.ireturn, 1) := by decide +kernel
theorem dX4_partOf_0 : decode cX4_partOf 0 = .ok (.lload_n 0, 1) := by decide +kernel
theorem dX4_partOf_1 : decode cX4_partOf 1 = .ok (.lconst 0, 1) := by decide +kernel
theorem dX4_partOf_2 : decode cX4_partOf 2 = .ok (.lcmp, 1) := by decide +kernel
theorem dX4_partOf_3 : decode cX4_partOf 3 = .ok (.ifCond .le 9, 3) := by decide +kernel
theorem dX4_partOf_6 : decode cX4_partOf 6 = .ok (.lload_n 2, 1) := by decide +kernel
theorem dX4_partOf_7 : decode cX4_partOf 7 = .ok (.lconst 0, 1) := by decide +kernel
theorem dX4_partOf_8 : decode cX4_partOf 8 = .ok (.lcmp, 1) := by decide +kernel
theorem dX4_partOf_9 : decode cX4_partOf 9 = .ok (.ifCond .gt 14, 3) := by decide +kernel
theorem dX4_partOf_12 : decode cX4_partOf 12 = .ok (.iload 4, 2) := by decide +kernel
theorem dX4_partOf_14 : decode cX4_partOf 14 = .ok (.ifCond .ne 7, 3) := by decide +kernel
theorem dX4_partOf_17 : decode cX4_partOf 17 = .ok (.lconst 0, 1) := by decide +kernel
theorem dX4_partOf_18 : decode cX4_partOf 18 = .ok (.goto 4, 3) := by decide +kernel
theorem dX4_partOf_21 : decode cX4_partOf 21 = .ok (.lconst 1, 1) := by decide +kernel
theorem dX4_partOf_22 : decode cX4_partOf 22 = .ok (.lreturn, 1) := by decide +kernel
theorem dX4_partOf_23 : decode cX4_partOf 23 = .ok (.lload_n 0, 1) := by decide +kernel
theorem dX4_partOf_24 : decode cX4_partOf 24 = .ok (.lload_n 2, 1) := by decide +kernel
theorem dX4_partOf_25 : decode cX4_partOf 25 = .ok (.invokestatic 275, 3) := by decide +kernel
theorem dX4_partOf_28 : decode cX4_partOf 28 = .ok (.lconst 1, 1) := by decide +kernel
theorem dX4_partOf_29 : decode cX4_partOf 29 = .ok (.invokestatic 279, 3) := by decide +kernel
theorem dX4_partOf_32 : decode cX4_partOf 32 = .ok (.lstore 5, 2) := by decide +kernel
theorem dX4_partOf_34 : decode cX4_partOf 34 = .ok (.iload 4, 2) := by decide +kernel
theorem dX4_partOf_36 : decode cX4_partOf 36 = .ok (.ifCond .ne 7, 3) := by decide +kernel
theorem dX4_partOf_39 : decode cX4_partOf 39 = .ok (.lload_n 0, 1) := by decide +kernel
theorem dX4_partOf_40 : decode cX4_partOf 40 = .ok (.goto 4, 3) := by decide +kernel
theorem dX4_partOf_43 : decode cX4_partOf 43 = .ok (.lload_n 2, 1) := by decide +kernel
theorem dX4_partOf_44 : decode cX4_partOf 44 = .ok (.lload 5, 2) := by decide +kernel
theorem dX4_partOf_46 : decode cX4_partOf 46 = .ok (.ldiv, 1) := by decide +kernel
theorem dX4_partOf_47 : decode cX4_partOf 47 = .ok (.lreturn, 1) := by decide +kernel
theorem dX4_commonDivisor_0 : decode cX4_commonDivisor 0 = .ok (.lload_n 0, 1) := by decide +kernel
theorem dX4_commonDivisor_1 : decode cX4_commonDivisor 1 = .ok (.lstore 4, 2) := by decide +kernel
theorem dX4_commonDivisor_3 : decode cX4_commonDivisor 3 = .ok (.lload_n 2, 1) := by decide +kernel
theorem dX4_commonDivisor_4 : decode cX4_commonDivisor 4 = .ok (.lstore 6, 2) := by decide +kernel
theorem dX4_commonDivisor_6 : decode cX4_commonDivisor 6 = .ok (.iconst 0, 1) := by decide +kernel
theorem dX4_commonDivisor_7 : decode cX4_commonDivisor 7 = .ok (.istore 8, 2) := by decide +kernel
theorem dX4_commonDivisor_9 : decode cX4_commonDivisor 9 = .ok (.iload 8, 2) := by decide +kernel
theorem dX4_commonDivisor_11 : decode cX4_commonDivisor 11 = .ok (.sipush 200, 3) := by decide +kernel
theorem dX4_commonDivisor_14 : decode cX4_commonDivisor 14 = .ok (.if_icmp .ge 31, 3) := by decide +kernel
theorem dX4_commonDivisor_17 : decode cX4_commonDivisor 17 = .ok (.lload 6, 2) := by decide +kernel
theorem dX4_commonDivisor_19 : decode cX4_commonDivisor 19 = .ok (.lconst 0, 1) := by decide +kernel
theorem dX4_commonDivisor_20 : decode cX4_commonDivisor 20 = .ok (.lcmp, 1) := by decide +kernel
theorem dX4_commonDivisor_21 : decode cX4_commonDivisor 21 = .ok (.ifCond .eq 24, 3) := by decide +kernel
theorem dX4_commonDivisor_24 : decode cX4_commonDivisor 24 = .ok (.lload 4, 2) := by decide +kernel
theorem dX4_commonDivisor_26 : decode cX4_commonDivisor 26 = .ok (.lload 6, 2) := by decide +kernel
theorem dX4_commonDivisor_28 : decode cX4_commonDivisor 28 = .ok (.lrem, 1) := by decide +kernel
theorem dX4_commonDivisor_29 : decode cX4_commonDivisor 29 = .ok (.lstore 9, 2) := by decide +kernel
theorem dX4_commonDivisor_31 : decode cX4_commonDivisor 31 = .ok (.lload 6, 2) := by decide +kernel
theorem dX4_commonDivisor_33 : decode cX4_commonDivisor 33 = .ok (.lstore 4, 2) := by decide +kernel
theorem dX4_commonDivisor_35 : decode cX4_commonDivisor 35 = .ok (.lload 9, 2) := by decide +kernel
theorem dX4_commonDivisor_37 : decode cX4_commonDivisor 37 = .ok (.lstore 6, 2) := by decide +kernel
theorem dX4_commonDivisor_39 : decode cX4_commonDivisor 39 = .ok (.iinc 8 1, 3) := by decide +kernel
theorem dX4_commonDivisor_42 : decode cX4_commonDivisor 42 = .ok (.goto (-33), 3) := by decide +kernel
theorem dX4_commonDivisor_45 : decode cX4_commonDivisor 45 = .ok (.lload 4, 2) := by decide +kernel
theorem dX4_commonDivisor_47 : decode cX4_commonDivisor 47 = .ok (.lreturn, 1) := by decide +kernel
theorem dX4_tenths_0 : decode cX4_tenths 0 = .ok (.iload_n 2, 1) := by decide +kernel
theorem dX4_tenths_1 : decode cX4_tenths 1 = .ok (.ifCond .eq 11, 3) := by decide +kernel
theorem dX4_tenths_4 : decode cX4_tenths 4 = .ok (.getstatic 116, 3) := by decide +kernel
theorem dX4_tenths_7 : decode cX4_tenths 7 = .ok (.iload_n 0, 1) := by decide +kernel
theorem dX4_tenths_8 : decode cX4_tenths 8 = .ok (.iaload, 1) := by decide +kernel
theorem dX4_tenths_9 : decode cX4_tenths 9 = .ok (.goto 8, 3) := by decide +kernel
theorem dX4_tenths_12 : decode cX4_tenths 12 = .ok (.getstatic 119, 3) := by decide +kernel
theorem dX4_tenths_15 : decode cX4_tenths 15 = .ok (.iload_n 0, 1) := by decide +kernel
theorem dX4_tenths_16 : decode cX4_tenths 16 = .ok (.iaload, 1) := by decide +kernel
theorem dX4_tenths_17 : decode cX4_tenths 17 = .ok (.istore_n 3, 1) := by decide +kernel
theorem dX4_tenths_18 : decode cX4_tenths 18 = .ok (.iload_n 1, 1) := by decide +kernel
theorem dX4_tenths_19 : decode cX4_tenths 19 = .ok (.iload_n 2, 1) := by decide +kernel
theorem dX4_tenths_20 : decode cX4_tenths 20 = .ok (.if_icmp .ne 7, 3) := by decide +kernel
theorem dX4_tenths_23 : decode cX4_tenths 23 = .ok (.iload_n 3, 1) := by decide +kernel
theorem dX4_tenths_24 : decode cX4_tenths 24 = .ok (.goto 7, 3) := by decide +kernel
theorem dX4_tenths_27 : decode cX4_tenths 27 = .ok (.bipush 10, 2) := by decide +kernel
theorem dX4_tenths_29 : decode cX4_tenths 29 = .ok (.iload_n 3, 1) := by decide +kernel
theorem dX4_tenths_30 : decode cX4_tenths 30 = .ok (.isub, 1) := by decide +kernel
theorem dX4_tenths_31 : decode cX4_tenths 31 = .ok (.ireturn, 1) := by decide +kernel
theorem dX5_init_0 : decode cX5_init 0 = .ok (.aload_n 0, 1) := by decide +kernel
theorem dX5_init_1 : decode cX5_init 1 = .ok (.invokespecial 1, 3) := by decide +kernel
theorem dX5_init_4 : decode cX5_init 4 = .ok (.aload_n 0, 1) := by decide +kernel
theorem dX5_init_5 : decode cX5_init 5 = .ok (.bipush 7, 2) := by decide +kernel
