theorem dX5_chancesAt_41 : decode cX5_chancesAt 41 = .ok (.iload_n 2, 1) := by decide +kernel
theorem dX5_chancesAt_42 : decode cX5_chancesAt 42 = .ok (.bipush 10, 2) := by decide +kernel
theorem dX5_chancesAt_44 : decode cX5_chancesAt 44 = .ok (.if_icmp .le 8, 3) := by decide +kernel
theorem dX5_chancesAt_47 : decode cX5_chancesAt 47 = .ok (.bipush 10, 2) := by decide +kernel
theorem dX5_chancesAt_49 : decode cX5_chancesAt 49 = .ok (.goto 4, 3) := by decide +kernel
theorem dX5_chancesAt_52 : decode cX5_chancesAt 52 = .ok (.iload_n 2, 1) := by decide +kernel
theorem dX5_chancesAt_53 : decode cX5_chancesAt 53 = .ok (.ireturn, 1) := by decide +kernel
theorem dX5_risk_0 : decode cX5_risk 0 = .ok (.iload_n 1, 1) := by decide +kernel
theorem dX5_risk_1 : decode cX5_risk 1 = .ok (.invokestatic 113, 3) := by decide +kernel
theorem dX5_risk_4 : decode cX5_risk 4 = .ok (.ifCond .eq 11, 3) := by decide +kernel
theorem dX5_risk_7 : decode cX5_risk 7 = .ok (.aload_n 0, 1) := by decide +kernel
theorem dX5_risk_8 : decode cX5_risk 8 = .ok (.iload_n 1, 1) := by decide +kernel
theorem dX5_risk_9 : decode cX5_risk 9 = .ok (.invokevirtual 207, 3) := by decide +kernel
theorem dX5_risk_12 : decode cX5_risk 12 = .ok (.goto 8, 3) := by decide +kernel
theorem dX5_risk_15 : decode cX5_risk 15 = .ok (.aload_n 0, 1) := by decide +kernel
theorem dX5_risk_16 : decode cX5_risk 16 = .ok (.iconst (-1), 1) := by decide +kernel
theorem dX5_risk_17 : decode cX5_risk 17 = .ok (.invokevirtual 66, 3) := by decide +kernel
theorem dX5_risk_20 : decode cX5_risk 20 = .ok (.ireturn, 1) := by decide +kernel
theorem dX5_hole_0 : decode cX5_hole 0 = .ok (.iload_n 1, 1) := by decide +kernel
theorem dX5_hole_1 : decode cX5_hole 1 = .ok (.invokestatic 113, 3) := by decide +kernel
theorem dX5_hole_4 : decode cX5_hole 4 = .ok (.ifCond .eq 12, 3) := by decide +kernel
theorem dX5_hole_7 : decode cX5_hole 7 = .ok (.aload_n 0, 1) := by decide +kernel
theorem dX5_hole_8 : decode cX5_hole 8 = .ok (.getfield 16, 3) := by decide +kernel
theorem dX5_hole_11 : decode cX5_hole 11 = .ok (.iload_n 1, 1) := by decide +kernel
theorem dX5_hole_12 : decode cX5_hole 12 = .ok (.iaload, 1) := by decide +kernel
theorem dX5_hole_13 : decode cX5_hole 13 = .ok (.goto 8, 3) := by decide +kernel
theorem dX5_hole_16 : decode cX5_hole 16 = .ok (.aload_n 0, 1) := by decide +kernel
theorem dX5_hole_17 : decode cX5_hole 17 = .ok (.iconst (-1), 1) := by decide +kernel
theorem dX5_hole_18 : decode cX5_hole 18 = .ok (.invokevirtual 66, 3) := by decide +kernel
theorem dX5_hole_21 : decode cX5_hole 21 = .ok (.ireturn, 1) := by decide +kernel
theorem dX5_holesMany_0 : decode cX5_holesMany 0 = .ok (.iconst 0, 1) := by decide +kernel
theorem dX5_holesMany_1 : decode cX5_holesMany 1 = .ok (.istore_n 1, 1) := by decide +kernel
theorem dX5_holesMany_2 : decode cX5_holesMany 2 = .ok (.iconst 0, 1) := by decide +kernel
theorem dX5_holesMany_3 : decode cX5_holesMany 3 = .ok (.istore_n 2, 1) := by decide +kernel
theorem dX5_holesMany_4 : decode cX5_holesMany 4 = .ok (.iload_n 2, 1) := by decide +kernel
theorem dX5_holesMany_5 : decode cX5_holesMany 5 = .ok (.bipush 48, 2) := by decide +kernel
theorem dX5_holesMany_7 : decode cX5_holesMany 7 = .ok (.if_icmp .ge 18, 3) := by decide +kernel
theorem dX5_holesMany_10 : decode cX5_holesMany 10 = .ok (.iload_n 1, 1) := by decide +kernel
theorem dX5_holesMany_11 : decode cX5_holesMany 11 = .ok (.aload_n 0, 1) := by decide +kernel
theorem dX5_holesMany_12 : decode cX5_holesMany 12 = .ok (.getfield 16, 3) := by decide +kernel
theorem dX5_holesMany_15 : decode cX5_holesMany 15 = .ok (.iload_n 2, 1) := by decide +kernel
theorem dX5_holesMany_16 : decode cX5_holesMany 16 = .ok (.iaload, 1) := by decide +kernel
theorem dX5_holesMany_17 : decode cX5_holesMany 17 = .ok (.iadd, 1) := by decide +kernel
theorem dX5_holesMany_18 : decode cX5_holesMany 18 = .ok (.istore_n 1, 1) := by decide +kernel
theorem dX5_holesMany_19 : decode cX5_holesMany 19 = .ok (.iinc 2 1, 3) := by decide +kernel
theorem dX5_holesMany_22 : decode cX5_holesMany 22 = .ok (.goto (-18), 3) := by decide +kernel
theorem dX5_holesMany_25 : decode cX5_holesMany 25 = .ok (.iload_n 1, 1) := by decide +kernel
theorem dX5_holesMany_26 : decode cX5_holesMany 26 = .ok (.ireturn, 1) := by decide +kernel
theorem dX5_fill_0 : decode cX5_fill 0 = .ok (.aload_n 0, 1) := by decide +kernel
theorem dX5_fill_1 : decode cX5_fill 1 = .ok (.invokevirtual 210, 3) := by decide +kernel
theorem dX5_fill_4 : decode cX5_fill 4 = .ok (.istore_n 1, 1) := by decide +kernel
theorem dX5_fill_5 : decode cX5_fill 5 = .ok (.iconst 0, 1) := by decide +kernel
theorem dX5_fill_6 : decode cX5_fill 6 = .ok (.istore_n 2, 1) := by decide +kernel
theorem dX5_fill_7 : decode cX5_fill 7 = .ok (.iload_n 2, 1) := by decide +kernel
theorem dX5_fill_8 : decode cX5_fill 8 = .ok (.bipush 48, 2) := by decide +kernel
theorem dX5_fill_10 : decode cX5_fill 10 = .ok (.if_icmp .ge 16, 3) := by decide +kernel
theorem dX5_fill_13 : decode cX5_fill 13 = .ok (.aload_n 0, 1) := by decide +kernel
theorem dX5_fill_14 : decode cX5_fill 14 = .ok (.getfield 16, 3) := by decide +kernel
theorem dX5_fill_17 : decode cX5_fill 17 = .ok (.iload_n 2, 1) := by decide +kernel
theorem dX5_fill_18 : decode cX5_fill 18 = .ok (.iconst 0, 1) := by decide +kernel
theorem dX5_fill_19 : decode cX5_fill 19 = .ok (.iastore, 1) := by decide +kernel
theorem dX5_fill_20 : decode cX5_fill 20 = .ok (.iinc 2 1, 3) := by decide +kernel
theorem dX5_fill_23 : decode cX5_fill 23 = .ok (.goto (-16), 3) := by decide +kernel
theorem dX5_fill_26 : decode cX5_fill 26 = .ok (.iload_n 1, 1) := by decide +kernel
theorem dX5_fill_27 : decode cX5_fill 27 = .ok (.ireturn, 1) := by decide +kernel
theorem dX5_withWeight_0 : decode cX5_withWeight 0 = .ok (.iconst 0, 1) := by decide +kernel
theorem dX5_withWeight_1 : decode cX5_withWeight 1 = .ok (.istore_n 1, 1) := by decide +kernel
theorem dX5_withWeight_2 : decode cX5_withWeight 2 = .ok (.iconst 0, 1) := by decide +kernel
theorem dX5_withWeight_3 : decode cX5_withWeight 3 = .ok (.istore_n 2, 1) := by decide +kernel
theorem dX5_withWeight_4 : decode cX5_withWeight 4 = .ok (.iload_n 2, 1) := by decide +kernel
theorem dX5_withWeight_5 : decode cX5_withWeight 5 = .ok (.aload_n 0, 1) := by decide +kernel
theorem dX5_withWeight_6 : decode cX5_withWeight 6 = .ok (.getfield 13, 3) := by decide +kernel
theorem dX5_withWeight_9 : decode cX5_withWeight 9 = .ok (.iconst 0, 1) := by decide +kernel
theorem dX5_withWeight_10 : decode cX5_withWeight 10 = .ok (.iaload, 1) := by decide +kernel
theorem dX5_withWeight_11 : decode cX5_withWeight 11 = .ok (.if_icmp .ge 26, 3) := by decide +kernel
theorem dX5_withWeight_14 : decode cX5_withWeight 14 = .ok (.iload_n 1, 1) := by decide +kernel
theorem dX5_withWeight_15 : decode cX5_withWeight 15 = .ok (.aload_n 0, 1) := by decide +kernel
theorem dX5_withWeight_16 : decode cX5_withWeight 16 = .ok (.getfield 25, 3) := by decide +kernel
theorem dX5_withWeight_19 : decode cX5_withWeight 19 = .ok (.iload_n 2, 1) := by decide +kernel
theorem dX5_withWeight_20 : decode cX5_withWeight 20 = .ok (.iaload, 1) := by decide +kernel
theorem dX5_withWeight_21 : decode cX5_withWeight 21 = .ok (.ifCond .le 7, 3) := by decide +kernel
theorem dX5_withWeight_24 : decode cX5_withWeight 24 = .ok (.iconst 1, 1) := by decide +kernel
theorem dX5_withWeight_25 : decode cX5_withWeight 25 = .ok (.goto 4, 3) := by decide +kernel
theorem dX5_withWeight_28 : decode cX5_withWeight 28 = .ok (.iconst 0, 1) := by decide +kernel
theorem dX5_withWeight_29 : decode cX5_withWeight 29 = .ok (.iadd, 1) := by decide +kernel
theorem dX5_withWeight_30 : decode cX5_withWeight 30 = .ok (.istore_n 1, 1) := by decide +kernel
theorem dX5_withWeight_31 : decode cX5_withWeight 31 = .ok (.iinc 2 1, 3) := by decide +kernel
theorem dX5_withWeight_34 : decode cX5_withWeight 34 = .ok (.goto (-30), 3) := by decide +kernel
theorem dX5_withWeight_37 : decode cX5_withWeight 37 = .ok (.iload_n 1, 1) := by decide +kernel
theorem dX5_withWeight_38 : decode cX5_withWeight 38 = .ok (.ireturn, 1) := by decide +kernel
theorem dX5_all_0 : decode cX5_all 0 = .ok (.lconst 0, 1) := by decide +kernel
theorem dX5_all_1 : decode cX5_all 1 = .ok (.lstore_n 1, 1) := by decide +kernel
theorem dX5_all_2 : decode cX5_all 2 = .ok (.iconst 0, 1) := by decide +kernel
theorem dX5_all_3 : decode cX5_all 3 = .ok (.istore_n 3, 1) := by decide +kernel
theorem dX5_all_4 : decode cX5_all 4 = .ok (.iload_n 3, 1) := by decide +kernel
theorem dX5_all_5 : decode cX5_all 5 = .ok (.aload_n 0, 1) := by decide +kernel
theorem dX5_all_6 : decode cX5_all 6 = .ok (.getfield 13, 3) := by decide +kernel
theorem dX5_all_9 : decode cX5_all 9 = .ok (.iconst 0, 1) := by decide +kernel
theorem dX5_all_10 : decode cX5_all 10 = .ok (.iaload, 1) := by decide +kernel
theorem dX5_all_11 : decode cX5_all 11 = .ok (.if_icmp .ge 19, 3) := by decide +kernel
theorem dX5_all_14 : decode cX5_all 14 = .ok (.lload_n 1, 1) := by decide +kernel
theorem dX5_all_15 : decode cX5_all 15 = .ok (.aload_n 0, 1) := by decide +kernel
theorem dX5_all_16 : decode cX5_all 16 = .ok (.getfield 25, 3) := by decide +kernel
theorem dX5_all_19 : decode cX5_all 19 = .ok (.iload_n 3, 1) := by decide +kernel
theorem dX5_all_20 : decode cX5_all 20 = .ok (.iaload, 1) := by decide +kernel
theorem dX5_all_21 : decode cX5_all 21 = .ok (.i2l, 1) := by decide +kernel
theorem dX5_all_22 : decode cX5_all 22 = .ok (.ladd, 1) := by decide +kernel
theorem dX5_all_23 : decode cX5_all 23 = .ok (.lstore_n 1, 1) := by decide +kernel
theorem dX5_all_24 : decode cX5_all 24 = .ok (.iinc 3 1, 3) := by decide +kernel
theorem dX5_all_27 : decode cX5_all 27 = .ok (.goto (-23), 3) := by decide +kernel
theorem dX5_all_30 : decode cX5_all 30 = .ok (.lload_n 1, 1) := by decide +kernel
theorem dX5_all_31 : decode cX5_all 31 = .ok (.lreturn, 1) := by decide +kernel
theorem dX5_woodAt_0 : decode cX5_woodAt 0 = .ok (.lconst 0, 1) := by decide +kernel
theorem dX5_woodAt_1 : decode cX5_woodAt 1 = .ok (.lstore_n 2, 1) := by decide +kernel
theorem dX5_woodAt_2 : decode cX5_woodAt 2 = .ok (.iconst 0, 1) := by decide +kernel
theorem dX5_woodAt_3 : decode cX5_woodAt 3 = .ok (.istore 4, 2) := by decide +kernel
theorem dX5_woodAt_5 : decode cX5_woodAt 5 = .ok (.iload 4, 2) := by decide +kernel
theorem dX5_woodAt_7 : decode cX5_woodAt 7 = .ok (.aload_n 0, 1) := by decide +kernel
theorem dX5_woodAt_8 : decode cX5_woodAt 8 = .ok (.getfield 13, 3) := by decide +kernel
theorem dX5_woodAt_11 : decode cX5_woodAt 11 = .ok (.iconst 0, 1) := by decide +kernel
theorem dX5_woodAt_12 : decode cX5_woodAt 12 = .ok (.iaload, 1) := by decide +kernel
theorem dX5_woodAt_13 : decode cX5_woodAt 13 = .ok (.if_icmp .ge 34, 3) := by decide +kernel
theorem dX5_woodAt_16 : decode cX5_woodAt 16 = .ok (.lload_n 2, 1) := by decide +kernel
theorem dX5_woodAt_17 : decode cX5_woodAt 17 = .ok (.aload_n 0, 1) := by decide +kernel
theorem dX5_woodAt_18 : decode cX5_woodAt 18 = .ok (.iload_n 1, 1) := by decide +kernel
theorem dX5_woodAt_19 : decode cX5_woodAt 19 = .ok (.iload 4, 2) := by decide +kernel
theorem dX5_woodAt_21 : decode cX5_woodAt 21 = .ok (.invokevirtual 171, 3) := by decide +kernel
theorem dX5_woodAt_24 : decode cX5_woodAt 24 = .ok (.ifCond .eq 14, 3) := by decide +kernel
theorem dX5_woodAt_27 : decode cX5_woodAt 27 = .ok (.aload_n 0, 1) := by decide +kernel
theorem dX5_woodAt_28 : decode cX5_woodAt 28 = .ok (.getfield 25, 3) := by decide +kernel
theorem dX5_woodAt_31 : decode cX5_woodAt 31 = .ok (.iload 4, 2) := by decide +kernel
theorem dX5_woodAt_33 : decode cX5_woodAt 33 = .ok (.iaload, 1) := by decide +kernel
theorem dX5_woodAt_34 : decode cX5_woodAt 34 = .ok (.i2l, 1) := by decide +kernel
theorem dX5_woodAt_35 : decode cX5_woodAt 35 = .ok (.goto 4, 3) := by decide +kernel
theorem dX5_woodAt_38 : decode cX5_woodAt 38 = .ok (.lconst 0, 1) := by decide +kernel
theorem dX5_woodAt_39 : decode cX5_woodAt 39 = .ok (.ladd, 1) := by decide +kernel
theorem dX5_woodAt_40 : decode cX5_woodAt 40 = .ok (.lstore_n 2, 1) := by decide +kernel
theorem dX5_woodAt_41 : decode cX5_woodAt 41 = .ok (.iinc 4 1, 3) := by decide +kernel
theorem dX5_woodAt_44 : decode cX5_woodAt 44 = .ok (.goto (-39), 3) := by decide +kernel
theorem dX5_woodAt_47 : decode cX5_woodAt 47 = .ok (.lload_n 2, 1) := by decide +kernel
theorem dX5_woodAt_48 : decode cX5_woodAt 48 = .ok (.lreturn, 1) := by decide +kernel
theorem dX5_partOf_0 : decode cX5_partOf 0 = .ok (.lload_n 2, 1) := by decide +kernel
theorem dX5_partOf_1 : decode cX5_partOf 1 = .ok (.lconst 0, 1) := by decide +kernel
theorem dX5_partOf_2 : decode cX5_partOf 2 = .ok (.lcmp, 1) := by decide +kernel
theorem dX5_partOf_3 : decode cX5_partOf 3 = .ok (.ifCond .ne 7, 3) := by decide +kernel
theorem dX5_partOf_6 : decode cX5_partOf 6 = .ok (.iload 4, 2) := by decide +kernel
theorem dX5_partOf_8 : decode cX5_partOf 8 = .ok (.i2l, 1) := by decide +kernel
theorem dX5_partOf_9 : decode cX5_partOf 9 = .ok (.lreturn, 1) := by decide +kernel
theorem dX5_partOf_10 : decode cX5_partOf 10 = .ok (.iload 4, 2) := by decide +kernel
theorem dX5_partOf_12 : decode cX5_partOf 12 = .ok (.ifCond .ne 7, 3) := by decide +kernel
theorem dX5_partOf_15 : decode cX5_partOf 15 = .ok (.lload_n 0, 1) := by decide +kernel
theorem dX5_partOf_16 : decode cX5_partOf 16 = .ok (.goto 4, 3) := by decide +kernel
theorem dX5_partOf_19 : decode cX5_partOf 19 = .ok (.lload_n 2, 1) := by decide +kernel
theorem dX5_partOf_20 : decode cX5_partOf 20 = .ok (.lload_n 0, 1) := by decide +kernel
theorem dX5_partOf_21 : decode cX5_partOf 21 = .ok (.lload_n 2, 1) := by decide +kernel
theorem dX5_partOf_22 : decode cX5_partOf 22 = .ok (.invokestatic 180, 3) := by decide +kernel
theorem dX5_partOf_25 : decode cX5_partOf 25 = .ok (.ldiv, 1) := by decide +kernel
theorem dX5_partOf_26 : decode cX5_partOf 26 = .ok (.lreturn, 1) := by decide +kernel
theorem dX5_likely_0 : decode cX5_likely 0 = .ok (.iload_n 1, 1) := by decide +kernel
theorem dX5_likely_1 : decode cX5_likely 1 = .ok (.invokestatic 113, 3) := by decide +kernel
theorem dX5_likely_4 : decode cX5_likely 4 = .ok (.ifCond .ne 9, 3) := by decide +kernel
theorem dX5_likely_7 : decode cX5_likely 7 = .ok (.aload_n 0, 1) := by decide +kernel
theorem dX5_likely_8 : decode cX5_likely 8 = .ok (.iconst (-1), 1) := by decide +kernel
theorem dX5_likely_9 : decode cX5_likely 9 = .ok (.invokevirtual 197, 3) := by decide +kernel
theorem dX5_likely_12 : decode cX5_likely 12 = .ok (.lreturn, 1) := by decide +kernel
theorem dX5_likely_13 : decode cX5_likely 13 = .ok (.iload_n 2, 1) := by decide +kernel
theorem dX5_likely_14 : decode cX5_likely 14 = .ok (.iconst 0, 1) := by decide +kernel
theorem dX5_likely_15 : decode cX5_likely 15 = .ok (.iconst 1, 1) := by decide +kernel
theorem dX5_likely_16 : decode cX5_likely 16 = .ok (.invokestatic 77, 3) := by decide +kernel
theorem dX5_likely_19 : decode cX5_likely 19 = .ok (.ifCond .eq 19, 3) := by decide +kernel
theorem dX5_likely_22 : decode cX5_likely 22 = .ok (.aload_n 0, 1) := by decide +kernel
theorem dX5_likely_23 : decode cX5_likely 23 = .ok (.iload_n 1, 1) := by decide +kernel
theorem dX5_likely_24 : decode cX5_likely 24 = .ok (.invokevirtual 213, 3) := by decide +kernel
theorem dX5_likely_27 : decode cX5_likely 27 = .ok (.aload_n 0, 1) := by decide +kernel
theorem dX5_likely_28 : decode cX5_likely 28 = .ok (.invokevirtual 216, 3) := by decide +kernel
theorem dX5_likely_31 : decode cX5_likely 31 = .ok (.iload_n 2, 1) := by decide +kernel
theorem dX5_likely_32 : decode cX5_likely 32 = .ok (.invokestatic 220, 3) := by decide +kernel
theorem dX5_likely_35 : decode cX5_likely 35 = .ok (.goto 9, 3) := by decide +kernel
theorem dX5_likely_38 : decode cX5_likely 38 = .ok (.aload_n 0, 1) := by decide +kernel
theorem dX5_likely_39 : decode cX5_likely 39 = .ok (.bipush (-2), 2) := by decide +kernel
theorem dX5_likely_41 : decode cX5_likely 41 = .ok (.invokevirtual 197, 3) := by decide +kernel
theorem dX5_likely_44 : decode cX5_likely 44 = .ok (.lreturn, 1) := by decide +kernel
theorem dX5_sure_0 : decode cX5_sure 0 = .ok (.iload_n 1, 1) := by decide +kernel
theorem dX5_sure_1 : decode cX5_sure 1 = .ok (.iconst 0, 1) := by decide +kernel
theorem dX5_sure_2 : decode cX5_sure 2 = .ok (.iconst 1, 1) := by decide +kernel
theorem dX5_sure_3 : decode cX5_sure 3 = .ok (.invokestatic 77, 3) := by decide +kernel
theorem dX5_sure_6 : decode cX5_sure 6 = .ok (.ifCond .ne 8, 3) := by decide +kernel
theorem dX5_sure_9 : decode cX5_sure 9 = .ok (.bipush (-2), 2) := by decide +kernel
theorem dX5_sure_11 : decode cX5_sure 11 = .ok (.goto 14, 3) := by decide +kernel
theorem dX5_sure_14 : decode cX5_sure 14 = .ok (.iload_n 2, 1) := by decide +kernel
theorem dX5_sure_15 : decode cX5_sure 15 = .ok (.iconst (-1), 1) := by decide +kernel
theorem dX5_sure_16 : decode cX5_sure 16 = .ok (.if_icmp .ge 8, 3) := by decide +kernel
theorem dX5_sure_19 : decode cX5_sure 19 = .ok (.bipush (-4), 2) := by decide +kernel
theorem dX5_sure_21 : decode cX5_sure 21 = .ok (.goto 4, 3) := by decide +kernel
theorem dX5_sure_24 : decode cX5_sure 24 = .ok (.iconst 0, 1) := by decide +kernel
theorem dX5_sure_25 : decode cX5_sure 25 = .ok (.istore_n 3, 1) := by decide +kernel
theorem dX5_sure_26 : decode cX5_sure 26 = .ok (.iload_n 3, 1) := by decide +kernel
theorem dX5_sure_27 : decode cX5_sure 27 = .ok (.ifCond .eq 9, 3) := by decide +kernel
theorem dX5_sure_30 : decode cX5_sure 30 = .ok (.aload_n 0, 1) := by decide +kernel
theorem dX5_sure_31 : decode cX5_sure 31 = .ok (.iload_n 3, 1) := by decide +kernel
theorem dX5_sure_32 : decode cX5_sure 32 = .ok (.invokevirtual 66, 3) := by decide +kernel
theorem dX5_sure_35 : decode cX5_sure 35 = .ok (.ireturn, 1) := by decide +kernel
theorem dX5_sure_36 : decode cX5_sure 36 = .ok (.iconst 0, 1) := by decide +kernel
theorem dX5_sure_37 : decode cX5_sure 37 = .ok (.istore 4, 2) := by decide +kernel
theorem dX5_sure_39 : decode cX5_sure 39 = .ok (.iconst 0, 1) := by decide +kernel
theorem dX5_sure_40 : decode cX5_sure 40 = .ok (.istore 5, 2) := by decide +kernel
theorem dX5_sure_42 : decode cX5_sure 42 = .ok (.iload 5, 2) := by decide +kernel
theorem dX5_sure_44 : decode cX5_sure 44 = .ok (.bipush 48, 2) := by decide +kernel
theorem dX5_sure_46 : decode cX5_sure 46 = .ok (.if_icmp .ge 46, 3) := by decide +kernel
theorem dX5_sure_49 : decode cX5_sure 49 = .ok (.aload_n 0, 1) := by decide +kernel
theorem dX5_sure_50 : decode cX5_sure 50 = .ok (.iload 5, 2) := by decide +kernel
theorem dX5_sure_52 : decode cX5_sure 52 = .ok (.invokevirtual 213, 3) := by decide +kernel
theorem dX5_sure_55 : decode cX5_sure 55 = .ok (.iload_n 1, 1) := by decide +kernel
theorem dX5_sure_56 : decode cX5_sure 56 = .ok (.ifCond .ne 10, 3) := by decide +kernel
theorem dX5_sure_59 : decode cX5_sure 59 = .ok (.aload_n 0, 1) := by decide +kernel
theorem dX5_sure_60 : decode cX5_sure 60 = .ok (.invokevirtual 216, 3) := by decide +kernel
theorem dX5_sure_63 : decode cX5_sure 63 = .ok (.goto 4, 3) := by decide +kernel
theorem dX5_sure_66 : decode cX5_sure 66 = .ok (.lconst 0, 1) := by decide +kernel
theorem dX5_sure_67 : decode cX5_sure 67 = .ok (.lcmp, 1) := by decide +kernel
theorem dX5_sure_68 : decode cX5_sure 68 = .ok (.ifCond .eq 6, 3) := by decide +kernel
theorem dX5_sure_71 : decode cX5_sure 71 = .ok (.goto 15, 3) := by decide +kernel
theorem dX5_sure_74 : decode cX5_sure 74 = .ok (.iload 4, 2) := by decide +kernel
theorem dX5_sure_76 : decode cX5_sure 76 = .ok (.iload_n 2, 1) := by decide +kernel
theorem dX5_sure_77 : decode cX5_sure 77 = .ok (.if_icmp .ne 6, 3) := by decide +kernel
theorem dX5_sure_80 : decode cX5_sure 80 = .ok (.iload 5, 2) := by decide +kernel
theorem dX5_sure_82 : decode cX5_sure 82 = .ok (.ireturn, 1) := by decide +kernel
theorem dX5_sure_83 : decode cX5_sure 83 = .ok (.iinc 4 1, 3) := by decide +kernel
theorem dX5_sure_86 : decode cX5_sure 86 = .ok (.iinc 5 1, 3) := by decide +kernel
theorem dX5_sure_89 : decode cX5_sure 89 = .ok (.goto (-47), 3) := by decide +kernel
theorem dX5_sure_92 : decode cX5_sure 92 = .ok (.iload_n 2, 1) := by decide +kernel
theorem dX5_sure_93 : decode cX5_sure 93 = .ok (.ifCond .ge 8, 3) := by decide +kernel
theorem dX5_sure_96 : decode cX5_sure 96 = .ok (.iload 4, 2) := by decide +kernel
theorem dX5_sure_98 : decode cX5_sure 98 = .ok (.goto 5, 3) := by decide +kernel
theorem dX5_sure_101 : decode cX5_sure 101 = .ok (.bipush (-9), 2) := by decide +kernel
theorem dX5_sure_103 : decode cX5_sure 103 = .ok (.ireturn, 1) := by decide +kernel
theorem dX5_bestNow_0 : decode cX5_bestNow 0 = .ok (.iconst 0, 1) := by decide +kernel
theorem dX5_bestNow_1 : decode cX5_bestNow 1 = .ok (.istore_n 1, 1) := by decide +kernel
theorem dX5_bestNow_2 : decode cX5_bestNow 2 = .ok (.iconst 1, 1) := by decide +kernel
theorem dX5_bestNow_3 : decode cX5_bestNow 3 = .ok (.istore_n 2, 1) := by decide +kernel
theorem dX5_bestNow_4 : decode cX5_bestNow 4 = .ok (.iload_n 2, 1) := by decide +kernel
theorem dX5_bestNow_5 : decode cX5_bestNow 5 = .ok (.bipush 48, 2) := by decide +kernel
theorem dX5_bestNow_7 : decode cX5_bestNow 7 = .ok (.if_icmp .ge 29, 3) := by decide +kernel
theorem dX5_bestNow_10 : decode cX5_bestNow 10 = .ok (.aload_n 0, 1) := by decide +kernel
theorem dX5_bestNow_11 : decode cX5_bestNow 11 = .ok (.iload_n 2, 1) := by decide +kernel
theorem dX5_bestNow_12 : decode cX5_bestNow 12 = .ok (.invokevirtual 213, 3) := by decide +kernel
theorem dX5_bestNow_15 : decode cX5_bestNow 15 = .ok (.aload_n 0, 1) := by decide +kernel
theorem dX5_bestNow_16 : decode cX5_bestNow 16 = .ok (.iload_n 1, 1) := by decide +kernel
theorem dX5_bestNow_17 : decode cX5_bestNow 17 = .ok (.invokevirtual 213, 3) := by decide +kernel
theorem dX5_bestNow_20 : decode cX5_bestNow 20 = .ok (.lcmp, 1) := by decide +kernel
theorem dX5_bestNow_21 : decode cX5_bestNow 21 = .ok (.ifCond .le 7, 3) := by decide +kernel
theorem dX5_bestNow_24 : decode cX5_bestNow 24 = .ok (.iload_n 2, 1) := by decide +kernel
theorem dX5_bestNow_25 : decode cX5_bestNow 25 = .ok (.goto 4, 3) := by decide +kernel
theorem dX5_bestNow_28 : decode cX5_bestNow 28 = .ok (.iload_n 1, 1) := by decide +kernel
theorem dX5_bestNow_29 : decode cX5_bestNow 29 = .ok (.istore_n 1, 1) := by decide +kernel
theorem dX5_bestNow_30 : decode cX5_bestNow 30 = .ok (.iinc 2 1, 3) := by decide +kernel
theorem dX5_bestNow_33 : decode cX5_bestNow 33 = .ok (.goto (-29), 3) := by decide +kernel
theorem dX5_bestNow_36 : decode cX5_bestNow 36 = .ok (.iload_n 1, 1) := by decide +kernel
theorem dX5_bestNow_37 : decode cX5_bestNow 37 = .ok (.ireturn, 1) := by decide +kernel
theorem dX5_best_0 : decode cX5_best 0 = .ok (.aload_n 0, 1) := by decide +kernel
theorem dX5_best_1 : decode cX5_best 1 = .ok (.invokevirtual 224, 3) := by decide +kernel
theorem dX5_best_4 : decode cX5_best 4 = .ok (.ireturn, 1) := by decide +kernel
theorem dX5_safeAt_0 : decode cX5_safeAt 0 = .ok (.aload_n 0, 1) := by decide +kernel
theorem dX5_safeAt_1 : decode cX5_safeAt 1 = .ok (.iload_n 1, 1) := by decide +kernel
theorem dX5_safeAt_2 : decode cX5_safeAt 2 = .ok (.invokevirtual 213, 3) := by decide +kernel
theorem dX5_safeAt_5 : decode cX5_safeAt 5 = .ok (.bipush 10, 2) := by decide +kernel
theorem dX5_safeAt_7 : decode cX5_safeAt 7 = .ok (.aload_n 0, 1) := by decide +kernel
theorem dX5_safeAt_8 : decode cX5_safeAt 8 = .ok (.iload_n 1, 1) := by decide +kernel
theorem dX5_safeAt_9 : decode cX5_safeAt 9 = .ok (.invokevirtual 207, 3) := by decide +kernel
theorem dX5_safeAt_12 : decode cX5_safeAt 12 = .ok (.isub, 1) := by decide +kernel
theorem dX5_safeAt_13 : decode cX5_safeAt 13 = .ok (.i2l, 1) := by decide +kernel
theorem dX5_safeAt_14 : decode cX5_safeAt 14 = .ok (.lmul, 1) := by decide +kernel
theorem dX5_safeAt_15 : decode cX5_safeAt 15 = .ok (.lreturn, 1) := by decide +kernel
theorem dX5_safest_0 : decode cX5_safest 0 = .ok (.iconst 0, 1) := by decide +kernel
theorem dX5_safest_1 : decode cX5_safest 1 = .ok (.istore_n 1, 1) := by decide +kernel
theorem dX5_safest_2 : decode cX5_safest 2 = .ok (.iconst 1, 1) := by decide +kernel
theorem dX5_safest_3 : decode cX5_safest 3 = .ok (.istore_n 2, 1) := by decide +kernel
theorem dX5_safest_4 : decode cX5_safest 4 = .ok (.iload_n 2, 1) := by decide +kernel
theorem dX5_safest_5 : decode cX5_safest 5 = .ok (.bipush 48, 2) := by decide +kernel
theorem dX5_safest_7 : decode cX5_safest 7 = .ok (.if_icmp .ge 29, 3) := by decide +kernel
theorem dX5_safest_10 : decode cX5_safest 10 = .ok (.aload_n 0, 1) := by decide +kernel
theorem dX5_safest_11 : decode cX5_safest 11 = .ok (.iload_n 2, 1) := by decide +kernel
theorem dX5_safest_12 : decode cX5_safest 12 = .ok (.invokevirtual 227, 3) := by decide +kernel
theorem dX5_safest_15 : decode cX5_safest 15 = .ok (.aload_n 0, 1) := by decide +kernel
theorem dX5_safest_16 : decode cX5_safest 16 = .ok (.iload_n 1, 1) := by decide +kernel
theorem dX5_safest_17 : decode cX5_safest 17 = .ok (.invokevirtual 227, 3) := by decide +kernel
theorem dX5_safest_20 : decode cX5_safest 20 = .ok (.lcmp, 1) := by decide +kernel
theorem dX5_safest_21 : decode cX5_safest 21 = .ok (.ifCond .le 7, 3) := by decide +kernel
theorem dX5_safest_24 : decode cX5_safest 24 = .ok (.iload_n 2, 1) := by decide +kernel
theorem dX5_safest_25 : decode cX5_safest 25 = .ok (.goto 4, 3) := by decide +kernel
theorem dX5_safest_28 : decode cX5_safest 28 = .ok (.iload_n 1, 1) := by decide +kernel
theorem dX5_safest_29 : decode cX5_safest 29 = .ok (.istore_n 1, 1) := by decide +kernel
theorem dX5_safest_30 : decode cX5_safest 30 = .ok (.iinc 2 1, 3) := by decide +kernel
theorem dX5_safest_33 : decode cX5_safest 33 = .ok (.goto (-29), 3) := by decide +kernel
theorem dX5_safest_36 : decode cX5_safest 36 = .ok (.iload_n 1, 1) := by decide +kernel
theorem dX5_safest_37 : decode cX5_safest 37 = .ok (.ireturn, 1) := by decide +kernel
theorem dX5_holesBy_0 : decode cX5_holesBy 0 = .ok (.iconst 0, 1) := by decide +kernel
theorem dX5_holesBy_1 : decode cX5_holesBy 1 = .ok (.istore_n 3, 1) := by decide +kernel
theorem dX5_holesBy_2 : decode cX5_holesBy 2 = .ok (.iload_n 3, 1) := by decide +kernel
theorem dX5_holesBy_3 : decode cX5_holesBy 3 = .ok (.bipush 48, 2) := by decide +kernel
theorem dX5_holesBy_5 : decode cX5_holesBy 5 = .ok (.if_icmp .ge 34, 3) := by decide +kernel
theorem dX5_holesBy_8 : decode cX5_holesBy 8 = .ok (.aload_n 0, 1) := by decide +kernel
theorem dX5_holesBy_9 : decode cX5_holesBy 9 = .ok (.iload_n 1, 1) := by decide +kernel
theorem dX5_holesBy_10 : decode cX5_holesBy 10 = .ok (.iload_n 3, 1) := by decide +kernel
theorem dX5_holesBy_11 : decode cX5_holesBy 11 = .ok (.aload_n 0, 1) := by decide +kernel
theorem dX5_holesBy_12 : decode cX5_holesBy 12 = .ok (.getfield 13, 3) := by decide +kernel
theorem dX5_holesBy_15 : decode cX5_holesBy 15 = .ok (.iconst 1, 1) := by decide +kernel
theorem dX5_holesBy_16 : decode cX5_holesBy 16 = .ok (.iaload, 1) := by decide +kernel
theorem dX5_holesBy_17 : decode cX5_holesBy 17 = .ok (.imul, 1) := by decide +kernel
theorem dX5_holesBy_18 : decode cX5_holesBy 18 = .ok (.iadd, 1) := by decide +kernel
theorem dX5_holesBy_19 : decode cX5_holesBy 19 = .ok (.bipush 48, 2) := by decide +kernel
theorem dX5_holesBy_21 : decode cX5_holesBy 21 = .ok (.irem, 1) := by decide +kernel
theorem dX5_holesBy_22 : decode cX5_holesBy 22 = .ok (.iload_n 2, 1) := by decide +kernel
theorem dX5_holesBy_23 : decode cX5_holesBy 23 = .ok (.invokevirtual 171, 3) := by decide +kernel
theorem dX5_holesBy_26 : decode cX5_holesBy 26 = .ok (.ifCond .eq 7, 3) := by decide +kernel
theorem dX5_holesBy_29 : decode cX5_holesBy 29 = .ok (.iload_n 3, 1) := by decide +kernel
theorem dX5_holesBy_30 : decode cX5_holesBy 30 = .ok (.iconst 1, 1) := by decide +kernel
theorem dX5_holesBy_31 : decode cX5_holesBy 31 = .ok (.iadd, 1) := by decide +kernel
theorem dX5_holesBy_32 : decode cX5_holesBy 32 = .ok (.ireturn, 1) := by decide +kernel
theorem dX5_holesBy_33 : decode cX5_holesBy 33 = .ok (.iinc 3 1, 3) := by decide +kernel
theorem dX5_holesBy_36 : decode cX5_holesBy 36 = .ok (.goto (-34), 3) := by decide +kernel
theorem dX5_holesBy_39 : decode cX5_holesBy 39 = .ok (.bipush (-9), 2) := by decide +kernel
theorem dX5_holesBy_41 : decode cX5_holesBy 41 = .ok (.ireturn, 1) := by decide +kernel
theorem dX5_holes_0 : decode cX5_holes 0 = .ok (.iload_n 1, 1) := by decide +kernel
theorem dX5_holes_1 : decode cX5_holes 1 = .ok (.invokestatic 113, 3) := by decide +kernel
theorem dX5_holes_4 : decode cX5_holes 4 = .ok (.ifCond .ne 9, 3) := by decide +kernel
theorem dX5_holes_7 : decode cX5_holes 7 = .ok (.aload_n 0, 1) := by decide +kernel
theorem dX5_holes_8 : decode cX5_holes 8 = .ok (.iconst (-1), 1) := by decide +kernel
theorem dX5_holes_9 : decode cX5_holes 9 = .ok (.invokevirtual 66, 3) := by decide +kernel
theorem dX5_holes_12 : decode cX5_holes 12 = .ok (.ireturn, 1) := by decide +kernel
theorem dX5_holes_13 : decode cX5_holes 13 = .ok (.iconst 0, 1) := by decide +kernel
theorem dX5_holes_14 : decode cX5_holes 14 = .ok (.istore_n 2, 1) := by decide +kernel
theorem dX5_holes_15 : decode cX5_holes 15 = .ok (.iconst 0, 1) := by decide +kernel
theorem dX5_holes_16 : decode cX5_holes 16 = .ok (.istore_n 3, 1) := by decide +kernel
theorem dX5_holes_17 : decode cX5_holes 17 = .ok (.iload_n 3, 1) := by decide +kernel
theorem dX5_holes_18 : decode cX5_holes 18 = .ok (.aload_n 0, 1) := by decide +kernel
theorem dX5_holes_19 : decode cX5_holes 19 = .ok (.getfield 13, 3) := by decide +kernel
theorem dX5_holes_22 : decode cX5_holes 22 = .ok (.iconst 0, 1) := by decide +kernel
theorem dX5_holes_23 : decode cX5_holes 23 = .ok (.iaload, 1) := by decide +kernel
theorem dX5_holes_24 : decode cX5_holes 24 = .ok (.if_icmp .ge 51, 3) := by decide +kernel
theorem dX5_holes_27 : decode cX5_holes 27 = .ok (.aload_n 0, 1) := by decide +kernel
theorem dX5_holes_28 : decode cX5_holes 28 = .ok (.getfield 25, 3) := by decide +kernel
theorem dX5_holes_31 : decode cX5_holes 31 = .ok (.iload_n 3, 1) := by decide +kernel
theorem dX5_holes_32 : decode cX5_holes 32 = .ok (.iaload, 1) := by decide +kernel
theorem dX5_holes_33 : decode cX5_holes 33 = .ok (.ifCond .ne 7, 3) := by decide +kernel
theorem dX5_holes_36 : decode cX5_holes 36 = .ok (.iconst 0, 1) := by decide +kernel
theorem dX5_holes_37 : decode cX5_holes 37 = .ok (.goto 9, 3) := by decide +kernel
theorem dX5_holes_40 : decode cX5_holes 40 = .ok (.aload_n 0, 1) := by decide +kernel
theorem dX5_holes_41 : decode cX5_holes 41 = .ok (.iload_n 1, 1) := by decide +kernel
theorem dX5_holes_42 : decode cX5_holes 42 = .ok (.iload_n 3, 1) := by decide +kernel
theorem dX5_holes_43 : decode cX5_holes 43 = .ok (.invokevirtual 230, 3) := by decide +kernel
theorem dX5_holes_46 : decode cX5_holes 46 = .ok (.istore 4, 2) := by decide +kernel
theorem dX5_holes_48 : decode cX5_holes 48 = .ok (.iload 4, 2) := by decide +kernel
theorem dX5_holes_50 : decode cX5_holes 50 = .ok (.ifCond .ge 6, 3) := by decide +kernel
theorem dX5_holes_53 : decode cX5_holes 53 = .ok (.bipush (-9), 2) := by decide +kernel
theorem dX5_holes_55 : decode cX5_holes 55 = .ok (.ireturn, 1) := by decide +kernel
theorem dX5_holes_56 : decode cX5_holes 56 = .ok (.iload 4, 2) := by decide +kernel
theorem dX5_holes_58 : decode cX5_holes 58 = .ok (.iload_n 2, 1) := by decide +kernel
theorem dX5_holes_59 : decode cX5_holes 59 = .ok (.if_icmp .le 8, 3) := by decide +kernel
theorem dX5_holes_62 : decode cX5_holes 62 = .ok (.iload 4, 2) := by decide +kernel
theorem dX5_holes_64 : decode cX5_holes 64 = .ok (.goto 4, 3) := by decide +kernel
theorem dX5_holes_67 : decode cX5_holes 67 = .ok (.iload_n 2, 1) := by decide +kernel
theorem dX5_holes_68 : decode cX5_holes 68 = .ok (.istore_n 2, 1) := by decide +kernel
theorem dX5_holes_69 : decode cX5_holes 69 = .ok (.iinc 3 1, 3) := by decide +kernel
theorem dX5_holes_72 : decode cX5_holes 72 = .ok (.goto (-55), 3) := by decide +kernel
theorem dX5_holes_75 : decode cX5_holes 75 = .ok (.iload_n 2, 1) := by decide +kernel
theorem dX5_holes_76 : decode cX5_holes 76 = .ok (.ireturn, 1) := by decide +kernel
theorem dX5_holesAll_0 : decode cX5_holesAll 0 = .ok (.lconst 0, 1) := by decide +kernel
theorem dX5_holesAll_1 : decode cX5_holesAll 1 = .ok (.lstore_n 2, 1) := by decide +kernel
theorem dX5_holesAll_2 : decode cX5_holesAll 2 = .ok (.iconst 0, 1) := by decide +kernel
theorem dX5_holesAll_3 : decode cX5_holesAll 3 = .ok (.istore 4, 2) := by decide +kernel
theorem dX5_holesAll_5 : decode cX5_holesAll 5 = .ok (.iload 4, 2) := by decide +kernel
theorem dX5_holesAll_7 : decode cX5_holesAll 7 = .ok (.aload_n 0, 1) := by decide +kernel
theorem dX5_holesAll_8 : decode cX5_holesAll 8 = .ok (.getfield 13, 3) := by decide +kernel
theorem dX5_holesAll_11 : decode cX5_holesAll 11 = .ok (.iconst 0, 1) := by decide +kernel
theorem dX5_holesAll_12 : decode cX5_holesAll 12 = .ok (.iaload, 1) := by decide +kernel
theorem dX5_holesAll_13 : decode cX5_holesAll 13 = .ok (.if_icmp .ge 43, 3) := by decide +kernel
theorem dX5_holesAll_16 : decode cX5_holesAll 16 = .ok (.aload_n 0, 1) := by decide +kernel
theorem dX5_holesAll_17 : decode cX5_holesAll 17 = .ok (.iload_n 1, 1) := by decide +kernel
theorem dX5_holesAll_18 : decode cX5_holesAll 18 = .ok (.iload 4, 2) := by decide +kernel
theorem dX5_holesAll_20 : decode cX5_holesAll 20 = .ok (.invokevirtual 230, 3) := by decide +kernel
theorem dX5_holesAll_23 : decode cX5_holesAll 23 = .ok (.istore 5, 2) := by decide +kernel
theorem dX5_holesAll_25 : decode cX5_holesAll 25 = .ok (.lload_n 2, 1) := by decide +kernel
theorem dX5_holesAll_26 : decode cX5_holesAll 26 = .ok (.aload_n 0, 1) := by decide +kernel
theorem dX5_holesAll_27 : decode cX5_holesAll 27 = .ok (.getfield 25, 3) := by decide +kernel
theorem dX5_holesAll_30 : decode cX5_holesAll 30 = .ok (.iload 4, 2) := by decide +kernel
theorem dX5_holesAll_32 : decode cX5_holesAll 32 = .ok (.iaload, 1) := by decide +kernel
theorem dX5_holesAll_33 : decode cX5_holesAll 33 = .ok (.i2l, 1) := by decide +kernel
theorem dX5_holesAll_34 : decode cX5_holesAll 34 = .ok (.iload 5, 2) := by decide +kernel
theorem dX5_holesAll_36 : decode cX5_holesAll 36 = .ok (.ifCond .ge 8, 3) := by decide +kernel
theorem dX5_holesAll_39 : decode cX5_holesAll 39 = .ok (.bipush 48, 2) := by decide +kernel
theorem dX5_holesAll_41 : decode cX5_holesAll 41 = .ok (.goto 5, 3) := by decide +kernel
theorem dX5_holesAll_44 : decode cX5_holesAll 44 = .ok (.iload 5, 2) := by decide +kernel
theorem dX5_holesAll_46 : decode cX5_holesAll 46 = .ok (.i2l, 1) := by decide +kernel
theorem dX5_holesAll_47 : decode cX5_holesAll 47 = .ok (.lmul, 1) := by decide +kernel
theorem dX5_holesAll_48 : decode cX5_holesAll 48 = .ok (.ladd, 1) := by decide +kernel
theorem dX5_holesAll_49 : decode cX5_holesAll 49 = .ok (.lstore_n 2, 1) := by decide +kernel
theorem dX5_holesAll_50 : decode cX5_holesAll 50 = .ok (.iinc 4 1, 3) := by decide +kernel
theorem dX5_holesAll_53 : decode cX5_holesAll 53 = .ok (.goto (-48), 3) := by decide +kernel
theorem dX5_holesAll_56 : decode cX5_holesAll 56 = .ok (.lload_n 2, 1) := by decide +kernel
theorem dX5_holesAll_57 : decode cX5_holesAll 57 = .ok (.lreturn, 1) := by decide +kernel
theorem dX5_mean_0 : decode cX5_mean 0 = .ok (.iload_n 1, 1) := by decide +kernel
theorem dX5_mean_1 : decode cX5_mean 1 = .ok (.invokestatic 113, 3) := by decide +kernel
theorem dX5_mean_4 : decode cX5_mean 4 = .ok (.ifCond .ne 9, 3) := by decide +kernel
theorem dX5_mean_7 : decode cX5_mean 7 = .ok (.aload_n 0, 1) := by decide +kernel
theorem dX5_mean_8 : decode cX5_mean 8 = .ok (.iconst (-1), 1) := by decide +kernel
theorem dX5_mean_9 : decode cX5_mean 9 = .ok (.invokevirtual 197, 3) := by decide +kernel
theorem dX5_mean_12 : decode cX5_mean 12 = .ok (.lreturn, 1) := by decide +kernel
theorem dX5_mean_13 : decode cX5_mean 13 = .ok (.iload_n 2, 1) := by decide +kernel
theorem dX5_mean_14 : decode cX5_mean 14 = .ok (.iconst 0, 1) := by decide +kernel
theorem dX5_mean_15 : decode cX5_mean 15 = .ok (.iconst 1, 1) := by decide +kernel
theorem dX5_mean_16 : decode cX5_mean 16 = .ok (.invokestatic 77, 3) := by decide +kernel
theorem dX5_mean_19 : decode cX5_mean 19 = .ok (.ifCond .eq 19, 3) := by decide +kernel
theorem dX5_mean_22 : decode cX5_mean 22 = .ok (.aload_n 0, 1) := by decide +kernel
theorem dX5_mean_23 : decode cX5_mean 23 = .ok (.iload_n 1, 1) := by decide +kernel
theorem dX5_mean_24 : decode cX5_mean 24 = .ok (.invokevirtual 233, 3) := by decide +kernel
theorem dX5_mean_27 : decode cX5_mean 27 = .ok (.aload_n 0, 1) := by decide +kernel
theorem dX5_mean_28 : decode cX5_mean 28 = .ok (.invokevirtual 216, 3) := by decide +kernel
theorem dX5_mean_31 : decode cX5_mean 31 = .ok (.iload_n 2, 1) := by decide +kernel
theorem dX5_mean_32 : decode cX5_mean 32 = .ok (.invokestatic 220, 3) := by decide +kernel
theorem dX5_mean_35 : decode cX5_mean 35 = .ok (.goto 9, 3) := by decide +kernel
theorem dX5_mean_38 : decode cX5_mean 38 = .ok (.aload_n 0, 1) := by decide +kernel
theorem dX5_mean_39 : decode cX5_mean 39 = .ok (.bipush (-2), 2) := by decide +kernel
theorem dX5_mean_41 : decode cX5_mean 41 = .ok (.invokevirtual 197, 3) := by decide +kernel
theorem dX5_mean_44 : decode cX5_mean 44 = .ok (.lreturn, 1) := by decide +kernel
theorem dX5_from_0 : decode cX5_from 0 = .ok (.iconst 0, 1) := by decide +kernel
theorem dX5_from_1 : decode cX5_from 1 = .ok (.istore_n 1, 1) := by decide +kernel
theorem dX5_from_2 : decode cX5_from 2 = .ok (.iconst 1, 1) := by decide +kernel
theorem dX5_from_3 : decode cX5_from 3 = .ok (.istore_n 2, 1) := by decide +kernel
theorem dX5_from_4 : decode cX5_from 4 = .ok (.iload_n 2, 1) := by decide +kernel
theorem dX5_from_5 : decode cX5_from 5 = .ok (.bipush 48, 2) := by decide +kernel
theorem dX5_from_7 : decode cX5_from 7 = .ok (.if_icmp .ge 29, 3) := by decide +kernel
theorem dX5_from_10 : decode cX5_from 10 = .ok (.aload_n 0, 1) := by decide +kernel
theorem dX5_from_11 : decode cX5_from 11 = .ok (.iload_n 2, 1) := by decide +kernel
theorem dX5_from_12 : decode cX5_from 12 = .ok (.invokevirtual 233, 3) := by decide +kernel
theorem dX5_from_15 : decode cX5_from 15 = .ok (.aload_n 0, 1) := by decide +kernel
theorem dX5_from_16 : decode cX5_from 16 = .ok (.iload_n 1, 1) := by decide +kernel
theorem dX5_from_17 : decode cX5_from 17 = .ok (.invokevirtual 233, 3) := by decide +kernel
theorem dX5_from_20 : decode cX5_from 20 = .ok (.lcmp, 1) := by decide +kernel
theorem dX5_from_21 : decode cX5_from 21 = .ok (.ifCond .ge 7, 3) := by decide +kernel
theorem dX5_from_24 : decode cX5_from 24 = .ok (.iload_n 2, 1) := by decide +kernel
theorem dX5_from_25 : decode cX5_from 25 = .ok (.goto 4, 3) := by decide +kernel
theorem dX5_from_28 : decode cX5_from 28 = .ok (.iload_n 1, 1) := by decide +kernel
theorem dX5_from_29 : decode cX5_from 29 = .ok (.istore_n 1, 1) := by decide +kernel
theorem dX5_from_30 : decode cX5_from 30 = .ok (.iinc 2 1, 3) := by decide +kernel
theorem dX5_from_33 : decode cX5_from 33 = .ok (.goto (-29), 3) := by decide +kernel
theorem dX5_from_36 : decode cX5_from 36 = .ok (.iload_n 1, 1) := by decide +kernel
theorem dX5_from_37 : decode cX5_from 37 = .ok (.ireturn, 1) := by decide +kernel
theorem dX5_greatestBehind_0 : decode cX5_greatestBehind 0 = .ok (.iconst 0, 1) := by decide +kernel
theorem dX5_greatestBehind_1 : decode cX5_greatestBehind 1 = .ok (.istore 4, 2) := by decide +kernel
theorem dX5_greatestBehind_3 : decode cX5_greatestBehind 3 = .ok (.iload 4, 2) := by decide +kernel
theorem dX5_greatestBehind_5 : decode cX5_greatestBehind 5 = .ok (.aload_n 0, 1) := by decide +kernel
theorem dX5_greatestBehind_6 : decode cX5_greatestBehind 6 = .ok (.getfield 13, 3) := by decide +kernel
theorem dX5_greatestBehind_9 : decode cX5_greatestBehind 9 = .ok (.iconst 0, 1) := by decide +kernel
theorem dX5_greatestBehind_10 : decode cX5_greatestBehind 10 = .ok (.iaload, 1) := by decide +kernel
theorem dX5_greatestBehind_11 : decode cX5_greatestBehind 11 = .ok (.if_icmp .ge 35, 3) := by decide +kernel
theorem dX5_greatestBehind_14 : decode cX5_greatestBehind 14 = .ok (.aload_n 0, 1) := by decide +kernel
theorem dX5_greatestBehind_15 : decode cX5_greatestBehind 15 = .ok (.getfield 43, 3) := by decide +kernel
theorem dX5_greatestBehind_18 : decode cX5_greatestBehind 18 = .ok (.iload 4, 2) := by decide +kernel
theorem dX5_greatestBehind_20 : decode cX5_greatestBehind 20 = .ok (.aload_n 0, 1) := by decide +kernel
theorem dX5_greatestBehind_21 : decode cX5_greatestBehind 21 = .ok (.getfield 25, 3) := by decide +kernel
theorem dX5_greatestBehind_24 : decode cX5_greatestBehind 24 = .ok (.iload 4, 2) := by decide +kernel
theorem dX5_greatestBehind_26 : decode cX5_greatestBehind 26 = .ok (.iaload, 1) := by decide +kernel
theorem dX5_greatestBehind_27 : decode cX5_greatestBehind 27 = .ok (.i2l, 1) := by decide +kernel
theorem dX5_greatestBehind_28 : decode cX5_greatestBehind 28 = .ok (.aload_n 0, 1) := by decide +kernel
theorem dX5_greatestBehind_29 : decode cX5_greatestBehind 29 = .ok (.iload_n 1, 1) := by decide +kernel
theorem dX5_greatestBehind_30 : decode cX5_greatestBehind 30 = .ok (.iload_n 2, 1) := by decide +kernel
theorem dX5_greatestBehind_31 : decode cX5_greatestBehind 31 = .ok (.iload_n 3, 1) := by decide +kernel
theorem dX5_greatestBehind_32 : decode cX5_greatestBehind 32 = .ok (.iload 4, 2) := by decide +kernel
theorem dX5_greatestBehind_34 : decode cX5_greatestBehind 34 = .ok (.invokevirtual 184, 3) := by decide +kernel
theorem dX5_greatestBehind_37 : decode cX5_greatestBehind 37 = .ok (.i2l, 1) := by decide +kernel
theorem dX5_greatestBehind_38 : decode cX5_greatestBehind 38 = .ok (.lmul, 1) := by decide +kernel
theorem dX5_greatestBehind_39 : decode cX5_greatestBehind 39 = .ok (.lastore, 1) := by decide +kernel
theorem dX5_greatestBehind_40 : decode cX5_greatestBehind 40 = .ok (.iinc 4 1, 3) := by decide +kernel
theorem dX5_greatestBehind_43 : decode cX5_greatestBehind 43 = .ok (.goto (-40), 3) := by decide +kernel
theorem dX5_greatestBehind_46 : decode cX5_greatestBehind 46 = .ok (.lconst 0, 1) := by decide +kernel
theorem dX5_greatestBehind_47 : decode cX5_greatestBehind 47 = .ok (.lstore 4, 2) := by decide +kernel
theorem dX5_greatestBehind_49 : decode cX5_greatestBehind 49 = .ok (.iconst 0, 1) := by decide +kernel
theorem dX5_greatestBehind_50 : decode cX5_greatestBehind 50 = .ok (.istore 6, 2) := by decide +kernel
theorem dX5_greatestBehind_52 : decode cX5_greatestBehind 52 = .ok (.iload 6, 2) := by decide +kernel
theorem dX5_greatestBehind_54 : decode cX5_greatestBehind 54 = .ok (.bipush 48, 2) := by decide +kernel
theorem dX5_greatestBehind_56 : decode cX5_greatestBehind 56 = .ok (.if_icmp .ge 76, 3) := by decide +kernel
theorem dX5_greatestBehind_59 : decode cX5_greatestBehind 59 = .ok (.lconst 0, 1) := by decide +kernel
theorem dX5_greatestBehind_60 : decode cX5_greatestBehind 60 = .ok (.lstore 7, 2) := by decide +kernel
theorem dX5_greatestBehind_62 : decode cX5_greatestBehind 62 = .ok (.iconst 0, 1) := by decide +kernel
theorem dX5_greatestBehind_63 : decode cX5_greatestBehind 63 = .ok (.istore 9, 2) := by decide +kernel
theorem dX5_greatestBehind_65 : decode cX5_greatestBehind 65 = .ok (.iload 9, 2) := by decide +kernel
theorem dX5_greatestBehind_67 : decode cX5_greatestBehind 67 = .ok (.aload_n 0, 1) := by decide +kernel
theorem dX5_greatestBehind_68 : decode cX5_greatestBehind 68 = .ok (.getfield 13, 3) := by decide +kernel
theorem dX5_greatestBehind_71 : decode cX5_greatestBehind 71 = .ok (.iconst 0, 1) := by decide +kernel
theorem dX5_greatestBehind_72 : decode cX5_greatestBehind 72 = .ok (.iaload, 1) := by decide +kernel
theorem dX5_greatestBehind_73 : decode cX5_greatestBehind 73 = .ok (.if_icmp .ge 36, 3) := by decide +kernel
theorem dX5_greatestBehind_76 : decode cX5_greatestBehind 76 = .ok (.lload 7, 2) := by decide +kernel
theorem dX5_greatestBehind_78 : decode cX5_greatestBehind 78 = .ok (.aload_n 0, 1) := by decide +kernel
theorem dX5_greatestBehind_79 : decode cX5_greatestBehind 79 = .ok (.iload 6, 2) := by decide +kernel
theorem dX5_greatestBehind_81 : decode cX5_greatestBehind 81 = .ok (.iload 9, 2) := by decide +kernel
theorem dX5_greatestBehind_83 : decode cX5_greatestBehind 83 = .ok (.invokevirtual 171, 3) := by decide +kernel
theorem dX5_greatestBehind_86 : decode cX5_greatestBehind 86 = .ok (.ifCond .eq 13, 3) := by decide +kernel
theorem dX5_greatestBehind_89 : decode cX5_greatestBehind 89 = .ok (.aload_n 0, 1) := by decide +kernel
theorem dX5_greatestBehind_90 : decode cX5_greatestBehind 90 = .ok (.getfield 43, 3) := by decide +kernel
theorem dX5_greatestBehind_93 : decode cX5_greatestBehind 93 = .ok (.iload 9, 2) := by decide +kernel
theorem dX5_greatestBehind_95 : decode cX5_greatestBehind 95 = .ok (.laload, 1) := by decide +kernel
theorem dX5_greatestBehind_96 : decode cX5_greatestBehind 96 = .ok (.goto 4, 3) := by decide +kernel
theorem dX5_greatestBehind_99 : decode cX5_greatestBehind 99 = .ok (.lconst 0, 1) := by decide +kernel
theorem dX5_greatestBehind_100 : decode cX5_greatestBehind 100 = .ok (.ladd, 1) := by decide +kernel
theorem dX5_greatestBehind_101 : decode cX5_greatestBehind 101 = .ok (.lstore 7, 2) := by decide +kernel
theorem dX5_greatestBehind_103 : decode cX5_greatestBehind 103 = .ok (.iinc 9 1, 3) := by decide +kernel
theorem dX5_greatestBehind_106 : decode cX5_greatestBehind 106 = .ok (.goto (-41), 3) := by decide +kernel
theorem dX5_greatestBehind_109 : decode cX5_greatestBehind 109 = .ok (.lload 7, 2) := by decide +kernel
theorem dX5_greatestBehind_111 : decode cX5_greatestBehind 111 = .ok (.lload 4, 2) := by decide +kernel
theorem dX5_greatestBehind_113 : decode cX5_greatestBehind 113 = .ok (.lcmp, 1) := by decide +kernel
theorem dX5_greatestBehind_114 : decode cX5_greatestBehind 114 = .ok (.ifCond .le 8, 3) := by decide +kernel
theorem dX5_greatestBehind_117 : decode cX5_greatestBehind 117 = .ok (.lload 7, 2) := by decide +kernel
theorem dX5_greatestBehind_119 : decode cX5_greatestBehind 119 = .ok (.goto 5, 3) := by decide +kernel
theorem dX5_greatestBehind_122 : decode cX5_greatestBehind 122 = .ok (.lload 4, 2) := by decide +kernel
theorem dX5_greatestBehind_124 : decode cX5_greatestBehind 124 = .ok (.lstore 4, 2) := by decide +kernel
theorem dX5_greatestBehind_126 : decode cX5_greatestBehind 126 = .ok (.iinc 6 1, 3) := by decide +kernel
theorem dX5_greatestBehind_129 : decode cX5_greatestBehind 129 = .ok (.goto (-77), 3) := by decide +kernel
theorem dX5_greatestBehind_132 : decode cX5_greatestBehind 132 = .ok (.lload 4, 2) := by decide +kernel
theorem dX5_greatestBehind_134 : decode cX5_greatestBehind 134 = .ok (.lreturn, 1) := by decide +kernel
theorem dX5_nextParts_0 : decode cX5_nextParts 0 = .ok (.aload_n 0, 1) := by decide +kernel
theorem dX5_nextParts_1 : decode cX5_nextParts 1 = .ok (.iload_n 1, 1) := by decide +kernel
theorem dX5_nextParts_2 : decode cX5_nextParts 2 = .ok (.iload_n 2, 1) := by decide +kernel
theorem dX5_nextParts_3 : decode cX5_nextParts 3 = .ok (.iconst 1, 1) := by decide +kernel
theorem dX5_nextParts_4 : decode cX5_nextParts 4 = .ok (.invokevirtual 236, 3) := by decide +kernel
theorem dX5_nextParts_7 : decode cX5_nextParts 7 = .ok (.aload_n 0, 1) := by decide +kernel
theorem dX5_nextParts_8 : decode cX5_nextParts 8 = .ok (.iload_n 1, 1) := by decide +kernel
theorem dX5_nextParts_9 : decode cX5_nextParts 9 = .ok (.iload_n 2, 1) := by decide +kernel
theorem dX5_nextParts_10 : decode cX5_nextParts 10 = .ok (.iconst 0, 1) := by decide +kernel
theorem dX5_nextParts_11 : decode cX5_nextParts 11 = .ok (.invokevirtual 236, 3) := by decide +kernel
theorem dX5_nextParts_14 : decode cX5_nextParts 14 = .ok (.ladd, 1) := by decide +kernel
theorem dX5_nextParts_15 : decode cX5_nextParts 15 = .ok (.lreturn, 1) := by decide +kernel
theorem dX5_findNext_0 : decode cX5_findNext 0 = .ok (.aload_n 0, 1) := by decide +kernel
theorem dX5_findNext_1 : decode cX5_findNext 1 = .ok (.iconst 0, 1) := by decide +kernel
theorem dX5_findNext_2 : decode cX5_findNext 2 = .ok (.putfield 240, 3) := by decide +kernel
theorem dX5_findNext_5 : decode cX5_findNext 5 = .ok (.aload_n 0, 1) := by decide +kernel
theorem dX5_findNext_6 : decode cX5_findNext 6 = .ok (.ldc2_w 243, 3) := by decide +kernel
theorem dX5_findNext_9 : decode cX5_findNext 9 = .ok (.putfield 245, 3) := by decide +kernel
theorem dX5_findNext_12 : decode cX5_findNext 12 = .ok (.iconst 0, 1) := by decide +kernel
theorem dX5_findNext_13 : decode cX5_findNext 13 = .ok (.istore_n 2, 1) := by decide +kernel
theorem dX5_findNext_14 : decode cX5_findNext 14 = .ok (.iload_n 2, 1) := by decide +kernel
theorem dX5_findNext_15 : decode cX5_findNext 15 = .ok (.bipush 48, 2) := by decide +kernel
theorem dX5_findNext_17 : decode cX5_findNext 17 = .ok (.if_icmp .ge 38, 3) := by decide +kernel
theorem dX5_findNext_20 : decode cX5_findNext 20 = .ok (.aload_n 0, 1) := by decide +kernel
theorem dX5_findNext_21 : decode cX5_findNext 21 = .ok (.iload_n 1, 1) := by decide +kernel
theorem dX5_findNext_22 : decode cX5_findNext 22 = .ok (.iload_n 2, 1) := by decide +kernel
theorem dX5_findNext_23 : decode cX5_findNext 23 = .ok (.invokevirtual 249, 3) := by decide +kernel
theorem dX5_findNext_26 : decode cX5_findNext 26 = .ok (.lstore_n 3, 1) := by decide +kernel
theorem dX5_findNext_27 : decode cX5_findNext 27 = .ok (.lload_n 3, 1) := by decide +kernel
theorem dX5_findNext_28 : decode cX5_findNext 28 = .ok (.aload_n 0, 1) := by decide +kernel
theorem dX5_findNext_29 : decode cX5_findNext 29 = .ok (.getfield 245, 3) := by decide +kernel
theorem dX5_findNext_32 : decode cX5_findNext 32 = .ok (.lcmp, 1) := by decide +kernel
theorem dX5_findNext_33 : decode cX5_findNext 33 = .ok (.ifCond .gt 6, 3) := by decide +kernel
theorem dX5_findNext_36 : decode cX5_findNext 36 = .ok (.goto 13, 3) := by decide +kernel
theorem dX5_findNext_39 : decode cX5_findNext 39 = .ok (.aload_n 0, 1) := by decide +kernel
theorem dX5_findNext_40 : decode cX5_findNext 40 = .ok (.iload_n 2, 1) := by decide +kernel
theorem dX5_findNext_41 : decode cX5_findNext 41 = .ok (.putfield 240, 3) := by decide +kernel
theorem dX5_findNext_44 : decode cX5_findNext 44 = .ok (.aload_n 0, 1) := by decide +kernel
theorem dX5_findNext_45 : decode cX5_findNext 45 = .ok (.lload_n 3, 1) := by decide +kernel
theorem dX5_findNext_46 : decode cX5_findNext 46 = .ok (.putfield 245, 3) := by decide +kernel
theorem dX5_findNext_49 : decode cX5_findNext 49 = .ok (.iinc 2 1, 3) := by decide +kernel
theorem dX5_findNext_52 : decode cX5_findNext 52 = .ok (.goto (-38), 3) := by decide +kernel
theorem dX5_findNext_55 : decode cX5_findNext 55 = .ok (.return_, 1) := by decide +kernel
theorem dX5_worthParts_0 : decode cX5_worthParts 0 = .ok (.aload_n 0, 1) := by decide +kernel
theorem dX5_worthParts_1 : decode cX5_worthParts 1 = .ok (.iload_n 1, 1) := by decide +kernel
theorem dX5_worthParts_2 : decode cX5_worthParts 2 = .ok (.invokevirtual 253, 3) := by decide +kernel
theorem dX5_worthParts_5 : decode cX5_worthParts 5 = .ok (.aload_n 0, 1) := by decide +kernel
theorem dX5_worthParts_6 : decode cX5_worthParts 6 = .ok (.getfield 245, 3) := by decide +kernel
theorem dX5_worthParts_9 : decode cX5_worthParts 9 = .ok (.ldc2_w 257, 3) := by decide +kernel
theorem dX5_worthParts_12 : decode cX5_worthParts 12 = .ok (.aload_n 0, 1) := by decide +kernel
theorem dX5_worthParts_13 : decode cX5_worthParts 13 = .ok (.aload_n 0, 1) := by decide +kernel
theorem dX5_worthParts_14 : decode cX5_worthParts 14 = .ok (.invokevirtual 224, 3) := by decide +kernel
theorem dX5_worthParts_17 : decode cX5_worthParts 17 = .ok (.invokevirtual 213, 3) := by decide +kernel
theorem dX5_worthParts_20 : decode cX5_worthParts 20 = .ok (.lmul, 1) := by decide +kernel
theorem dX5_worthParts_21 : decode cX5_worthParts 21 = .ok (.lsub, 1) := by decide +kernel
theorem dX5_worthParts_22 : decode cX5_worthParts 22 = .ok (.lreturn, 1) := by decide +kernel
theorem dX5_next__0 : decode cX5_next_ 0 = .ok (.iload_n 1, 1) := by decide +kernel
theorem dX5_next__1 : decode cX5_next_ 1 = .ok (.iconst 0, 1) := by decide +kernel
theorem dX5_next__2 : decode cX5_next_ 2 = .ok (.iconst 4, 1) := by decide +kernel
theorem dX5_next__3 : decode cX5_next_ 3 = .ok (.invokestatic 77, 3) := by decide +kernel
theorem dX5_next__6 : decode cX5_next_ 6 = .ok (.ifCond .ne 10, 3) := by decide +kernel
theorem dX5_next__9 : decode cX5_next_ 9 = .ok (.aload_n 0, 1) := by decide +kernel
theorem dX5_next__10 : decode cX5_next_ 10 = .ok (.bipush (-2), 2) := by decide +kernel
theorem dX5_next__12 : decode cX5_next_ 12 = .ok (.invokevirtual 66, 3) := by decide +kernel
theorem dX5_next__15 : decode cX5_next_ 15 = .ok (.ireturn, 1) := by decide +kernel
theorem dX5_next__16 : decode cX5_next_ 16 = .ok (.aload_n 0, 1) := by decide +kernel
theorem dX5_next__17 : decode cX5_next_ 17 = .ok (.iload_n 1, 1) := by decide +kernel
theorem dX5_next__18 : decode cX5_next_ 18 = .ok (.invokevirtual 253, 3) := by decide +kernel
theorem dX5_next__21 : decode cX5_next_ 21 = .ok (.aload_n 0, 1) := by decide +kernel
theorem dX5_next__22 : decode cX5_next_ 22 = .ok (.getfield 240, 3) := by decide +kernel
theorem dX5_next__25 : decode cX5_next_ 25 = .ok (.ireturn, 1) := by decide +kernel
theorem dX5_worth_0 : decode cX5_worth 0 = .ok (.iload_n 1, 1) := by decide +kernel
theorem dX5_worth_1 : decode cX5_worth 1 = .ok (.iconst 0, 1) := by decide +kernel
theorem dX5_worth_2 : decode cX5_worth 2 = .ok (.iconst 4, 1) := by decide +kernel
theorem dX5_worth_3 : decode cX5_worth 3 = .ok (.invokestatic 77, 3) := by decide +kernel
theorem dX5_worth_6 : decode cX5_worth 6 = .ok (.ifCond .eq 12, 3) := by decide +kernel
theorem dX5_worth_9 : decode cX5_worth 9 = .ok (.iload_n 2, 1) := by decide +kernel
theorem dX5_worth_10 : decode cX5_worth 10 = .ok (.iconst 0, 1) := by decide +kernel
theorem dX5_worth_11 : decode cX5_worth 11 = .ok (.iconst 1, 1) := by decide +kernel
theorem dX5_worth_12 : decode cX5_worth 12 = .ok (.invokestatic 77, 3) := by decide +kernel
theorem dX5_worth_15 : decode cX5_worth 15 = .ok (.ifCond .ne 10, 3) := by decide +kernel
theorem dX5_worth_18 : decode cX5_worth 18 = .ok (.aload_n 0, 1) := by decide +kernel
theorem dX5_worth_19 : decode cX5_worth 19 = .ok (.bipush (-2), 2) := by decide +kernel
theorem dX5_worth_21 : decode cX5_worth 21 = .ok (.invokevirtual 197, 3) := by decide +kernel
theorem dX5_worth_24 : decode cX5_worth 24 = .ok (.lreturn, 1) := by decide +kernel
theorem dX5_worth_25 : decode cX5_worth 25 = .ok (.aload_n 0, 1) := by decide +kernel
theorem dX5_worth_26 : decode cX5_worth 26 = .ok (.iload_n 1, 1) := by decide +kernel
theorem dX5_worth_27 : decode cX5_worth 27 = .ok (.invokevirtual 259, 3) := by decide +kernel
theorem dX5_worth_30 : decode cX5_worth 30 = .ok (.ldc2_w 257, 3) := by decide +kernel
theorem dX5_worth_33 : decode cX5_worth 33 = .ok (.aload_n 0, 1) := by decide +kernel
theorem dX5_worth_34 : decode cX5_worth 34 = .ok (.invokevirtual 216, 3) := by decide +kernel
theorem dX5_worth_37 : decode cX5_worth 37 = .ok (.lmul, 1) := by decide +kernel
theorem dX5_worth_38 : decode cX5_worth 38 = .ok (.iload_n 2, 1) := by decide +kernel
theorem dX5_worth_39 : decode cX5_worth 39 = .ok (.invokestatic 220, 3) := by decide +kernel
theorem dX5_worth_42 : decode cX5_worth 42 = .ok (.lreturn, 1) := by decide +kernel
theorem dX5_kind_0 : decode cX5_kind 0 = .ok (.iconst 0, 1) := by decide +kernel
theorem dX5_kind_1 : decode cX5_kind 1 = .ok (.istore_n 1, 1) := by decide +kernel
theorem dX5_kind_2 : decode cX5_kind 2 = .ok (.aload_n 0, 1) := by decide +kernel
theorem dX5_kind_3 : decode cX5_kind 3 = .ok (.iconst 0, 1) := by decide +kernel
theorem dX5_kind_4 : decode cX5_kind 4 = .ok (.invokevirtual 259, 3) := by decide +kernel
theorem dX5_kind_7 : decode cX5_kind 7 = .ok (.lstore_n 2, 1) := by decide +kernel
theorem dX5_kind_8 : decode cX5_kind 8 = .ok (.iconst 1, 1) := by decide +kernel
theorem dX5_kind_9 : decode cX5_kind 9 = .ok (.istore 4, 2) := by decide +kernel
theorem dX5_kind_11 : decode cX5_kind 11 = .ok (.iload 4, 2) := by decide +kernel
theorem dX5_kind_13 : decode cX5_kind 13 = .ok (.iconst 4, 1) := by decide +kernel
theorem dX5_kind_14 : decode cX5_kind 14 = .ok (.if_icmp .gt 46, 3) := by decide +kernel
theorem dX5_kind_17 : decode cX5_kind 17 = .ok (.aload_n 0, 1) := by decide +kernel
theorem dX5_kind_18 : decode cX5_kind 18 = .ok (.iload 4, 2) := by decide +kernel
theorem dX5_kind_20 : decode cX5_kind 20 = .ok (.invokevirtual 259, 3) := by decide +kernel
theorem dX5_kind_23 : decode cX5_kind 23 = .ok (.lstore 5, 2) := by decide +kernel
theorem dX5_kind_25 : decode cX5_kind 25 = .ok (.lload 5, 2) := by decide +kernel
theorem dX5_kind_27 : decode cX5_kind 27 = .ok (.iload_n 1, 1) := by decide +kernel
theorem dX5_kind_28 : decode cX5_kind 28 = .ok (.invokestatic 201, 3) := by decide +kernel
theorem dX5_kind_31 : decode cX5_kind 31 = .ok (.i2l, 1) := by decide +kernel
theorem dX5_kind_32 : decode cX5_kind 32 = .ok (.lmul, 1) := by decide +kernel
theorem dX5_kind_33 : decode cX5_kind 33 = .ok (.lload_n 2, 1) := by decide +kernel
theorem dX5_kind_34 : decode cX5_kind 34 = .ok (.iload 4, 2) := by decide +kernel
theorem dX5_kind_36 : decode cX5_kind 36 = .ok (.invokestatic 201, 3) := by decide +kernel
theorem dX5_kind_39 : decode cX5_kind 39 = .ok (.i2l, 1) := by decide +kernel
theorem dX5_kind_40 : decode cX5_kind 40 = .ok (.lmul, 1) := by decide +kernel
theorem dX5_kind_41 : decode cX5_kind 41 = .ok (.lcmp, 1) := by decide +kernel
theorem dX5_kind_42 : decode cX5_kind 42 = .ok (.ifCond .gt 6, 3) := by decide +kernel
theorem dX5_kind_45 : decode cX5_kind 45 = .ok (.goto 9, 3) := by decide +kernel
theorem dX5_kind_48 : decode cX5_kind 48 = .ok (.iload 4, 2) := by decide +kernel
theorem dX5_kind_50 : decode cX5_kind 50 = .ok (.istore_n 1, 1) := by decide +kernel
theorem dX5_kind_51 : decode cX5_kind 51 = .ok (.lload 5, 2) := by decide +kernel
theorem dX5_kind_53 : decode cX5_kind 53 = .ok (.lstore_n 2, 1) := by decide +kernel
theorem dX5_kind_54 : decode cX5_kind 54 = .ok (.iinc 4 1, 3) := by decide +kernel
theorem dX5_kind_57 : decode cX5_kind 57 = .ok (.goto (-46), 3) := by decide +kernel
theorem dX5_kind_60 : decode cX5_kind 60 = .ok (.iload_n 1, 1) := by decide +kernel
theorem dX5_kind_61 : decode cX5_kind 61 = .ok (.ireturn, 1) := by decide +kernel
theorem dX5_covered_0 : decode cX5_covered 0 = .ok (.iconst 0, 1) := by decide +kernel
theorem dX5_covered_1 : decode cX5_covered 1 = .ok (.istore_n 3, 1) := by decide +kernel
theorem dX5_covered_2 : decode cX5_covered 2 = .ok (.iload_n 1, 1) := by decide +kernel
theorem dX5_covered_3 : decode cX5_covered 3 = .ok (.istore 4, 2) := by decide +kernel
theorem dX5_covered_5 : decode cX5_covered 5 = .ok (.iload 4, 2) := by decide +kernel
theorem dX5_covered_7 : decode cX5_covered 7 = .ok (.iload_n 1, 1) := by decide +kernel
theorem dX5_covered_8 : decode cX5_covered 8 = .ok (.iload_n 2, 1) := by decide +kernel
theorem dX5_covered_9 : decode cX5_covered 9 = .ok (.iadd, 1) := by decide +kernel
theorem dX5_covered_10 : decode cX5_covered 10 = .ok (.if_icmp .ge 19, 3) := by decide +kernel
theorem dX5_covered_13 : decode cX5_covered 13 = .ok (.iload_n 3, 1) := by decide +kernel
theorem dX5_covered_14 : decode cX5_covered 14 = .ok (.aload_n 0, 1) := by decide +kernel
theorem dX5_covered_15 : decode cX5_covered 15 = .ok (.getfield 16, 3) := by decide +kernel
theorem dX5_covered_18 : decode cX5_covered 18 = .ok (.iload 4, 2) := by decide +kernel
theorem dX5_covered_20 : decode cX5_covered 20 = .ok (.iaload, 1) := by decide +kernel
theorem dX5_covered_21 : decode cX5_covered 21 = .ok (.iadd, 1) := by decide +kernel
theorem dX5_covered_22 : decode cX5_covered 22 = .ok (.istore_n 3, 1) := by decide +kernel
theorem dX5_covered_23 : decode cX5_covered 23 = .ok (.iinc 4 1, 3) := by decide +kernel
theorem dX5_covered_26 : decode cX5_covered 26 = .ok (.goto (-21), 3) := by decide +kernel
theorem dX5_covered_29 : decode cX5_covered 29 = .ok (.iload_n 3, 1) := by decide +kernel
theorem dX5_covered_30 : decode cX5_covered 30 = .ok (.ireturn, 1) := by decide +kernel
theorem dX5_covers_0 : decode cX5_covers 0 = .ok (.iload_n 1, 1) := by decide +kernel
theorem dX5_covers_1 : decode cX5_covers 1 = .ok (.ifCond .lt 8, 3) := by decide +kernel
theorem dX5_covers_4 : decode cX5_covers 4 = .ok (.iload_n 2, 1) := by decide +kernel
theorem dX5_covers_5 : decode cX5_covers 5 = .ok (.iconst 1, 1) := by decide +kernel
theorem dX5_covers_6 : decode cX5_covers 6 = .ok (.if_icmp .ge 8, 3) := by decide +kernel
theorem dX5_covers_9 : decode cX5_covers 9 = .ok (.bipush (-4), 2) := by decide +kernel
theorem dX5_covers_11 : decode cX5_covers 11 = .ok (.goto 29, 3) := by decide +kernel
theorem dX5_covers_14 : decode cX5_covers 14 = .ok (.iload_n 2, 1) := by decide +kernel
theorem dX5_covers_15 : decode cX5_covers 15 = .ok (.bipush 40, 2) := by decide +kernel
theorem dX5_covers_17 : decode cX5_covers 17 = .ok (.if_icmp .gt 17, 3) := by decide +kernel
theorem dX5_covers_20 : decode cX5_covers 20 = .ok (.iload_n 1, 1) := by decide +kernel
theorem dX5_covers_21 : decode cX5_covers 21 = .ok (.bipush 48, 2) := by decide +kernel
theorem dX5_covers_23 : decode cX5_covers 23 = .ok (.if_icmp .gt 11, 3) := by decide +kernel
theorem dX5_covers_26 : decode cX5_covers 26 = .ok (.iload_n 1, 1) := by decide +kernel
theorem dX5_covers_27 : decode cX5_covers 27 = .ok (.iload_n 2, 1) := by decide +kernel
theorem dX5_covers_28 : decode cX5_covers 28 = .ok (.iadd, 1) := by decide +kernel
theorem dX5_covers_29 : decode cX5_covers 29 = .ok (.bipush 48, 2) := by decide +kernel
theorem dX5_covers_31 : decode cX5_covers 31 = .ok (.if_icmp .le 8, 3) := by decide +kernel
theorem dX5_covers_34 : decode cX5_covers 34 = .ok (.bipush (-6), 2) := by decide +kernel
theorem dX5_covers_36 : decode cX5_covers 36 = .ok (.goto 4, 3) := by decide +kernel
theorem dX5_covers_39 : decode cX5_covers 39 = .ok (.iconst 0, 1) := by decide +kernel
theorem dX5_covers_40 : decode cX5_covers 40 = .ok (.istore_n 3, 1) := by decide +kernel
theorem dX5_covers_41 : decode cX5_covers 41 = .ok (.iload_n 3, 1) := by decide +kernel
theorem dX5_covers_42 : decode cX5_covers 42 = .ok (.ifCond .eq 11, 3) := by decide +kernel
theorem dX5_covers_45 : decode cX5_covers 45 = .ok (.aload_n 0, 1) := by decide +kernel
theorem dX5_covers_46 : decode cX5_covers 46 = .ok (.iload_n 3, 1) := by decide +kernel
theorem dX5_covers_47 : decode cX5_covers 47 = .ok (.invokevirtual 66, 3) := by decide +kernel
theorem dX5_covers_50 : decode cX5_covers 50 = .ok (.goto 9, 3) := by decide +kernel
theorem dX5_covers_53 : decode cX5_covers 53 = .ok (.aload_n 0, 1) := by decide +kernel
theorem dX5_covers_54 : decode cX5_covers 54 = .ok (.iload_n 1, 1) := by decide +kernel
theorem dX5_covers_55 : decode cX5_covers 55 = .ok (.iload_n 2, 1) := by decide +kernel
theorem dX5_covers_56 : decode cX5_covers 56 = .ok (.invokevirtual 262, 3) := by decide +kernel
theorem dX5_covers_59 : decode cX5_covers 59 = .ok (.ireturn, 1) := by decide +kernel
theorem dX5_likeliestIn_0 : decode cX5_likeliestIn 0 = .ok (.lconst 0, 1) := by decide +kernel
theorem dX5_likeliestIn_1 : decode cX5_likeliestIn 1 = .ok (.lstore_n 3, 1) := by decide +kernel
theorem dX5_likeliestIn_2 : decode cX5_likeliestIn 2 = .ok (.iload_n 1, 1) := by decide +kernel
theorem dX5_likeliestIn_3 : decode cX5_likeliestIn 3 = .ok (.istore 5, 2) := by decide +kernel
theorem dX5_likeliestIn_5 : decode cX5_likeliestIn 5 = .ok (.iload 5, 2) := by decide +kernel
theorem dX5_likeliestIn_7 : decode cX5_likeliestIn 7 = .ok (.iload_n 1, 1) := by decide +kernel
theorem dX5_likeliestIn_8 : decode cX5_likeliestIn 8 = .ok (.iload_n 2, 1) := by decide +kernel
theorem dX5_likeliestIn_9 : decode cX5_likeliestIn 9 = .ok (.iadd, 1) := by decide +kernel
theorem dX5_likeliestIn_10 : decode cX5_likeliestIn 10 = .ok (.if_icmp .ge 31, 3) := by decide +kernel
theorem dX5_likeliestIn_13 : decode cX5_likeliestIn 13 = .ok (.aload_n 0, 1) := by decide +kernel
theorem dX5_likeliestIn_14 : decode cX5_likeliestIn 14 = .ok (.iload 5, 2) := by decide +kernel
theorem dX5_likeliestIn_16 : decode cX5_likeliestIn 16 = .ok (.invokevirtual 213, 3) := by decide +kernel
theorem dX5_likeliestIn_19 : decode cX5_likeliestIn 19 = .ok (.lload_n 3, 1) := by decide +kernel
theorem dX5_likeliestIn_20 : decode cX5_likeliestIn 20 = .ok (.lcmp, 1) := by decide +kernel
theorem dX5_likeliestIn_21 : decode cX5_likeliestIn 21 = .ok (.ifCond .le 12, 3) := by decide +kernel
theorem dX5_likeliestIn_24 : decode cX5_likeliestIn 24 = .ok (.aload_n 0, 1) := by decide +kernel
theorem dX5_likeliestIn_25 : decode cX5_likeliestIn 25 = .ok (.iload 5, 2) := by decide +kernel
theorem dX5_likeliestIn_27 : decode cX5_likeliestIn 27 = .ok (.invokevirtual 213, 3) := by decide +kernel
theorem dX5_likeliestIn_30 : decode cX5_likeliestIn 30 = .ok (.goto 4, 3) := by decide +kernel
theorem dX5_likeliestIn_33 : decode cX5_likeliestIn 33 = .ok (.lload_n 3, 1) := by decide +kernel
theorem dX5_likeliestIn_34 : decode cX5_likeliestIn 34 = .ok (.lstore_n 3, 1) := by decide +kernel
theorem dX5_likeliestIn_35 : decode cX5_likeliestIn 35 = .ok (.iinc 5 1, 3) := by decide +kernel
theorem dX5_likeliestIn_38 : decode cX5_likeliestIn 38 = .ok (.goto (-33), 3) := by decide +kernel
theorem dX5_likeliestIn_41 : decode cX5_likeliestIn 41 = .ok (.lload_n 3, 1) := by decide +kernel
theorem dX5_likeliestIn_42 : decode cX5_likeliestIn 42 = .ok (.lreturn, 1) := by decide +kernel
theorem dX5_hang_0 : decode cX5_hang 0 = .ok (.iload_n 1, 1) := by decide +kernel
theorem dX5_hang_1 : decode cX5_hang 1 = .ok (.iconst 1, 1) := by decide +kernel
theorem dX5_hang_2 : decode cX5_hang 2 = .ok (.bipush 40, 2) := by decide +kernel
theorem dX5_hang_4 : decode cX5_hang 4 = .ok (.invokestatic 59, 3) := by decide +kernel
theorem dX5_hang_7 : decode cX5_hang 7 = .ok (.istore_n 2, 1) := by decide +kernel
theorem dX5_hang_8 : decode cX5_hang 8 = .ok (.iload_n 2, 1) := by decide +kernel
theorem dX5_hang_9 : decode cX5_hang 9 = .ok (.ifCond .eq 9, 3) := by decide +kernel
theorem dX5_hang_12 : decode cX5_hang 12 = .ok (.aload_n 0, 1) := by decide +kernel
theorem dX5_hang_13 : decode cX5_hang 13 = .ok (.iload_n 2, 1) := by decide +kernel
theorem dX5_hang_14 : decode cX5_hang 14 = .ok (.invokevirtual 66, 3) := by decide +kernel
theorem dX5_hang_17 : decode cX5_hang 17 = .ok (.ireturn, 1) := by decide +kernel
theorem dX5_hang_18 : decode cX5_hang 18 = .ok (.iconst 0, 1) := by decide +kernel
theorem dX5_hang_19 : decode cX5_hang 19 = .ok (.istore_n 3, 1) := by decide +kernel
theorem dX5_hang_20 : decode cX5_hang 20 = .ok (.iconst 1, 1) := by decide +kernel
theorem dX5_hang_21 : decode cX5_hang 21 = .ok (.istore 4, 2) := by decide +kernel
theorem dX5_hang_23 : decode cX5_hang 23 = .ok (.iload 4, 2) := by decide +kernel
theorem dX5_hang_25 : decode cX5_hang 25 = .ok (.iload_n 1, 1) := by decide +kernel
theorem dX5_hang_26 : decode cX5_hang 26 = .ok (.iadd, 1) := by decide +kernel
theorem dX5_hang_27 : decode cX5_hang 27 = .ok (.bipush 48, 2) := by decide +kernel
theorem dX5_hang_29 : decode cX5_hang 29 = .ok (.if_icmp .gt 55, 3) := by decide +kernel
theorem dX5_hang_32 : decode cX5_hang 32 = .ok (.aload_n 0, 1) := by decide +kernel
theorem dX5_hang_33 : decode cX5_hang 33 = .ok (.iload 4, 2) := by decide +kernel
theorem dX5_hang_35 : decode cX5_hang 35 = .ok (.iload_n 1, 1) := by decide +kernel
theorem dX5_hang_36 : decode cX5_hang 36 = .ok (.invokevirtual 262, 3) := by decide +kernel
theorem dX5_hang_39 : decode cX5_hang 39 = .ok (.aload_n 0, 1) := by decide +kernel
theorem dX5_hang_40 : decode cX5_hang 40 = .ok (.iload_n 3, 1) := by decide +kernel
theorem dX5_hang_41 : decode cX5_hang 41 = .ok (.iload_n 1, 1) := by decide +kernel
theorem dX5_hang_42 : decode cX5_hang 42 = .ok (.invokevirtual 262, 3) := by decide +kernel
theorem dX5_hang_45 : decode cX5_hang 45 = .ok (.isub, 1) := by decide +kernel
theorem dX5_hang_46 : decode cX5_hang 46 = .ok (.istore 5, 2) := by decide +kernel
theorem dX5_hang_48 : decode cX5_hang 48 = .ok (.iload 5, 2) := by decide +kernel
theorem dX5_hang_50 : decode cX5_hang 50 = .ok (.ifCond .gt 25, 3) := by decide +kernel
theorem dX5_hang_53 : decode cX5_hang 53 = .ok (.iload 5, 2) := by decide +kernel
theorem dX5_hang_55 : decode cX5_hang 55 = .ok (.ifCond .ne 23, 3) := by decide +kernel
theorem dX5_hang_58 : decode cX5_hang 58 = .ok (.aload_n 0, 1) := by decide +kernel
theorem dX5_hang_59 : decode cX5_hang 59 = .ok (.iload 4, 2) := by decide +kernel
theorem dX5_hang_61 : decode cX5_hang 61 = .ok (.iload_n 1, 1) := by decide +kernel
theorem dX5_hang_62 : decode cX5_hang 62 = .ok (.invokevirtual 265, 3) := by decide +kernel
theorem dX5_hang_65 : decode cX5_hang 65 = .ok (.aload_n 0, 1) := by decide +kernel
theorem dX5_hang_66 : decode cX5_hang 66 = .ok (.iload_n 3, 1) := by decide +kernel
theorem dX5_hang_67 : decode cX5_hang 67 = .ok (.iload_n 1, 1) := by decide +kernel
theorem dX5_hang_68 : decode cX5_hang 68 = .ok (.invokevirtual 265, 3) := by decide +kernel
theorem dX5_hang_71 : decode cX5_hang 71 = .ok (.lcmp, 1) := by decide +kernel
theorem dX5_hang_72 : decode cX5_hang 72 = .ok (.ifCond .le 6, 3) := by decide +kernel
theorem dX5_hang_75 : decode cX5_hang 75 = .ok (.iload 4, 2) := by decide +kernel
theorem dX5_hang_77 : decode cX5_hang 77 = .ok (.istore_n 3, 1) := by decide +kernel
theorem dX5_hang_78 : decode cX5_hang 78 = .ok (.iinc 4 1, 3) := by decide +kernel
theorem dX5_hang_81 : decode cX5_hang 81 = .ok (.goto (-58), 3) := by decide +kernel
theorem dX5_hang_84 : decode cX5_hang 84 = .ok (.iload_n 3, 1) := by decide +kernel
theorem dX5_hang_85 : decode cX5_hang 85 = .ok (.ireturn, 1) := by decide +kernel
theorem dX5_middle_0 : decode cX5_middle 0 = .ok (.iload_n 2, 1) := by decide +kernel
theorem dX5_middle_1 : decode cX5_middle 1 = .ok (.invokestatic 113, 3) := by decide +kernel
theorem dX5_middle_4 : decode cX5_middle 4 = .ok (.ifCond .ne 7, 3) := by decide +kernel
theorem dX5_middle_7 : decode cX5_middle 7 = .ok (.iconst (-1), 1) := by decide +kernel
theorem dX5_middle_8 : decode cX5_middle 8 = .ok (.goto 10, 3) := by decide +kernel
theorem dX5_middle_11 : decode cX5_middle 11 = .ok (.iload_n 1, 1) := by decide +kernel
theorem dX5_middle_12 : decode cX5_middle 12 = .ok (.iconst 1, 1) := by decide +kernel
theorem dX5_middle_13 : decode cX5_middle 13 = .ok (.bipush 40, 2) := by decide +kernel
theorem dX5_middle_15 : decode cX5_middle 15 = .ok (.invokestatic 59, 3) := by decide +kernel
theorem dX5_middle_18 : decode cX5_middle 18 = .ok (.istore_n 3, 1) := by decide +kernel
theorem dX5_middle_19 : decode cX5_middle 19 = .ok (.iload_n 3, 1) := by decide +kernel
theorem dX5_middle_20 : decode cX5_middle 20 = .ok (.ifCond .eq 9, 3) := by decide +kernel
theorem dX5_middle_23 : decode cX5_middle 23 = .ok (.aload_n 0, 1) := by decide +kernel
theorem dX5_middle_24 : decode cX5_middle 24 = .ok (.iload_n 3, 1) := by decide +kernel
theorem dX5_middle_25 : decode cX5_middle 25 = .ok (.invokevirtual 66, 3) := by decide +kernel
theorem dX5_middle_28 : decode cX5_middle 28 = .ok (.ireturn, 1) := by decide +kernel
theorem dX5_middle_29 : decode cX5_middle 29 = .ok (.bipush (-9), 2) := by decide +kernel
theorem dX5_middle_31 : decode cX5_middle 31 = .ok (.istore 4, 2) := by decide +kernel
theorem dX5_middle_33 : decode cX5_middle 33 = .ok (.sipush 999, 3) := by decide +kernel
theorem dX5_middle_36 : decode cX5_middle 36 = .ok (.istore 5, 2) := by decide +kernel
theorem dX5_middle_38 : decode cX5_middle 38 = .ok (.iconst 0, 1) := by decide +kernel
theorem dX5_middle_39 : decode cX5_middle 39 = .ok (.istore 6, 2) := by decide +kernel
theorem dX5_middle_41 : decode cX5_middle 41 = .ok (.iload 6, 2) := by decide +kernel
theorem dX5_middle_43 : decode cX5_middle 43 = .ok (.iload_n 1, 1) := by decide +kernel
theorem dX5_middle_44 : decode cX5_middle 44 = .ok (.iadd, 1) := by decide +kernel
theorem dX5_middle_45 : decode cX5_middle 45 = .ok (.bipush 48, 2) := by decide +kernel
theorem dX5_middle_47 : decode cX5_middle 47 = .ok (.if_icmp .gt 68, 3) := by decide +kernel
theorem dX5_middle_50 : decode cX5_middle 50 = .ok (.iconst 2, 1) := by decide +kernel
theorem dX5_middle_51 : decode cX5_middle 51 = .ok (.iload 6, 2) := by decide +kernel
theorem dX5_middle_53 : decode cX5_middle 53 = .ok (.imul, 1) := by decide +kernel
theorem dX5_middle_54 : decode cX5_middle 54 = .ok (.iload_n 1, 1) := by decide +kernel
theorem dX5_middle_55 : decode cX5_middle 55 = .ok (.iadd, 1) := by decide +kernel
theorem dX5_middle_56 : decode cX5_middle 56 = .ok (.iconst 2, 1) := by decide +kernel
theorem dX5_middle_57 : decode cX5_middle 57 = .ok (.iload_n 2, 1) := by decide +kernel
theorem dX5_middle_58 : decode cX5_middle 58 = .ok (.imul, 1) := by decide +kernel
theorem dX5_middle_59 : decode cX5_middle 59 = .ok (.isub, 1) := by decide +kernel
theorem dX5_middle_60 : decode cX5_middle 60 = .ok (.istore 7, 2) := by decide +kernel
theorem dX5_middle_62 : decode cX5_middle 62 = .ok (.iload 7, 2) := by decide +kernel
theorem dX5_middle_64 : decode cX5_middle 64 = .ok (.ifCond .ge 9, 3) := by decide +kernel
theorem dX5_middle_67 : decode cX5_middle 67 = .ok (.iload 7, 2) := by decide +kernel
theorem dX5_middle_69 : decode cX5_middle 69 = .ok (.ineg, 1) := by decide +kernel
theorem dX5_middle_70 : decode cX5_middle 70 = .ok (.goto 5, 3) := by decide +kernel
theorem dX5_middle_73 : decode cX5_middle 73 = .ok (.iload 7, 2) := by decide +kernel
theorem dX5_middle_75 : decode cX5_middle 75 = .ok (.istore 7, 2) := by decide +kernel
theorem dX5_middle_77 : decode cX5_middle 77 = .ok (.aload_n 0, 1) := by decide +kernel
theorem dX5_middle_78 : decode cX5_middle 78 = .ok (.iload 6, 2) := by decide +kernel
theorem dX5_middle_80 : decode cX5_middle 80 = .ok (.iload_n 1, 1) := by decide +kernel
theorem dX5_middle_81 : decode cX5_middle 81 = .ok (.invokevirtual 262, 3) := by decide +kernel
theorem dX5_middle_84 : decode cX5_middle 84 = .ok (.aload_n 0, 1) := by decide +kernel
theorem dX5_middle_85 : decode cX5_middle 85 = .ok (.invokevirtual 210, 3) := by decide +kernel
theorem dX5_middle_88 : decode cX5_middle 88 = .ok (.if_icmp .lt 21, 3) := by decide +kernel
theorem dX5_middle_91 : decode cX5_middle 91 = .ok (.iload 7, 2) := by decide +kernel
theorem dX5_middle_93 : decode cX5_middle 93 = .ok (.iload 5, 2) := by decide +kernel
theorem dX5_middle_95 : decode cX5_middle 95 = .ok (.if_icmp .lt 6, 3) := by decide +kernel
theorem dX5_middle_98 : decode cX5_middle 98 = .ok (.goto 11, 3) := by decide +kernel
theorem dX5_middle_101 : decode cX5_middle 101 = .ok (.iload 6, 2) := by decide +kernel
theorem dX5_middle_103 : decode cX5_middle 103 = .ok (.istore 4, 2) := by decide +kernel
theorem dX5_middle_105 : decode cX5_middle 105 = .ok (.iload 7, 2) := by decide +kernel
theorem dX5_middle_107 : decode cX5_middle 107 = .ok (.istore 5, 2) := by decide +kernel
theorem dX5_middle_109 : decode cX5_middle 109 = .ok (.iinc 6 1, 3) := by decide +kernel
theorem dX5_middle_112 : decode cX5_middle 112 = .ok (.goto (-71), 3) := by decide +kernel
theorem dX5_middle_115 : decode cX5_middle 115 = .ok (.iload 4, 2) := by decide +kernel
theorem dX5_middle_117 : decode cX5_middle 117 = .ok (.ireturn, 1) := by decide +kernel
theorem dX5_bothAt_0 : decode cX5_bothAt 0 = .ok (.lconst 0, 1) := by decide +kernel
theorem dX5_bothAt_1 : decode cX5_bothAt 1 = .ok (.lstore_n 3, 1) := by decide +kernel
theorem dX5_bothAt_2 : decode cX5_bothAt 2 = .ok (.iconst 0, 1) := by decide +kernel
theorem dX5_bothAt_3 : decode cX5_bothAt 3 = .ok (.istore 5, 2) := by decide +kernel
theorem dX5_bothAt_5 : decode cX5_bothAt 5 = .ok (.iload 5, 2) := by decide +kernel
theorem dX5_bothAt_7 : decode cX5_bothAt 7 = .ok (.aload_n 0, 1) := by decide +kernel
theorem dX5_bothAt_8 : decode cX5_bothAt 8 = .ok (.getfield 13, 3) := by decide +kernel
theorem dX5_bothAt_11 : decode cX5_bothAt 11 = .ok (.iconst 0, 1) := by decide +kernel
theorem dX5_bothAt_12 : decode cX5_bothAt 12 = .ok (.iaload, 1) := by decide +kernel
theorem dX5_bothAt_13 : decode cX5_bothAt 13 = .ok (.if_icmp .ge 46, 3) := by decide +kernel
theorem dX5_bothAt_16 : decode cX5_bothAt 16 = .ok (.lload_n 3, 1) := by decide +kernel
theorem dX5_bothAt_17 : decode cX5_bothAt 17 = .ok (.aload_n 0, 1) := by decide +kernel
theorem dX5_bothAt_18 : decode cX5_bothAt 18 = .ok (.iload_n 1, 1) := by decide +kernel
theorem dX5_bothAt_19 : decode cX5_bothAt 19 = .ok (.iload 5, 2) := by decide +kernel
theorem dX5_bothAt_21 : decode cX5_bothAt 21 = .ok (.invokevirtual 171, 3) := by decide +kernel
theorem dX5_bothAt_24 : decode cX5_bothAt 24 = .ok (.ifCond .eq 26, 3) := by decide +kernel
theorem dX5_bothAt_27 : decode cX5_bothAt 27 = .ok (.aload_n 0, 1) := by decide +kernel
theorem dX5_bothAt_28 : decode cX5_bothAt 28 = .ok (.iload_n 1, 1) := by decide +kernel
theorem dX5_bothAt_29 : decode cX5_bothAt 29 = .ok (.iload_n 2, 1) := by decide +kernel
theorem dX5_bothAt_30 : decode cX5_bothAt 30 = .ok (.iadd, 1) := by decide +kernel
theorem dX5_bothAt_31 : decode cX5_bothAt 31 = .ok (.iload 5, 2) := by decide +kernel
theorem dX5_bothAt_33 : decode cX5_bothAt 33 = .ok (.invokevirtual 171, 3) := by decide +kernel
theorem dX5_bothAt_36 : decode cX5_bothAt 36 = .ok (.ifCond .eq 14, 3) := by decide +kernel
theorem dX5_bothAt_39 : decode cX5_bothAt 39 = .ok (.aload_n 0, 1) := by decide +kernel
theorem dX5_bothAt_40 : decode cX5_bothAt 40 = .ok (.getfield 25, 3) := by decide +kernel
theorem dX5_bothAt_43 : decode cX5_bothAt 43 = .ok (.iload 5, 2) := by decide +kernel
theorem dX5_bothAt_45 : decode cX5_bothAt 45 = .ok (.iaload, 1) := by decide +kernel
theorem dX5_bothAt_46 : decode cX5_bothAt 46 = .ok (.i2l, 1) := by decide +kernel
theorem dX5_bothAt_47 : decode cX5_bothAt 47 = .ok (.goto 4, 3) := by decide +kernel
theorem dX5_bothAt_50 : decode cX5_bothAt 50 = .ok (.lconst 0, 1) := by decide +kernel
theorem dX5_bothAt_51 : decode cX5_bothAt 51 = .ok (.ladd, 1) := by decide +kernel
theorem dX5_bothAt_52 : decode cX5_bothAt 52 = .ok (.lstore_n 3, 1) := by decide +kernel
theorem dX5_bothAt_53 : decode cX5_bothAt 53 = .ok (.iinc 5 1, 3) := by decide +kernel
theorem dX5_bothAt_56 : decode cX5_bothAt 56 = .ok (.goto (-51), 3) := by decide +kernel
theorem dX5_bothAt_59 : decode cX5_bothAt 59 = .ok (.lload_n 3, 1) := by decide +kernel
theorem dX5_bothAt_60 : decode cX5_bothAt 60 = .ok (.lreturn, 1) := by decide +kernel
theorem dX5_twoBy_0 : decode cX5_twoBy 0 = .ok (.iconst 0, 1) := by decide +kernel
theorem dX5_twoBy_1 : decode cX5_twoBy 1 = .ok (.istore_n 2, 1) := by decide +kernel
theorem dX5_twoBy_2 : decode cX5_twoBy 2 = .ok (.iconst 1, 1) := by decide +kernel
theorem dX5_twoBy_3 : decode cX5_twoBy 3 = .ok (.istore_n 3, 1) := by decide +kernel
theorem dX5_twoBy_4 : decode cX5_twoBy 4 = .ok (.iload_n 3, 1) := by decide +kernel
theorem dX5_twoBy_5 : decode cX5_twoBy 5 = .ok (.iload_n 1, 1) := by decide +kernel
theorem dX5_twoBy_6 : decode cX5_twoBy 6 = .ok (.iadd, 1) := by decide +kernel
theorem dX5_twoBy_7 : decode cX5_twoBy 7 = .ok (.bipush 48, 2) := by decide +kernel
theorem dX5_twoBy_9 : decode cX5_twoBy 9 = .ok (.if_icmp .ge 31, 3) := by decide +kernel
theorem dX5_twoBy_12 : decode cX5_twoBy 12 = .ok (.aload_n 0, 1) := by decide +kernel
theorem dX5_twoBy_13 : decode cX5_twoBy 13 = .ok (.iload_n 3, 1) := by decide +kernel
theorem dX5_twoBy_14 : decode cX5_twoBy 14 = .ok (.iload_n 1, 1) := by decide +kernel
theorem dX5_twoBy_15 : decode cX5_twoBy 15 = .ok (.invokevirtual 268, 3) := by decide +kernel
theorem dX5_twoBy_18 : decode cX5_twoBy 18 = .ok (.aload_n 0, 1) := by decide +kernel
theorem dX5_twoBy_19 : decode cX5_twoBy 19 = .ok (.iload_n 2, 1) := by decide +kernel
theorem dX5_twoBy_20 : decode cX5_twoBy 20 = .ok (.iload_n 1, 1) := by decide +kernel
theorem dX5_twoBy_21 : decode cX5_twoBy 21 = .ok (.invokevirtual 268, 3) := by decide +kernel
theorem dX5_twoBy_24 : decode cX5_twoBy 24 = .ok (.lcmp, 1) := by decide +kernel
theorem dX5_twoBy_25 : decode cX5_twoBy 25 = .ok (.ifCond .le 7, 3) := by decide +kernel
theorem dX5_twoBy_28 : decode cX5_twoBy 28 = .ok (.iload_n 3, 1) := by decide +kernel
theorem dX5_twoBy_29 : decode cX5_twoBy 29 = .ok (.goto 4, 3) := by decide +kernel
theorem dX5_twoBy_32 : decode cX5_twoBy 32 = .ok (.iload_n 2, 1) := by decide +kernel
theorem dX5_twoBy_33 : decode cX5_twoBy 33 = .ok (.istore_n 2, 1) := by decide +kernel
theorem dX5_twoBy_34 : decode cX5_twoBy 34 = .ok (.iinc 3 1, 3) := by decide +kernel
theorem dX5_twoBy_37 : decode cX5_twoBy 37 = .ok (.goto (-33), 3) := by decide +kernel
theorem dX5_twoBy_40 : decode cX5_twoBy 40 = .ok (.iload_n 2, 1) := by decide +kernel
theorem dX5_twoBy_41 : decode cX5_twoBy 41 = .ok (.ireturn, 1) := by decide +kernel
theorem dX5_two_0 : decode cX5_two 0 = .ok (.iload_n 1, 1) := by decide +kernel
theorem dX5_two_1 : decode cX5_two 1 = .ok (.iconst 1, 1) := by decide +kernel
theorem dX5_two_2 : decode cX5_two 2 = .ok (.bipush 40, 2) := by decide +kernel
theorem dX5_two_4 : decode cX5_two 4 = .ok (.invokestatic 59, 3) := by decide +kernel
theorem dX5_two_7 : decode cX5_two 7 = .ok (.istore_n 2, 1) := by decide +kernel
theorem dX5_two_8 : decode cX5_two 8 = .ok (.iload_n 2, 1) := by decide +kernel
theorem dX5_two_9 : decode cX5_two 9 = .ok (.ifCond .eq 11, 3) := by decide +kernel
theorem dX5_two_12 : decode cX5_two 12 = .ok (.aload_n 0, 1) := by decide +kernel
theorem dX5_two_13 : decode cX5_two 13 = .ok (.iload_n 2, 1) := by decide +kernel
theorem dX5_two_14 : decode cX5_two 14 = .ok (.invokevirtual 66, 3) := by decide +kernel
theorem dX5_two_17 : decode cX5_two 17 = .ok (.goto 8, 3) := by decide +kernel
theorem dX5_two_20 : decode cX5_two 20 = .ok (.aload_n 0, 1) := by decide +kernel
theorem dX5_two_21 : decode cX5_two 21 = .ok (.iload_n 1, 1) := by decide +kernel
theorem dX5_two_22 : decode cX5_two 22 = .ok (.invokevirtual 271, 3) := by decide +kernel
theorem dX5_two_25 : decode cX5_two 25 = .ok (.ireturn, 1) := by decide +kernel
theorem dX5_both_0 : decode cX5_both 0 = .ok (.iload_n 1, 1) := by decide +kernel
theorem dX5_both_1 : decode cX5_both 1 = .ok (.iconst 1, 1) := by decide +kernel
theorem dX5_both_2 : decode cX5_both 2 = .ok (.bipush 40, 2) := by decide +kernel
theorem dX5_both_4 : decode cX5_both 4 = .ok (.invokestatic 59, 3) := by decide +kernel
theorem dX5_both_7 : decode cX5_both 7 = .ok (.istore_n 3, 1) := by decide +kernel
theorem dX5_both_8 : decode cX5_both 8 = .ok (.iload_n 3, 1) := by decide +kernel
theorem dX5_both_9 : decode cX5_both 9 = .ok (.ifCond .ne 15, 3) := by decide +kernel
theorem dX5_both_12 : decode cX5_both 12 = .ok (.iload_n 2, 1) := by decide +kernel
theorem dX5_both_13 : decode cX5_both 13 = .ok (.iconst 0, 1) := by decide +kernel
theorem dX5_both_14 : decode cX5_both 14 = .ok (.iconst 1, 1) := by decide +kernel
theorem dX5_both_15 : decode cX5_both 15 = .ok (.invokestatic 77, 3) := by decide +kernel
theorem dX5_both_18 : decode cX5_both 18 = .ok (.ifCond .ne 6, 3) := by decide +kernel
theorem dX5_both_21 : decode cX5_both 21 = .ok (.bipush (-2), 2) := by decide +kernel
theorem dX5_both_23 : decode cX5_both 23 = .ok (.istore_n 3, 1) := by decide +kernel
theorem dX5_both_24 : decode cX5_both 24 = .ok (.iload_n 3, 1) := by decide +kernel
theorem dX5_both_25 : decode cX5_both 25 = .ok (.ifCond .eq 11, 3) := by decide +kernel
theorem dX5_both_28 : decode cX5_both 28 = .ok (.aload_n 0, 1) := by decide +kernel
theorem dX5_both_29 : decode cX5_both 29 = .ok (.iload_n 3, 1) := by decide +kernel
theorem dX5_both_30 : decode cX5_both 30 = .ok (.invokevirtual 197, 3) := by decide +kernel
theorem dX5_both_33 : decode cX5_both 33 = .ok (.goto 21, 3) := by decide +kernel
theorem dX5_both_36 : decode cX5_both 36 = .ok (.aload_n 0, 1) := by decide +kernel
theorem dX5_both_37 : decode cX5_both 37 = .ok (.aload_n 0, 1) := by decide +kernel
theorem dX5_both_38 : decode cX5_both 38 = .ok (.iload_n 1, 1) := by decide +kernel
theorem dX5_both_39 : decode cX5_both 39 = .ok (.invokevirtual 271, 3) := by decide +kernel
theorem dX5_both_42 : decode cX5_both 42 = .ok (.iload_n 1, 1) := by decide +kernel
theorem dX5_both_43 : decode cX5_both 43 = .ok (.invokevirtual 268, 3) := by decide +kernel
theorem dX5_both_46 : decode cX5_both 46 = .ok (.aload_n 0, 1) := by decide +kernel
theorem dX5_both_47 : decode cX5_both 47 = .ok (.invokevirtual 216, 3) := by decide +kernel
theorem dX5_both_50 : decode cX5_both 50 = .ok (.iload_n 2, 1) := by decide +kernel
theorem dX5_both_51 : decode cX5_both 51 = .ok (.invokestatic 220, 3) := by decide +kernel
theorem dX5_both_54 : decode cX5_both 54 = .ok (.lreturn, 1) := by decide +kernel
theorem dX5_wire_0 : decode cX5_wire 0 = .ok (.iload_n 1, 1) := by decide +kernel
theorem dX5_wire_1 : decode cX5_wire 1 = .ok (.iconst 1, 1) := by decide +kernel
theorem dX5_wire_2 : decode cX5_wire 2 = .ok (.if_icmp .lt 7, 3) := by decide +kernel
theorem dX5_wire_5 : decode cX5_wire 5 = .ok (.iload_n 2, 1) := by decide +kernel
theorem dX5_wire_6 : decode cX5_wire 6 = .ok (.ifCond .ge 8, 3) := by decide +kernel
theorem dX5_wire_9 : decode cX5_wire 9 = .ok (.bipush (-4), 2) := by decide +kernel
theorem dX5_wire_11 : decode cX5_wire 11 = .ok (.goto 21, 3) := by decide +kernel
theorem dX5_wire_14 : decode cX5_wire 14 = .ok (.iload_n 1, 1) := by decide +kernel
theorem dX5_wire_15 : decode cX5_wire 15 = .ok (.bipush 40, 2) := by decide +kernel
theorem dX5_wire_17 : decode cX5_wire 17 = .ok (.if_icmp .gt 9, 3) := by decide +kernel
theorem dX5_wire_20 : decode cX5_wire 20 = .ok (.iload_n 2, 1) := by decide +kernel
theorem dX5_wire_21 : decode cX5_wire 21 = .ok (.bipush 40, 2) := by decide +kernel
theorem dX5_wire_23 : decode cX5_wire 23 = .ok (.if_icmp .le 8, 3) := by decide +kernel
theorem dX5_wire_26 : decode cX5_wire 26 = .ok (.bipush (-6), 2) := by decide +kernel
theorem dX5_wire_28 : decode cX5_wire 28 = .ok (.goto 4, 3) := by decide +kernel
theorem dX5_wire_31 : decode cX5_wire 31 = .ok (.iconst 0, 1) := by decide +kernel
theorem dX5_wire_32 : decode cX5_wire 32 = .ok (.istore_n 3, 1) := by decide +kernel
theorem dX5_wire_33 : decode cX5_wire 33 = .ok (.iload_n 3, 1) := by decide +kernel
theorem dX5_wire_34 : decode cX5_wire 34 = .ok (.ifCond .eq 9, 3) := by decide +kernel
theorem dX5_wire_37 : decode cX5_wire 37 = .ok (.aload_n 0, 1) := by decide +kernel
theorem dX5_wire_38 : decode cX5_wire 38 = .ok (.iload_n 3, 1) := by decide +kernel
theorem dX5_wire_39 : decode cX5_wire 39 = .ok (.invokevirtual 66, 3) := by decide +kernel
theorem dX5_wire_42 : decode cX5_wire 42 = .ok (.ireturn, 1) := by decide +kernel
theorem dX5_wire_43 : decode cX5_wire 43 = .ok (.iload_n 1, 1) := by decide +kernel
theorem dX5_wire_44 : decode cX5_wire 44 = .ok (.istore 4, 2) := by decide +kernel
theorem dX5_wire_46 : decode cX5_wire 46 = .ok (.iload 4, 2) := by decide +kernel
theorem dX5_wire_48 : decode cX5_wire 48 = .ok (.iload 4, 2) := by decide +kernel
theorem dX5_wire_50 : decode cX5_wire 50 = .ok (.imul, 1) := by decide +kernel
theorem dX5_wire_51 : decode cX5_wire 51 = .ok (.iload_n 1, 1) := by decide +kernel
theorem dX5_wire_52 : decode cX5_wire 52 = .ok (.iload_n 1, 1) := by decide +kernel
theorem dX5_wire_53 : decode cX5_wire 53 = .ok (.imul, 1) := by decide +kernel
theorem dX5_wire_54 : decode cX5_wire 54 = .ok (.iconst 4, 1) := by decide +kernel
theorem dX5_wire_55 : decode cX5_wire 55 = .ok (.iload_n 2, 1) := by decide +kernel
theorem dX5_wire_56 : decode cX5_wire 56 = .ok (.imul, 1) := by decide +kernel
theorem dX5_wire_57 : decode cX5_wire 57 = .ok (.iload_n 2, 1) := by decide +kernel
theorem dX5_wire_58 : decode cX5_wire 58 = .ok (.imul, 1) := by decide +kernel
theorem dX5_wire_59 : decode cX5_wire 59 = .ok (.iadd, 1) := by decide +kernel
theorem dX5_wire_60 : decode cX5_wire 60 = .ok (.if_icmp .ge 9, 3) := by decide +kernel
theorem dX5_wire_63 : decode cX5_wire 63 = .ok (.iinc 4 1, 3) := by decide +kernel
theorem dX5_wire_66 : decode cX5_wire 66 = .ok (.goto (-20), 3) := by decide +kernel
theorem dX5_wire_69 : decode cX5_wire 69 = .ok (.iload 4, 2) := by decide +kernel
theorem dX5_wire_71 : decode cX5_wire 71 = .ok (.ireturn, 1) := by decide +kernel
theorem dX5_twin_0 : decode cX5_twin 0 = .ok (.iload_n 1, 1) := by decide +kernel
theorem dX5_twin_1 : decode cX5_twin 1 = .ok (.invokestatic 113, 3) := by decide +kernel
theorem dX5_twin_4 : decode cX5_twin 4 = .ok (.ifCond .eq 15, 3) := by decide +kernel
theorem dX5_twin_7 : decode cX5_twin 7 = .ok (.aload_n 0, 1) := by decide +kernel
theorem dX5_twin_8 : decode cX5_twin 8 = .ok (.bipush 47, 2) := by decide +kernel
theorem dX5_twin_10 : decode cX5_twin 10 = .ok (.iload_n 1, 1) := by decide +kernel
theorem dX5_twin_11 : decode cX5_twin 11 = .ok (.isub, 1) := by decide +kernel
theorem dX5_twin_12 : decode cX5_twin 12 = .ok (.iconst 1, 1) := by decide +kernel
theorem dX5_twin_13 : decode cX5_twin 13 = .ok (.invokevirtual 120, 3) := by decide +kernel
theorem dX5_twin_16 : decode cX5_twin 16 = .ok (.goto 8, 3) := by decide +kernel
theorem dX5_twin_19 : decode cX5_twin 19 = .ok (.aload_n 0, 1) := by decide +kernel
theorem dX5_twin_20 : decode cX5_twin 20 = .ok (.iconst (-1), 1) := by decide +kernel
theorem dX5_twin_21 : decode cX5_twin 21 = .ok (.invokevirtual 66, 3) := by decide +kernel
theorem dX5_twin_24 : decode cX5_twin 24 = .ok (.ireturn, 1) := by decide +kernel
theorem dX5_twinLikely_0 : decode cX5_twinLikely 0 = .ok (.iload_n 1, 1) := by decide +kernel
theorem dX5_twinLikely_1 : decode cX5_twinLikely 1 = .ok (.invokestatic 113, 3) := by decide +kernel
theorem dX5_twinLikely_4 : decode cX5_twinLikely 4 = .ok (.ifCond .eq 10, 3) := by decide +kernel
theorem dX5_twinLikely_7 : decode cX5_twinLikely 7 = .ok (.iload_n 2, 1) := by decide +kernel
theorem dX5_twinLikely_8 : decode cX5_twinLikely 8 = .ok (.invokestatic 113, 3) := by decide +kernel
theorem dX5_twinLikely_11 : decode cX5_twinLikely 11 = .ok (.ifCond .ne 9, 3) := by decide +kernel
theorem dX5_twinLikely_14 : decode cX5_twinLikely 14 = .ok (.aload_n 0, 1) := by decide +kernel
theorem dX5_twinLikely_15 : decode cX5_twinLikely 15 = .ok (.iconst (-1), 1) := by decide +kernel
theorem dX5_twinLikely_16 : decode cX5_twinLikely 16 = .ok (.invokevirtual 197, 3) := by decide +kernel
theorem dX5_twinLikely_19 : decode cX5_twinLikely 19 = .ok (.lreturn, 1) := by decide +kernel
theorem dX5_twinLikely_20 : decode cX5_twinLikely 20 = .ok (.iload_n 3, 1) := by decide +kernel
theorem dX5_twinLikely_21 : decode cX5_twinLikely 21 = .ok (.iconst 0, 1) := by decide +kernel
theorem dX5_twinLikely_22 : decode cX5_twinLikely 22 = .ok (.iconst 1, 1) := by decide +kernel
theorem dX5_twinLikely_23 : decode cX5_twinLikely 23 = .ok (.invokestatic 77, 3) := by decide +kernel
theorem dX5_twinLikely_26 : decode cX5_twinLikely 26 = .ok (.ifCond .ne 10, 3) := by decide +kernel
theorem dX5_twinLikely_29 : decode cX5_twinLikely 29 = .ok (.aload_n 0, 1) := by decide +kernel
theorem dX5_twinLikely_30 : decode cX5_twinLikely 30 = .ok (.bipush (-2), 2) := by decide +kernel
theorem dX5_twinLikely_32 : decode cX5_twinLikely 32 = .ok (.invokevirtual 197, 3) := by decide +kernel
theorem dX5_twinLikely_35 : decode cX5_twinLikely 35 = .ok (.lreturn, 1) := by decide +kernel
theorem dX5_twinLikely_36 : decode cX5_twinLikely 36 = .ok (.lconst 0, 1) := by decide +kernel
theorem dX5_twinLikely_37 : decode cX5_twinLikely 37 = .ok (.lstore 4, 2) := by decide +kernel
theorem dX5_twinLikely_39 : decode cX5_twinLikely 39 = .ok (.lconst 0, 1) := by decide +kernel
theorem dX5_twinLikely_40 : decode cX5_twinLikely 40 = .ok (.lstore 6, 2) := by decide +kernel
theorem dX5_twinLikely_42 : decode cX5_twinLikely 42 = .ok (.iconst 0, 1) := by decide +kernel
theorem dX5_twinLikely_43 : decode cX5_twinLikely 43 = .ok (.istore 8, 2) := by decide +kernel
theorem dX5_twinLikely_45 : decode cX5_twinLikely 45 = .ok (.iload 8, 2) := by decide +kernel
theorem dX5_twinLikely_47 : decode cX5_twinLikely 47 = .ok (.aload_n 0, 1) := by decide +kernel
theorem dX5_twinLikely_48 : decode cX5_twinLikely 48 = .ok (.getfield 13, 3) := by decide +kernel
theorem dX5_twinLikely_51 : decode cX5_twinLikely 51 = .ok (.iconst 0, 1) := by decide +kernel
theorem dX5_twinLikely_52 : decode cX5_twinLikely 52 = .ok (.iaload, 1) := by decide +kernel
theorem dX5_twinLikely_53 : decode cX5_twinLikely 53 = .ok (.if_icmp .ge 65, 3) := by decide +kernel
theorem dX5_twinLikely_56 : decode cX5_twinLikely 56 = .ok (.aload_n 0, 1) := by decide +kernel
theorem dX5_twinLikely_57 : decode cX5_twinLikely 57 = .ok (.bipush 47, 2) := by decide +kernel
theorem dX5_twinLikely_59 : decode cX5_twinLikely 59 = .ok (.iload_n 1, 1) := by decide +kernel
theorem dX5_twinLikely_60 : decode cX5_twinLikely 60 = .ok (.isub, 1) := by decide +kernel
theorem dX5_twinLikely_61 : decode cX5_twinLikely 61 = .ok (.iload 8, 2) := by decide +kernel
theorem dX5_twinLikely_63 : decode cX5_twinLikely 63 = .ok (.invokevirtual 171, 3) := by decide +kernel
theorem dX5_twinLikely_66 : decode cX5_twinLikely 66 = .ok (.ifCond .ne 6, 3) := by decide +kernel
theorem dX5_twinLikely_69 : decode cX5_twinLikely 69 = .ok (.goto 43, 3) := by decide +kernel
theorem dX5_twinLikely_72 : decode cX5_twinLikely 72 = .ok (.lload 6, 2) := by decide +kernel
theorem dX5_twinLikely_74 : decode cX5_twinLikely 74 = .ok (.aload_n 0, 1) := by decide +kernel
theorem dX5_twinLikely_75 : decode cX5_twinLikely 75 = .ok (.getfield 25, 3) := by decide +kernel
theorem dX5_twinLikely_78 : decode cX5_twinLikely 78 = .ok (.iload 8, 2) := by decide +kernel
theorem dX5_twinLikely_80 : decode cX5_twinLikely 80 = .ok (.iaload, 1) := by decide +kernel
theorem dX5_twinLikely_81 : decode cX5_twinLikely 81 = .ok (.i2l, 1) := by decide +kernel
theorem dX5_twinLikely_82 : decode cX5_twinLikely 82 = .ok (.ladd, 1) := by decide +kernel
theorem dX5_twinLikely_83 : decode cX5_twinLikely 83 = .ok (.lstore 6, 2) := by decide +kernel
theorem dX5_twinLikely_85 : decode cX5_twinLikely 85 = .ok (.lload 4, 2) := by decide +kernel
theorem dX5_twinLikely_87 : decode cX5_twinLikely 87 = .ok (.aload_n 0, 1) := by decide +kernel
theorem dX5_twinLikely_88 : decode cX5_twinLikely 88 = .ok (.iload_n 2, 1) := by decide +kernel
theorem dX5_twinLikely_89 : decode cX5_twinLikely 89 = .ok (.iload 8, 2) := by decide +kernel
theorem dX5_twinLikely_91 : decode cX5_twinLikely 91 = .ok (.invokevirtual 171, 3) := by decide +kernel
theorem dX5_twinLikely_94 : decode cX5_twinLikely 94 = .ok (.ifCond .eq 14, 3) := by decide +kernel
theorem dX5_twinLikely_97 : decode cX5_twinLikely 97 = .ok (.aload_n 0, 1) := by decide +kernel
theorem dX5_twinLikely_98 : decode cX5_twinLikely 98 = .ok (.getfield 25, 3) := by decide +kernel
theorem dX5_twinLikely_101 : decode cX5_twinLikely 101 = .ok (.iload 8, 2) := by decide +kernel
theorem dX5_twinLikely_103 : decode cX5_twinLikely 103 = .ok (.iaload, 1) := by decide +kernel
theorem dX5_twinLikely_104 : decode cX5_twinLikely 104 = .ok (.i2l, 1) := by decide +kernel
theorem dX5_twinLikely_105 : decode cX5_twinLikely 105 = .ok (.goto 4, 3) := by decide +kernel
theorem dX5_twinLikely_108 : decode cX5_twinLikely 108 = .ok (.lconst 0, 1) := by decide +kernel
theorem dX5_twinLikely_109 : decode cX5_twinLikely 109 = .ok (.ladd, 1) := by decide +kernel
theorem dX5_twinLikely_110 : decode cX5_twinLikely 110 = .ok (.lstore 4, 2) := by decide +kernel
theorem dX5_twinLikely_112 : decode cX5_twinLikely 112 = .ok (.iinc 8 1, 3) := by decide +kernel
theorem dX5_twinLikely_115 : decode cX5_twinLikely 115 = .ok (.goto (-70), 3) := by decide +kernel
theorem dX5_twinLikely_118 : decode cX5_twinLikely 118 = .ok (.lload 4, 2) := by decide +kernel
theorem dX5_twinLikely_120 : decode cX5_twinLikely 120 = .ok (.lload 6, 2) := by decide +kernel
theorem dX5_twinLikely_122 : decode cX5_twinLikely 122 = .ok (.iload_n 3, 1) := by decide +kernel
theorem dX5_twinLikely_123 : decode cX5_twinLikely 123 = .ok (.invokestatic 220, 3) := by decide +kernel
theorem dX5_twinLikely_126 : decode cX5_twinLikely 126 = .ok (.lreturn, 1) := by decide +kernel
theorem dX5_row_0 : decode cX5_row 0 = .ok (.iload_n 1, 1) := by decide +kernel
theorem dX5_row_1 : decode cX5_row 1 = .ok (.iconst 0, 1) := by decide +kernel
theorem dX5_row_2 : decode cX5_row 2 = .ok (.bipush 99, 2) := by decide +kernel
theorem dX5_row_4 : decode cX5_row 4 = .ok (.invokestatic 59, 3) := by decide +kernel
theorem dX5_row_7 : decode cX5_row 7 = .ok (.istore_n 2, 1) := by decide +kernel
theorem dX5_row_8 : decode cX5_row 8 = .ok (.iload_n 2, 1) := by decide +kernel
theorem dX5_row_9 : decode cX5_row 9 = .ok (.ifCond .ne 15, 3) := by decide +kernel
theorem dX5_row_12 : decode cX5_row 12 = .ok (.aload_n 0, 1) := by decide +kernel
theorem dX5_row_13 : decode cX5_row 13 = .ok (.getfield 274, 3) := by decide +kernel
theorem dX5_row_16 : decode cX5_row 16 = .ok (.bipush 8, 2) := by decide +kernel
theorem dX5_row_18 : decode cX5_row 18 = .ok (.if_icmp .ne 6, 3) := by decide +kernel
theorem dX5_row_21 : decode cX5_row 21 = .ok (.bipush (-6), 2) := by decide +kernel
theorem dX5_row_23 : decode cX5_row 23 = .ok (.istore_n 2, 1) := by decide +kernel
theorem dX5_row_24 : decode cX5_row 24 = .ok (.iload_n 2, 1) := by decide +kernel
theorem dX5_row_25 : decode cX5_row 25 = .ok (.ifCond .eq 9, 3) := by decide +kernel
theorem dX5_row_28 : decode cX5_row 28 = .ok (.aload_n 0, 1) := by decide +kernel
theorem dX5_row_29 : decode cX5_row 29 = .ok (.iload_n 2, 1) := by decide +kernel
theorem dX5_row_30 : decode cX5_row 30 = .ok (.invokevirtual 66, 3) := by decide +kernel
theorem dX5_row_33 : decode cX5_row 33 = .ok (.ireturn, 1) := by decide +kernel
theorem dX5_row_34 : decode cX5_row 34 = .ok (.aload_n 0, 1) := by decide +kernel
theorem dX5_row_35 : decode cX5_row 35 = .ok (.getfield 47, 3) := by decide +kernel
theorem dX5_row_38 : decode cX5_row 38 = .ok (.aload_n 0, 1) := by decide +kernel
theorem dX5_row_39 : decode cX5_row 39 = .ok (.getfield 274, 3) := by decide +kernel
theorem dX5_row_42 : decode cX5_row 42 = .ok (.iload_n 1, 1) := by decide +kernel
theorem dX5_row_43 : decode cX5_row 43 = .ok (.iastore, 1) := by decide +kernel
theorem dX5_row_44 : decode cX5_row 44 = .ok (.aload_n 0, 1) := by decide +kernel
theorem dX5_row_45 : decode cX5_row 45 = .ok (.dup, 1) := by decide +kernel
theorem dX5_row_46 : decode cX5_row 46 = .ok (.getfield 274, 3) := by decide +kernel
theorem dX5_row_49 : decode cX5_row 49 = .ok (.iconst 1, 1) := by decide +kernel
theorem dX5_row_50 : decode cX5_row 50 = .ok (.iadd, 1) := by decide +kernel
theorem dX5_row_51 : decode cX5_row 51 = .ok (.putfield 274, 3) := by decide +kernel
theorem dX5_row_54 : decode cX5_row 54 = .ok (.aload_n 0, 1) := by decide +kernel
theorem dX5_row_55 : decode cX5_row 55 = .ok (.getfield 274, 3) := by decide +kernel
theorem dX5_row_58 : decode cX5_row 58 = .ok (.ireturn, 1) := by decide +kernel
theorem dX5_areInches_0 : decode cX5_areInches 0 = .ok (.iconst 0, 1) := by decide +kernel
theorem dX5_areInches_1 : decode cX5_areInches 1 = .ok (.istore_n 1, 1) := by decide +kernel
theorem dX5_areInches_2 : decode cX5_areInches 2 = .ok (.iload_n 1, 1) := by decide +kernel
theorem dX5_areInches_3 : decode cX5_areInches 3 = .ok (.aload_n 0, 1) := by decide +kernel
theorem dX5_areInches_4 : decode cX5_areInches 4 = .ok (.getfield 274, 3) := by decide +kernel
theorem dX5_areInches_7 : decode cX5_areInches 7 = .ok (.if_icmp .ge 26, 3) := by decide +kernel
theorem dX5_areInches_10 : decode cX5_areInches 10 = .ok (.aload_n 0, 1) := by decide +kernel
theorem dX5_areInches_11 : decode cX5_areInches 11 = .ok (.getfield 47, 3) := by decide +kernel
theorem dX5_areInches_14 : decode cX5_areInches 14 = .ok (.iload_n 1, 1) := by decide +kernel
theorem dX5_areInches_15 : decode cX5_areInches 15 = .ok (.iaload, 1) := by decide +kernel
theorem dX5_areInches_16 : decode cX5_areInches 16 = .ok (.bipush 50, 2) := by decide +kernel
theorem dX5_areInches_18 : decode cX5_areInches 18 = .ok (.irem, 1) := by decide +kernel
theorem dX5_areInches_19 : decode cX5_areInches 19 = .ok (.invokestatic 113, 3) := by decide +kernel
theorem dX5_areInches_22 : decode cX5_areInches 22 = .ok (.ifCond .ne 5, 3) := by decide +kernel
theorem dX5_areInches_25 : decode cX5_areInches 25 = .ok (.iconst 0, 1) := by decide +kernel
theorem dX5_areInches_26 : decode cX5_areInches 26 = .ok (.ireturn, 1) := by decide +kernel
theorem dX5_areInches_27 : decode cX5_areInches 27 = .ok (.iinc 1 1, 3) := by decide +kernel
theorem dX5_areInches_30 : decode cX5_areInches 30 = .ok (.goto (-28), 3) := by decide +kernel
theorem dX5_areInches_33 : decode cX5_areInches 33 = .ok (.iconst 1, 1) := by decide +kernel
theorem dX5_areInches_34 : decode cX5_areInches 34 = .ok (.ireturn, 1) := by decide +kernel
theorem dX5_isAsTold_0 : decode cX5_isAsTold 0 = .ok (.iconst 0, 1) := by decide +kernel
theorem dX5_isAsTold_1 : decode cX5_isAsTold 1 = .ok (.istore_n 2, 1) := by decide +kernel
theorem dX5_isAsTold_2 : decode cX5_isAsTold 2 = .ok (.iload_n 2, 1) := by decide +kernel
theorem dX5_isAsTold_3 : decode cX5_isAsTold 3 = .ok (.aload_n 0, 1) := by decide +kernel
theorem dX5_isAsTold_4 : decode cX5_isAsTold 4 = .ok (.getfield 274, 3) := by decide +kernel
theorem dX5_isAsTold_7 : decode cX5_isAsTold 7 = .ok (.if_icmp .ge 44, 3) := by decide +kernel
theorem dX5_isAsTold_10 : decode cX5_isAsTold 10 = .ok (.aload_n 0, 1) := by decide +kernel
theorem dX5_isAsTold_11 : decode cX5_isAsTold 11 = .ok (.aload_n 0, 1) := by decide +kernel
theorem dX5_isAsTold_12 : decode cX5_isAsTold 12 = .ok (.getfield 47, 3) := by decide +kernel
theorem dX5_isAsTold_15 : decode cX5_isAsTold 15 = .ok (.iload_n 2, 1) := by decide +kernel
theorem dX5_isAsTold_16 : decode cX5_isAsTold 16 = .ok (.iaload, 1) := by decide +kernel
theorem dX5_isAsTold_17 : decode cX5_isAsTold 17 = .ok (.bipush 50, 2) := by decide +kernel
theorem dX5_isAsTold_19 : decode cX5_isAsTold 19 = .ok (.irem, 1) := by decide +kernel
theorem dX5_isAsTold_20 : decode cX5_isAsTold 20 = .ok (.iload_n 1, 1) := by decide +kernel
theorem dX5_isAsTold_21 : decode cX5_isAsTold 21 = .ok (.invokevirtual 171, 3) := by decide +kernel
theorem dX5_isAsTold_24 : decode cX5_isAsTold 24 = .ok (.aload_n 0, 1) := by decide +kernel
theorem dX5_isAsTold_25 : decode cX5_isAsTold 25 = .ok (.getfield 47, 3) := by decide +kernel
theorem dX5_isAsTold_28 : decode cX5_isAsTold 28 = .ok (.iload_n 2, 1) := by decide +kernel
theorem dX5_isAsTold_29 : decode cX5_isAsTold 29 = .ok (.iaload, 1) := by decide +kernel
theorem dX5_isAsTold_30 : decode cX5_isAsTold 30 = .ok (.bipush 50, 2) := by decide +kernel
theorem dX5_isAsTold_32 : decode cX5_isAsTold 32 = .ok (.if_icmp .lt 7, 3) := by decide +kernel
theorem dX5_isAsTold_35 : decode cX5_isAsTold 35 = .ok (.iconst 1, 1) := by decide +kernel
theorem dX5_isAsTold_36 : decode cX5_isAsTold 36 = .ok (.goto 4, 3) := by decide +kernel
theorem dX5_isAsTold_39 : decode cX5_isAsTold 39 = .ok (.iconst 0, 1) := by decide +kernel
theorem dX5_isAsTold_40 : decode cX5_isAsTold 40 = .ok (.if_icmp .eq 5, 3) := by decide +kernel
theorem dX5_isAsTold_43 : decode cX5_isAsTold 43 = .ok (.iconst 0, 1) := by decide +kernel
theorem dX5_isAsTold_44 : decode cX5_isAsTold 44 = .ok (.ireturn, 1) := by decide +kernel
theorem dX5_isAsTold_45 : decode cX5_isAsTold 45 = .ok (.iinc 2 1, 3) := by decide +kernel
theorem dX5_isAsTold_48 : decode cX5_isAsTold 48 = .ok (.goto (-46), 3) := by decide +kernel
theorem dX5_isAsTold_51 : decode cX5_isAsTold 51 = .ok (.iconst 1, 1) := by decide +kernel
theorem dX5_isAsTold_52 : decode cX5_isAsTold 52 = .ok (.ireturn, 1) := by decide +kernel
theorem dX5_old_0 : decode cX5_old 0 = .ok (.iconst 0, 1) := by decide +kernel
theorem dX5_old_1 : decode cX5_old 1 = .ok (.istore_n 1, 1) := by decide +kernel
theorem dX5_old_2 : decode cX5_old 2 = .ok (.iconst 0, 1) := by decide +kernel
theorem dX5_old_3 : decode cX5_old 3 = .ok (.istore_n 2, 1) := by decide +kernel
theorem dX5_old_4 : decode cX5_old 4 = .ok (.iload_n 2, 1) := by decide +kernel
theorem dX5_old_5 : decode cX5_old 5 = .ok (.aload_n 0, 1) := by decide +kernel
theorem dX5_old_6 : decode cX5_old 6 = .ok (.getfield 13, 3) := by decide +kernel
theorem dX5_old_9 : decode cX5_old 9 = .ok (.iconst 0, 1) := by decide +kernel
theorem dX5_old_10 : decode cX5_old 10 = .ok (.iaload, 1) := by decide +kernel
theorem dX5_old_11 : decode cX5_old 11 = .ok (.if_icmp .ge 43, 3) := by decide +kernel
theorem dX5_old_14 : decode cX5_old 14 = .ok (.aload_n 0, 1) := by decide +kernel
theorem dX5_old_15 : decode cX5_old 15 = .ok (.invokevirtual 277, 3) := by decide +kernel
theorem dX5_old_18 : decode cX5_old 18 = .ok (.ifCond .eq 36, 3) := by decide +kernel
theorem dX5_old_21 : decode cX5_old 21 = .ok (.iload_n 1, 1) := by decide +kernel
theorem dX5_old_22 : decode cX5_old 22 = .ok (.aload_n 0, 1) := by decide +kernel
theorem dX5_old_23 : decode cX5_old 23 = .ok (.getfield 25, 3) := by decide +kernel
theorem dX5_old_26 : decode cX5_old 26 = .ok (.iload_n 2, 1) := by decide +kernel
theorem dX5_old_27 : decode cX5_old 27 = .ok (.iaload, 1) := by decide +kernel
theorem dX5_old_28 : decode cX5_old 28 = .ok (.ifCond .le 17, 3) := by decide +kernel
theorem dX5_old_31 : decode cX5_old 31 = .ok (.aload_n 0, 1) := by decide +kernel
theorem dX5_old_32 : decode cX5_old 32 = .ok (.iload_n 2, 1) := by decide +kernel
theorem dX5_old_33 : decode cX5_old 33 = .ok (.invokevirtual 280, 3) := by decide +kernel
theorem dX5_old_36 : decode cX5_old 36 = .ok (.ifCond .eq 9, 3) := by decide +kernel
theorem dX5_old_39 : decode cX5_old 39 = .ok (.iconst 1, 1) := by decide +kernel
theorem dX5_old_40 : decode cX5_old 40 = .ok (.iload_n 2, 1) := by decide +kernel
theorem dX5_old_41 : decode cX5_old 41 = .ok (.ishl, 1) := by decide +kernel
theorem dX5_old_42 : decode cX5_old 42 = .ok (.goto 4, 3) := by decide +kernel
theorem dX5_old_45 : decode cX5_old 45 = .ok (.iconst 0, 1) := by decide +kernel
theorem dX5_old_46 : decode cX5_old 46 = .ok (.ior, 1) := by decide +kernel
theorem dX5_old_47 : decode cX5_old 47 = .ok (.istore_n 1, 1) := by decide +kernel
theorem dX5_old_48 : decode cX5_old 48 = .ok (.iinc 2 1, 3) := by decide +kernel
theorem dX5_old_51 : decode cX5_old 51 = .ok (.goto (-47), 3) := by decide +kernel
theorem dX5_old_54 : decode cX5_old 54 = .ok (.iload_n 1, 1) := by decide +kernel
theorem dX5_old_55 : decode cX5_old 55 = .ok (.ireturn, 1) := by decide +kernel
theorem dX5_happened_0 : decode cX5_happened 0 = .ok (.iload_n 1, 1) := by decide +kernel
theorem dX5_happened_1 : decode cX5_happened 1 = .ok (.iconst 0, 1) := by decide +kernel
theorem dX5_happened_2 : decode cX5_happened 2 = .ok (.iconst 4, 1) := by decide +kernel
theorem dX5_happened_3 : decode cX5_happened 3 = .ok (.invokestatic 77, 3) := by decide +kernel
theorem dX5_happened_6 : decode cX5_happened 6 = .ok (.ifCond .eq 12, 3) := by decide +kernel
theorem dX5_happened_9 : decode cX5_happened 9 = .ok (.iload_n 2, 1) := by decide +kernel
theorem dX5_happened_10 : decode cX5_happened 10 = .ok (.iconst 0, 1) := by decide +kernel
theorem dX5_happened_11 : decode cX5_happened 11 = .ok (.iconst 1, 1) := by decide +kernel
theorem dX5_happened_12 : decode cX5_happened 12 = .ok (.invokestatic 77, 3) := by decide +kernel
theorem dX5_happened_15 : decode cX5_happened 15 = .ok (.ifCond .ne 10, 3) := by decide +kernel
theorem dX5_happened_18 : decode cX5_happened 18 = .ok (.aload_n 0, 1) := by decide +kernel
theorem dX5_happened_19 : decode cX5_happened 19 = .ok (.bipush (-2), 2) := by decide +kernel
theorem dX5_happened_21 : decode cX5_happened 21 = .ok (.invokevirtual 197, 3) := by decide +kernel
theorem dX5_happened_24 : decode cX5_happened 24 = .ok (.lreturn, 1) := by decide +kernel
theorem dX5_happened_25 : decode cX5_happened 25 = .ok (.aload_n 0, 1) := by decide +kernel
theorem dX5_happened_26 : decode cX5_happened 26 = .ok (.invokevirtual 277, 3) := by decide +kernel
theorem dX5_happened_29 : decode cX5_happened 29 = .ok (.ifCond .ne 6, 3) := by decide +kernel
theorem dX5_happened_32 : decode cX5_happened 32 = .ok (.iload_n 2, 1) := by decide +kernel
theorem dX5_happened_33 : decode cX5_happened 33 = .ok (.i2l, 1) := by decide +kernel
theorem dX5_happened_34 : decode cX5_happened 34 = .ok (.lreturn, 1) := by decide +kernel
theorem dX5_happened_35 : decode cX5_happened 35 = .ok (.lconst 0, 1) := by decide +kernel
theorem dX5_happened_36 : decode cX5_happened 36 = .ok (.lstore_n 3, 1) := by decide +kernel
theorem dX5_happened_37 : decode cX5_happened 37 = .ok (.aload_n 0, 1) := by decide +kernel
theorem dX5_happened_38 : decode cX5_happened 38 = .ok (.invokevirtual 216, 3) := by decide +kernel
theorem dX5_happened_41 : decode cX5_happened 41 = .ok (.lstore 5, 2) := by decide +kernel
theorem dX5_happened_43 : decode cX5_happened 43 = .ok (.iconst 0, 1) := by decide +kernel
theorem dX5_happened_44 : decode cX5_happened 44 = .ok (.istore 7, 2) := by decide +kernel
theorem dX5_happened_46 : decode cX5_happened 46 = .ok (.iload 7, 2) := by decide +kernel
theorem dX5_happened_48 : decode cX5_happened 48 = .ok (.aload_n 0, 1) := by decide +kernel
theorem dX5_happened_49 : decode cX5_happened 49 = .ok (.getfield 13, 3) := by decide +kernel
theorem dX5_happened_52 : decode cX5_happened 52 = .ok (.iconst 0, 1) := by decide +kernel
theorem dX5_happened_53 : decode cX5_happened 53 = .ok (.iaload, 1) := by decide +kernel
theorem dX5_happened_54 : decode cX5_happened 54 = .ok (.if_icmp .ge 75, 3) := by decide +kernel
theorem dX5_happened_57 : decode cX5_happened 57 = .ok (.aload_n 0, 1) := by decide +kernel
theorem dX5_happened_58 : decode cX5_happened 58 = .ok (.getfield 25, 3) := by decide +kernel
theorem dX5_happened_61 : decode cX5_happened 61 = .ok (.iload 7, 2) := by decide +kernel
theorem dX5_happened_63 : decode cX5_happened 63 = .ok (.iaload, 1) := by decide +kernel
theorem dX5_happened_64 : decode cX5_happened 64 = .ok (.i2l, 1) := by decide +kernel
theorem dX5_happened_65 : decode cX5_happened 65 = .ok (.lstore 8, 2) := by decide +kernel
theorem dX5_happened_67 : decode cX5_happened 67 = .ok (.iconst 0, 1) := by decide +kernel
theorem dX5_happened_68 : decode cX5_happened 68 = .ok (.istore 10, 2) := by decide +kernel
theorem dX5_happened_70 : decode cX5_happened 70 = .ok (.iload 10, 2) := by decide +kernel
theorem dX5_happened_72 : decode cX5_happened 72 = .ok (.aload_n 0, 1) := by decide +kernel
theorem dX5_happened_73 : decode cX5_happened 73 = .ok (.getfield 274, 3) := by decide +kernel
theorem dX5_happened_76 : decode cX5_happened 76 = .ok (.if_icmp .ge 42, 3) := by decide +kernel
theorem dX5_happened_79 : decode cX5_happened 79 = .ok (.lload 8, 2) := by decide +kernel
theorem dX5_happened_81 : decode cX5_happened 81 = .ok (.aload_n 0, 1) := by decide +kernel
theorem dX5_happened_82 : decode cX5_happened 82 = .ok (.iload_n 1, 1) := by decide +kernel
theorem dX5_happened_83 : decode cX5_happened 83 = .ok (.aload_n 0, 1) := by decide +kernel
theorem dX5_happened_84 : decode cX5_happened 84 = .ok (.getfield 47, 3) := by decide +kernel
theorem dX5_happened_87 : decode cX5_happened 87 = .ok (.iload 10, 2) := by decide +kernel
theorem dX5_happened_89 : decode cX5_happened 89 = .ok (.iaload, 1) := by decide +kernel
theorem dX5_happened_90 : decode cX5_happened 90 = .ok (.bipush 50, 2) := by decide +kernel
theorem dX5_happened_92 : decode cX5_happened 92 = .ok (.irem, 1) := by decide +kernel
theorem dX5_happened_93 : decode cX5_happened 93 = .ok (.aload_n 0, 1) := by decide +kernel
theorem dX5_happened_94 : decode cX5_happened 94 = .ok (.getfield 47, 3) := by decide +kernel
theorem dX5_happened_97 : decode cX5_happened 97 = .ok (.iload 10, 2) := by decide +kernel
theorem dX5_happened_99 : decode cX5_happened 99 = .ok (.iaload, 1) := by decide +kernel
theorem dX5_happened_100 : decode cX5_happened 100 = .ok (.bipush 50, 2) := by decide +kernel
theorem dX5_happened_102 : decode cX5_happened 102 = .ok (.idiv, 1) := by decide +kernel
theorem dX5_happened_103 : decode cX5_happened 103 = .ok (.iload 7, 2) := by decide +kernel
theorem dX5_happened_105 : decode cX5_happened 105 = .ok (.invokevirtual 184, 3) := by decide +kernel
theorem dX5_happened_108 : decode cX5_happened 108 = .ok (.i2l, 1) := by decide +kernel
theorem dX5_happened_109 : decode cX5_happened 109 = .ok (.lmul, 1) := by decide +kernel
theorem dX5_happened_110 : decode cX5_happened 110 = .ok (.lstore 8, 2) := by decide +kernel
theorem dX5_happened_112 : decode cX5_happened 112 = .ok (.iinc 10 1, 3) := by decide +kernel
theorem dX5_happened_115 : decode cX5_happened 115 = .ok (.goto (-45), 3) := by decide +kernel
theorem dX5_happened_118 : decode cX5_happened 118 = .ok (.lload_n 3, 1) := by decide +kernel
theorem dX5_happened_119 : decode cX5_happened 119 = .ok (.lload 8, 2) := by decide +kernel
theorem dX5_happened_121 : decode cX5_happened 121 = .ok (.ladd, 1) := by decide +kernel
theorem dX5_happened_122 : decode cX5_happened 122 = .ok (.lstore_n 3, 1) := by decide +kernel
theorem dX5_happened_123 : decode cX5_happened 123 = .ok (.iinc 7 1, 3) := by decide +kernel
theorem dX5_happened_126 : decode cX5_happened 126 = .ok (.goto (-80), 3) := by decide +kernel
theorem dX5_happened_129 : decode cX5_happened 129 = .ok (.iconst 0, 1) := by decide +kernel
theorem dX5_happened_130 : decode cX5_happened 130 = .ok (.istore 7, 2) := by decide +kernel
theorem dX5_happened_132 : decode cX5_happened 132 = .ok (.iload 7, 2) := by decide +kernel
theorem dX5_happened_134 : decode cX5_happened 134 = .ok (.aload_n 0, 1) := by decide +kernel
theorem dX5_happened_135 : decode cX5_happened 135 = .ok (.getfield 274, 3) := by decide +kernel
theorem dX5_happened_138 : decode cX5_happened 138 = .ok (.if_icmp .ge 17, 3) := by decide +kernel
theorem dX5_happened_141 : decode cX5_happened 141 = .ok (.lload 5, 2) := by decide +kernel
theorem dX5_happened_143 : decode cX5_happened 143 = .ok (.ldc2_w 257, 3) := by decide +kernel
theorem dX5_happened_146 : decode cX5_happened 146 = .ok (.lmul, 1) := by decide +kernel
theorem dX5_happened_147 : decode cX5_happened 147 = .ok (.lstore 5, 2) := by decide +kernel
theorem dX5_happened_149 : decode cX5_happened 149 = .ok (.iinc 7 1, 3) := by decide +kernel
theorem dX5_happened_152 : decode cX5_happened 152 = .ok (.goto (-20), 3) := by decide +kernel
theorem dX5_happened_155 : decode cX5_happened 155 = .ok (.lload_n 3, 1) := by decide +kernel
theorem dX5_happened_156 : decode cX5_happened 156 = .ok (.lload 5, 2) := by decide +kernel
theorem dX5_happened_158 : decode cX5_happened 158 = .ok (.iload_n 2, 1) := by decide +kernel
theorem dX5_happened_159 : decode cX5_happened 159 = .ok (.invokestatic 220, 3) := by decide +kernel
theorem dX5_happened_162 : decode cX5_happened 162 = .ok (.lreturn, 1) := by decide +kernel
theorem dX5_judge_0 : decode cX5_judge 0 = .ok (.aload_n 0, 1) := by decide +kernel
theorem dX5_judge_1 : decode cX5_judge 1 = .ok (.getfield 274, 3) := by decide +kernel
theorem dX5_judge_4 : decode cX5_judge 4 = .ok (.istore_n 1, 1) := by decide +kernel
theorem dX5_judge_5 : decode cX5_judge 5 = .ok (.aload_n 0, 1) := by decide +kernel
theorem dX5_judge_6 : decode cX5_judge 6 = .ok (.iconst 0, 1) := by decide +kernel
theorem dX5_judge_7 : decode cX5_judge 7 = .ok (.putfield 274, 3) := by decide +kernel
theorem dX5_judge_10 : decode cX5_judge 10 = .ok (.aload_n 0, 1) := by decide +kernel
theorem dX5_judge_11 : decode cX5_judge 11 = .ok (.iconst 1, 1) := by decide +kernel
theorem dX5_judge_12 : decode cX5_judge 12 = .ok (.iconst 1, 1) := by decide +kernel
theorem dX5_judge_13 : decode cX5_judge 13 = .ok (.invokevirtual 138, 3) := by decide +kernel
theorem dX5_judge_16 : decode cX5_judge 16 = .ok (.bipush (-9), 2) := by decide +kernel
theorem dX5_judge_18 : decode cX5_judge 18 = .ok (.istore_n 2, 1) := by decide +kernel
theorem dX5_judge_19 : decode cX5_judge 19 = .ok (.iconst 0, 1) := by decide +kernel
theorem dX5_judge_20 : decode cX5_judge 20 = .ok (.istore_n 3, 1) := by decide +kernel
theorem dX5_judge_21 : decode cX5_judge 21 = .ok (.iload_n 3, 1) := by decide +kernel
theorem dX5_judge_22 : decode cX5_judge 22 = .ok (.iload_n 1, 1) := by decide +kernel
theorem dX5_judge_23 : decode cX5_judge 23 = .ok (.if_icmp .ge 99, 3) := by decide +kernel
theorem dX5_judge_26 : decode cX5_judge 26 = .ok (.iload_n 2, 1) := by decide +kernel
theorem dX5_judge_27 : decode cX5_judge 27 = .ok (.ifCond .ge 95, 3) := by decide +kernel
theorem dX5_judge_30 : decode cX5_judge 30 = .ok (.aload_n 0, 1) := by decide +kernel
theorem dX5_judge_31 : decode cX5_judge 31 = .ok (.getfield 47, 3) := by decide +kernel
theorem dX5_judge_34 : decode cX5_judge 34 = .ok (.iload_n 3, 1) := by decide +kernel
theorem dX5_judge_35 : decode cX5_judge 35 = .ok (.iaload, 1) := by decide +kernel
theorem dX5_judge_36 : decode cX5_judge 36 = .ok (.bipush 50, 2) := by decide +kernel
theorem dX5_judge_38 : decode cX5_judge 38 = .ok (.irem, 1) := by decide +kernel
theorem dX5_judge_39 : decode cX5_judge 39 = .ok (.invokestatic 113, 3) := by decide +kernel
theorem dX5_judge_42 : decode cX5_judge 42 = .ok (.ifCond .eq 32, 3) := by decide +kernel
theorem dX5_judge_45 : decode cX5_judge 45 = .ok (.aload_n 0, 1) := by decide +kernel
theorem dX5_judge_46 : decode cX5_judge 46 = .ok (.aload_n 0, 1) := by decide +kernel
theorem dX5_judge_47 : decode cX5_judge 47 = .ok (.getfield 47, 3) := by decide +kernel
theorem dX5_judge_50 : decode cX5_judge 50 = .ok (.iload_n 3, 1) := by decide +kernel
theorem dX5_judge_51 : decode cX5_judge 51 = .ok (.iaload, 1) := by decide +kernel
theorem dX5_judge_52 : decode cX5_judge 52 = .ok (.bipush 50, 2) := by decide +kernel
theorem dX5_judge_54 : decode cX5_judge 54 = .ok (.irem, 1) := by decide +kernel
theorem dX5_judge_55 : decode cX5_judge 55 = .ok (.aload_n 0, 1) := by decide +kernel
theorem dX5_judge_56 : decode cX5_judge 56 = .ok (.getfield 47, 3) := by decide +kernel
theorem dX5_judge_59 : decode cX5_judge 59 = .ok (.iload_n 3, 1) := by decide +kernel
theorem dX5_judge_60 : decode cX5_judge 60 = .ok (.iaload, 1) := by decide +kernel
theorem dX5_judge_61 : decode cX5_judge 61 = .ok (.bipush 50, 2) := by decide +kernel
theorem dX5_judge_63 : decode cX5_judge 63 = .ok (.idiv, 1) := by decide +kernel
theorem dX5_judge_64 : decode cX5_judge 64 = .ok (.invokevirtual 120, 3) := by decide +kernel
theorem dX5_judge_67 : decode cX5_judge 67 = .ok (.ifCond .le 7, 3) := by decide +kernel
theorem dX5_judge_70 : decode cX5_judge 70 = .ok (.iconst 1, 1) := by decide +kernel
theorem dX5_judge_71 : decode cX5_judge 71 = .ok (.goto 4, 3) := by decide +kernel
theorem dX5_judge_74 : decode cX5_judge 74 = .ok (.iconst 0, 1) := by decide +kernel
theorem dX5_judge_75 : decode cX5_judge 75 = .ok (.istore 4, 2) := by decide +kernel
theorem dX5_judge_77 : decode cX5_judge 77 = .ok (.iload 4, 2) := by decide +kernel
theorem dX5_judge_79 : decode cX5_judge 79 = .ok (.ifCond .eq 25, 3) := by decide +kernel
theorem dX5_judge_82 : decode cX5_judge 82 = .ok (.aload_n 0, 1) := by decide +kernel
theorem dX5_judge_83 : decode cX5_judge 83 = .ok (.aload_n 0, 1) := by decide +kernel
theorem dX5_judge_84 : decode cX5_judge 84 = .ok (.getfield 47, 3) := by decide +kernel
theorem dX5_judge_87 : decode cX5_judge 87 = .ok (.iload_n 3, 1) := by decide +kernel
theorem dX5_judge_88 : decode cX5_judge 88 = .ok (.iaload, 1) := by decide +kernel
theorem dX5_judge_89 : decode cX5_judge 89 = .ok (.bipush 50, 2) := by decide +kernel
theorem dX5_judge_91 : decode cX5_judge 91 = .ok (.irem, 1) := by decide +kernel
theorem dX5_judge_92 : decode cX5_judge 92 = .ok (.aload_n 0, 1) := by decide +kernel
theorem dX5_judge_93 : decode cX5_judge 93 = .ok (.getfield 47, 3) := by decide +kernel
theorem dX5_judge_96 : decode cX5_judge 96 = .ok (.iload_n 3, 1) := by decide +kernel
theorem dX5_judge_97 : decode cX5_judge 97 = .ok (.iaload, 1) := by decide +kernel
theorem dX5_judge_98 : decode cX5_judge 98 = .ok (.bipush 50, 2) := by decide +kernel
theorem dX5_judge_100 : decode cX5_judge 100 = .ok (.idiv, 1) := by decide +kernel
theorem dX5_judge_101 : decode cX5_judge 101 = .ok (.invokevirtual 191, 3) := by decide +kernel
theorem dX5_judge_104 : decode cX5_judge 104 = .ok (.iload 4, 2) := by decide +kernel
theorem dX5_judge_106 : decode cX5_judge 106 = .ok (.ifCond .eq 8, 3) := by decide +kernel
theorem dX5_judge_109 : decode cX5_judge 109 = .ok (.bipush (-9), 2) := by decide +kernel
theorem dX5_judge_111 : decode cX5_judge 111 = .ok (.goto 4, 3) := by decide +kernel
theorem dX5_judge_114 : decode cX5_judge 114 = .ok (.iload_n 3, 1) := by decide +kernel
theorem dX5_judge_115 : decode cX5_judge 115 = .ok (.istore_n 2, 1) := by decide +kernel
theorem dX5_judge_116 : decode cX5_judge 116 = .ok (.iinc 3 1, 3) := by decide +kernel
theorem dX5_judge_119 : decode cX5_judge 119 = .ok (.goto (-98), 3) := by decide +kernel
theorem dX5_judge_122 : decode cX5_judge 122 = .ok (.aload_n 0, 1) := by decide +kernel
theorem dX5_judge_123 : decode cX5_judge 123 = .ok (.iconst 1, 1) := by decide +kernel
theorem dX5_judge_124 : decode cX5_judge 124 = .ok (.iconst 0, 1) := by decide +kernel
theorem dX5_judge_125 : decode cX5_judge 125 = .ok (.invokevirtual 138, 3) := by decide +kernel
theorem dX5_judge_128 : decode cX5_judge 128 = .ok (.iload_n 2, 1) := by decide +kernel
theorem dX5_judge_129 : decode cX5_judge 129 = .ok (.ireturn, 1) := by decide +kernel
theorem dX5_nailsBy_0 : decode cX5_nailsBy 0 = .ok (.aload_n 0, 1) := by decide +kernel
theorem dX5_nailsBy_1 : decode cX5_nailsBy 1 = .ok (.invokevirtual 50, 3) := by decide +kernel
theorem dX5_nailsBy_4 : decode cX5_nailsBy 4 = .ok (.iconst 0, 1) := by decide +kernel
theorem dX5_nailsBy_5 : decode cX5_nailsBy 5 = .ok (.istore_n 2, 1) := by decide +kernel
theorem dX5_nailsBy_6 : decode cX5_nailsBy 6 = .ok (.iload_n 2, 1) := by decide +kernel
theorem dX5_nailsBy_7 : decode cX5_nailsBy 7 = .ok (.bipush 48, 2) := by decide +kernel
theorem dX5_nailsBy_9 : decode cX5_nailsBy 9 = .ok (.if_icmp .ge 31, 3) := by decide +kernel
theorem dX5_nailsBy_12 : decode cX5_nailsBy 12 = .ok (.aload_n 0, 1) := by decide +kernel
theorem dX5_nailsBy_13 : decode cX5_nailsBy 13 = .ok (.invokevirtual 224, 3) := by decide +kernel
theorem dX5_nailsBy_16 : decode cX5_nailsBy 16 = .ok (.istore_n 3, 1) := by decide +kernel
theorem dX5_nailsBy_17 : decode cX5_nailsBy 17 = .ok (.iinc 2 1, 3) := by decide +kernel
theorem dX5_nailsBy_20 : decode cX5_nailsBy 20 = .ok (.aload_n 0, 1) := by decide +kernel
theorem dX5_nailsBy_21 : decode cX5_nailsBy 21 = .ok (.iload_n 3, 1) := by decide +kernel
theorem dX5_nailsBy_22 : decode cX5_nailsBy 22 = .ok (.iload_n 1, 1) := by decide +kernel
theorem dX5_nailsBy_23 : decode cX5_nailsBy 23 = .ok (.invokevirtual 171, 3) := by decide +kernel
theorem dX5_nailsBy_26 : decode cX5_nailsBy 26 = .ok (.ifCond .eq 5, 3) := by decide +kernel
theorem dX5_nailsBy_29 : decode cX5_nailsBy 29 = .ok (.iload_n 2, 1) := by decide +kernel
theorem dX5_nailsBy_30 : decode cX5_nailsBy 30 = .ok (.ireturn, 1) := by decide +kernel
theorem dX5_nailsBy_31 : decode cX5_nailsBy 31 = .ok (.aload_n 0, 1) := by decide +kernel
theorem dX5_nailsBy_32 : decode cX5_nailsBy 32 = .ok (.iload_n 3, 1) := by decide +kernel
theorem dX5_nailsBy_33 : decode cX5_nailsBy 33 = .ok (.iconst 0, 1) := by decide +kernel
theorem dX5_nailsBy_34 : decode cX5_nailsBy 34 = .ok (.invokevirtual 191, 3) := by decide +kernel
theorem dX5_nailsBy_37 : decode cX5_nailsBy 37 = .ok (.goto (-31), 3) := by decide +kernel
theorem dX5_nailsBy_40 : decode cX5_nailsBy 40 = .ok (.iload_n 2, 1) := by decide +kernel
theorem dX5_nailsBy_41 : decode cX5_nailsBy 41 = .ok (.ireturn, 1) := by decide +kernel
theorem dX5_lots_0 : decode cX5_lots 0 = .ok (.iload_n 1, 1) := by decide +kernel
theorem dX5_lots_1 : decode cX5_lots 1 = .ok (.iconst 1, 1) := by decide +kernel
theorem dX5_lots_2 : decode cX5_lots 2 = .ok (.bipush 30, 2) := by decide +kernel
theorem dX5_lots_4 : decode cX5_lots 4 = .ok (.invokestatic 59, 3) := by decide +kernel
theorem dX5_lots_7 : decode cX5_lots 7 = .ok (.istore_n 3, 1) := by decide +kernel
theorem dX5_lots_8 : decode cX5_lots 8 = .ok (.iload_n 3, 1) := by decide +kernel
theorem dX5_lots_9 : decode cX5_lots 9 = .ok (.ifCond .eq 9, 3) := by decide +kernel
theorem dX5_lots_12 : decode cX5_lots 12 = .ok (.aload_n 0, 1) := by decide +kernel
theorem dX5_lots_13 : decode cX5_lots 13 = .ok (.iload_n 3, 1) := by decide +kernel
theorem dX5_lots_14 : decode cX5_lots 14 = .ok (.invokevirtual 66, 3) := by decide +kernel
theorem dX5_lots_17 : decode cX5_lots 17 = .ok (.ireturn, 1) := by decide +kernel
theorem dX5_lots_18 : decode cX5_lots 18 = .ok (.aload_n 0, 1) := by decide +kernel
theorem dX5_lots_19 : decode cX5_lots 19 = .ok (.iconst 1, 1) := by decide +kernel
theorem dX5_lots_20 : decode cX5_lots 20 = .ok (.iconst 1, 1) := by decide +kernel
theorem dX5_lots_21 : decode cX5_lots 21 = .ok (.invokevirtual 138, 3) := by decide +kernel
theorem dX5_lots_24 : decode cX5_lots 24 = .ok (.iload_n 2, 1) := by decide +kernel
theorem dX5_lots_25 : decode cX5_lots 25 = .ok (.istore 4, 2) := by decide +kernel
theorem dX5_lots_27 : decode cX5_lots 27 = .ok (.iconst 0, 1) := by decide +kernel
theorem dX5_lots_28 : decode cX5_lots 28 = .ok (.istore 5, 2) := by decide +kernel
theorem dX5_lots_30 : decode cX5_lots 30 = .ok (.iconst 0, 1) := by decide +kernel
theorem dX5_lots_31 : decode cX5_lots 31 = .ok (.istore 6, 2) := by decide +kernel
theorem dX5_lots_33 : decode cX5_lots 33 = .ok (.iload 6, 2) := by decide +kernel
theorem dX5_lots_35 : decode cX5_lots 35 = .ok (.iload_n 1, 1) := by decide +kernel
theorem dX5_lots_36 : decode cX5_lots 36 = .ok (.if_icmp .ge 47, 3) := by decide +kernel
theorem dX5_lots_39 : decode cX5_lots 39 = .ok (.iload 4, 2) := by decide +kernel
theorem dX5_lots_41 : decode cX5_lots 41 = .ok (.ldc_w 283, 3) := by decide +kernel
theorem dX5_lots_44 : decode cX5_lots 44 = .ok (.imul, 1) := by decide +kernel
theorem dX5_lots_45 : decode cX5_lots 45 = .ok (.ldc_w 284, 3) := by decide +kernel
theorem dX5_lots_48 : decode cX5_lots 48 = .ok (.iadd, 1) := by decide +kernel
theorem dX5_lots_49 : decode cX5_lots 49 = .ok (.istore 4, 2) := by decide +kernel
theorem dX5_lots_51 : decode cX5_lots 51 = .ok (.iload 5, 2) := by decide +kernel
theorem dX5_lots_53 : decode cX5_lots 53 = .ok (.aload_n 0, 1) := by decide +kernel
theorem dX5_lots_54 : decode cX5_lots 54 = .ok (.iload 4, 2) := by decide +kernel
theorem dX5_lots_56 : decode cX5_lots 56 = .ok (.ldc_w 285, 3) := by decide +kernel
theorem dX5_lots_59 : decode cX5_lots 59 = .ok (.iand, 1) := by decide +kernel
theorem dX5_lots_60 : decode cX5_lots 60 = .ok (.sipush 256, 3) := by decide +kernel
theorem dX5_lots_63 : decode cX5_lots 63 = .ok (.idiv, 1) := by decide +kernel
theorem dX5_lots_64 : decode cX5_lots 64 = .ok (.aload_n 0, 1) := by decide +kernel
theorem dX5_lots_65 : decode cX5_lots 65 = .ok (.getfield 13, 3) := by decide +kernel
theorem dX5_lots_68 : decode cX5_lots 68 = .ok (.iconst 0, 1) := by decide +kernel
theorem dX5_lots_69 : decode cX5_lots 69 = .ok (.iaload, 1) := by decide +kernel
theorem dX5_lots_70 : decode cX5_lots 70 = .ok (.irem, 1) := by decide +kernel
theorem dX5_lots_71 : decode cX5_lots 71 = .ok (.invokevirtual 286, 3) := by decide +kernel
theorem dX5_lots_74 : decode cX5_lots 74 = .ok (.iadd, 1) := by decide +kernel
theorem dX5_lots_75 : decode cX5_lots 75 = .ok (.istore 5, 2) := by decide +kernel
theorem dX5_lots_77 : decode cX5_lots 77 = .ok (.iinc 6 1, 3) := by decide +kernel
theorem dX5_lots_80 : decode cX5_lots 80 = .ok (.goto (-47), 3) := by decide +kernel
theorem dX5_lots_83 : decode cX5_lots 83 = .ok (.aload_n 0, 1) := by decide +kernel
theorem dX5_lots_84 : decode cX5_lots 84 = .ok (.iconst 1, 1) := by decide +kernel
theorem dX5_lots_85 : decode cX5_lots 85 = .ok (.iconst 0, 1) := by decide +kernel
theorem dX5_lots_86 : decode cX5_lots 86 = .ok (.invokevirtual 138, 3) := by decide +kernel
theorem dX5_lots_89 : decode cX5_lots 89 = .ok (.iload 5, 2) := by decide +kernel
theorem dX5_lots_91 : decode cX5_lots 91 = .ok (.ireturn, 1) := by decide +kernel
theorem dX5_count_0 : decode cX5_count 0 = .ok (.iload_n 1, 1) := by decide +kernel
theorem dX5_count_1 : decode cX5_count 1 = .ok (.bipush 11, 2) := by decide +kernel
theorem dX5_count_3 : decode cX5_count 3 = .ok (.bipush 16, 2) := by decide +kernel
theorem dX5_count_5 : decode cX5_count 5 = .ok (.invokestatic 77, 3) := by decide +kernel
theorem dX5_count_8 : decode cX5_count 8 = .ok (.ifCond .eq 13, 3) := by decide +kernel
theorem dX5_count_11 : decode cX5_count 11 = .ok (.aload_n 0, 1) := by decide +kernel
theorem dX5_count_12 : decode cX5_count 12 = .ok (.getfield 7, 3) := by decide +kernel
theorem dX5_count_15 : decode cX5_count 15 = .ok (.iload_n 1, 1) := by decide +kernel
theorem dX5_count_16 : decode cX5_count 16 = .ok (.bipush 10, 2) := by decide +kernel
theorem dX5_count_18 : decode cX5_count 18 = .ok (.isub, 1) := by decide +kernel
theorem dX5_count_19 : decode cX5_count 19 = .ok (.iaload, 1) := by decide +kernel
theorem dX5_count_20 : decode cX5_count 20 = .ok (.ireturn, 1) := by decide +kernel
theorem dX5_count_21 : decode cX5_count 21 = .ok (.iload_n 1, 1) := by decide +kernel
theorem dX5_count_22 : decode cX5_count 22 = .ok (.tableswitch 93 0 9 #[54, 59, 64, 69, 74, 74, 74, 74, 83, 88], 54) := by decide +kernel
theorem dX5_count_76 : decode cX5_count 76 = .ok (.aload_n 0, 1) := by decide +kernel
theorem dX5_count_77 : decode cX5_count 77 = .ok (.invokevirtual 204, 3) := by decide +kernel
theorem dX5_count_80 : decode cX5_count 80 = .ok (.ireturn, 1) := by decide +kernel
theorem dX5_count_81 : decode cX5_count 81 = .ok (.aload_n 0, 1) := by decide +kernel
theorem dX5_count_82 : decode cX5_count 82 = .ok (.getfield 55, 3) := by decide +kernel
theorem dX5_count_85 : decode cX5_count 85 = .ok (.ireturn, 1) := by decide +kernel
theorem dX5_count_86 : decode cX5_count 86 = .ok (.aload_n 0, 1) := by decide +kernel
theorem dX5_count_87 : decode cX5_count 87 = .ok (.invokevirtual 210, 3) := by decide +kernel
theorem dX5_count_90 : decode cX5_count 90 = .ok (.ireturn, 1) := by decide +kernel
theorem dX5_count_91 : decode cX5_count 91 = .ok (.aload_n 0, 1) := by decide +kernel
theorem dX5_count_92 : decode cX5_count 92 = .ok (.getfield 128, 3) := by decide +kernel
theorem dX5_count_95 : decode cX5_count 95 = .ok (.ireturn, 1) := by decide +kernel
theorem dX5_count_96 : decode cX5_count 96 = .ok (.aload_n 0, 1) := by decide +kernel
theorem dX5_count_97 : decode cX5_count 97 = .ok (.getfield 13, 3) := by decide +kernel
theorem dX5_count_100 : decode cX5_count 100 = .ok (.iload_n 1, 1) := by decide +kernel
theorem dX5_count_101 : decode cX5_count 101 = .ok (.iconst 4, 1) := by decide +kernel
theorem dX5_count_102 : decode cX5_count 102 = .ok (.isub, 1) := by decide +kernel
theorem dX5_count_103 : decode cX5_count 103 = .ok (.iaload, 1) := by decide +kernel
theorem dX5_count_104 : decode cX5_count 104 = .ok (.ireturn, 1) := by decide +kernel
theorem dX5_count_105 : decode cX5_count 105 = .ok (.aload_n 0, 1) := by decide +kernel
theorem dX5_count_106 : decode cX5_count 106 = .ok (.getfield 274, 3) := by decide +kernel
theorem dX5_count_109 : decode cX5_count 109 = .ok (.ireturn, 1) := by decide +kernel
theorem dX5_count_110 : decode cX5_count 110 = .ok (.aload_n 0, 1) := by decide +kernel
theorem dX5_count_111 : decode cX5_count 111 = .ok (.getfield 63, 3) := by decide +kernel
theorem dX5_count_114 : decode cX5_count 114 = .ok (.ireturn, 1) := by decide +kernel
theorem dX5_count_115 : decode cX5_count 115 = .ok (.bipush (-9), 2) := by decide +kernel
theorem dX5_count_117 : decode cX5_count 117 = .ok (.ireturn, 1) := by decide +kernel
theorem dJ11_isValidCodePoint_9a6ad_0 : decode cJ11_isValidCodePoint_9a6ad 0 = .ok (.iload_n 0, 1) := by decide +kernel
theorem dJ11_isValidCodePoint_9a6ad_1 : decode cJ11_isValidCodePoint_9a6ad 1 = .ok (.bipush 16, 2) := by decide +kernel
theorem dJ11_isValidCodePoint_9a6ad_3 : decode cJ11_isValidCodePoint_9a6ad 3 = .ok (.iushr, 1) := by decide +kernel
theorem dJ11_isValidCodePoint_9a6ad_4 : decode cJ11_isValidCodePoint_9a6ad 4 = .ok (.istore_n 1, 1) := by decide +kernel
theorem dJ11_isValidCodePoint_9a6ad_5 : decode cJ11_isValidCodePoint_9a6ad 5 = .ok (.iload_n 1, 1) := by decide +kernel
theorem dJ11_isValidCodePoint_9a6ad_6 : decode cJ11_isValidCodePoint_9a6ad 6 = .ok (.bipush 17, 2) := by decide +kernel
theorem dJ11_isValidCodePoint_9a6ad_8 : decode cJ11_isValidCodePoint_9a6ad 8 = .ok (.if_icmp .ge 7, 3) := by decide +kernel
theorem dJ11_isValidCodePoint_9a6ad_11 : decode cJ11_isValidCodePoint_9a6ad 11 = .ok (.iconst 1, 1) := by decide +kernel
theorem dJ11_isValidCodePoint_9a6ad_12 : decode cJ11_isValidCodePoint_9a6ad 12 = .ok (.goto 4, 3) := by decide +kernel
theorem dJ11_isValidCodePoint_9a6ad_15 : decode cJ11_isValidCodePoint_9a6ad 15 = .ok (.iconst 0, 1) := by decide +kernel
theorem dJ11_isValidCodePoint_9a6ad_16 : decode cJ11_isValidCodePoint_9a6ad 16 = .ok (.ireturn, 1) := by decide +kernel
theorem dJ11_highSurrogate_5068e_0 : decode cJ11_highSurrogate_5068e 0 = .ok (.iload_n 0, 1) := by decide +kernel
theorem dJ11_highSurrogate_5068e_1 : decode cJ11_highSurrogate_5068e 1 = .ok (.bipush 10, 2) := by decide +kernel
theorem dJ11_highSurrogate_5068e_3 : decode cJ11_highSurrogate_5068e 3 = .ok (.iushr, 1) := by decide +kernel
theorem dJ11_highSurrogate_5068e_4 : decode cJ11_highSurrogate_5068e 4 = .ok (.ldc 110, 2) := by decide +kernel
theorem dJ11_highSurrogate_5068e_6 : decode cJ11_highSurrogate_5068e 6 = .ok (.iadd, 1) := by decide +kernel
theorem dJ11_highSurrogate_5068e_7 : decode cJ11_highSurrogate_5068e 7 = .ok (.i2c, 1) := by decide +kernel
theorem dJ11_highSurrogate_5068e_8 : decode cJ11_highSurrogate_5068e 8 = .ok (.ireturn, 1) := by decide +kernel
theorem dJ11_lowSurrogate_5068e_0 : decode cJ11_lowSurrogate_5068e 0 = .ok (.iload_n 0, 1) := by decide +kernel
theorem dJ11_lowSurrogate_5068e_1 : decode cJ11_lowSurrogate_5068e 1 = .ok (.sipush 1023, 3) := by decide +kernel
theorem dJ11_lowSurrogate_5068e_4 : decode cJ11_lowSurrogate_5068e 4 = .ok (.iand, 1) := by decide +kernel
