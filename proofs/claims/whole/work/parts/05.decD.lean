theorem dX12_whomOf_25 : decode cX12_whomOf 25 = .ok (.imul, 1) := by decide +kernel
theorem dX12_whomOf_26 : decode cX12_whomOf 26 = .ok (.iconst 4, 1) := by decide +kernel
theorem dX12_whomOf_27 : decode cX12_whomOf 27 = .ok (.iadd, 1) := by decide +kernel
theorem dX12_whomOf_28 : decode cX12_whomOf 28 = .ok (.iaload, 1) := by decide +kernel
theorem dX12_whomOf_29 : decode cX12_whomOf 29 = .ok (.ireturn, 1) := by decide +kernel
theorem dX12_boundOf_0 : decode cX12_boundOf 0 = .ok (.iload_n 2, 1) := by decide +kernel
theorem dX12_boundOf_1 : decode cX12_boundOf 1 = .ok (.ifCond .ne 12, 3) := by decide +kernel
theorem dX12_boundOf_4 : decode cX12_boundOf 4 = .ok (.aload_n 0, 1) := by decide +kernel
theorem dX12_boundOf_5 : decode cX12_boundOf 5 = .ok (.getfield 55, 3) := by decide +kernel
theorem dX12_boundOf_8 : decode cX12_boundOf 8 = .ok (.iload_n 1, 1) := by decide +kernel
theorem dX12_boundOf_9 : decode cX12_boundOf 9 = .ok (.iaload, 1) := by decide +kernel
theorem dX12_boundOf_10 : decode cX12_boundOf 10 = .ok (.goto 22, 3) := by decide +kernel
theorem dX12_boundOf_13 : decode cX12_boundOf 13 = .ok (.iload_n 2, 1) := by decide +kernel
theorem dX12_boundOf_14 : decode cX12_boundOf 14 = .ok (.iconst 1, 1) := by decide +kernel
theorem dX12_boundOf_15 : decode cX12_boundOf 15 = .ok (.if_icmp .ne 12, 3) := by decide +kernel
theorem dX12_boundOf_18 : decode cX12_boundOf 18 = .ok (.aload_n 0, 1) := by decide +kernel
theorem dX12_boundOf_19 : decode cX12_boundOf 19 = .ok (.getfield 58, 3) := by decide +kernel
theorem dX12_boundOf_22 : decode cX12_boundOf 22 = .ok (.iload_n 1, 1) := by decide +kernel
theorem dX12_boundOf_23 : decode cX12_boundOf 23 = .ok (.iaload, 1) := by decide +kernel
theorem dX12_boundOf_24 : decode cX12_boundOf 24 = .ok (.goto 8, 3) := by decide +kernel
theorem dX12_boundOf_27 : decode cX12_boundOf 27 = .ok (.aload_n 0, 1) := by decide +kernel
theorem dX12_boundOf_28 : decode cX12_boundOf 28 = .ok (.iload_n 1, 1) := by decide +kernel
theorem dX12_boundOf_29 : decode cX12_boundOf 29 = .ok (.invokevirtual 233, 3) := by decide +kernel
theorem dX12_boundOf_32 : decode cX12_boundOf 32 = .ok (.ireturn, 1) := by decide +kernel
theorem dX12_bound_0 : decode cX12_bound 0 = .ok (.aload_n 0, 1) := by decide +kernel
theorem dX12_bound_1 : decode cX12_bound 1 = .ok (.invokevirtual 230, 3) := by decide +kernel
theorem dX12_bound_4 : decode cX12_bound 4 = .ok (.aload_n 0, 1) := by decide +kernel
theorem dX12_bound_5 : decode cX12_bound 5 = .ok (.iload_n 1, 1) := by decide +kernel
theorem dX12_bound_6 : decode cX12_bound 6 = .ok (.invokevirtual 152, 3) := by decide +kernel
theorem dX12_bound_9 : decode cX12_bound 9 = .ok (.ifCond .eq 24, 3) := by decide +kernel
theorem dX12_bound_12 : decode cX12_bound 12 = .ok (.iload_n 2, 1) := by decide +kernel
theorem dX12_bound_13 : decode cX12_bound 13 = .ok (.i2l, 1) := by decide +kernel
theorem dX12_bound_14 : decode cX12_bound 14 = .ok (.lconst 0, 1) := by decide +kernel
theorem dX12_bound_15 : decode cX12_bound 15 = .ok (.ldc2_w 89, 3) := by decide +kernel
theorem dX12_bound_18 : decode cX12_bound 18 = .ok (.invokestatic 76, 3) := by decide +kernel
theorem dX12_bound_21 : decode cX12_bound 21 = .ok (.ifCond .eq 12, 3) := by decide +kernel
theorem dX12_bound_24 : decode cX12_bound 24 = .ok (.aload_n 0, 1) := by decide +kernel
theorem dX12_bound_25 : decode cX12_bound 25 = .ok (.iload_n 1, 1) := by decide +kernel
theorem dX12_bound_26 : decode cX12_bound 26 = .ok (.iload_n 2, 1) := by decide +kernel
theorem dX12_bound_27 : decode cX12_bound 27 = .ok (.invokevirtual 236, 3) := by decide +kernel
theorem dX12_bound_30 : decode cX12_bound 30 = .ok (.goto 5, 3) := by decide +kernel
theorem dX12_bound_33 : decode cX12_bound 33 = .ok (.bipush (-2), 2) := by decide +kernel
theorem dX12_bound_35 : decode cX12_bound 35 = .ok (.ireturn, 1) := by decide +kernel
theorem dX12_upkeep_0 : decode cX12_upkeep 0 = .ok (.aload_n 0, 1) := by decide +kernel
theorem dX12_upkeep_1 : decode cX12_upkeep 1 = .ok (.getfield 31, 3) := by decide +kernel
theorem dX12_upkeep_4 : decode cX12_upkeep 4 = .ok (.iconst 3, 1) := by decide +kernel
theorem dX12_upkeep_5 : decode cX12_upkeep 5 = .ok (.iload_n 1, 1) := by decide +kernel
theorem dX12_upkeep_6 : decode cX12_upkeep 6 = .ok (.imul, 1) := by decide +kernel
theorem dX12_upkeep_7 : decode cX12_upkeep 7 = .ok (.iconst 1, 1) := by decide +kernel
theorem dX12_upkeep_8 : decode cX12_upkeep 8 = .ok (.iadd, 1) := by decide +kernel
theorem dX12_upkeep_9 : decode cX12_upkeep 9 = .ok (.iaload, 1) := by decide +kernel
theorem dX12_upkeep_10 : decode cX12_upkeep 10 = .ok (.aload_n 0, 1) := by decide +kernel
theorem dX12_upkeep_11 : decode cX12_upkeep 11 = .ok (.getfield 31, 3) := by decide +kernel
theorem dX12_upkeep_14 : decode cX12_upkeep 14 = .ok (.iconst 3, 1) := by decide +kernel
theorem dX12_upkeep_15 : decode cX12_upkeep 15 = .ok (.iload_n 1, 1) := by decide +kernel
theorem dX12_upkeep_16 : decode cX12_upkeep 16 = .ok (.imul, 1) := by decide +kernel
theorem dX12_upkeep_17 : decode cX12_upkeep 17 = .ok (.iconst 2, 1) := by decide +kernel
theorem dX12_upkeep_18 : decode cX12_upkeep 18 = .ok (.iadd, 1) := by decide +kernel
theorem dX12_upkeep_19 : decode cX12_upkeep 19 = .ok (.iaload, 1) := by decide +kernel
theorem dX12_upkeep_20 : decode cX12_upkeep 20 = .ok (.ifCond .ne 7, 3) := by decide +kernel
theorem dX12_upkeep_23 : decode cX12_upkeep 23 = .ok (.iconst 3, 1) := by decide +kernel
theorem dX12_upkeep_24 : decode cX12_upkeep 24 = .ok (.goto 22, 3) := by decide +kernel
theorem dX12_upkeep_27 : decode cX12_upkeep 27 = .ok (.aload_n 0, 1) := by decide +kernel
theorem dX12_upkeep_28 : decode cX12_upkeep 28 = .ok (.getfield 31, 3) := by decide +kernel
theorem dX12_upkeep_31 : decode cX12_upkeep 31 = .ok (.iconst 3, 1) := by decide +kernel
theorem dX12_upkeep_32 : decode cX12_upkeep 32 = .ok (.iload_n 1, 1) := by decide +kernel
theorem dX12_upkeep_33 : decode cX12_upkeep 33 = .ok (.imul, 1) := by decide +kernel
theorem dX12_upkeep_34 : decode cX12_upkeep 34 = .ok (.iconst 2, 1) := by decide +kernel
theorem dX12_upkeep_35 : decode cX12_upkeep 35 = .ok (.iadd, 1) := by decide +kernel
theorem dX12_upkeep_36 : decode cX12_upkeep 36 = .ok (.iaload, 1) := by decide +kernel
theorem dX12_upkeep_37 : decode cX12_upkeep 37 = .ok (.iconst 1, 1) := by decide +kernel
theorem dX12_upkeep_38 : decode cX12_upkeep 38 = .ok (.if_icmp .ne 7, 3) := by decide +kernel
theorem dX12_upkeep_41 : decode cX12_upkeep 41 = .ok (.iconst 2, 1) := by decide +kernel
theorem dX12_upkeep_42 : decode cX12_upkeep 42 = .ok (.goto 4, 3) := by decide +kernel
theorem dX12_upkeep_45 : decode cX12_upkeep 45 = .ok (.iconst 1, 1) := by decide +kernel
theorem dX12_upkeep_46 : decode cX12_upkeep 46 = .ok (.imul, 1) := by decide +kernel
theorem dX12_upkeep_47 : decode cX12_upkeep 47 = .ok (.ireturn, 1) := by decide +kernel
theorem dX12_wedOf_0 : decode cX12_wedOf 0 = .ok (.iconst 0, 1) := by decide +kernel
theorem dX12_wedOf_1 : decode cX12_wedOf 1 = .ok (.istore_n 3, 1) := by decide +kernel
theorem dX12_wedOf_2 : decode cX12_wedOf 2 = .ok (.iconst 0, 1) := by decide +kernel
theorem dX12_wedOf_3 : decode cX12_wedOf 3 = .ok (.istore 4, 2) := by decide +kernel
theorem dX12_wedOf_5 : decode cX12_wedOf 5 = .ok (.iconst 0, 1) := by decide +kernel
theorem dX12_wedOf_6 : decode cX12_wedOf 6 = .ok (.istore 5, 2) := by decide +kernel
theorem dX12_wedOf_8 : decode cX12_wedOf 8 = .ok (.iload 5, 2) := by decide +kernel
theorem dX12_wedOf_10 : decode cX12_wedOf 10 = .ok (.aload_n 0, 1) := by decide +kernel
theorem dX12_wedOf_11 : decode cX12_wedOf 11 = .ok (.getfield 126, 3) := by decide +kernel
theorem dX12_wedOf_14 : decode cX12_wedOf 14 = .ok (.if_icmp .ge 55, 3) := by decide +kernel
theorem dX12_wedOf_17 : decode cX12_wedOf 17 = .ok (.iload_n 3, 1) := by decide +kernel
theorem dX12_wedOf_18 : decode cX12_wedOf 18 = .ok (.aload_n 0, 1) := by decide +kernel
theorem dX12_wedOf_19 : decode cX12_wedOf 19 = .ok (.iload 5, 2) := by decide +kernel
theorem dX12_wedOf_21 : decode cX12_wedOf 21 = .ok (.invokevirtual 233, 3) := by decide +kernel
theorem dX12_wedOf_24 : decode cX12_wedOf 24 = .ok (.iload_n 1, 1) := by decide +kernel
theorem dX12_wedOf_25 : decode cX12_wedOf 25 = .ok (.if_icmp .ne 10, 3) := by decide +kernel
theorem dX12_wedOf_28 : decode cX12_wedOf 28 = .ok (.iconst 1, 1) := by decide +kernel
theorem dX12_wedOf_29 : decode cX12_wedOf 29 = .ok (.iload 5, 2) := by decide +kernel
theorem dX12_wedOf_31 : decode cX12_wedOf 31 = .ok (.ishl, 1) := by decide +kernel
theorem dX12_wedOf_32 : decode cX12_wedOf 32 = .ok (.goto 4, 3) := by decide +kernel
theorem dX12_wedOf_35 : decode cX12_wedOf 35 = .ok (.iconst 0, 1) := by decide +kernel
theorem dX12_wedOf_36 : decode cX12_wedOf 36 = .ok (.ior, 1) := by decide +kernel
theorem dX12_wedOf_37 : decode cX12_wedOf 37 = .ok (.istore_n 3, 1) := by decide +kernel
theorem dX12_wedOf_38 : decode cX12_wedOf 38 = .ok (.iload 4, 2) := by decide +kernel
theorem dX12_wedOf_40 : decode cX12_wedOf 40 = .ok (.aload_n 0, 1) := by decide +kernel
theorem dX12_wedOf_41 : decode cX12_wedOf 41 = .ok (.iload 5, 2) := by decide +kernel
theorem dX12_wedOf_43 : decode cX12_wedOf 43 = .ok (.invokevirtual 233, 3) := by decide +kernel
theorem dX12_wedOf_46 : decode cX12_wedOf 46 = .ok (.iload_n 1, 1) := by decide +kernel
theorem dX12_wedOf_47 : decode cX12_wedOf 47 = .ok (.if_icmp .ne 12, 3) := by decide +kernel
theorem dX12_wedOf_50 : decode cX12_wedOf 50 = .ok (.aload_n 0, 1) := by decide +kernel
theorem dX12_wedOf_51 : decode cX12_wedOf 51 = .ok (.iload 5, 2) := by decide +kernel
theorem dX12_wedOf_53 : decode cX12_wedOf 53 = .ok (.invokevirtual 239, 3) := by decide +kernel
theorem dX12_wedOf_56 : decode cX12_wedOf 56 = .ok (.goto 4, 3) := by decide +kernel
theorem dX12_wedOf_59 : decode cX12_wedOf 59 = .ok (.iconst 0, 1) := by decide +kernel
theorem dX12_wedOf_60 : decode cX12_wedOf 60 = .ok (.iadd, 1) := by decide +kernel
theorem dX12_wedOf_61 : decode cX12_wedOf 61 = .ok (.istore 4, 2) := by decide +kernel
theorem dX12_wedOf_63 : decode cX12_wedOf 63 = .ok (.iinc 5 1, 3) := by decide +kernel
theorem dX12_wedOf_66 : decode cX12_wedOf 66 = .ok (.goto (-58), 3) := by decide +kernel
theorem dX12_wedOf_69 : decode cX12_wedOf 69 = .ok (.iload_n 2, 1) := by decide +kernel
theorem dX12_wedOf_70 : decode cX12_wedOf 70 = .ok (.ifCond .ne 7, 3) := by decide +kernel
theorem dX12_wedOf_73 : decode cX12_wedOf 73 = .ok (.iload_n 3, 1) := by decide +kernel
theorem dX12_wedOf_74 : decode cX12_wedOf 74 = .ok (.goto 5, 3) := by decide +kernel
theorem dX12_wedOf_77 : decode cX12_wedOf 77 = .ok (.iload 4, 2) := by decide +kernel
theorem dX12_wedOf_79 : decode cX12_wedOf 79 = .ok (.ireturn, 1) := by decide +kernel
theorem dX12_wed_0 : decode cX12_wed 0 = .ok (.aload_n 0, 1) := by decide +kernel
theorem dX12_wed_1 : decode cX12_wed 1 = .ok (.invokevirtual 230, 3) := by decide +kernel
theorem dX12_wed_4 : decode cX12_wed 4 = .ok (.iload_n 1, 1) := by decide +kernel
theorem dX12_wed_5 : decode cX12_wed 5 = .ok (.i2l, 1) := by decide +kernel
theorem dX12_wed_6 : decode cX12_wed 6 = .ok (.lconst 0, 1) := by decide +kernel
theorem dX12_wed_7 : decode cX12_wed 7 = .ok (.ldc2_w 83, 3) := by decide +kernel
theorem dX12_wed_10 : decode cX12_wed 10 = .ok (.invokestatic 76, 3) := by decide +kernel
theorem dX12_wed_13 : decode cX12_wed 13 = .ok (.ifCond .eq 19, 3) := by decide +kernel
theorem dX12_wed_16 : decode cX12_wed 16 = .ok (.iload_n 2, 1) := by decide +kernel
theorem dX12_wed_17 : decode cX12_wed 17 = .ok (.invokestatic 242, 3) := by decide +kernel
theorem dX12_wed_20 : decode cX12_wed 20 = .ok (.ifCond .eq 12, 3) := by decide +kernel
theorem dX12_wed_23 : decode cX12_wed 23 = .ok (.aload_n 0, 1) := by decide +kernel
theorem dX12_wed_24 : decode cX12_wed 24 = .ok (.iload_n 1, 1) := by decide +kernel
theorem dX12_wed_25 : decode cX12_wed 25 = .ok (.iload_n 2, 1) := by decide +kernel
theorem dX12_wed_26 : decode cX12_wed 26 = .ok (.invokevirtual 245, 3) := by decide +kernel
theorem dX12_wed_29 : decode cX12_wed 29 = .ok (.goto 5, 3) := by decide +kernel
theorem dX12_wed_32 : decode cX12_wed 32 = .ok (.bipush (-2), 2) := by decide +kernel
theorem dX12_wed_34 : decode cX12_wed 34 = .ok (.ireturn, 1) := by decide +kernel
theorem dX12_throughs_0 : decode cX12_throughs 0 = .ok (.aload_n 0, 1) := by decide +kernel
theorem dX12_throughs_1 : decode cX12_throughs 1 = .ok (.invokevirtual 230, 3) := by decide +kernel
theorem dX12_throughs_4 : decode cX12_throughs 4 = .ok (.iload_n 1, 1) := by decide +kernel
theorem dX12_throughs_5 : decode cX12_throughs 5 = .ok (.invokestatic 242, 3) := by decide +kernel
theorem dX12_throughs_8 : decode cX12_throughs 8 = .ok (.ifCond .ne 8, 3) := by decide +kernel
theorem dX12_throughs_11 : decode cX12_throughs 11 = .ok (.bipush (-2), 2) := by decide +kernel
theorem dX12_throughs_13 : decode cX12_throughs 13 = .ok (.goto 18, 3) := by decide +kernel
theorem dX12_throughs_16 : decode cX12_throughs 16 = .ok (.iload_n 1, 1) := by decide +kernel
theorem dX12_throughs_17 : decode cX12_throughs 17 = .ok (.ifCond .ne 10, 3) := by decide +kernel
theorem dX12_throughs_20 : decode cX12_throughs 20 = .ok (.aload_n 0, 1) := by decide +kernel
theorem dX12_throughs_21 : decode cX12_throughs 21 = .ok (.getfield 193, 3) := by decide +kernel
theorem dX12_throughs_24 : decode cX12_throughs 24 = .ok (.goto 7, 3) := by decide +kernel
theorem dX12_throughs_27 : decode cX12_throughs 27 = .ok (.aload_n 0, 1) := by decide +kernel
theorem dX12_throughs_28 : decode cX12_throughs 28 = .ok (.getfield 196, 3) := by decide +kernel
theorem dX12_throughs_31 : decode cX12_throughs 31 = .ok (.ireturn, 1) := by decide +kernel
theorem dX12_missedNow_0 : decode cX12_missedNow 0 = .ok (.iconst 0, 1) := by decide +kernel
theorem dX12_missedNow_1 : decode cX12_missedNow 1 = .ok (.istore_n 1, 1) := by decide +kernel
theorem dX12_missedNow_2 : decode cX12_missedNow 2 = .ok (.iconst 0, 1) := by decide +kernel
theorem dX12_missedNow_3 : decode cX12_missedNow 3 = .ok (.istore_n 2, 1) := by decide +kernel
theorem dX12_missedNow_4 : decode cX12_missedNow 4 = .ok (.iload_n 2, 1) := by decide +kernel
theorem dX12_missedNow_5 : decode cX12_missedNow 5 = .ok (.aload_n 0, 1) := by decide +kernel
theorem dX12_missedNow_6 : decode cX12_missedNow 6 = .ok (.getfield 160, 3) := by decide +kernel
theorem dX12_missedNow_9 : decode cX12_missedNow 9 = .ok (.if_icmp .ge 29, 3) := by decide +kernel
theorem dX12_missedNow_12 : decode cX12_missedNow 12 = .ok (.iload_n 1, 1) := by decide +kernel
theorem dX12_missedNow_13 : decode cX12_missedNow 13 = .ok (.aload_n 0, 1) := by decide +kernel
theorem dX12_missedNow_14 : decode cX12_missedNow 14 = .ok (.getfield 40, 3) := by decide +kernel
theorem dX12_missedNow_17 : decode cX12_missedNow 17 = .ok (.iload_n 2, 1) := by decide +kernel
theorem dX12_missedNow_18 : decode cX12_missedNow 18 = .ok (.iaload, 1) := by decide +kernel
theorem dX12_missedNow_19 : decode cX12_missedNow 19 = .ok (.iconst 2, 1) := by decide +kernel
theorem dX12_missedNow_20 : decode cX12_missedNow 20 = .ok (.if_icmp .ne 7, 3) := by decide +kernel
theorem dX12_missedNow_23 : decode cX12_missedNow 23 = .ok (.iconst 0, 1) := by decide +kernel
theorem dX12_missedNow_24 : decode cX12_missedNow 24 = .ok (.goto 6, 3) := by decide +kernel
theorem dX12_missedNow_27 : decode cX12_missedNow 27 = .ok (.iconst 1, 1) := by decide +kernel
theorem dX12_missedNow_28 : decode cX12_missedNow 28 = .ok (.iload_n 2, 1) := by decide +kernel
theorem dX12_missedNow_29 : decode cX12_missedNow 29 = .ok (.ishl, 1) := by decide +kernel
theorem dX12_missedNow_30 : decode cX12_missedNow 30 = .ok (.ior, 1) := by decide +kernel
theorem dX12_missedNow_31 : decode cX12_missedNow 31 = .ok (.istore_n 1, 1) := by decide +kernel
theorem dX12_missedNow_32 : decode cX12_missedNow 32 = .ok (.iinc 2 1, 3) := by decide +kernel
theorem dX12_missedNow_35 : decode cX12_missedNow 35 = .ok (.goto (-31), 3) := by decide +kernel
theorem dX12_missedNow_38 : decode cX12_missedNow 38 = .ok (.iload_n 1, 1) := by decide +kernel
theorem dX12_missedNow_39 : decode cX12_missedNow 39 = .ok (.ireturn, 1) := by decide +kernel
theorem dX12_missed_0 : decode cX12_missed 0 = .ok (.aload_n 0, 1) := by decide +kernel
theorem dX12_missed_1 : decode cX12_missed 1 = .ok (.invokevirtual 230, 3) := by decide +kernel
theorem dX12_missed_4 : decode cX12_missed 4 = .ok (.aload_n 0, 1) := by decide +kernel
theorem dX12_missed_5 : decode cX12_missed 5 = .ok (.invokevirtual 248, 3) := by decide +kernel
theorem dX12_missed_8 : decode cX12_missed 8 = .ok (.ireturn, 1) := by decide +kernel
theorem dX12_richestNow_0 : decode cX12_richestNow 0 = .ok (.iconst (-1), 1) := by decide +kernel
theorem dX12_richestNow_1 : decode cX12_richestNow 1 = .ok (.istore_n 1, 1) := by decide +kernel
theorem dX12_richestNow_2 : decode cX12_richestNow 2 = .ok (.iconst 0, 1) := by decide +kernel
theorem dX12_richestNow_3 : decode cX12_richestNow 3 = .ok (.istore_n 2, 1) := by decide +kernel
theorem dX12_richestNow_4 : decode cX12_richestNow 4 = .ok (.iconst 0, 1) := by decide +kernel
theorem dX12_richestNow_5 : decode cX12_richestNow 5 = .ok (.istore_n 3, 1) := by decide +kernel
theorem dX12_richestNow_6 : decode cX12_richestNow 6 = .ok (.iload_n 3, 1) := by decide +kernel
theorem dX12_richestNow_7 : decode cX12_richestNow 7 = .ok (.iconst 4, 1) := by decide +kernel
theorem dX12_richestNow_8 : decode cX12_richestNow 8 = .ok (.if_icmp .ge 39, 3) := by decide +kernel
theorem dX12_richestNow_11 : decode cX12_richestNow 11 = .ok (.aload_n 0, 1) := by decide +kernel
theorem dX12_richestNow_12 : decode cX12_richestNow 12 = .ok (.iload_n 3, 1) := by decide +kernel
theorem dX12_richestNow_13 : decode cX12_richestNow 13 = .ok (.iconst 0, 1) := by decide +kernel
theorem dX12_richestNow_14 : decode cX12_richestNow 14 = .ok (.invokevirtual 245, 3) := by decide +kernel
theorem dX12_richestNow_17 : decode cX12_richestNow 17 = .ok (.invokestatic 251, 3) := by decide +kernel
theorem dX12_richestNow_20 : decode cX12_richestNow 20 = .ok (.istore 4, 2) := by decide +kernel
theorem dX12_richestNow_22 : decode cX12_richestNow 22 = .ok (.iload 4, 2) := by decide +kernel
theorem dX12_richestNow_24 : decode cX12_richestNow 24 = .ok (.iload_n 2, 1) := by decide +kernel
theorem dX12_richestNow_25 : decode cX12_richestNow 25 = .ok (.if_icmp .le 7, 3) := by decide +kernel
theorem dX12_richestNow_28 : decode cX12_richestNow 28 = .ok (.iload_n 3, 1) := by decide +kernel
theorem dX12_richestNow_29 : decode cX12_richestNow 29 = .ok (.goto 4, 3) := by decide +kernel
theorem dX12_richestNow_32 : decode cX12_richestNow 32 = .ok (.iload_n 1, 1) := by decide +kernel
theorem dX12_richestNow_33 : decode cX12_richestNow 33 = .ok (.istore_n 1, 1) := by decide +kernel
theorem dX12_richestNow_34 : decode cX12_richestNow 34 = .ok (.iload 4, 2) := by decide +kernel
theorem dX12_richestNow_36 : decode cX12_richestNow 36 = .ok (.iload_n 2, 1) := by decide +kernel
theorem dX12_richestNow_37 : decode cX12_richestNow 37 = .ok (.invokestatic 254, 3) := by decide +kernel
theorem dX12_richestNow_40 : decode cX12_richestNow 40 = .ok (.istore_n 2, 1) := by decide +kernel
theorem dX12_richestNow_41 : decode cX12_richestNow 41 = .ok (.iinc 3 1, 3) := by decide +kernel
theorem dX12_richestNow_44 : decode cX12_richestNow 44 = .ok (.goto (-38), 3) := by decide +kernel
theorem dX12_richestNow_47 : decode cX12_richestNow 47 = .ok (.iload_n 1, 1) := by decide +kernel
theorem dX12_richestNow_48 : decode cX12_richestNow 48 = .ok (.ireturn, 1) := by decide +kernel
theorem dX12_richest_0 : decode cX12_richest 0 = .ok (.aload_n 0, 1) := by decide +kernel
theorem dX12_richest_1 : decode cX12_richest 1 = .ok (.invokevirtual 230, 3) := by decide +kernel
theorem dX12_richest_4 : decode cX12_richest 4 = .ok (.aload_n 0, 1) := by decide +kernel
theorem dX12_richest_5 : decode cX12_richest 5 = .ok (.invokevirtual 257, 3) := by decide +kernel
theorem dX12_richest_8 : decode cX12_richest 8 = .ok (.ireturn, 1) := by decide +kernel
theorem dX12_lonelyNow_0 : decode cX12_lonelyNow 0 = .ok (.iconst (-1), 1) := by decide +kernel
theorem dX12_lonelyNow_1 : decode cX12_lonelyNow 1 = .ok (.istore_n 1, 1) := by decide +kernel
theorem dX12_lonelyNow_2 : decode cX12_lonelyNow 2 = .ok (.iconst (-1), 1) := by decide +kernel
theorem dX12_lonelyNow_3 : decode cX12_lonelyNow 3 = .ok (.istore_n 2, 1) := by decide +kernel
theorem dX12_lonelyNow_4 : decode cX12_lonelyNow 4 = .ok (.iconst 0, 1) := by decide +kernel
theorem dX12_lonelyNow_5 : decode cX12_lonelyNow 5 = .ok (.istore_n 3, 1) := by decide +kernel
theorem dX12_lonelyNow_6 : decode cX12_lonelyNow 6 = .ok (.iload_n 3, 1) := by decide +kernel
theorem dX12_lonelyNow_7 : decode cX12_lonelyNow 7 = .ok (.aload_n 0, 1) := by decide +kernel
theorem dX12_lonelyNow_8 : decode cX12_lonelyNow 8 = .ok (.getfield 126, 3) := by decide +kernel
theorem dX12_lonelyNow_11 : decode cX12_lonelyNow 11 = .ok (.if_icmp .ge 36, 3) := by decide +kernel
theorem dX12_lonelyNow_14 : decode cX12_lonelyNow 14 = .ok (.aload_n 0, 1) := by decide +kernel
theorem dX12_lonelyNow_15 : decode cX12_lonelyNow 15 = .ok (.getfield 58, 3) := by decide +kernel
theorem dX12_lonelyNow_18 : decode cX12_lonelyNow 18 = .ok (.iload_n 3, 1) := by decide +kernel
theorem dX12_lonelyNow_19 : decode cX12_lonelyNow 19 = .ok (.iaload, 1) := by decide +kernel
theorem dX12_lonelyNow_20 : decode cX12_lonelyNow 20 = .ok (.iload_n 2, 1) := by decide +kernel
theorem dX12_lonelyNow_21 : decode cX12_lonelyNow 21 = .ok (.if_icmp .le 7, 3) := by decide +kernel
theorem dX12_lonelyNow_24 : decode cX12_lonelyNow 24 = .ok (.iload_n 3, 1) := by decide +kernel
theorem dX12_lonelyNow_25 : decode cX12_lonelyNow 25 = .ok (.goto 4, 3) := by decide +kernel
theorem dX12_lonelyNow_28 : decode cX12_lonelyNow 28 = .ok (.iload_n 1, 1) := by decide +kernel
theorem dX12_lonelyNow_29 : decode cX12_lonelyNow 29 = .ok (.istore_n 1, 1) := by decide +kernel
theorem dX12_lonelyNow_30 : decode cX12_lonelyNow 30 = .ok (.aload_n 0, 1) := by decide +kernel
theorem dX12_lonelyNow_31 : decode cX12_lonelyNow 31 = .ok (.getfield 58, 3) := by decide +kernel
theorem dX12_lonelyNow_34 : decode cX12_lonelyNow 34 = .ok (.iload_n 3, 1) := by decide +kernel
theorem dX12_lonelyNow_35 : decode cX12_lonelyNow 35 = .ok (.iaload, 1) := by decide +kernel
theorem dX12_lonelyNow_36 : decode cX12_lonelyNow 36 = .ok (.iload_n 2, 1) := by decide +kernel
theorem dX12_lonelyNow_37 : decode cX12_lonelyNow 37 = .ok (.invokestatic 254, 3) := by decide +kernel
theorem dX12_lonelyNow_40 : decode cX12_lonelyNow 40 = .ok (.istore_n 2, 1) := by decide +kernel
theorem dX12_lonelyNow_41 : decode cX12_lonelyNow 41 = .ok (.iinc 3 1, 3) := by decide +kernel
theorem dX12_lonelyNow_44 : decode cX12_lonelyNow 44 = .ok (.goto (-38), 3) := by decide +kernel
theorem dX12_lonelyNow_47 : decode cX12_lonelyNow 47 = .ok (.iload_n 1, 1) := by decide +kernel
theorem dX12_lonelyNow_48 : decode cX12_lonelyNow 48 = .ok (.ireturn, 1) := by decide +kernel
theorem dX12_lonely_0 : decode cX12_lonely 0 = .ok (.aload_n 0, 1) := by decide +kernel
theorem dX12_lonely_1 : decode cX12_lonely 1 = .ok (.invokevirtual 230, 3) := by decide +kernel
theorem dX12_lonely_4 : decode cX12_lonely 4 = .ok (.aload_n 0, 1) := by decide +kernel
theorem dX12_lonely_5 : decode cX12_lonely 5 = .ok (.invokevirtual 260, 3) := by decide +kernel
theorem dX12_lonely_8 : decode cX12_lonely 8 = .ok (.ireturn, 1) := by decide +kernel
theorem dX12_allBound_0 : decode cX12_allBound 0 = .ok (.iconst 0, 1) := by decide +kernel
theorem dX12_allBound_1 : decode cX12_allBound 1 = .ok (.istore_n 1, 1) := by decide +kernel
theorem dX12_allBound_2 : decode cX12_allBound 2 = .ok (.iconst 0, 1) := by decide +kernel
theorem dX12_allBound_3 : decode cX12_allBound 3 = .ok (.istore_n 2, 1) := by decide +kernel
theorem dX12_allBound_4 : decode cX12_allBound 4 = .ok (.iload_n 2, 1) := by decide +kernel
theorem dX12_allBound_5 : decode cX12_allBound 5 = .ok (.aload_n 0, 1) := by decide +kernel
theorem dX12_allBound_6 : decode cX12_allBound 6 = .ok (.getfield 126, 3) := by decide +kernel
theorem dX12_allBound_9 : decode cX12_allBound 9 = .ok (.if_icmp .ge 27, 3) := by decide +kernel
theorem dX12_allBound_12 : decode cX12_allBound 12 = .ok (.iload_n 1, 1) := by decide +kernel
theorem dX12_allBound_13 : decode cX12_allBound 13 = .ok (.aload_n 0, 1) := by decide +kernel
theorem dX12_allBound_14 : decode cX12_allBound 14 = .ok (.getfield 55, 3) := by decide +kernel
theorem dX12_allBound_17 : decode cX12_allBound 17 = .ok (.iload_n 2, 1) := by decide +kernel
theorem dX12_allBound_18 : decode cX12_allBound 18 = .ok (.iaload, 1) := by decide +kernel
theorem dX12_allBound_19 : decode cX12_allBound 19 = .ok (.iconst (-1), 1) := by decide +kernel
theorem dX12_allBound_20 : decode cX12_allBound 20 = .ok (.if_icmp .ne 7, 3) := by decide +kernel
theorem dX12_allBound_23 : decode cX12_allBound 23 = .ok (.iconst 0, 1) := by decide +kernel
theorem dX12_allBound_24 : decode cX12_allBound 24 = .ok (.goto 4, 3) := by decide +kernel
theorem dX12_allBound_27 : decode cX12_allBound 27 = .ok (.iconst 1, 1) := by decide +kernel
theorem dX12_allBound_28 : decode cX12_allBound 28 = .ok (.iadd, 1) := by decide +kernel
theorem dX12_allBound_29 : decode cX12_allBound 29 = .ok (.istore_n 1, 1) := by decide +kernel
theorem dX12_allBound_30 : decode cX12_allBound 30 = .ok (.iinc 2 1, 3) := by decide +kernel
theorem dX12_allBound_33 : decode cX12_allBound 33 = .ok (.goto (-29), 3) := by decide +kernel
theorem dX12_allBound_36 : decode cX12_allBound 36 = .ok (.iload_n 1, 1) := by decide +kernel
theorem dX12_allBound_37 : decode cX12_allBound 37 = .ok (.ireturn, 1) := by decide +kernel
theorem dX12_breathOf_0 : decode cX12_breathOf 0 = .ok (.aload_n 0, 1) := by decide +kernel
theorem dX12_breathOf_1 : decode cX12_breathOf 1 = .ok (.getfield 37, 3) := by decide +kernel
theorem dX12_breathOf_4 : decode cX12_breathOf 4 = .ok (.iconst 5, 1) := by decide +kernel
theorem dX12_breathOf_5 : decode cX12_breathOf 5 = .ok (.iload_n 1, 1) := by decide +kernel
theorem dX12_breathOf_6 : decode cX12_breathOf 6 = .ok (.imul, 1) := by decide +kernel
theorem dX12_breathOf_7 : decode cX12_breathOf 7 = .ok (.iconst 3, 1) := by decide +kernel
theorem dX12_breathOf_8 : decode cX12_breathOf 8 = .ok (.iadd, 1) := by decide +kernel
theorem dX12_breathOf_9 : decode cX12_breathOf 9 = .ok (.iaload, 1) := by decide +kernel
theorem dX12_breathOf_10 : decode cX12_breathOf 10 = .ok (.istore_n 3, 1) := by decide +kernel
theorem dX12_breathOf_11 : decode cX12_breathOf 11 = .ok (.iconst (-1), 1) := by decide +kernel
theorem dX12_breathOf_12 : decode cX12_breathOf 12 = .ok (.istore 4, 2) := by decide +kernel
theorem dX12_breathOf_14 : decode cX12_breathOf 14 = .ok (.bipush 9, 2) := by decide +kernel
theorem dX12_breathOf_16 : decode cX12_breathOf 16 = .ok (.istore 5, 2) := by decide +kernel
theorem dX12_breathOf_18 : decode cX12_breathOf 18 = .ok (.iload 5, 2) := by decide +kernel
theorem dX12_breathOf_20 : decode cX12_breathOf 20 = .ok (.ifCond .le 44, 3) := by decide +kernel
theorem dX12_breathOf_23 : decode cX12_breathOf 23 = .ok (.aload_n 0, 1) := by decide +kernel
theorem dX12_breathOf_24 : decode cX12_breathOf 24 = .ok (.getfield 37, 3) := by decide +kernel
theorem dX12_breathOf_27 : decode cX12_breathOf 27 = .ok (.iconst 5, 1) := by decide +kernel
theorem dX12_breathOf_28 : decode cX12_breathOf 28 = .ok (.iload_n 1, 1) := by decide +kernel
theorem dX12_breathOf_29 : decode cX12_breathOf 29 = .ok (.imul, 1) := by decide +kernel
theorem dX12_breathOf_30 : decode cX12_breathOf 30 = .ok (.iconst 3, 1) := by decide +kernel
theorem dX12_breathOf_31 : decode cX12_breathOf 31 = .ok (.iadd, 1) := by decide +kernel
theorem dX12_breathOf_32 : decode cX12_breathOf 32 = .ok (.iload 5, 2) := by decide +kernel
theorem dX12_breathOf_34 : decode cX12_breathOf 34 = .ok (.iastore, 1) := by decide +kernel
theorem dX12_breathOf_35 : decode cX12_breathOf 35 = .ok (.aload_n 0, 1) := by decide +kernel
theorem dX12_breathOf_36 : decode cX12_breathOf 36 = .ok (.invokevirtual 227, 3) := by decide +kernel
theorem dX12_breathOf_39 : decode cX12_breathOf 39 = .ok (.aload_n 0, 1) := by decide +kernel
theorem dX12_breathOf_40 : decode cX12_breathOf 40 = .ok (.getfield 55, 3) := by decide +kernel
theorem dX12_breathOf_43 : decode cX12_breathOf 43 = .ok (.iload_n 2, 1) := by decide +kernel
theorem dX12_breathOf_44 : decode cX12_breathOf 44 = .ok (.iaload, 1) := by decide +kernel
theorem dX12_breathOf_45 : decode cX12_breathOf 45 = .ok (.iload_n 1, 1) := by decide +kernel
theorem dX12_breathOf_46 : decode cX12_breathOf 46 = .ok (.if_icmp .ne 8, 3) := by decide +kernel
theorem dX12_breathOf_49 : decode cX12_breathOf 49 = .ok (.iload 5, 2) := by decide +kernel
theorem dX12_breathOf_51 : decode cX12_breathOf 51 = .ok (.goto 5, 3) := by decide +kernel
theorem dX12_breathOf_54 : decode cX12_breathOf 54 = .ok (.iload 4, 2) := by decide +kernel
theorem dX12_breathOf_56 : decode cX12_breathOf 56 = .ok (.istore 4, 2) := by decide +kernel
theorem dX12_breathOf_58 : decode cX12_breathOf 58 = .ok (.iinc 5 (-1), 3) := by decide +kernel
theorem dX12_breathOf_61 : decode cX12_breathOf 61 = .ok (.goto (-43), 3) := by decide +kernel
theorem dX12_breathOf_64 : decode cX12_breathOf 64 = .ok (.aload_n 0, 1) := by decide +kernel
theorem dX12_breathOf_65 : decode cX12_breathOf 65 = .ok (.getfield 37, 3) := by decide +kernel
theorem dX12_breathOf_68 : decode cX12_breathOf 68 = .ok (.iconst 5, 1) := by decide +kernel
theorem dX12_breathOf_69 : decode cX12_breathOf 69 = .ok (.iload_n 1, 1) := by decide +kernel
theorem dX12_breathOf_70 : decode cX12_breathOf 70 = .ok (.imul, 1) := by decide +kernel
theorem dX12_breathOf_71 : decode cX12_breathOf 71 = .ok (.iconst 3, 1) := by decide +kernel
theorem dX12_breathOf_72 : decode cX12_breathOf 72 = .ok (.iadd, 1) := by decide +kernel
theorem dX12_breathOf_73 : decode cX12_breathOf 73 = .ok (.iload_n 3, 1) := by decide +kernel
theorem dX12_breathOf_74 : decode cX12_breathOf 74 = .ok (.iastore, 1) := by decide +kernel
theorem dX12_breathOf_75 : decode cX12_breathOf 75 = .ok (.iload 4, 2) := by decide +kernel
theorem dX12_breathOf_77 : decode cX12_breathOf 77 = .ok (.ireturn, 1) := by decide +kernel
theorem dX12_breath_0 : decode cX12_breath 0 = .ok (.aload_n 0, 1) := by decide +kernel
theorem dX12_breath_1 : decode cX12_breath 1 = .ok (.invokevirtual 230, 3) := by decide +kernel
theorem dX12_breath_4 : decode cX12_breath 4 = .ok (.aload_n 0, 1) := by decide +kernel
theorem dX12_breath_5 : decode cX12_breath 5 = .ok (.iload_n 1, 1) := by decide +kernel
theorem dX12_breath_6 : decode cX12_breath 6 = .ok (.invokevirtual 169, 3) := by decide +kernel
theorem dX12_breath_9 : decode cX12_breath 9 = .ok (.ifCond .eq 20, 3) := by decide +kernel
theorem dX12_breath_12 : decode cX12_breath 12 = .ok (.aload_n 0, 1) := by decide +kernel
theorem dX12_breath_13 : decode cX12_breath 13 = .ok (.iload_n 2, 1) := by decide +kernel
theorem dX12_breath_14 : decode cX12_breath 14 = .ok (.invokevirtual 152, 3) := by decide +kernel
theorem dX12_breath_17 : decode cX12_breath 17 = .ok (.ifCond .eq 12, 3) := by decide +kernel
theorem dX12_breath_20 : decode cX12_breath 20 = .ok (.aload_n 0, 1) := by decide +kernel
theorem dX12_breath_21 : decode cX12_breath 21 = .ok (.iload_n 1, 1) := by decide +kernel
theorem dX12_breath_22 : decode cX12_breath 22 = .ok (.iload_n 2, 1) := by decide +kernel
theorem dX12_breath_23 : decode cX12_breath 23 = .ok (.invokevirtual 263, 3) := by decide +kernel
theorem dX12_breath_26 : decode cX12_breath 26 = .ok (.goto 5, 3) := by decide +kernel
theorem dX12_breath_29 : decode cX12_breath 29 = .ok (.bipush (-2), 2) := by decide +kernel
theorem dX12_breath_31 : decode cX12_breath 31 = .ok (.ireturn, 1) := by decide +kernel
theorem dX12_aimOf_0 : decode cX12_aimOf 0 = .ok (.aload_n 0, 1) := by decide +kernel
theorem dX12_aimOf_1 : decode cX12_aimOf 1 = .ok (.getfield 37, 3) := by decide +kernel
theorem dX12_aimOf_4 : decode cX12_aimOf 4 = .ok (.iconst 5, 1) := by decide +kernel
theorem dX12_aimOf_5 : decode cX12_aimOf 5 = .ok (.iload_n 1, 1) := by decide +kernel
theorem dX12_aimOf_6 : decode cX12_aimOf 6 = .ok (.imul, 1) := by decide +kernel
theorem dX12_aimOf_7 : decode cX12_aimOf 7 = .ok (.iconst 2, 1) := by decide +kernel
theorem dX12_aimOf_8 : decode cX12_aimOf 8 = .ok (.iadd, 1) := by decide +kernel
theorem dX12_aimOf_9 : decode cX12_aimOf 9 = .ok (.iaload, 1) := by decide +kernel
theorem dX12_aimOf_10 : decode cX12_aimOf 10 = .ok (.istore_n 3, 1) := by decide +kernel
theorem dX12_aimOf_11 : decode cX12_aimOf 11 = .ok (.aload_n 0, 1) := by decide +kernel
theorem dX12_aimOf_12 : decode cX12_aimOf 12 = .ok (.getfield 37, 3) := by decide +kernel
theorem dX12_aimOf_15 : decode cX12_aimOf 15 = .ok (.iconst 5, 1) := by decide +kernel
theorem dX12_aimOf_16 : decode cX12_aimOf 16 = .ok (.iload_n 1, 1) := by decide +kernel
theorem dX12_aimOf_17 : decode cX12_aimOf 17 = .ok (.imul, 1) := by decide +kernel
theorem dX12_aimOf_18 : decode cX12_aimOf 18 = .ok (.iconst 3, 1) := by decide +kernel
theorem dX12_aimOf_19 : decode cX12_aimOf 19 = .ok (.iadd, 1) := by decide +kernel
theorem dX12_aimOf_20 : decode cX12_aimOf 20 = .ok (.iaload, 1) := by decide +kernel
theorem dX12_aimOf_21 : decode cX12_aimOf 21 = .ok (.istore 4, 2) := by decide +kernel
theorem dX12_aimOf_23 : decode cX12_aimOf 23 = .ok (.iconst (-1), 1) := by decide +kernel
theorem dX12_aimOf_24 : decode cX12_aimOf 24 = .ok (.istore 5, 2) := by decide +kernel
theorem dX12_aimOf_26 : decode cX12_aimOf 26 = .ok (.iconst (-1), 1) := by decide +kernel
theorem dX12_aimOf_27 : decode cX12_aimOf 27 = .ok (.istore 6, 2) := by decide +kernel
theorem dX12_aimOf_29 : decode cX12_aimOf 29 = .ok (.iconst 0, 1) := by decide +kernel
theorem dX12_aimOf_30 : decode cX12_aimOf 30 = .ok (.istore 7, 2) := by decide +kernel
theorem dX12_aimOf_32 : decode cX12_aimOf 32 = .ok (.iload 7, 2) := by decide +kernel
theorem dX12_aimOf_34 : decode cX12_aimOf 34 = .ok (.bipush 36, 2) := by decide +kernel
theorem dX12_aimOf_36 : decode cX12_aimOf 36 = .ok (.if_icmp .ge 76, 3) := by decide +kernel
theorem dX12_aimOf_39 : decode cX12_aimOf 39 = .ok (.aload_n 0, 1) := by decide +kernel
theorem dX12_aimOf_40 : decode cX12_aimOf 40 = .ok (.getfield 37, 3) := by decide +kernel
theorem dX12_aimOf_43 : decode cX12_aimOf 43 = .ok (.iconst 5, 1) := by decide +kernel
theorem dX12_aimOf_44 : decode cX12_aimOf 44 = .ok (.iload_n 1, 1) := by decide +kernel
theorem dX12_aimOf_45 : decode cX12_aimOf 45 = .ok (.imul, 1) := by decide +kernel
theorem dX12_aimOf_46 : decode cX12_aimOf 46 = .ok (.iconst 2, 1) := by decide +kernel
theorem dX12_aimOf_47 : decode cX12_aimOf 47 = .ok (.iadd, 1) := by decide +kernel
theorem dX12_aimOf_48 : decode cX12_aimOf 48 = .ok (.iload 7, 2) := by decide +kernel
theorem dX12_aimOf_50 : decode cX12_aimOf 50 = .ok (.bipush 9, 2) := by decide +kernel
theorem dX12_aimOf_52 : decode cX12_aimOf 52 = .ok (.idiv, 1) := by decide +kernel
theorem dX12_aimOf_53 : decode cX12_aimOf 53 = .ok (.iastore, 1) := by decide +kernel
theorem dX12_aimOf_54 : decode cX12_aimOf 54 = .ok (.aload_n 0, 1) := by decide +kernel
theorem dX12_aimOf_55 : decode cX12_aimOf 55 = .ok (.getfield 37, 3) := by decide +kernel
theorem dX12_aimOf_58 : decode cX12_aimOf 58 = .ok (.iconst 5, 1) := by decide +kernel
theorem dX12_aimOf_59 : decode cX12_aimOf 59 = .ok (.iload_n 1, 1) := by decide +kernel
theorem dX12_aimOf_60 : decode cX12_aimOf 60 = .ok (.imul, 1) := by decide +kernel
theorem dX12_aimOf_61 : decode cX12_aimOf 61 = .ok (.iconst 3, 1) := by decide +kernel
theorem dX12_aimOf_62 : decode cX12_aimOf 62 = .ok (.iadd, 1) := by decide +kernel
theorem dX12_aimOf_63 : decode cX12_aimOf 63 = .ok (.iload 7, 2) := by decide +kernel
theorem dX12_aimOf_65 : decode cX12_aimOf 65 = .ok (.bipush 9, 2) := by decide +kernel
theorem dX12_aimOf_67 : decode cX12_aimOf 67 = .ok (.irem, 1) := by decide +kernel
theorem dX12_aimOf_68 : decode cX12_aimOf 68 = .ok (.iconst 1, 1) := by decide +kernel
theorem dX12_aimOf_69 : decode cX12_aimOf 69 = .ok (.iadd, 1) := by decide +kernel
theorem dX12_aimOf_70 : decode cX12_aimOf 70 = .ok (.iastore, 1) := by decide +kernel
theorem dX12_aimOf_71 : decode cX12_aimOf 71 = .ok (.aload_n 0, 1) := by decide +kernel
theorem dX12_aimOf_72 : decode cX12_aimOf 72 = .ok (.invokevirtual 227, 3) := by decide +kernel
theorem dX12_aimOf_75 : decode cX12_aimOf 75 = .ok (.aload_n 0, 1) := by decide +kernel
theorem dX12_aimOf_76 : decode cX12_aimOf 76 = .ok (.invokevirtual 266, 3) := by decide +kernel
theorem dX12_aimOf_79 : decode cX12_aimOf 79 = .ok (.istore 8, 2) := by decide +kernel
theorem dX12_aimOf_81 : decode cX12_aimOf 81 = .ok (.iload 8, 2) := by decide +kernel
theorem dX12_aimOf_83 : decode cX12_aimOf 83 = .ok (.iload 6, 2) := by decide +kernel
theorem dX12_aimOf_85 : decode cX12_aimOf 85 = .ok (.if_icmp .le 8, 3) := by decide +kernel
theorem dX12_aimOf_88 : decode cX12_aimOf 88 = .ok (.iload 7, 2) := by decide +kernel
theorem dX12_aimOf_90 : decode cX12_aimOf 90 = .ok (.goto 5, 3) := by decide +kernel
theorem dX12_aimOf_93 : decode cX12_aimOf 93 = .ok (.iload 5, 2) := by decide +kernel
theorem dX12_aimOf_95 : decode cX12_aimOf 95 = .ok (.istore 5, 2) := by decide +kernel
theorem dX12_aimOf_97 : decode cX12_aimOf 97 = .ok (.iload 8, 2) := by decide +kernel
theorem dX12_aimOf_99 : decode cX12_aimOf 99 = .ok (.iload 6, 2) := by decide +kernel
theorem dX12_aimOf_101 : decode cX12_aimOf 101 = .ok (.invokestatic 254, 3) := by decide +kernel
theorem dX12_aimOf_104 : decode cX12_aimOf 104 = .ok (.istore 6, 2) := by decide +kernel
theorem dX12_aimOf_106 : decode cX12_aimOf 106 = .ok (.iinc 7 1, 3) := by decide +kernel
theorem dX12_aimOf_109 : decode cX12_aimOf 109 = .ok (.goto (-77), 3) := by decide +kernel
theorem dX12_aimOf_112 : decode cX12_aimOf 112 = .ok (.aload_n 0, 1) := by decide +kernel
theorem dX12_aimOf_113 : decode cX12_aimOf 113 = .ok (.getfield 37, 3) := by decide +kernel
theorem dX12_aimOf_116 : decode cX12_aimOf 116 = .ok (.iconst 5, 1) := by decide +kernel
theorem dX12_aimOf_117 : decode cX12_aimOf 117 = .ok (.iload_n 1, 1) := by decide +kernel
theorem dX12_aimOf_118 : decode cX12_aimOf 118 = .ok (.imul, 1) := by decide +kernel
theorem dX12_aimOf_119 : decode cX12_aimOf 119 = .ok (.iconst 2, 1) := by decide +kernel
theorem dX12_aimOf_120 : decode cX12_aimOf 120 = .ok (.iadd, 1) := by decide +kernel
theorem dX12_aimOf_121 : decode cX12_aimOf 121 = .ok (.iload_n 3, 1) := by decide +kernel
theorem dX12_aimOf_122 : decode cX12_aimOf 122 = .ok (.iastore, 1) := by decide +kernel
theorem dX12_aimOf_123 : decode cX12_aimOf 123 = .ok (.aload_n 0, 1) := by decide +kernel
theorem dX12_aimOf_124 : decode cX12_aimOf 124 = .ok (.getfield 37, 3) := by decide +kernel
theorem dX12_aimOf_127 : decode cX12_aimOf 127 = .ok (.iconst 5, 1) := by decide +kernel
theorem dX12_aimOf_128 : decode cX12_aimOf 128 = .ok (.iload_n 1, 1) := by decide +kernel
theorem dX12_aimOf_129 : decode cX12_aimOf 129 = .ok (.imul, 1) := by decide +kernel
theorem dX12_aimOf_130 : decode cX12_aimOf 130 = .ok (.iconst 3, 1) := by decide +kernel
theorem dX12_aimOf_131 : decode cX12_aimOf 131 = .ok (.iadd, 1) := by decide +kernel
theorem dX12_aimOf_132 : decode cX12_aimOf 132 = .ok (.iload 4, 2) := by decide +kernel
theorem dX12_aimOf_134 : decode cX12_aimOf 134 = .ok (.iastore, 1) := by decide +kernel
theorem dX12_aimOf_135 : decode cX12_aimOf 135 = .ok (.iload_n 2, 1) := by decide +kernel
theorem dX12_aimOf_136 : decode cX12_aimOf 136 = .ok (.ifCond .ne 11, 3) := by decide +kernel
theorem dX12_aimOf_139 : decode cX12_aimOf 139 = .ok (.iload 5, 2) := by decide +kernel
theorem dX12_aimOf_141 : decode cX12_aimOf 141 = .ok (.bipush 9, 2) := by decide +kernel
theorem dX12_aimOf_143 : decode cX12_aimOf 143 = .ok (.idiv, 1) := by decide +kernel
theorem dX12_aimOf_144 : decode cX12_aimOf 144 = .ok (.goto 20, 3) := by decide +kernel
theorem dX12_aimOf_147 : decode cX12_aimOf 147 = .ok (.iload_n 2, 1) := by decide +kernel
theorem dX12_aimOf_148 : decode cX12_aimOf 148 = .ok (.iconst 1, 1) := by decide +kernel
theorem dX12_aimOf_149 : decode cX12_aimOf 149 = .ok (.if_icmp .ne 13, 3) := by decide +kernel
theorem dX12_aimOf_152 : decode cX12_aimOf 152 = .ok (.iload 5, 2) := by decide +kernel
theorem dX12_aimOf_154 : decode cX12_aimOf 154 = .ok (.bipush 9, 2) := by decide +kernel
theorem dX12_aimOf_156 : decode cX12_aimOf 156 = .ok (.irem, 1) := by decide +kernel
theorem dX12_aimOf_157 : decode cX12_aimOf 157 = .ok (.iconst 1, 1) := by decide +kernel
theorem dX12_aimOf_158 : decode cX12_aimOf 158 = .ok (.iadd, 1) := by decide +kernel
theorem dX12_aimOf_159 : decode cX12_aimOf 159 = .ok (.goto 5, 3) := by decide +kernel
theorem dX12_aimOf_162 : decode cX12_aimOf 162 = .ok (.iload 6, 2) := by decide +kernel
theorem dX12_aimOf_164 : decode cX12_aimOf 164 = .ok (.ireturn, 1) := by decide +kernel
theorem dX12_aim_0 : decode cX12_aim 0 = .ok (.aload_n 0, 1) := by decide +kernel
theorem dX12_aim_1 : decode cX12_aim 1 = .ok (.invokevirtual 230, 3) := by decide +kernel
theorem dX12_aim_4 : decode cX12_aim 4 = .ok (.aload_n 0, 1) := by decide +kernel
theorem dX12_aim_5 : decode cX12_aim 5 = .ok (.iload_n 1, 1) := by decide +kernel
theorem dX12_aim_6 : decode cX12_aim 6 = .ok (.invokevirtual 169, 3) := by decide +kernel
theorem dX12_aim_9 : decode cX12_aim 9 = .ok (.ifCond .eq 24, 3) := by decide +kernel
theorem dX12_aim_12 : decode cX12_aim 12 = .ok (.iload_n 2, 1) := by decide +kernel
theorem dX12_aim_13 : decode cX12_aim 13 = .ok (.i2l, 1) := by decide +kernel
theorem dX12_aim_14 : decode cX12_aim 14 = .ok (.lconst 0, 1) := by decide +kernel
theorem dX12_aim_15 : decode cX12_aim 15 = .ok (.ldc2_w 89, 3) := by decide +kernel
theorem dX12_aim_18 : decode cX12_aim 18 = .ok (.invokestatic 76, 3) := by decide +kernel
theorem dX12_aim_21 : decode cX12_aim 21 = .ok (.ifCond .eq 12, 3) := by decide +kernel
theorem dX12_aim_24 : decode cX12_aim 24 = .ok (.aload_n 0, 1) := by decide +kernel
theorem dX12_aim_25 : decode cX12_aim 25 = .ok (.iload_n 1, 1) := by decide +kernel
theorem dX12_aim_26 : decode cX12_aim 26 = .ok (.iload_n 2, 1) := by decide +kernel
theorem dX12_aim_27 : decode cX12_aim 27 = .ok (.invokevirtual 269, 3) := by decide +kernel
theorem dX12_aim_30 : decode cX12_aim 30 = .ok (.goto 5, 3) := by decide +kernel
theorem dX12_aim_33 : decode cX12_aim 33 = .ok (.bipush (-2), 2) := by decide +kernel
theorem dX12_aim_35 : decode cX12_aim 35 = .ok (.ireturn, 1) := by decide +kernel
theorem dX12_standOf_0 : decode cX12_standOf 0 = .ok (.aload_n 0, 1) := by decide +kernel
theorem dX12_standOf_1 : decode cX12_standOf 1 = .ok (.getfield 31, 3) := by decide +kernel
theorem dX12_standOf_4 : decode cX12_standOf 4 = .ok (.iconst 3, 1) := by decide +kernel
theorem dX12_standOf_5 : decode cX12_standOf 5 = .ok (.iload_n 1, 1) := by decide +kernel
theorem dX12_standOf_6 : decode cX12_standOf 6 = .ok (.imul, 1) := by decide +kernel
theorem dX12_standOf_7 : decode cX12_standOf 7 = .ok (.iaload, 1) := by decide +kernel
theorem dX12_standOf_8 : decode cX12_standOf 8 = .ok (.istore_n 2, 1) := by decide +kernel
theorem dX12_standOf_9 : decode cX12_standOf 9 = .ok (.iconst (-1), 1) := by decide +kernel
theorem dX12_standOf_10 : decode cX12_standOf 10 = .ok (.istore_n 3, 1) := by decide +kernel
theorem dX12_standOf_11 : decode cX12_standOf 11 = .ok (.aload_n 0, 1) := by decide +kernel
theorem dX12_standOf_12 : decode cX12_standOf 12 = .ok (.getfield 109, 3) := by decide +kernel
theorem dX12_standOf_15 : decode cX12_standOf 15 = .ok (.iconst 1, 1) := by decide +kernel
theorem dX12_standOf_16 : decode cX12_standOf 16 = .ok (.isub, 1) := by decide +kernel
theorem dX12_standOf_17 : decode cX12_standOf 17 = .ok (.istore 4, 2) := by decide +kernel
theorem dX12_standOf_19 : decode cX12_standOf 19 = .ok (.iload 4, 2) := by decide +kernel
theorem dX12_standOf_21 : decode cX12_standOf 21 = .ok (.ifCond .lt 50, 3) := by decide +kernel
theorem dX12_standOf_24 : decode cX12_standOf 24 = .ok (.aload_n 0, 1) := by decide +kernel
theorem dX12_standOf_25 : decode cX12_standOf 25 = .ok (.getfield 28, 3) := by decide +kernel
theorem dX12_standOf_28 : decode cX12_standOf 28 = .ok (.iload 4, 2) := by decide +kernel
theorem dX12_standOf_30 : decode cX12_standOf 30 = .ok (.iaload, 1) := by decide +kernel
theorem dX12_standOf_31 : decode cX12_standOf 31 = .ok (.ifCond .ne 34, 3) := by decide +kernel
theorem dX12_standOf_34 : decode cX12_standOf 34 = .ok (.aload_n 0, 1) := by decide +kernel
theorem dX12_standOf_35 : decode cX12_standOf 35 = .ok (.getfield 31, 3) := by decide +kernel
theorem dX12_standOf_38 : decode cX12_standOf 38 = .ok (.iconst 3, 1) := by decide +kernel
theorem dX12_standOf_39 : decode cX12_standOf 39 = .ok (.iload_n 1, 1) := by decide +kernel
theorem dX12_standOf_40 : decode cX12_standOf 40 = .ok (.imul, 1) := by decide +kernel
theorem dX12_standOf_41 : decode cX12_standOf 41 = .ok (.iload 4, 2) := by decide +kernel
theorem dX12_standOf_43 : decode cX12_standOf 43 = .ok (.iastore, 1) := by decide +kernel
theorem dX12_standOf_44 : decode cX12_standOf 44 = .ok (.aload_n 0, 1) := by decide +kernel
theorem dX12_standOf_45 : decode cX12_standOf 45 = .ok (.invokevirtual 227, 3) := by decide +kernel
theorem dX12_standOf_48 : decode cX12_standOf 48 = .ok (.aload_n 0, 1) := by decide +kernel
theorem dX12_standOf_49 : decode cX12_standOf 49 = .ok (.getfield 55, 3) := by decide +kernel
theorem dX12_standOf_52 : decode cX12_standOf 52 = .ok (.iload_n 1, 1) := by decide +kernel
theorem dX12_standOf_53 : decode cX12_standOf 53 = .ok (.iaload, 1) := by decide +kernel
theorem dX12_standOf_54 : decode cX12_standOf 54 = .ok (.iconst (-1), 1) := by decide +kernel
theorem dX12_standOf_55 : decode cX12_standOf 55 = .ok (.if_icmp .ne 8, 3) := by decide +kernel
theorem dX12_standOf_58 : decode cX12_standOf 58 = .ok (.iload 4, 2) := by decide +kernel
theorem dX12_standOf_60 : decode cX12_standOf 60 = .ok (.goto 4, 3) := by decide +kernel
theorem dX12_standOf_63 : decode cX12_standOf 63 = .ok (.iload_n 3, 1) := by decide +kernel
theorem dX12_standOf_64 : decode cX12_standOf 64 = .ok (.istore_n 3, 1) := by decide +kernel
theorem dX12_standOf_65 : decode cX12_standOf 65 = .ok (.iinc 4 (-1), 3) := by decide +kernel
theorem dX12_standOf_68 : decode cX12_standOf 68 = .ok (.goto (-49), 3) := by decide +kernel
theorem dX12_standOf_71 : decode cX12_standOf 71 = .ok (.aload_n 0, 1) := by decide +kernel
theorem dX12_standOf_72 : decode cX12_standOf 72 = .ok (.getfield 31, 3) := by decide +kernel
theorem dX12_standOf_75 : decode cX12_standOf 75 = .ok (.iconst 3, 1) := by decide +kernel
theorem dX12_standOf_76 : decode cX12_standOf 76 = .ok (.iload_n 1, 1) := by decide +kernel
theorem dX12_standOf_77 : decode cX12_standOf 77 = .ok (.imul, 1) := by decide +kernel
theorem dX12_standOf_78 : decode cX12_standOf 78 = .ok (.iload_n 2, 1) := by decide +kernel
theorem dX12_standOf_79 : decode cX12_standOf 79 = .ok (.iastore, 1) := by decide +kernel
theorem dX12_standOf_80 : decode cX12_standOf 80 = .ok (.iload_n 3, 1) := by decide +kernel
theorem dX12_standOf_81 : decode cX12_standOf 81 = .ok (.ireturn, 1) := by decide +kernel
theorem dX12_stand_0 : decode cX12_stand 0 = .ok (.aload_n 0, 1) := by decide +kernel
theorem dX12_stand_1 : decode cX12_stand 1 = .ok (.invokevirtual 230, 3) := by decide +kernel
theorem dX12_stand_4 : decode cX12_stand 4 = .ok (.aload_n 0, 1) := by decide +kernel
theorem dX12_stand_5 : decode cX12_stand 5 = .ok (.iload_n 1, 1) := by decide +kernel
theorem dX12_stand_6 : decode cX12_stand 6 = .ok (.invokevirtual 152, 3) := by decide +kernel
theorem dX12_stand_9 : decode cX12_stand 9 = .ok (.ifCond .eq 11, 3) := by decide +kernel
theorem dX12_stand_12 : decode cX12_stand 12 = .ok (.aload_n 0, 1) := by decide +kernel
theorem dX12_stand_13 : decode cX12_stand 13 = .ok (.iload_n 1, 1) := by decide +kernel
theorem dX12_stand_14 : decode cX12_stand 14 = .ok (.invokevirtual 272, 3) := by decide +kernel
theorem dX12_stand_17 : decode cX12_stand 17 = .ok (.goto 5, 3) := by decide +kernel
theorem dX12_stand_20 : decode cX12_stand 20 = .ok (.bipush (-2), 2) := by decide +kernel
theorem dX12_stand_22 : decode cX12_stand 22 = .ok (.ireturn, 1) := by decide +kernel
theorem dX12_isSpared_0 : decode cX12_isSpared 0 = .ok (.aload_n 0, 1) := by decide +kernel
theorem dX12_isSpared_1 : decode cX12_isSpared 1 = .ok (.iload_n 2, 1) := by decide +kernel
theorem dX12_isSpared_2 : decode cX12_isSpared 2 = .ok (.putfield 205, 3) := by decide +kernel
theorem dX12_isSpared_5 : decode cX12_isSpared 5 = .ok (.aload_n 0, 1) := by decide +kernel
theorem dX12_isSpared_6 : decode cX12_isSpared 6 = .ok (.invokevirtual 227, 3) := by decide +kernel
theorem dX12_isSpared_9 : decode cX12_isSpared 9 = .ok (.aload_n 0, 1) := by decide +kernel
theorem dX12_isSpared_10 : decode cX12_isSpared 10 = .ok (.iconst 0, 1) := by decide +kernel
theorem dX12_isSpared_11 : decode cX12_isSpared 11 = .ok (.putfield 205, 3) := by decide +kernel
theorem dX12_isSpared_14 : decode cX12_isSpared 14 = .ok (.aload_n 0, 1) := by decide +kernel
theorem dX12_isSpared_15 : decode cX12_isSpared 15 = .ok (.getfield 55, 3) := by decide +kernel
theorem dX12_isSpared_18 : decode cX12_isSpared 18 = .ok (.iload_n 1, 1) := by decide +kernel
theorem dX12_isSpared_19 : decode cX12_isSpared 19 = .ok (.iaload, 1) := by decide +kernel
theorem dX12_isSpared_20 : decode cX12_isSpared 20 = .ok (.iconst (-1), 1) := by decide +kernel
theorem dX12_isSpared_21 : decode cX12_isSpared 21 = .ok (.if_icmp .ne 7, 3) := by decide +kernel
theorem dX12_isSpared_24 : decode cX12_isSpared 24 = .ok (.iconst 1, 1) := by decide +kernel
theorem dX12_isSpared_25 : decode cX12_isSpared 25 = .ok (.goto 4, 3) := by decide +kernel
theorem dX12_isSpared_28 : decode cX12_isSpared 28 = .ok (.iconst 0, 1) := by decide +kernel
theorem dX12_isSpared_29 : decode cX12_isSpared 29 = .ok (.ireturn, 1) := by decide +kernel
theorem dX12_hushOf_0 : decode cX12_hushOf 0 = .ok (.aload_n 0, 1) := by decide +kernel
theorem dX12_hushOf_1 : decode cX12_hushOf 1 = .ok (.iload_n 1, 1) := by decide +kernel
theorem dX12_hushOf_2 : decode cX12_hushOf 2 = .ok (.iconst 0, 1) := by decide +kernel
theorem dX12_hushOf_3 : decode cX12_hushOf 3 = .ok (.invokevirtual 275, 3) := by decide +kernel
theorem dX12_hushOf_6 : decode cX12_hushOf 6 = .ok (.ifCond .eq 14, 3) := by decide +kernel
theorem dX12_hushOf_9 : decode cX12_hushOf 9 = .ok (.iload_n 2, 1) := by decide +kernel
theorem dX12_hushOf_10 : decode cX12_hushOf 10 = .ok (.iconst (-1), 1) := by decide +kernel
theorem dX12_hushOf_11 : decode cX12_hushOf 11 = .ok (.if_icmp .ne 7, 3) := by decide +kernel
theorem dX12_hushOf_14 : decode cX12_hushOf 14 = .ok (.iconst 0, 1) := by decide +kernel
theorem dX12_hushOf_15 : decode cX12_hushOf 15 = .ok (.goto 4, 3) := by decide +kernel
theorem dX12_hushOf_18 : decode cX12_hushOf 18 = .ok (.iconst (-1), 1) := by decide +kernel
theorem dX12_hushOf_19 : decode cX12_hushOf 19 = .ok (.ireturn, 1) := by decide +kernel
theorem dX12_hushOf_20 : decode cX12_hushOf 20 = .ok (.iconst 0, 1) := by decide +kernel
theorem dX12_hushOf_21 : decode cX12_hushOf 21 = .ok (.istore_n 3, 1) := by decide +kernel
theorem dX12_hushOf_22 : decode cX12_hushOf 22 = .ok (.iload_n 3, 1) := by decide +kernel
theorem dX12_hushOf_23 : decode cX12_hushOf 23 = .ok (.aload_n 0, 1) := by decide +kernel
theorem dX12_hushOf_24 : decode cX12_hushOf 24 = .ok (.getfield 160, 3) := by decide +kernel
theorem dX12_hushOf_27 : decode cX12_hushOf 27 = .ok (.if_icmp .ge 39, 3) := by decide +kernel
theorem dX12_hushOf_30 : decode cX12_hushOf 30 = .ok (.aload_n 0, 1) := by decide +kernel
theorem dX12_hushOf_31 : decode cX12_hushOf 31 = .ok (.iload_n 1, 1) := by decide +kernel
theorem dX12_hushOf_32 : decode cX12_hushOf 32 = .ok (.iconst 1, 1) := by decide +kernel
theorem dX12_hushOf_33 : decode cX12_hushOf 33 = .ok (.iload_n 3, 1) := by decide +kernel
theorem dX12_hushOf_34 : decode cX12_hushOf 34 = .ok (.ishl, 1) := by decide +kernel
theorem dX12_hushOf_35 : decode cX12_hushOf 35 = .ok (.invokevirtual 275, 3) := by decide +kernel
theorem dX12_hushOf_38 : decode cX12_hushOf 38 = .ok (.ifCond .eq 22, 3) := by decide +kernel
theorem dX12_hushOf_41 : decode cX12_hushOf 41 = .ok (.iload_n 2, 1) := by decide +kernel
theorem dX12_hushOf_42 : decode cX12_hushOf 42 = .ok (.iconst (-1), 1) := by decide +kernel
theorem dX12_hushOf_43 : decode cX12_hushOf 43 = .ok (.if_icmp .ne 7, 3) := by decide +kernel
theorem dX12_hushOf_46 : decode cX12_hushOf 46 = .ok (.iconst 1, 1) := by decide +kernel
theorem dX12_hushOf_47 : decode cX12_hushOf 47 = .ok (.goto 12, 3) := by decide +kernel
theorem dX12_hushOf_50 : decode cX12_hushOf 50 = .ok (.iload_n 2, 1) := by decide +kernel
theorem dX12_hushOf_51 : decode cX12_hushOf 51 = .ok (.ifCond .ne 7, 3) := by decide +kernel
theorem dX12_hushOf_54 : decode cX12_hushOf 54 = .ok (.iload_n 3, 1) := by decide +kernel
theorem dX12_hushOf_55 : decode cX12_hushOf 55 = .ok (.goto 4, 3) := by decide +kernel
theorem dX12_hushOf_58 : decode cX12_hushOf 58 = .ok (.iconst (-1), 1) := by decide +kernel
theorem dX12_hushOf_59 : decode cX12_hushOf 59 = .ok (.ireturn, 1) := by decide +kernel
theorem dX12_hushOf_60 : decode cX12_hushOf 60 = .ok (.iinc 3 1, 3) := by decide +kernel
theorem dX12_hushOf_63 : decode cX12_hushOf 63 = .ok (.goto (-41), 3) := by decide +kernel
theorem dX12_hushOf_66 : decode cX12_hushOf 66 = .ok (.iconst 0, 1) := by decide +kernel
theorem dX12_hushOf_67 : decode cX12_hushOf 67 = .ok (.istore_n 3, 1) := by decide +kernel
theorem dX12_hushOf_68 : decode cX12_hushOf 68 = .ok (.iload_n 3, 1) := by decide +kernel
theorem dX12_hushOf_69 : decode cX12_hushOf 69 = .ok (.aload_n 0, 1) := by decide +kernel
theorem dX12_hushOf_70 : decode cX12_hushOf 70 = .ok (.getfield 160, 3) := by decide +kernel
theorem dX12_hushOf_73 : decode cX12_hushOf 73 = .ok (.if_icmp .ge 65, 3) := by decide +kernel
theorem dX12_hushOf_76 : decode cX12_hushOf 76 = .ok (.iload_n 3, 1) := by decide +kernel
theorem dX12_hushOf_77 : decode cX12_hushOf 77 = .ok (.iconst 1, 1) := by decide +kernel
theorem dX12_hushOf_78 : decode cX12_hushOf 78 = .ok (.iadd, 1) := by decide +kernel
theorem dX12_hushOf_79 : decode cX12_hushOf 79 = .ok (.istore 4, 2) := by decide +kernel
theorem dX12_hushOf_81 : decode cX12_hushOf 81 = .ok (.iload 4, 2) := by decide +kernel
theorem dX12_hushOf_83 : decode cX12_hushOf 83 = .ok (.aload_n 0, 1) := by decide +kernel
theorem dX12_hushOf_84 : decode cX12_hushOf 84 = .ok (.getfield 160, 3) := by decide +kernel
theorem dX12_hushOf_87 : decode cX12_hushOf 87 = .ok (.if_icmp .ge 45, 3) := by decide +kernel
theorem dX12_hushOf_90 : decode cX12_hushOf 90 = .ok (.aload_n 0, 1) := by decide +kernel
theorem dX12_hushOf_91 : decode cX12_hushOf 91 = .ok (.iload_n 1, 1) := by decide +kernel
theorem dX12_hushOf_92 : decode cX12_hushOf 92 = .ok (.iconst 1, 1) := by decide +kernel
theorem dX12_hushOf_93 : decode cX12_hushOf 93 = .ok (.iload_n 3, 1) := by decide +kernel
theorem dX12_hushOf_94 : decode cX12_hushOf 94 = .ok (.ishl, 1) := by decide +kernel
theorem dX12_hushOf_95 : decode cX12_hushOf 95 = .ok (.iconst 1, 1) := by decide +kernel
theorem dX12_hushOf_96 : decode cX12_hushOf 96 = .ok (.iload 4, 2) := by decide +kernel
theorem dX12_hushOf_98 : decode cX12_hushOf 98 = .ok (.ishl, 1) := by decide +kernel
theorem dX12_hushOf_99 : decode cX12_hushOf 99 = .ok (.ior, 1) := by decide +kernel
theorem dX12_hushOf_100 : decode cX12_hushOf 100 = .ok (.invokevirtual 275, 3) := by decide +kernel
theorem dX12_hushOf_103 : decode cX12_hushOf 103 = .ok (.ifCond .eq 23, 3) := by decide +kernel
theorem dX12_hushOf_106 : decode cX12_hushOf 106 = .ok (.iload_n 2, 1) := by decide +kernel
theorem dX12_hushOf_107 : decode cX12_hushOf 107 = .ok (.iconst (-1), 1) := by decide +kernel
theorem dX12_hushOf_108 : decode cX12_hushOf 108 = .ok (.if_icmp .ne 7, 3) := by decide +kernel
theorem dX12_hushOf_111 : decode cX12_hushOf 111 = .ok (.iconst 2, 1) := by decide +kernel
theorem dX12_hushOf_112 : decode cX12_hushOf 112 = .ok (.goto 13, 3) := by decide +kernel
theorem dX12_hushOf_115 : decode cX12_hushOf 115 = .ok (.iload_n 2, 1) := by decide +kernel
theorem dX12_hushOf_116 : decode cX12_hushOf 116 = .ok (.ifCond .ne 7, 3) := by decide +kernel
theorem dX12_hushOf_119 : decode cX12_hushOf 119 = .ok (.iload_n 3, 1) := by decide +kernel
theorem dX12_hushOf_120 : decode cX12_hushOf 120 = .ok (.goto 5, 3) := by decide +kernel
theorem dX12_hushOf_123 : decode cX12_hushOf 123 = .ok (.iload 4, 2) := by decide +kernel
theorem dX12_hushOf_125 : decode cX12_hushOf 125 = .ok (.ireturn, 1) := by decide +kernel
theorem dX12_hushOf_126 : decode cX12_hushOf 126 = .ok (.iinc 4 1, 3) := by decide +kernel
theorem dX12_hushOf_129 : decode cX12_hushOf 129 = .ok (.goto (-48), 3) := by decide +kernel
theorem dX12_hushOf_132 : decode cX12_hushOf 132 = .ok (.iinc 3 1, 3) := by decide +kernel
theorem dX12_hushOf_135 : decode cX12_hushOf 135 = .ok (.goto (-67), 3) := by decide +kernel
theorem dX12_hushOf_138 : decode cX12_hushOf 138 = .ok (.iconst (-1), 1) := by decide +kernel
theorem dX12_hushOf_139 : decode cX12_hushOf 139 = .ok (.ireturn, 1) := by decide +kernel
theorem dX12_hush_0 : decode cX12_hush 0 = .ok (.aload_n 0, 1) := by decide +kernel
theorem dX12_hush_1 : decode cX12_hush 1 = .ok (.invokevirtual 230, 3) := by decide +kernel
theorem dX12_hush_4 : decode cX12_hush 4 = .ok (.aload_n 0, 1) := by decide +kernel
theorem dX12_hush_5 : decode cX12_hush 5 = .ok (.iload_n 1, 1) := by decide +kernel
theorem dX12_hush_6 : decode cX12_hush 6 = .ok (.invokevirtual 152, 3) := by decide +kernel
theorem dX12_hush_9 : decode cX12_hush 9 = .ok (.ifCond .eq 24, 3) := by decide +kernel
theorem dX12_hush_12 : decode cX12_hush 12 = .ok (.iload_n 2, 1) := by decide +kernel
theorem dX12_hush_13 : decode cX12_hush 13 = .ok (.i2l, 1) := by decide +kernel
theorem dX12_hush_14 : decode cX12_hush 14 = .ok (.ldc2_w 278, 3) := by decide +kernel
theorem dX12_hush_17 : decode cX12_hush 17 = .ok (.lconst 1, 1) := by decide +kernel
theorem dX12_hush_18 : decode cX12_hush 18 = .ok (.invokestatic 76, 3) := by decide +kernel
theorem dX12_hush_21 : decode cX12_hush 21 = .ok (.ifCond .eq 12, 3) := by decide +kernel
theorem dX12_hush_24 : decode cX12_hush 24 = .ok (.aload_n 0, 1) := by decide +kernel
theorem dX12_hush_25 : decode cX12_hush 25 = .ok (.iload_n 1, 1) := by decide +kernel
theorem dX12_hush_26 : decode cX12_hush 26 = .ok (.iload_n 2, 1) := by decide +kernel
theorem dX12_hush_27 : decode cX12_hush 27 = .ok (.invokevirtual 280, 3) := by decide +kernel
theorem dX12_hush_30 : decode cX12_hush 30 = .ok (.goto 5, 3) := by decide +kernel
theorem dX12_hush_33 : decode cX12_hush 33 = .ok (.bipush (-2), 2) := by decide +kernel
theorem dX12_hush_35 : decode cX12_hush 35 = .ok (.ireturn, 1) := by decide +kernel
theorem dX12_calmBy_0 : decode cX12_calmBy 0 = .ok (.iconst (-1), 1) := by decide +kernel
theorem dX12_calmBy_1 : decode cX12_calmBy 1 = .ok (.istore_n 2, 1) := by decide +kernel
theorem dX12_calmBy_2 : decode cX12_calmBy 2 = .ok (.iconst (-1), 1) := by decide +kernel
theorem dX12_calmBy_3 : decode cX12_calmBy 3 = .ok (.istore_n 3, 1) := by decide +kernel
theorem dX12_calmBy_4 : decode cX12_calmBy 4 = .ok (.iconst 0, 1) := by decide +kernel
theorem dX12_calmBy_5 : decode cX12_calmBy 5 = .ok (.istore 4, 2) := by decide +kernel
theorem dX12_calmBy_7 : decode cX12_calmBy 7 = .ok (.iload 4, 2) := by decide +kernel
theorem dX12_calmBy_9 : decode cX12_calmBy 9 = .ok (.bipush 20, 2) := by decide +kernel
theorem dX12_calmBy_11 : decode cX12_calmBy 11 = .ok (.if_icmp .ge 47, 3) := by decide +kernel
theorem dX12_calmBy_14 : decode cX12_calmBy 14 = .ok (.aload_n 0, 1) := by decide +kernel
theorem dX12_calmBy_15 : decode cX12_calmBy 15 = .ok (.iconst 1, 1) := by decide +kernel
theorem dX12_calmBy_16 : decode cX12_calmBy 16 = .ok (.iload 4, 2) := by decide +kernel
theorem dX12_calmBy_18 : decode cX12_calmBy 18 = .ok (.ishl, 1) := by decide +kernel
theorem dX12_calmBy_19 : decode cX12_calmBy 19 = .ok (.putfield 183, 3) := by decide +kernel
theorem dX12_calmBy_22 : decode cX12_calmBy 22 = .ok (.aload_n 0, 1) := by decide +kernel
theorem dX12_calmBy_23 : decode cX12_calmBy 23 = .ok (.invokevirtual 227, 3) := by decide +kernel
theorem dX12_calmBy_26 : decode cX12_calmBy 26 = .ok (.aload_n 0, 1) := by decide +kernel
theorem dX12_calmBy_27 : decode cX12_calmBy 27 = .ok (.invokevirtual 266, 3) := by decide +kernel
theorem dX12_calmBy_30 : decode cX12_calmBy 30 = .ok (.istore 5, 2) := by decide +kernel
theorem dX12_calmBy_32 : decode cX12_calmBy 32 = .ok (.iload 5, 2) := by decide +kernel
theorem dX12_calmBy_34 : decode cX12_calmBy 34 = .ok (.iload_n 3, 1) := by decide +kernel
theorem dX12_calmBy_35 : decode cX12_calmBy 35 = .ok (.if_icmp .le 8, 3) := by decide +kernel
theorem dX12_calmBy_38 : decode cX12_calmBy 38 = .ok (.iload 4, 2) := by decide +kernel
theorem dX12_calmBy_40 : decode cX12_calmBy 40 = .ok (.goto 4, 3) := by decide +kernel
theorem dX12_calmBy_43 : decode cX12_calmBy 43 = .ok (.iload_n 2, 1) := by decide +kernel
theorem dX12_calmBy_44 : decode cX12_calmBy 44 = .ok (.istore_n 2, 1) := by decide +kernel
theorem dX12_calmBy_45 : decode cX12_calmBy 45 = .ok (.iload 5, 2) := by decide +kernel
theorem dX12_calmBy_47 : decode cX12_calmBy 47 = .ok (.iload_n 3, 1) := by decide +kernel
theorem dX12_calmBy_48 : decode cX12_calmBy 48 = .ok (.invokestatic 254, 3) := by decide +kernel
theorem dX12_calmBy_51 : decode cX12_calmBy 51 = .ok (.istore_n 3, 1) := by decide +kernel
theorem dX12_calmBy_52 : decode cX12_calmBy 52 = .ok (.iinc 4 1, 3) := by decide +kernel
theorem dX12_calmBy_55 : decode cX12_calmBy 55 = .ok (.goto (-48), 3) := by decide +kernel
theorem dX12_calmBy_58 : decode cX12_calmBy 58 = .ok (.aload_n 0, 1) := by decide +kernel
theorem dX12_calmBy_59 : decode cX12_calmBy 59 = .ok (.iconst 0, 1) := by decide +kernel
theorem dX12_calmBy_60 : decode cX12_calmBy 60 = .ok (.putfield 183, 3) := by decide +kernel
theorem dX12_calmBy_63 : decode cX12_calmBy 63 = .ok (.iload_n 1, 1) := by decide +kernel
theorem dX12_calmBy_64 : decode cX12_calmBy 64 = .ok (.ifCond .ne 7, 3) := by decide +kernel
theorem dX12_calmBy_67 : decode cX12_calmBy 67 = .ok (.iload_n 2, 1) := by decide +kernel
theorem dX12_calmBy_68 : decode cX12_calmBy 68 = .ok (.goto 4, 3) := by decide +kernel
theorem dX12_calmBy_71 : decode cX12_calmBy 71 = .ok (.iload_n 3, 1) := by decide +kernel
theorem dX12_calmBy_72 : decode cX12_calmBy 72 = .ok (.ireturn, 1) := by decide +kernel
theorem dX12_calm_0 : decode cX12_calm 0 = .ok (.aload_n 0, 1) := by decide +kernel
theorem dX12_calm_1 : decode cX12_calm 1 = .ok (.invokevirtual 230, 3) := by decide +kernel
theorem dX12_calm_4 : decode cX12_calm 4 = .ok (.iload_n 1, 1) := by decide +kernel
theorem dX12_calm_5 : decode cX12_calm 5 = .ok (.invokestatic 242, 3) := by decide +kernel
theorem dX12_calm_8 : decode cX12_calm 8 = .ok (.ifCond .eq 11, 3) := by decide +kernel
theorem dX12_calm_11 : decode cX12_calm 11 = .ok (.aload_n 0, 1) := by decide +kernel
theorem dX12_calm_12 : decode cX12_calm 12 = .ok (.iload_n 1, 1) := by decide +kernel
theorem dX12_calm_13 : decode cX12_calm 13 = .ok (.invokevirtual 283, 3) := by decide +kernel
theorem dX12_calm_16 : decode cX12_calm 16 = .ok (.goto 5, 3) := by decide +kernel
theorem dX12_calm_19 : decode cX12_calm 19 = .ok (.bipush (-2), 2) := by decide +kernel
theorem dX12_calm_21 : decode cX12_calm 21 = .ok (.ireturn, 1) := by decide +kernel
theorem dX12_costOf_0 : decode cX12_costOf 0 = .ok (.aload_n 0, 1) := by decide +kernel
theorem dX12_costOf_1 : decode cX12_costOf 1 = .ok (.iload_n 1, 1) := by decide +kernel
theorem dX12_costOf_2 : decode cX12_costOf 2 = .ok (.invokevirtual 233, 3) := by decide +kernel
theorem dX12_costOf_5 : decode cX12_costOf 5 = .ok (.iload_n 2, 1) := by decide +kernel
theorem dX12_costOf_6 : decode cX12_costOf 6 = .ok (.if_icmp .ne 11, 3) := by decide +kernel
theorem dX12_costOf_9 : decode cX12_costOf 9 = .ok (.aload_n 0, 1) := by decide +kernel
theorem dX12_costOf_10 : decode cX12_costOf 10 = .ok (.iload_n 1, 1) := by decide +kernel
theorem dX12_costOf_11 : decode cX12_costOf 11 = .ok (.invokevirtual 239, 3) := by decide +kernel
theorem dX12_costOf_14 : decode cX12_costOf 14 = .ok (.goto 4, 3) := by decide +kernel
theorem dX12_costOf_17 : decode cX12_costOf 17 = .ok (.iconst 0, 1) := by decide +kernel
theorem dX12_costOf_18 : decode cX12_costOf 18 = .ok (.ireturn, 1) := by decide +kernel
theorem dX12_freeOf_0 : decode cX12_freeOf 0 = .ok (.aload_n 0, 1) := by decide +kernel
theorem dX12_freeOf_1 : decode cX12_freeOf 1 = .ok (.invokevirtual 227, 3) := by decide +kernel
theorem dX12_freeOf_4 : decode cX12_freeOf 4 = .ok (.aload_n 0, 1) := by decide +kernel
theorem dX12_freeOf_5 : decode cX12_freeOf 5 = .ok (.iload_n 1, 1) := by decide +kernel
theorem dX12_freeOf_6 : decode cX12_freeOf 6 = .ok (.iconst 1, 1) := by decide +kernel
theorem dX12_freeOf_7 : decode cX12_freeOf 7 = .ok (.invokevirtual 245, 3) := by decide +kernel
theorem dX12_freeOf_10 : decode cX12_freeOf 10 = .ok (.iload_n 2, 1) := by decide +kernel
theorem dX12_freeOf_11 : decode cX12_freeOf 11 = .ok (.isub, 1) := by decide +kernel
theorem dX12_freeOf_12 : decode cX12_freeOf 12 = .ok (.istore 4, 2) := by decide +kernel
theorem dX12_freeOf_14 : decode cX12_freeOf 14 = .ok (.aload_n 0, 1) := by decide +kernel
theorem dX12_freeOf_15 : decode cX12_freeOf 15 = .ok (.iload_n 1, 1) := by decide +kernel
theorem dX12_freeOf_16 : decode cX12_freeOf 16 = .ok (.iconst 0, 1) := by decide +kernel
theorem dX12_freeOf_17 : decode cX12_freeOf 17 = .ok (.invokevirtual 245, 3) := by decide +kernel
theorem dX12_freeOf_20 : decode cX12_freeOf 20 = .ok (.istore 5, 2) := by decide +kernel
theorem dX12_freeOf_22 : decode cX12_freeOf 22 = .ok (.iload 4, 2) := by decide +kernel
theorem dX12_freeOf_24 : decode cX12_freeOf 24 = .ok (.ifCond .gt 14, 3) := by decide +kernel
theorem dX12_freeOf_27 : decode cX12_freeOf 27 = .ok (.iload_n 3, 1) := by decide +kernel
theorem dX12_freeOf_28 : decode cX12_freeOf 28 = .ok (.iconst (-1), 1) := by decide +kernel
theorem dX12_freeOf_29 : decode cX12_freeOf 29 = .ok (.if_icmp .ne 7, 3) := by decide +kernel
theorem dX12_freeOf_32 : decode cX12_freeOf 32 = .ok (.iconst 0, 1) := by decide +kernel
theorem dX12_freeOf_33 : decode cX12_freeOf 33 = .ok (.goto 4, 3) := by decide +kernel
theorem dX12_freeOf_36 : decode cX12_freeOf 36 = .ok (.iconst (-1), 1) := by decide +kernel
theorem dX12_freeOf_37 : decode cX12_freeOf 37 = .ok (.ireturn, 1) := by decide +kernel
theorem dX12_freeOf_38 : decode cX12_freeOf 38 = .ok (.iconst 0, 1) := by decide +kernel
theorem dX12_freeOf_39 : decode cX12_freeOf 39 = .ok (.istore 6, 2) := by decide +kernel
theorem dX12_freeOf_41 : decode cX12_freeOf 41 = .ok (.iload 6, 2) := by decide +kernel
theorem dX12_freeOf_43 : decode cX12_freeOf 43 = .ok (.aload_n 0, 1) := by decide +kernel
theorem dX12_freeOf_44 : decode cX12_freeOf 44 = .ok (.getfield 126, 3) := by decide +kernel
theorem dX12_freeOf_47 : decode cX12_freeOf 47 = .ok (.if_icmp .ge 51, 3) := by decide +kernel
theorem dX12_freeOf_50 : decode cX12_freeOf 50 = .ok (.iload 5, 2) := by decide +kernel
theorem dX12_freeOf_52 : decode cX12_freeOf 52 = .ok (.iload 6, 2) := by decide +kernel
theorem dX12_freeOf_54 : decode cX12_freeOf 54 = .ok (.invokestatic 186, 3) := by decide +kernel
theorem dX12_freeOf_57 : decode cX12_freeOf 57 = .ok (.ifCond .eq 35, 3) := by decide +kernel
theorem dX12_freeOf_60 : decode cX12_freeOf 60 = .ok (.aload_n 0, 1) := by decide +kernel
theorem dX12_freeOf_61 : decode cX12_freeOf 61 = .ok (.iload 6, 2) := by decide +kernel
theorem dX12_freeOf_63 : decode cX12_freeOf 63 = .ok (.iload_n 1, 1) := by decide +kernel
theorem dX12_freeOf_64 : decode cX12_freeOf 64 = .ok (.invokevirtual 286, 3) := by decide +kernel
theorem dX12_freeOf_67 : decode cX12_freeOf 67 = .ok (.iload 4, 2) := by decide +kernel
theorem dX12_freeOf_69 : decode cX12_freeOf 69 = .ok (.if_icmp .lt 23, 3) := by decide +kernel
theorem dX12_freeOf_72 : decode cX12_freeOf 72 = .ok (.iload_n 3, 1) := by decide +kernel
theorem dX12_freeOf_73 : decode cX12_freeOf 73 = .ok (.iconst (-1), 1) := by decide +kernel
theorem dX12_freeOf_74 : decode cX12_freeOf 74 = .ok (.if_icmp .ne 7, 3) := by decide +kernel
theorem dX12_freeOf_77 : decode cX12_freeOf 77 = .ok (.iconst 1, 1) := by decide +kernel
theorem dX12_freeOf_78 : decode cX12_freeOf 78 = .ok (.goto 13, 3) := by decide +kernel
theorem dX12_freeOf_81 : decode cX12_freeOf 81 = .ok (.iload_n 3, 1) := by decide +kernel
theorem dX12_freeOf_82 : decode cX12_freeOf 82 = .ok (.ifCond .ne 8, 3) := by decide +kernel
theorem dX12_freeOf_85 : decode cX12_freeOf 85 = .ok (.iload 6, 2) := by decide +kernel
theorem dX12_freeOf_87 : decode cX12_freeOf 87 = .ok (.goto 4, 3) := by decide +kernel
theorem dX12_freeOf_90 : decode cX12_freeOf 90 = .ok (.iconst (-1), 1) := by decide +kernel
theorem dX12_freeOf_91 : decode cX12_freeOf 91 = .ok (.ireturn, 1) := by decide +kernel
theorem dX12_freeOf_92 : decode cX12_freeOf 92 = .ok (.iinc 6 1, 3) := by decide +kernel
theorem dX12_freeOf_95 : decode cX12_freeOf 95 = .ok (.goto (-54), 3) := by decide +kernel
theorem dX12_freeOf_98 : decode cX12_freeOf 98 = .ok (.iconst 0, 1) := by decide +kernel
theorem dX12_freeOf_99 : decode cX12_freeOf 99 = .ok (.istore 6, 2) := by decide +kernel
theorem dX12_freeOf_101 : decode cX12_freeOf 101 = .ok (.iload 6, 2) := by decide +kernel
theorem dX12_freeOf_103 : decode cX12_freeOf 103 = .ok (.aload_n 0, 1) := by decide +kernel
theorem dX12_freeOf_104 : decode cX12_freeOf 104 = .ok (.getfield 126, 3) := by decide +kernel
theorem dX12_freeOf_107 : decode cX12_freeOf 107 = .ok (.if_icmp .ge 91, 3) := by decide +kernel
theorem dX12_freeOf_110 : decode cX12_freeOf 110 = .ok (.iload 6, 2) := by decide +kernel
theorem dX12_freeOf_112 : decode cX12_freeOf 112 = .ok (.iconst 1, 1) := by decide +kernel
theorem dX12_freeOf_113 : decode cX12_freeOf 113 = .ok (.iadd, 1) := by decide +kernel
theorem dX12_freeOf_114 : decode cX12_freeOf 114 = .ok (.istore 7, 2) := by decide +kernel
theorem dX12_freeOf_116 : decode cX12_freeOf 116 = .ok (.iload 7, 2) := by decide +kernel
theorem dX12_freeOf_118 : decode cX12_freeOf 118 = .ok (.aload_n 0, 1) := by decide +kernel
theorem dX12_freeOf_119 : decode cX12_freeOf 119 = .ok (.getfield 126, 3) := by decide +kernel
theorem dX12_freeOf_122 : decode cX12_freeOf 122 = .ok (.if_icmp .ge 70, 3) := by decide +kernel
theorem dX12_freeOf_125 : decode cX12_freeOf 125 = .ok (.iload 5, 2) := by decide +kernel
theorem dX12_freeOf_127 : decode cX12_freeOf 127 = .ok (.iload 6, 2) := by decide +kernel
theorem dX12_freeOf_129 : decode cX12_freeOf 129 = .ok (.invokestatic 186, 3) := by decide +kernel
theorem dX12_freeOf_132 : decode cX12_freeOf 132 = .ok (.ifCond .eq 54, 3) := by decide +kernel
theorem dX12_freeOf_135 : decode cX12_freeOf 135 = .ok (.iload 5, 2) := by decide +kernel
theorem dX12_freeOf_137 : decode cX12_freeOf 137 = .ok (.iload 7, 2) := by decide +kernel
theorem dX12_freeOf_139 : decode cX12_freeOf 139 = .ok (.invokestatic 186, 3) := by decide +kernel
theorem dX12_freeOf_142 : decode cX12_freeOf 142 = .ok (.ifCond .eq 44, 3) := by decide +kernel
theorem dX12_freeOf_145 : decode cX12_freeOf 145 = .ok (.aload_n 0, 1) := by decide +kernel
theorem dX12_freeOf_146 : decode cX12_freeOf 146 = .ok (.iload 6, 2) := by decide +kernel
theorem dX12_freeOf_148 : decode cX12_freeOf 148 = .ok (.iload_n 1, 1) := by decide +kernel
theorem dX12_freeOf_149 : decode cX12_freeOf 149 = .ok (.invokevirtual 286, 3) := by decide +kernel
theorem dX12_freeOf_152 : decode cX12_freeOf 152 = .ok (.aload_n 0, 1) := by decide +kernel
theorem dX12_freeOf_153 : decode cX12_freeOf 153 = .ok (.iload 7, 2) := by decide +kernel
theorem dX12_freeOf_155 : decode cX12_freeOf 155 = .ok (.iload_n 1, 1) := by decide +kernel
theorem dX12_freeOf_156 : decode cX12_freeOf 156 = .ok (.invokevirtual 286, 3) := by decide +kernel
theorem dX12_freeOf_159 : decode cX12_freeOf 159 = .ok (.iadd, 1) := by decide +kernel
theorem dX12_freeOf_160 : decode cX12_freeOf 160 = .ok (.iload 4, 2) := by decide +kernel
theorem dX12_freeOf_162 : decode cX12_freeOf 162 = .ok (.if_icmp .lt 24, 3) := by decide +kernel
theorem dX12_freeOf_165 : decode cX12_freeOf 165 = .ok (.iload_n 3, 1) := by decide +kernel
theorem dX12_freeOf_166 : decode cX12_freeOf 166 = .ok (.iconst (-1), 1) := by decide +kernel
theorem dX12_freeOf_167 : decode cX12_freeOf 167 = .ok (.if_icmp .ne 7, 3) := by decide +kernel
theorem dX12_freeOf_170 : decode cX12_freeOf 170 = .ok (.iconst 2, 1) := by decide +kernel
theorem dX12_freeOf_171 : decode cX12_freeOf 171 = .ok (.goto 14, 3) := by decide +kernel
theorem dX12_freeOf_174 : decode cX12_freeOf 174 = .ok (.iload_n 3, 1) := by decide +kernel
theorem dX12_freeOf_175 : decode cX12_freeOf 175 = .ok (.ifCond .ne 8, 3) := by decide +kernel
theorem dX12_freeOf_178 : decode cX12_freeOf 178 = .ok (.iload 6, 2) := by decide +kernel
theorem dX12_freeOf_180 : decode cX12_freeOf 180 = .ok (.goto 5, 3) := by decide +kernel
theorem dX12_freeOf_183 : decode cX12_freeOf 183 = .ok (.iload 7, 2) := by decide +kernel
theorem dX12_freeOf_185 : decode cX12_freeOf 185 = .ok (.ireturn, 1) := by decide +kernel
theorem dX12_freeOf_186 : decode cX12_freeOf 186 = .ok (.iinc 7 1, 3) := by decide +kernel
theorem dX12_freeOf_189 : decode cX12_freeOf 189 = .ok (.goto (-73), 3) := by decide +kernel
theorem dX12_freeOf_192 : decode cX12_freeOf 192 = .ok (.iinc 6 1, 3) := by decide +kernel
theorem dX12_freeOf_195 : decode cX12_freeOf 195 = .ok (.goto (-94), 3) := by decide +kernel
theorem dX12_freeOf_198 : decode cX12_freeOf 198 = .ok (.iconst (-1), 1) := by decide +kernel
theorem dX12_freeOf_199 : decode cX12_freeOf 199 = .ok (.ireturn, 1) := by decide +kernel
theorem dX12_free_0 : decode cX12_free 0 = .ok (.aload_n 0, 1) := by decide +kernel
theorem dX12_free_1 : decode cX12_free 1 = .ok (.invokevirtual 230, 3) := by decide +kernel
theorem dX12_free_4 : decode cX12_free 4 = .ok (.iload_n 1, 1) := by decide +kernel
theorem dX12_free_5 : decode cX12_free 5 = .ok (.i2l, 1) := by decide +kernel
theorem dX12_free_6 : decode cX12_free 6 = .ok (.lconst 0, 1) := by decide +kernel
theorem dX12_free_7 : decode cX12_free 7 = .ok (.ldc2_w 83, 3) := by decide +kernel
theorem dX12_free_10 : decode cX12_free 10 = .ok (.invokestatic 76, 3) := by decide +kernel
theorem dX12_free_13 : decode cX12_free 13 = .ok (.ifCond .eq 37, 3) := by decide +kernel
theorem dX12_free_16 : decode cX12_free 16 = .ok (.iload_n 2, 1) := by decide +kernel
theorem dX12_free_17 : decode cX12_free 17 = .ok (.i2l, 1) := by decide +kernel
theorem dX12_free_18 : decode cX12_free 18 = .ok (.lconst 0, 1) := by decide +kernel
theorem dX12_free_19 : decode cX12_free 19 = .ok (.ldc2_w 289, 3) := by decide +kernel
theorem dX12_free_22 : decode cX12_free 22 = .ok (.invokestatic 76, 3) := by decide +kernel
theorem dX12_free_25 : decode cX12_free 25 = .ok (.ifCond .eq 25, 3) := by decide +kernel
theorem dX12_free_28 : decode cX12_free 28 = .ok (.iload_n 3, 1) := by decide +kernel
theorem dX12_free_29 : decode cX12_free 29 = .ok (.i2l, 1) := by decide +kernel
theorem dX12_free_30 : decode cX12_free 30 = .ok (.ldc2_w 278, 3) := by decide +kernel
theorem dX12_free_33 : decode cX12_free 33 = .ok (.lconst 1, 1) := by decide +kernel
theorem dX12_free_34 : decode cX12_free 34 = .ok (.invokestatic 76, 3) := by decide +kernel
theorem dX12_free_37 : decode cX12_free 37 = .ok (.ifCond .eq 13, 3) := by decide +kernel
theorem dX12_free_40 : decode cX12_free 40 = .ok (.aload_n 0, 1) := by decide +kernel
theorem dX12_free_41 : decode cX12_free 41 = .ok (.iload_n 1, 1) := by decide +kernel
theorem dX12_free_42 : decode cX12_free 42 = .ok (.iload_n 2, 1) := by decide +kernel
theorem dX12_free_43 : decode cX12_free 43 = .ok (.iload_n 3, 1) := by decide +kernel
theorem dX12_free_44 : decode cX12_free 44 = .ok (.invokevirtual 291, 3) := by decide +kernel
theorem dX12_free_47 : decode cX12_free 47 = .ok (.goto 5, 3) := by decide +kernel
theorem dX12_free_50 : decode cX12_free 50 = .ok (.bipush (-2), 2) := by decide +kernel
theorem dX12_free_52 : decode cX12_free 52 = .ok (.ireturn, 1) := by decide +kernel
theorem dX12_seen_0 : decode cX12_seen 0 = .ok (.iload_n 1, 1) := by decide +kernel
theorem dX12_seen_1 : decode cX12_seen 1 = .ok (.i2l, 1) := by decide +kernel
theorem dX12_seen_2 : decode cX12_seen 2 = .ok (.lconst 0, 1) := by decide +kernel
theorem dX12_seen_3 : decode cX12_seen 3 = .ok (.ldc2_w 294, 3) := by decide +kernel
theorem dX12_seen_6 : decode cX12_seen 6 = .ok (.invokestatic 76, 3) := by decide +kernel
theorem dX12_seen_9 : decode cX12_seen 9 = .ok (.ifCond .eq 15, 3) := by decide +kernel
theorem dX12_seen_12 : decode cX12_seen 12 = .ok (.iload_n 2, 1) := by decide +kernel
theorem dX12_seen_13 : decode cX12_seen 13 = .ok (.i2l, 1) := by decide +kernel
theorem dX12_seen_14 : decode cX12_seen 14 = .ok (.lconst 0, 1) := by decide +kernel
theorem dX12_seen_15 : decode cX12_seen 15 = .ok (.ldc2_w 158, 3) := by decide +kernel
theorem dX12_seen_18 : decode cX12_seen 18 = .ok (.invokestatic 76, 3) := by decide +kernel
theorem dX12_seen_21 : decode cX12_seen 21 = .ok (.ifCond .ne 6, 3) := by decide +kernel
theorem dX12_seen_24 : decode cX12_seen 24 = .ok (.bipush (-2), 2) := by decide +kernel
theorem dX12_seen_26 : decode cX12_seen 26 = .ok (.ireturn, 1) := by decide +kernel
theorem dX12_seen_27 : decode cX12_seen 27 = .ok (.aload_n 0, 1) := by decide +kernel
theorem dX12_seen_28 : decode cX12_seen 28 = .ok (.getfield 296, 3) := by decide +kernel
theorem dX12_seen_31 : decode cX12_seen 31 = .ok (.bipush 8, 2) := by decide +kernel
theorem dX12_seen_33 : decode cX12_seen 33 = .ok (.if_icmp .ne 6, 3) := by decide +kernel
theorem dX12_seen_36 : decode cX12_seen 36 = .ok (.bipush (-4), 2) := by decide +kernel
theorem dX12_seen_38 : decode cX12_seen 38 = .ok (.ireturn, 1) := by decide +kernel
theorem dX12_seen_39 : decode cX12_seen 39 = .ok (.aload_n 0, 1) := by decide +kernel
theorem dX12_seen_40 : decode cX12_seen 40 = .ok (.getfield 61, 3) := by decide +kernel
theorem dX12_seen_43 : decode cX12_seen 43 = .ok (.iconst 2, 1) := by decide +kernel
theorem dX12_seen_44 : decode cX12_seen 44 = .ok (.aload_n 0, 1) := by decide +kernel
theorem dX12_seen_45 : decode cX12_seen 45 = .ok (.getfield 296, 3) := by decide +kernel
theorem dX12_seen_48 : decode cX12_seen 48 = .ok (.imul, 1) := by decide +kernel
theorem dX12_seen_49 : decode cX12_seen 49 = .ok (.iload_n 1, 1) := by decide +kernel
theorem dX12_seen_50 : decode cX12_seen 50 = .ok (.iastore, 1) := by decide +kernel
theorem dX12_seen_51 : decode cX12_seen 51 = .ok (.aload_n 0, 1) := by decide +kernel
theorem dX12_seen_52 : decode cX12_seen 52 = .ok (.getfield 61, 3) := by decide +kernel
theorem dX12_seen_55 : decode cX12_seen 55 = .ok (.iconst 2, 1) := by decide +kernel
theorem dX12_seen_56 : decode cX12_seen 56 = .ok (.aload_n 0, 1) := by decide +kernel
theorem dX12_seen_57 : decode cX12_seen 57 = .ok (.getfield 296, 3) := by decide +kernel
theorem dX12_seen_60 : decode cX12_seen 60 = .ok (.imul, 1) := by decide +kernel
theorem dX12_seen_61 : decode cX12_seen 61 = .ok (.iconst 1, 1) := by decide +kernel
theorem dX12_seen_62 : decode cX12_seen 62 = .ok (.iadd, 1) := by decide +kernel
theorem dX12_seen_63 : decode cX12_seen 63 = .ok (.iload_n 2, 1) := by decide +kernel
theorem dX12_seen_64 : decode cX12_seen 64 = .ok (.iastore, 1) := by decide +kernel
theorem dX12_seen_65 : decode cX12_seen 65 = .ok (.aload_n 0, 1) := by decide +kernel
theorem dX12_seen_66 : decode cX12_seen 66 = .ok (.dup, 1) := by decide +kernel
theorem dX12_seen_67 : decode cX12_seen 67 = .ok (.getfield 296, 3) := by decide +kernel
theorem dX12_seen_70 : decode cX12_seen 70 = .ok (.iconst 1, 1) := by decide +kernel
theorem dX12_seen_71 : decode cX12_seen 71 = .ok (.iadd, 1) := by decide +kernel
theorem dX12_seen_72 : decode cX12_seen 72 = .ok (.putfield 296, 3) := by decide +kernel
theorem dX12_seen_75 : decode cX12_seen 75 = .ok (.aload_n 0, 1) := by decide +kernel
theorem dX12_seen_76 : decode cX12_seen 76 = .ok (.getfield 296, 3) := by decide +kernel
theorem dX12_seen_79 : decode cX12_seen 79 = .ok (.ireturn, 1) := by decide +kernel
theorem dX12_forget_0 : decode cX12_forget 0 = .ok (.aload_n 0, 1) := by decide +kernel
theorem dX12_forget_1 : decode cX12_forget 1 = .ok (.getfield 296, 3) := by decide +kernel
theorem dX12_forget_4 : decode cX12_forget 4 = .ok (.istore_n 1, 1) := by decide +kernel
theorem dX12_forget_5 : decode cX12_forget 5 = .ok (.aload_n 0, 1) := by decide +kernel
theorem dX12_forget_6 : decode cX12_forget 6 = .ok (.iconst 0, 1) := by decide +kernel
theorem dX12_forget_7 : decode cX12_forget 7 = .ok (.putfield 296, 3) := by decide +kernel
theorem dX12_forget_10 : decode cX12_forget 10 = .ok (.iload_n 1, 1) := by decide +kernel
theorem dX12_forget_11 : decode cX12_forget 11 = .ok (.ireturn, 1) := by decide +kernel
theorem dX12_isSeen_0 : decode cX12_isSeen 0 = .ok (.aload_n 0, 1) := by decide +kernel
theorem dX12_isSeen_1 : decode cX12_isSeen 1 = .ok (.invokevirtual 227, 3) := by decide +kernel
theorem dX12_isSeen_4 : decode cX12_isSeen 4 = .ok (.iconst 1, 1) := by decide +kernel
theorem dX12_isSeen_5 : decode cX12_isSeen 5 = .ok (.istore_n 1, 1) := by decide +kernel
theorem dX12_isSeen_6 : decode cX12_isSeen 6 = .ok (.iconst 0, 1) := by decide +kernel
theorem dX12_isSeen_7 : decode cX12_isSeen 7 = .ok (.istore_n 2, 1) := by decide +kernel
theorem dX12_isSeen_8 : decode cX12_isSeen 8 = .ok (.iload_n 2, 1) := by decide +kernel
theorem dX12_isSeen_9 : decode cX12_isSeen 9 = .ok (.aload_n 0, 1) := by decide +kernel
theorem dX12_isSeen_10 : decode cX12_isSeen 10 = .ok (.getfield 296, 3) := by decide +kernel
theorem dX12_isSeen_13 : decode cX12_isSeen 13 = .ok (.if_icmp .ge 72, 3) := by decide +kernel
theorem dX12_isSeen_16 : decode cX12_isSeen 16 = .ok (.iload_n 1, 1) := by decide +kernel
theorem dX12_isSeen_17 : decode cX12_isSeen 17 = .ok (.ifCond .eq 68, 3) := by decide +kernel
theorem dX12_isSeen_20 : decode cX12_isSeen 20 = .ok (.aload_n 0, 1) := by decide +kernel
theorem dX12_isSeen_21 : decode cX12_isSeen 21 = .ok (.getfield 61, 3) := by decide +kernel
theorem dX12_isSeen_24 : decode cX12_isSeen 24 = .ok (.iconst 2, 1) := by decide +kernel
theorem dX12_isSeen_25 : decode cX12_isSeen 25 = .ok (.iload_n 2, 1) := by decide +kernel
theorem dX12_isSeen_26 : decode cX12_isSeen 26 = .ok (.imul, 1) := by decide +kernel
theorem dX12_isSeen_27 : decode cX12_isSeen 27 = .ok (.iaload, 1) := by decide +kernel
theorem dX12_isSeen_28 : decode cX12_isSeen 28 = .ok (.istore_n 3, 1) := by decide +kernel
theorem dX12_isSeen_29 : decode cX12_isSeen 29 = .ok (.aload_n 0, 1) := by decide +kernel
theorem dX12_isSeen_30 : decode cX12_isSeen 30 = .ok (.iload_n 3, 1) := by decide +kernel
theorem dX12_isSeen_31 : decode cX12_isSeen 31 = .ok (.invokevirtual 152, 3) := by decide +kernel
theorem dX12_isSeen_34 : decode cX12_isSeen 34 = .ok (.ifCond .eq 43, 3) := by decide +kernel
theorem dX12_isSeen_37 : decode cX12_isSeen 37 = .ok (.aload_n 0, 1) := by decide +kernel
theorem dX12_isSeen_38 : decode cX12_isSeen 38 = .ok (.iload_n 3, 1) := by decide +kernel
theorem dX12_isSeen_39 : decode cX12_isSeen 39 = .ok (.invokevirtual 233, 3) := by decide +kernel
theorem dX12_isSeen_42 : decode cX12_isSeen 42 = .ok (.aload_n 0, 1) := by decide +kernel
theorem dX12_isSeen_43 : decode cX12_isSeen 43 = .ok (.getfield 61, 3) := by decide +kernel
theorem dX12_isSeen_46 : decode cX12_isSeen 46 = .ok (.iconst 2, 1) := by decide +kernel
theorem dX12_isSeen_47 : decode cX12_isSeen 47 = .ok (.iload_n 2, 1) := by decide +kernel
theorem dX12_isSeen_48 : decode cX12_isSeen 48 = .ok (.imul, 1) := by decide +kernel
theorem dX12_isSeen_49 : decode cX12_isSeen 49 = .ok (.iconst 1, 1) := by decide +kernel
theorem dX12_isSeen_50 : decode cX12_isSeen 50 = .ok (.iadd, 1) := by decide +kernel
theorem dX12_isSeen_51 : decode cX12_isSeen 51 = .ok (.iaload, 1) := by decide +kernel
theorem dX12_isSeen_52 : decode cX12_isSeen 52 = .ok (.iconst 4, 1) := by decide +kernel
theorem dX12_isSeen_53 : decode cX12_isSeen 53 = .ok (.if_icmp .ne 7, 3) := by decide +kernel
theorem dX12_isSeen_56 : decode cX12_isSeen 56 = .ok (.iconst (-1), 1) := by decide +kernel
theorem dX12_isSeen_57 : decode cX12_isSeen 57 = .ok (.goto 13, 3) := by decide +kernel
theorem dX12_isSeen_60 : decode cX12_isSeen 60 = .ok (.aload_n 0, 1) := by decide +kernel
theorem dX12_isSeen_61 : decode cX12_isSeen 61 = .ok (.getfield 61, 3) := by decide +kernel
theorem dX12_isSeen_64 : decode cX12_isSeen 64 = .ok (.iconst 2, 1) := by decide +kernel
theorem dX12_isSeen_65 : decode cX12_isSeen 65 = .ok (.iload_n 2, 1) := by decide +kernel
theorem dX12_isSeen_66 : decode cX12_isSeen 66 = .ok (.imul, 1) := by decide +kernel
theorem dX12_isSeen_67 : decode cX12_isSeen 67 = .ok (.iconst 1, 1) := by decide +kernel
theorem dX12_isSeen_68 : decode cX12_isSeen 68 = .ok (.iadd, 1) := by decide +kernel
theorem dX12_isSeen_69 : decode cX12_isSeen 69 = .ok (.iaload, 1) := by decide +kernel
theorem dX12_isSeen_70 : decode cX12_isSeen 70 = .ok (.if_icmp .ne 7, 3) := by decide +kernel
theorem dX12_isSeen_73 : decode cX12_isSeen 73 = .ok (.iconst 1, 1) := by decide +kernel
theorem dX12_isSeen_74 : decode cX12_isSeen 74 = .ok (.goto 4, 3) := by decide +kernel
theorem dX12_isSeen_77 : decode cX12_isSeen 77 = .ok (.iconst 0, 1) := by decide +kernel
theorem dX12_isSeen_78 : decode cX12_isSeen 78 = .ok (.istore_n 1, 1) := by decide +kernel
theorem dX12_isSeen_79 : decode cX12_isSeen 79 = .ok (.iinc 2 1, 3) := by decide +kernel
theorem dX12_isSeen_82 : decode cX12_isSeen 82 = .ok (.goto (-74), 3) := by decide +kernel
theorem dX12_isSeen_85 : decode cX12_isSeen 85 = .ok (.iload_n 1, 1) := by decide +kernel
theorem dX12_isSeen_86 : decode cX12_isSeen 86 = .ok (.ireturn, 1) := by decide +kernel
theorem dX12_neverNow_0 : decode cX12_neverNow 0 = .ok (.iconst 0, 1) := by decide +kernel
theorem dX12_neverNow_1 : decode cX12_neverNow 1 = .ok (.istore_n 1, 1) := by decide +kernel
theorem dX12_neverNow_2 : decode cX12_neverNow 2 = .ok (.iconst 0, 1) := by decide +kernel
theorem dX12_neverNow_3 : decode cX12_neverNow 3 = .ok (.istore_n 2, 1) := by decide +kernel
theorem dX12_neverNow_4 : decode cX12_neverNow 4 = .ok (.iload_n 2, 1) := by decide +kernel
theorem dX12_neverNow_5 : decode cX12_neverNow 5 = .ok (.aload_n 0, 1) := by decide +kernel
theorem dX12_neverNow_6 : decode cX12_neverNow 6 = .ok (.getfield 160, 3) := by decide +kernel
theorem dX12_neverNow_9 : decode cX12_neverNow 9 = .ok (.if_icmp .ge 33, 3) := by decide +kernel
theorem dX12_neverNow_12 : decode cX12_neverNow 12 = .ok (.aload_n 0, 1) := by decide +kernel
theorem dX12_neverNow_13 : decode cX12_neverNow 13 = .ok (.iconst 1, 1) := by decide +kernel
theorem dX12_neverNow_14 : decode cX12_neverNow 14 = .ok (.iload_n 2, 1) := by decide +kernel
theorem dX12_neverNow_15 : decode cX12_neverNow 15 = .ok (.ishl, 1) := by decide +kernel
theorem dX12_neverNow_16 : decode cX12_neverNow 16 = .ok (.putfield 205, 3) := by decide +kernel
theorem dX12_neverNow_19 : decode cX12_neverNow 19 = .ok (.iload_n 1, 1) := by decide +kernel
theorem dX12_neverNow_20 : decode cX12_neverNow 20 = .ok (.aload_n 0, 1) := by decide +kernel
theorem dX12_neverNow_21 : decode cX12_neverNow 21 = .ok (.invokevirtual 299, 3) := by decide +kernel
theorem dX12_neverNow_24 : decode cX12_neverNow 24 = .ok (.ifCond .eq 9, 3) := by decide +kernel
theorem dX12_neverNow_27 : decode cX12_neverNow 27 = .ok (.iconst 1, 1) := by decide +kernel
theorem dX12_neverNow_28 : decode cX12_neverNow 28 = .ok (.iload_n 2, 1) := by decide +kernel
theorem dX12_neverNow_29 : decode cX12_neverNow 29 = .ok (.ishl, 1) := by decide +kernel
theorem dX12_neverNow_30 : decode cX12_neverNow 30 = .ok (.goto 4, 3) := by decide +kernel
theorem dX12_neverNow_33 : decode cX12_neverNow 33 = .ok (.iconst 0, 1) := by decide +kernel
theorem dX12_neverNow_34 : decode cX12_neverNow 34 = .ok (.ior, 1) := by decide +kernel
theorem dX12_neverNow_35 : decode cX12_neverNow 35 = .ok (.istore_n 1, 1) := by decide +kernel
theorem dX12_neverNow_36 : decode cX12_neverNow 36 = .ok (.iinc 2 1, 3) := by decide +kernel
theorem dX12_neverNow_39 : decode cX12_neverNow 39 = .ok (.goto (-35), 3) := by decide +kernel
theorem dX12_neverNow_42 : decode cX12_neverNow 42 = .ok (.aload_n 0, 1) := by decide +kernel
theorem dX12_neverNow_43 : decode cX12_neverNow 43 = .ok (.iconst 0, 1) := by decide +kernel
theorem dX12_neverNow_44 : decode cX12_neverNow 44 = .ok (.putfield 205, 3) := by decide +kernel
theorem dX12_neverNow_47 : decode cX12_neverNow 47 = .ok (.iload_n 1, 1) := by decide +kernel
theorem dX12_neverNow_48 : decode cX12_neverNow 48 = .ok (.ireturn, 1) := by decide +kernel
theorem dX12_never_0 : decode cX12_never 0 = .ok (.aload_n 0, 1) := by decide +kernel
theorem dX12_never_1 : decode cX12_never 1 = .ok (.invokevirtual 230, 3) := by decide +kernel
theorem dX12_never_4 : decode cX12_never 4 = .ok (.aload_n 0, 1) := by decide +kernel
theorem dX12_never_5 : decode cX12_never 5 = .ok (.invokevirtual 303, 3) := by decide +kernel
theorem dX12_never_8 : decode cX12_never 8 = .ok (.ireturn, 1) := by decide +kernel
theorem dX12_whenceOf_0 : decode cX12_whenceOf 0 = .ok (.aload_n 0, 1) := by decide +kernel
theorem dX12_whenceOf_1 : decode cX12_whenceOf 1 = .ok (.getfield 37, 3) := by decide +kernel
theorem dX12_whenceOf_4 : decode cX12_whenceOf 4 = .ok (.iconst 5, 1) := by decide +kernel
theorem dX12_whenceOf_5 : decode cX12_whenceOf 5 = .ok (.iload_n 1, 1) := by decide +kernel
theorem dX12_whenceOf_6 : decode cX12_whenceOf 6 = .ok (.imul, 1) := by decide +kernel
theorem dX12_whenceOf_7 : decode cX12_whenceOf 7 = .ok (.iconst 1, 1) := by decide +kernel
theorem dX12_whenceOf_8 : decode cX12_whenceOf 8 = .ok (.iadd, 1) := by decide +kernel
theorem dX12_whenceOf_9 : decode cX12_whenceOf 9 = .ok (.iaload, 1) := by decide +kernel
theorem dX12_whenceOf_10 : decode cX12_whenceOf 10 = .ok (.istore_n 3, 1) := by decide +kernel
theorem dX12_whenceOf_11 : decode cX12_whenceOf 11 = .ok (.iconst 0, 1) := by decide +kernel
theorem dX12_whenceOf_12 : decode cX12_whenceOf 12 = .ok (.istore 4, 2) := by decide +kernel
theorem dX12_whenceOf_14 : decode cX12_whenceOf 14 = .ok (.iconst (-1), 1) := by decide +kernel
theorem dX12_whenceOf_15 : decode cX12_whenceOf 15 = .ok (.istore 5, 2) := by decide +kernel
theorem dX12_whenceOf_17 : decode cX12_whenceOf 17 = .ok (.iconst 0, 1) := by decide +kernel
theorem dX12_whenceOf_18 : decode cX12_whenceOf 18 = .ok (.istore 6, 2) := by decide +kernel
theorem dX12_whenceOf_20 : decode cX12_whenceOf 20 = .ok (.iload 6, 2) := by decide +kernel
theorem dX12_whenceOf_22 : decode cX12_whenceOf 22 = .ok (.aload_n 0, 1) := by decide +kernel
theorem dX12_whenceOf_23 : decode cX12_whenceOf 23 = .ok (.getfield 109, 3) := by decide +kernel
theorem dX12_whenceOf_26 : decode cX12_whenceOf 26 = .ok (.if_icmp .ge 62, 3) := by decide +kernel
theorem dX12_whenceOf_29 : decode cX12_whenceOf 29 = .ok (.aload_n 0, 1) := by decide +kernel
theorem dX12_whenceOf_30 : decode cX12_whenceOf 30 = .ok (.getfield 37, 3) := by decide +kernel
theorem dX12_whenceOf_33 : decode cX12_whenceOf 33 = .ok (.iconst 5, 1) := by decide +kernel
theorem dX12_whenceOf_34 : decode cX12_whenceOf 34 = .ok (.iload_n 1, 1) := by decide +kernel
theorem dX12_whenceOf_35 : decode cX12_whenceOf 35 = .ok (.imul, 1) := by decide +kernel
theorem dX12_whenceOf_36 : decode cX12_whenceOf 36 = .ok (.iconst 1, 1) := by decide +kernel
theorem dX12_whenceOf_37 : decode cX12_whenceOf 37 = .ok (.iadd, 1) := by decide +kernel
theorem dX12_whenceOf_38 : decode cX12_whenceOf 38 = .ok (.iload 6, 2) := by decide +kernel
theorem dX12_whenceOf_40 : decode cX12_whenceOf 40 = .ok (.iastore, 1) := by decide +kernel
theorem dX12_whenceOf_41 : decode cX12_whenceOf 41 = .ok (.aload_n 0, 1) := by decide +kernel
theorem dX12_whenceOf_42 : decode cX12_whenceOf 42 = .ok (.invokevirtual 299, 3) := by decide +kernel
theorem dX12_whenceOf_45 : decode cX12_whenceOf 45 = .ok (.istore 7, 2) := by decide +kernel
theorem dX12_whenceOf_47 : decode cX12_whenceOf 47 = .ok (.iload 7, 2) := by decide +kernel
theorem dX12_whenceOf_49 : decode cX12_whenceOf 49 = .ok (.ifCond .eq 14, 3) := by decide +kernel
theorem dX12_whenceOf_52 : decode cX12_whenceOf 52 = .ok (.iload 4, 2) := by decide +kernel
theorem dX12_whenceOf_54 : decode cX12_whenceOf 54 = .ok (.iload_n 2, 1) := by decide +kernel
theorem dX12_whenceOf_55 : decode cX12_whenceOf 55 = .ok (.if_icmp .ne 8, 3) := by decide +kernel
theorem dX12_whenceOf_58 : decode cX12_whenceOf 58 = .ok (.iload 6, 2) := by decide +kernel
theorem dX12_whenceOf_60 : decode cX12_whenceOf 60 = .ok (.goto 5, 3) := by decide +kernel
theorem dX12_whenceOf_63 : decode cX12_whenceOf 63 = .ok (.iload 5, 2) := by decide +kernel
theorem dX12_whenceOf_65 : decode cX12_whenceOf 65 = .ok (.istore 5, 2) := by decide +kernel
theorem dX12_whenceOf_67 : decode cX12_whenceOf 67 = .ok (.iload 4, 2) := by decide +kernel
theorem dX12_whenceOf_69 : decode cX12_whenceOf 69 = .ok (.iload 7, 2) := by decide +kernel
theorem dX12_whenceOf_71 : decode cX12_whenceOf 71 = .ok (.ifCond .eq 7, 3) := by decide +kernel
theorem dX12_whenceOf_74 : decode cX12_whenceOf 74 = .ok (.iconst 1, 1) := by decide +kernel
theorem dX12_whenceOf_75 : decode cX12_whenceOf 75 = .ok (.goto 4, 3) := by decide +kernel
theorem dX12_whenceOf_78 : decode cX12_whenceOf 78 = .ok (.iconst 0, 1) := by decide +kernel
theorem dX12_whenceOf_79 : decode cX12_whenceOf 79 = .ok (.iadd, 1) := by decide +kernel
theorem dX12_whenceOf_80 : decode cX12_whenceOf 80 = .ok (.istore 4, 2) := by decide +kernel
theorem dX12_whenceOf_82 : decode cX12_whenceOf 82 = .ok (.iinc 6 1, 3) := by decide +kernel
theorem dX12_whenceOf_85 : decode cX12_whenceOf 85 = .ok (.goto (-65), 3) := by decide +kernel
theorem dX12_whenceOf_88 : decode cX12_whenceOf 88 = .ok (.aload_n 0, 1) := by decide +kernel
theorem dX12_whenceOf_89 : decode cX12_whenceOf 89 = .ok (.getfield 37, 3) := by decide +kernel
theorem dX12_whenceOf_92 : decode cX12_whenceOf 92 = .ok (.iconst 5, 1) := by decide +kernel
theorem dX12_whenceOf_93 : decode cX12_whenceOf 93 = .ok (.iload_n 1, 1) := by decide +kernel
theorem dX12_whenceOf_94 : decode cX12_whenceOf 94 = .ok (.imul, 1) := by decide +kernel
theorem dX12_whenceOf_95 : decode cX12_whenceOf 95 = .ok (.iconst 1, 1) := by decide +kernel
theorem dX12_whenceOf_96 : decode cX12_whenceOf 96 = .ok (.iadd, 1) := by decide +kernel
theorem dX12_whenceOf_97 : decode cX12_whenceOf 97 = .ok (.iload_n 3, 1) := by decide +kernel
theorem dX12_whenceOf_98 : decode cX12_whenceOf 98 = .ok (.iastore, 1) := by decide +kernel
theorem dX12_whenceOf_99 : decode cX12_whenceOf 99 = .ok (.iload_n 2, 1) := by decide +kernel
theorem dX12_whenceOf_100 : decode cX12_whenceOf 100 = .ok (.iconst (-1), 1) := by decide +kernel
theorem dX12_whenceOf_101 : decode cX12_whenceOf 101 = .ok (.if_icmp .ne 8, 3) := by decide +kernel
theorem dX12_whenceOf_104 : decode cX12_whenceOf 104 = .ok (.iload 4, 2) := by decide +kernel
theorem dX12_whenceOf_106 : decode cX12_whenceOf 106 = .ok (.goto 5, 3) := by decide +kernel
theorem dX12_whenceOf_109 : decode cX12_whenceOf 109 = .ok (.iload 5, 2) := by decide +kernel
theorem dX12_whenceOf_111 : decode cX12_whenceOf 111 = .ok (.ireturn, 1) := by decide +kernel
theorem dX12_whence_0 : decode cX12_whence 0 = .ok (.aload_n 0, 1) := by decide +kernel
theorem dX12_whence_1 : decode cX12_whence 1 = .ok (.invokevirtual 230, 3) := by decide +kernel
theorem dX12_whence_4 : decode cX12_whence 4 = .ok (.aload_n 0, 1) := by decide +kernel
theorem dX12_whence_5 : decode cX12_whence 5 = .ok (.iload_n 1, 1) := by decide +kernel
theorem dX12_whence_6 : decode cX12_whence 6 = .ok (.invokevirtual 169, 3) := by decide +kernel
theorem dX12_whence_9 : decode cX12_whence 9 = .ok (.ifCond .eq 26, 3) := by decide +kernel
theorem dX12_whence_12 : decode cX12_whence 12 = .ok (.iload_n 2, 1) := by decide +kernel
theorem dX12_whence_13 : decode cX12_whence 13 = .ok (.i2l, 1) := by decide +kernel
theorem dX12_whence_14 : decode cX12_whence 14 = .ok (.ldc2_w 278, 3) := by decide +kernel
theorem dX12_whence_17 : decode cX12_whence 17 = .ok (.ldc2_w 150, 3) := by decide +kernel
theorem dX12_whence_20 : decode cX12_whence 20 = .ok (.invokestatic 76, 3) := by decide +kernel
theorem dX12_whence_23 : decode cX12_whence 23 = .ok (.ifCond .eq 12, 3) := by decide +kernel
theorem dX12_whence_26 : decode cX12_whence 26 = .ok (.aload_n 0, 1) := by decide +kernel
theorem dX12_whence_27 : decode cX12_whence 27 = .ok (.iload_n 1, 1) := by decide +kernel
theorem dX12_whence_28 : decode cX12_whence 28 = .ok (.iload_n 2, 1) := by decide +kernel
theorem dX12_whence_29 : decode cX12_whence 29 = .ok (.invokevirtual 306, 3) := by decide +kernel
theorem dX12_whence_32 : decode cX12_whence 32 = .ok (.goto 5, 3) := by decide +kernel
theorem dX12_whence_35 : decode cX12_whence 35 = .ok (.bipush (-2), 2) := by decide +kernel
theorem dX12_whence_37 : decode cX12_whence 37 = .ok (.ireturn, 1) := by decide +kernel
theorem dX12_pacesNow_0 : decode cX12_pacesNow 0 = .ok (.aload_n 0, 1) := by decide +kernel
theorem dX12_pacesNow_1 : decode cX12_pacesNow 1 = .ok (.getfield 70, 3) := by decide +kernel
theorem dX12_pacesNow_4 : decode cX12_pacesNow 4 = .ok (.istore_n 1, 1) := by decide +kernel
theorem dX12_pacesNow_5 : decode cX12_pacesNow 5 = .ok (.iconst 0, 1) := by decide +kernel
theorem dX12_pacesNow_6 : decode cX12_pacesNow 6 = .ok (.istore_n 2, 1) := by decide +kernel
theorem dX12_pacesNow_7 : decode cX12_pacesNow 7 = .ok (.iconst 1, 1) := by decide +kernel
theorem dX12_pacesNow_8 : decode cX12_pacesNow 8 = .ok (.istore_n 3, 1) := by decide +kernel
theorem dX12_pacesNow_9 : decode cX12_pacesNow 9 = .ok (.iload_n 3, 1) := by decide +kernel
theorem dX12_pacesNow_10 : decode cX12_pacesNow 10 = .ok (.iconst 5, 1) := by decide +kernel
theorem dX12_pacesNow_11 : decode cX12_pacesNow 11 = .ok (.if_icmp .ge 31, 3) := by decide +kernel
theorem dX12_pacesNow_14 : decode cX12_pacesNow 14 = .ok (.aload_n 0, 1) := by decide +kernel
theorem dX12_pacesNow_15 : decode cX12_pacesNow 15 = .ok (.iload_n 3, 1) := by decide +kernel
theorem dX12_pacesNow_16 : decode cX12_pacesNow 16 = .ok (.putfield 70, 3) := by decide +kernel
theorem dX12_pacesNow_19 : decode cX12_pacesNow 19 = .ok (.iload_n 2, 1) := by decide +kernel
theorem dX12_pacesNow_20 : decode cX12_pacesNow 20 = .ok (.aload_n 0, 1) := by decide +kernel
theorem dX12_pacesNow_21 : decode cX12_pacesNow 21 = .ok (.invokevirtual 299, 3) := by decide +kernel
theorem dX12_pacesNow_24 : decode cX12_pacesNow 24 = .ok (.ifCond .eq 9, 3) := by decide +kernel
theorem dX12_pacesNow_27 : decode cX12_pacesNow 27 = .ok (.iconst 1, 1) := by decide +kernel
theorem dX12_pacesNow_28 : decode cX12_pacesNow 28 = .ok (.iload_n 3, 1) := by decide +kernel
theorem dX12_pacesNow_29 : decode cX12_pacesNow 29 = .ok (.ishl, 1) := by decide +kernel
theorem dX12_pacesNow_30 : decode cX12_pacesNow 30 = .ok (.goto 4, 3) := by decide +kernel
theorem dX12_pacesNow_33 : decode cX12_pacesNow 33 = .ok (.iconst 0, 1) := by decide +kernel
theorem dX12_pacesNow_34 : decode cX12_pacesNow 34 = .ok (.ior, 1) := by decide +kernel
theorem dX12_pacesNow_35 : decode cX12_pacesNow 35 = .ok (.istore_n 2, 1) := by decide +kernel
theorem dX12_pacesNow_36 : decode cX12_pacesNow 36 = .ok (.iinc 3 1, 3) := by decide +kernel
theorem dX12_pacesNow_39 : decode cX12_pacesNow 39 = .ok (.goto (-30), 3) := by decide +kernel
theorem dX12_pacesNow_42 : decode cX12_pacesNow 42 = .ok (.aload_n 0, 1) := by decide +kernel
theorem dX12_pacesNow_43 : decode cX12_pacesNow 43 = .ok (.iload_n 1, 1) := by decide +kernel
theorem dX12_pacesNow_44 : decode cX12_pacesNow 44 = .ok (.putfield 70, 3) := by decide +kernel
theorem dX12_pacesNow_47 : decode cX12_pacesNow 47 = .ok (.iload_n 2, 1) := by decide +kernel
theorem dX12_pacesNow_48 : decode cX12_pacesNow 48 = .ok (.ireturn, 1) := by decide +kernel
theorem dX12_paces_0 : decode cX12_paces 0 = .ok (.aload_n 0, 1) := by decide +kernel
theorem dX12_paces_1 : decode cX12_paces 1 = .ok (.invokevirtual 230, 3) := by decide +kernel
theorem dX12_paces_4 : decode cX12_paces 4 = .ok (.aload_n 0, 1) := by decide +kernel
theorem dX12_paces_5 : decode cX12_paces 5 = .ok (.invokevirtual 309, 3) := by decide +kernel
theorem dX12_paces_8 : decode cX12_paces 8 = .ok (.ireturn, 1) := by decide +kernel
theorem dX12_askNow_0 : decode cX12_askNow 0 = .ok (.aload_n 0, 1) := by decide +kernel
theorem dX12_askNow_1 : decode cX12_askNow 1 = .ok (.invokevirtual 303, 3) := by decide +kernel
theorem dX12_askNow_4 : decode cX12_askNow 4 = .ok (.istore_n 1, 1) := by decide +kernel
theorem dX12_askNow_5 : decode cX12_askNow 5 = .ok (.iconst 0, 1) := by decide +kernel
theorem dX12_askNow_6 : decode cX12_askNow 6 = .ok (.istore_n 2, 1) := by decide +kernel
theorem dX12_askNow_7 : decode cX12_askNow 7 = .ok (.iload_n 2, 1) := by decide +kernel
theorem dX12_askNow_8 : decode cX12_askNow 8 = .ok (.bipush 40, 2) := by decide +kernel
theorem dX12_askNow_10 : decode cX12_askNow 10 = .ok (.if_icmp .ge 16, 3) := by decide +kernel
theorem dX12_askNow_13 : decode cX12_askNow 13 = .ok (.aload_n 0, 1) := by decide +kernel
theorem dX12_askNow_14 : decode cX12_askNow 14 = .ok (.getfield 64, 3) := by decide +kernel
theorem dX12_askNow_17 : decode cX12_askNow 17 = .ok (.iload_n 2, 1) := by decide +kernel
theorem dX12_askNow_18 : decode cX12_askNow 18 = .ok (.iconst 0, 1) := by decide +kernel
theorem dX12_askNow_19 : decode cX12_askNow 19 = .ok (.iastore, 1) := by decide +kernel
theorem dX12_askNow_20 : decode cX12_askNow 20 = .ok (.iinc 2 1, 3) := by decide +kernel
theorem dX12_askNow_23 : decode cX12_askNow 23 = .ok (.goto (-16), 3) := by decide +kernel
theorem dX12_askNow_26 : decode cX12_askNow 26 = .ok (.iconst 0, 1) := by decide +kernel
theorem dX12_askNow_27 : decode cX12_askNow 27 = .ok (.istore_n 2, 1) := by decide +kernel
theorem dX12_askNow_28 : decode cX12_askNow 28 = .ok (.iload_n 2, 1) := by decide +kernel
theorem dX12_askNow_29 : decode cX12_askNow 29 = .ok (.aload_n 0, 1) := by decide +kernel
theorem dX12_askNow_30 : decode cX12_askNow 30 = .ok (.getfield 160, 3) := by decide +kernel
theorem dX12_askNow_33 : decode cX12_askNow 33 = .ok (.if_icmp .ge 64, 3) := by decide +kernel
theorem dX12_askNow_36 : decode cX12_askNow 36 = .ok (.iload_n 1, 1) := by decide +kernel
theorem dX12_askNow_37 : decode cX12_askNow 37 = .ok (.iload_n 2, 1) := by decide +kernel
theorem dX12_askNow_38 : decode cX12_askNow 38 = .ok (.invokestatic 186, 3) := by decide +kernel
theorem dX12_askNow_41 : decode cX12_askNow 41 = .ok (.ifCond .eq 50, 3) := by decide +kernel
theorem dX12_askNow_44 : decode cX12_askNow 44 = .ok (.aload_n 0, 1) := by decide +kernel
theorem dX12_askNow_45 : decode cX12_askNow 45 = .ok (.iconst 1, 1) := by decide +kernel
theorem dX12_askNow_46 : decode cX12_askNow 46 = .ok (.iload_n 2, 1) := by decide +kernel
theorem dX12_askNow_47 : decode cX12_askNow 47 = .ok (.ishl, 1) := by decide +kernel
theorem dX12_askNow_48 : decode cX12_askNow 48 = .ok (.putfield 205, 3) := by decide +kernel
theorem dX12_askNow_51 : decode cX12_askNow 51 = .ok (.aload_n 0, 1) := by decide +kernel
theorem dX12_askNow_52 : decode cX12_askNow 52 = .ok (.invokevirtual 227, 3) := by decide +kernel
theorem dX12_askNow_55 : decode cX12_askNow 55 = .ok (.iconst 0, 1) := by decide +kernel
theorem dX12_askNow_56 : decode cX12_askNow 56 = .ok (.istore_n 3, 1) := by decide +kernel
theorem dX12_askNow_57 : decode cX12_askNow 57 = .ok (.iload_n 3, 1) := by decide +kernel
theorem dX12_askNow_58 : decode cX12_askNow 58 = .ok (.aload_n 0, 1) := by decide +kernel
theorem dX12_askNow_59 : decode cX12_askNow 59 = .ok (.getfield 126, 3) := by decide +kernel
theorem dX12_askNow_62 : decode cX12_askNow 62 = .ok (.if_icmp .ge 29, 3) := by decide +kernel
theorem dX12_askNow_65 : decode cX12_askNow 65 = .ok (.aload_n 0, 1) := by decide +kernel
theorem dX12_askNow_66 : decode cX12_askNow 66 = .ok (.getfield 64, 3) := by decide +kernel
theorem dX12_askNow_69 : decode cX12_askNow 69 = .ok (.iconst 5, 1) := by decide +kernel
theorem dX12_askNow_70 : decode cX12_askNow 70 = .ok (.iload_n 3, 1) := by decide +kernel
theorem dX12_askNow_71 : decode cX12_askNow 71 = .ok (.imul, 1) := by decide +kernel
theorem dX12_askNow_72 : decode cX12_askNow 72 = .ok (.aload_n 0, 1) := by decide +kernel
theorem dX12_askNow_73 : decode cX12_askNow 73 = .ok (.iload_n 3, 1) := by decide +kernel
theorem dX12_askNow_74 : decode cX12_askNow 74 = .ok (.invokevirtual 233, 3) := by decide +kernel
theorem dX12_askNow_77 : decode cX12_askNow 77 = .ok (.iadd, 1) := by decide +kernel
theorem dX12_askNow_78 : decode cX12_askNow 78 = .ok (.iconst 1, 1) := by decide +kernel
theorem dX12_askNow_79 : decode cX12_askNow 79 = .ok (.iadd, 1) := by decide +kernel
theorem dX12_askNow_80 : decode cX12_askNow 80 = .ok (.dup2, 1) := by decide +kernel
theorem dX12_askNow_81 : decode cX12_askNow 81 = .ok (.iaload, 1) := by decide +kernel
theorem dX12_askNow_82 : decode cX12_askNow 82 = .ok (.iconst 1, 1) := by decide +kernel
theorem dX12_askNow_83 : decode cX12_askNow 83 = .ok (.iadd, 1) := by decide +kernel
theorem dX12_askNow_84 : decode cX12_askNow 84 = .ok (.iastore, 1) := by decide +kernel
theorem dX12_askNow_85 : decode cX12_askNow 85 = .ok (.iinc 3 1, 3) := by decide +kernel
theorem dX12_askNow_88 : decode cX12_askNow 88 = .ok (.goto (-31), 3) := by decide +kernel
theorem dX12_askNow_91 : decode cX12_askNow 91 = .ok (.iinc 2 1, 3) := by decide +kernel
theorem dX12_askNow_94 : decode cX12_askNow 94 = .ok (.goto (-66), 3) := by decide +kernel
theorem dX12_askNow_97 : decode cX12_askNow 97 = .ok (.aload_n 0, 1) := by decide +kernel
theorem dX12_askNow_98 : decode cX12_askNow 98 = .ok (.iconst 0, 1) := by decide +kernel
theorem dX12_askNow_99 : decode cX12_askNow 99 = .ok (.putfield 205, 3) := by decide +kernel
theorem dX12_askNow_102 : decode cX12_askNow 102 = .ok (.iconst (-1), 1) := by decide +kernel
theorem dX12_askNow_103 : decode cX12_askNow 103 = .ok (.istore_n 2, 1) := by decide +kernel
theorem dX12_askNow_104 : decode cX12_askNow 104 = .ok (.iconst 0, 1) := by decide +kernel
theorem dX12_askNow_105 : decode cX12_askNow 105 = .ok (.istore_n 3, 1) := by decide +kernel
theorem dX12_askNow_106 : decode cX12_askNow 106 = .ok (.iconst 0, 1) := by decide +kernel
theorem dX12_askNow_107 : decode cX12_askNow 107 = .ok (.istore 4, 2) := by decide +kernel
theorem dX12_askNow_109 : decode cX12_askNow 109 = .ok (.iload 4, 2) := by decide +kernel
theorem dX12_askNow_111 : decode cX12_askNow 111 = .ok (.aload_n 0, 1) := by decide +kernel
theorem dX12_askNow_112 : decode cX12_askNow 112 = .ok (.getfield 126, 3) := by decide +kernel
theorem dX12_askNow_115 : decode cX12_askNow 115 = .ok (.if_icmp .ge 88, 3) := by decide +kernel
theorem dX12_askNow_118 : decode cX12_askNow 118 = .ok (.iconst 0, 1) := by decide +kernel
theorem dX12_askNow_119 : decode cX12_askNow 119 = .ok (.istore 5, 2) := by decide +kernel
theorem dX12_askNow_121 : decode cX12_askNow 121 = .ok (.iconst 0, 1) := by decide +kernel
theorem dX12_askNow_122 : decode cX12_askNow 122 = .ok (.istore 6, 2) := by decide +kernel
theorem dX12_askNow_124 : decode cX12_askNow 124 = .ok (.iload 6, 2) := by decide +kernel
theorem dX12_askNow_126 : decode cX12_askNow 126 = .ok (.iconst 5, 1) := by decide +kernel
theorem dX12_askNow_127 : decode cX12_askNow 127 = .ok (.if_icmp .ge 28, 3) := by decide +kernel
theorem dX12_askNow_130 : decode cX12_askNow 130 = .ok (.aload_n 0, 1) := by decide +kernel
theorem dX12_askNow_131 : decode cX12_askNow 131 = .ok (.getfield 64, 3) := by decide +kernel
theorem dX12_askNow_134 : decode cX12_askNow 134 = .ok (.iconst 5, 1) := by decide +kernel
theorem dX12_askNow_135 : decode cX12_askNow 135 = .ok (.iload 4, 2) := by decide +kernel
theorem dX12_askNow_137 : decode cX12_askNow 137 = .ok (.imul, 1) := by decide +kernel
theorem dX12_askNow_138 : decode cX12_askNow 138 = .ok (.iload 6, 2) := by decide +kernel
theorem dX12_askNow_140 : decode cX12_askNow 140 = .ok (.iadd, 1) := by decide +kernel
theorem dX12_askNow_141 : decode cX12_askNow 141 = .ok (.iaload, 1) := by decide +kernel
theorem dX12_askNow_142 : decode cX12_askNow 142 = .ok (.iload 5, 2) := by decide +kernel
theorem dX12_askNow_144 : decode cX12_askNow 144 = .ok (.invokestatic 254, 3) := by decide +kernel
theorem dX12_askNow_147 : decode cX12_askNow 147 = .ok (.istore 5, 2) := by decide +kernel
theorem dX12_askNow_149 : decode cX12_askNow 149 = .ok (.iinc 6 1, 3) := by decide +kernel
theorem dX12_askNow_152 : decode cX12_askNow 152 = .ok (.goto (-28), 3) := by decide +kernel
theorem dX12_askNow_155 : decode cX12_askNow 155 = .ok (.iload_n 2, 1) := by decide +kernel
theorem dX12_askNow_156 : decode cX12_askNow 156 = .ok (.iconst (-1), 1) := by decide +kernel
theorem dX12_askNow_157 : decode cX12_askNow 157 = .ok (.if_icmp .eq 9, 3) := by decide +kernel
theorem dX12_askNow_160 : decode cX12_askNow 160 = .ok (.iload 5, 2) := by decide +kernel
theorem dX12_askNow_162 : decode cX12_askNow 162 = .ok (.iload_n 3, 1) := by decide +kernel
theorem dX12_askNow_163 : decode cX12_askNow 163 = .ok (.if_icmp .ge 7, 3) := by decide +kernel
theorem dX12_askNow_166 : decode cX12_askNow 166 = .ok (.iconst 1, 1) := by decide +kernel
theorem dX12_askNow_167 : decode cX12_askNow 167 = .ok (.goto 4, 3) := by decide +kernel
theorem dX12_askNow_170 : decode cX12_askNow 170 = .ok (.iconst 0, 1) := by decide +kernel
theorem dX12_askNow_171 : decode cX12_askNow 171 = .ok (.istore 6, 2) := by decide +kernel
theorem dX12_askNow_173 : decode cX12_askNow 173 = .ok (.iload 6, 2) := by decide +kernel
theorem dX12_askNow_175 : decode cX12_askNow 175 = .ok (.ifCond .eq 8, 3) := by decide +kernel
theorem dX12_askNow_178 : decode cX12_askNow 178 = .ok (.iload 4, 2) := by decide +kernel
theorem dX12_askNow_180 : decode cX12_askNow 180 = .ok (.goto 4, 3) := by decide +kernel
theorem dX12_askNow_183 : decode cX12_askNow 183 = .ok (.iload_n 2, 1) := by decide +kernel
theorem dX12_askNow_184 : decode cX12_askNow 184 = .ok (.istore_n 2, 1) := by decide +kernel
theorem dX12_askNow_185 : decode cX12_askNow 185 = .ok (.iload 6, 2) := by decide +kernel
theorem dX12_askNow_187 : decode cX12_askNow 187 = .ok (.ifCond .eq 8, 3) := by decide +kernel
theorem dX12_askNow_190 : decode cX12_askNow 190 = .ok (.iload 5, 2) := by decide +kernel
theorem dX12_askNow_192 : decode cX12_askNow 192 = .ok (.goto 4, 3) := by decide +kernel
theorem dX12_askNow_195 : decode cX12_askNow 195 = .ok (.iload_n 3, 1) := by decide +kernel
theorem dX12_askNow_196 : decode cX12_askNow 196 = .ok (.istore_n 3, 1) := by decide +kernel
theorem dX12_askNow_197 : decode cX12_askNow 197 = .ok (.iinc 4 1, 3) := by decide +kernel
theorem dX12_askNow_200 : decode cX12_askNow 200 = .ok (.goto (-91), 3) := by decide +kernel
theorem dX12_askNow_203 : decode cX12_askNow 203 = .ok (.iload_n 2, 1) := by decide +kernel
theorem dX12_askNow_204 : decode cX12_askNow 204 = .ok (.ireturn, 1) := by decide +kernel
theorem dX12_ask_0 : decode cX12_ask 0 = .ok (.aload_n 0, 1) := by decide +kernel
theorem dX12_ask_1 : decode cX12_ask 1 = .ok (.invokevirtual 230, 3) := by decide +kernel
theorem dX12_ask_4 : decode cX12_ask 4 = .ok (.aload_n 0, 1) := by decide +kernel
theorem dX12_ask_5 : decode cX12_ask 5 = .ok (.invokevirtual 312, 3) := by decide +kernel
theorem dX12_ask_8 : decode cX12_ask 8 = .ok (.ireturn, 1) := by decide +kernel
theorem dX12_stillOf_0 : decode cX12_stillOf 0 = .ok (.lconst 0, 1) := by decide +kernel
theorem dX12_stillOf_1 : decode cX12_stillOf 1 = .ok (.lstore 6, 2) := by decide +kernel
theorem dX12_stillOf_3 : decode cX12_stillOf 3 = .ok (.iconst 0, 1) := by decide +kernel
theorem dX12_stillOf_4 : decode cX12_stillOf 4 = .ok (.istore 8, 2) := by decide +kernel
theorem dX12_stillOf_6 : decode cX12_stillOf 6 = .ok (.iload 8, 2) := by decide +kernel
theorem dX12_stillOf_8 : decode cX12_stillOf 8 = .ok (.iconst 2, 1) := by decide +kernel
theorem dX12_stillOf_9 : decode cX12_stillOf 9 = .ok (.iload_n 2, 1) := by decide +kernel
theorem dX12_stillOf_10 : decode cX12_stillOf 10 = .ok (.ishl, 1) := by decide +kernel
theorem dX12_stillOf_11 : decode cX12_stillOf 11 = .ok (.if_icmp .ge 79, 3) := by decide +kernel
theorem dX12_stillOf_14 : decode cX12_stillOf 14 = .ok (.aload_n 0, 1) := by decide +kernel
theorem dX12_stillOf_15 : decode cX12_stillOf 15 = .ok (.iload 8, 2) := by decide +kernel
theorem dX12_stillOf_17 : decode cX12_stillOf 17 = .ok (.putfield 183, 3) := by decide +kernel
theorem dX12_stillOf_20 : decode cX12_stillOf 20 = .ok (.aload_n 0, 1) := by decide +kernel
theorem dX12_stillOf_21 : decode cX12_stillOf 21 = .ok (.invokevirtual 227, 3) := by decide +kernel
theorem dX12_stillOf_24 : decode cX12_stillOf 24 = .ok (.aload_n 0, 1) := by decide +kernel
theorem dX12_stillOf_25 : decode cX12_stillOf 25 = .ok (.iload_n 3, 1) := by decide +kernel
theorem dX12_stillOf_26 : decode cX12_stillOf 26 = .ok (.invokevirtual 233, 3) := by decide +kernel
theorem dX12_stillOf_29 : decode cX12_stillOf 29 = .ok (.iload 4, 2) := by decide +kernel
theorem dX12_stillOf_31 : decode cX12_stillOf 31 = .ok (.if_icmp .ne 53, 3) := by decide +kernel
theorem dX12_stillOf_34 : decode cX12_stillOf 34 = .ok (.lconst 1, 1) := by decide +kernel
theorem dX12_stillOf_35 : decode cX12_stillOf 35 = .ok (.lstore 9, 2) := by decide +kernel
theorem dX12_stillOf_37 : decode cX12_stillOf 37 = .ok (.iconst 0, 1) := by decide +kernel
theorem dX12_stillOf_38 : decode cX12_stillOf 38 = .ok (.istore 11, 2) := by decide +kernel
theorem dX12_stillOf_40 : decode cX12_stillOf 40 = .ok (.iload 11, 2) := by decide +kernel
theorem dX12_stillOf_42 : decode cX12_stillOf 42 = .ok (.iload_n 2, 1) := by decide +kernel
theorem dX12_stillOf_43 : decode cX12_stillOf 43 = .ok (.if_icmp .gt 34, 3) := by decide +kernel
theorem dX12_stillOf_46 : decode cX12_stillOf 46 = .ok (.lload 9, 2) := by decide +kernel
theorem dX12_stillOf_48 : decode cX12_stillOf 48 = .ok (.iload 8, 2) := by decide +kernel
theorem dX12_stillOf_50 : decode cX12_stillOf 50 = .ok (.iload 11, 2) := by decide +kernel
theorem dX12_stillOf_52 : decode cX12_stillOf 52 = .ok (.invokestatic 186, 3) := by decide +kernel
theorem dX12_stillOf_55 : decode cX12_stillOf 55 = .ok (.ifCond .eq 8, 3) := by decide +kernel
theorem dX12_stillOf_58 : decode cX12_stillOf 58 = .ok (.iload_n 1, 1) := by decide +kernel
theorem dX12_stillOf_59 : decode cX12_stillOf 59 = .ok (.i2l, 1) := by decide +kernel
theorem dX12_stillOf_60 : decode cX12_stillOf 60 = .ok (.goto 8, 3) := by decide +kernel
theorem dX12_stillOf_63 : decode cX12_stillOf 63 = .ok (.bipush 16, 2) := by decide +kernel
theorem dX12_stillOf_65 : decode cX12_stillOf 65 = .ok (.iload_n 1, 1) := by decide +kernel
theorem dX12_stillOf_66 : decode cX12_stillOf 66 = .ok (.isub, 1) := by decide +kernel
theorem dX12_stillOf_67 : decode cX12_stillOf 67 = .ok (.i2l, 1) := by decide +kernel
theorem dX12_stillOf_68 : decode cX12_stillOf 68 = .ok (.lmul, 1) := by decide +kernel
theorem dX12_stillOf_69 : decode cX12_stillOf 69 = .ok (.lstore 9, 2) := by decide +kernel
theorem dX12_stillOf_71 : decode cX12_stillOf 71 = .ok (.iinc 11 1, 3) := by decide +kernel
theorem dX12_stillOf_74 : decode cX12_stillOf 74 = .ok (.goto (-34), 3) := by decide +kernel
theorem dX12_stillOf_77 : decode cX12_stillOf 77 = .ok (.lload 6, 2) := by decide +kernel
theorem dX12_stillOf_79 : decode cX12_stillOf 79 = .ok (.lload 9, 2) := by decide +kernel
theorem dX12_stillOf_81 : decode cX12_stillOf 81 = .ok (.ladd, 1) := by decide +kernel
theorem dX12_stillOf_82 : decode cX12_stillOf 82 = .ok (.lstore 6, 2) := by decide +kernel
theorem dX12_stillOf_84 : decode cX12_stillOf 84 = .ok (.iinc 8 1, 3) := by decide +kernel
theorem dX12_stillOf_87 : decode cX12_stillOf 87 = .ok (.goto (-81), 3) := by decide +kernel
theorem dX12_stillOf_90 : decode cX12_stillOf 90 = .ok (.aload_n 0, 1) := by decide +kernel
theorem dX12_stillOf_91 : decode cX12_stillOf 91 = .ok (.iconst 0, 1) := by decide +kernel
theorem dX12_stillOf_92 : decode cX12_stillOf 92 = .ok (.putfield 183, 3) := by decide +kernel
theorem dX12_stillOf_95 : decode cX12_stillOf 95 = .ok (.lload 6, 2) := by decide +kernel
theorem dX12_stillOf_97 : decode cX12_stillOf 97 = .ok (.lconst 1, 1) := by decide +kernel
theorem dX12_stillOf_98 : decode cX12_stillOf 98 = .ok (.iconst 4, 1) := by decide +kernel
theorem dX12_stillOf_99 : decode cX12_stillOf 99 = .ok (.iload_n 2, 1) := by decide +kernel
theorem dX12_stillOf_100 : decode cX12_stillOf 100 = .ok (.iconst 1, 1) := by decide +kernel
theorem dX12_stillOf_101 : decode cX12_stillOf 101 = .ok (.iadd, 1) := by decide +kernel
theorem dX12_stillOf_102 : decode cX12_stillOf 102 = .ok (.imul, 1) := by decide +kernel
theorem dX12_stillOf_103 : decode cX12_stillOf 103 = .ok (.lshl, 1) := by decide +kernel
theorem dX12_stillOf_104 : decode cX12_stillOf 104 = .ok (.iload 5, 2) := by decide +kernel
theorem dX12_stillOf_106 : decode cX12_stillOf 106 = .ok (.invokestatic 315, 3) := by decide +kernel
theorem dX12_stillOf_109 : decode cX12_stillOf 109 = .ok (.lreturn, 1) := by decide +kernel
theorem dX12_still_0 : decode cX12_still 0 = .ok (.aload_n 0, 1) := by decide +kernel
theorem dX12_still_1 : decode cX12_still 1 = .ok (.invokevirtual 230, 3) := by decide +kernel
theorem dX12_still_4 : decode cX12_still 4 = .ok (.iload_n 1, 1) := by decide +kernel
theorem dX12_still_5 : decode cX12_still 5 = .ok (.i2l, 1) := by decide +kernel
theorem dX12_still_6 : decode cX12_still 6 = .ok (.lconst 0, 1) := by decide +kernel
theorem dX12_still_7 : decode cX12_still 7 = .ok (.ldc2_w 319, 3) := by decide +kernel
theorem dX12_still_10 : decode cX12_still 10 = .ok (.invokestatic 76, 3) := by decide +kernel
theorem dX12_still_13 : decode cX12_still 13 = .ok (.ifCond .eq 58, 3) := by decide +kernel
theorem dX12_still_16 : decode cX12_still 16 = .ok (.iload_n 2, 1) := by decide +kernel
theorem dX12_still_17 : decode cX12_still 17 = .ok (.i2l, 1) := by decide +kernel
theorem dX12_still_18 : decode cX12_still 18 = .ok (.lconst 0, 1) := by decide +kernel
theorem dX12_still_19 : decode cX12_still 19 = .ok (.ldc2_w 163, 3) := by decide +kernel
theorem dX12_still_22 : decode cX12_still 22 = .ok (.invokestatic 76, 3) := by decide +kernel
theorem dX12_still_25 : decode cX12_still 25 = .ok (.ifCond .eq 46, 3) := by decide +kernel
theorem dX12_still_28 : decode cX12_still 28 = .ok (.aload_n 0, 1) := by decide +kernel
theorem dX12_still_29 : decode cX12_still 29 = .ok (.iload_n 3, 1) := by decide +kernel
theorem dX12_still_30 : decode cX12_still 30 = .ok (.invokevirtual 152, 3) := by decide +kernel
theorem dX12_still_33 : decode cX12_still 33 = .ok (.ifCond .eq 38, 3) := by decide +kernel
theorem dX12_still_36 : decode cX12_still 36 = .ok (.iload 4, 2) := by decide +kernel
theorem dX12_still_38 : decode cX12_still 38 = .ok (.i2l, 1) := by decide +kernel
theorem dX12_still_39 : decode cX12_still 39 = .ok (.lconst 0, 1) := by decide +kernel
theorem dX12_still_40 : decode cX12_still 40 = .ok (.ldc2_w 83, 3) := by decide +kernel
theorem dX12_still_43 : decode cX12_still 43 = .ok (.invokestatic 76, 3) := by decide +kernel
theorem dX12_still_46 : decode cX12_still 46 = .ok (.ifCond .eq 25, 3) := by decide +kernel
theorem dX12_still_49 : decode cX12_still 49 = .ok (.iload 5, 2) := by decide +kernel
theorem dX12_still_51 : decode cX12_still 51 = .ok (.invokestatic 242, 3) := by decide +kernel
theorem dX12_still_54 : decode cX12_still 54 = .ok (.ifCond .eq 17, 3) := by decide +kernel
theorem dX12_still_57 : decode cX12_still 57 = .ok (.aload_n 0, 1) := by decide +kernel
theorem dX12_still_58 : decode cX12_still 58 = .ok (.iload_n 1, 1) := by decide +kernel
theorem dX12_still_59 : decode cX12_still 59 = .ok (.iload_n 2, 1) := by decide +kernel
theorem dX12_still_60 : decode cX12_still 60 = .ok (.iload_n 3, 1) := by decide +kernel
theorem dX12_still_61 : decode cX12_still 61 = .ok (.iload 4, 2) := by decide +kernel
theorem dX12_still_63 : decode cX12_still 63 = .ok (.iload 5, 2) := by decide +kernel
theorem dX12_still_65 : decode cX12_still 65 = .ok (.invokevirtual 321, 3) := by decide +kernel
theorem dX12_still_68 : decode cX12_still 68 = .ok (.goto 8, 3) := by decide +kernel
theorem dX12_still_71 : decode cX12_still 71 = .ok (.bipush (-2), 2) := by decide +kernel
theorem dX12_still_73 : decode cX12_still 73 = .ok (.invokestatic 325, 3) := by decide +kernel
theorem dX12_still_76 : decode cX12_still 76 = .ok (.lreturn, 1) := by decide +kernel
theorem dX12_lot_0 : decode cX12_lot 0 = .ok (.aload_n 0, 1) := by decide +kernel
theorem dX12_lot_1 : decode cX12_lot 1 = .ok (.ldc_w 329, 3) := by decide +kernel
theorem dX12_lot_4 : decode cX12_lot 4 = .ok (.aload_n 0, 1) := by decide +kernel
theorem dX12_lot_5 : decode cX12_lot 5 = .ok (.getfield 330, 3) := by decide +kernel
theorem dX12_lot_8 : decode cX12_lot 8 = .ok (.imul, 1) := by decide +kernel
theorem dX12_lot_9 : decode cX12_lot 9 = .ok (.sipush 12345, 3) := by decide +kernel
theorem dX12_lot_12 : decode cX12_lot 12 = .ok (.iadd, 1) := by decide +kernel
theorem dX12_lot_13 : decode cX12_lot 13 = .ok (.putfield 330, 3) := by decide +kernel
theorem dX12_lot_16 : decode cX12_lot 16 = .ok (.aload_n 0, 1) := by decide +kernel
theorem dX12_lot_17 : decode cX12_lot 17 = .ok (.getfield 330, 3) := by decide +kernel
theorem dX12_lot_20 : decode cX12_lot 20 = .ok (.bipush 16, 2) := by decide +kernel
theorem dX12_lot_22 : decode cX12_lot 22 = .ok (.iushr, 1) := by decide +kernel
theorem dX12_lot_23 : decode cX12_lot 23 = .ok (.iload_n 1, 1) := by decide +kernel
theorem dX12_lot_24 : decode cX12_lot 24 = .ok (.irem, 1) := by decide +kernel
theorem dX12_lot_25 : decode cX12_lot 25 = .ok (.ireturn, 1) := by decide +kernel
theorem dX12_eveningOf_0 : decode cX12_eveningOf 0 = .ok (.aload_n 0, 1) := by decide +kernel
theorem dX12_eveningOf_1 : decode cX12_eveningOf 1 = .ok (.getfield 160, 3) := by decide +kernel
theorem dX12_eveningOf_4 : decode cX12_eveningOf 4 = .ok (.istore 4, 2) := by decide +kernel
theorem dX12_eveningOf_6 : decode cX12_eveningOf 6 = .ok (.iconst 0, 1) := by decide +kernel
theorem dX12_eveningOf_7 : decode cX12_eveningOf 7 = .ok (.istore 5, 2) := by decide +kernel
theorem dX12_eveningOf_9 : decode cX12_eveningOf 9 = .ok (.iload 5, 2) := by decide +kernel
theorem dX12_eveningOf_11 : decode cX12_eveningOf 11 = .ok (.bipush 40, 2) := by decide +kernel
theorem dX12_eveningOf_13 : decode cX12_eveningOf 13 = .ok (.if_icmp .ge 23, 3) := by decide +kernel
theorem dX12_eveningOf_16 : decode cX12_eveningOf 16 = .ok (.aload_n 0, 1) := by decide +kernel
theorem dX12_eveningOf_17 : decode cX12_eveningOf 17 = .ok (.getfield 67, 3) := by decide +kernel
theorem dX12_eveningOf_20 : decode cX12_eveningOf 20 = .ok (.iload 5, 2) := by decide +kernel
theorem dX12_eveningOf_22 : decode cX12_eveningOf 22 = .ok (.aload_n 0, 1) := by decide +kernel
theorem dX12_eveningOf_23 : decode cX12_eveningOf 23 = .ok (.getfield 37, 3) := by decide +kernel
theorem dX12_eveningOf_26 : decode cX12_eveningOf 26 = .ok (.iload 5, 2) := by decide +kernel
theorem dX12_eveningOf_28 : decode cX12_eveningOf 28 = .ok (.iaload, 1) := by decide +kernel
theorem dX12_eveningOf_29 : decode cX12_eveningOf 29 = .ok (.iastore, 1) := by decide +kernel
theorem dX12_eveningOf_30 : decode cX12_eveningOf 30 = .ok (.iinc 5 1, 3) := by decide +kernel
theorem dX12_eveningOf_33 : decode cX12_eveningOf 33 = .ok (.goto (-24), 3) := by decide +kernel
theorem dX12_eveningOf_36 : decode cX12_eveningOf 36 = .ok (.aload_n 0, 1) := by decide +kernel
theorem dX12_eveningOf_37 : decode cX12_eveningOf 37 = .ok (.iload_n 1, 1) := by decide +kernel
theorem dX12_eveningOf_38 : decode cX12_eveningOf 38 = .ok (.putfield 330, 3) := by decide +kernel
theorem dX12_eveningOf_41 : decode cX12_eveningOf 41 = .ok (.aload_n 0, 1) := by decide +kernel
theorem dX12_eveningOf_42 : decode cX12_eveningOf 42 = .ok (.iconst 0, 1) := by decide +kernel
theorem dX12_eveningOf_43 : decode cX12_eveningOf 43 = .ok (.putfield 160, 3) := by decide +kernel
theorem dX12_eveningOf_46 : decode cX12_eveningOf 46 = .ok (.iconst 0, 1) := by decide +kernel
theorem dX12_eveningOf_47 : decode cX12_eveningOf 47 = .ok (.istore 5, 2) := by decide +kernel
theorem dX12_eveningOf_49 : decode cX12_eveningOf 49 = .ok (.iload 5, 2) := by decide +kernel
theorem dX12_eveningOf_51 : decode cX12_eveningOf 51 = .ok (.iload_n 2, 1) := by decide +kernel
theorem dX12_eveningOf_52 : decode cX12_eveningOf 52 = .ok (.if_icmp .ge 52, 3) := by decide +kernel
theorem dX12_eveningOf_55 : decode cX12_eveningOf 55 = .ok (.aload_n 0, 1) := by decide +kernel
theorem dX12_eveningOf_56 : decode cX12_eveningOf 56 = .ok (.getfield 109, 3) := by decide +kernel
theorem dX12_eveningOf_59 : decode cX12_eveningOf 59 = .ok (.ifCond .le 45, 3) := by decide +kernel
theorem dX12_eveningOf_62 : decode cX12_eveningOf 62 = .ok (.aload_n 0, 1) := by decide +kernel
theorem dX12_eveningOf_63 : decode cX12_eveningOf 63 = .ok (.aload_n 0, 1) := by decide +kernel
theorem dX12_eveningOf_64 : decode cX12_eveningOf 64 = .ok (.getfield 109, 3) := by decide +kernel
theorem dX12_eveningOf_67 : decode cX12_eveningOf 67 = .ok (.invokevirtual 333, 3) := by decide +kernel
theorem dX12_eveningOf_70 : decode cX12_eveningOf 70 = .ok (.istore 6, 2) := by decide +kernel
theorem dX12_eveningOf_72 : decode cX12_eveningOf 72 = .ok (.aload_n 0, 1) := by decide +kernel
theorem dX12_eveningOf_73 : decode cX12_eveningOf 73 = .ok (.iconst 4, 1) := by decide +kernel
theorem dX12_eveningOf_74 : decode cX12_eveningOf 74 = .ok (.invokevirtual 333, 3) := by decide +kernel
theorem dX12_eveningOf_77 : decode cX12_eveningOf 77 = .ok (.istore 7, 2) := by decide +kernel
theorem dX12_eveningOf_79 : decode cX12_eveningOf 79 = .ok (.aload_n 0, 1) := by decide +kernel
theorem dX12_eveningOf_80 : decode cX12_eveningOf 80 = .ok (.iload 5, 2) := by decide +kernel
theorem dX12_eveningOf_82 : decode cX12_eveningOf 82 = .ok (.iload 6, 2) := by decide +kernel
theorem dX12_eveningOf_84 : decode cX12_eveningOf 84 = .ok (.iload 7, 2) := by decide +kernel
theorem dX12_eveningOf_86 : decode cX12_eveningOf 86 = .ok (.aload_n 0, 1) := by decide +kernel
theorem dX12_eveningOf_87 : decode cX12_eveningOf 87 = .ok (.bipush 9, 2) := by decide +kernel
theorem dX12_eveningOf_89 : decode cX12_eveningOf 89 = .ok (.invokevirtual 333, 3) := by decide +kernel
theorem dX12_eveningOf_92 : decode cX12_eveningOf 92 = .ok (.iconst 1, 1) := by decide +kernel
theorem dX12_eveningOf_93 : decode cX12_eveningOf 93 = .ok (.iadd, 1) := by decide +kernel
theorem dX12_eveningOf_94 : decode cX12_eveningOf 94 = .ok (.iconst 0, 1) := by decide +kernel
theorem dX12_eveningOf_95 : decode cX12_eveningOf 95 = .ok (.invokevirtual 165, 3) := by decide +kernel
theorem dX12_eveningOf_98 : decode cX12_eveningOf 98 = .ok (.iinc 5 1, 3) := by decide +kernel
theorem dX12_eveningOf_101 : decode cX12_eveningOf 101 = .ok (.goto (-52), 3) := by decide +kernel
theorem dX12_eveningOf_104 : decode cX12_eveningOf 104 = .ok (.aload_n 0, 1) := by decide +kernel
theorem dX12_eveningOf_105 : decode cX12_eveningOf 105 = .ok (.invokevirtual 227, 3) := by decide +kernel
theorem dX12_eveningOf_108 : decode cX12_eveningOf 108 = .ok (.iconst 0, 1) := by decide +kernel
theorem dX12_eveningOf_109 : decode cX12_eveningOf 109 = .ok (.istore 5, 2) := by decide +kernel
theorem dX12_eveningOf_111 : decode cX12_eveningOf 111 = .ok (.iconst 0, 1) := by decide +kernel
theorem dX12_eveningOf_112 : decode cX12_eveningOf 112 = .ok (.istore 6, 2) := by decide +kernel
theorem dX12_eveningOf_114 : decode cX12_eveningOf 114 = .ok (.iload 6, 2) := by decide +kernel
theorem dX12_eveningOf_116 : decode cX12_eveningOf 116 = .ok (.aload_n 0, 1) := by decide +kernel
theorem dX12_eveningOf_117 : decode cX12_eveningOf 117 = .ok (.getfield 160, 3) := by decide +kernel
theorem dX12_eveningOf_120 : decode cX12_eveningOf 120 = .ok (.if_icmp .ge 30, 3) := by decide +kernel
theorem dX12_eveningOf_123 : decode cX12_eveningOf 123 = .ok (.iload 5, 2) := by decide +kernel
theorem dX12_eveningOf_125 : decode cX12_eveningOf 125 = .ok (.aload_n 0, 1) := by decide +kernel
theorem dX12_eveningOf_126 : decode cX12_eveningOf 126 = .ok (.getfield 40, 3) := by decide +kernel
theorem dX12_eveningOf_129 : decode cX12_eveningOf 129 = .ok (.iload 6, 2) := by decide +kernel
theorem dX12_eveningOf_131 : decode cX12_eveningOf 131 = .ok (.iaload, 1) := by decide +kernel
theorem dX12_eveningOf_132 : decode cX12_eveningOf 132 = .ok (.iconst 3, 1) := by decide +kernel
theorem dX12_eveningOf_133 : decode cX12_eveningOf 133 = .ok (.if_icmp .ne 7, 3) := by decide +kernel
theorem dX12_eveningOf_136 : decode cX12_eveningOf 136 = .ok (.iconst 1, 1) := by decide +kernel
theorem dX12_eveningOf_137 : decode cX12_eveningOf 137 = .ok (.goto 4, 3) := by decide +kernel
theorem dX12_eveningOf_140 : decode cX12_eveningOf 140 = .ok (.iconst 0, 1) := by decide +kernel
theorem dX12_eveningOf_141 : decode cX12_eveningOf 141 = .ok (.iadd, 1) := by decide +kernel
theorem dX12_eveningOf_142 : decode cX12_eveningOf 142 = .ok (.istore 5, 2) := by decide +kernel
theorem dX12_eveningOf_144 : decode cX12_eveningOf 144 = .ok (.iinc 6 1, 3) := by decide +kernel
theorem dX12_eveningOf_147 : decode cX12_eveningOf 147 = .ok (.goto (-33), 3) := by decide +kernel
theorem dX12_eveningOf_150 : decode cX12_eveningOf 150 = .ok (.aload_n 0, 1) := by decide +kernel
theorem dX12_eveningOf_151 : decode cX12_eveningOf 151 = .ok (.invokevirtual 266, 3) := by decide +kernel
theorem dX12_eveningOf_154 : decode cX12_eveningOf 154 = .ok (.istore 6, 2) := by decide +kernel
theorem dX12_eveningOf_156 : decode cX12_eveningOf 156 = .ok (.iconst 0, 1) := by decide +kernel
theorem dX12_eveningOf_157 : decode cX12_eveningOf 157 = .ok (.istore 7, 2) := by decide +kernel
theorem dX12_eveningOf_159 : decode cX12_eveningOf 159 = .ok (.iload 7, 2) := by decide +kernel
theorem dX12_eveningOf_161 : decode cX12_eveningOf 161 = .ok (.bipush 40, 2) := by decide +kernel
theorem dX12_eveningOf_163 : decode cX12_eveningOf 163 = .ok (.if_icmp .ge 23, 3) := by decide +kernel
theorem dX12_eveningOf_166 : decode cX12_eveningOf 166 = .ok (.aload_n 0, 1) := by decide +kernel
theorem dX12_eveningOf_167 : decode cX12_eveningOf 167 = .ok (.getfield 37, 3) := by decide +kernel
theorem dX12_eveningOf_170 : decode cX12_eveningOf 170 = .ok (.iload 7, 2) := by decide +kernel
theorem dX12_eveningOf_172 : decode cX12_eveningOf 172 = .ok (.aload_n 0, 1) := by decide +kernel
theorem dX12_eveningOf_173 : decode cX12_eveningOf 173 = .ok (.getfield 67, 3) := by decide +kernel
theorem dX12_eveningOf_176 : decode cX12_eveningOf 176 = .ok (.iload 7, 2) := by decide +kernel
theorem dX12_eveningOf_178 : decode cX12_eveningOf 178 = .ok (.iaload, 1) := by decide +kernel
theorem dX12_eveningOf_179 : decode cX12_eveningOf 179 = .ok (.iastore, 1) := by decide +kernel
theorem dX12_eveningOf_180 : decode cX12_eveningOf 180 = .ok (.iinc 7 1, 3) := by decide +kernel
theorem dX12_eveningOf_183 : decode cX12_eveningOf 183 = .ok (.goto (-24), 3) := by decide +kernel
theorem dX12_eveningOf_186 : decode cX12_eveningOf 186 = .ok (.aload_n 0, 1) := by decide +kernel
theorem dX12_eveningOf_187 : decode cX12_eveningOf 187 = .ok (.iload 4, 2) := by decide +kernel
theorem dX12_eveningOf_189 : decode cX12_eveningOf 189 = .ok (.putfield 160, 3) := by decide +kernel
theorem dX12_eveningOf_192 : decode cX12_eveningOf 192 = .ok (.iload_n 3, 1) := by decide +kernel
theorem dX12_eveningOf_193 : decode cX12_eveningOf 193 = .ok (.ifCond .ne 8, 3) := by decide +kernel
theorem dX12_eveningOf_196 : decode cX12_eveningOf 196 = .ok (.iload 6, 2) := by decide +kernel
theorem dX12_eveningOf_198 : decode cX12_eveningOf 198 = .ok (.goto 5, 3) := by decide +kernel
theorem dX12_eveningOf_201 : decode cX12_eveningOf 201 = .ok (.iload 5, 2) := by decide +kernel
theorem dX12_eveningOf_203 : decode cX12_eveningOf 203 = .ok (.ireturn, 1) := by decide +kernel
theorem dX12_evening_0 : decode cX12_evening 0 = .ok (.aload_n 0, 1) := by decide +kernel
theorem dX12_evening_1 : decode cX12_evening 1 = .ok (.invokevirtual 230, 3) := by decide +kernel
theorem dX12_evening_4 : decode cX12_evening 4 = .ok (.iload_n 2, 1) := by decide +kernel
theorem dX12_evening_5 : decode cX12_evening 5 = .ok (.i2l, 1) := by decide +kernel
theorem dX12_evening_6 : decode cX12_evening 6 = .ok (.lconst 1, 1) := by decide +kernel
theorem dX12_evening_7 : decode cX12_evening 7 = .ok (.ldc2_w 336, 3) := by decide +kernel
theorem dX12_evening_10 : decode cX12_evening 10 = .ok (.invokestatic 76, 3) := by decide +kernel
theorem dX12_evening_13 : decode cX12_evening 13 = .ok (.ifCond .eq 20, 3) := by decide +kernel
theorem dX12_evening_16 : decode cX12_evening 16 = .ok (.iload_n 3, 1) := by decide +kernel
theorem dX12_evening_17 : decode cX12_evening 17 = .ok (.invokestatic 242, 3) := by decide +kernel
theorem dX12_evening_20 : decode cX12_evening 20 = .ok (.ifCond .eq 13, 3) := by decide +kernel
theorem dX12_evening_23 : decode cX12_evening 23 = .ok (.aload_n 0, 1) := by decide +kernel
theorem dX12_evening_24 : decode cX12_evening 24 = .ok (.iload_n 1, 1) := by decide +kernel
theorem dX12_evening_25 : decode cX12_evening 25 = .ok (.iload_n 2, 1) := by decide +kernel
theorem dX12_evening_26 : decode cX12_evening 26 = .ok (.iload_n 3, 1) := by decide +kernel
theorem dX12_evening_27 : decode cX12_evening 27 = .ok (.invokevirtual 338, 3) := by decide +kernel
theorem dX12_evening_30 : decode cX12_evening 30 = .ok (.goto 5, 3) := by decide +kernel
theorem dX12_evening_33 : decode cX12_evening 33 = .ok (.bipush (-2), 2) := by decide +kernel
theorem dX12_evening_35 : decode cX12_evening 35 = .ok (.ireturn, 1) := by decide +kernel
theorem dX12_write_0 : decode cX12_write 0 = .ok (.aload_n 0, 1) := by decide +kernel
theorem dX12_write_1 : decode cX12_write 1 = .ok (.iload_n 1, 1) := by decide +kernel
theorem dX12_write_2 : decode cX12_write 2 = .ok (.invokevirtual 169, 3) := by decide +kernel
theorem dX12_write_5 : decode cX12_write 5 = .ok (.ifCond .eq 10, 3) := by decide +kernel
theorem dX12_write_8 : decode cX12_write 8 = .ok (.iload_n 2, 1) := by decide +kernel
theorem dX12_write_9 : decode cX12_write 9 = .ok (.invokestatic 85, 3) := by decide +kernel
theorem dX12_write_12 : decode cX12_write 12 = .ok (.ifCond .ne 6, 3) := by decide +kernel
theorem dX12_write_15 : decode cX12_write 15 = .ok (.bipush (-2), 2) := by decide +kernel
theorem dX12_write_17 : decode cX12_write 17 = .ok (.ireturn, 1) := by decide +kernel
theorem dX12_write_18 : decode cX12_write 18 = .ok (.aload_n 0, 1) := by decide +kernel
theorem dX12_write_19 : decode cX12_write 19 = .ok (.getfield 7, 3) := by decide +kernel
theorem dX12_write_22 : decode cX12_write 22 = .ok (.iload_n 2, 1) := by decide +kernel
theorem dX12_write_23 : decode cX12_write 23 = .ok (.iaload, 1) := by decide +kernel
theorem dX12_write_24 : decode cX12_write 24 = .ok (.ifCond .ge 9, 3) := by decide +kernel
theorem dX12_write_27 : decode cX12_write 27 = .ok (.aload_n 0, 1) := by decide +kernel
theorem dX12_write_28 : decode cX12_write 28 = .ok (.iconst 1, 1) := by decide +kernel
theorem dX12_write_29 : decode cX12_write 29 = .ok (.invokevirtual 91, 3) := by decide +kernel
theorem dX12_write_32 : decode cX12_write 32 = .ok (.ireturn, 1) := by decide +kernel
theorem dX12_write_33 : decode cX12_write 33 = .ok (.aload_n 0, 1) := by decide +kernel
theorem dX12_write_34 : decode cX12_write 34 = .ok (.invokevirtual 230, 3) := by decide +kernel
theorem dX12_write_37 : decode cX12_write 37 = .ok (.aload_n 0, 1) := by decide +kernel
theorem dX12_write_38 : decode cX12_write 38 = .ok (.getfield 13, 3) := by decide +kernel
theorem dX12_write_41 : decode cX12_write 41 = .ok (.iload_n 2, 1) := by decide +kernel
theorem dX12_write_42 : decode cX12_write 42 = .ok (.iaload, 1) := by decide +kernel
theorem dX12_write_43 : decode cX12_write 43 = .ok (.bipush 20, 2) := by decide +kernel
theorem dX12_write_45 : decode cX12_write 45 = .ok (.invokestatic 341, 3) := by decide +kernel
theorem dX12_write_48 : decode cX12_write 48 = .ok (.istore_n 3, 1) := by decide +kernel
theorem dX12_write_49 : decode cX12_write 49 = .ok (.iconst 0, 1) := by decide +kernel
theorem dX12_write_50 : decode cX12_write 50 = .ok (.istore 4, 2) := by decide +kernel
theorem dX12_write_52 : decode cX12_write 52 = .ok (.iload 4, 2) := by decide +kernel
theorem dX12_write_54 : decode cX12_write 54 = .ok (.iload_n 3, 1) := by decide +kernel
theorem dX12_write_55 : decode cX12_write 55 = .ok (.if_icmp .ge 46, 3) := by decide +kernel
theorem dX12_write_58 : decode cX12_write 58 = .ok (.aload_n 0, 1) := by decide +kernel
theorem dX12_write_59 : decode cX12_write 59 = .ok (.getfield 16, 3) := by decide +kernel
theorem dX12_write_62 : decode cX12_write 62 = .ok (.bipush 60, 2) := by decide +kernel
theorem dX12_write_64 : decode cX12_write 64 = .ok (.iload_n 2, 1) := by decide +kernel
theorem dX12_write_65 : decode cX12_write 65 = .ok (.imul, 1) := by decide +kernel
theorem dX12_write_66 : decode cX12_write 66 = .ok (.iload 4, 2) := by decide +kernel
theorem dX12_write_68 : decode cX12_write 68 = .ok (.iadd, 1) := by decide +kernel
theorem dX12_write_69 : decode cX12_write 69 = .ok (.aload_n 0, 1) := by decide +kernel
theorem dX12_write_70 : decode cX12_write 70 = .ok (.getfield 7, 3) := by decide +kernel
theorem dX12_write_73 : decode cX12_write 73 = .ok (.iload_n 2, 1) := by decide +kernel
theorem dX12_write_74 : decode cX12_write 74 = .ok (.iaload, 1) := by decide +kernel
theorem dX12_write_75 : decode cX12_write 75 = .ok (.aload_n 0, 1) := by decide +kernel
theorem dX12_write_76 : decode cX12_write 76 = .ok (.getfield 52, 3) := by decide +kernel
theorem dX12_write_79 : decode cX12_write 79 = .ok (.bipush 32, 2) := by decide +kernel
theorem dX12_write_81 : decode cX12_write 81 = .ok (.iload 4, 2) := by decide +kernel
theorem dX12_write_83 : decode cX12_write 83 = .ok (.imul, 1) := by decide +kernel
theorem dX12_write_84 : decode cX12_write 84 = .ok (.iconst 4, 1) := by decide +kernel
theorem dX12_write_85 : decode cX12_write 85 = .ok (.iload_n 1, 1) := by decide +kernel
theorem dX12_write_86 : decode cX12_write 86 = .ok (.imul, 1) := by decide +kernel
theorem dX12_write_87 : decode cX12_write 87 = .ok (.iadd, 1) := by decide +kernel
theorem dX12_write_88 : decode cX12_write 88 = .ok (.iconst 1, 1) := by decide +kernel
theorem dX12_write_89 : decode cX12_write 89 = .ok (.iadd, 1) := by decide +kernel
theorem dX12_write_90 : decode cX12_write 90 = .ok (.iaload, 1) := by decide +kernel
theorem dX12_write_91 : decode cX12_write 91 = .ok (.invokestatic 99, 3) := by decide +kernel
theorem dX12_write_94 : decode cX12_write 94 = .ok (.iastore, 1) := by decide +kernel
theorem dX12_write_95 : decode cX12_write 95 = .ok (.iinc 4 1, 3) := by decide +kernel
theorem dX12_write_98 : decode cX12_write 98 = .ok (.goto (-46), 3) := by decide +kernel
theorem dX12_write_101 : decode cX12_write 101 = .ok (.iload_n 3, 1) := by decide +kernel
theorem dX12_write_102 : decode cX12_write 102 = .ok (.ireturn, 1) := by decide +kernel
theorem dX12_count_0 : decode cX12_count 0 = .ok (.aload_n 0, 1) := by decide +kernel
theorem dX12_count_1 : decode cX12_count 1 = .ok (.invokevirtual 230, 3) := by decide +kernel
theorem dX12_count_4 : decode cX12_count 4 = .ok (.iload_n 1, 1) := by decide +kernel
theorem dX12_count_5 : decode cX12_count 5 = .ok (.tableswitch 90 0 8 #[51, 56, 61, 61, 61, 70, 75, 80, 85], 51) := by decide +kernel
theorem dX12_count_56 : decode cX12_count 56 = .ok (.aload_n 0, 1) := by decide +kernel
theorem dX12_count_57 : decode cX12_count 57 = .ok (.getfield 109, 3) := by decide +kernel
theorem dX12_count_60 : decode cX12_count 60 = .ok (.ireturn, 1) := by decide +kernel
theorem dX12_count_61 : decode cX12_count 61 = .ok (.aload_n 0, 1) := by decide +kernel
theorem dX12_count_62 : decode cX12_count 62 = .ok (.getfield 126, 3) := by decide +kernel
theorem dX12_count_65 : decode cX12_count 65 = .ok (.ireturn, 1) := by decide +kernel
theorem dX12_count_66 : decode cX12_count 66 = .ok (.aload_n 0, 1) := by decide +kernel
theorem dX12_count_67 : decode cX12_count 67 = .ok (.getfield 25, 3) := by decide +kernel
theorem dX12_count_70 : decode cX12_count 70 = .ok (.iload_n 1, 1) := by decide +kernel
theorem dX12_count_71 : decode cX12_count 71 = .ok (.iconst 2, 1) := by decide +kernel
theorem dX12_count_72 : decode cX12_count 72 = .ok (.isub, 1) := by decide +kernel
theorem dX12_count_73 : decode cX12_count 73 = .ok (.iaload, 1) := by decide +kernel
theorem dX12_count_74 : decode cX12_count 74 = .ok (.ireturn, 1) := by decide +kernel
theorem dX12_count_75 : decode cX12_count 75 = .ok (.aload_n 0, 1) := by decide +kernel
theorem dX12_count_76 : decode cX12_count 76 = .ok (.getfield 160, 3) := by decide +kernel
theorem dX12_count_79 : decode cX12_count 79 = .ok (.ireturn, 1) := by decide +kernel
theorem dX12_count_80 : decode cX12_count 80 = .ok (.aload_n 0, 1) := by decide +kernel
theorem dX12_count_81 : decode cX12_count 81 = .ok (.invokevirtual 266, 3) := by decide +kernel
theorem dX12_count_84 : decode cX12_count 84 = .ok (.ireturn, 1) := by decide +kernel
theorem dX12_count_85 : decode cX12_count 85 = .ok (.aload_n 0, 1) := by decide +kernel
theorem dX12_count_86 : decode cX12_count 86 = .ok (.getfield 296, 3) := by decide +kernel
theorem dX12_count_89 : decode cX12_count 89 = .ok (.ireturn, 1) := by decide +kernel
theorem dX12_count_90 : decode cX12_count 90 = .ok (.aload_n 0, 1) := by decide +kernel
theorem dX12_count_91 : decode cX12_count 91 = .ok (.getfield 80, 3) := by decide +kernel
theorem dX12_count_94 : decode cX12_count 94 = .ok (.ireturn, 1) := by decide +kernel
theorem dX12_count_95 : decode cX12_count 95 = .ok (.bipush (-2), 2) := by decide +kernel
theorem dX12_count_97 : decode cX12_count 97 = .ok (.ireturn, 1) := by decide +kernel
theorem dX12_tellsStep_0 : decode cX12_tellsStep 0 = .ok (.lload_n 1, 1) := by decide +kernel
theorem dX12_tellsStep_1 : decode cX12_tellsStep 1 = .ok (.lstore 5, 2) := by decide +kernel
theorem dX12_tellsStep_3 : decode cX12_tellsStep 3 = .ok (.iconst 0, 1) := by decide +kernel
theorem dX12_tellsStep_4 : decode cX12_tellsStep 4 = .ok (.istore 7, 2) := by decide +kernel
theorem dX12_tellsStep_6 : decode cX12_tellsStep 6 = .ok (.iload 7, 2) := by decide +kernel
theorem dX12_tellsStep_8 : decode cX12_tellsStep 8 = .ok (.iconst 4, 1) := by decide +kernel
theorem dX12_tellsStep_9 : decode cX12_tellsStep 9 = .ok (.if_icmp .ge 36, 3) := by decide +kernel
theorem dX12_tellsStep_12 : decode cX12_tellsStep 12 = .ok (.ldc2_w 344, 3) := by decide +kernel
theorem dX12_tellsStep_15 : decode cX12_tellsStep 15 = .ok (.lload 5, 2) := by decide +kernel
theorem dX12_tellsStep_17 : decode cX12_tellsStep 17 = .ok (.lmul, 1) := by decide +kernel
theorem dX12_tellsStep_18 : decode cX12_tellsStep 18 = .ok (.aload_n 0, 1) := by decide +kernel
theorem dX12_tellsStep_19 : decode cX12_tellsStep 19 = .ok (.getfield 52, 3) := by decide +kernel
theorem dX12_tellsStep_22 : decode cX12_tellsStep 22 = .ok (.bipush 32, 2) := by decide +kernel
theorem dX12_tellsStep_24 : decode cX12_tellsStep 24 = .ok (.iload 4, 2) := by decide +kernel
theorem dX12_tellsStep_26 : decode cX12_tellsStep 26 = .ok (.imul, 1) := by decide +kernel
theorem dX12_tellsStep_27 : decode cX12_tellsStep 27 = .ok (.iconst 4, 1) := by decide +kernel
theorem dX12_tellsStep_28 : decode cX12_tellsStep 28 = .ok (.iload_n 3, 1) := by decide +kernel
theorem dX12_tellsStep_29 : decode cX12_tellsStep 29 = .ok (.imul, 1) := by decide +kernel
theorem dX12_tellsStep_30 : decode cX12_tellsStep 30 = .ok (.iadd, 1) := by decide +kernel
theorem dX12_tellsStep_31 : decode cX12_tellsStep 31 = .ok (.iload 7, 2) := by decide +kernel
theorem dX12_tellsStep_33 : decode cX12_tellsStep 33 = .ok (.iadd, 1) := by decide +kernel
theorem dX12_tellsStep_34 : decode cX12_tellsStep 34 = .ok (.iaload, 1) := by decide +kernel
theorem dX12_tellsStep_35 : decode cX12_tellsStep 35 = .ok (.i2l, 1) := by decide +kernel
theorem dX12_tellsStep_36 : decode cX12_tellsStep 36 = .ok (.ladd, 1) := by decide +kernel
theorem dX12_tellsStep_37 : decode cX12_tellsStep 37 = .ok (.lstore 5, 2) := by decide +kernel
theorem dX12_tellsStep_39 : decode cX12_tellsStep 39 = .ok (.iinc 7 1, 3) := by decide +kernel
theorem dX12_tellsStep_42 : decode cX12_tellsStep 42 = .ok (.goto (-36), 3) := by decide +kernel
theorem dX12_tellsStep_45 : decode cX12_tellsStep 45 = .ok (.lload 5, 2) := by decide +kernel
theorem dX12_tellsStep_47 : decode cX12_tellsStep 47 = .ok (.lreturn, 1) := by decide +kernel
theorem dX12_tellsRing_0 : decode cX12_tellsRing 0 = .ok (.aload_n 0, 1) := by decide +kernel
theorem dX12_tellsRing_1 : decode cX12_tellsRing 1 = .ok (.invokevirtual 227, 3) := by decide +kernel
theorem dX12_tellsRing_4 : decode cX12_tellsRing 4 = .ok (.lload_n 1, 1) := by decide +kernel
theorem dX12_tellsRing_5 : decode cX12_tellsRing 5 = .ok (.lstore 4, 2) := by decide +kernel
theorem dX12_tellsRing_7 : decode cX12_tellsRing 7 = .ok (.iconst 0, 1) := by decide +kernel
theorem dX12_tellsRing_8 : decode cX12_tellsRing 8 = .ok (.istore 6, 2) := by decide +kernel
theorem dX12_tellsRing_10 : decode cX12_tellsRing 10 = .ok (.iload 6, 2) := by decide +kernel
theorem dX12_tellsRing_12 : decode cX12_tellsRing 12 = .ok (.iconst 5, 1) := by decide +kernel
theorem dX12_tellsRing_13 : decode cX12_tellsRing 13 = .ok (.if_icmp .ge 30, 3) := by decide +kernel
theorem dX12_tellsRing_16 : decode cX12_tellsRing 16 = .ok (.ldc2_w 344, 3) := by decide +kernel
theorem dX12_tellsRing_19 : decode cX12_tellsRing 19 = .ok (.lload 4, 2) := by decide +kernel
theorem dX12_tellsRing_21 : decode cX12_tellsRing 21 = .ok (.lmul, 1) := by decide +kernel
theorem dX12_tellsRing_22 : decode cX12_tellsRing 22 = .ok (.aload_n 0, 1) := by decide +kernel
theorem dX12_tellsRing_23 : decode cX12_tellsRing 23 = .ok (.getfield 37, 3) := by decide +kernel
theorem dX12_tellsRing_26 : decode cX12_tellsRing 26 = .ok (.iconst 5, 1) := by decide +kernel
theorem dX12_tellsRing_27 : decode cX12_tellsRing 27 = .ok (.iload_n 3, 1) := by decide +kernel
theorem dX12_tellsRing_28 : decode cX12_tellsRing 28 = .ok (.imul, 1) := by decide +kernel
theorem dX12_tellsRing_29 : decode cX12_tellsRing 29 = .ok (.iload 6, 2) := by decide +kernel
theorem dX12_tellsRing_31 : decode cX12_tellsRing 31 = .ok (.iadd, 1) := by decide +kernel
theorem dX12_tellsRing_32 : decode cX12_tellsRing 32 = .ok (.iaload, 1) := by decide +kernel
theorem dX12_tellsRing_33 : decode cX12_tellsRing 33 = .ok (.i2l, 1) := by decide +kernel
theorem dX12_tellsRing_34 : decode cX12_tellsRing 34 = .ok (.ladd, 1) := by decide +kernel
theorem dX12_tellsRing_35 : decode cX12_tellsRing 35 = .ok (.lstore 4, 2) := by decide +kernel
theorem dX12_tellsRing_37 : decode cX12_tellsRing 37 = .ok (.iinc 6 1, 3) := by decide +kernel
theorem dX12_tellsRing_40 : decode cX12_tellsRing 40 = .ok (.goto (-30), 3) := by decide +kernel
theorem dX12_tellsRing_43 : decode cX12_tellsRing 43 = .ok (.aload_n 0, 1) := by decide +kernel
theorem dX12_tellsRing_44 : decode cX12_tellsRing 44 = .ok (.aload_n 0, 1) := by decide +kernel
theorem dX12_tellsRing_45 : decode cX12_tellsRing 45 = .ok (.aload_n 0, 1) := by decide +kernel
theorem dX12_tellsRing_46 : decode cX12_tellsRing 46 = .ok (.aload_n 0, 1) := by decide +kernel
theorem dX12_tellsRing_47 : decode cX12_tellsRing 47 = .ok (.lload 4, 2) := by decide +kernel
theorem dX12_tellsRing_49 : decode cX12_tellsRing 49 = .ok (.iload_n 3, 1) := by decide +kernel
theorem dX12_tellsRing_50 : decode cX12_tellsRing 50 = .ok (.iconst 0, 1) := by decide +kernel
theorem dX12_tellsRing_51 : decode cX12_tellsRing 51 = .ok (.invokevirtual 346, 3) := by decide +kernel
theorem dX12_tellsRing_54 : decode cX12_tellsRing 54 = .ok (.iload_n 3, 1) := by decide +kernel
theorem dX12_tellsRing_55 : decode cX12_tellsRing 55 = .ok (.iconst 4, 1) := by decide +kernel
theorem dX12_tellsRing_56 : decode cX12_tellsRing 56 = .ok (.invokevirtual 346, 3) := by decide +kernel
theorem dX12_tellsRing_59 : decode cX12_tellsRing 59 = .ok (.iload_n 3, 1) := by decide +kernel
theorem dX12_tellsRing_60 : decode cX12_tellsRing 60 = .ok (.bipush 9, 2) := by decide +kernel
theorem dX12_tellsRing_62 : decode cX12_tellsRing 62 = .ok (.invokevirtual 346, 3) := by decide +kernel
theorem dX12_tellsRing_65 : decode cX12_tellsRing 65 = .ok (.iload_n 3, 1) := by decide +kernel
theorem dX12_tellsRing_66 : decode cX12_tellsRing 66 = .ok (.bipush 19, 2) := by decide +kernel
theorem dX12_tellsRing_68 : decode cX12_tellsRing 68 = .ok (.invokevirtual 346, 3) := by decide +kernel
theorem dX12_tellsRing_71 : decode cX12_tellsRing 71 = .ok (.lstore 4, 2) := by decide +kernel
theorem dX12_tellsRing_73 : decode cX12_tellsRing 73 = .ok (.iconst 0, 1) := by decide +kernel
theorem dX12_tellsRing_74 : decode cX12_tellsRing 74 = .ok (.istore 6, 2) := by decide +kernel
theorem dX12_tellsRing_76 : decode cX12_tellsRing 76 = .ok (.iload 6, 2) := by decide +kernel
theorem dX12_tellsRing_78 : decode cX12_tellsRing 78 = .ok (.iconst 3, 1) := by decide +kernel
theorem dX12_tellsRing_79 : decode cX12_tellsRing 79 = .ok (.if_icmp .ge 26, 3) := by decide +kernel
theorem dX12_tellsRing_82 : decode cX12_tellsRing 82 = .ok (.ldc2_w 344, 3) := by decide +kernel
theorem dX12_tellsRing_85 : decode cX12_tellsRing 85 = .ok (.lload 4, 2) := by decide +kernel
theorem dX12_tellsRing_87 : decode cX12_tellsRing 87 = .ok (.lmul, 1) := by decide +kernel
theorem dX12_tellsRing_88 : decode cX12_tellsRing 88 = .ok (.aload_n 0, 1) := by decide +kernel
theorem dX12_tellsRing_89 : decode cX12_tellsRing 89 = .ok (.iload_n 3, 1) := by decide +kernel
theorem dX12_tellsRing_90 : decode cX12_tellsRing 90 = .ok (.iload 6, 2) := by decide +kernel
theorem dX12_tellsRing_92 : decode cX12_tellsRing 92 = .ok (.invokevirtual 269, 3) := by decide +kernel
theorem dX12_tellsRing_95 : decode cX12_tellsRing 95 = .ok (.i2l, 1) := by decide +kernel
theorem dX12_tellsRing_96 : decode cX12_tellsRing 96 = .ok (.ladd, 1) := by decide +kernel
theorem dX12_tellsRing_97 : decode cX12_tellsRing 97 = .ok (.lstore 4, 2) := by decide +kernel
theorem dX12_tellsRing_99 : decode cX12_tellsRing 99 = .ok (.iinc 6 1, 3) := by decide +kernel
theorem dX12_tellsRing_102 : decode cX12_tellsRing 102 = .ok (.goto (-26), 3) := by decide +kernel
theorem dX12_tellsRing_105 : decode cX12_tellsRing 105 = .ok (.ldc2_w 344, 3) := by decide +kernel
theorem dX12_tellsRing_108 : decode cX12_tellsRing 108 = .ok (.lload 4, 2) := by decide +kernel
theorem dX12_tellsRing_110 : decode cX12_tellsRing 110 = .ok (.lmul, 1) := by decide +kernel
theorem dX12_tellsRing_111 : decode cX12_tellsRing 111 = .ok (.aload_n 0, 1) := by decide +kernel
theorem dX12_tellsRing_112 : decode cX12_tellsRing 112 = .ok (.getfield 126, 3) := by decide +kernel
theorem dX12_tellsRing_115 : decode cX12_tellsRing 115 = .ok (.ifCond .le 12, 3) := by decide +kernel
theorem dX12_tellsRing_118 : decode cX12_tellsRing 118 = .ok (.aload_n 0, 1) := by decide +kernel
theorem dX12_tellsRing_119 : decode cX12_tellsRing 119 = .ok (.iload_n 3, 1) := by decide +kernel
theorem dX12_tellsRing_120 : decode cX12_tellsRing 120 = .ok (.iconst 0, 1) := by decide +kernel
theorem dX12_tellsRing_121 : decode cX12_tellsRing 121 = .ok (.invokevirtual 263, 3) := by decide +kernel
theorem dX12_tellsRing_124 : decode cX12_tellsRing 124 = .ok (.goto 5, 3) := by decide +kernel
theorem dX12_tellsRing_127 : decode cX12_tellsRing 127 = .ok (.bipush (-2), 2) := by decide +kernel
theorem dX12_tellsRing_129 : decode cX12_tellsRing 129 = .ok (.i2l, 1) := by decide +kernel
theorem dX12_tellsRing_130 : decode cX12_tellsRing 130 = .ok (.ladd, 1) := by decide +kernel
theorem dX12_tellsRing_131 : decode cX12_tellsRing 131 = .ok (.lstore 4, 2) := by decide +kernel
theorem dX12_tellsRing_133 : decode cX12_tellsRing 133 = .ok (.ldc2_w 344, 3) := by decide +kernel
theorem dX12_tellsRing_136 : decode cX12_tellsRing 136 = .ok (.lload 4, 2) := by decide +kernel
theorem dX12_tellsRing_138 : decode cX12_tellsRing 138 = .ok (.lmul, 1) := by decide +kernel
theorem dX12_tellsRing_139 : decode cX12_tellsRing 139 = .ok (.aload_n 0, 1) := by decide +kernel
theorem dX12_tellsRing_140 : decode cX12_tellsRing 140 = .ok (.iload_n 3, 1) := by decide +kernel
theorem dX12_tellsRing_141 : decode cX12_tellsRing 141 = .ok (.iconst (-1), 1) := by decide +kernel
theorem dX12_tellsRing_142 : decode cX12_tellsRing 142 = .ok (.invokevirtual 306, 3) := by decide +kernel
theorem dX12_tellsRing_145 : decode cX12_tellsRing 145 = .ok (.i2l, 1) := by decide +kernel
theorem dX12_tellsRing_146 : decode cX12_tellsRing 146 = .ok (.ladd, 1) := by decide +kernel
theorem dX12_tellsRing_147 : decode cX12_tellsRing 147 = .ok (.lstore 4, 2) := by decide +kernel
theorem dX12_tellsRing_149 : decode cX12_tellsRing 149 = .ok (.ldc2_w 344, 3) := by decide +kernel
theorem dX12_tellsRing_152 : decode cX12_tellsRing 152 = .ok (.lload 4, 2) := by decide +kernel
theorem dX12_tellsRing_154 : decode cX12_tellsRing 154 = .ok (.lmul, 1) := by decide +kernel
theorem dX12_tellsRing_155 : decode cX12_tellsRing 155 = .ok (.aload_n 0, 1) := by decide +kernel
theorem dX12_tellsRing_156 : decode cX12_tellsRing 156 = .ok (.iload_n 3, 1) := by decide +kernel
theorem dX12_tellsRing_157 : decode cX12_tellsRing 157 = .ok (.iconst 0, 1) := by decide +kernel
theorem dX12_tellsRing_158 : decode cX12_tellsRing 158 = .ok (.invokevirtual 306, 3) := by decide +kernel
theorem dX12_tellsRing_161 : decode cX12_tellsRing 161 = .ok (.i2l, 1) := by decide +kernel
theorem dX12_tellsRing_162 : decode cX12_tellsRing 162 = .ok (.ladd, 1) := by decide +kernel
theorem dX12_tellsRing_163 : decode cX12_tellsRing 163 = .ok (.lreturn, 1) := by decide +kernel
theorem dX12_tellsThing_0 : decode cX12_tellsThing 0 = .ok (.aload_n 0, 1) := by decide +kernel
theorem dX12_tellsThing_1 : decode cX12_tellsThing 1 = .ok (.invokevirtual 227, 3) := by decide +kernel
theorem dX12_tellsThing_4 : decode cX12_tellsThing 4 = .ok (.lload_n 1, 1) := by decide +kernel
theorem dX12_tellsThing_5 : decode cX12_tellsThing 5 = .ok (.lstore 4, 2) := by decide +kernel
theorem dX12_tellsThing_7 : decode cX12_tellsThing 7 = .ok (.iconst 0, 1) := by decide +kernel
theorem dX12_tellsThing_8 : decode cX12_tellsThing 8 = .ok (.istore 6, 2) := by decide +kernel
theorem dX12_tellsThing_10 : decode cX12_tellsThing 10 = .ok (.iload 6, 2) := by decide +kernel
theorem dX12_tellsThing_12 : decode cX12_tellsThing 12 = .ok (.iconst 3, 1) := by decide +kernel
theorem dX12_tellsThing_13 : decode cX12_tellsThing 13 = .ok (.if_icmp .ge 30, 3) := by decide +kernel
theorem dX12_tellsThing_16 : decode cX12_tellsThing 16 = .ok (.ldc2_w 344, 3) := by decide +kernel
theorem dX12_tellsThing_19 : decode cX12_tellsThing 19 = .ok (.lload 4, 2) := by decide +kernel
theorem dX12_tellsThing_21 : decode cX12_tellsThing 21 = .ok (.lmul, 1) := by decide +kernel
theorem dX12_tellsThing_22 : decode cX12_tellsThing 22 = .ok (.aload_n 0, 1) := by decide +kernel
theorem dX12_tellsThing_23 : decode cX12_tellsThing 23 = .ok (.getfield 31, 3) := by decide +kernel
theorem dX12_tellsThing_26 : decode cX12_tellsThing 26 = .ok (.iconst 3, 1) := by decide +kernel
theorem dX12_tellsThing_27 : decode cX12_tellsThing 27 = .ok (.iload_n 3, 1) := by decide +kernel
theorem dX12_tellsThing_28 : decode cX12_tellsThing 28 = .ok (.imul, 1) := by decide +kernel
theorem dX12_tellsThing_29 : decode cX12_tellsThing 29 = .ok (.iload 6, 2) := by decide +kernel
theorem dX12_tellsThing_31 : decode cX12_tellsThing 31 = .ok (.iadd, 1) := by decide +kernel
theorem dX12_tellsThing_32 : decode cX12_tellsThing 32 = .ok (.iaload, 1) := by decide +kernel
theorem dX12_tellsThing_33 : decode cX12_tellsThing 33 = .ok (.i2l, 1) := by decide +kernel
theorem dX12_tellsThing_34 : decode cX12_tellsThing 34 = .ok (.ladd, 1) := by decide +kernel
theorem dX12_tellsThing_35 : decode cX12_tellsThing 35 = .ok (.lstore 4, 2) := by decide +kernel
theorem dX12_tellsThing_37 : decode cX12_tellsThing 37 = .ok (.iinc 6 1, 3) := by decide +kernel
theorem dX12_tellsThing_40 : decode cX12_tellsThing 40 = .ok (.goto (-30), 3) := by decide +kernel
theorem dX12_tellsThing_43 : decode cX12_tellsThing 43 = .ok (.iconst 0, 1) := by decide +kernel
theorem dX12_tellsThing_44 : decode cX12_tellsThing 44 = .ok (.istore 6, 2) := by decide +kernel
theorem dX12_tellsThing_46 : decode cX12_tellsThing 46 = .ok (.iload 6, 2) := by decide +kernel
theorem dX12_tellsThing_48 : decode cX12_tellsThing 48 = .ok (.iconst 3, 1) := by decide +kernel
theorem dX12_tellsThing_49 : decode cX12_tellsThing 49 = .ok (.if_icmp .ge 26, 3) := by decide +kernel
theorem dX12_tellsThing_52 : decode cX12_tellsThing 52 = .ok (.ldc2_w 344, 3) := by decide +kernel
theorem dX12_tellsThing_55 : decode cX12_tellsThing 55 = .ok (.lload 4, 2) := by decide +kernel
theorem dX12_tellsThing_57 : decode cX12_tellsThing 57 = .ok (.lmul, 1) := by decide +kernel
theorem dX12_tellsThing_58 : decode cX12_tellsThing 58 = .ok (.aload_n 0, 1) := by decide +kernel
theorem dX12_tellsThing_59 : decode cX12_tellsThing 59 = .ok (.iload_n 3, 1) := by decide +kernel
theorem dX12_tellsThing_60 : decode cX12_tellsThing 60 = .ok (.iload 6, 2) := by decide +kernel
theorem dX12_tellsThing_62 : decode cX12_tellsThing 62 = .ok (.invokevirtual 236, 3) := by decide +kernel
theorem dX12_tellsThing_65 : decode cX12_tellsThing 65 = .ok (.i2l, 1) := by decide +kernel
theorem dX12_tellsThing_66 : decode cX12_tellsThing 66 = .ok (.ladd, 1) := by decide +kernel
theorem dX12_tellsThing_67 : decode cX12_tellsThing 67 = .ok (.lstore 4, 2) := by decide +kernel
theorem dX12_tellsThing_69 : decode cX12_tellsThing 69 = .ok (.iinc 6 1, 3) := by decide +kernel
theorem dX12_tellsThing_72 : decode cX12_tellsThing 72 = .ok (.goto (-26), 3) := by decide +kernel
theorem dX12_tellsThing_75 : decode cX12_tellsThing 75 = .ok (.ldc2_w 344, 3) := by decide +kernel
theorem dX12_tellsThing_78 : decode cX12_tellsThing 78 = .ok (.lload 4, 2) := by decide +kernel
theorem dX12_tellsThing_80 : decode cX12_tellsThing 80 = .ok (.lmul, 1) := by decide +kernel
theorem dX12_tellsThing_81 : decode cX12_tellsThing 81 = .ok (.aload_n 0, 1) := by decide +kernel
theorem dX12_tellsThing_82 : decode cX12_tellsThing 82 = .ok (.iload_n 3, 1) := by decide +kernel
theorem dX12_tellsThing_83 : decode cX12_tellsThing 83 = .ok (.invokevirtual 272, 3) := by decide +kernel
theorem dX12_tellsThing_86 : decode cX12_tellsThing 86 = .ok (.i2l, 1) := by decide +kernel
theorem dX12_tellsThing_87 : decode cX12_tellsThing 87 = .ok (.ladd, 1) := by decide +kernel
theorem dX12_tellsThing_88 : decode cX12_tellsThing 88 = .ok (.lstore 4, 2) := by decide +kernel
theorem dX12_tellsThing_90 : decode cX12_tellsThing 90 = .ok (.ldc2_w 344, 3) := by decide +kernel
theorem dX12_tellsThing_93 : decode cX12_tellsThing 93 = .ok (.lload 4, 2) := by decide +kernel
theorem dX12_tellsThing_95 : decode cX12_tellsThing 95 = .ok (.lmul, 1) := by decide +kernel
theorem dX12_tellsThing_96 : decode cX12_tellsThing 96 = .ok (.aload_n 0, 1) := by decide +kernel
theorem dX12_tellsThing_97 : decode cX12_tellsThing 97 = .ok (.iload_n 3, 1) := by decide +kernel
theorem dX12_tellsThing_98 : decode cX12_tellsThing 98 = .ok (.iconst (-1), 1) := by decide +kernel
theorem dX12_tellsThing_99 : decode cX12_tellsThing 99 = .ok (.invokevirtual 280, 3) := by decide +kernel
theorem dX12_tellsThing_102 : decode cX12_tellsThing 102 = .ok (.i2l, 1) := by decide +kernel
theorem dX12_tellsThing_103 : decode cX12_tellsThing 103 = .ok (.ladd, 1) := by decide +kernel
theorem dX12_tellsThing_104 : decode cX12_tellsThing 104 = .ok (.lstore 4, 2) := by decide +kernel
theorem dX12_tellsThing_106 : decode cX12_tellsThing 106 = .ok (.ldc2_w 344, 3) := by decide +kernel
theorem dX12_tellsThing_109 : decode cX12_tellsThing 109 = .ok (.lload 4, 2) := by decide +kernel
theorem dX12_tellsThing_111 : decode cX12_tellsThing 111 = .ok (.lmul, 1) := by decide +kernel
theorem dX12_tellsThing_112 : decode cX12_tellsThing 112 = .ok (.aload_n 0, 1) := by decide +kernel
theorem dX12_tellsThing_113 : decode cX12_tellsThing 113 = .ok (.iload_n 3, 1) := by decide +kernel
theorem dX12_tellsThing_114 : decode cX12_tellsThing 114 = .ok (.iconst 0, 1) := by decide +kernel
theorem dX12_tellsThing_115 : decode cX12_tellsThing 115 = .ok (.invokevirtual 280, 3) := by decide +kernel
theorem dX12_tellsThing_118 : decode cX12_tellsThing 118 = .ok (.i2l, 1) := by decide +kernel
theorem dX12_tellsThing_119 : decode cX12_tellsThing 119 = .ok (.ladd, 1) := by decide +kernel
theorem dX12_tellsThing_120 : decode cX12_tellsThing 120 = .ok (.lstore 4, 2) := by decide +kernel
theorem dX12_tellsThing_122 : decode cX12_tellsThing 122 = .ok (.ldc2_w 344, 3) := by decide +kernel
theorem dX12_tellsThing_125 : decode cX12_tellsThing 125 = .ok (.lload 4, 2) := by decide +kernel
theorem dX12_tellsThing_127 : decode cX12_tellsThing 127 = .ok (.lmul, 1) := by decide +kernel
theorem dX12_tellsThing_128 : decode cX12_tellsThing 128 = .ok (.aload_n 0, 1) := by decide +kernel
theorem dX12_tellsThing_129 : decode cX12_tellsThing 129 = .ok (.iconst 5, 1) := by decide +kernel
theorem dX12_tellsThing_130 : decode cX12_tellsThing 130 = .ok (.iconst 5, 1) := by decide +kernel
theorem dX12_tellsThing_131 : decode cX12_tellsThing 131 = .ok (.iload_n 3, 1) := by decide +kernel
theorem dX12_tellsThing_132 : decode cX12_tellsThing 132 = .ok (.iconst 0, 1) := by decide +kernel
theorem dX12_tellsThing_133 : decode cX12_tellsThing 133 = .ok (.iconst 0, 1) := by decide +kernel
theorem dX12_tellsThing_134 : decode cX12_tellsThing 134 = .ok (.invokevirtual 321, 3) := by decide +kernel
theorem dX12_tellsThing_137 : decode cX12_tellsThing 137 = .ok (.ladd, 1) := by decide +kernel
theorem dX12_tellsThing_138 : decode cX12_tellsThing 138 = .ok (.lstore 4, 2) := by decide +kernel
theorem dX12_tellsThing_140 : decode cX12_tellsThing 140 = .ok (.ldc2_w 344, 3) := by decide +kernel
theorem dX12_tellsThing_143 : decode cX12_tellsThing 143 = .ok (.lload 4, 2) := by decide +kernel
theorem dX12_tellsThing_145 : decode cX12_tellsThing 145 = .ok (.lmul, 1) := by decide +kernel
theorem dX12_tellsThing_146 : decode cX12_tellsThing 146 = .ok (.aload_n 0, 1) := by decide +kernel
theorem dX12_tellsThing_147 : decode cX12_tellsThing 147 = .ok (.iconst 5, 1) := by decide +kernel
theorem dX12_tellsThing_148 : decode cX12_tellsThing 148 = .ok (.iconst 5, 1) := by decide +kernel
theorem dX12_tellsThing_149 : decode cX12_tellsThing 149 = .ok (.iload_n 3, 1) := by decide +kernel
theorem dX12_tellsThing_150 : decode cX12_tellsThing 150 = .ok (.iconst 0, 1) := by decide +kernel
theorem dX12_tellsThing_151 : decode cX12_tellsThing 151 = .ok (.iconst 1, 1) := by decide +kernel
theorem dX12_tellsThing_152 : decode cX12_tellsThing 152 = .ok (.invokevirtual 321, 3) := by decide +kernel
theorem dX12_tellsThing_155 : decode cX12_tellsThing 155 = .ok (.ladd, 1) := by decide +kernel
theorem dX12_tellsThing_156 : decode cX12_tellsThing 156 = .ok (.lreturn, 1) := by decide +kernel
theorem dX12_digest_0 : decode cX12_digest 0 = .ok (.ldc2_w 350, 3) := by decide +kernel
theorem dX12_digest_3 : decode cX12_digest 3 = .ok (.lstore_n 1, 1) := by decide +kernel
theorem dX12_digest_4 : decode cX12_digest 4 = .ok (.iconst 0, 1) := by decide +kernel
theorem dX12_digest_5 : decode cX12_digest 5 = .ok (.istore_n 3, 1) := by decide +kernel
theorem dX12_digest_6 : decode cX12_digest 6 = .ok (.iload_n 3, 1) := by decide +kernel
theorem dX12_digest_7 : decode cX12_digest 7 = .ok (.bipush 8, 2) := by decide +kernel
theorem dX12_digest_9 : decode cX12_digest 9 = .ok (.if_icmp .ge 22, 3) := by decide +kernel
theorem dX12_digest_12 : decode cX12_digest 12 = .ok (.ldc2_w 344, 3) := by decide +kernel
theorem dX12_digest_15 : decode cX12_digest 15 = .ok (.lload_n 1, 1) := by decide +kernel
theorem dX12_digest_16 : decode cX12_digest 16 = .ok (.lmul, 1) := by decide +kernel
theorem dX12_digest_17 : decode cX12_digest 17 = .ok (.aload_n 0, 1) := by decide +kernel
theorem dX12_digest_18 : decode cX12_digest 18 = .ok (.iload_n 3, 1) := by decide +kernel
theorem dX12_digest_19 : decode cX12_digest 19 = .ok (.invokevirtual 352, 3) := by decide +kernel
theorem dX12_digest_22 : decode cX12_digest 22 = .ok (.i2l, 1) := by decide +kernel
theorem dX12_digest_23 : decode cX12_digest 23 = .ok (.ladd, 1) := by decide +kernel
theorem dX12_digest_24 : decode cX12_digest 24 = .ok (.lstore_n 1, 1) := by decide +kernel
theorem dX12_digest_25 : decode cX12_digest 25 = .ok (.iinc 3 1, 3) := by decide +kernel
theorem dX12_digest_28 : decode cX12_digest 28 = .ok (.goto (-22), 3) := by decide +kernel
theorem dX12_digest_31 : decode cX12_digest 31 = .ok (.iconst 0, 1) := by decide +kernel
theorem dX12_digest_32 : decode cX12_digest 32 = .ok (.istore_n 3, 1) := by decide +kernel
theorem dX12_digest_33 : decode cX12_digest 33 = .ok (.iload_n 3, 1) := by decide +kernel
theorem dX12_digest_34 : decode cX12_digest 34 = .ok (.iconst 3, 1) := by decide +kernel
theorem dX12_digest_35 : decode cX12_digest 35 = .ok (.if_icmp .ge 22, 3) := by decide +kernel
theorem dX12_digest_38 : decode cX12_digest 38 = .ok (.ldc2_w 344, 3) := by decide +kernel
theorem dX12_digest_41 : decode cX12_digest 41 = .ok (.lload_n 1, 1) := by decide +kernel
theorem dX12_digest_42 : decode cX12_digest 42 = .ok (.lmul, 1) := by decide +kernel
theorem dX12_digest_43 : decode cX12_digest 43 = .ok (.aload_n 0, 1) := by decide +kernel
theorem dX12_digest_44 : decode cX12_digest 44 = .ok (.iload_n 3, 1) := by decide +kernel
theorem dX12_digest_45 : decode cX12_digest 45 = .ok (.invokevirtual 145, 3) := by decide +kernel
theorem dX12_digest_48 : decode cX12_digest 48 = .ok (.i2l, 1) := by decide +kernel
theorem dX12_digest_49 : decode cX12_digest 49 = .ok (.ladd, 1) := by decide +kernel
theorem dX12_digest_50 : decode cX12_digest 50 = .ok (.lstore_n 1, 1) := by decide +kernel
theorem dX12_digest_51 : decode cX12_digest 51 = .ok (.iinc 3 1, 3) := by decide +kernel
theorem dX12_digest_54 : decode cX12_digest 54 = .ok (.goto (-21), 3) := by decide +kernel
theorem dX12_digest_57 : decode cX12_digest 57 = .ok (.iconst 0, 1) := by decide +kernel
theorem dX12_digest_58 : decode cX12_digest 58 = .ok (.istore_n 3, 1) := by decide +kernel
theorem dX12_digest_59 : decode cX12_digest 59 = .ok (.iload_n 3, 1) := by decide +kernel
theorem dX12_digest_60 : decode cX12_digest 60 = .ok (.aload_n 0, 1) := by decide +kernel
theorem dX12_digest_61 : decode cX12_digest 61 = .ok (.getfield 109, 3) := by decide +kernel
theorem dX12_digest_64 : decode cX12_digest 64 = .ok (.if_icmp .ge 23, 3) := by decide +kernel
theorem dX12_digest_67 : decode cX12_digest 67 = .ok (.ldc2_w 344, 3) := by decide +kernel
theorem dX12_digest_70 : decode cX12_digest 70 = .ok (.lload_n 1, 1) := by decide +kernel
theorem dX12_digest_71 : decode cX12_digest 71 = .ok (.lmul, 1) := by decide +kernel
theorem dX12_digest_72 : decode cX12_digest 72 = .ok (.aload_n 0, 1) := by decide +kernel
theorem dX12_digest_73 : decode cX12_digest 73 = .ok (.getfield 28, 3) := by decide +kernel
theorem dX12_digest_76 : decode cX12_digest 76 = .ok (.iload_n 3, 1) := by decide +kernel
theorem dX12_digest_77 : decode cX12_digest 77 = .ok (.iaload, 1) := by decide +kernel
theorem dX12_digest_78 : decode cX12_digest 78 = .ok (.i2l, 1) := by decide +kernel
theorem dX12_digest_79 : decode cX12_digest 79 = .ok (.ladd, 1) := by decide +kernel
theorem dX12_digest_80 : decode cX12_digest 80 = .ok (.lstore_n 1, 1) := by decide +kernel
theorem dX12_digest_81 : decode cX12_digest 81 = .ok (.iinc 3 1, 3) := by decide +kernel
theorem dX12_digest_84 : decode cX12_digest 84 = .ok (.goto (-25), 3) := by decide +kernel
theorem dX12_digest_87 : decode cX12_digest 87 = .ok (.iconst 0, 1) := by decide +kernel
theorem dX12_digest_88 : decode cX12_digest 88 = .ok (.istore_n 3, 1) := by decide +kernel
theorem dX12_digest_89 : decode cX12_digest 89 = .ok (.iload_n 3, 1) := by decide +kernel
theorem dX12_digest_90 : decode cX12_digest 90 = .ok (.bipush 20, 2) := by decide +kernel
theorem dX12_digest_92 : decode cX12_digest 92 = .ok (.if_icmp .ge 23, 3) := by decide +kernel
theorem dX12_digest_95 : decode cX12_digest 95 = .ok (.ldc2_w 344, 3) := by decide +kernel
theorem dX12_digest_98 : decode cX12_digest 98 = .ok (.lload_n 1, 1) := by decide +kernel
theorem dX12_digest_99 : decode cX12_digest 99 = .ok (.lmul, 1) := by decide +kernel
theorem dX12_digest_100 : decode cX12_digest 100 = .ok (.aload_n 0, 1) := by decide +kernel
theorem dX12_digest_101 : decode cX12_digest 101 = .ok (.getfield 34, 3) := by decide +kernel
theorem dX12_digest_104 : decode cX12_digest 104 = .ok (.iload_n 3, 1) := by decide +kernel
theorem dX12_digest_105 : decode cX12_digest 105 = .ok (.iaload, 1) := by decide +kernel
theorem dX12_digest_106 : decode cX12_digest 106 = .ok (.i2l, 1) := by decide +kernel
theorem dX12_digest_107 : decode cX12_digest 107 = .ok (.ladd, 1) := by decide +kernel
theorem dX12_digest_108 : decode cX12_digest 108 = .ok (.lstore_n 1, 1) := by decide +kernel
theorem dX12_digest_109 : decode cX12_digest 109 = .ok (.iinc 3 1, 3) := by decide +kernel
theorem dX12_digest_112 : decode cX12_digest 112 = .ok (.goto (-23), 3) := by decide +kernel
theorem dX12_digest_115 : decode cX12_digest 115 = .ok (.iconst 0, 1) := by decide +kernel
theorem dX12_digest_116 : decode cX12_digest 116 = .ok (.istore_n 3, 1) := by decide +kernel
theorem dX12_digest_117 : decode cX12_digest 117 = .ok (.iload_n 3, 1) := by decide +kernel
theorem dX12_digest_118 : decode cX12_digest 118 = .ok (.aload_n 0, 1) := by decide +kernel
theorem dX12_digest_119 : decode cX12_digest 119 = .ok (.getfield 160, 3) := by decide +kernel
theorem dX12_digest_122 : decode cX12_digest 122 = .ok (.if_icmp .ge 16, 3) := by decide +kernel
theorem dX12_digest_125 : decode cX12_digest 125 = .ok (.aload_n 0, 1) := by decide +kernel
theorem dX12_digest_126 : decode cX12_digest 126 = .ok (.lload_n 1, 1) := by decide +kernel
theorem dX12_digest_127 : decode cX12_digest 127 = .ok (.iload_n 3, 1) := by decide +kernel
theorem dX12_digest_128 : decode cX12_digest 128 = .ok (.invokevirtual 355, 3) := by decide +kernel
theorem dX12_digest_131 : decode cX12_digest 131 = .ok (.lstore_n 1, 1) := by decide +kernel
theorem dX12_digest_132 : decode cX12_digest 132 = .ok (.iinc 3 1, 3) := by decide +kernel
theorem dX12_digest_135 : decode cX12_digest 135 = .ok (.goto (-18), 3) := by decide +kernel
theorem dX12_digest_138 : decode cX12_digest 138 = .ok (.iconst 0, 1) := by decide +kernel
theorem dX12_digest_139 : decode cX12_digest 139 = .ok (.istore_n 3, 1) := by decide +kernel
theorem dX12_digest_140 : decode cX12_digest 140 = .ok (.iload_n 3, 1) := by decide +kernel
theorem dX12_digest_141 : decode cX12_digest 141 = .ok (.aload_n 0, 1) := by decide +kernel
theorem dX12_digest_142 : decode cX12_digest 142 = .ok (.getfield 126, 3) := by decide +kernel
theorem dX12_digest_145 : decode cX12_digest 145 = .ok (.if_icmp .ge 16, 3) := by decide +kernel
theorem dX12_digest_148 : decode cX12_digest 148 = .ok (.aload_n 0, 1) := by decide +kernel
theorem dX12_digest_149 : decode cX12_digest 149 = .ok (.lload_n 1, 1) := by decide +kernel
theorem dX12_digest_150 : decode cX12_digest 150 = .ok (.iload_n 3, 1) := by decide +kernel
theorem dX12_digest_151 : decode cX12_digest 151 = .ok (.invokevirtual 359, 3) := by decide +kernel
theorem dX12_digest_154 : decode cX12_digest 154 = .ok (.lstore_n 1, 1) := by decide +kernel
theorem dX12_digest_155 : decode cX12_digest 155 = .ok (.iinc 3 1, 3) := by decide +kernel
theorem dX12_digest_158 : decode cX12_digest 158 = .ok (.goto (-18), 3) := by decide +kernel
theorem dX12_digest_161 : decode cX12_digest 161 = .ok (.aload_n 0, 1) := by decide +kernel
theorem dX12_digest_162 : decode cX12_digest 162 = .ok (.invokevirtual 227, 3) := by decide +kernel
theorem dX12_digest_165 : decode cX12_digest 165 = .ok (.iconst 0, 1) := by decide +kernel
theorem dX12_digest_166 : decode cX12_digest 166 = .ok (.istore_n 3, 1) := by decide +kernel
theorem dX12_digest_167 : decode cX12_digest 167 = .ok (.iload_n 3, 1) := by decide +kernel
theorem dX12_digest_168 : decode cX12_digest 168 = .ok (.iconst 4, 1) := by decide +kernel
theorem dX12_digest_169 : decode cX12_digest 169 = .ok (.if_icmp .ge 69, 3) := by decide +kernel
theorem dX12_digest_172 : decode cX12_digest 172 = .ok (.ldc2_w 344, 3) := by decide +kernel
theorem dX12_digest_175 : decode cX12_digest 175 = .ok (.lload_n 1, 1) := by decide +kernel
theorem dX12_digest_176 : decode cX12_digest 176 = .ok (.lmul, 1) := by decide +kernel
theorem dX12_digest_177 : decode cX12_digest 177 = .ok (.aload_n 0, 1) := by decide +kernel
theorem dX12_digest_178 : decode cX12_digest 178 = .ok (.iload_n 3, 1) := by decide +kernel
theorem dX12_digest_179 : decode cX12_digest 179 = .ok (.iconst 0, 1) := by decide +kernel
theorem dX12_digest_180 : decode cX12_digest 180 = .ok (.invokevirtual 245, 3) := by decide +kernel
theorem dX12_digest_183 : decode cX12_digest 183 = .ok (.i2l, 1) := by decide +kernel
theorem dX12_digest_184 : decode cX12_digest 184 = .ok (.ladd, 1) := by decide +kernel
theorem dX12_digest_185 : decode cX12_digest 185 = .ok (.lstore_n 1, 1) := by decide +kernel
theorem dX12_digest_186 : decode cX12_digest 186 = .ok (.ldc2_w 344, 3) := by decide +kernel
theorem dX12_digest_189 : decode cX12_digest 189 = .ok (.lload_n 1, 1) := by decide +kernel
theorem dX12_digest_190 : decode cX12_digest 190 = .ok (.lmul, 1) := by decide +kernel
theorem dX12_digest_191 : decode cX12_digest 191 = .ok (.aload_n 0, 1) := by decide +kernel
theorem dX12_digest_192 : decode cX12_digest 192 = .ok (.iload_n 3, 1) := by decide +kernel
theorem dX12_digest_193 : decode cX12_digest 193 = .ok (.iconst 1, 1) := by decide +kernel
theorem dX12_digest_194 : decode cX12_digest 194 = .ok (.invokevirtual 245, 3) := by decide +kernel
theorem dX12_digest_197 : decode cX12_digest 197 = .ok (.i2l, 1) := by decide +kernel
theorem dX12_digest_198 : decode cX12_digest 198 = .ok (.ladd, 1) := by decide +kernel
theorem dX12_digest_199 : decode cX12_digest 199 = .ok (.lstore_n 1, 1) := by decide +kernel
theorem dX12_digest_200 : decode cX12_digest 200 = .ok (.ldc2_w 344, 3) := by decide +kernel
theorem dX12_digest_203 : decode cX12_digest 203 = .ok (.lload_n 1, 1) := by decide +kernel
theorem dX12_digest_204 : decode cX12_digest 204 = .ok (.lmul, 1) := by decide +kernel
theorem dX12_digest_205 : decode cX12_digest 205 = .ok (.aload_n 0, 1) := by decide +kernel
theorem dX12_digest_206 : decode cX12_digest 206 = .ok (.iload_n 3, 1) := by decide +kernel
theorem dX12_digest_207 : decode cX12_digest 207 = .ok (.bipush 9, 2) := by decide +kernel
theorem dX12_digest_209 : decode cX12_digest 209 = .ok (.iconst (-1), 1) := by decide +kernel
theorem dX12_digest_210 : decode cX12_digest 210 = .ok (.invokevirtual 291, 3) := by decide +kernel
theorem dX12_digest_213 : decode cX12_digest 213 = .ok (.i2l, 1) := by decide +kernel
theorem dX12_digest_214 : decode cX12_digest 214 = .ok (.ladd, 1) := by decide +kernel
theorem dX12_digest_215 : decode cX12_digest 215 = .ok (.lstore_n 1, 1) := by decide +kernel
theorem dX12_digest_216 : decode cX12_digest 216 = .ok (.ldc2_w 344, 3) := by decide +kernel
theorem dX12_digest_219 : decode cX12_digest 219 = .ok (.lload_n 1, 1) := by decide +kernel
theorem dX12_digest_220 : decode cX12_digest 220 = .ok (.lmul, 1) := by decide +kernel
theorem dX12_digest_221 : decode cX12_digest 221 = .ok (.aload_n 0, 1) := by decide +kernel
theorem dX12_digest_222 : decode cX12_digest 222 = .ok (.iload_n 3, 1) := by decide +kernel
theorem dX12_digest_223 : decode cX12_digest 223 = .ok (.bipush 9, 2) := by decide +kernel
theorem dX12_digest_225 : decode cX12_digest 225 = .ok (.iconst 0, 1) := by decide +kernel
theorem dX12_digest_226 : decode cX12_digest 226 = .ok (.invokevirtual 291, 3) := by decide +kernel
theorem dX12_digest_229 : decode cX12_digest 229 = .ok (.i2l, 1) := by decide +kernel
theorem dX12_digest_230 : decode cX12_digest 230 = .ok (.ladd, 1) := by decide +kernel
theorem dX12_digest_231 : decode cX12_digest 231 = .ok (.lstore_n 1, 1) := by decide +kernel
theorem dX12_digest_232 : decode cX12_digest 232 = .ok (.iinc 3 1, 3) := by decide +kernel
theorem dX12_digest_235 : decode cX12_digest 235 = .ok (.goto (-68), 3) := by decide +kernel
theorem dX12_digest_238 : decode cX12_digest 238 = .ok (.ldc2_w 344, 3) := by decide +kernel
theorem dX12_digest_241 : decode cX12_digest 241 = .ok (.lload_n 1, 1) := by decide +kernel
theorem dX12_digest_242 : decode cX12_digest 242 = .ok (.lmul, 1) := by decide +kernel
theorem dX12_digest_243 : decode cX12_digest 243 = .ok (.aload_n 0, 1) := by decide +kernel
theorem dX12_digest_244 : decode cX12_digest 244 = .ok (.getfield 193, 3) := by decide +kernel
theorem dX12_digest_247 : decode cX12_digest 247 = .ok (.i2l, 1) := by decide +kernel
theorem dX12_digest_248 : decode cX12_digest 248 = .ok (.ladd, 1) := by decide +kernel
theorem dX12_digest_249 : decode cX12_digest 249 = .ok (.lstore_n 1, 1) := by decide +kernel
theorem dX12_digest_250 : decode cX12_digest 250 = .ok (.ldc2_w 344, 3) := by decide +kernel
theorem dX12_digest_253 : decode cX12_digest 253 = .ok (.lload_n 1, 1) := by decide +kernel
theorem dX12_digest_254 : decode cX12_digest 254 = .ok (.lmul, 1) := by decide +kernel
theorem dX12_digest_255 : decode cX12_digest 255 = .ok (.aload_n 0, 1) := by decide +kernel
theorem dX12_digest_256 : decode cX12_digest 256 = .ok (.getfield 196, 3) := by decide +kernel
theorem dX12_digest_259 : decode cX12_digest 259 = .ok (.i2l, 1) := by decide +kernel
theorem dX12_digest_260 : decode cX12_digest 260 = .ok (.ladd, 1) := by decide +kernel
theorem dX12_digest_261 : decode cX12_digest 261 = .ok (.lstore_n 1, 1) := by decide +kernel
theorem dX12_digest_262 : decode cX12_digest 262 = .ok (.ldc2_w 344, 3) := by decide +kernel
theorem dX12_digest_265 : decode cX12_digest 265 = .ok (.lload_n 1, 1) := by decide +kernel
theorem dX12_digest_266 : decode cX12_digest 266 = .ok (.lmul, 1) := by decide +kernel
theorem dX12_digest_267 : decode cX12_digest 267 = .ok (.aload_n 0, 1) := by decide +kernel
theorem dX12_digest_268 : decode cX12_digest 268 = .ok (.invokevirtual 248, 3) := by decide +kernel
theorem dX12_digest_271 : decode cX12_digest 271 = .ok (.i2l, 1) := by decide +kernel
theorem dX12_digest_272 : decode cX12_digest 272 = .ok (.ladd, 1) := by decide +kernel
theorem dX12_digest_273 : decode cX12_digest 273 = .ok (.lstore_n 1, 1) := by decide +kernel
theorem dX12_digest_274 : decode cX12_digest 274 = .ok (.ldc2_w 344, 3) := by decide +kernel
theorem dX12_digest_277 : decode cX12_digest 277 = .ok (.lload_n 1, 1) := by decide +kernel
theorem dX12_digest_278 : decode cX12_digest 278 = .ok (.lmul, 1) := by decide +kernel
theorem dX12_digest_279 : decode cX12_digest 279 = .ok (.aload_n 0, 1) := by decide +kernel
theorem dX12_digest_280 : decode cX12_digest 280 = .ok (.invokevirtual 257, 3) := by decide +kernel
theorem dX12_digest_283 : decode cX12_digest 283 = .ok (.i2l, 1) := by decide +kernel
theorem dX12_digest_284 : decode cX12_digest 284 = .ok (.ladd, 1) := by decide +kernel
theorem dX12_digest_285 : decode cX12_digest 285 = .ok (.lstore_n 1, 1) := by decide +kernel
theorem dX12_digest_286 : decode cX12_digest 286 = .ok (.ldc2_w 344, 3) := by decide +kernel
theorem dX12_digest_289 : decode cX12_digest 289 = .ok (.lload_n 1, 1) := by decide +kernel
theorem dX12_digest_290 : decode cX12_digest 290 = .ok (.lmul, 1) := by decide +kernel
theorem dX12_digest_291 : decode cX12_digest 291 = .ok (.aload_n 0, 1) := by decide +kernel
theorem dX12_digest_292 : decode cX12_digest 292 = .ok (.invokevirtual 260, 3) := by decide +kernel
theorem dX12_digest_295 : decode cX12_digest 295 = .ok (.i2l, 1) := by decide +kernel
theorem dX12_digest_296 : decode cX12_digest 296 = .ok (.ladd, 1) := by decide +kernel
theorem dX12_digest_297 : decode cX12_digest 297 = .ok (.lstore_n 1, 1) := by decide +kernel
theorem dX12_digest_298 : decode cX12_digest 298 = .ok (.ldc2_w 344, 3) := by decide +kernel
theorem dX12_digest_301 : decode cX12_digest 301 = .ok (.lload_n 1, 1) := by decide +kernel
theorem dX12_digest_302 : decode cX12_digest 302 = .ok (.lmul, 1) := by decide +kernel
theorem dX12_digest_303 : decode cX12_digest 303 = .ok (.aload_n 0, 1) := by decide +kernel
theorem dX12_digest_304 : decode cX12_digest 304 = .ok (.iconst 0, 1) := by decide +kernel
theorem dX12_digest_305 : decode cX12_digest 305 = .ok (.invokevirtual 283, 3) := by decide +kernel
theorem dX12_digest_308 : decode cX12_digest 308 = .ok (.i2l, 1) := by decide +kernel
theorem dX12_digest_309 : decode cX12_digest 309 = .ok (.ladd, 1) := by decide +kernel
theorem dX12_digest_310 : decode cX12_digest 310 = .ok (.lstore_n 1, 1) := by decide +kernel
theorem dX12_digest_311 : decode cX12_digest 311 = .ok (.ldc2_w 344, 3) := by decide +kernel
theorem dX12_digest_314 : decode cX12_digest 314 = .ok (.lload_n 1, 1) := by decide +kernel
theorem dX12_digest_315 : decode cX12_digest 315 = .ok (.lmul, 1) := by decide +kernel
theorem dX12_digest_316 : decode cX12_digest 316 = .ok (.aload_n 0, 1) := by decide +kernel
theorem dX12_digest_317 : decode cX12_digest 317 = .ok (.iconst 1, 1) := by decide +kernel
theorem dX12_digest_318 : decode cX12_digest 318 = .ok (.invokevirtual 283, 3) := by decide +kernel
theorem dX12_digest_321 : decode cX12_digest 321 = .ok (.i2l, 1) := by decide +kernel
theorem dX12_digest_322 : decode cX12_digest 322 = .ok (.ladd, 1) := by decide +kernel
theorem dX12_digest_323 : decode cX12_digest 323 = .ok (.lstore_n 1, 1) := by decide +kernel
theorem dX12_digest_324 : decode cX12_digest 324 = .ok (.ldc2_w 344, 3) := by decide +kernel
theorem dX12_digest_327 : decode cX12_digest 327 = .ok (.lload_n 1, 1) := by decide +kernel
theorem dX12_digest_328 : decode cX12_digest 328 = .ok (.lmul, 1) := by decide +kernel
theorem dX12_digest_329 : decode cX12_digest 329 = .ok (.aload_n 0, 1) := by decide +kernel
theorem dX12_digest_330 : decode cX12_digest 330 = .ok (.invokevirtual 303, 3) := by decide +kernel
theorem dX12_digest_333 : decode cX12_digest 333 = .ok (.i2l, 1) := by decide +kernel
theorem dX12_digest_334 : decode cX12_digest 334 = .ok (.ladd, 1) := by decide +kernel
theorem dX12_digest_335 : decode cX12_digest 335 = .ok (.lstore_n 1, 1) := by decide +kernel
theorem dX12_digest_336 : decode cX12_digest 336 = .ok (.ldc2_w 344, 3) := by decide +kernel
theorem dX12_digest_339 : decode cX12_digest 339 = .ok (.lload_n 1, 1) := by decide +kernel
theorem dX12_digest_340 : decode cX12_digest 340 = .ok (.lmul, 1) := by decide +kernel
theorem dX12_digest_341 : decode cX12_digest 341 = .ok (.aload_n 0, 1) := by decide +kernel
theorem dX12_digest_342 : decode cX12_digest 342 = .ok (.invokevirtual 309, 3) := by decide +kernel
theorem dX12_digest_345 : decode cX12_digest 345 = .ok (.i2l, 1) := by decide +kernel
theorem dX12_digest_346 : decode cX12_digest 346 = .ok (.ladd, 1) := by decide +kernel
theorem dX12_digest_347 : decode cX12_digest 347 = .ok (.lstore_n 1, 1) := by decide +kernel
theorem dX12_digest_348 : decode cX12_digest 348 = .ok (.ldc2_w 344, 3) := by decide +kernel
theorem dX12_digest_351 : decode cX12_digest 351 = .ok (.lload_n 1, 1) := by decide +kernel
theorem dX12_digest_352 : decode cX12_digest 352 = .ok (.lmul, 1) := by decide +kernel
theorem dX12_digest_353 : decode cX12_digest 353 = .ok (.aload_n 0, 1) := by decide +kernel
theorem dX12_digest_354 : decode cX12_digest 354 = .ok (.invokevirtual 312, 3) := by decide +kernel
theorem dX12_digest_357 : decode cX12_digest 357 = .ok (.i2l, 1) := by decide +kernel
theorem dX12_digest_358 : decode cX12_digest 358 = .ok (.ladd, 1) := by decide +kernel
theorem dX12_digest_359 : decode cX12_digest 359 = .ok (.lstore_n 1, 1) := by decide +kernel
theorem dX12_digest_360 : decode cX12_digest 360 = .ok (.ldc2_w 344, 3) := by decide +kernel
theorem dX12_digest_363 : decode cX12_digest 363 = .ok (.lload_n 1, 1) := by decide +kernel
theorem dX12_digest_364 : decode cX12_digest 364 = .ok (.lmul, 1) := by decide +kernel
theorem dX12_digest_365 : decode cX12_digest 365 = .ok (.aload_n 0, 1) := by decide +kernel
theorem dX12_digest_366 : decode cX12_digest 366 = .ok (.bipush 7, 2) := by decide +kernel
theorem dX12_digest_368 : decode cX12_digest 368 = .ok (.bipush 6, 2) := by decide +kernel
theorem dX12_digest_370 : decode cX12_digest 370 = .ok (.iconst 0, 1) := by decide +kernel
theorem dX12_digest_371 : decode cX12_digest 371 = .ok (.invokevirtual 338, 3) := by decide +kernel
theorem dX12_digest_374 : decode cX12_digest 374 = .ok (.i2l, 1) := by decide +kernel
theorem dX12_digest_375 : decode cX12_digest 375 = .ok (.ladd, 1) := by decide +kernel
theorem dX12_digest_376 : decode cX12_digest 376 = .ok (.lstore_n 1, 1) := by decide +kernel
theorem dX12_digest_377 : decode cX12_digest 377 = .ok (.ldc2_w 344, 3) := by decide +kernel
theorem dX12_digest_380 : decode cX12_digest 380 = .ok (.lload_n 1, 1) := by decide +kernel
theorem dX12_digest_381 : decode cX12_digest 381 = .ok (.lmul, 1) := by decide +kernel
theorem dX12_digest_382 : decode cX12_digest 382 = .ok (.aload_n 0, 1) := by decide +kernel
theorem dX12_digest_383 : decode cX12_digest 383 = .ok (.bipush 7, 2) := by decide +kernel
theorem dX12_digest_385 : decode cX12_digest 385 = .ok (.bipush 6, 2) := by decide +kernel
theorem dX12_digest_387 : decode cX12_digest 387 = .ok (.iconst 1, 1) := by decide +kernel
theorem dX12_digest_388 : decode cX12_digest 388 = .ok (.invokevirtual 338, 3) := by decide +kernel
theorem dX12_digest_391 : decode cX12_digest 391 = .ok (.i2l, 1) := by decide +kernel
theorem dX12_digest_392 : decode cX12_digest 392 = .ok (.ladd, 1) := by decide +kernel
theorem dX12_digest_393 : decode cX12_digest 393 = .ok (.lreturn, 1) := by decide +kernel
