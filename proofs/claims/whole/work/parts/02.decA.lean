theorem dX0_init_0 : decode cX0_init 0 = .ok (.aload_n 0, 1) := by decide +kernel
theorem dX0_init_1 : decode cX0_init 1 = .ok (.invokespecial 3, 3) := by decide +kernel
theorem dX0_init_4 : decode cX0_init 4 = .ok (.aload_n 0, 1) := by decide +kernel
theorem dX0_init_5 : decode cX0_init 5 = .ok (.bipush 10, 2) := by decide +kernel
theorem dX0_init_7 : decode cX0_init 7 = .ok (.newarray .int, 2) := by decide +kernel
theorem dX0_init_9 : decode cX0_init 9 = .ok (.putfield 9, 3) := by decide +kernel
theorem dX0_init_12 : decode cX0_init 12 = .ok (.aload_n 0, 1) := by decide +kernel
theorem dX0_init_13 : decode cX0_init 13 = .ok (.iconst 0, 1) := by decide +kernel
theorem dX0_init_14 : decode cX0_init 14 = .ok (.putfield 15, 3) := by decide +kernel
theorem dX0_init_17 : decode cX0_init 17 = .ok (.aload_n 0, 1) := by decide +kernel
theorem dX0_init_18 : decode cX0_init 18 = .ok (.bipush 32, 2) := by decide +kernel
theorem dX0_init_20 : decode cX0_init 20 = .ok (.newarray .long, 2) := by decide +kernel
theorem dX0_init_22 : decode cX0_init 22 = .ok (.putfield 19, 3) := by decide +kernel
theorem dX0_init_25 : decode cX0_init 25 = .ok (.aload_n 0, 1) := by decide +kernel
theorem dX0_init_26 : decode cX0_init 26 = .ok (.iconst 0, 1) := by decide +kernel
theorem dX0_init_27 : decode cX0_init 27 = .ok (.putfield 23, 3) := by decide +kernel
theorem dX0_init_30 : decode cX0_init 30 = .ok (.aload_n 0, 1) := by decide +kernel
theorem dX0_init_31 : decode cX0_init 31 = .ok (.iconst 0, 1) := by decide +kernel
theorem dX0_init_32 : decode cX0_init 32 = .ok (.putfield 26, 3) := by decide +kernel
theorem dX0_init_35 : decode cX0_init 35 = .ok (.aload_n 0, 1) := by decide +kernel
theorem dX0_init_36 : decode cX0_init 36 = .ok (.iconst 0, 1) := by decide +kernel
theorem dX0_init_37 : decode cX0_init 37 = .ok (.putfield 29, 3) := by decide +kernel
theorem dX0_init_40 : decode cX0_init 40 = .ok (.aload_n 0, 1) := by decide +kernel
theorem dX0_init_41 : decode cX0_init 41 = .ok (.aload_n 1, 1) := by decide +kernel
theorem dX0_init_42 : decode cX0_init 42 = .ok (.putfield 32, 3) := by decide +kernel
theorem dX0_init_45 : decode cX0_init 45 = .ok (.aload_n 0, 1) := by decide +kernel
theorem dX0_init_46 : decode cX0_init 46 = .ok (.aload_n 2, 1) := by decide +kernel
theorem dX0_init_47 : decode cX0_init 47 = .ok (.putfield 36, 3) := by decide +kernel
theorem dX0_init_50 : decode cX0_init 50 = .ok (.aload_n 0, 1) := by decide +kernel
theorem dX0_init_51 : decode cX0_init 51 = .ok (.aload_n 3, 1) := by decide +kernel
theorem dX0_init_52 : decode cX0_init 52 = .ok (.putfield 40, 3) := by decide +kernel
theorem dX0_init_55 : decode cX0_init 55 = .ok (.aload_n 0, 1) := by decide +kernel
theorem dX0_init_56 : decode cX0_init 56 = .ok (.aload 4, 2) := by decide +kernel
theorem dX0_init_58 : decode cX0_init 58 = .ok (.putfield 43, 3) := by decide +kernel
theorem dX0_init_61 : decode cX0_init 61 = .ok (.return_, 1) := by decide +kernel
theorem dX0_weigh_0 : decode cX0_weigh 0 = .ok (.aload_n 0, 1) := by decide +kernel
theorem dX0_weigh_1 : decode cX0_weigh 1 = .ok (.iload_n 2, 1) := by decide +kernel
theorem dX0_weigh_2 : decode cX0_weigh 2 = .ok (.invokevirtual 47, 3) := by decide +kernel
theorem dX0_weigh_5 : decode cX0_weigh 5 = .ok (.aload_n 0, 1) := by decide +kernel
theorem dX0_weigh_6 : decode cX0_weigh 6 = .ok (.getfield 19, 3) := by decide +kernel
theorem dX0_weigh_9 : decode cX0_weigh 9 = .ok (.lconst 0, 1) := by decide +kernel
theorem dX0_weigh_10 : decode cX0_weigh 10 = .ok (.invokestatic 51, 3) := by decide +kernel
theorem dX0_weigh_13 : decode cX0_weigh 13 = .ok (.aload_n 0, 1) := by decide +kernel
theorem dX0_weigh_14 : decode cX0_weigh 14 = .ok (.getfield 40, 3) := by decide +kernel
theorem dX0_weigh_17 : decode cX0_weigh 17 = .ok (.aload_n 0, 1) := by decide +kernel
theorem dX0_weigh_18 : decode cX0_weigh 18 = .ok (.getfield 36, 3) := by decide +kernel
theorem dX0_weigh_21 : decode cX0_weigh 21 = .ok (.invokevirtual 57, 3) := by decide +kernel
theorem dX0_weigh_24 : decode cX0_weigh 24 = .ok (.iconst 0, 1) := by decide +kernel
theorem dX0_weigh_25 : decode cX0_weigh 25 = .ok (.istore_n 3, 1) := by decide +kernel
theorem dX0_weigh_26 : decode cX0_weigh 26 = .ok (.iload_n 3, 1) := by decide +kernel
theorem dX0_weigh_27 : decode cX0_weigh 27 = .ok (.iconst 1, 1) := by decide +kernel
theorem dX0_weigh_28 : decode cX0_weigh 28 = .ok (.aload_n 0, 1) := by decide +kernel
theorem dX0_weigh_29 : decode cX0_weigh 29 = .ok (.getfield 15, 3) := by decide +kernel
theorem dX0_weigh_32 : decode cX0_weigh 32 = .ok (.ishl, 1) := by decide +kernel
theorem dX0_weigh_33 : decode cX0_weigh 33 = .ok (.if_icmp .ge 54, 3) := by decide +kernel
theorem dX0_weigh_36 : decode cX0_weigh 36 = .ok (.iload_n 3, 1) := by decide +kernel
theorem dX0_weigh_37 : decode cX0_weigh 37 = .ok (.invokestatic 63, 3) := by decide +kernel
theorem dX0_weigh_40 : decode cX0_weigh 40 = .ok (.istore 4, 2) := by decide +kernel
theorem dX0_weigh_42 : decode cX0_weigh 42 = .ok (.iload_n 1, 1) := by decide +kernel
theorem dX0_weigh_43 : decode cX0_weigh 43 = .ok (.i2l, 1) := by decide +kernel
theorem dX0_weigh_44 : decode cX0_weigh 44 = .ok (.iload 4, 2) := by decide +kernel
theorem dX0_weigh_46 : decode cX0_weigh 46 = .ok (.invokestatic 69, 3) := by decide +kernel
theorem dX0_weigh_49 : decode cX0_weigh 49 = .ok (.bipush 16, 2) := by decide +kernel
theorem dX0_weigh_51 : decode cX0_weigh 51 = .ok (.iload_n 1, 1) := by decide +kernel
theorem dX0_weigh_52 : decode cX0_weigh 52 = .ok (.isub, 1) := by decide +kernel
theorem dX0_weigh_53 : decode cX0_weigh 53 = .ok (.i2l, 1) := by decide +kernel
theorem dX0_weigh_54 : decode cX0_weigh 54 = .ok (.aload_n 0, 1) := by decide +kernel
theorem dX0_weigh_55 : decode cX0_weigh 55 = .ok (.getfield 15, 3) := by decide +kernel
theorem dX0_weigh_58 : decode cX0_weigh 58 = .ok (.iload 4, 2) := by decide +kernel
theorem dX0_weigh_60 : decode cX0_weigh 60 = .ok (.isub, 1) := by decide +kernel
theorem dX0_weigh_61 : decode cX0_weigh 61 = .ok (.invokestatic 69, 3) := by decide +kernel
theorem dX0_weigh_64 : decode cX0_weigh 64 = .ok (.lmul, 1) := by decide +kernel
theorem dX0_weigh_65 : decode cX0_weigh 65 = .ok (.lstore 5, 2) := by decide +kernel
theorem dX0_weigh_67 : decode cX0_weigh 67 = .ok (.lload 5, 2) := by decide +kernel
theorem dX0_weigh_69 : decode cX0_weigh 69 = .ok (.lconst 0, 1) := by decide +kernel
theorem dX0_weigh_70 : decode cX0_weigh 70 = .ok (.lcmp, 1) := by decide +kernel
theorem dX0_weigh_71 : decode cX0_weigh 71 = .ok (.ifCond .le 10, 3) := by decide +kernel
theorem dX0_weigh_74 : decode cX0_weigh 74 = .ok (.aload_n 0, 1) := by decide +kernel
theorem dX0_weigh_75 : decode cX0_weigh 75 = .ok (.iload_n 3, 1) := by decide +kernel
theorem dX0_weigh_76 : decode cX0_weigh 76 = .ok (.lload 5, 2) := by decide +kernel
theorem dX0_weigh_78 : decode cX0_weigh 78 = .ok (.invokevirtual 73, 3) := by decide +kernel
theorem dX0_weigh_81 : decode cX0_weigh 81 = .ok (.iinc 3 1, 3) := by decide +kernel
theorem dX0_weigh_84 : decode cX0_weigh 84 = .ok (.goto (-58), 3) := by decide +kernel
theorem dX0_weigh_87 : decode cX0_weigh 87 = .ok (.return_, 1) := by decide +kernel
theorem dX0_findWindy_0 : decode cX0_findWindy 0 = .ok (.bipush 20, 2) := by decide +kernel
theorem dX0_findWindy_2 : decode cX0_findWindy 2 = .ok (.istore_n 2, 1) := by decide +kernel
theorem dX0_findWindy_3 : decode cX0_findWindy 3 = .ok (.iconst 0, 1) := by decide +kernel
theorem dX0_findWindy_4 : decode cX0_findWindy 4 = .ok (.istore_n 3, 1) := by decide +kernel
theorem dX0_findWindy_5 : decode cX0_findWindy 5 = .ok (.iload_n 3, 1) := by decide +kernel
theorem dX0_findWindy_6 : decode cX0_findWindy 6 = .ok (.aload_n 0, 1) := by decide +kernel
theorem dX0_findWindy_7 : decode cX0_findWindy 7 = .ok (.getfield 36, 3) := by decide +kernel
theorem dX0_findWindy_10 : decode cX0_findWindy 10 = .ok (.getfield 77, 3) := by decide +kernel
theorem dX0_findWindy_13 : decode cX0_findWindy 13 = .ok (.if_icmp .ge 23, 3) := by decide +kernel
theorem dX0_findWindy_16 : decode cX0_findWindy 16 = .ok (.iload_n 2, 1) := by decide +kernel
theorem dX0_findWindy_17 : decode cX0_findWindy 17 = .ok (.aload_n 0, 1) := by decide +kernel
theorem dX0_findWindy_18 : decode cX0_findWindy 18 = .ok (.getfield 36, 3) := by decide +kernel
theorem dX0_findWindy_21 : decode cX0_findWindy 21 = .ok (.getfield 80, 3) := by decide +kernel
theorem dX0_findWindy_24 : decode cX0_findWindy 24 = .ok (.iload_n 3, 1) := by decide +kernel
theorem dX0_findWindy_25 : decode cX0_findWindy 25 = .ok (.iaload, 1) := by decide +kernel
theorem dX0_findWindy_26 : decode cX0_findWindy 26 = .ok (.invokestatic 83, 3) := by decide +kernel
theorem dX0_findWindy_29 : decode cX0_findWindy 29 = .ok (.istore_n 2, 1) := by decide +kernel
theorem dX0_findWindy_30 : decode cX0_findWindy 30 = .ok (.iinc 3 1, 3) := by decide +kernel
theorem dX0_findWindy_33 : decode cX0_findWindy 33 = .ok (.goto (-28), 3) := by decide +kernel
theorem dX0_findWindy_36 : decode cX0_findWindy 36 = .ok (.aload_n 0, 1) := by decide +kernel
theorem dX0_findWindy_37 : decode cX0_findWindy 37 = .ok (.iconst 0, 1) := by decide +kernel
theorem dX0_findWindy_38 : decode cX0_findWindy 38 = .ok (.putfield 15, 3) := by decide +kernel
theorem dX0_findWindy_41 : decode cX0_findWindy 41 = .ok (.iconst 0, 1) := by decide +kernel
theorem dX0_findWindy_42 : decode cX0_findWindy 42 = .ok (.istore_n 3, 1) := by decide +kernel
theorem dX0_findWindy_43 : decode cX0_findWindy 43 = .ok (.iload_n 3, 1) := by decide +kernel
theorem dX0_findWindy_44 : decode cX0_findWindy 44 = .ok (.iload_n 1, 1) := by decide +kernel
theorem dX0_findWindy_45 : decode cX0_findWindy 45 = .ok (.if_icmp .gt 65, 3) := by decide +kernel
theorem dX0_findWindy_48 : decode cX0_findWindy 48 = .ok (.iload_n 3, 1) := by decide +kernel
theorem dX0_findWindy_49 : decode cX0_findWindy 49 = .ok (.bipush 9, 2) := by decide +kernel
theorem dX0_findWindy_51 : decode cX0_findWindy 51 = .ok (.if_icmp .gt 59, 3) := by decide +kernel
theorem dX0_findWindy_54 : decode cX0_findWindy 54 = .ok (.iload_n 3, 1) := by decide +kernel
theorem dX0_findWindy_55 : decode cX0_findWindy 55 = .ok (.iload_n 2, 1) := by decide +kernel
theorem dX0_findWindy_56 : decode cX0_findWindy 56 = .ok (.if_icmp .le 48, 3) := by decide +kernel
theorem dX0_findWindy_59 : decode cX0_findWindy 59 = .ok (.aload_n 0, 1) := by decide +kernel
theorem dX0_findWindy_60 : decode cX0_findWindy 60 = .ok (.getfield 36, 3) := by decide +kernel
theorem dX0_findWindy_63 : decode cX0_findWindy 63 = .ok (.getfield 89, 3) := by decide +kernel
theorem dX0_findWindy_66 : decode cX0_findWindy 66 = .ok (.iload_n 3, 1) := by decide +kernel
theorem dX0_findWindy_67 : decode cX0_findWindy 67 = .ok (.iaload, 1) := by decide +kernel
theorem dX0_findWindy_68 : decode cX0_findWindy 68 = .ok (.iconst (-1), 1) := by decide +kernel
theorem dX0_findWindy_69 : decode cX0_findWindy 69 = .ok (.if_icmp .eq 35, 3) := by decide +kernel
theorem dX0_findWindy_72 : decode cX0_findWindy 72 = .ok (.aload_n 0, 1) := by decide +kernel
theorem dX0_findWindy_73 : decode cX0_findWindy 73 = .ok (.getfield 15, 3) := by decide +kernel
theorem dX0_findWindy_76 : decode cX0_findWindy 76 = .ok (.aload_n 0, 1) := by decide +kernel
theorem dX0_findWindy_77 : decode cX0_findWindy 77 = .ok (.getfield 9, 3) := by decide +kernel
theorem dX0_findWindy_80 : decode cX0_findWindy 80 = .ok (.arraylength, 1) := by decide +kernel
theorem dX0_findWindy_81 : decode cX0_findWindy 81 = .ok (.if_icmp .ge 23, 3) := by decide +kernel
theorem dX0_findWindy_84 : decode cX0_findWindy 84 = .ok (.aload_n 0, 1) := by decide +kernel
theorem dX0_findWindy_85 : decode cX0_findWindy 85 = .ok (.getfield 9, 3) := by decide +kernel
theorem dX0_findWindy_88 : decode cX0_findWindy 88 = .ok (.aload_n 0, 1) := by decide +kernel
theorem dX0_findWindy_89 : decode cX0_findWindy 89 = .ok (.getfield 15, 3) := by decide +kernel
theorem dX0_findWindy_92 : decode cX0_findWindy 92 = .ok (.iload_n 3, 1) := by decide +kernel
theorem dX0_findWindy_93 : decode cX0_findWindy 93 = .ok (.iastore, 1) := by decide +kernel
theorem dX0_findWindy_94 : decode cX0_findWindy 94 = .ok (.aload_n 0, 1) := by decide +kernel
theorem dX0_findWindy_95 : decode cX0_findWindy 95 = .ok (.dup, 1) := by decide +kernel
theorem dX0_findWindy_96 : decode cX0_findWindy 96 = .ok (.getfield 15, 3) := by decide +kernel
theorem dX0_findWindy_99 : decode cX0_findWindy 99 = .ok (.iconst 1, 1) := by decide +kernel
theorem dX0_findWindy_100 : decode cX0_findWindy 100 = .ok (.iadd, 1) := by decide +kernel
theorem dX0_findWindy_101 : decode cX0_findWindy 101 = .ok (.putfield 15, 3) := by decide +kernel
theorem dX0_findWindy_104 : decode cX0_findWindy 104 = .ok (.iinc 3 1, 3) := by decide +kernel
theorem dX0_findWindy_107 : decode cX0_findWindy 107 = .ok (.goto (-64), 3) := by decide +kernel
theorem dX0_findWindy_110 : decode cX0_findWindy 110 = .ok (.return_, 1) := by decide +kernel
theorem dX0_power_0 : decode cX0_power 0 = .ok (.lconst 1, 1) := by decide +kernel
theorem dX0_power_1 : decode cX0_power 1 = .ok (.lstore_n 3, 1) := by decide +kernel
theorem dX0_power_2 : decode cX0_power 2 = .ok (.iconst 0, 1) := by decide +kernel
theorem dX0_power_3 : decode cX0_power 3 = .ok (.istore 5, 2) := by decide +kernel
theorem dX0_power_5 : decode cX0_power 5 = .ok (.iload 5, 2) := by decide +kernel
theorem dX0_power_7 : decode cX0_power 7 = .ok (.iload_n 2, 1) := by decide +kernel
theorem dX0_power_8 : decode cX0_power 8 = .ok (.if_icmp .ge 13, 3) := by decide +kernel
theorem dX0_power_11 : decode cX0_power 11 = .ok (.lload_n 3, 1) := by decide +kernel
theorem dX0_power_12 : decode cX0_power 12 = .ok (.lload_n 0, 1) := by decide +kernel
theorem dX0_power_13 : decode cX0_power 13 = .ok (.lmul, 1) := by decide +kernel
theorem dX0_power_14 : decode cX0_power 14 = .ok (.lstore_n 3, 1) := by decide +kernel
theorem dX0_power_15 : decode cX0_power 15 = .ok (.iinc 5 1, 3) := by decide +kernel
theorem dX0_power_18 : decode cX0_power 18 = .ok (.goto (-13), 3) := by decide +kernel
theorem dX0_power_21 : decode cX0_power 21 = .ok (.lload_n 3, 1) := by decide +kernel
theorem dX0_power_22 : decode cX0_power 22 = .ok (.lreturn, 1) := by decide +kernel
theorem dX0_weighCalms_0 : decode cX0_weighCalms 0 = .ok (.iconst 0, 1) := by decide +kernel
theorem dX0_weighCalms_1 : decode cX0_weighCalms 1 = .ok (.istore 4, 2) := by decide +kernel
theorem dX0_weighCalms_3 : decode cX0_weighCalms 3 = .ok (.iload 4, 2) := by decide +kernel
theorem dX0_weighCalms_5 : decode cX0_weighCalms 5 = .ok (.aload_n 0, 1) := by decide +kernel
theorem dX0_weighCalms_6 : decode cX0_weighCalms 6 = .ok (.getfield 15, 3) := by decide +kernel
theorem dX0_weighCalms_9 : decode cX0_weighCalms 9 = .ok (.if_icmp .ge 51, 3) := by decide +kernel
theorem dX0_weighCalms_12 : decode cX0_weighCalms 12 = .ok (.aload_n 0, 1) := by decide +kernel
theorem dX0_weighCalms_13 : decode cX0_weighCalms 13 = .ok (.getfield 9, 3) := by decide +kernel
theorem dX0_weighCalms_16 : decode cX0_weighCalms 16 = .ok (.iload 4, 2) := by decide +kernel
theorem dX0_weighCalms_18 : decode cX0_weighCalms 18 = .ok (.iaload, 1) := by decide +kernel
theorem dX0_weighCalms_19 : decode cX0_weighCalms 19 = .ok (.istore 5, 2) := by decide +kernel
theorem dX0_weighCalms_21 : decode cX0_weighCalms 21 = .ok (.aload_n 0, 1) := by decide +kernel
theorem dX0_weighCalms_22 : decode cX0_weighCalms 22 = .ok (.getfield 40, 3) := by decide +kernel
theorem dX0_weighCalms_25 : decode cX0_weighCalms 25 = .ok (.getfield 89, 3) := by decide +kernel
theorem dX0_weighCalms_28 : decode cX0_weighCalms 28 = .ok (.iload 5, 2) := by decide +kernel
theorem dX0_weighCalms_30 : decode cX0_weighCalms 30 = .ok (.iload_n 1, 1) := by decide +kernel
theorem dX0_weighCalms_31 : decode cX0_weighCalms 31 = .ok (.iload 4, 2) := by decide +kernel
theorem dX0_weighCalms_33 : decode cX0_weighCalms 33 = .ok (.ishr, 1) := by decide +kernel
theorem dX0_weighCalms_34 : decode cX0_weighCalms 34 = .ok (.iconst 1, 1) := by decide +kernel
theorem dX0_weighCalms_35 : decode cX0_weighCalms 35 = .ok (.iand, 1) := by decide +kernel
theorem dX0_weighCalms_36 : decode cX0_weighCalms 36 = .ok (.ifCond .eq 7, 3) := by decide +kernel
theorem dX0_weighCalms_39 : decode cX0_weighCalms 39 = .ok (.iconst (-1), 1) := by decide +kernel
theorem dX0_weighCalms_40 : decode cX0_weighCalms 40 = .ok (.goto 13, 3) := by decide +kernel
theorem dX0_weighCalms_43 : decode cX0_weighCalms 43 = .ok (.aload_n 0, 1) := by decide +kernel
theorem dX0_weighCalms_44 : decode cX0_weighCalms 44 = .ok (.getfield 36, 3) := by decide +kernel
theorem dX0_weighCalms_47 : decode cX0_weighCalms 47 = .ok (.getfield 89, 3) := by decide +kernel
theorem dX0_weighCalms_50 : decode cX0_weighCalms 50 = .ok (.iload 5, 2) := by decide +kernel
theorem dX0_weighCalms_52 : decode cX0_weighCalms 52 = .ok (.iaload, 1) := by decide +kernel
theorem dX0_weighCalms_53 : decode cX0_weighCalms 53 = .ok (.iastore, 1) := by decide +kernel
theorem dX0_weighCalms_54 : decode cX0_weighCalms 54 = .ok (.iinc 4 1, 3) := by decide +kernel
theorem dX0_weighCalms_57 : decode cX0_weighCalms 57 = .ok (.goto (-54), 3) := by decide +kernel
theorem dX0_weighCalms_60 : decode cX0_weighCalms 60 = .ok (.aload_n 0, 1) := by decide +kernel
theorem dX0_weighCalms_61 : decode cX0_weighCalms 61 = .ok (.getfield 43, 3) := by decide +kernel
theorem dX0_weighCalms_64 : decode cX0_weighCalms 64 = .ok (.aload_n 0, 1) := by decide +kernel
theorem dX0_weighCalms_65 : decode cX0_weighCalms 65 = .ok (.getfield 40, 3) := by decide +kernel
theorem dX0_weighCalms_68 : decode cX0_weighCalms 68 = .ok (.invokevirtual 92, 3) := by decide +kernel
theorem dX0_weighCalms_71 : decode cX0_weighCalms 71 = .ok (.iconst 0, 1) := by decide +kernel
theorem dX0_weighCalms_72 : decode cX0_weighCalms 72 = .ok (.istore 4, 2) := by decide +kernel
theorem dX0_weighCalms_74 : decode cX0_weighCalms 74 = .ok (.iload 4, 2) := by decide +kernel
theorem dX0_weighCalms_76 : decode cX0_weighCalms 76 = .ok (.aload_n 0, 1) := by decide +kernel
theorem dX0_weighCalms_77 : decode cX0_weighCalms 77 = .ok (.getfield 40, 3) := by decide +kernel
theorem dX0_weighCalms_80 : decode cX0_weighCalms 80 = .ok (.getfield 97, 3) := by decide +kernel
theorem dX0_weighCalms_83 : decode cX0_weighCalms 83 = .ok (.if_icmp .ge 66, 3) := by decide +kernel
theorem dX0_weighCalms_86 : decode cX0_weighCalms 86 = .ok (.iload 4, 2) := by decide +kernel
theorem dX0_weighCalms_88 : decode cX0_weighCalms 88 = .ok (.iconst 4, 1) := by decide +kernel
theorem dX0_weighCalms_89 : decode cX0_weighCalms 89 = .ok (.imul, 1) := by decide +kernel
theorem dX0_weighCalms_90 : decode cX0_weighCalms 90 = .ok (.aload_n 0, 1) := by decide +kernel
theorem dX0_weighCalms_91 : decode cX0_weighCalms 91 = .ok (.getfield 43, 3) := by decide +kernel
theorem dX0_weighCalms_94 : decode cX0_weighCalms 94 = .ok (.getfield 100, 3) := by decide +kernel
theorem dX0_weighCalms_97 : decode cX0_weighCalms 97 = .ok (.iload 4, 2) := by decide +kernel
theorem dX0_weighCalms_99 : decode cX0_weighCalms 99 = .ok (.iaload, 1) := by decide +kernel
theorem dX0_weighCalms_100 : decode cX0_weighCalms 100 = .ok (.iadd, 1) := by decide +kernel
theorem dX0_weighCalms_101 : decode cX0_weighCalms 101 = .ok (.istore 5, 2) := by decide +kernel
theorem dX0_weighCalms_103 : decode cX0_weighCalms 103 = .ok (.aload_n 0, 1) := by decide +kernel
theorem dX0_weighCalms_104 : decode cX0_weighCalms 104 = .ok (.getfield 43, 3) := by decide +kernel
theorem dX0_weighCalms_107 : decode cX0_weighCalms 107 = .ok (.getfield 100, 3) := by decide +kernel
theorem dX0_weighCalms_110 : decode cX0_weighCalms 110 = .ok (.iload 4, 2) := by decide +kernel
theorem dX0_weighCalms_112 : decode cX0_weighCalms 112 = .ok (.iaload, 1) := by decide +kernel
theorem dX0_weighCalms_113 : decode cX0_weighCalms 113 = .ok (.iconst (-1), 1) := by decide +kernel
theorem dX0_weighCalms_114 : decode cX0_weighCalms 114 = .ok (.if_icmp .eq 29, 3) := by decide +kernel
theorem dX0_weighCalms_117 : decode cX0_weighCalms 117 = .ok (.iload 5, 2) := by decide +kernel
theorem dX0_weighCalms_119 : decode cX0_weighCalms 119 = .ok (.ifCond .lt 24, 3) := by decide +kernel
theorem dX0_weighCalms_122 : decode cX0_weighCalms 122 = .ok (.iload 5, 2) := by decide +kernel
theorem dX0_weighCalms_124 : decode cX0_weighCalms 124 = .ok (.aload_n 0, 1) := by decide +kernel
theorem dX0_weighCalms_125 : decode cX0_weighCalms 125 = .ok (.getfield 19, 3) := by decide +kernel
theorem dX0_weighCalms_128 : decode cX0_weighCalms 128 = .ok (.arraylength, 1) := by decide +kernel
theorem dX0_weighCalms_129 : decode cX0_weighCalms 129 = .ok (.if_icmp .ge 14, 3) := by decide +kernel
theorem dX0_weighCalms_132 : decode cX0_weighCalms 132 = .ok (.aload_n 0, 1) := by decide +kernel
theorem dX0_weighCalms_133 : decode cX0_weighCalms 133 = .ok (.getfield 19, 3) := by decide +kernel
theorem dX0_weighCalms_136 : decode cX0_weighCalms 136 = .ok (.iload 5, 2) := by decide +kernel
theorem dX0_weighCalms_138 : decode cX0_weighCalms 138 = .ok (.dup2, 1) := by decide +kernel
theorem dX0_weighCalms_139 : decode cX0_weighCalms 139 = .ok (.laload, 1) := by decide +kernel
theorem dX0_weighCalms_140 : decode cX0_weighCalms 140 = .ok (.lload_n 2, 1) := by decide +kernel
theorem dX0_weighCalms_141 : decode cX0_weighCalms 141 = .ok (.ladd, 1) := by decide +kernel
theorem dX0_weighCalms_142 : decode cX0_weighCalms 142 = .ok (.lastore, 1) := by decide +kernel
theorem dX0_weighCalms_143 : decode cX0_weighCalms 143 = .ok (.iinc 4 1, 3) := by decide +kernel
theorem dX0_weighCalms_146 : decode cX0_weighCalms 146 = .ok (.goto (-72), 3) := by decide +kernel
theorem dX0_weighCalms_149 : decode cX0_weighCalms 149 = .ok (.return_, 1) := by decide +kernel
theorem dX0_weightOf_0 : decode cX0_weightOf 0 = .ok (.iload_n 1, 1) := by decide +kernel
theorem dX0_weightOf_1 : decode cX0_weightOf 1 = .ok (.iconst 4, 1) := by decide +kernel
theorem dX0_weightOf_2 : decode cX0_weightOf 2 = .ok (.imul, 1) := by decide +kernel
theorem dX0_weightOf_3 : decode cX0_weightOf 3 = .ok (.iload_n 2, 1) := by decide +kernel
theorem dX0_weightOf_4 : decode cX0_weightOf 4 = .ok (.iadd, 1) := by decide +kernel
theorem dX0_weightOf_5 : decode cX0_weightOf 5 = .ok (.istore_n 3, 1) := by decide +kernel
theorem dX0_weightOf_6 : decode cX0_weightOf 6 = .ok (.iload_n 3, 1) := by decide +kernel
theorem dX0_weightOf_7 : decode cX0_weightOf 7 = .ok (.ifCond .lt 21, 3) := by decide +kernel
theorem dX0_weightOf_10 : decode cX0_weightOf 10 = .ok (.iload_n 3, 1) := by decide +kernel
theorem dX0_weightOf_11 : decode cX0_weightOf 11 = .ok (.aload_n 0, 1) := by decide +kernel
theorem dX0_weightOf_12 : decode cX0_weightOf 12 = .ok (.getfield 19, 3) := by decide +kernel
theorem dX0_weightOf_15 : decode cX0_weightOf 15 = .ok (.arraylength, 1) := by decide +kernel
theorem dX0_weightOf_16 : decode cX0_weightOf 16 = .ok (.if_icmp .ge 12, 3) := by decide +kernel
theorem dX0_weightOf_19 : decode cX0_weightOf 19 = .ok (.aload_n 0, 1) := by decide +kernel
theorem dX0_weightOf_20 : decode cX0_weightOf 20 = .ok (.getfield 19, 3) := by decide +kernel
theorem dX0_weightOf_23 : decode cX0_weightOf 23 = .ok (.iload_n 3, 1) := by decide +kernel
theorem dX0_weightOf_24 : decode cX0_weightOf 24 = .ok (.laload, 1) := by decide +kernel
theorem dX0_weightOf_25 : decode cX0_weightOf 25 = .ok (.goto 4, 3) := by decide +kernel
theorem dX0_weightOf_28 : decode cX0_weightOf 28 = .ok (.lconst 0, 1) := by decide +kernel
theorem dX0_weightOf_29 : decode cX0_weightOf 29 = .ok (.lreturn, 1) := by decide +kernel
theorem dX0_halvings_0 : decode cX0_halvings 0 = .ok (.iconst 0, 1) := by decide +kernel
theorem dX0_halvings_1 : decode cX0_halvings 1 = .ok (.istore_n 3, 1) := by decide +kernel
theorem dX0_halvings_2 : decode cX0_halvings 2 = .ok (.iload_n 3, 1) := by decide +kernel
theorem dX0_halvings_3 : decode cX0_halvings 3 = .ok (.iconst 4, 1) := by decide +kernel
theorem dX0_halvings_4 : decode cX0_halvings 4 = .ok (.aload_n 0, 1) := by decide +kernel
theorem dX0_halvings_5 : decode cX0_halvings 5 = .ok (.getfield 15, 3) := by decide +kernel
theorem dX0_halvings_8 : decode cX0_halvings 8 = .ok (.imul, 1) := by decide +kernel
theorem dX0_halvings_9 : decode cX0_halvings 9 = .ok (.if_icmp .ge 19, 3) := by decide +kernel
theorem dX0_halvings_12 : decode cX0_halvings 12 = .ok (.lload_n 1, 1) := by decide +kernel
theorem dX0_halvings_13 : decode cX0_halvings 13 = .ok (.iload_n 3, 1) := by decide +kernel
theorem dX0_halvings_14 : decode cX0_halvings 14 = .ok (.lshr, 1) := by decide +kernel
theorem dX0_halvings_15 : decode cX0_halvings 15 = .ok (.lconst 1, 1) := by decide +kernel
theorem dX0_halvings_16 : decode cX0_halvings 16 = .ok (.land, 1) := by decide +kernel
theorem dX0_halvings_17 : decode cX0_halvings 17 = .ok (.lconst 0, 1) := by decide +kernel
theorem dX0_halvings_18 : decode cX0_halvings 18 = .ok (.lcmp, 1) := by decide +kernel
theorem dX0_halvings_19 : decode cX0_halvings 19 = .ok (.ifCond .ne 9, 3) := by decide +kernel
theorem dX0_halvings_22 : decode cX0_halvings 22 = .ok (.iinc 3 1, 3) := by decide +kernel
theorem dX0_halvings_25 : decode cX0_halvings 25 = .ok (.goto (-23), 3) := by decide +kernel
theorem dX0_halvings_28 : decode cX0_halvings 28 = .ok (.iload_n 3, 1) := by decide +kernel
theorem dX0_halvings_29 : decode cX0_halvings 29 = .ok (.ireturn, 1) := by decide +kernel
theorem dX0_above_0 : decode cX0_above 0 = .ok (.aload_n 0, 1) := by decide +kernel
theorem dX0_above_1 : decode cX0_above 1 = .ok (.iload_n 1, 1) := by decide +kernel
theorem dX0_above_2 : decode cX0_above 2 = .ok (.iload_n 2, 1) := by decide +kernel
theorem dX0_above_3 : decode cX0_above 3 = .ok (.invokevirtual 103, 3) := by decide +kernel
theorem dX0_above_6 : decode cX0_above 6 = .ok (.lstore_n 3, 1) := by decide +kernel
theorem dX0_above_7 : decode cX0_above 7 = .ok (.lload_n 3, 1) := by decide +kernel
theorem dX0_above_8 : decode cX0_above 8 = .ok (.aload_n 0, 1) := by decide +kernel
theorem dX0_above_9 : decode cX0_above 9 = .ok (.lload_n 3, 1) := by decide +kernel
theorem dX0_above_10 : decode cX0_above 10 = .ok (.invokevirtual 107, 3) := by decide +kernel
theorem dX0_above_13 : decode cX0_above 13 = .ok (.lshr, 1) := by decide +kernel
theorem dX0_above_14 : decode cX0_above 14 = .ok (.lreturn, 1) := by decide +kernel
theorem dX0_below_0 : decode cX0_below 0 = .ok (.lconst 1, 1) := by decide +kernel
theorem dX0_below_1 : decode cX0_below 1 = .ok (.iconst 4, 1) := by decide +kernel
theorem dX0_below_2 : decode cX0_below 2 = .ok (.aload_n 0, 1) := by decide +kernel
theorem dX0_below_3 : decode cX0_below 3 = .ok (.getfield 15, 3) := by decide +kernel
theorem dX0_below_6 : decode cX0_below 6 = .ok (.imul, 1) := by decide +kernel
theorem dX0_below_7 : decode cX0_below 7 = .ok (.aload_n 0, 1) := by decide +kernel
theorem dX0_below_8 : decode cX0_below 8 = .ok (.aload_n 0, 1) := by decide +kernel
theorem dX0_below_9 : decode cX0_below 9 = .ok (.iload_n 1, 1) := by decide +kernel
theorem dX0_below_10 : decode cX0_below 10 = .ok (.iload_n 2, 1) := by decide +kernel
theorem dX0_below_11 : decode cX0_below 11 = .ok (.invokevirtual 103, 3) := by decide +kernel
theorem dX0_below_14 : decode cX0_below 14 = .ok (.invokevirtual 107, 3) := by decide +kernel
theorem dX0_below_17 : decode cX0_below 17 = .ok (.isub, 1) := by decide +kernel
theorem dX0_below_18 : decode cX0_below 18 = .ok (.lshl, 1) := by decide +kernel
theorem dX0_below_19 : decode cX0_below 19 = .ok (.lreturn, 1) := by decide +kernel
theorem dX0_playLots_0 : decode cX0_playLots 0 = .ok (.aload_n 0, 1) := by decide +kernel
theorem dX0_playLots_1 : decode cX0_playLots 1 = .ok (.iload_n 1, 1) := by decide +kernel
theorem dX0_playLots_2 : decode cX0_playLots 2 = .ok (.putfield 23, 3) := by decide +kernel
theorem dX0_playLots_5 : decode cX0_playLots 5 = .ok (.aload_n 0, 1) := by decide +kernel
theorem dX0_playLots_6 : decode cX0_playLots 6 = .ok (.getfield 40, 3) := by decide +kernel
theorem dX0_playLots_9 : decode cX0_playLots 9 = .ok (.aload_n 0, 1) := by decide +kernel
theorem dX0_playLots_10 : decode cX0_playLots 10 = .ok (.getfield 36, 3) := by decide +kernel
theorem dX0_playLots_13 : decode cX0_playLots 13 = .ok (.invokevirtual 57, 3) := by decide +kernel
theorem dX0_playLots_16 : decode cX0_playLots 16 = .ok (.aload_n 0, 1) := by decide +kernel
theorem dX0_playLots_17 : decode cX0_playLots 17 = .ok (.getfield 40, 3) := by decide +kernel
theorem dX0_playLots_20 : decode cX0_playLots 20 = .ok (.iconst 0, 1) := by decide +kernel
theorem dX0_playLots_21 : decode cX0_playLots 21 = .ok (.putfield 77, 3) := by decide +kernel
theorem dX0_playLots_24 : decode cX0_playLots 24 = .ok (.iconst 0, 1) := by decide +kernel
theorem dX0_playLots_25 : decode cX0_playLots 25 = .ok (.istore_n 3, 1) := by decide +kernel
theorem dX0_playLots_26 : decode cX0_playLots 26 = .ok (.iload_n 3, 1) := by decide +kernel
theorem dX0_playLots_27 : decode cX0_playLots 27 = .ok (.iload_n 2, 1) := by decide +kernel
theorem dX0_playLots_28 : decode cX0_playLots 28 = .ok (.if_icmp .ge 64, 3) := by decide +kernel
theorem dX0_playLots_31 : decode cX0_playLots 31 = .ok (.aload_n 0, 1) := by decide +kernel
theorem dX0_playLots_32 : decode cX0_playLots 32 = .ok (.getfield 32, 3) := by decide +kernel
theorem dX0_playLots_35 : decode cX0_playLots 35 = .ok (.getfield 111, 3) := by decide +kernel
theorem dX0_playLots_38 : decode cX0_playLots 38 = .ok (.ifCond .le 54, 3) := by decide +kernel
theorem dX0_playLots_41 : decode cX0_playLots 41 = .ok (.aload_n 0, 1) := by decide +kernel
theorem dX0_playLots_42 : decode cX0_playLots 42 = .ok (.aload_n 0, 1) := by decide +kernel
theorem dX0_playLots_43 : decode cX0_playLots 43 = .ok (.getfield 32, 3) := by decide +kernel
theorem dX0_playLots_46 : decode cX0_playLots 46 = .ok (.getfield 111, 3) := by decide +kernel
theorem dX0_playLots_49 : decode cX0_playLots 49 = .ok (.invokevirtual 116, 3) := by decide +kernel
theorem dX0_playLots_52 : decode cX0_playLots 52 = .ok (.istore 4, 2) := by decide +kernel
theorem dX0_playLots_54 : decode cX0_playLots 54 = .ok (.aload_n 0, 1) := by decide +kernel
theorem dX0_playLots_55 : decode cX0_playLots 55 = .ok (.iconst 4, 1) := by decide +kernel
theorem dX0_playLots_56 : decode cX0_playLots 56 = .ok (.invokevirtual 116, 3) := by decide +kernel
theorem dX0_playLots_59 : decode cX0_playLots 59 = .ok (.istore 5, 2) := by decide +kernel
theorem dX0_playLots_61 : decode cX0_playLots 61 = .ok (.aload_n 0, 1) := by decide +kernel
theorem dX0_playLots_62 : decode cX0_playLots 62 = .ok (.bipush 9, 2) := by decide +kernel
theorem dX0_playLots_64 : decode cX0_playLots 64 = .ok (.invokevirtual 116, 3) := by decide +kernel
theorem dX0_playLots_67 : decode cX0_playLots 67 = .ok (.iconst 1, 1) := by decide +kernel
theorem dX0_playLots_68 : decode cX0_playLots 68 = .ok (.iadd, 1) := by decide +kernel
theorem dX0_playLots_69 : decode cX0_playLots 69 = .ok (.istore 6, 2) := by decide +kernel
theorem dX0_playLots_71 : decode cX0_playLots 71 = .ok (.aload_n 0, 1) := by decide +kernel
theorem dX0_playLots_72 : decode cX0_playLots 72 = .ok (.getfield 40, 3) := by decide +kernel
theorem dX0_playLots_75 : decode cX0_playLots 75 = .ok (.iload_n 3, 1) := by decide +kernel
theorem dX0_playLots_76 : decode cX0_playLots 76 = .ok (.iload 4, 2) := by decide +kernel
theorem dX0_playLots_78 : decode cX0_playLots 78 = .ok (.iload 5, 2) := by decide +kernel
theorem dX0_playLots_80 : decode cX0_playLots 80 = .ok (.iload 6, 2) := by decide +kernel
theorem dX0_playLots_82 : decode cX0_playLots 82 = .ok (.iconst 0, 1) := by decide +kernel
theorem dX0_playLots_83 : decode cX0_playLots 83 = .ok (.invokevirtual 119, 3) := by decide +kernel
theorem dX0_playLots_86 : decode cX0_playLots 86 = .ok (.iinc 3 1, 3) := by decide +kernel
theorem dX0_playLots_89 : decode cX0_playLots 89 = .ok (.goto (-63), 3) := by decide +kernel
theorem dX0_playLots_92 : decode cX0_playLots 92 = .ok (.aload_n 0, 1) := by decide +kernel
theorem dX0_playLots_93 : decode cX0_playLots 93 = .ok (.getfield 43, 3) := by decide +kernel
theorem dX0_playLots_96 : decode cX0_playLots 96 = .ok (.aload_n 0, 1) := by decide +kernel
theorem dX0_playLots_97 : decode cX0_playLots 97 = .ok (.getfield 40, 3) := by decide +kernel
theorem dX0_playLots_100 : decode cX0_playLots 100 = .ok (.invokevirtual 92, 3) := by decide +kernel
theorem dX0_playLots_103 : decode cX0_playLots 103 = .ok (.aload_n 0, 1) := by decide +kernel
theorem dX0_playLots_104 : decode cX0_playLots 104 = .ok (.aload_n 0, 1) := by decide +kernel
theorem dX0_playLots_105 : decode cX0_playLots 105 = .ok (.getfield 43, 3) := by decide +kernel
theorem dX0_playLots_108 : decode cX0_playLots 108 = .ok (.getfield 123, 3) := by decide +kernel
theorem dX0_playLots_111 : decode cX0_playLots 111 = .ok (.putfield 26, 3) := by decide +kernel
theorem dX0_playLots_114 : decode cX0_playLots 114 = .ok (.aload_n 0, 1) := by decide +kernel
theorem dX0_playLots_115 : decode cX0_playLots 115 = .ok (.aload_n 0, 1) := by decide +kernel
theorem dX0_playLots_116 : decode cX0_playLots 116 = .ok (.getfield 43, 3) := by decide +kernel
theorem dX0_playLots_119 : decode cX0_playLots 119 = .ok (.aload_n 0, 1) := by decide +kernel
theorem dX0_playLots_120 : decode cX0_playLots 120 = .ok (.getfield 40, 3) := by decide +kernel
theorem dX0_playLots_123 : decode cX0_playLots 123 = .ok (.invokevirtual 126, 3) := by decide +kernel
theorem dX0_playLots_126 : decode cX0_playLots 126 = .ok (.putfield 29, 3) := by decide +kernel
theorem dX0_playLots_129 : decode cX0_playLots 129 = .ok (.return_, 1) := by decide +kernel
theorem dX0_lot_0 : decode cX0_lot 0 = .ok (.aload_n 0, 1) := by decide +kernel
theorem dX0_lot_1 : decode cX0_lot 1 = .ok (.ldc 130, 2) := by decide +kernel
theorem dX0_lot_3 : decode cX0_lot 3 = .ok (.aload_n 0, 1) := by decide +kernel
theorem dX0_lot_4 : decode cX0_lot 4 = .ok (.getfield 23, 3) := by decide +kernel
theorem dX0_lot_7 : decode cX0_lot 7 = .ok (.imul, 1) := by decide +kernel
theorem dX0_lot_8 : decode cX0_lot 8 = .ok (.sipush 12345, 3) := by decide +kernel
theorem dX0_lot_11 : decode cX0_lot 11 = .ok (.iadd, 1) := by decide +kernel
theorem dX0_lot_12 : decode cX0_lot 12 = .ok (.putfield 23, 3) := by decide +kernel
theorem dX0_lot_15 : decode cX0_lot 15 = .ok (.iload_n 1, 1) := by decide +kernel
theorem dX0_lot_16 : decode cX0_lot 16 = .ok (.ifCond .le 15, 3) := by decide +kernel
theorem dX0_lot_19 : decode cX0_lot 19 = .ok (.aload_n 0, 1) := by decide +kernel
theorem dX0_lot_20 : decode cX0_lot 20 = .ok (.getfield 23, 3) := by decide +kernel
theorem dX0_lot_23 : decode cX0_lot 23 = .ok (.bipush 16, 2) := by decide +kernel
theorem dX0_lot_25 : decode cX0_lot 25 = .ok (.iushr, 1) := by decide +kernel
theorem dX0_lot_26 : decode cX0_lot 26 = .ok (.iload_n 1, 1) := by decide +kernel
theorem dX0_lot_27 : decode cX0_lot 27 = .ok (.irem, 1) := by decide +kernel
theorem dX0_lot_28 : decode cX0_lot 28 = .ok (.goto 4, 3) := by decide +kernel
theorem dX0_lot_31 : decode cX0_lot 31 = .ok (.iconst 0, 1) := by decide +kernel
theorem dX0_lot_32 : decode cX0_lot 32 = .ok (.ireturn, 1) := by decide +kernel
theorem dX1_init_0 : decode cX1_init 0 = .ok (.aload_n 0, 1) := by decide +kernel
theorem dX1_init_1 : decode cX1_init 1 = .ok (.invokespecial 3, 3) := by decide +kernel
theorem dX1_init_4 : decode cX1_init 4 = .ok (.aload_n 0, 1) := by decide +kernel
theorem dX1_init_5 : decode cX1_init 5 = .ok (.sipush 640, 3) := by decide +kernel
theorem dX1_init_8 : decode cX1_init 8 = .ok (.newarray .int, 2) := by decide +kernel
theorem dX1_init_10 : decode cX1_init 10 = .ok (.putfield 9, 3) := by decide +kernel
theorem dX1_init_13 : decode cX1_init 13 = .ok (.return_, 1) := by decide +kernel
theorem dX1_keep_0 : decode cX1_keep 0 = .ok (.iconst 0, 1) := by decide +kernel
theorem dX1_keep_1 : decode cX1_keep 1 = .ok (.istore_n 3, 1) := by decide +kernel
theorem dX1_keep_2 : decode cX1_keep 2 = .ok (.iload_n 3, 1) := by decide +kernel
theorem dX1_keep_3 : decode cX1_keep 3 = .ok (.bipush 8, 2) := by decide +kernel
theorem dX1_keep_5 : decode cX1_keep 5 = .ok (.if_icmp .ge 94, 3) := by decide +kernel
theorem dX1_keep_8 : decode cX1_keep 8 = .ok (.iload_n 1, 1) := by decide +kernel
theorem dX1_keep_9 : decode cX1_keep 9 = .ok (.bipush 8, 2) := by decide +kernel
theorem dX1_keep_11 : decode cX1_keep 11 = .ok (.imul, 1) := by decide +kernel
theorem dX1_keep_12 : decode cX1_keep 12 = .ok (.iload_n 3, 1) := by decide +kernel
theorem dX1_keep_13 : decode cX1_keep 13 = .ok (.iadd, 1) := by decide +kernel
theorem dX1_keep_14 : decode cX1_keep 14 = .ok (.iconst 4, 1) := by decide +kernel
theorem dX1_keep_15 : decode cX1_keep 15 = .ok (.imul, 1) := by decide +kernel
theorem dX1_keep_16 : decode cX1_keep 16 = .ok (.istore 4, 2) := by decide +kernel
theorem dX1_keep_18 : decode cX1_keep 18 = .ok (.iload 4, 2) := by decide +kernel
theorem dX1_keep_20 : decode cX1_keep 20 = .ok (.ifCond .lt 73, 3) := by decide +kernel
theorem dX1_keep_23 : decode cX1_keep 23 = .ok (.iload 4, 2) := by decide +kernel
theorem dX1_keep_25 : decode cX1_keep 25 = .ok (.iconst 4, 1) := by decide +kernel
theorem dX1_keep_26 : decode cX1_keep 26 = .ok (.iadd, 1) := by decide +kernel
theorem dX1_keep_27 : decode cX1_keep 27 = .ok (.aload_n 0, 1) := by decide +kernel
theorem dX1_keep_28 : decode cX1_keep 28 = .ok (.getfield 9, 3) := by decide +kernel
theorem dX1_keep_31 : decode cX1_keep 31 = .ok (.arraylength, 1) := by decide +kernel
theorem dX1_keep_32 : decode cX1_keep 32 = .ok (.if_icmp .gt 61, 3) := by decide +kernel
theorem dX1_keep_35 : decode cX1_keep 35 = .ok (.aload_n 0, 1) := by decide +kernel
theorem dX1_keep_36 : decode cX1_keep 36 = .ok (.getfield 9, 3) := by decide +kernel
theorem dX1_keep_39 : decode cX1_keep 39 = .ok (.iload 4, 2) := by decide +kernel
theorem dX1_keep_41 : decode cX1_keep 41 = .ok (.aload_n 2, 1) := by decide +kernel
theorem dX1_keep_42 : decode cX1_keep 42 = .ok (.getfield 15, 3) := by decide +kernel
theorem dX1_keep_45 : decode cX1_keep 45 = .ok (.iload_n 3, 1) := by decide +kernel
theorem dX1_keep_46 : decode cX1_keep 46 = .ok (.iaload, 1) := by decide +kernel
theorem dX1_keep_47 : decode cX1_keep 47 = .ok (.iastore, 1) := by decide +kernel
theorem dX1_keep_48 : decode cX1_keep 48 = .ok (.aload_n 0, 1) := by decide +kernel
theorem dX1_keep_49 : decode cX1_keep 49 = .ok (.getfield 9, 3) := by decide +kernel
theorem dX1_keep_52 : decode cX1_keep 52 = .ok (.iload 4, 2) := by decide +kernel
theorem dX1_keep_54 : decode cX1_keep 54 = .ok (.iconst 1, 1) := by decide +kernel
theorem dX1_keep_55 : decode cX1_keep 55 = .ok (.iadd, 1) := by decide +kernel
theorem dX1_keep_56 : decode cX1_keep 56 = .ok (.aload_n 2, 1) := by decide +kernel
theorem dX1_keep_57 : decode cX1_keep 57 = .ok (.getfield 20, 3) := by decide +kernel
theorem dX1_keep_60 : decode cX1_keep 60 = .ok (.iload_n 3, 1) := by decide +kernel
theorem dX1_keep_61 : decode cX1_keep 61 = .ok (.iaload, 1) := by decide +kernel
theorem dX1_keep_62 : decode cX1_keep 62 = .ok (.iastore, 1) := by decide +kernel
theorem dX1_keep_63 : decode cX1_keep 63 = .ok (.aload_n 0, 1) := by decide +kernel
theorem dX1_keep_64 : decode cX1_keep 64 = .ok (.getfield 9, 3) := by decide +kernel
theorem dX1_keep_67 : decode cX1_keep 67 = .ok (.iload 4, 2) := by decide +kernel
theorem dX1_keep_69 : decode cX1_keep 69 = .ok (.iconst 2, 1) := by decide +kernel
theorem dX1_keep_70 : decode cX1_keep 70 = .ok (.iadd, 1) := by decide +kernel
theorem dX1_keep_71 : decode cX1_keep 71 = .ok (.aload_n 2, 1) := by decide +kernel
theorem dX1_keep_72 : decode cX1_keep 72 = .ok (.getfield 23, 3) := by decide +kernel
theorem dX1_keep_75 : decode cX1_keep 75 = .ok (.iload_n 3, 1) := by decide +kernel
theorem dX1_keep_76 : decode cX1_keep 76 = .ok (.iaload, 1) := by decide +kernel
theorem dX1_keep_77 : decode cX1_keep 77 = .ok (.iastore, 1) := by decide +kernel
theorem dX1_keep_78 : decode cX1_keep 78 = .ok (.aload_n 0, 1) := by decide +kernel
theorem dX1_keep_79 : decode cX1_keep 79 = .ok (.getfield 9, 3) := by decide +kernel
theorem dX1_keep_82 : decode cX1_keep 82 = .ok (.iload 4, 2) := by decide +kernel
theorem dX1_keep_84 : decode cX1_keep 84 = .ok (.iconst 3, 1) := by decide +kernel
theorem dX1_keep_85 : decode cX1_keep 85 = .ok (.iadd, 1) := by decide +kernel
theorem dX1_keep_86 : decode cX1_keep 86 = .ok (.aload_n 2, 1) := by decide +kernel
theorem dX1_keep_87 : decode cX1_keep 87 = .ok (.getfield 26, 3) := by decide +kernel
theorem dX1_keep_90 : decode cX1_keep 90 = .ok (.iload_n 3, 1) := by decide +kernel
theorem dX1_keep_91 : decode cX1_keep 91 = .ok (.iaload, 1) := by decide +kernel
theorem dX1_keep_92 : decode cX1_keep 92 = .ok (.iastore, 1) := by decide +kernel
theorem dX1_keep_93 : decode cX1_keep 93 = .ok (.iinc 3 1, 3) := by decide +kernel
theorem dX1_keep_96 : decode cX1_keep 96 = .ok (.goto (-94), 3) := by decide +kernel
theorem dX1_keep_99 : decode cX1_keep 99 = .ok (.return_, 1) := by decide +kernel
theorem dX1_look_0 : decode cX1_look 0 = .ok (.iload_n 1, 1) := by decide +kernel
theorem dX1_look_1 : decode cX1_look 1 = .ok (.bipush 8, 2) := by decide +kernel
theorem dX1_look_3 : decode cX1_look 3 = .ok (.imul, 1) := by decide +kernel
theorem dX1_look_4 : decode cX1_look 4 = .ok (.iload_n 2, 1) := by decide +kernel
theorem dX1_look_5 : decode cX1_look 5 = .ok (.iadd, 1) := by decide +kernel
theorem dX1_look_6 : decode cX1_look 6 = .ok (.iconst 4, 1) := by decide +kernel
theorem dX1_look_7 : decode cX1_look 7 = .ok (.imul, 1) := by decide +kernel
theorem dX1_look_8 : decode cX1_look 8 = .ok (.iload_n 3, 1) := by decide +kernel
theorem dX1_look_9 : decode cX1_look 9 = .ok (.iadd, 1) := by decide +kernel
theorem dX1_look_10 : decode cX1_look 10 = .ok (.istore 4, 2) := by decide +kernel
theorem dX1_look_12 : decode cX1_look 12 = .ok (.iload 4, 2) := by decide +kernel
theorem dX1_look_14 : decode cX1_look 14 = .ok (.ifCond .lt 23, 3) := by decide +kernel
theorem dX1_look_17 : decode cX1_look 17 = .ok (.iload 4, 2) := by decide +kernel
theorem dX1_look_19 : decode cX1_look 19 = .ok (.aload_n 0, 1) := by decide +kernel
theorem dX1_look_20 : decode cX1_look 20 = .ok (.getfield 9, 3) := by decide +kernel
theorem dX1_look_23 : decode cX1_look 23 = .ok (.arraylength, 1) := by decide +kernel
theorem dX1_look_24 : decode cX1_look 24 = .ok (.if_icmp .ge 13, 3) := by decide +kernel
theorem dX1_look_27 : decode cX1_look 27 = .ok (.aload_n 0, 1) := by decide +kernel
theorem dX1_look_28 : decode cX1_look 28 = .ok (.getfield 9, 3) := by decide +kernel
theorem dX1_look_31 : decode cX1_look 31 = .ok (.iload 4, 2) := by decide +kernel
theorem dX1_look_33 : decode cX1_look 33 = .ok (.iaload, 1) := by decide +kernel
theorem dX1_look_34 : decode cX1_look 34 = .ok (.goto 4, 3) := by decide +kernel
theorem dX1_look_37 : decode cX1_look 37 = .ok (.iconst (-1), 1) := by decide +kernel
theorem dX1_look_38 : decode cX1_look 38 = .ok (.ireturn, 1) := by decide +kernel
theorem dX2_init_0 : decode cX2_init 0 = .ok (.aload_n 0, 1) := by decide +kernel
theorem dX2_init_1 : decode cX2_init 1 = .ok (.invokespecial 3, 3) := by decide +kernel
theorem dX2_init_4 : decode cX2_init 4 = .ok (.aload_n 0, 1) := by decide +kernel
theorem dX2_init_5 : decode cX2_init 5 = .ok (.iconst (-1), 1) := by decide +kernel
theorem dX2_init_6 : decode cX2_init 6 = .ok (.putfield 9, 3) := by decide +kernel
theorem dX2_init_9 : decode cX2_init 9 = .ok (.aload_n 0, 1) := by decide +kernel
theorem dX2_init_10 : decode cX2_init 10 = .ok (.iconst (-1), 1) := by decide +kernel
theorem dX2_init_11 : decode cX2_init 11 = .ok (.putfield 15, 3) := by decide +kernel
theorem dX2_init_14 : decode cX2_init 14 = .ok (.aload_n 0, 1) := by decide +kernel
theorem dX2_init_15 : decode cX2_init 15 = .ok (.iconst (-1), 1) := by decide +kernel
theorem dX2_init_16 : decode cX2_init 16 = .ok (.putfield 18, 3) := by decide +kernel
theorem dX2_init_19 : decode cX2_init 19 = .ok (.return_, 1) := by decide +kernel
theorem dX2_become_0 : decode cX2_become 0 = .ok (.aload_n 0, 1) := by decide +kernel
theorem dX2_become_1 : decode cX2_become 1 = .ok (.iload_n 1, 1) := by decide +kernel
theorem dX2_become_2 : decode cX2_become 2 = .ok (.putfield 9, 3) := by decide +kernel
theorem dX2_become_5 : decode cX2_become 5 = .ok (.aload_n 0, 1) := by decide +kernel
theorem dX2_become_6 : decode cX2_become 6 = .ok (.iload_n 2, 1) := by decide +kernel
theorem dX2_become_7 : decode cX2_become 7 = .ok (.putfield 15, 3) := by decide +kernel
theorem dX2_become_10 : decode cX2_become 10 = .ok (.aload_n 0, 1) := by decide +kernel
theorem dX2_become_11 : decode cX2_become 11 = .ok (.iload_n 3, 1) := by decide +kernel
theorem dX2_become_12 : decode cX2_become 12 = .ok (.putfield 18, 3) := by decide +kernel
theorem dX2_become_15 : decode cX2_become 15 = .ok (.return_, 1) := by decide +kernel
theorem dX2_pick_0 : decode cX2_pick 0 = .ok (.iload_n 1, 1) := by decide +kernel
theorem dX2_pick_1 : decode cX2_pick 1 = .ok (.iconst (-1), 1) := by decide +kernel
theorem dX2_pick_2 : decode cX2_pick 2 = .ok (.if_icmp .ne 10, 3) := by decide +kernel
theorem dX2_pick_5 : decode cX2_pick 5 = .ok (.aload_n 0, 1) := by decide +kernel
theorem dX2_pick_6 : decode cX2_pick 6 = .ok (.getfield 9, 3) := by decide +kernel
theorem dX2_pick_9 : decode cX2_pick 9 = .ok (.goto 18, 3) := by decide +kernel
theorem dX2_pick_12 : decode cX2_pick 12 = .ok (.iload_n 1, 1) := by decide +kernel
theorem dX2_pick_13 : decode cX2_pick 13 = .ok (.ifCond .ne 10, 3) := by decide +kernel
theorem dX2_pick_16 : decode cX2_pick 16 = .ok (.aload_n 0, 1) := by decide +kernel
theorem dX2_pick_17 : decode cX2_pick 17 = .ok (.getfield 15, 3) := by decide +kernel
theorem dX2_pick_20 : decode cX2_pick 20 = .ok (.goto 7, 3) := by decide +kernel
theorem dX2_pick_23 : decode cX2_pick 23 = .ok (.aload_n 0, 1) := by decide +kernel
theorem dX2_pick_24 : decode cX2_pick 24 = .ok (.getfield 18, 3) := by decide +kernel
theorem dX2_pick_27 : decode cX2_pick 27 = .ok (.ireturn, 1) := by decide +kernel
theorem dX3_init_0 : decode cX3_init 0 = .ok (.aload_n 0, 1) := by decide +kernel
theorem dX3_init_1 : decode cX3_init 1 = .ok (.invokespecial 3, 3) := by decide +kernel
theorem dX3_init_4 : decode cX3_init 4 = .ok (.aload_n 0, 1) := by decide +kernel
theorem dX3_init_5 : decode cX3_init 5 = .ok (.lconst 0, 1) := by decide +kernel
theorem dX3_init_6 : decode cX3_init 6 = .ok (.putfield 9, 3) := by decide +kernel
theorem dX3_init_9 : decode cX3_init 9 = .ok (.aload_n 0, 1) := by decide +kernel
theorem dX3_init_10 : decode cX3_init 10 = .ok (.bipush 40, 2) := by decide +kernel
theorem dX3_init_12 : decode cX3_init 12 = .ok (.newarray .int, 2) := by decide +kernel
theorem dX3_init_14 : decode cX3_init 14 = .ok (.putfield 15, 3) := by decide +kernel
theorem dX3_init_17 : decode cX3_init 17 = .ok (.aload_n 0, 1) := by decide +kernel
theorem dX3_init_18 : decode cX3_init 18 = .ok (.aload_n 1, 1) := by decide +kernel
theorem dX3_init_19 : decode cX3_init 19 = .ok (.putfield 19, 3) := by decide +kernel
theorem dX3_init_22 : decode cX3_init 22 = .ok (.aload_n 0, 1) := by decide +kernel
theorem dX3_init_23 : decode cX3_init 23 = .ok (.aload_n 2, 1) := by decide +kernel
theorem dX3_init_24 : decode cX3_init 24 = .ok (.putfield 23, 3) := by decide +kernel
theorem dX3_init_27 : decode cX3_init 27 = .ok (.aload_n 0, 1) := by decide +kernel
theorem dX3_init_28 : decode cX3_init 28 = .ok (.aload_n 3, 1) := by decide +kernel
theorem dX3_init_29 : decode cX3_init 29 = .ok (.putfield 27, 3) := by decide +kernel
theorem dX3_init_32 : decode cX3_init 32 = .ok (.aload_n 0, 1) := by decide +kernel
theorem dX3_init_33 : decode cX3_init 33 = .ok (.aload 4, 2) := by decide +kernel
theorem dX3_init_35 : decode cX3_init 35 = .ok (.putfield 30, 3) := by decide +kernel
theorem dX3_init_38 : decode cX3_init 38 = .ok (.aload_n 0, 1) := by decide +kernel
theorem dX3_init_39 : decode cX3_init 39 = .ok (.aload 5, 2) := by decide +kernel
theorem dX3_init_41 : decode cX3_init 41 = .ok (.putfield 34, 3) := by decide +kernel
theorem dX3_init_44 : decode cX3_init 44 = .ok (.return_, 1) := by decide +kernel
theorem dX3_comesOut_0 : decode cX3_comesOut 0 = .ok (.aload_n 0, 1) := by decide +kernel
theorem dX3_comesOut_1 : decode cX3_comesOut 1 = .ok (.getfield 34, 3) := by decide +kernel
theorem dX3_comesOut_4 : decode cX3_comesOut 4 = .ok (.getfield 38, 3) := by decide +kernel
theorem dX3_comesOut_7 : decode cX3_comesOut 7 = .ok (.ifCond .ne 5, 3) := by decide +kernel
theorem dX3_comesOut_10 : decode cX3_comesOut 10 = .ok (.iconst 1, 1) := by decide +kernel
theorem dX3_comesOut_11 : decode cX3_comesOut 11 = .ok (.ireturn, 1) := by decide +kernel
theorem dX3_comesOut_12 : decode cX3_comesOut 12 = .ok (.aload_n 0, 1) := by decide +kernel
theorem dX3_comesOut_13 : decode cX3_comesOut 13 = .ok (.getfield 30, 3) := by decide +kernel
theorem dX3_comesOut_16 : decode cX3_comesOut 16 = .ok (.aload_n 0, 1) := by decide +kernel
theorem dX3_comesOut_17 : decode cX3_comesOut 17 = .ok (.getfield 27, 3) := by decide +kernel
theorem dX3_comesOut_20 : decode cX3_comesOut 20 = .ok (.invokevirtual 44, 3) := by decide +kernel
theorem dX3_comesOut_23 : decode cX3_comesOut 23 = .ok (.aload_n 0, 1) := by decide +kernel
theorem dX3_comesOut_24 : decode cX3_comesOut 24 = .ok (.getfield 34, 3) := by decide +kernel
theorem dX3_comesOut_27 : decode cX3_comesOut 27 = .ok (.aload_n 0, 1) := by decide +kernel
theorem dX3_comesOut_28 : decode cX3_comesOut 28 = .ok (.getfield 27, 3) := by decide +kernel
theorem dX3_comesOut_31 : decode cX3_comesOut 31 = .ok (.aload_n 0, 1) := by decide +kernel
theorem dX3_comesOut_32 : decode cX3_comesOut 32 = .ok (.getfield 30, 3) := by decide +kernel
theorem dX3_comesOut_35 : decode cX3_comesOut 35 = .ok (.invokevirtual 50, 3) := by decide +kernel
theorem dX3_comesOut_38 : decode cX3_comesOut 38 = .ok (.ireturn, 1) := by decide +kernel
theorem dX3_neverBits_0 : decode cX3_neverBits 0 = .ok (.iconst 0, 1) := by decide +kernel
theorem dX3_neverBits_1 : decode cX3_neverBits 1 = .ok (.istore_n 1, 1) := by decide +kernel
theorem dX3_neverBits_2 : decode cX3_neverBits 2 = .ok (.aload_n 0, 1) := by decide +kernel
theorem dX3_neverBits_3 : decode cX3_neverBits 3 = .ok (.getfield 27, 3) := by decide +kernel
theorem dX3_neverBits_6 : decode cX3_neverBits 6 = .ok (.aload_n 0, 1) := by decide +kernel
theorem dX3_neverBits_7 : decode cX3_neverBits 7 = .ok (.getfield 23, 3) := by decide +kernel
theorem dX3_neverBits_10 : decode cX3_neverBits 10 = .ok (.invokevirtual 54, 3) := by decide +kernel
theorem dX3_neverBits_13 : decode cX3_neverBits 13 = .ok (.iconst 0, 1) := by decide +kernel
theorem dX3_neverBits_14 : decode cX3_neverBits 14 = .ok (.istore_n 2, 1) := by decide +kernel
theorem dX3_neverBits_15 : decode cX3_neverBits 15 = .ok (.iload_n 2, 1) := by decide +kernel
theorem dX3_neverBits_16 : decode cX3_neverBits 16 = .ok (.aload_n 0, 1) := by decide +kernel
theorem dX3_neverBits_17 : decode cX3_neverBits 17 = .ok (.getfield 27, 3) := by decide +kernel
theorem dX3_neverBits_20 : decode cX3_neverBits 20 = .ok (.getfield 59, 3) := by decide +kernel
theorem dX3_neverBits_23 : decode cX3_neverBits 23 = .ok (.if_icmp .ge 51, 3) := by decide +kernel
theorem dX3_neverBits_26 : decode cX3_neverBits 26 = .ok (.aload_n 0, 1) := by decide +kernel
theorem dX3_neverBits_27 : decode cX3_neverBits 27 = .ok (.getfield 27, 3) := by decide +kernel
theorem dX3_neverBits_30 : decode cX3_neverBits 30 = .ok (.getfield 62, 3) := by decide +kernel
theorem dX3_neverBits_33 : decode cX3_neverBits 33 = .ok (.iload_n 2, 1) := by decide +kernel
theorem dX3_neverBits_34 : decode cX3_neverBits 34 = .ok (.bipush 20, 2) := by decide +kernel
theorem dX3_neverBits_36 : decode cX3_neverBits 36 = .ok (.iastore, 1) := by decide +kernel
theorem dX3_neverBits_37 : decode cX3_neverBits 37 = .ok (.aload_n 0, 1) := by decide +kernel
theorem dX3_neverBits_38 : decode cX3_neverBits 38 = .ok (.invokevirtual 65, 3) := by decide +kernel
theorem dX3_neverBits_41 : decode cX3_neverBits 41 = .ok (.ifCond .eq 9, 3) := by decide +kernel
theorem dX3_neverBits_44 : decode cX3_neverBits 44 = .ok (.iload_n 1, 1) := by decide +kernel
theorem dX3_neverBits_45 : decode cX3_neverBits 45 = .ok (.iconst 1, 1) := by decide +kernel
theorem dX3_neverBits_46 : decode cX3_neverBits 46 = .ok (.iload_n 2, 1) := by decide +kernel
theorem dX3_neverBits_47 : decode cX3_neverBits 47 = .ok (.ishl, 1) := by decide +kernel
theorem dX3_neverBits_48 : decode cX3_neverBits 48 = .ok (.ior, 1) := by decide +kernel
theorem dX3_neverBits_49 : decode cX3_neverBits 49 = .ok (.istore_n 1, 1) := by decide +kernel
theorem dX3_neverBits_50 : decode cX3_neverBits 50 = .ok (.aload_n 0, 1) := by decide +kernel
theorem dX3_neverBits_51 : decode cX3_neverBits 51 = .ok (.getfield 27, 3) := by decide +kernel
theorem dX3_neverBits_54 : decode cX3_neverBits 54 = .ok (.getfield 62, 3) := by decide +kernel
theorem dX3_neverBits_57 : decode cX3_neverBits 57 = .ok (.iload_n 2, 1) := by decide +kernel
theorem dX3_neverBits_58 : decode cX3_neverBits 58 = .ok (.aload_n 0, 1) := by decide +kernel
theorem dX3_neverBits_59 : decode cX3_neverBits 59 = .ok (.getfield 23, 3) := by decide +kernel
theorem dX3_neverBits_62 : decode cX3_neverBits 62 = .ok (.getfield 62, 3) := by decide +kernel
theorem dX3_neverBits_65 : decode cX3_neverBits 65 = .ok (.iload_n 2, 1) := by decide +kernel
theorem dX3_neverBits_66 : decode cX3_neverBits 66 = .ok (.iaload, 1) := by decide +kernel
theorem dX3_neverBits_67 : decode cX3_neverBits 67 = .ok (.iastore, 1) := by decide +kernel
theorem dX3_neverBits_68 : decode cX3_neverBits 68 = .ok (.iinc 2 1, 3) := by decide +kernel
theorem dX3_neverBits_71 : decode cX3_neverBits 71 = .ok (.goto (-56), 3) := by decide +kernel
theorem dX3_neverBits_74 : decode cX3_neverBits 74 = .ok (.iload_n 1, 1) := by decide +kernel
theorem dX3_neverBits_75 : decode cX3_neverBits 75 = .ok (.ireturn, 1) := by decide +kernel
theorem dX3_seekWhence_0 : decode cX3_seekWhence 0 = .ok (.aload_n 0, 1) := by decide +kernel
theorem dX3_seekWhence_1 : decode cX3_seekWhence 1 = .ok (.lconst 0, 1) := by decide +kernel
theorem dX3_seekWhence_2 : decode cX3_seekWhence 2 = .ok (.putfield 9, 3) := by decide +kernel
theorem dX3_seekWhence_5 : decode cX3_seekWhence 5 = .ok (.aload_n 0, 1) := by decide +kernel
theorem dX3_seekWhence_6 : decode cX3_seekWhence 6 = .ok (.getfield 27, 3) := by decide +kernel
theorem dX3_seekWhence_9 : decode cX3_seekWhence 9 = .ok (.aload_n 0, 1) := by decide +kernel
theorem dX3_seekWhence_10 : decode cX3_seekWhence 10 = .ok (.getfield 23, 3) := by decide +kernel
theorem dX3_seekWhence_13 : decode cX3_seekWhence 13 = .ok (.invokevirtual 54, 3) := by decide +kernel
theorem dX3_seekWhence_16 : decode cX3_seekWhence 16 = .ok (.iconst 0, 1) := by decide +kernel
theorem dX3_seekWhence_17 : decode cX3_seekWhence 17 = .ok (.istore_n 2, 1) := by decide +kernel
theorem dX3_seekWhence_18 : decode cX3_seekWhence 18 = .ok (.iload_n 2, 1) := by decide +kernel
theorem dX3_seekWhence_19 : decode cX3_seekWhence 19 = .ok (.aload_n 0, 1) := by decide +kernel
theorem dX3_seekWhence_20 : decode cX3_seekWhence 20 = .ok (.getfield 19, 3) := by decide +kernel
theorem dX3_seekWhence_23 : decode cX3_seekWhence 23 = .ok (.getfield 69, 3) := by decide +kernel
theorem dX3_seekWhence_26 : decode cX3_seekWhence 26 = .ok (.if_icmp .ge 38, 3) := by decide +kernel
theorem dX3_seekWhence_29 : decode cX3_seekWhence 29 = .ok (.aload_n 0, 1) := by decide +kernel
theorem dX3_seekWhence_30 : decode cX3_seekWhence 30 = .ok (.getfield 27, 3) := by decide +kernel
theorem dX3_seekWhence_33 : decode cX3_seekWhence 33 = .ok (.getfield 74, 3) := by decide +kernel
theorem dX3_seekWhence_36 : decode cX3_seekWhence 36 = .ok (.iload_n 1, 1) := by decide +kernel
theorem dX3_seekWhence_37 : decode cX3_seekWhence 37 = .ok (.iload_n 2, 1) := by decide +kernel
theorem dX3_seekWhence_38 : decode cX3_seekWhence 38 = .ok (.iastore, 1) := by decide +kernel
theorem dX3_seekWhence_39 : decode cX3_seekWhence 39 = .ok (.aload_n 0, 1) := by decide +kernel
theorem dX3_seekWhence_40 : decode cX3_seekWhence 40 = .ok (.invokevirtual 65, 3) := by decide +kernel
theorem dX3_seekWhence_43 : decode cX3_seekWhence 43 = .ok (.ifCond .eq 15, 3) := by decide +kernel
theorem dX3_seekWhence_46 : decode cX3_seekWhence 46 = .ok (.aload_n 0, 1) := by decide +kernel
theorem dX3_seekWhence_47 : decode cX3_seekWhence 47 = .ok (.dup, 1) := by decide +kernel
theorem dX3_seekWhence_48 : decode cX3_seekWhence 48 = .ok (.getfield 9, 3) := by decide +kernel
theorem dX3_seekWhence_51 : decode cX3_seekWhence 51 = .ok (.lconst 1, 1) := by decide +kernel
theorem dX3_seekWhence_52 : decode cX3_seekWhence 52 = .ok (.iload_n 2, 1) := by decide +kernel
theorem dX3_seekWhence_53 : decode cX3_seekWhence 53 = .ok (.lshl, 1) := by decide +kernel
theorem dX3_seekWhence_54 : decode cX3_seekWhence 54 = .ok (.lor, 1) := by decide +kernel
theorem dX3_seekWhence_55 : decode cX3_seekWhence 55 = .ok (.putfield 9, 3) := by decide +kernel
theorem dX3_seekWhence_58 : decode cX3_seekWhence 58 = .ok (.iinc 2 1, 3) := by decide +kernel
theorem dX3_seekWhence_61 : decode cX3_seekWhence 61 = .ok (.goto (-43), 3) := by decide +kernel
theorem dX3_seekWhence_64 : decode cX3_seekWhence 64 = .ok (.return_, 1) := by decide +kernel
theorem dX3_pickWhence_0 : decode cX3_pickWhence 0 = .ok (.iload_n 1, 1) := by decide +kernel
theorem dX3_pickWhence_1 : decode cX3_pickWhence 1 = .ok (.iconst (-1), 1) := by decide +kernel
theorem dX3_pickWhence_2 : decode cX3_pickWhence 2 = .ok (.if_icmp .ne 11, 3) := by decide +kernel
theorem dX3_pickWhence_5 : decode cX3_pickWhence 5 = .ok (.aload_n 0, 1) := by decide +kernel
theorem dX3_pickWhence_6 : decode cX3_pickWhence 6 = .ok (.getfield 9, 3) := by decide +kernel
theorem dX3_pickWhence_9 : decode cX3_pickWhence 9 = .ok (.invokestatic 77, 3) := by decide +kernel
theorem dX3_pickWhence_12 : decode cX3_pickWhence 12 = .ok (.ireturn, 1) := by decide +kernel
theorem dX3_pickWhence_13 : decode cX3_pickWhence 13 = .ok (.iconst 0, 1) := by decide +kernel
theorem dX3_pickWhence_14 : decode cX3_pickWhence 14 = .ok (.istore_n 2, 1) := by decide +kernel
theorem dX3_pickWhence_15 : decode cX3_pickWhence 15 = .ok (.iconst 0, 1) := by decide +kernel
theorem dX3_pickWhence_16 : decode cX3_pickWhence 16 = .ok (.istore_n 3, 1) := by decide +kernel
theorem dX3_pickWhence_17 : decode cX3_pickWhence 17 = .ok (.iload_n 3, 1) := by decide +kernel
theorem dX3_pickWhence_18 : decode cX3_pickWhence 18 = .ok (.bipush 36, 2) := by decide +kernel
theorem dX3_pickWhence_20 : decode cX3_pickWhence 20 = .ok (.if_icmp .ge 32, 3) := by decide +kernel
theorem dX3_pickWhence_23 : decode cX3_pickWhence 23 = .ok (.aload_n 0, 1) := by decide +kernel
theorem dX3_pickWhence_24 : decode cX3_pickWhence 24 = .ok (.getfield 9, 3) := by decide +kernel
theorem dX3_pickWhence_27 : decode cX3_pickWhence 27 = .ok (.iload_n 3, 1) := by decide +kernel
theorem dX3_pickWhence_28 : decode cX3_pickWhence 28 = .ok (.lshr, 1) := by decide +kernel
theorem dX3_pickWhence_29 : decode cX3_pickWhence 29 = .ok (.lconst 1, 1) := by decide +kernel
theorem dX3_pickWhence_30 : decode cX3_pickWhence 30 = .ok (.land, 1) := by decide +kernel
theorem dX3_pickWhence_31 : decode cX3_pickWhence 31 = .ok (.lconst 0, 1) := by decide +kernel
theorem dX3_pickWhence_32 : decode cX3_pickWhence 32 = .ok (.lcmp, 1) := by decide +kernel
theorem dX3_pickWhence_33 : decode cX3_pickWhence 33 = .ok (.ifCond .eq 13, 3) := by decide +kernel
theorem dX3_pickWhence_36 : decode cX3_pickWhence 36 = .ok (.iload_n 2, 1) := by decide +kernel
theorem dX3_pickWhence_37 : decode cX3_pickWhence 37 = .ok (.iload_n 1, 1) := by decide +kernel
theorem dX3_pickWhence_38 : decode cX3_pickWhence 38 = .ok (.if_icmp .ne 5, 3) := by decide +kernel
theorem dX3_pickWhence_41 : decode cX3_pickWhence 41 = .ok (.iload_n 3, 1) := by decide +kernel
theorem dX3_pickWhence_42 : decode cX3_pickWhence 42 = .ok (.ireturn, 1) := by decide +kernel
theorem dX3_pickWhence_43 : decode cX3_pickWhence 43 = .ok (.iinc 2 1, 3) := by decide +kernel
theorem dX3_pickWhence_46 : decode cX3_pickWhence 46 = .ok (.iinc 3 1, 3) := by decide +kernel
theorem dX3_pickWhence_49 : decode cX3_pickWhence 49 = .ok (.goto (-32), 3) := by decide +kernel
theorem dX3_pickWhence_52 : decode cX3_pickWhence 52 = .ok (.iconst (-1), 1) := by decide +kernel
theorem dX3_pickWhence_53 : decode cX3_pickWhence 53 = .ok (.ireturn, 1) := by decide +kernel
theorem dX3_paceBits_0 : decode cX3_paceBits 0 = .ok (.iconst 0, 1) := by decide +kernel
theorem dX3_paceBits_1 : decode cX3_paceBits 1 = .ok (.istore_n 1, 1) := by decide +kernel
theorem dX3_paceBits_2 : decode cX3_paceBits 2 = .ok (.aload_n 0, 1) := by decide +kernel
theorem dX3_paceBits_3 : decode cX3_paceBits 3 = .ok (.getfield 27, 3) := by decide +kernel
theorem dX3_paceBits_6 : decode cX3_paceBits 6 = .ok (.aload_n 0, 1) := by decide +kernel
theorem dX3_paceBits_7 : decode cX3_paceBits 7 = .ok (.getfield 23, 3) := by decide +kernel
theorem dX3_paceBits_10 : decode cX3_paceBits 10 = .ok (.invokevirtual 54, 3) := by decide +kernel
theorem dX3_paceBits_13 : decode cX3_paceBits 13 = .ok (.iconst 1, 1) := by decide +kernel
theorem dX3_paceBits_14 : decode cX3_paceBits 14 = .ok (.istore_n 2, 1) := by decide +kernel
theorem dX3_paceBits_15 : decode cX3_paceBits 15 = .ok (.iload_n 2, 1) := by decide +kernel
theorem dX3_paceBits_16 : decode cX3_paceBits 16 = .ok (.iconst 4, 1) := by decide +kernel
theorem dX3_paceBits_17 : decode cX3_paceBits 17 = .ok (.if_icmp .gt 30, 3) := by decide +kernel
theorem dX3_paceBits_20 : decode cX3_paceBits 20 = .ok (.aload_n 0, 1) := by decide +kernel
theorem dX3_paceBits_21 : decode cX3_paceBits 21 = .ok (.getfield 27, 3) := by decide +kernel
theorem dX3_paceBits_24 : decode cX3_paceBits 24 = .ok (.iload_n 2, 1) := by decide +kernel
theorem dX3_paceBits_25 : decode cX3_paceBits 25 = .ok (.putfield 83, 3) := by decide +kernel
theorem dX3_paceBits_28 : decode cX3_paceBits 28 = .ok (.aload_n 0, 1) := by decide +kernel
theorem dX3_paceBits_29 : decode cX3_paceBits 29 = .ok (.invokevirtual 65, 3) := by decide +kernel
theorem dX3_paceBits_32 : decode cX3_paceBits 32 = .ok (.ifCond .eq 9, 3) := by decide +kernel
theorem dX3_paceBits_35 : decode cX3_paceBits 35 = .ok (.iload_n 1, 1) := by decide +kernel
theorem dX3_paceBits_36 : decode cX3_paceBits 36 = .ok (.iconst 1, 1) := by decide +kernel
theorem dX3_paceBits_37 : decode cX3_paceBits 37 = .ok (.iload_n 2, 1) := by decide +kernel
theorem dX3_paceBits_38 : decode cX3_paceBits 38 = .ok (.ishl, 1) := by decide +kernel
theorem dX3_paceBits_39 : decode cX3_paceBits 39 = .ok (.ior, 1) := by decide +kernel
theorem dX3_paceBits_40 : decode cX3_paceBits 40 = .ok (.istore_n 1, 1) := by decide +kernel
theorem dX3_paceBits_41 : decode cX3_paceBits 41 = .ok (.iinc 2 1, 3) := by decide +kernel
theorem dX3_paceBits_44 : decode cX3_paceBits 44 = .ok (.goto (-29), 3) := by decide +kernel
theorem dX3_paceBits_47 : decode cX3_paceBits 47 = .ok (.iload_n 1, 1) := by decide +kernel
theorem dX3_paceBits_48 : decode cX3_paceBits 48 = .ok (.ireturn, 1) := by decide +kernel
theorem dX3_bestAsk_0 : decode cX3_bestAsk 0 = .ok (.aload_n 0, 1) := by decide +kernel
theorem dX3_bestAsk_1 : decode cX3_bestAsk 1 = .ok (.getfield 15, 3) := by decide +kernel
theorem dX3_bestAsk_4 : decode cX3_bestAsk 4 = .ok (.iconst 0, 1) := by decide +kernel
theorem dX3_bestAsk_5 : decode cX3_bestAsk 5 = .ok (.invokestatic 86, 3) := by decide +kernel
theorem dX3_bestAsk_8 : decode cX3_bestAsk 8 = .ok (.aload_n 0, 1) := by decide +kernel
theorem dX3_bestAsk_9 : decode cX3_bestAsk 9 = .ok (.getfield 27, 3) := by decide +kernel
theorem dX3_bestAsk_12 : decode cX3_bestAsk 12 = .ok (.aload_n 0, 1) := by decide +kernel
theorem dX3_bestAsk_13 : decode cX3_bestAsk 13 = .ok (.getfield 23, 3) := by decide +kernel
theorem dX3_bestAsk_16 : decode cX3_bestAsk 16 = .ok (.invokevirtual 54, 3) := by decide +kernel
theorem dX3_bestAsk_19 : decode cX3_bestAsk 19 = .ok (.iconst 0, 1) := by decide +kernel
theorem dX3_bestAsk_20 : decode cX3_bestAsk 20 = .ok (.istore_n 1, 1) := by decide +kernel
theorem dX3_bestAsk_21 : decode cX3_bestAsk 21 = .ok (.iload_n 1, 1) := by decide +kernel
theorem dX3_bestAsk_22 : decode cX3_bestAsk 22 = .ok (.aload_n 0, 1) := by decide +kernel
theorem dX3_bestAsk_23 : decode cX3_bestAsk 23 = .ok (.getfield 27, 3) := by decide +kernel
theorem dX3_bestAsk_26 : decode cX3_bestAsk 26 = .ok (.getfield 59, 3) := by decide +kernel
theorem dX3_bestAsk_29 : decode cX3_bestAsk 29 = .ok (.if_icmp .ge 71, 3) := by decide +kernel
theorem dX3_bestAsk_32 : decode cX3_bestAsk 32 = .ok (.aload_n 0, 1) := by decide +kernel
theorem dX3_bestAsk_33 : decode cX3_bestAsk 33 = .ok (.getfield 27, 3) := by decide +kernel
theorem dX3_bestAsk_36 : decode cX3_bestAsk 36 = .ok (.getfield 62, 3) := by decide +kernel
theorem dX3_bestAsk_39 : decode cX3_bestAsk 39 = .ok (.iload_n 1, 1) := by decide +kernel
theorem dX3_bestAsk_40 : decode cX3_bestAsk 40 = .ok (.bipush 20, 2) := by decide +kernel
theorem dX3_bestAsk_42 : decode cX3_bestAsk 42 = .ok (.iastore, 1) := by decide +kernel
theorem dX3_bestAsk_43 : decode cX3_bestAsk 43 = .ok (.aload_n 0, 1) := by decide +kernel
theorem dX3_bestAsk_44 : decode cX3_bestAsk 44 = .ok (.getfield 30, 3) := by decide +kernel
theorem dX3_bestAsk_47 : decode cX3_bestAsk 47 = .ok (.aload_n 0, 1) := by decide +kernel
theorem dX3_bestAsk_48 : decode cX3_bestAsk 48 = .ok (.getfield 27, 3) := by decide +kernel
theorem dX3_bestAsk_51 : decode cX3_bestAsk 51 = .ok (.invokevirtual 44, 3) := by decide +kernel
theorem dX3_bestAsk_54 : decode cX3_bestAsk 54 = .ok (.aload_n 0, 1) := by decide +kernel
theorem dX3_bestAsk_55 : decode cX3_bestAsk 55 = .ok (.getfield 34, 3) := by decide +kernel
theorem dX3_bestAsk_58 : decode cX3_bestAsk 58 = .ok (.aload_n 0, 1) := by decide +kernel
theorem dX3_bestAsk_59 : decode cX3_bestAsk 59 = .ok (.getfield 27, 3) := by decide +kernel
theorem dX3_bestAsk_62 : decode cX3_bestAsk 62 = .ok (.aload_n 0, 1) := by decide +kernel
theorem dX3_bestAsk_63 : decode cX3_bestAsk 63 = .ok (.getfield 30, 3) := by decide +kernel
theorem dX3_bestAsk_66 : decode cX3_bestAsk 66 = .ok (.invokevirtual 50, 3) := by decide +kernel
theorem dX3_bestAsk_69 : decode cX3_bestAsk 69 = .ok (.ifCond .eq 7, 3) := by decide +kernel
theorem dX3_bestAsk_72 : decode cX3_bestAsk 72 = .ok (.aload_n 0, 1) := by decide +kernel
theorem dX3_bestAsk_73 : decode cX3_bestAsk 73 = .ok (.invokevirtual 92, 3) := by decide +kernel
theorem dX3_bestAsk_76 : decode cX3_bestAsk 76 = .ok (.aload_n 0, 1) := by decide +kernel
theorem dX3_bestAsk_77 : decode cX3_bestAsk 77 = .ok (.getfield 27, 3) := by decide +kernel
theorem dX3_bestAsk_80 : decode cX3_bestAsk 80 = .ok (.getfield 62, 3) := by decide +kernel
theorem dX3_bestAsk_83 : decode cX3_bestAsk 83 = .ok (.iload_n 1, 1) := by decide +kernel
theorem dX3_bestAsk_84 : decode cX3_bestAsk 84 = .ok (.aload_n 0, 1) := by decide +kernel
theorem dX3_bestAsk_85 : decode cX3_bestAsk 85 = .ok (.getfield 23, 3) := by decide +kernel
theorem dX3_bestAsk_88 : decode cX3_bestAsk 88 = .ok (.getfield 62, 3) := by decide +kernel
theorem dX3_bestAsk_91 : decode cX3_bestAsk 91 = .ok (.iload_n 1, 1) := by decide +kernel
theorem dX3_bestAsk_92 : decode cX3_bestAsk 92 = .ok (.iaload, 1) := by decide +kernel
theorem dX3_bestAsk_93 : decode cX3_bestAsk 93 = .ok (.iastore, 1) := by decide +kernel
theorem dX3_bestAsk_94 : decode cX3_bestAsk 94 = .ok (.iinc 1 1, 3) := by decide +kernel
theorem dX3_bestAsk_97 : decode cX3_bestAsk 97 = .ok (.goto (-76), 3) := by decide +kernel
theorem dX3_bestAsk_100 : decode cX3_bestAsk 100 = .ok (.iconst (-1), 1) := by decide +kernel
theorem dX3_bestAsk_101 : decode cX3_bestAsk 101 = .ok (.istore_n 1, 1) := by decide +kernel
theorem dX3_bestAsk_102 : decode cX3_bestAsk 102 = .ok (.bipush 9, 2) := by decide +kernel
theorem dX3_bestAsk_104 : decode cX3_bestAsk 104 = .ok (.istore_n 2, 1) := by decide +kernel
theorem dX3_bestAsk_105 : decode cX3_bestAsk 105 = .ok (.iconst 0, 1) := by decide +kernel
theorem dX3_bestAsk_106 : decode cX3_bestAsk 106 = .ok (.istore_n 3, 1) := by decide +kernel
theorem dX3_bestAsk_107 : decode cX3_bestAsk 107 = .ok (.iload_n 3, 1) := by decide +kernel
theorem dX3_bestAsk_108 : decode cX3_bestAsk 108 = .ok (.aload_n 0, 1) := by decide +kernel
theorem dX3_bestAsk_109 : decode cX3_bestAsk 109 = .ok (.getfield 27, 3) := by decide +kernel
theorem dX3_bestAsk_112 : decode cX3_bestAsk 112 = .ok (.getfield 95, 3) := by decide +kernel
theorem dX3_bestAsk_115 : decode cX3_bestAsk 115 = .ok (.if_icmp .ge 27, 3) := by decide +kernel
theorem dX3_bestAsk_118 : decode cX3_bestAsk 118 = .ok (.aload_n 0, 1) := by decide +kernel
theorem dX3_bestAsk_119 : decode cX3_bestAsk 119 = .ok (.iload_n 3, 1) := by decide +kernel
theorem dX3_bestAsk_120 : decode cX3_bestAsk 120 = .ok (.invokevirtual 98, 3) := by decide +kernel
theorem dX3_bestAsk_123 : decode cX3_bestAsk 123 = .ok (.istore 4, 2) := by decide +kernel
theorem dX3_bestAsk_125 : decode cX3_bestAsk 125 = .ok (.iload 4, 2) := by decide +kernel
theorem dX3_bestAsk_127 : decode cX3_bestAsk 127 = .ok (.iload_n 2, 1) := by decide +kernel
theorem dX3_bestAsk_128 : decode cX3_bestAsk 128 = .ok (.if_icmp .ge 8, 3) := by decide +kernel
theorem dX3_bestAsk_131 : decode cX3_bestAsk 131 = .ok (.iload 4, 2) := by decide +kernel
theorem dX3_bestAsk_133 : decode cX3_bestAsk 133 = .ok (.istore_n 2, 1) := by decide +kernel
theorem dX3_bestAsk_134 : decode cX3_bestAsk 134 = .ok (.iload_n 3, 1) := by decide +kernel
theorem dX3_bestAsk_135 : decode cX3_bestAsk 135 = .ok (.istore_n 1, 1) := by decide +kernel
theorem dX3_bestAsk_136 : decode cX3_bestAsk 136 = .ok (.iinc 3 1, 3) := by decide +kernel
theorem dX3_bestAsk_139 : decode cX3_bestAsk 139 = .ok (.goto (-32), 3) := by decide +kernel
theorem dX3_bestAsk_142 : decode cX3_bestAsk 142 = .ok (.iload_n 1, 1) := by decide +kernel
theorem dX3_bestAsk_143 : decode cX3_bestAsk 143 = .ok (.ireturn, 1) := by decide +kernel
theorem dX3_tallyOutcomes_0 : decode cX3_tallyOutcomes 0 = .ok (.iconst 0, 1) := by decide +kernel
theorem dX3_tallyOutcomes_1 : decode cX3_tallyOutcomes 1 = .ok (.istore_n 1, 1) := by decide +kernel
theorem dX3_tallyOutcomes_2 : decode cX3_tallyOutcomes 2 = .ok (.iload_n 1, 1) := by decide +kernel
theorem dX3_tallyOutcomes_3 : decode cX3_tallyOutcomes 3 = .ok (.aload_n 0, 1) := by decide +kernel
theorem dX3_tallyOutcomes_4 : decode cX3_tallyOutcomes 4 = .ok (.getfield 27, 3) := by decide +kernel
theorem dX3_tallyOutcomes_7 : decode cX3_tallyOutcomes 7 = .ok (.getfield 95, 3) := by decide +kernel
theorem dX3_tallyOutcomes_10 : decode cX3_tallyOutcomes 10 = .ok (.if_icmp .ge 45, 3) := by decide +kernel
theorem dX3_tallyOutcomes_13 : decode cX3_tallyOutcomes 13 = .ok (.iload_n 1, 1) := by decide +kernel
theorem dX3_tallyOutcomes_14 : decode cX3_tallyOutcomes 14 = .ok (.iconst 5, 1) := by decide +kernel
theorem dX3_tallyOutcomes_15 : decode cX3_tallyOutcomes 15 = .ok (.imul, 1) := by decide +kernel
theorem dX3_tallyOutcomes_16 : decode cX3_tallyOutcomes 16 = .ok (.aload_n 0, 1) := by decide +kernel
theorem dX3_tallyOutcomes_17 : decode cX3_tallyOutcomes 17 = .ok (.getfield 30, 3) := by decide +kernel
theorem dX3_tallyOutcomes_20 : decode cX3_tallyOutcomes 20 = .ok (.iload_n 1, 1) := by decide +kernel
theorem dX3_tallyOutcomes_21 : decode cX3_tallyOutcomes 21 = .ok (.invokevirtual 102, 3) := by decide +kernel
theorem dX3_tallyOutcomes_24 : decode cX3_tallyOutcomes 24 = .ok (.iadd, 1) := by decide +kernel
theorem dX3_tallyOutcomes_25 : decode cX3_tallyOutcomes 25 = .ok (.istore_n 2, 1) := by decide +kernel
theorem dX3_tallyOutcomes_26 : decode cX3_tallyOutcomes 26 = .ok (.iload_n 2, 1) := by decide +kernel
theorem dX3_tallyOutcomes_27 : decode cX3_tallyOutcomes 27 = .ok (.ifCond .lt 22, 3) := by decide +kernel
theorem dX3_tallyOutcomes_30 : decode cX3_tallyOutcomes 30 = .ok (.iload_n 2, 1) := by decide +kernel
theorem dX3_tallyOutcomes_31 : decode cX3_tallyOutcomes 31 = .ok (.aload_n 0, 1) := by decide +kernel
theorem dX3_tallyOutcomes_32 : decode cX3_tallyOutcomes 32 = .ok (.getfield 15, 3) := by decide +kernel
theorem dX3_tallyOutcomes_35 : decode cX3_tallyOutcomes 35 = .ok (.arraylength, 1) := by decide +kernel
theorem dX3_tallyOutcomes_36 : decode cX3_tallyOutcomes 36 = .ok (.if_icmp .ge 13, 3) := by decide +kernel
theorem dX3_tallyOutcomes_39 : decode cX3_tallyOutcomes 39 = .ok (.aload_n 0, 1) := by decide +kernel
theorem dX3_tallyOutcomes_40 : decode cX3_tallyOutcomes 40 = .ok (.getfield 15, 3) := by decide +kernel
theorem dX3_tallyOutcomes_43 : decode cX3_tallyOutcomes 43 = .ok (.iload_n 2, 1) := by decide +kernel
theorem dX3_tallyOutcomes_44 : decode cX3_tallyOutcomes 44 = .ok (.dup2, 1) := by decide +kernel
theorem dX3_tallyOutcomes_45 : decode cX3_tallyOutcomes 45 = .ok (.iaload, 1) := by decide +kernel
theorem dX3_tallyOutcomes_46 : decode cX3_tallyOutcomes 46 = .ok (.iconst 1, 1) := by decide +kernel
theorem dX3_tallyOutcomes_47 : decode cX3_tallyOutcomes 47 = .ok (.iadd, 1) := by decide +kernel
theorem dX3_tallyOutcomes_48 : decode cX3_tallyOutcomes 48 = .ok (.iastore, 1) := by decide +kernel
theorem dX3_tallyOutcomes_49 : decode cX3_tallyOutcomes 49 = .ok (.iinc 1 1, 3) := by decide +kernel
theorem dX3_tallyOutcomes_52 : decode cX3_tallyOutcomes 52 = .ok (.goto (-50), 3) := by decide +kernel
theorem dX3_tallyOutcomes_55 : decode cX3_tallyOutcomes 55 = .ok (.return_, 1) := by decide +kernel
theorem dX3_greatestTally_0 : decode cX3_greatestTally 0 = .ok (.iconst 0, 1) := by decide +kernel
theorem dX3_greatestTally_1 : decode cX3_greatestTally 1 = .ok (.istore_n 2, 1) := by decide +kernel
theorem dX3_greatestTally_2 : decode cX3_greatestTally 2 = .ok (.iload_n 1, 1) := by decide +kernel
theorem dX3_greatestTally_3 : decode cX3_greatestTally 3 = .ok (.iconst 5, 1) := by decide +kernel
theorem dX3_greatestTally_4 : decode cX3_greatestTally 4 = .ok (.imul, 1) := by decide +kernel
theorem dX3_greatestTally_5 : decode cX3_greatestTally 5 = .ok (.istore_n 3, 1) := by decide +kernel
theorem dX3_greatestTally_6 : decode cX3_greatestTally 6 = .ok (.iload_n 3, 1) := by decide +kernel
theorem dX3_greatestTally_7 : decode cX3_greatestTally 7 = .ok (.iload_n 1, 1) := by decide +kernel
theorem dX3_greatestTally_8 : decode cX3_greatestTally 8 = .ok (.iconst 1, 1) := by decide +kernel
theorem dX3_greatestTally_9 : decode cX3_greatestTally 9 = .ok (.iadd, 1) := by decide +kernel
theorem dX3_greatestTally_10 : decode cX3_greatestTally 10 = .ok (.iconst 5, 1) := by decide +kernel
theorem dX3_greatestTally_11 : decode cX3_greatestTally 11 = .ok (.imul, 1) := by decide +kernel
theorem dX3_greatestTally_12 : decode cX3_greatestTally 12 = .ok (.if_icmp .ge 29, 3) := by decide +kernel
theorem dX3_greatestTally_15 : decode cX3_greatestTally 15 = .ok (.iload_n 3, 1) := by decide +kernel
theorem dX3_greatestTally_16 : decode cX3_greatestTally 16 = .ok (.aload_n 0, 1) := by decide +kernel
theorem dX3_greatestTally_17 : decode cX3_greatestTally 17 = .ok (.getfield 15, 3) := by decide +kernel
theorem dX3_greatestTally_20 : decode cX3_greatestTally 20 = .ok (.arraylength, 1) := by decide +kernel
theorem dX3_greatestTally_21 : decode cX3_greatestTally 21 = .ok (.if_icmp .ge 20, 3) := by decide +kernel
theorem dX3_greatestTally_24 : decode cX3_greatestTally 24 = .ok (.iload_n 2, 1) := by decide +kernel
theorem dX3_greatestTally_25 : decode cX3_greatestTally 25 = .ok (.aload_n 0, 1) := by decide +kernel
theorem dX3_greatestTally_26 : decode cX3_greatestTally 26 = .ok (.getfield 15, 3) := by decide +kernel
theorem dX3_greatestTally_29 : decode cX3_greatestTally 29 = .ok (.iload_n 3, 1) := by decide +kernel
theorem dX3_greatestTally_30 : decode cX3_greatestTally 30 = .ok (.iaload, 1) := by decide +kernel
theorem dX3_greatestTally_31 : decode cX3_greatestTally 31 = .ok (.invokestatic 105, 3) := by decide +kernel
theorem dX3_greatestTally_34 : decode cX3_greatestTally 34 = .ok (.istore_n 2, 1) := by decide +kernel
theorem dX3_greatestTally_35 : decode cX3_greatestTally 35 = .ok (.iinc 3 1, 3) := by decide +kernel
theorem dX3_greatestTally_38 : decode cX3_greatestTally 38 = .ok (.goto (-32), 3) := by decide +kernel
theorem dX3_greatestTally_41 : decode cX3_greatestTally 41 = .ok (.iload_n 2, 1) := by decide +kernel
theorem dX3_greatestTally_42 : decode cX3_greatestTally 42 = .ok (.ireturn, 1) := by decide +kernel
theorem dX4_init_0 : decode cX4_init 0 = .ok (.aload_n 0, 1) := by decide +kernel
theorem dX4_init_1 : decode cX4_init 1 = .ok (.invokespecial 3, 3) := by decide +kernel
theorem dX4_init_4 : decode cX4_init 4 = .ok (.aload_n 0, 1) := by decide +kernel
theorem dX4_init_5 : decode cX4_init 5 = .ok (.iconst 0, 1) := by decide +kernel
theorem dX4_init_6 : decode cX4_init 6 = .ok (.putfield 9, 3) := by decide +kernel
theorem dX4_init_9 : decode cX4_init 9 = .ok (.aload_n 0, 1) := by decide +kernel
theorem dX4_init_10 : decode cX4_init 10 = .ok (.bipush 8, 2) := by decide +kernel
theorem dX4_init_12 : decode cX4_init 12 = .ok (.newarray .int, 2) := by decide +kernel
theorem dX4_init_14 : decode cX4_init 14 = .ok (.putfield 15, 3) := by decide +kernel
theorem dX4_init_17 : decode cX4_init 17 = .ok (.aload_n 0, 1) := by decide +kernel
theorem dX4_init_18 : decode cX4_init 18 = .ok (.bipush 8, 2) := by decide +kernel
theorem dX4_init_20 : decode cX4_init 20 = .ok (.newarray .int, 2) := by decide +kernel
theorem dX4_init_22 : decode cX4_init 22 = .ok (.putfield 19, 3) := by decide +kernel
theorem dX4_init_25 : decode cX4_init 25 = .ok (.aload_n 0, 1) := by decide +kernel
theorem dX4_init_26 : decode cX4_init 26 = .ok (.bipush 8, 2) := by decide +kernel
theorem dX4_init_28 : decode cX4_init 28 = .ok (.newarray .int, 2) := by decide +kernel
theorem dX4_init_30 : decode cX4_init 30 = .ok (.putfield 22, 3) := by decide +kernel
theorem dX4_init_33 : decode cX4_init 33 = .ok (.aload_n 0, 1) := by decide +kernel
theorem dX4_init_34 : decode cX4_init 34 = .ok (.bipush 8, 2) := by decide +kernel
theorem dX4_init_36 : decode cX4_init 36 = .ok (.newarray .int, 2) := by decide +kernel
theorem dX4_init_38 : decode cX4_init 38 = .ok (.putfield 25, 3) := by decide +kernel
theorem dX4_init_41 : decode cX4_init 41 = .ok (.aload_n 0, 1) := by decide +kernel
theorem dX4_init_42 : decode cX4_init 42 = .ok (.bipush 8, 2) := by decide +kernel
theorem dX4_init_44 : decode cX4_init 44 = .ok (.newarray .int, 2) := by decide +kernel
theorem dX4_init_46 : decode cX4_init 46 = .ok (.putfield 28, 3) := by decide +kernel
theorem dX4_init_49 : decode cX4_init 49 = .ok (.aload_n 0, 1) := by decide +kernel
theorem dX4_init_50 : decode cX4_init 50 = .ok (.iconst 0, 1) := by decide +kernel
theorem dX4_init_51 : decode cX4_init 51 = .ok (.putfield 31, 3) := by decide +kernel
theorem dX4_init_54 : decode cX4_init 54 = .ok (.aload_n 0, 1) := by decide +kernel
theorem dX4_init_55 : decode cX4_init 55 = .ok (.bipush 8, 2) := by decide +kernel
theorem dX4_init_57 : decode cX4_init 57 = .ok (.newarray .int, 2) := by decide +kernel
theorem dX4_init_59 : decode cX4_init 59 = .ok (.putfield 34, 3) := by decide +kernel
theorem dX4_init_62 : decode cX4_init 62 = .ok (.aload_n 0, 1) := by decide +kernel
theorem dX4_init_63 : decode cX4_init 63 = .ok (.bipush 8, 2) := by decide +kernel
theorem dX4_init_65 : decode cX4_init 65 = .ok (.newarray .int, 2) := by decide +kernel
theorem dX4_init_67 : decode cX4_init 67 = .ok (.putfield 37, 3) := by decide +kernel
theorem dX4_init_70 : decode cX4_init 70 = .ok (.aload_n 0, 1) := by decide +kernel
theorem dX4_init_71 : decode cX4_init 71 = .ok (.bipush 8, 2) := by decide +kernel
theorem dX4_init_73 : decode cX4_init 73 = .ok (.newarray .int, 2) := by decide +kernel
theorem dX4_init_75 : decode cX4_init 75 = .ok (.putfield 40, 3) := by decide +kernel
theorem dX4_init_78 : decode cX4_init 78 = .ok (.aload_n 0, 1) := by decide +kernel
theorem dX4_init_79 : decode cX4_init 79 = .ok (.bipush 20, 2) := by decide +kernel
theorem dX4_init_81 : decode cX4_init 81 = .ok (.newarray .int, 2) := by decide +kernel
theorem dX4_init_83 : decode cX4_init 83 = .ok (.putfield 43, 3) := by decide +kernel
theorem dX4_init_86 : decode cX4_init 86 = .ok (.aload_n 0, 1) := by decide +kernel
theorem dX4_init_87 : decode cX4_init 87 = .ok (.iconst 2, 1) := by decide +kernel
theorem dX4_init_88 : decode cX4_init 88 = .ok (.putfield 46, 3) := by decide +kernel
theorem dX4_init_91 : decode cX4_init 91 = .ok (.aload_n 0, 1) := by decide +kernel
theorem dX4_init_92 : decode cX4_init 92 = .ok (.getfield 43, 3) := by decide +kernel
theorem dX4_init_95 : decode cX4_init 95 = .ok (.iconst (-1), 1) := by decide +kernel
theorem dX4_init_96 : decode cX4_init 96 = .ok (.invokestatic 49, 3) := by decide +kernel
theorem dX4_init_99 : decode cX4_init 99 = .ok (.return_, 1) := by decide +kernel
theorem dX4_becomes_0 : decode cX4_becomes 0 = .ok (.aload_n 0, 1) := by decide +kernel
theorem dX4_becomes_1 : decode cX4_becomes 1 = .ok (.aload_n 1, 1) := by decide +kernel
theorem dX4_becomes_2 : decode cX4_becomes 2 = .ok (.getfield 9, 3) := by decide +kernel
theorem dX4_becomes_5 : decode cX4_becomes 5 = .ok (.putfield 9, 3) := by decide +kernel
theorem dX4_becomes_8 : decode cX4_becomes 8 = .ok (.aload_n 1, 1) := by decide +kernel
theorem dX4_becomes_9 : decode cX4_becomes 9 = .ok (.getfield 15, 3) := by decide +kernel
theorem dX4_becomes_12 : decode cX4_becomes 12 = .ok (.iconst 0, 1) := by decide +kernel
theorem dX4_becomes_13 : decode cX4_becomes 13 = .ok (.aload_n 0, 1) := by decide +kernel
theorem dX4_becomes_14 : decode cX4_becomes 14 = .ok (.getfield 15, 3) := by decide +kernel
theorem dX4_becomes_17 : decode cX4_becomes 17 = .ok (.iconst 0, 1) := by decide +kernel
theorem dX4_becomes_18 : decode cX4_becomes 18 = .ok (.bipush 8, 2) := by decide +kernel
theorem dX4_becomes_20 : decode cX4_becomes 20 = .ok (.invokestatic 55, 3) := by decide +kernel
theorem dX4_becomes_23 : decode cX4_becomes 23 = .ok (.aload_n 1, 1) := by decide +kernel
theorem dX4_becomes_24 : decode cX4_becomes 24 = .ok (.getfield 19, 3) := by decide +kernel
theorem dX4_becomes_27 : decode cX4_becomes 27 = .ok (.iconst 0, 1) := by decide +kernel
theorem dX4_becomes_28 : decode cX4_becomes 28 = .ok (.aload_n 0, 1) := by decide +kernel
theorem dX4_becomes_29 : decode cX4_becomes 29 = .ok (.getfield 19, 3) := by decide +kernel
theorem dX4_becomes_32 : decode cX4_becomes 32 = .ok (.iconst 0, 1) := by decide +kernel
theorem dX4_becomes_33 : decode cX4_becomes 33 = .ok (.bipush 8, 2) := by decide +kernel
theorem dX4_becomes_35 : decode cX4_becomes 35 = .ok (.invokestatic 55, 3) := by decide +kernel
theorem dX4_becomes_38 : decode cX4_becomes 38 = .ok (.aload_n 1, 1) := by decide +kernel
theorem dX4_becomes_39 : decode cX4_becomes 39 = .ok (.getfield 22, 3) := by decide +kernel
theorem dX4_becomes_42 : decode cX4_becomes 42 = .ok (.iconst 0, 1) := by decide +kernel
theorem dX4_becomes_43 : decode cX4_becomes 43 = .ok (.aload_n 0, 1) := by decide +kernel
theorem dX4_becomes_44 : decode cX4_becomes 44 = .ok (.getfield 22, 3) := by decide +kernel
theorem dX4_becomes_47 : decode cX4_becomes 47 = .ok (.iconst 0, 1) := by decide +kernel
theorem dX4_becomes_48 : decode cX4_becomes 48 = .ok (.bipush 8, 2) := by decide +kernel
theorem dX4_becomes_50 : decode cX4_becomes 50 = .ok (.invokestatic 55, 3) := by decide +kernel
theorem dX4_becomes_53 : decode cX4_becomes 53 = .ok (.aload_n 1, 1) := by decide +kernel
theorem dX4_becomes_54 : decode cX4_becomes 54 = .ok (.getfield 25, 3) := by decide +kernel
theorem dX4_becomes_57 : decode cX4_becomes 57 = .ok (.iconst 0, 1) := by decide +kernel
theorem dX4_becomes_58 : decode cX4_becomes 58 = .ok (.aload_n 0, 1) := by decide +kernel
theorem dX4_becomes_59 : decode cX4_becomes 59 = .ok (.getfield 25, 3) := by decide +kernel
theorem dX4_becomes_62 : decode cX4_becomes 62 = .ok (.iconst 0, 1) := by decide +kernel
theorem dX4_becomes_63 : decode cX4_becomes 63 = .ok (.bipush 8, 2) := by decide +kernel
theorem dX4_becomes_65 : decode cX4_becomes 65 = .ok (.invokestatic 55, 3) := by decide +kernel
theorem dX4_becomes_68 : decode cX4_becomes 68 = .ok (.aload_n 1, 1) := by decide +kernel
theorem dX4_becomes_69 : decode cX4_becomes 69 = .ok (.getfield 28, 3) := by decide +kernel
theorem dX4_becomes_72 : decode cX4_becomes 72 = .ok (.iconst 0, 1) := by decide +kernel
theorem dX4_becomes_73 : decode cX4_becomes 73 = .ok (.aload_n 0, 1) := by decide +kernel
theorem dX4_becomes_74 : decode cX4_becomes 74 = .ok (.getfield 28, 3) := by decide +kernel
theorem dX4_becomes_77 : decode cX4_becomes 77 = .ok (.iconst 0, 1) := by decide +kernel
theorem dX4_becomes_78 : decode cX4_becomes 78 = .ok (.bipush 8, 2) := by decide +kernel
theorem dX4_becomes_80 : decode cX4_becomes 80 = .ok (.invokestatic 55, 3) := by decide +kernel
theorem dX4_becomes_83 : decode cX4_becomes 83 = .ok (.aload_n 0, 1) := by decide +kernel
theorem dX4_becomes_84 : decode cX4_becomes 84 = .ok (.aload_n 1, 1) := by decide +kernel
theorem dX4_becomes_85 : decode cX4_becomes 85 = .ok (.getfield 31, 3) := by decide +kernel
theorem dX4_becomes_88 : decode cX4_becomes 88 = .ok (.putfield 31, 3) := by decide +kernel
theorem dX4_becomes_91 : decode cX4_becomes 91 = .ok (.aload_n 1, 1) := by decide +kernel
theorem dX4_becomes_92 : decode cX4_becomes 92 = .ok (.getfield 34, 3) := by decide +kernel
theorem dX4_becomes_95 : decode cX4_becomes 95 = .ok (.iconst 0, 1) := by decide +kernel
theorem dX4_becomes_96 : decode cX4_becomes 96 = .ok (.aload_n 0, 1) := by decide +kernel
theorem dX4_becomes_97 : decode cX4_becomes 97 = .ok (.getfield 34, 3) := by decide +kernel
theorem dX4_becomes_100 : decode cX4_becomes 100 = .ok (.iconst 0, 1) := by decide +kernel
theorem dX4_becomes_101 : decode cX4_becomes 101 = .ok (.bipush 8, 2) := by decide +kernel
theorem dX4_becomes_103 : decode cX4_becomes 103 = .ok (.invokestatic 55, 3) := by decide +kernel
theorem dX4_becomes_106 : decode cX4_becomes 106 = .ok (.aload_n 1, 1) := by decide +kernel
theorem dX4_becomes_107 : decode cX4_becomes 107 = .ok (.getfield 37, 3) := by decide +kernel
theorem dX4_becomes_110 : decode cX4_becomes 110 = .ok (.iconst 0, 1) := by decide +kernel
theorem dX4_becomes_111 : decode cX4_becomes 111 = .ok (.aload_n 0, 1) := by decide +kernel
theorem dX4_becomes_112 : decode cX4_becomes 112 = .ok (.getfield 37, 3) := by decide +kernel
theorem dX4_becomes_115 : decode cX4_becomes 115 = .ok (.iconst 0, 1) := by decide +kernel
theorem dX4_becomes_116 : decode cX4_becomes 116 = .ok (.bipush 8, 2) := by decide +kernel
theorem dX4_becomes_118 : decode cX4_becomes 118 = .ok (.invokestatic 55, 3) := by decide +kernel
theorem dX4_becomes_121 : decode cX4_becomes 121 = .ok (.aload_n 1, 1) := by decide +kernel
theorem dX4_becomes_122 : decode cX4_becomes 122 = .ok (.getfield 40, 3) := by decide +kernel
theorem dX4_becomes_125 : decode cX4_becomes 125 = .ok (.iconst 0, 1) := by decide +kernel
theorem dX4_becomes_126 : decode cX4_becomes 126 = .ok (.aload_n 0, 1) := by decide +kernel
theorem dX4_becomes_127 : decode cX4_becomes 127 = .ok (.getfield 40, 3) := by decide +kernel
theorem dX4_becomes_130 : decode cX4_becomes 130 = .ok (.iconst 0, 1) := by decide +kernel
theorem dX4_becomes_131 : decode cX4_becomes 131 = .ok (.bipush 8, 2) := by decide +kernel
theorem dX4_becomes_133 : decode cX4_becomes 133 = .ok (.invokestatic 55, 3) := by decide +kernel
theorem dX4_becomes_136 : decode cX4_becomes 136 = .ok (.aload_n 1, 1) := by decide +kernel
theorem dX4_becomes_137 : decode cX4_becomes 137 = .ok (.getfield 43, 3) := by decide +kernel
theorem dX4_becomes_140 : decode cX4_becomes 140 = .ok (.iconst 0, 1) := by decide +kernel
theorem dX4_becomes_141 : decode cX4_becomes 141 = .ok (.aload_n 0, 1) := by decide +kernel
theorem dX4_becomes_142 : decode cX4_becomes 142 = .ok (.getfield 43, 3) := by decide +kernel
theorem dX4_becomes_145 : decode cX4_becomes 145 = .ok (.iconst 0, 1) := by decide +kernel
theorem dX4_becomes_146 : decode cX4_becomes 146 = .ok (.bipush 20, 2) := by decide +kernel
theorem dX4_becomes_148 : decode cX4_becomes 148 = .ok (.invokestatic 55, 3) := by decide +kernel
theorem dX4_becomes_151 : decode cX4_becomes 151 = .ok (.aload_n 0, 1) := by decide +kernel
theorem dX4_becomes_152 : decode cX4_becomes 152 = .ok (.aload_n 1, 1) := by decide +kernel
theorem dX4_becomes_153 : decode cX4_becomes 153 = .ok (.getfield 46, 3) := by decide +kernel
theorem dX4_becomes_156 : decode cX4_becomes 156 = .ok (.putfield 46, 3) := by decide +kernel
theorem dX4_becomes_159 : decode cX4_becomes 159 = .ok (.return_, 1) := by decide +kernel
theorem dX4_addRing_0 : decode cX4_addRing 0 = .ok (.aload_n 0, 1) := by decide +kernel
theorem dX4_addRing_1 : decode cX4_addRing 1 = .ok (.getfield 9, 3) := by decide +kernel
theorem dX4_addRing_4 : decode cX4_addRing 4 = .ok (.bipush 8, 2) := by decide +kernel
theorem dX4_addRing_6 : decode cX4_addRing 6 = .ok (.if_icmp .lt 4, 3) := by decide +kernel
theorem dX4_addRing_9 : decode cX4_addRing 9 = .ok (.return_, 1) := by decide +kernel
theorem dX4_addRing_10 : decode cX4_addRing 10 = .ok (.aload_n 0, 1) := by decide +kernel
theorem dX4_addRing_11 : decode cX4_addRing 11 = .ok (.getfield 15, 3) := by decide +kernel
theorem dX4_addRing_14 : decode cX4_addRing 14 = .ok (.aload_n 0, 1) := by decide +kernel
theorem dX4_addRing_15 : decode cX4_addRing 15 = .ok (.getfield 9, 3) := by decide +kernel
theorem dX4_addRing_18 : decode cX4_addRing 18 = .ok (.iload_n 1, 1) := by decide +kernel
theorem dX4_addRing_19 : decode cX4_addRing 19 = .ok (.iastore, 1) := by decide +kernel
theorem dX4_addRing_20 : decode cX4_addRing 20 = .ok (.aload_n 0, 1) := by decide +kernel
theorem dX4_addRing_21 : decode cX4_addRing 21 = .ok (.getfield 19, 3) := by decide +kernel
theorem dX4_addRing_24 : decode cX4_addRing 24 = .ok (.aload_n 0, 1) := by decide +kernel
theorem dX4_addRing_25 : decode cX4_addRing 25 = .ok (.getfield 9, 3) := by decide +kernel
theorem dX4_addRing_28 : decode cX4_addRing 28 = .ok (.iload_n 2, 1) := by decide +kernel
theorem dX4_addRing_29 : decode cX4_addRing 29 = .ok (.iastore, 1) := by decide +kernel
theorem dX4_addRing_30 : decode cX4_addRing 30 = .ok (.aload_n 0, 1) := by decide +kernel
theorem dX4_addRing_31 : decode cX4_addRing 31 = .ok (.getfield 22, 3) := by decide +kernel
theorem dX4_addRing_34 : decode cX4_addRing 34 = .ok (.aload_n 0, 1) := by decide +kernel
theorem dX4_addRing_35 : decode cX4_addRing 35 = .ok (.getfield 9, 3) := by decide +kernel
theorem dX4_addRing_38 : decode cX4_addRing 38 = .ok (.iload_n 3, 1) := by decide +kernel
theorem dX4_addRing_39 : decode cX4_addRing 39 = .ok (.iastore, 1) := by decide +kernel
theorem dX4_addRing_40 : decode cX4_addRing 40 = .ok (.aload_n 0, 1) := by decide +kernel
theorem dX4_addRing_41 : decode cX4_addRing 41 = .ok (.getfield 25, 3) := by decide +kernel
theorem dX4_addRing_44 : decode cX4_addRing 44 = .ok (.aload_n 0, 1) := by decide +kernel
theorem dX4_addRing_45 : decode cX4_addRing 45 = .ok (.getfield 9, 3) := by decide +kernel
theorem dX4_addRing_48 : decode cX4_addRing 48 = .ok (.iload 4, 2) := by decide +kernel
theorem dX4_addRing_50 : decode cX4_addRing 50 = .ok (.iastore, 1) := by decide +kernel
theorem dX4_addRing_51 : decode cX4_addRing 51 = .ok (.aload_n 0, 1) := by decide +kernel
theorem dX4_addRing_52 : decode cX4_addRing 52 = .ok (.getfield 28, 3) := by decide +kernel
theorem dX4_addRing_55 : decode cX4_addRing 55 = .ok (.aload_n 0, 1) := by decide +kernel
theorem dX4_addRing_56 : decode cX4_addRing 56 = .ok (.getfield 9, 3) := by decide +kernel
theorem dX4_addRing_59 : decode cX4_addRing 59 = .ok (.iload 5, 2) := by decide +kernel
theorem dX4_addRing_61 : decode cX4_addRing 61 = .ok (.iastore, 1) := by decide +kernel
theorem dX4_addRing_62 : decode cX4_addRing 62 = .ok (.aload_n 0, 1) := by decide +kernel
theorem dX4_addRing_63 : decode cX4_addRing 63 = .ok (.dup, 1) := by decide +kernel
theorem dX4_addRing_64 : decode cX4_addRing 64 = .ok (.getfield 9, 3) := by decide +kernel
theorem dX4_addRing_67 : decode cX4_addRing 67 = .ok (.iconst 1, 1) := by decide +kernel
theorem dX4_addRing_68 : decode cX4_addRing 68 = .ok (.iadd, 1) := by decide +kernel
theorem dX4_addRing_69 : decode cX4_addRing 69 = .ok (.putfield 9, 3) := by decide +kernel
theorem dX4_addRing_72 : decode cX4_addRing 72 = .ok (.return_, 1) := by decide +kernel
theorem dX4_upkeep_0 : decode cX4_upkeep 0 = .ok (.aload_n 0, 1) := by decide +kernel
theorem dX4_upkeep_1 : decode cX4_upkeep 1 = .ok (.getfield 37, 3) := by decide +kernel
theorem dX4_upkeep_4 : decode cX4_upkeep 4 = .ok (.iload_n 1, 1) := by decide +kernel
theorem dX4_upkeep_5 : decode cX4_upkeep 5 = .ok (.iaload, 1) := by decide +kernel
theorem dX4_upkeep_6 : decode cX4_upkeep 6 = .ok (.aload_n 0, 1) := by decide +kernel
theorem dX4_upkeep_7 : decode cX4_upkeep 7 = .ok (.getfield 40, 3) := by decide +kernel
theorem dX4_upkeep_10 : decode cX4_upkeep 10 = .ok (.iload_n 1, 1) := by decide +kernel
theorem dX4_upkeep_11 : decode cX4_upkeep 11 = .ok (.iaload, 1) := by decide +kernel
theorem dX4_upkeep_12 : decode cX4_upkeep 12 = .ok (.ifCond .ne 7, 3) := by decide +kernel
theorem dX4_upkeep_15 : decode cX4_upkeep 15 = .ok (.iconst 3, 1) := by decide +kernel
theorem dX4_upkeep_16 : decode cX4_upkeep 16 = .ok (.goto 18, 3) := by decide +kernel
theorem dX4_upkeep_19 : decode cX4_upkeep 19 = .ok (.aload_n 0, 1) := by decide +kernel
theorem dX4_upkeep_20 : decode cX4_upkeep 20 = .ok (.getfield 40, 3) := by decide +kernel
theorem dX4_upkeep_23 : decode cX4_upkeep 23 = .ok (.iload_n 1, 1) := by decide +kernel
theorem dX4_upkeep_24 : decode cX4_upkeep 24 = .ok (.iaload, 1) := by decide +kernel
theorem dX4_upkeep_25 : decode cX4_upkeep 25 = .ok (.iconst 1, 1) := by decide +kernel
theorem dX4_upkeep_26 : decode cX4_upkeep 26 = .ok (.if_icmp .ne 7, 3) := by decide +kernel
theorem dX4_upkeep_29 : decode cX4_upkeep 29 = .ok (.iconst 2, 1) := by decide +kernel
theorem dX4_upkeep_30 : decode cX4_upkeep 30 = .ok (.goto 4, 3) := by decide +kernel
theorem dX4_upkeep_33 : decode cX4_upkeep 33 = .ok (.iconst 1, 1) := by decide +kernel
theorem dX4_upkeep_34 : decode cX4_upkeep 34 = .ok (.imul, 1) := by decide +kernel
theorem dX4_upkeep_35 : decode cX4_upkeep 35 = .ok (.ireturn, 1) := by decide +kernel
theorem dX4_fits_0 : decode cX4_fits 0 = .ok (.iload_n 1, 1) := by decide +kernel
theorem dX4_fits_1 : decode cX4_fits 1 = .ok (.aload_n 0, 1) := by decide +kernel
theorem dX4_fits_2 : decode cX4_fits 2 = .ok (.getfield 37, 3) := by decide +kernel
theorem dX4_fits_5 : decode cX4_fits 5 = .ok (.iload_n 2, 1) := by decide +kernel
theorem dX4_fits_6 : decode cX4_fits 6 = .ok (.iaload, 1) := by decide +kernel
theorem dX4_fits_7 : decode cX4_fits 7 = .ok (.isub, 1) := by decide +kernel
theorem dX4_fits_8 : decode cX4_fits 8 = .ok (.istore_n 3, 1) := by decide +kernel
theorem dX4_fits_9 : decode cX4_fits 9 = .ok (.iload_n 3, 1) := by decide +kernel
theorem dX4_fits_10 : decode cX4_fits 10 = .ok (.ifCond .lt 35, 3) := by decide +kernel
theorem dX4_fits_13 : decode cX4_fits 13 = .ok (.aload_n 0, 1) := by decide +kernel
theorem dX4_fits_14 : decode cX4_fits 14 = .ok (.getfield 40, 3) := by decide +kernel
theorem dX4_fits_17 : decode cX4_fits 17 = .ok (.iload_n 2, 1) := by decide +kernel
theorem dX4_fits_18 : decode cX4_fits 18 = .ok (.iaload, 1) := by decide +kernel
theorem dX4_fits_19 : decode cX4_fits 19 = .ok (.ifCond .eq 22, 3) := by decide +kernel
theorem dX4_fits_22 : decode cX4_fits 22 = .ok (.iload_n 3, 1) := by decide +kernel
theorem dX4_fits_23 : decode cX4_fits 23 = .ok (.aload_n 0, 1) := by decide +kernel
theorem dX4_fits_24 : decode cX4_fits 24 = .ok (.getfield 40, 3) := by decide +kernel
theorem dX4_fits_27 : decode cX4_fits 27 = .ok (.iload_n 2, 1) := by decide +kernel
theorem dX4_fits_28 : decode cX4_fits 28 = .ok (.iaload, 1) := by decide +kernel
theorem dX4_fits_29 : decode cX4_fits 29 = .ok (.iconst 1, 1) := by decide +kernel
theorem dX4_fits_30 : decode cX4_fits 30 = .ok (.if_icmp .ne 7, 3) := by decide +kernel
theorem dX4_fits_33 : decode cX4_fits 33 = .ok (.iconst 1, 1) := by decide +kernel
theorem dX4_fits_34 : decode cX4_fits 34 = .ok (.goto 4, 3) := by decide +kernel
theorem dX4_fits_37 : decode cX4_fits 37 = .ok (.iconst 3, 1) := by decide +kernel
theorem dX4_fits_38 : decode cX4_fits 38 = .ok (.if_icmp .gt 7, 3) := by decide +kernel
theorem dX4_fits_41 : decode cX4_fits 41 = .ok (.iconst 1, 1) := by decide +kernel
theorem dX4_fits_42 : decode cX4_fits 42 = .ok (.goto 4, 3) := by decide +kernel
theorem dX4_fits_45 : decode cX4_fits 45 = .ok (.iconst 0, 1) := by decide +kernel
theorem dX4_fits_46 : decode cX4_fits 46 = .ok (.ireturn, 1) := by decide +kernel
theorem dX4_rereadThings_0 : decode cX4_rereadThings 0 = .ok (.aload_n 1, 1) := by decide +kernel
theorem dX4_rereadThings_1 : decode cX4_rereadThings 1 = .ok (.invokestatic 61, 3) := by decide +kernel
theorem dX4_rereadThings_4 : decode cX4_rereadThings 4 = .ok (.istore_n 2, 1) := by decide +kernel
theorem dX4_rereadThings_5 : decode cX4_rereadThings 5 = .ok (.aload_n 0, 1) := by decide +kernel
theorem dX4_rereadThings_6 : decode cX4_rereadThings 6 = .ok (.iload_n 2, 1) := by decide +kernel
theorem dX4_rereadThings_7 : decode cX4_rereadThings 7 = .ok (.iconst (-1), 1) := by decide +kernel
theorem dX4_rereadThings_8 : decode cX4_rereadThings 8 = .ok (.if_icmp .ne 19, 3) := by decide +kernel
theorem dX4_rereadThings_11 : decode cX4_rereadThings 11 = .ok (.aload_n 1, 1) := by decide +kernel
theorem dX4_rereadThings_12 : decode cX4_rereadThings 12 = .ok (.getfield 65, 3) := by decide +kernel
theorem dX4_rereadThings_15 : decode cX4_rereadThings 15 = .ok (.iconst 1, 1) := by decide +kernel
theorem dX4_rereadThings_16 : decode cX4_rereadThings 16 = .ok (.iadd, 1) := by decide +kernel
theorem dX4_rereadThings_17 : decode cX4_rereadThings 17 = .ok (.iconst 5, 1) := by decide +kernel
theorem dX4_rereadThings_18 : decode cX4_rereadThings 18 = .ok (.idiv, 1) := by decide +kernel
theorem dX4_rereadThings_19 : decode cX4_rereadThings 19 = .ok (.bipush 8, 2) := by decide +kernel
theorem dX4_rereadThings_21 : decode cX4_rereadThings 21 = .ok (.invokestatic 70, 3) := by decide +kernel
theorem dX4_rereadThings_24 : decode cX4_rereadThings 24 = .ok (.goto 4, 3) := by decide +kernel
theorem dX4_rereadThings_27 : decode cX4_rereadThings 27 = .ok (.iconst 0, 1) := by decide +kernel
theorem dX4_rereadThings_28 : decode cX4_rereadThings 28 = .ok (.putfield 31, 3) := by decide +kernel
theorem dX4_rereadThings_31 : decode cX4_rereadThings 31 = .ok (.iconst 0, 1) := by decide +kernel
theorem dX4_rereadThings_32 : decode cX4_rereadThings 32 = .ok (.istore_n 3, 1) := by decide +kernel
theorem dX4_rereadThings_33 : decode cX4_rereadThings 33 = .ok (.iload_n 3, 1) := by decide +kernel
theorem dX4_rereadThings_34 : decode cX4_rereadThings 34 = .ok (.aload_n 0, 1) := by decide +kernel
theorem dX4_rereadThings_35 : decode cX4_rereadThings 35 = .ok (.getfield 31, 3) := by decide +kernel
theorem dX4_rereadThings_38 : decode cX4_rereadThings 38 = .ok (.if_icmp .ge 100, 3) := by decide +kernel
theorem dX4_rereadThings_41 : decode cX4_rereadThings 41 = .ok (.iload_n 3, 1) := by decide +kernel
theorem dX4_rereadThings_42 : decode cX4_rereadThings 42 = .ok (.iconst 5, 1) := by decide +kernel
theorem dX4_rereadThings_43 : decode cX4_rereadThings 43 = .ok (.imul, 1) := by decide +kernel
theorem dX4_rereadThings_44 : decode cX4_rereadThings 44 = .ok (.istore 4, 2) := by decide +kernel
theorem dX4_rereadThings_46 : decode cX4_rereadThings 46 = .ok (.aload_n 0, 1) := by decide +kernel
theorem dX4_rereadThings_47 : decode cX4_rereadThings 47 = .ok (.getfield 34, 3) := by decide +kernel
theorem dX4_rereadThings_50 : decode cX4_rereadThings 50 = .ok (.iload_n 3, 1) := by decide +kernel
theorem dX4_rereadThings_51 : decode cX4_rereadThings 51 = .ok (.aload_n 1, 1) := by decide +kernel
theorem dX4_rereadThings_52 : decode cX4_rereadThings 52 = .ok (.iload 4, 2) := by decide +kernel
theorem dX4_rereadThings_54 : decode cX4_rereadThings 54 = .ok (.invokevirtual 76, 3) := by decide +kernel
theorem dX4_rereadThings_57 : decode cX4_rereadThings 57 = .ok (.bipush 48, 2) := by decide +kernel
theorem dX4_rereadThings_59 : decode cX4_rereadThings 59 = .ok (.isub, 1) := by decide +kernel
theorem dX4_rereadThings_60 : decode cX4_rereadThings 60 = .ok (.bipush 10, 2) := by decide +kernel
theorem dX4_rereadThings_62 : decode cX4_rereadThings 62 = .ok (.imul, 1) := by decide +kernel
theorem dX4_rereadThings_63 : decode cX4_rereadThings 63 = .ok (.aload_n 1, 1) := by decide +kernel
theorem dX4_rereadThings_64 : decode cX4_rereadThings 64 = .ok (.iload 4, 2) := by decide +kernel
theorem dX4_rereadThings_66 : decode cX4_rereadThings 66 = .ok (.iconst 1, 1) := by decide +kernel
theorem dX4_rereadThings_67 : decode cX4_rereadThings 67 = .ok (.iadd, 1) := by decide +kernel
theorem dX4_rereadThings_68 : decode cX4_rereadThings 68 = .ok (.invokevirtual 76, 3) := by decide +kernel
theorem dX4_rereadThings_71 : decode cX4_rereadThings 71 = .ok (.iadd, 1) := by decide +kernel
theorem dX4_rereadThings_72 : decode cX4_rereadThings 72 = .ok (.bipush 48, 2) := by decide +kernel
theorem dX4_rereadThings_74 : decode cX4_rereadThings 74 = .ok (.isub, 1) := by decide +kernel
theorem dX4_rereadThings_75 : decode cX4_rereadThings 75 = .ok (.iastore, 1) := by decide +kernel
theorem dX4_rereadThings_76 : decode cX4_rereadThings 76 = .ok (.aload_n 0, 1) := by decide +kernel
theorem dX4_rereadThings_77 : decode cX4_rereadThings 77 = .ok (.getfield 37, 3) := by decide +kernel
theorem dX4_rereadThings_80 : decode cX4_rereadThings 80 = .ok (.iload_n 3, 1) := by decide +kernel
theorem dX4_rereadThings_81 : decode cX4_rereadThings 81 = .ok (.aload_n 1, 1) := by decide +kernel
theorem dX4_rereadThings_82 : decode cX4_rereadThings 82 = .ok (.iload 4, 2) := by decide +kernel
theorem dX4_rereadThings_84 : decode cX4_rereadThings 84 = .ok (.iconst 2, 1) := by decide +kernel
theorem dX4_rereadThings_85 : decode cX4_rereadThings 85 = .ok (.iadd, 1) := by decide +kernel
theorem dX4_rereadThings_86 : decode cX4_rereadThings 86 = .ok (.invokevirtual 76, 3) := by decide +kernel
theorem dX4_rereadThings_89 : decode cX4_rereadThings 89 = .ok (.bipush 48, 2) := by decide +kernel
theorem dX4_rereadThings_91 : decode cX4_rereadThings 91 = .ok (.isub, 1) := by decide +kernel
theorem dX4_rereadThings_92 : decode cX4_rereadThings 92 = .ok (.iastore, 1) := by decide +kernel
theorem dX4_rereadThings_93 : decode cX4_rereadThings 93 = .ok (.aload_n 1, 1) := by decide +kernel
theorem dX4_rereadThings_94 : decode cX4_rereadThings 94 = .ok (.iload 4, 2) := by decide +kernel
theorem dX4_rereadThings_96 : decode cX4_rereadThings 96 = .ok (.iconst 3, 1) := by decide +kernel
theorem dX4_rereadThings_97 : decode cX4_rereadThings 97 = .ok (.iadd, 1) := by decide +kernel
theorem dX4_rereadThings_98 : decode cX4_rereadThings 98 = .ok (.invokevirtual 76, 3) := by decide +kernel
theorem dX4_rereadThings_101 : decode cX4_rereadThings 101 = .ok (.istore 5, 2) := by decide +kernel
theorem dX4_rereadThings_103 : decode cX4_rereadThings 103 = .ok (.aload_n 0, 1) := by decide +kernel
theorem dX4_rereadThings_104 : decode cX4_rereadThings 104 = .ok (.getfield 40, 3) := by decide +kernel
theorem dX4_rereadThings_107 : decode cX4_rereadThings 107 = .ok (.iload_n 3, 1) := by decide +kernel
theorem dX4_rereadThings_108 : decode cX4_rereadThings 108 = .ok (.iload 5, 2) := by decide +kernel
theorem dX4_rereadThings_110 : decode cX4_rereadThings 110 = .ok (.bipush 112, 2) := by decide +kernel
theorem dX4_rereadThings_112 : decode cX4_rereadThings 112 = .ok (.if_icmp .ne 7, 3) := by decide +kernel
theorem dX4_rereadThings_115 : decode cX4_rereadThings 115 = .ok (.iconst 0, 1) := by decide +kernel
theorem dX4_rereadThings_116 : decode cX4_rereadThings 116 = .ok (.goto 15, 3) := by decide +kernel
theorem dX4_rereadThings_119 : decode cX4_rereadThings 119 = .ok (.iload 5, 2) := by decide +kernel
theorem dX4_rereadThings_121 : decode cX4_rereadThings 121 = .ok (.bipush 98, 2) := by decide +kernel
theorem dX4_rereadThings_123 : decode cX4_rereadThings 123 = .ok (.if_icmp .ne 7, 3) := by decide +kernel
theorem dX4_rereadThings_126 : decode cX4_rereadThings 126 = .ok (.iconst 1, 1) := by decide +kernel
theorem dX4_rereadThings_127 : decode cX4_rereadThings 127 = .ok (.goto 4, 3) := by decide +kernel
theorem dX4_rereadThings_130 : decode cX4_rereadThings 130 = .ok (.iconst 2, 1) := by decide +kernel
theorem dX4_rereadThings_131 : decode cX4_rereadThings 131 = .ok (.iastore, 1) := by decide +kernel
theorem dX4_rereadThings_132 : decode cX4_rereadThings 132 = .ok (.iinc 3 1, 3) := by decide +kernel
theorem dX4_rereadThings_135 : decode cX4_rereadThings 135 = .ok (.goto (-102), 3) := by decide +kernel
theorem dX4_rereadThings_138 : decode cX4_rereadThings 138 = .ok (.iload_n 2, 1) := by decide +kernel
theorem dX4_rereadThings_139 : decode cX4_rereadThings 139 = .ok (.ireturn, 1) := by decide +kernel
theorem dX4_thingsFault_0 : decode cX4_thingsFault 0 = .ok (.iconst 0, 1) := by decide +kernel
theorem dX4_thingsFault_1 : decode cX4_thingsFault 1 = .ok (.istore_n 1, 1) := by decide +kernel
theorem dX4_thingsFault_2 : decode cX4_thingsFault 2 = .ok (.iload_n 1, 1) := by decide +kernel
theorem dX4_thingsFault_3 : decode cX4_thingsFault 3 = .ok (.aload_n 0, 1) := by decide +kernel
theorem dX4_thingsFault_4 : decode cX4_thingsFault 4 = .ok (.getfield 65, 3) := by decide +kernel
theorem dX4_thingsFault_7 : decode cX4_thingsFault 7 = .ok (.if_icmp .ge 33, 3) := by decide +kernel
theorem dX4_thingsFault_10 : decode cX4_thingsFault 10 = .ok (.iload_n 1, 1) := by decide +kernel
theorem dX4_thingsFault_11 : decode cX4_thingsFault 11 = .ok (.iconst 5, 1) := by decide +kernel
theorem dX4_thingsFault_12 : decode cX4_thingsFault 12 = .ok (.idiv, 1) := by decide +kernel
theorem dX4_thingsFault_13 : decode cX4_thingsFault 13 = .ok (.bipush 8, 2) := by decide +kernel
theorem dX4_thingsFault_15 : decode cX4_thingsFault 15 = .ok (.if_icmp .ge 17, 3) := by decide +kernel
theorem dX4_thingsFault_18 : decode cX4_thingsFault 18 = .ok (.iload_n 1, 1) := by decide +kernel
theorem dX4_thingsFault_19 : decode cX4_thingsFault 19 = .ok (.iconst 5, 1) := by decide +kernel
theorem dX4_thingsFault_20 : decode cX4_thingsFault 20 = .ok (.irem, 1) := by decide +kernel
theorem dX4_thingsFault_21 : decode cX4_thingsFault 21 = .ok (.aload_n 0, 1) := by decide +kernel
theorem dX4_thingsFault_22 : decode cX4_thingsFault 22 = .ok (.iload_n 1, 1) := by decide +kernel
theorem dX4_thingsFault_23 : decode cX4_thingsFault 23 = .ok (.invokevirtual 76, 3) := by decide +kernel
theorem dX4_thingsFault_26 : decode cX4_thingsFault 26 = .ok (.invokestatic 80, 3) := by decide +kernel
theorem dX4_thingsFault_29 : decode cX4_thingsFault 29 = .ok (.ifCond .ne 5, 3) := by decide +kernel
theorem dX4_thingsFault_32 : decode cX4_thingsFault 32 = .ok (.iload_n 1, 1) := by decide +kernel
theorem dX4_thingsFault_33 : decode cX4_thingsFault 33 = .ok (.ireturn, 1) := by decide +kernel
theorem dX4_thingsFault_34 : decode cX4_thingsFault 34 = .ok (.iinc 1 1, 3) := by decide +kernel
theorem dX4_thingsFault_37 : decode cX4_thingsFault 37 = .ok (.goto (-35), 3) := by decide +kernel
theorem dX4_thingsFault_40 : decode cX4_thingsFault 40 = .ok (.aload_n 0, 1) := by decide +kernel
theorem dX4_thingsFault_41 : decode cX4_thingsFault 41 = .ok (.getfield 65, 3) := by decide +kernel
theorem dX4_thingsFault_44 : decode cX4_thingsFault 44 = .ok (.ifCond .eq 13, 3) := by decide +kernel
theorem dX4_thingsFault_47 : decode cX4_thingsFault 47 = .ok (.aload_n 0, 1) := by decide +kernel
theorem dX4_thingsFault_48 : decode cX4_thingsFault 48 = .ok (.getfield 65, 3) := by decide +kernel
theorem dX4_thingsFault_51 : decode cX4_thingsFault 51 = .ok (.iconst 5, 1) := by decide +kernel
theorem dX4_thingsFault_52 : decode cX4_thingsFault 52 = .ok (.irem, 1) := by decide +kernel
theorem dX4_thingsFault_53 : decode cX4_thingsFault 53 = .ok (.iconst 4, 1) := by decide +kernel
theorem dX4_thingsFault_54 : decode cX4_thingsFault 54 = .ok (.if_icmp .ne 7, 3) := by decide +kernel
theorem dX4_thingsFault_57 : decode cX4_thingsFault 57 = .ok (.iconst 1, 1) := by decide +kernel
theorem dX4_thingsFault_58 : decode cX4_thingsFault 58 = .ok (.goto 4, 3) := by decide +kernel
theorem dX4_thingsFault_61 : decode cX4_thingsFault 61 = .ok (.iconst 0, 1) := by decide +kernel
theorem dX4_thingsFault_62 : decode cX4_thingsFault 62 = .ok (.istore_n 1, 1) := by decide +kernel
theorem dX4_thingsFault_63 : decode cX4_thingsFault 63 = .ok (.iload_n 1, 1) := by decide +kernel
theorem dX4_thingsFault_64 : decode cX4_thingsFault 64 = .ok (.ifCond .eq 7, 3) := by decide +kernel
theorem dX4_thingsFault_67 : decode cX4_thingsFault 67 = .ok (.iconst (-1), 1) := by decide +kernel
theorem dX4_thingsFault_68 : decode cX4_thingsFault 68 = .ok (.goto 7, 3) := by decide +kernel
theorem dX4_thingsFault_71 : decode cX4_thingsFault 71 = .ok (.aload_n 0, 1) := by decide +kernel
theorem dX4_thingsFault_72 : decode cX4_thingsFault 72 = .ok (.getfield 65, 3) := by decide +kernel
theorem dX4_thingsFault_75 : decode cX4_thingsFault 75 = .ok (.ireturn, 1) := by decide +kernel
theorem dX4_fitsThing_0 : decode cX4_fitsThing 0 = .ok (.iload_n 0, 1) := by decide +kernel
theorem dX4_fitsThing_1 : decode cX4_fitsThing 1 = .ok (.tableswitch 109 0 3 #[31, 49, 67, 85], 31) := by decide +kernel
theorem dX4_fitsThing_32 : decode cX4_fitsThing 32 = .ok (.iload_n 1, 1) := by decide +kernel
theorem dX4_fitsThing_33 : decode cX4_fitsThing 33 = .ok (.bipush 48, 2) := by decide +kernel
theorem dX4_fitsThing_35 : decode cX4_fitsThing 35 = .ok (.if_icmp .lt 13, 3) := by decide +kernel
theorem dX4_fitsThing_38 : decode cX4_fitsThing 38 = .ok (.iload_n 1, 1) := by decide +kernel
theorem dX4_fitsThing_39 : decode cX4_fitsThing 39 = .ok (.bipush 51, 2) := by decide +kernel
theorem dX4_fitsThing_41 : decode cX4_fitsThing 41 = .ok (.if_icmp .gt 7, 3) := by decide +kernel
theorem dX4_fitsThing_44 : decode cX4_fitsThing 44 = .ok (.iconst 1, 1) := by decide +kernel
theorem dX4_fitsThing_45 : decode cX4_fitsThing 45 = .ok (.goto 4, 3) := by decide +kernel
theorem dX4_fitsThing_48 : decode cX4_fitsThing 48 = .ok (.iconst 0, 1) := by decide +kernel
theorem dX4_fitsThing_49 : decode cX4_fitsThing 49 = .ok (.ireturn, 1) := by decide +kernel
theorem dX4_fitsThing_50 : decode cX4_fitsThing 50 = .ok (.iload_n 1, 1) := by decide +kernel
theorem dX4_fitsThing_51 : decode cX4_fitsThing 51 = .ok (.bipush 48, 2) := by decide +kernel
theorem dX4_fitsThing_53 : decode cX4_fitsThing 53 = .ok (.if_icmp .lt 13, 3) := by decide +kernel
theorem dX4_fitsThing_56 : decode cX4_fitsThing 56 = .ok (.iload_n 1, 1) := by decide +kernel
theorem dX4_fitsThing_57 : decode cX4_fitsThing 57 = .ok (.bipush 57, 2) := by decide +kernel
theorem dX4_fitsThing_59 : decode cX4_fitsThing 59 = .ok (.if_icmp .gt 7, 3) := by decide +kernel
theorem dX4_fitsThing_62 : decode cX4_fitsThing 62 = .ok (.iconst 1, 1) := by decide +kernel
theorem dX4_fitsThing_63 : decode cX4_fitsThing 63 = .ok (.goto 4, 3) := by decide +kernel
theorem dX4_fitsThing_66 : decode cX4_fitsThing 66 = .ok (.iconst 0, 1) := by decide +kernel
theorem dX4_fitsThing_67 : decode cX4_fitsThing 67 = .ok (.ireturn, 1) := by decide +kernel
theorem dX4_fitsThing_68 : decode cX4_fitsThing 68 = .ok (.iload_n 1, 1) := by decide +kernel
theorem dX4_fitsThing_69 : decode cX4_fitsThing 69 = .ok (.bipush 49, 2) := by decide +kernel
theorem dX4_fitsThing_71 : decode cX4_fitsThing 71 = .ok (.if_icmp .lt 13, 3) := by decide +kernel
theorem dX4_fitsThing_74 : decode cX4_fitsThing 74 = .ok (.iload_n 1, 1) := by decide +kernel
theorem dX4_fitsThing_75 : decode cX4_fitsThing 75 = .ok (.bipush 57, 2) := by decide +kernel
theorem dX4_fitsThing_77 : decode cX4_fitsThing 77 = .ok (.if_icmp .gt 7, 3) := by decide +kernel
theorem dX4_fitsThing_80 : decode cX4_fitsThing 80 = .ok (.iconst 1, 1) := by decide +kernel
theorem dX4_fitsThing_81 : decode cX4_fitsThing 81 = .ok (.goto 4, 3) := by decide +kernel
theorem dX4_fitsThing_84 : decode cX4_fitsThing 84 = .ok (.iconst 0, 1) := by decide +kernel
theorem dX4_fitsThing_85 : decode cX4_fitsThing 85 = .ok (.ireturn, 1) := by decide +kernel
theorem dX4_fitsThing_86 : decode cX4_fitsThing 86 = .ok (.iload_n 1, 1) := by decide +kernel
theorem dX4_fitsThing_87 : decode cX4_fitsThing 87 = .ok (.bipush 112, 2) := by decide +kernel
theorem dX4_fitsThing_89 : decode cX4_fitsThing 89 = .ok (.if_icmp .eq 15, 3) := by decide +kernel
theorem dX4_fitsThing_92 : decode cX4_fitsThing 92 = .ok (.iload_n 1, 1) := by decide +kernel
theorem dX4_fitsThing_93 : decode cX4_fitsThing 93 = .ok (.bipush 98, 2) := by decide +kernel
theorem dX4_fitsThing_95 : decode cX4_fitsThing 95 = .ok (.if_icmp .eq 9, 3) := by decide +kernel
theorem dX4_fitsThing_98 : decode cX4_fitsThing 98 = .ok (.iload_n 1, 1) := by decide +kernel
theorem dX4_fitsThing_99 : decode cX4_fitsThing 99 = .ok (.bipush 116, 2) := by decide +kernel
theorem dX4_fitsThing_101 : decode cX4_fitsThing 101 = .ok (.if_icmp .ne 7, 3) := by decide +kernel
theorem dX4_fitsThing_104 : decode cX4_fitsThing 104 = .ok (.iconst 1, 1) := by decide +kernel
theorem dX4_fitsThing_105 : decode cX4_fitsThing 105 = .ok (.goto 4, 3) := by decide +kernel
theorem dX4_fitsThing_108 : decode cX4_fitsThing 108 = .ok (.iconst 0, 1) := by decide +kernel
theorem dX4_fitsThing_109 : decode cX4_fitsThing 109 = .ok (.ireturn, 1) := by decide +kernel
theorem dX4_fitsThing_110 : decode cX4_fitsThing 110 = .ok (.iload_n 1, 1) := by decide +kernel
theorem dX4_fitsThing_111 : decode cX4_fitsThing 111 = .ok (.bipush 59, 2) := by decide +kernel
theorem dX4_fitsThing_113 : decode cX4_fitsThing 113 = .ok (.if_icmp .ne 7, 3) := by decide +kernel
theorem dX4_fitsThing_116 : decode cX4_fitsThing 116 = .ok (.iconst 1, 1) := by decide +kernel
theorem dX4_fitsThing_117 : decode cX4_fitsThing 117 = .ok (.goto 4, 3) := by decide +kernel
theorem dX4_fitsThing_120 : decode cX4_fitsThing 120 = .ok (.iconst 0, 1) := by decide +kernel
theorem dX4_fitsThing_121 : decode cX4_fitsThing 121 = .ok (.ireturn, 1) := by decide +kernel
theorem dX4_rereadWind_0 : decode cX4_rereadWind 0 = .ok (.aload_n 0, 1) := by decide +kernel
theorem dX4_rereadWind_1 : decode cX4_rereadWind 1 = .ok (.getfield 43, 3) := by decide +kernel
theorem dX4_rereadWind_4 : decode cX4_rereadWind 4 = .ok (.iconst (-1), 1) := by decide +kernel
theorem dX4_rereadWind_5 : decode cX4_rereadWind 5 = .ok (.invokestatic 49, 3) := by decide +kernel
theorem dX4_rereadWind_8 : decode cX4_rereadWind 8 = .ok (.iconst 0, 1) := by decide +kernel
theorem dX4_rereadWind_9 : decode cX4_rereadWind 9 = .ok (.istore_n 2, 1) := by decide +kernel
theorem dX4_rereadWind_10 : decode cX4_rereadWind 10 = .ok (.iload_n 2, 1) := by decide +kernel
theorem dX4_rereadWind_11 : decode cX4_rereadWind 11 = .ok (.aload_n 1, 1) := by decide +kernel
theorem dX4_rereadWind_12 : decode cX4_rereadWind 12 = .ok (.getfield 65, 3) := by decide +kernel
theorem dX4_rereadWind_15 : decode cX4_rereadWind 15 = .ok (.if_icmp .ge 47, 3) := by decide +kernel
theorem dX4_rereadWind_18 : decode cX4_rereadWind 18 = .ok (.iload_n 2, 1) := by decide +kernel
theorem dX4_rereadWind_19 : decode cX4_rereadWind 19 = .ok (.bipush 20, 2) := by decide +kernel
theorem dX4_rereadWind_21 : decode cX4_rereadWind 21 = .ok (.if_icmp .ge 41, 3) := by decide +kernel
theorem dX4_rereadWind_24 : decode cX4_rereadWind 24 = .ok (.aload_n 1, 1) := by decide +kernel
theorem dX4_rereadWind_25 : decode cX4_rereadWind 25 = .ok (.iload_n 2, 1) := by decide +kernel
theorem dX4_rereadWind_26 : decode cX4_rereadWind 26 = .ok (.invokevirtual 76, 3) := by decide +kernel
theorem dX4_rereadWind_29 : decode cX4_rereadWind 29 = .ok (.invokestatic 84, 3) := by decide +kernel
theorem dX4_rereadWind_32 : decode cX4_rereadWind 32 = .ok (.istore_n 3, 1) := by decide +kernel
theorem dX4_rereadWind_33 : decode cX4_rereadWind 33 = .ok (.iload_n 3, 1) := by decide +kernel
theorem dX4_rereadWind_34 : decode cX4_rereadWind 34 = .ok (.bipush (-2), 2) := by decide +kernel
theorem dX4_rereadWind_36 : decode cX4_rereadWind 36 = .ok (.if_icmp .ne 13, 3) := by decide +kernel
theorem dX4_rereadWind_39 : decode cX4_rereadWind 39 = .ok (.aload_n 0, 1) := by decide +kernel
theorem dX4_rereadWind_40 : decode cX4_rereadWind 40 = .ok (.getfield 43, 3) := by decide +kernel
theorem dX4_rereadWind_43 : decode cX4_rereadWind 43 = .ok (.iconst (-1), 1) := by decide +kernel
theorem dX4_rereadWind_44 : decode cX4_rereadWind 44 = .ok (.invokestatic 49, 3) := by decide +kernel
theorem dX4_rereadWind_47 : decode cX4_rereadWind 47 = .ok (.iload_n 2, 1) := by decide +kernel
theorem dX4_rereadWind_48 : decode cX4_rereadWind 48 = .ok (.ireturn, 1) := by decide +kernel
theorem dX4_rereadWind_49 : decode cX4_rereadWind 49 = .ok (.aload_n 0, 1) := by decide +kernel
theorem dX4_rereadWind_50 : decode cX4_rereadWind 50 = .ok (.getfield 43, 3) := by decide +kernel
theorem dX4_rereadWind_53 : decode cX4_rereadWind 53 = .ok (.iload_n 2, 1) := by decide +kernel
theorem dX4_rereadWind_54 : decode cX4_rereadWind 54 = .ok (.iload_n 3, 1) := by decide +kernel
theorem dX4_rereadWind_55 : decode cX4_rereadWind 55 = .ok (.iastore, 1) := by decide +kernel
theorem dX4_rereadWind_56 : decode cX4_rereadWind 56 = .ok (.iinc 2 1, 3) := by decide +kernel
theorem dX4_rereadWind_59 : decode cX4_rereadWind 59 = .ok (.goto (-49), 3) := by decide +kernel
theorem dX4_rereadWind_62 : decode cX4_rereadWind 62 = .ok (.iconst (-1), 1) := by decide +kernel
theorem dX4_rereadWind_63 : decode cX4_rereadWind 63 = .ok (.ireturn, 1) := by decide +kernel
theorem dX4_windOf_0 : decode cX4_windOf 0 = .ok (.iload_n 0, 1) := by decide +kernel
theorem dX4_windOf_1 : decode cX4_windOf 1 = .ok (.lookupswitch 61 #[(46, 59), (101, 53), (110, 51), (115, 55), (119, 57)], 51) := by decide +kernel
theorem dX4_windOf_52 : decode cX4_windOf 52 = .ok (.iconst 0, 1) := by decide +kernel
theorem dX4_windOf_53 : decode cX4_windOf 53 = .ok (.ireturn, 1) := by decide +kernel
theorem dX4_windOf_54 : decode cX4_windOf 54 = .ok (.iconst 1, 1) := by decide +kernel
theorem dX4_windOf_55 : decode cX4_windOf 55 = .ok (.ireturn, 1) := by decide +kernel
theorem dX4_windOf_56 : decode cX4_windOf 56 = .ok (.iconst 2, 1) := by decide +kernel
theorem dX4_windOf_57 : decode cX4_windOf 57 = .ok (.ireturn, 1) := by decide +kernel
theorem dX4_windOf_58 : decode cX4_windOf 58 = .ok (.iconst 3, 1) := by decide +kernel
theorem dX4_windOf_59 : decode cX4_windOf 59 = .ok (.ireturn, 1) := by decide +kernel
theorem dX4_windOf_60 : decode cX4_windOf 60 = .ok (.iconst (-1), 1) := by decide +kernel
theorem dX4_windOf_61 : decode cX4_windOf 61 = .ok (.ireturn, 1) := by decide +kernel
theorem dX4_windOf_62 : decode cX4_windOf 62 = .ok (.bipush (-2), 2) := by decide +kernel
theorem dX4_windOf_64 : decode cX4_windOf 64 = .ok (.ireturn, 1) := by decide +kernel
theorem dX5_init_0 : decode cX5_init 0 = .ok (.aload_n 0, 1) := by decide +kernel
theorem dX5_init_1 : decode cX5_init 1 = .ok (.invokespecial 3, 3) := by decide +kernel
theorem dX5_init_4 : decode cX5_init 4 = .ok (.aload_n 0, 1) := by decide +kernel
theorem dX5_init_5 : decode cX5_init 5 = .ok (.iconst 0, 1) := by decide +kernel
theorem dX5_init_6 : decode cX5_init 6 = .ok (.putfield 9, 3) := by decide +kernel
theorem dX5_init_9 : decode cX5_init 9 = .ok (.aload_n 0, 1) := by decide +kernel
theorem dX5_init_10 : decode cX5_init 10 = .ok (.iconst 1, 1) := by decide +kernel
theorem dX5_init_11 : decode cX5_init 11 = .ok (.putfield 15, 3) := by decide +kernel
theorem dX5_init_14 : decode cX5_init 14 = .ok (.aload_n 0, 1) := by decide +kernel
theorem dX5_init_15 : decode cX5_init 15 = .ok (.iconst 0, 1) := by decide +kernel
theorem dX5_init_16 : decode cX5_init 16 = .ok (.putfield 18, 3) := by decide +kernel
theorem dX5_init_19 : decode cX5_init 19 = .ok (.aload_n 0, 1) := by decide +kernel
theorem dX5_init_20 : decode cX5_init 20 = .ok (.iconst 0, 1) := by decide +kernel
theorem dX5_init_21 : decode cX5_init 21 = .ok (.putfield 21, 3) := by decide +kernel
theorem dX5_init_24 : decode cX5_init 24 = .ok (.aload_n 0, 1) := by decide +kernel
theorem dX5_init_25 : decode cX5_init 25 = .ok (.iconst 0, 1) := by decide +kernel
theorem dX5_init_26 : decode cX5_init 26 = .ok (.putfield 24, 3) := by decide +kernel
theorem dX5_init_29 : decode cX5_init 29 = .ok (.aload_n 0, 1) := by decide +kernel
theorem dX5_init_30 : decode cX5_init 30 = .ok (.new 27, 3) := by decide +kernel
theorem dX5_init_33 : decode cX5_init 33 = .ok (.dup, 1) := by decide +kernel
theorem dX5_init_34 : decode cX5_init 34 = .ok (.invokespecial 29, 3) := by decide +kernel
theorem dX5_init_37 : decode cX5_init 37 = .ok (.putfield 30, 3) := by decide +kernel
theorem dX5_init_40 : decode cX5_init 40 = .ok (.aload_n 0, 1) := by decide +kernel
theorem dX5_init_41 : decode cX5_init 41 = .ok (.aload_n 1, 1) := by decide +kernel
theorem dX5_init_42 : decode cX5_init 42 = .ok (.putfield 34, 3) := by decide +kernel
theorem dX5_init_45 : decode cX5_init 45 = .ok (.aload_n 0, 1) := by decide +kernel
theorem dX5_init_46 : decode cX5_init 46 = .ok (.aload_n 2, 1) := by decide +kernel
theorem dX5_init_47 : decode cX5_init 47 = .ok (.putfield 38, 3) := by decide +kernel
theorem dX5_init_50 : decode cX5_init 50 = .ok (.aload_n 0, 1) := by decide +kernel
theorem dX5_init_51 : decode cX5_init 51 = .ok (.aload_n 3, 1) := by decide +kernel
theorem dX5_init_52 : decode cX5_init 52 = .ok (.putfield 42, 3) := by decide +kernel
theorem dX5_init_55 : decode cX5_init 55 = .ok (.aload_n 0, 1) := by decide +kernel
theorem dX5_init_56 : decode cX5_init 56 = .ok (.aload 4, 2) := by decide +kernel
theorem dX5_init_58 : decode cX5_init 58 = .ok (.putfield 45, 3) := by decide +kernel
theorem dX5_init_61 : decode cX5_init 61 = .ok (.return_, 1) := by decide +kernel
theorem dX5_leastBreath_0 : decode cX5_leastBreath 0 = .ok (.aload_n 0, 1) := by decide +kernel
theorem dX5_leastBreath_1 : decode cX5_leastBreath 1 = .ok (.getfield 42, 3) := by decide +kernel
theorem dX5_leastBreath_4 : decode cX5_leastBreath 4 = .ok (.aload_n 0, 1) := by decide +kernel
theorem dX5_leastBreath_5 : decode cX5_leastBreath 5 = .ok (.getfield 38, 3) := by decide +kernel
theorem dX5_leastBreath_8 : decode cX5_leastBreath 8 = .ok (.invokevirtual 49, 3) := by decide +kernel
theorem dX5_leastBreath_11 : decode cX5_leastBreath 11 = .ok (.iconst 1, 1) := by decide +kernel
theorem dX5_leastBreath_12 : decode cX5_leastBreath 12 = .ok (.istore_n 3, 1) := by decide +kernel
theorem dX5_leastBreath_13 : decode cX5_leastBreath 13 = .ok (.iload_n 3, 1) := by decide +kernel
theorem dX5_leastBreath_14 : decode cX5_leastBreath 14 = .ok (.bipush 9, 2) := by decide +kernel
theorem dX5_leastBreath_16 : decode cX5_leastBreath 16 = .ok (.if_icmp .gt 59, 3) := by decide +kernel
theorem dX5_leastBreath_19 : decode cX5_leastBreath 19 = .ok (.aload_n 0, 1) := by decide +kernel
theorem dX5_leastBreath_20 : decode cX5_leastBreath 20 = .ok (.getfield 42, 3) := by decide +kernel
theorem dX5_leastBreath_23 : decode cX5_leastBreath 23 = .ok (.getfield 55, 3) := by decide +kernel
theorem dX5_leastBreath_26 : decode cX5_leastBreath 26 = .ok (.iload_n 1, 1) := by decide +kernel
theorem dX5_leastBreath_27 : decode cX5_leastBreath 27 = .ok (.iload_n 3, 1) := by decide +kernel
theorem dX5_leastBreath_28 : decode cX5_leastBreath 28 = .ok (.iastore, 1) := by decide +kernel
theorem dX5_leastBreath_29 : decode cX5_leastBreath 29 = .ok (.aload_n 0, 1) := by decide +kernel
theorem dX5_leastBreath_30 : decode cX5_leastBreath 30 = .ok (.getfield 45, 3) := by decide +kernel
theorem dX5_leastBreath_33 : decode cX5_leastBreath 33 = .ok (.aload_n 0, 1) := by decide +kernel
theorem dX5_leastBreath_34 : decode cX5_leastBreath 34 = .ok (.getfield 42, 3) := by decide +kernel
theorem dX5_leastBreath_37 : decode cX5_leastBreath 37 = .ok (.invokevirtual 59, 3) := by decide +kernel
theorem dX5_leastBreath_40 : decode cX5_leastBreath 40 = .ok (.aload_n 0, 1) := by decide +kernel
theorem dX5_leastBreath_41 : decode cX5_leastBreath 41 = .ok (.getfield 45, 3) := by decide +kernel
theorem dX5_leastBreath_44 : decode cX5_leastBreath 44 = .ok (.getfield 64, 3) := by decide +kernel
theorem dX5_leastBreath_47 : decode cX5_leastBreath 47 = .ok (.iload_n 2, 1) := by decide +kernel
theorem dX5_leastBreath_48 : decode cX5_leastBreath 48 = .ok (.iaload, 1) := by decide +kernel
theorem dX5_leastBreath_49 : decode cX5_leastBreath 49 = .ok (.iload_n 1, 1) := by decide +kernel
theorem dX5_leastBreath_50 : decode cX5_leastBreath 50 = .ok (.if_icmp .ne 5, 3) := by decide +kernel
theorem dX5_leastBreath_53 : decode cX5_leastBreath 53 = .ok (.iload_n 3, 1) := by decide +kernel
theorem dX5_leastBreath_54 : decode cX5_leastBreath 54 = .ok (.ireturn, 1) := by decide +kernel
theorem dX5_leastBreath_55 : decode cX5_leastBreath 55 = .ok (.aload_n 0, 1) := by decide +kernel
theorem dX5_leastBreath_56 : decode cX5_leastBreath 56 = .ok (.getfield 45, 3) := by decide +kernel
theorem dX5_leastBreath_59 : decode cX5_leastBreath 59 = .ok (.getfield 67, 3) := by decide +kernel
theorem dX5_leastBreath_62 : decode cX5_leastBreath 62 = .ok (.iload_n 1, 1) := by decide +kernel
theorem dX5_leastBreath_63 : decode cX5_leastBreath 63 = .ok (.iaload, 1) := by decide +kernel
theorem dX5_leastBreath_64 : decode cX5_leastBreath 64 = .ok (.ifCond .le 5, 3) := by decide +kernel
theorem dX5_leastBreath_67 : decode cX5_leastBreath 67 = .ok (.iconst (-1), 1) := by decide +kernel
theorem dX5_leastBreath_68 : decode cX5_leastBreath 68 = .ok (.ireturn, 1) := by decide +kernel
theorem dX5_leastBreath_69 : decode cX5_leastBreath 69 = .ok (.iinc 3 1, 3) := by decide +kernel
theorem dX5_leastBreath_72 : decode cX5_leastBreath 72 = .ok (.goto (-59), 3) := by decide +kernel
theorem dX5_leastBreath_75 : decode cX5_leastBreath 75 = .ok (.iconst (-1), 1) := by decide +kernel
theorem dX5_leastBreath_76 : decode cX5_leastBreath 76 = .ok (.ireturn, 1) := by decide +kernel
theorem dX5_seekAim_0 : decode cX5_seekAim 0 = .ok (.aload_n 0, 1) := by decide +kernel
theorem dX5_seekAim_1 : decode cX5_seekAim 1 = .ok (.getfield 42, 3) := by decide +kernel
theorem dX5_seekAim_4 : decode cX5_seekAim 4 = .ok (.aload_n 0, 1) := by decide +kernel
theorem dX5_seekAim_5 : decode cX5_seekAim 5 = .ok (.getfield 38, 3) := by decide +kernel
theorem dX5_seekAim_8 : decode cX5_seekAim 8 = .ok (.invokevirtual 49, 3) := by decide +kernel
theorem dX5_seekAim_11 : decode cX5_seekAim 11 = .ok (.aload_n 0, 1) := by decide +kernel
theorem dX5_seekAim_12 : decode cX5_seekAim 12 = .ok (.iconst (-1), 1) := by decide +kernel
theorem dX5_seekAim_13 : decode cX5_seekAim 13 = .ok (.putfield 18, 3) := by decide +kernel
theorem dX5_seekAim_16 : decode cX5_seekAim 16 = .ok (.iconst 0, 1) := by decide +kernel
theorem dX5_seekAim_17 : decode cX5_seekAim 17 = .ok (.istore_n 2, 1) := by decide +kernel
theorem dX5_seekAim_18 : decode cX5_seekAim 18 = .ok (.iload_n 2, 1) := by decide +kernel
theorem dX5_seekAim_19 : decode cX5_seekAim 19 = .ok (.iconst 4, 1) := by decide +kernel
theorem dX5_seekAim_20 : decode cX5_seekAim 20 = .ok (.if_icmp .ge 117, 3) := by decide +kernel
theorem dX5_seekAim_23 : decode cX5_seekAim 23 = .ok (.aload_n 0, 1) := by decide +kernel
theorem dX5_seekAim_24 : decode cX5_seekAim 24 = .ok (.getfield 42, 3) := by decide +kernel
theorem dX5_seekAim_27 : decode cX5_seekAim 27 = .ok (.getfield 70, 3) := by decide +kernel
theorem dX5_seekAim_30 : decode cX5_seekAim 30 = .ok (.iload_n 1, 1) := by decide +kernel
theorem dX5_seekAim_31 : decode cX5_seekAim 31 = .ok (.iload_n 2, 1) := by decide +kernel
theorem dX5_seekAim_32 : decode cX5_seekAim 32 = .ok (.iastore, 1) := by decide +kernel
theorem dX5_seekAim_33 : decode cX5_seekAim 33 = .ok (.iconst 1, 1) := by decide +kernel
theorem dX5_seekAim_34 : decode cX5_seekAim 34 = .ok (.istore_n 3, 1) := by decide +kernel
theorem dX5_seekAim_35 : decode cX5_seekAim 35 = .ok (.iconst 1, 1) := by decide +kernel
theorem dX5_seekAim_36 : decode cX5_seekAim 36 = .ok (.istore 4, 2) := by decide +kernel
theorem dX5_seekAim_38 : decode cX5_seekAim 38 = .ok (.iload 4, 2) := by decide +kernel
theorem dX5_seekAim_40 : decode cX5_seekAim 40 = .ok (.bipush 9, 2) := by decide +kernel
theorem dX5_seekAim_42 : decode cX5_seekAim 42 = .ok (.if_icmp .gt 89, 3) := by decide +kernel
theorem dX5_seekAim_45 : decode cX5_seekAim 45 = .ok (.iload_n 3, 1) := by decide +kernel
theorem dX5_seekAim_46 : decode cX5_seekAim 46 = .ok (.ifCond .eq 85, 3) := by decide +kernel
theorem dX5_seekAim_49 : decode cX5_seekAim 49 = .ok (.aload_n 0, 1) := by decide +kernel
theorem dX5_seekAim_50 : decode cX5_seekAim 50 = .ok (.getfield 42, 3) := by decide +kernel
theorem dX5_seekAim_53 : decode cX5_seekAim 53 = .ok (.getfield 55, 3) := by decide +kernel
theorem dX5_seekAim_56 : decode cX5_seekAim 56 = .ok (.iload_n 1, 1) := by decide +kernel
theorem dX5_seekAim_57 : decode cX5_seekAim 57 = .ok (.iload 4, 2) := by decide +kernel
theorem dX5_seekAim_59 : decode cX5_seekAim 59 = .ok (.iastore, 1) := by decide +kernel
theorem dX5_seekAim_60 : decode cX5_seekAim 60 = .ok (.aload_n 0, 1) := by decide +kernel
theorem dX5_seekAim_61 : decode cX5_seekAim 61 = .ok (.getfield 45, 3) := by decide +kernel
theorem dX5_seekAim_64 : decode cX5_seekAim 64 = .ok (.aload_n 0, 1) := by decide +kernel
theorem dX5_seekAim_65 : decode cX5_seekAim 65 = .ok (.getfield 42, 3) := by decide +kernel
theorem dX5_seekAim_68 : decode cX5_seekAim 68 = .ok (.invokevirtual 59, 3) := by decide +kernel
theorem dX5_seekAim_71 : decode cX5_seekAim 71 = .ok (.aload_n 0, 1) := by decide +kernel
theorem dX5_seekAim_72 : decode cX5_seekAim 72 = .ok (.getfield 45, 3) := by decide +kernel
theorem dX5_seekAim_75 : decode cX5_seekAim 75 = .ok (.getfield 67, 3) := by decide +kernel
theorem dX5_seekAim_78 : decode cX5_seekAim 78 = .ok (.iload_n 1, 1) := by decide +kernel
theorem dX5_seekAim_79 : decode cX5_seekAim 79 = .ok (.iaload, 1) := by decide +kernel
theorem dX5_seekAim_80 : decode cX5_seekAim 80 = .ok (.ifCond .gt 7, 3) := by decide +kernel
theorem dX5_seekAim_83 : decode cX5_seekAim 83 = .ok (.iconst 1, 1) := by decide +kernel
theorem dX5_seekAim_84 : decode cX5_seekAim 84 = .ok (.goto 4, 3) := by decide +kernel
theorem dX5_seekAim_87 : decode cX5_seekAim 87 = .ok (.iconst 0, 1) := by decide +kernel
theorem dX5_seekAim_88 : decode cX5_seekAim 88 = .ok (.istore_n 3, 1) := by decide +kernel
theorem dX5_seekAim_89 : decode cX5_seekAim 89 = .ok (.aload_n 0, 1) := by decide +kernel
theorem dX5_seekAim_90 : decode cX5_seekAim 90 = .ok (.getfield 45, 3) := by decide +kernel
theorem dX5_seekAim_93 : decode cX5_seekAim 93 = .ok (.getfield 73, 3) := by decide +kernel
theorem dX5_seekAim_96 : decode cX5_seekAim 96 = .ok (.aload_n 0, 1) := by decide +kernel
theorem dX5_seekAim_97 : decode cX5_seekAim 97 = .ok (.getfield 18, 3) := by decide +kernel
theorem dX5_seekAim_100 : decode cX5_seekAim 100 = .ok (.if_icmp .le 25, 3) := by decide +kernel
theorem dX5_seekAim_103 : decode cX5_seekAim 103 = .ok (.aload_n 0, 1) := by decide +kernel
theorem dX5_seekAim_104 : decode cX5_seekAim 104 = .ok (.aload_n 0, 1) := by decide +kernel
theorem dX5_seekAim_105 : decode cX5_seekAim 105 = .ok (.getfield 45, 3) := by decide +kernel
theorem dX5_seekAim_108 : decode cX5_seekAim 108 = .ok (.getfield 73, 3) := by decide +kernel
theorem dX5_seekAim_111 : decode cX5_seekAim 111 = .ok (.putfield 18, 3) := by decide +kernel
theorem dX5_seekAim_114 : decode cX5_seekAim 114 = .ok (.aload_n 0, 1) := by decide +kernel
theorem dX5_seekAim_115 : decode cX5_seekAim 115 = .ok (.iload_n 2, 1) := by decide +kernel
theorem dX5_seekAim_116 : decode cX5_seekAim 116 = .ok (.putfield 9, 3) := by decide +kernel
theorem dX5_seekAim_119 : decode cX5_seekAim 119 = .ok (.aload_n 0, 1) := by decide +kernel
theorem dX5_seekAim_120 : decode cX5_seekAim 120 = .ok (.iload 4, 2) := by decide +kernel
theorem dX5_seekAim_122 : decode cX5_seekAim 122 = .ok (.putfield 15, 3) := by decide +kernel
theorem dX5_seekAim_125 : decode cX5_seekAim 125 = .ok (.iinc 4 1, 3) := by decide +kernel
theorem dX5_seekAim_128 : decode cX5_seekAim 128 = .ok (.goto (-90), 3) := by decide +kernel
theorem dX5_seekAim_131 : decode cX5_seekAim 131 = .ok (.iinc 2 1, 3) := by decide +kernel
theorem dX5_seekAim_134 : decode cX5_seekAim 134 = .ok (.goto (-116), 3) := by decide +kernel
theorem dX5_seekAim_137 : decode cX5_seekAim 137 = .ok (.return_, 1) := by decide +kernel
theorem dX5_safeCell_0 : decode cX5_safeCell 0 = .ok (.aload_n 0, 1) := by decide +kernel
theorem dX5_safeCell_1 : decode cX5_safeCell 1 = .ok (.getfield 42, 3) := by decide +kernel
theorem dX5_safeCell_4 : decode cX5_safeCell 4 = .ok (.aload_n 0, 1) := by decide +kernel
theorem dX5_safeCell_5 : decode cX5_safeCell 5 = .ok (.getfield 38, 3) := by decide +kernel
theorem dX5_safeCell_8 : decode cX5_safeCell 8 = .ok (.invokevirtual 49, 3) := by decide +kernel
theorem dX5_safeCell_11 : decode cX5_safeCell 11 = .ok (.iconst 0, 1) := by decide +kernel
theorem dX5_safeCell_12 : decode cX5_safeCell 12 = .ok (.istore_n 2, 1) := by decide +kernel
theorem dX5_safeCell_13 : decode cX5_safeCell 13 = .ok (.iload_n 2, 1) := by decide +kernel
theorem dX5_safeCell_14 : decode cX5_safeCell 14 = .ok (.aload_n 0, 1) := by decide +kernel
theorem dX5_safeCell_15 : decode cX5_safeCell 15 = .ok (.getfield 34, 3) := by decide +kernel
theorem dX5_safeCell_18 : decode cX5_safeCell 18 = .ok (.getfield 76, 3) := by decide +kernel
theorem dX5_safeCell_21 : decode cX5_safeCell 21 = .ok (.if_icmp .ge 40, 3) := by decide +kernel
theorem dX5_safeCell_24 : decode cX5_safeCell 24 = .ok (.aload_n 0, 1) := by decide +kernel
theorem dX5_safeCell_25 : decode cX5_safeCell 25 = .ok (.getfield 42, 3) := by decide +kernel
theorem dX5_safeCell_28 : decode cX5_safeCell 28 = .ok (.getfield 81, 3) := by decide +kernel
theorem dX5_safeCell_31 : decode cX5_safeCell 31 = .ok (.iload_n 1, 1) := by decide +kernel
theorem dX5_safeCell_32 : decode cX5_safeCell 32 = .ok (.iload_n 2, 1) := by decide +kernel
theorem dX5_safeCell_33 : decode cX5_safeCell 33 = .ok (.iastore, 1) := by decide +kernel
theorem dX5_safeCell_34 : decode cX5_safeCell 34 = .ok (.aload_n 0, 1) := by decide +kernel
theorem dX5_safeCell_35 : decode cX5_safeCell 35 = .ok (.getfield 34, 3) := by decide +kernel
theorem dX5_safeCell_38 : decode cX5_safeCell 38 = .ok (.iload_n 2, 1) := by decide +kernel
theorem dX5_safeCell_39 : decode cX5_safeCell 39 = .ok (.invokevirtual 84, 3) := by decide +kernel
theorem dX5_safeCell_42 : decode cX5_safeCell 42 = .ok (.ifCond .eq 13, 3) := by decide +kernel
theorem dX5_safeCell_45 : decode cX5_safeCell 45 = .ok (.aload_n 0, 1) := by decide +kernel
theorem dX5_safeCell_46 : decode cX5_safeCell 46 = .ok (.iload_n 1, 1) := by decide +kernel
theorem dX5_safeCell_47 : decode cX5_safeCell 47 = .ok (.invokevirtual 88, 3) := by decide +kernel
theorem dX5_safeCell_50 : decode cX5_safeCell 50 = .ok (.ifCond .ne 5, 3) := by decide +kernel
theorem dX5_safeCell_53 : decode cX5_safeCell 53 = .ok (.iload_n 2, 1) := by decide +kernel
theorem dX5_safeCell_54 : decode cX5_safeCell 54 = .ok (.ireturn, 1) := by decide +kernel
theorem dX5_safeCell_55 : decode cX5_safeCell 55 = .ok (.iinc 2 1, 3) := by decide +kernel
theorem dX5_safeCell_58 : decode cX5_safeCell 58 = .ok (.goto (-45), 3) := by decide +kernel
theorem dX5_safeCell_61 : decode cX5_safeCell 61 = .ok (.iconst (-1), 1) := by decide +kernel
theorem dX5_safeCell_62 : decode cX5_safeCell 62 = .ok (.ireturn, 1) := by decide +kernel
theorem dX5_binds_0 : decode cX5_binds 0 = .ok (.aload_n 0, 1) := by decide +kernel
theorem dX5_binds_1 : decode cX5_binds 1 = .ok (.getfield 45, 3) := by decide +kernel
theorem dX5_binds_4 : decode cX5_binds 4 = .ok (.aload_n 0, 1) := by decide +kernel
theorem dX5_binds_5 : decode cX5_binds 5 = .ok (.getfield 42, 3) := by decide +kernel
theorem dX5_binds_8 : decode cX5_binds 8 = .ok (.invokevirtual 59, 3) := by decide +kernel
theorem dX5_binds_11 : decode cX5_binds 11 = .ok (.aload_n 0, 1) := by decide +kernel
theorem dX5_binds_12 : decode cX5_binds 12 = .ok (.getfield 45, 3) := by decide +kernel
theorem dX5_binds_15 : decode cX5_binds 15 = .ok (.getfield 64, 3) := by decide +kernel
theorem dX5_binds_18 : decode cX5_binds 18 = .ok (.iload_n 1, 1) := by decide +kernel
theorem dX5_binds_19 : decode cX5_binds 19 = .ok (.iaload, 1) := by decide +kernel
theorem dX5_binds_20 : decode cX5_binds 20 = .ok (.iconst (-1), 1) := by decide +kernel
theorem dX5_binds_21 : decode cX5_binds 21 = .ok (.if_icmp .eq 7, 3) := by decide +kernel
theorem dX5_binds_24 : decode cX5_binds 24 = .ok (.iconst 1, 1) := by decide +kernel
theorem dX5_binds_25 : decode cX5_binds 25 = .ok (.goto 4, 3) := by decide +kernel
theorem dX5_binds_28 : decode cX5_binds 28 = .ok (.iconst 0, 1) := by decide +kernel
theorem dX5_binds_29 : decode cX5_binds 29 = .ok (.ireturn, 1) := by decide +kernel
theorem dX5_seekHush_0 : decode cX5_seekHush 0 = .ok (.aload_n 0, 1) := by decide +kernel
theorem dX5_seekHush_1 : decode cX5_seekHush 1 = .ok (.getfield 42, 3) := by decide +kernel
theorem dX5_seekHush_4 : decode cX5_seekHush 4 = .ok (.aload_n 0, 1) := by decide +kernel
theorem dX5_seekHush_5 : decode cX5_seekHush 5 = .ok (.getfield 38, 3) := by decide +kernel
theorem dX5_seekHush_8 : decode cX5_seekHush 8 = .ok (.invokevirtual 49, 3) := by decide +kernel
theorem dX5_seekHush_11 : decode cX5_seekHush 11 = .ok (.aload_n 0, 1) := by decide +kernel
theorem dX5_seekHush_12 : decode cX5_seekHush 12 = .ok (.iload_n 1, 1) := by decide +kernel
theorem dX5_seekHush_13 : decode cX5_seekHush 13 = .ok (.invokevirtual 88, 3) := by decide +kernel
theorem dX5_seekHush_16 : decode cX5_seekHush 16 = .ok (.ifCond .ne 14, 3) := by decide +kernel
theorem dX5_seekHush_19 : decode cX5_seekHush 19 = .ok (.aload_n 0, 1) := by decide +kernel
theorem dX5_seekHush_20 : decode cX5_seekHush 20 = .ok (.getfield 30, 3) := by decide +kernel
theorem dX5_seekHush_23 : decode cX5_seekHush 23 = .ok (.iconst 0, 1) := by decide +kernel
theorem dX5_seekHush_24 : decode cX5_seekHush 24 = .ok (.iconst (-1), 1) := by decide +kernel
theorem dX5_seekHush_25 : decode cX5_seekHush 25 = .ok (.iconst (-1), 1) := by decide +kernel
theorem dX5_seekHush_26 : decode cX5_seekHush 26 = .ok (.invokevirtual 91, 3) := by decide +kernel
theorem dX5_seekHush_29 : decode cX5_seekHush 29 = .ok (.return_, 1) := by decide +kernel
theorem dX5_seekHush_30 : decode cX5_seekHush 30 = .ok (.iconst 0, 1) := by decide +kernel
theorem dX5_seekHush_31 : decode cX5_seekHush 31 = .ok (.istore_n 2, 1) := by decide +kernel
theorem dX5_seekHush_32 : decode cX5_seekHush 32 = .ok (.iload_n 2, 1) := by decide +kernel
theorem dX5_seekHush_33 : decode cX5_seekHush 33 = .ok (.aload_n 0, 1) := by decide +kernel
theorem dX5_seekHush_34 : decode cX5_seekHush 34 = .ok (.getfield 42, 3) := by decide +kernel
theorem dX5_seekHush_37 : decode cX5_seekHush 37 = .ok (.getfield 95, 3) := by decide +kernel
theorem dX5_seekHush_40 : decode cX5_seekHush 40 = .ok (.if_icmp .ge 57, 3) := by decide +kernel
theorem dX5_seekHush_43 : decode cX5_seekHush 43 = .ok (.aload_n 0, 1) := by decide +kernel
theorem dX5_seekHush_44 : decode cX5_seekHush 44 = .ok (.getfield 42, 3) := by decide +kernel
theorem dX5_seekHush_47 : decode cX5_seekHush 47 = .ok (.getfield 98, 3) := by decide +kernel
theorem dX5_seekHush_50 : decode cX5_seekHush 50 = .ok (.iload_n 2, 1) := by decide +kernel
theorem dX5_seekHush_51 : decode cX5_seekHush 51 = .ok (.bipush 20, 2) := by decide +kernel
theorem dX5_seekHush_53 : decode cX5_seekHush 53 = .ok (.iastore, 1) := by decide +kernel
theorem dX5_seekHush_54 : decode cX5_seekHush 54 = .ok (.aload_n 0, 1) := by decide +kernel
theorem dX5_seekHush_55 : decode cX5_seekHush 55 = .ok (.iload_n 1, 1) := by decide +kernel
theorem dX5_seekHush_56 : decode cX5_seekHush 56 = .ok (.invokevirtual 88, 3) := by decide +kernel
theorem dX5_seekHush_59 : decode cX5_seekHush 59 = .ok (.ifCond .ne 14, 3) := by decide +kernel
theorem dX5_seekHush_62 : decode cX5_seekHush 62 = .ok (.aload_n 0, 1) := by decide +kernel
theorem dX5_seekHush_63 : decode cX5_seekHush 63 = .ok (.getfield 30, 3) := by decide +kernel
theorem dX5_seekHush_66 : decode cX5_seekHush 66 = .ok (.iconst 1, 1) := by decide +kernel
theorem dX5_seekHush_67 : decode cX5_seekHush 67 = .ok (.iload_n 2, 1) := by decide +kernel
theorem dX5_seekHush_68 : decode cX5_seekHush 68 = .ok (.iconst (-1), 1) := by decide +kernel
theorem dX5_seekHush_69 : decode cX5_seekHush 69 = .ok (.invokevirtual 91, 3) := by decide +kernel
theorem dX5_seekHush_72 : decode cX5_seekHush 72 = .ok (.return_, 1) := by decide +kernel
theorem dX5_seekHush_73 : decode cX5_seekHush 73 = .ok (.aload_n 0, 1) := by decide +kernel
theorem dX5_seekHush_74 : decode cX5_seekHush 74 = .ok (.getfield 42, 3) := by decide +kernel
theorem dX5_seekHush_77 : decode cX5_seekHush 77 = .ok (.getfield 98, 3) := by decide +kernel
theorem dX5_seekHush_80 : decode cX5_seekHush 80 = .ok (.iload_n 2, 1) := by decide +kernel
theorem dX5_seekHush_81 : decode cX5_seekHush 81 = .ok (.aload_n 0, 1) := by decide +kernel
theorem dX5_seekHush_82 : decode cX5_seekHush 82 = .ok (.getfield 38, 3) := by decide +kernel
theorem dX5_seekHush_85 : decode cX5_seekHush 85 = .ok (.getfield 98, 3) := by decide +kernel
theorem dX5_seekHush_88 : decode cX5_seekHush 88 = .ok (.iload_n 2, 1) := by decide +kernel
theorem dX5_seekHush_89 : decode cX5_seekHush 89 = .ok (.iaload, 1) := by decide +kernel
theorem dX5_seekHush_90 : decode cX5_seekHush 90 = .ok (.iastore, 1) := by decide +kernel
theorem dX5_seekHush_91 : decode cX5_seekHush 91 = .ok (.iinc 2 1, 3) := by decide +kernel
theorem dX5_seekHush_94 : decode cX5_seekHush 94 = .ok (.goto (-62), 3) := by decide +kernel
theorem dX5_seekHush_97 : decode cX5_seekHush 97 = .ok (.iconst 0, 1) := by decide +kernel
theorem dX5_seekHush_98 : decode cX5_seekHush 98 = .ok (.istore_n 2, 1) := by decide +kernel
theorem dX5_seekHush_99 : decode cX5_seekHush 99 = .ok (.iload_n 2, 1) := by decide +kernel
theorem dX5_seekHush_100 : decode cX5_seekHush 100 = .ok (.aload_n 0, 1) := by decide +kernel
theorem dX5_seekHush_101 : decode cX5_seekHush 101 = .ok (.getfield 42, 3) := by decide +kernel
theorem dX5_seekHush_104 : decode cX5_seekHush 104 = .ok (.getfield 95, 3) := by decide +kernel
theorem dX5_seekHush_107 : decode cX5_seekHush 107 = .ok (.if_icmp .ge 107, 3) := by decide +kernel
theorem dX5_seekHush_110 : decode cX5_seekHush 110 = .ok (.aload_n 0, 1) := by decide +kernel
theorem dX5_seekHush_111 : decode cX5_seekHush 111 = .ok (.getfield 42, 3) := by decide +kernel
theorem dX5_seekHush_114 : decode cX5_seekHush 114 = .ok (.getfield 98, 3) := by decide +kernel
theorem dX5_seekHush_117 : decode cX5_seekHush 117 = .ok (.iload_n 2, 1) := by decide +kernel
theorem dX5_seekHush_118 : decode cX5_seekHush 118 = .ok (.bipush 20, 2) := by decide +kernel
theorem dX5_seekHush_120 : decode cX5_seekHush 120 = .ok (.iastore, 1) := by decide +kernel
theorem dX5_seekHush_121 : decode cX5_seekHush 121 = .ok (.iload_n 2, 1) := by decide +kernel
theorem dX5_seekHush_122 : decode cX5_seekHush 122 = .ok (.iconst 1, 1) := by decide +kernel
theorem dX5_seekHush_123 : decode cX5_seekHush 123 = .ok (.iadd, 1) := by decide +kernel
theorem dX5_seekHush_124 : decode cX5_seekHush 124 = .ok (.istore_n 3, 1) := by decide +kernel
theorem dX5_seekHush_125 : decode cX5_seekHush 125 = .ok (.iload_n 3, 1) := by decide +kernel
theorem dX5_seekHush_126 : decode cX5_seekHush 126 = .ok (.aload_n 0, 1) := by decide +kernel
theorem dX5_seekHush_127 : decode cX5_seekHush 127 = .ok (.getfield 42, 3) := by decide +kernel
theorem dX5_seekHush_130 : decode cX5_seekHush 130 = .ok (.getfield 95, 3) := by decide +kernel
theorem dX5_seekHush_133 : decode cX5_seekHush 133 = .ok (.if_icmp .ge 57, 3) := by decide +kernel
theorem dX5_seekHush_136 : decode cX5_seekHush 136 = .ok (.aload_n 0, 1) := by decide +kernel
theorem dX5_seekHush_137 : decode cX5_seekHush 137 = .ok (.getfield 42, 3) := by decide +kernel
theorem dX5_seekHush_140 : decode cX5_seekHush 140 = .ok (.getfield 98, 3) := by decide +kernel
theorem dX5_seekHush_143 : decode cX5_seekHush 143 = .ok (.iload_n 3, 1) := by decide +kernel
theorem dX5_seekHush_144 : decode cX5_seekHush 144 = .ok (.bipush 20, 2) := by decide +kernel
theorem dX5_seekHush_146 : decode cX5_seekHush 146 = .ok (.iastore, 1) := by decide +kernel
theorem dX5_seekHush_147 : decode cX5_seekHush 147 = .ok (.aload_n 0, 1) := by decide +kernel
theorem dX5_seekHush_148 : decode cX5_seekHush 148 = .ok (.iload_n 1, 1) := by decide +kernel
theorem dX5_seekHush_149 : decode cX5_seekHush 149 = .ok (.invokevirtual 88, 3) := by decide +kernel
theorem dX5_seekHush_152 : decode cX5_seekHush 152 = .ok (.ifCond .ne 14, 3) := by decide +kernel
theorem dX5_seekHush_155 : decode cX5_seekHush 155 = .ok (.aload_n 0, 1) := by decide +kernel
theorem dX5_seekHush_156 : decode cX5_seekHush 156 = .ok (.getfield 30, 3) := by decide +kernel
theorem dX5_seekHush_159 : decode cX5_seekHush 159 = .ok (.iconst 2, 1) := by decide +kernel
theorem dX5_seekHush_160 : decode cX5_seekHush 160 = .ok (.iload_n 2, 1) := by decide +kernel
theorem dX5_seekHush_161 : decode cX5_seekHush 161 = .ok (.iload_n 3, 1) := by decide +kernel
theorem dX5_seekHush_162 : decode cX5_seekHush 162 = .ok (.invokevirtual 91, 3) := by decide +kernel
theorem dX5_seekHush_165 : decode cX5_seekHush 165 = .ok (.return_, 1) := by decide +kernel
theorem dX5_seekHush_166 : decode cX5_seekHush 166 = .ok (.aload_n 0, 1) := by decide +kernel
theorem dX5_seekHush_167 : decode cX5_seekHush 167 = .ok (.getfield 42, 3) := by decide +kernel
theorem dX5_seekHush_170 : decode cX5_seekHush 170 = .ok (.getfield 98, 3) := by decide +kernel
theorem dX5_seekHush_173 : decode cX5_seekHush 173 = .ok (.iload_n 3, 1) := by decide +kernel
theorem dX5_seekHush_174 : decode cX5_seekHush 174 = .ok (.aload_n 0, 1) := by decide +kernel
theorem dX5_seekHush_175 : decode cX5_seekHush 175 = .ok (.getfield 38, 3) := by decide +kernel
theorem dX5_seekHush_178 : decode cX5_seekHush 178 = .ok (.getfield 98, 3) := by decide +kernel
theorem dX5_seekHush_181 : decode cX5_seekHush 181 = .ok (.iload_n 3, 1) := by decide +kernel
theorem dX5_seekHush_182 : decode cX5_seekHush 182 = .ok (.iaload, 1) := by decide +kernel
theorem dX5_seekHush_183 : decode cX5_seekHush 183 = .ok (.iastore, 1) := by decide +kernel
theorem dX5_seekHush_184 : decode cX5_seekHush 184 = .ok (.iinc 3 1, 3) := by decide +kernel
theorem dX5_seekHush_187 : decode cX5_seekHush 187 = .ok (.goto (-62), 3) := by decide +kernel
theorem dX5_seekHush_190 : decode cX5_seekHush 190 = .ok (.aload_n 0, 1) := by decide +kernel
theorem dX5_seekHush_191 : decode cX5_seekHush 191 = .ok (.getfield 42, 3) := by decide +kernel
theorem dX5_seekHush_194 : decode cX5_seekHush 194 = .ok (.getfield 98, 3) := by decide +kernel
theorem dX5_seekHush_197 : decode cX5_seekHush 197 = .ok (.iload_n 2, 1) := by decide +kernel
theorem dX5_seekHush_198 : decode cX5_seekHush 198 = .ok (.aload_n 0, 1) := by decide +kernel
theorem dX5_seekHush_199 : decode cX5_seekHush 199 = .ok (.getfield 38, 3) := by decide +kernel
theorem dX5_seekHush_202 : decode cX5_seekHush 202 = .ok (.getfield 98, 3) := by decide +kernel
theorem dX5_seekHush_205 : decode cX5_seekHush 205 = .ok (.iload_n 2, 1) := by decide +kernel
theorem dX5_seekHush_206 : decode cX5_seekHush 206 = .ok (.iaload, 1) := by decide +kernel
theorem dX5_seekHush_207 : decode cX5_seekHush 207 = .ok (.iastore, 1) := by decide +kernel
theorem dX5_seekHush_208 : decode cX5_seekHush 208 = .ok (.iinc 2 1, 3) := by decide +kernel
theorem dX5_seekHush_211 : decode cX5_seekHush 211 = .ok (.goto (-112), 3) := by decide +kernel
theorem dX5_seekHush_214 : decode cX5_seekHush 214 = .ok (.aload_n 0, 1) := by decide +kernel
theorem dX5_seekHush_215 : decode cX5_seekHush 215 = .ok (.getfield 30, 3) := by decide +kernel
theorem dX5_seekHush_218 : decode cX5_seekHush 218 = .ok (.iconst (-1), 1) := by decide +kernel
theorem dX5_seekHush_219 : decode cX5_seekHush 219 = .ok (.iconst (-1), 1) := by decide +kernel
theorem dX5_seekHush_220 : decode cX5_seekHush 220 = .ok (.iconst (-1), 1) := by decide +kernel
theorem dX5_seekHush_221 : decode cX5_seekHush 221 = .ok (.invokevirtual 91, 3) := by decide +kernel
theorem dX5_seekHush_224 : decode cX5_seekHush 224 = .ok (.return_, 1) := by decide +kernel
theorem dX5_seekCalm_0 : decode cX5_seekCalm 0 = .ok (.aload_n 0, 1) := by decide +kernel
theorem dX5_seekCalm_1 : decode cX5_seekCalm 1 = .ok (.getfield 42, 3) := by decide +kernel
theorem dX5_seekCalm_4 : decode cX5_seekCalm 4 = .ok (.aload_n 0, 1) := by decide +kernel
theorem dX5_seekCalm_5 : decode cX5_seekCalm 5 = .ok (.getfield 38, 3) := by decide +kernel
theorem dX5_seekCalm_8 : decode cX5_seekCalm 8 = .ok (.invokevirtual 49, 3) := by decide +kernel
theorem dX5_seekCalm_11 : decode cX5_seekCalm 11 = .ok (.aload_n 0, 1) := by decide +kernel
theorem dX5_seekCalm_12 : decode cX5_seekCalm 12 = .ok (.getfield 45, 3) := by decide +kernel
theorem dX5_seekCalm_15 : decode cX5_seekCalm 15 = .ok (.aload_n 0, 1) := by decide +kernel
theorem dX5_seekCalm_16 : decode cX5_seekCalm 16 = .ok (.getfield 42, 3) := by decide +kernel
theorem dX5_seekCalm_19 : decode cX5_seekCalm 19 = .ok (.invokevirtual 59, 3) := by decide +kernel
theorem dX5_seekCalm_22 : decode cX5_seekCalm 22 = .ok (.aload_n 0, 1) := by decide +kernel
theorem dX5_seekCalm_23 : decode cX5_seekCalm 23 = .ok (.getfield 45, 3) := by decide +kernel
theorem dX5_seekCalm_26 : decode cX5_seekCalm 26 = .ok (.getfield 73, 3) := by decide +kernel
theorem dX5_seekCalm_29 : decode cX5_seekCalm 29 = .ok (.istore_n 1, 1) := by decide +kernel
theorem dX5_seekCalm_30 : decode cX5_seekCalm 30 = .ok (.aload_n 0, 1) := by decide +kernel
theorem dX5_seekCalm_31 : decode cX5_seekCalm 31 = .ok (.iconst (-1), 1) := by decide +kernel
theorem dX5_seekCalm_32 : decode cX5_seekCalm 32 = .ok (.putfield 24, 3) := by decide +kernel
theorem dX5_seekCalm_35 : decode cX5_seekCalm 35 = .ok (.iconst 0, 1) := by decide +kernel
theorem dX5_seekCalm_36 : decode cX5_seekCalm 36 = .ok (.istore_n 2, 1) := by decide +kernel
theorem dX5_seekCalm_37 : decode cX5_seekCalm 37 = .ok (.iload_n 2, 1) := by decide +kernel
theorem dX5_seekCalm_38 : decode cX5_seekCalm 38 = .ok (.bipush 20, 2) := by decide +kernel
theorem dX5_seekCalm_40 : decode cX5_seekCalm 40 = .ok (.if_icmp .ge 89, 3) := by decide +kernel
theorem dX5_seekCalm_43 : decode cX5_seekCalm 43 = .ok (.iload_n 1, 1) := by decide +kernel
theorem dX5_seekCalm_44 : decode cX5_seekCalm 44 = .ok (.istore_n 3, 1) := by decide +kernel
theorem dX5_seekCalm_45 : decode cX5_seekCalm 45 = .ok (.aload_n 0, 1) := by decide +kernel
theorem dX5_seekCalm_46 : decode cX5_seekCalm 46 = .ok (.getfield 38, 3) := by decide +kernel
theorem dX5_seekCalm_49 : decode cX5_seekCalm 49 = .ok (.getfield 101, 3) := by decide +kernel
theorem dX5_seekCalm_52 : decode cX5_seekCalm 52 = .ok (.iload_n 2, 1) := by decide +kernel
theorem dX5_seekCalm_53 : decode cX5_seekCalm 53 = .ok (.iaload, 1) := by decide +kernel
theorem dX5_seekCalm_54 : decode cX5_seekCalm 54 = .ok (.iconst (-1), 1) := by decide +kernel
theorem dX5_seekCalm_55 : decode cX5_seekCalm 55 = .ok (.if_icmp .eq 50, 3) := by decide +kernel
theorem dX5_seekCalm_58 : decode cX5_seekCalm 58 = .ok (.aload_n 0, 1) := by decide +kernel
theorem dX5_seekCalm_59 : decode cX5_seekCalm 59 = .ok (.getfield 42, 3) := by decide +kernel
theorem dX5_seekCalm_62 : decode cX5_seekCalm 62 = .ok (.getfield 101, 3) := by decide +kernel
theorem dX5_seekCalm_65 : decode cX5_seekCalm 65 = .ok (.iload_n 2, 1) := by decide +kernel
theorem dX5_seekCalm_66 : decode cX5_seekCalm 66 = .ok (.iconst (-1), 1) := by decide +kernel
theorem dX5_seekCalm_67 : decode cX5_seekCalm 67 = .ok (.iastore, 1) := by decide +kernel
theorem dX5_seekCalm_68 : decode cX5_seekCalm 68 = .ok (.aload_n 0, 1) := by decide +kernel
theorem dX5_seekCalm_69 : decode cX5_seekCalm 69 = .ok (.getfield 45, 3) := by decide +kernel
theorem dX5_seekCalm_72 : decode cX5_seekCalm 72 = .ok (.aload_n 0, 1) := by decide +kernel
theorem dX5_seekCalm_73 : decode cX5_seekCalm 73 = .ok (.getfield 42, 3) := by decide +kernel
theorem dX5_seekCalm_76 : decode cX5_seekCalm 76 = .ok (.invokevirtual 59, 3) := by decide +kernel
theorem dX5_seekCalm_79 : decode cX5_seekCalm 79 = .ok (.aload_n 0, 1) := by decide +kernel
theorem dX5_seekCalm_80 : decode cX5_seekCalm 80 = .ok (.getfield 45, 3) := by decide +kernel
theorem dX5_seekCalm_83 : decode cX5_seekCalm 83 = .ok (.getfield 73, 3) := by decide +kernel
theorem dX5_seekCalm_86 : decode cX5_seekCalm 86 = .ok (.istore_n 3, 1) := by decide +kernel
theorem dX5_seekCalm_87 : decode cX5_seekCalm 87 = .ok (.aload_n 0, 1) := by decide +kernel
theorem dX5_seekCalm_88 : decode cX5_seekCalm 88 = .ok (.getfield 42, 3) := by decide +kernel
theorem dX5_seekCalm_91 : decode cX5_seekCalm 91 = .ok (.getfield 101, 3) := by decide +kernel
theorem dX5_seekCalm_94 : decode cX5_seekCalm 94 = .ok (.iload_n 2, 1) := by decide +kernel
theorem dX5_seekCalm_95 : decode cX5_seekCalm 95 = .ok (.aload_n 0, 1) := by decide +kernel
theorem dX5_seekCalm_96 : decode cX5_seekCalm 96 = .ok (.getfield 38, 3) := by decide +kernel
theorem dX5_seekCalm_99 : decode cX5_seekCalm 99 = .ok (.getfield 101, 3) := by decide +kernel
theorem dX5_seekCalm_102 : decode cX5_seekCalm 102 = .ok (.iload_n 2, 1) := by decide +kernel
theorem dX5_seekCalm_103 : decode cX5_seekCalm 103 = .ok (.iaload, 1) := by decide +kernel
theorem dX5_seekCalm_104 : decode cX5_seekCalm 104 = .ok (.iastore, 1) := by decide +kernel
theorem dX5_seekCalm_105 : decode cX5_seekCalm 105 = .ok (.iload_n 3, 1) := by decide +kernel
theorem dX5_seekCalm_106 : decode cX5_seekCalm 106 = .ok (.aload_n 0, 1) := by decide +kernel
theorem dX5_seekCalm_107 : decode cX5_seekCalm 107 = .ok (.getfield 24, 3) := by decide +kernel
theorem dX5_seekCalm_110 : decode cX5_seekCalm 110 = .ok (.if_icmp .le 13, 3) := by decide +kernel
theorem dX5_seekCalm_113 : decode cX5_seekCalm 113 = .ok (.aload_n 0, 1) := by decide +kernel
theorem dX5_seekCalm_114 : decode cX5_seekCalm 114 = .ok (.iload_n 3, 1) := by decide +kernel
theorem dX5_seekCalm_115 : decode cX5_seekCalm 115 = .ok (.putfield 24, 3) := by decide +kernel
theorem dX5_seekCalm_118 : decode cX5_seekCalm 118 = .ok (.aload_n 0, 1) := by decide +kernel
theorem dX5_seekCalm_119 : decode cX5_seekCalm 119 = .ok (.iload_n 2, 1) := by decide +kernel
theorem dX5_seekCalm_120 : decode cX5_seekCalm 120 = .ok (.putfield 21, 3) := by decide +kernel
theorem dX5_seekCalm_123 : decode cX5_seekCalm 123 = .ok (.iinc 2 1, 3) := by decide +kernel
theorem dX5_seekCalm_126 : decode cX5_seekCalm 126 = .ok (.goto (-89), 3) := by decide +kernel
theorem dX5_seekCalm_129 : decode cX5_seekCalm 129 = .ok (.return_, 1) := by decide +kernel
theorem dX5_seekFree_0 : decode cX5_seekFree 0 = .ok (.aload_n 1, 1) := by decide +kernel
theorem dX5_seekFree_1 : decode cX5_seekFree 1 = .ok (.aload_n 0, 1) := by decide +kernel
theorem dX5_seekFree_2 : decode cX5_seekFree 2 = .ok (.getfield 38, 3) := by decide +kernel
theorem dX5_seekFree_5 : decode cX5_seekFree 5 = .ok (.iload_n 2, 1) := by decide +kernel
theorem dX5_seekFree_6 : decode cX5_seekFree 6 = .ok (.invokevirtual 104, 3) := by decide +kernel
theorem dX5_seekFree_9 : decode cX5_seekFree 9 = .ok (.istore 4, 2) := by decide +kernel
theorem dX5_seekFree_11 : decode cX5_seekFree 11 = .ok (.aload_n 1, 1) := by decide +kernel
theorem dX5_seekFree_12 : decode cX5_seekFree 12 = .ok (.aload_n 0, 1) := by decide +kernel
theorem dX5_seekFree_13 : decode cX5_seekFree 13 = .ok (.getfield 38, 3) := by decide +kernel
theorem dX5_seekFree_16 : decode cX5_seekFree 16 = .ok (.iload_n 2, 1) := by decide +kernel
theorem dX5_seekFree_17 : decode cX5_seekFree 17 = .ok (.invokevirtual 108, 3) := by decide +kernel
theorem dX5_seekFree_20 : decode cX5_seekFree 20 = .ok (.iload_n 3, 1) := by decide +kernel
theorem dX5_seekFree_21 : decode cX5_seekFree 21 = .ok (.isub, 1) := by decide +kernel
theorem dX5_seekFree_22 : decode cX5_seekFree 22 = .ok (.istore 5, 2) := by decide +kernel
theorem dX5_seekFree_24 : decode cX5_seekFree 24 = .ok (.iload 5, 2) := by decide +kernel
theorem dX5_seekFree_26 : decode cX5_seekFree 26 = .ok (.ifCond .gt 14, 3) := by decide +kernel
theorem dX5_seekFree_29 : decode cX5_seekFree 29 = .ok (.aload_n 0, 1) := by decide +kernel
theorem dX5_seekFree_30 : decode cX5_seekFree 30 = .ok (.getfield 30, 3) := by decide +kernel
theorem dX5_seekFree_33 : decode cX5_seekFree 33 = .ok (.iconst 0, 1) := by decide +kernel
theorem dX5_seekFree_34 : decode cX5_seekFree 34 = .ok (.iconst (-1), 1) := by decide +kernel
theorem dX5_seekFree_35 : decode cX5_seekFree 35 = .ok (.iconst (-1), 1) := by decide +kernel
theorem dX5_seekFree_36 : decode cX5_seekFree 36 = .ok (.invokevirtual 91, 3) := by decide +kernel
theorem dX5_seekFree_39 : decode cX5_seekFree 39 = .ok (.return_, 1) := by decide +kernel
theorem dX5_seekFree_40 : decode cX5_seekFree 40 = .ok (.iconst 0, 1) := by decide +kernel
theorem dX5_seekFree_41 : decode cX5_seekFree 41 = .ok (.istore 6, 2) := by decide +kernel
theorem dX5_seekFree_43 : decode cX5_seekFree 43 = .ok (.iload 6, 2) := by decide +kernel
theorem dX5_seekFree_45 : decode cX5_seekFree 45 = .ok (.aload_n 0, 1) := by decide +kernel
theorem dX5_seekFree_46 : decode cX5_seekFree 46 = .ok (.getfield 38, 3) := by decide +kernel
theorem dX5_seekFree_49 : decode cX5_seekFree 49 = .ok (.getfield 111, 3) := by decide +kernel
theorem dX5_seekFree_52 : decode cX5_seekFree 52 = .ok (.if_icmp .ge 45, 3) := by decide +kernel
theorem dX5_seekFree_55 : decode cX5_seekFree 55 = .ok (.iload 4, 2) := by decide +kernel
theorem dX5_seekFree_57 : decode cX5_seekFree 57 = .ok (.iload 6, 2) := by decide +kernel
theorem dX5_seekFree_59 : decode cX5_seekFree 59 = .ok (.ishr, 1) := by decide +kernel
theorem dX5_seekFree_60 : decode cX5_seekFree 60 = .ok (.iconst 1, 1) := by decide +kernel
theorem dX5_seekFree_61 : decode cX5_seekFree 61 = .ok (.iand, 1) := by decide +kernel
theorem dX5_seekFree_62 : decode cX5_seekFree 62 = .ok (.ifCond .eq 29, 3) := by decide +kernel
theorem dX5_seekFree_65 : decode cX5_seekFree 65 = .ok (.aload_n 0, 1) := by decide +kernel
theorem dX5_seekFree_66 : decode cX5_seekFree 66 = .ok (.getfield 38, 3) := by decide +kernel
theorem dX5_seekFree_69 : decode cX5_seekFree 69 = .ok (.iload 6, 2) := by decide +kernel
theorem dX5_seekFree_71 : decode cX5_seekFree 71 = .ok (.invokevirtual 114, 3) := by decide +kernel
theorem dX5_seekFree_74 : decode cX5_seekFree 74 = .ok (.iload 5, 2) := by decide +kernel
theorem dX5_seekFree_76 : decode cX5_seekFree 76 = .ok (.if_icmp .lt 15, 3) := by decide +kernel
theorem dX5_seekFree_79 : decode cX5_seekFree 79 = .ok (.aload_n 0, 1) := by decide +kernel
theorem dX5_seekFree_80 : decode cX5_seekFree 80 = .ok (.getfield 30, 3) := by decide +kernel
theorem dX5_seekFree_83 : decode cX5_seekFree 83 = .ok (.iconst 1, 1) := by decide +kernel
theorem dX5_seekFree_84 : decode cX5_seekFree 84 = .ok (.iload 6, 2) := by decide +kernel
theorem dX5_seekFree_86 : decode cX5_seekFree 86 = .ok (.iconst (-1), 1) := by decide +kernel
theorem dX5_seekFree_87 : decode cX5_seekFree 87 = .ok (.invokevirtual 91, 3) := by decide +kernel
theorem dX5_seekFree_90 : decode cX5_seekFree 90 = .ok (.return_, 1) := by decide +kernel
theorem dX5_seekFree_91 : decode cX5_seekFree 91 = .ok (.iinc 6 1, 3) := by decide +kernel
theorem dX5_seekFree_94 : decode cX5_seekFree 94 = .ok (.goto (-51), 3) := by decide +kernel
theorem dX5_seekFree_97 : decode cX5_seekFree 97 = .ok (.iconst 0, 1) := by decide +kernel
theorem dX5_seekFree_98 : decode cX5_seekFree 98 = .ok (.istore 6, 2) := by decide +kernel
theorem dX5_seekFree_100 : decode cX5_seekFree 100 = .ok (.iload 6, 2) := by decide +kernel
theorem dX5_seekFree_102 : decode cX5_seekFree 102 = .ok (.aload_n 0, 1) := by decide +kernel
theorem dX5_seekFree_103 : decode cX5_seekFree 103 = .ok (.getfield 38, 3) := by decide +kernel
theorem dX5_seekFree_106 : decode cX5_seekFree 106 = .ok (.getfield 111, 3) := by decide +kernel
theorem dX5_seekFree_109 : decode cX5_seekFree 109 = .ok (.if_icmp .ge 90, 3) := by decide +kernel
theorem dX5_seekFree_112 : decode cX5_seekFree 112 = .ok (.iload 6, 2) := by decide +kernel
theorem dX5_seekFree_114 : decode cX5_seekFree 114 = .ok (.iconst 1, 1) := by decide +kernel
theorem dX5_seekFree_115 : decode cX5_seekFree 115 = .ok (.iadd, 1) := by decide +kernel
theorem dX5_seekFree_116 : decode cX5_seekFree 116 = .ok (.istore 7, 2) := by decide +kernel
theorem dX5_seekFree_118 : decode cX5_seekFree 118 = .ok (.iload 7, 2) := by decide +kernel
theorem dX5_seekFree_120 : decode cX5_seekFree 120 = .ok (.aload_n 0, 1) := by decide +kernel
theorem dX5_seekFree_121 : decode cX5_seekFree 121 = .ok (.getfield 38, 3) := by decide +kernel
theorem dX5_seekFree_124 : decode cX5_seekFree 124 = .ok (.getfield 111, 3) := by decide +kernel
theorem dX5_seekFree_127 : decode cX5_seekFree 127 = .ok (.if_icmp .ge 66, 3) := by decide +kernel
theorem dX5_seekFree_130 : decode cX5_seekFree 130 = .ok (.iload 4, 2) := by decide +kernel
theorem dX5_seekFree_132 : decode cX5_seekFree 132 = .ok (.iload 6, 2) := by decide +kernel
theorem dX5_seekFree_134 : decode cX5_seekFree 134 = .ok (.ishr, 1) := by decide +kernel
theorem dX5_seekFree_135 : decode cX5_seekFree 135 = .ok (.iconst 1, 1) := by decide +kernel
theorem dX5_seekFree_136 : decode cX5_seekFree 136 = .ok (.iand, 1) := by decide +kernel
theorem dX5_seekFree_137 : decode cX5_seekFree 137 = .ok (.ifCond .eq 56, 3) := by decide +kernel
theorem dX5_seekFree_140 : decode cX5_seekFree 140 = .ok (.iload 4, 2) := by decide +kernel
theorem dX5_seekFree_142 : decode cX5_seekFree 142 = .ok (.iload 7, 2) := by decide +kernel
theorem dX5_seekFree_144 : decode cX5_seekFree 144 = .ok (.ishr, 1) := by decide +kernel
theorem dX5_seekFree_145 : decode cX5_seekFree 145 = .ok (.iconst 1, 1) := by decide +kernel
theorem dX5_seekFree_146 : decode cX5_seekFree 146 = .ok (.iand, 1) := by decide +kernel
theorem dX5_seekFree_147 : decode cX5_seekFree 147 = .ok (.ifCond .eq 40, 3) := by decide +kernel
theorem dX5_seekFree_150 : decode cX5_seekFree 150 = .ok (.aload_n 0, 1) := by decide +kernel
theorem dX5_seekFree_151 : decode cX5_seekFree 151 = .ok (.getfield 38, 3) := by decide +kernel
theorem dX5_seekFree_154 : decode cX5_seekFree 154 = .ok (.iload 6, 2) := by decide +kernel
theorem dX5_seekFree_156 : decode cX5_seekFree 156 = .ok (.invokevirtual 114, 3) := by decide +kernel
theorem dX5_seekFree_159 : decode cX5_seekFree 159 = .ok (.aload_n 0, 1) := by decide +kernel
theorem dX5_seekFree_160 : decode cX5_seekFree 160 = .ok (.getfield 38, 3) := by decide +kernel
theorem dX5_seekFree_163 : decode cX5_seekFree 163 = .ok (.iload 7, 2) := by decide +kernel
theorem dX5_seekFree_165 : decode cX5_seekFree 165 = .ok (.invokevirtual 114, 3) := by decide +kernel
theorem dX5_seekFree_168 : decode cX5_seekFree 168 = .ok (.iadd, 1) := by decide +kernel
theorem dX5_seekFree_169 : decode cX5_seekFree 169 = .ok (.iload 5, 2) := by decide +kernel
theorem dX5_seekFree_171 : decode cX5_seekFree 171 = .ok (.if_icmp .lt 16, 3) := by decide +kernel
theorem dX5_seekFree_174 : decode cX5_seekFree 174 = .ok (.aload_n 0, 1) := by decide +kernel
theorem dX5_seekFree_175 : decode cX5_seekFree 175 = .ok (.getfield 30, 3) := by decide +kernel
theorem dX5_seekFree_178 : decode cX5_seekFree 178 = .ok (.iconst 2, 1) := by decide +kernel
theorem dX5_seekFree_179 : decode cX5_seekFree 179 = .ok (.iload 6, 2) := by decide +kernel
theorem dX5_seekFree_181 : decode cX5_seekFree 181 = .ok (.iload 7, 2) := by decide +kernel
theorem dX5_seekFree_183 : decode cX5_seekFree 183 = .ok (.invokevirtual 91, 3) := by decide +kernel
theorem dX5_seekFree_186 : decode cX5_seekFree 186 = .ok (.return_, 1) := by decide +kernel
theorem dX5_seekFree_187 : decode cX5_seekFree 187 = .ok (.iinc 7 1, 3) := by decide +kernel
theorem dX5_seekFree_190 : decode cX5_seekFree 190 = .ok (.goto (-72), 3) := by decide +kernel
theorem dX5_seekFree_193 : decode cX5_seekFree 193 = .ok (.iinc 6 1, 3) := by decide +kernel
theorem dX5_seekFree_196 : decode cX5_seekFree 196 = .ok (.goto (-96), 3) := by decide +kernel
theorem dX5_seekFree_199 : decode cX5_seekFree 199 = .ok (.aload_n 0, 1) := by decide +kernel
theorem dX5_seekFree_200 : decode cX5_seekFree 200 = .ok (.getfield 30, 3) := by decide +kernel
theorem dX5_seekFree_203 : decode cX5_seekFree 203 = .ok (.iconst (-1), 1) := by decide +kernel
theorem dX5_seekFree_204 : decode cX5_seekFree 204 = .ok (.iconst (-1), 1) := by decide +kernel
theorem dX5_seekFree_205 : decode cX5_seekFree 205 = .ok (.iconst (-1), 1) := by decide +kernel
theorem dX5_seekFree_206 : decode cX5_seekFree 206 = .ok (.invokevirtual 91, 3) := by decide +kernel
theorem dX5_seekFree_209 : decode cX5_seekFree 209 = .ok (.return_, 1) := by decide +kernel
theorem dX6_init_0 : decode cX6_init 0 = .ok (.aload_n 0, 1) := by decide +kernel
theorem dX6_init_1 : decode cX6_init 1 = .ok (.invokespecial 3, 3) := by decide +kernel
theorem dX6_init_4 : decode cX6_init 4 = .ok (.aload_n 0, 1) := by decide +kernel
theorem dX6_init_5 : decode cX6_init 5 = .ok (.bipush 8, 2) := by decide +kernel
theorem dX6_init_7 : decode cX6_init 7 = .ok (.newarray .int, 2) := by decide +kernel
theorem dX6_init_9 : decode cX6_init 9 = .ok (.putfield 9, 3) := by decide +kernel
theorem dX6_init_12 : decode cX6_init 12 = .ok (.aload_n 0, 1) := by decide +kernel
theorem dX6_init_13 : decode cX6_init 13 = .ok (.bipush 8, 2) := by decide +kernel
theorem dX6_init_15 : decode cX6_init 15 = .ok (.newarray .int, 2) := by decide +kernel
theorem dX6_init_17 : decode cX6_init 17 = .ok (.putfield 15, 3) := by decide +kernel
theorem dX6_init_20 : decode cX6_init 20 = .ok (.aload_n 0, 1) := by decide +kernel
theorem dX6_init_21 : decode cX6_init 21 = .ok (.bipush 8, 2) := by decide +kernel
theorem dX6_init_23 : decode cX6_init 23 = .ok (.newarray .int, 2) := by decide +kernel
theorem dX6_init_25 : decode cX6_init 25 = .ok (.putfield 18, 3) := by decide +kernel
theorem dX6_init_28 : decode cX6_init 28 = .ok (.aload_n 0, 1) := by decide +kernel
theorem dX6_init_29 : decode cX6_init 29 = .ok (.bipush 8, 2) := by decide +kernel
theorem dX6_init_31 : decode cX6_init 31 = .ok (.newarray .int, 2) := by decide +kernel
theorem dX6_init_33 : decode cX6_init 33 = .ok (.putfield 21, 3) := by decide +kernel
theorem dX6_init_36 : decode cX6_init 36 = .ok (.aload_n 0, 1) := by decide +kernel
theorem dX6_init_37 : decode cX6_init 37 = .ok (.bipush 8, 2) := by decide +kernel
theorem dX6_init_39 : decode cX6_init 39 = .ok (.newarray .int, 2) := by decide +kernel
theorem dX6_init_41 : decode cX6_init 41 = .ok (.putfield 24, 3) := by decide +kernel
theorem dX6_init_44 : decode cX6_init 44 = .ok (.aload_n 0, 1) := by decide +kernel
theorem dX6_init_45 : decode cX6_init 45 = .ok (.bipush 8, 2) := by decide +kernel
theorem dX6_init_47 : decode cX6_init 47 = .ok (.newarray .int, 2) := by decide +kernel
theorem dX6_init_49 : decode cX6_init 49 = .ok (.putfield 27, 3) := by decide +kernel
theorem dX6_init_52 : decode cX6_init 52 = .ok (.aload_n 0, 1) := by decide +kernel
theorem dX6_init_53 : decode cX6_init 53 = .ok (.bipush 8, 2) := by decide +kernel
theorem dX6_init_55 : decode cX6_init 55 = .ok (.newarray .int, 2) := by decide +kernel
theorem dX6_init_57 : decode cX6_init 57 = .ok (.putfield 30, 3) := by decide +kernel
theorem dX6_init_60 : decode cX6_init 60 = .ok (.aload_n 0, 1) := by decide +kernel
theorem dX6_init_61 : decode cX6_init 61 = .ok (.iconst 0, 1) := by decide +kernel
theorem dX6_init_62 : decode cX6_init 62 = .ok (.putfield 33, 3) := by decide +kernel
theorem dX6_init_65 : decode cX6_init 65 = .ok (.aload_n 0, 1) := by decide +kernel
theorem dX6_init_66 : decode cX6_init 66 = .ok (.iconst 0, 1) := by decide +kernel
theorem dX6_init_67 : decode cX6_init 67 = .ok (.putfield 37, 3) := by decide +kernel
theorem dX6_init_70 : decode cX6_init 70 = .ok (.aload_n 0, 1) := by decide +kernel
theorem dX6_init_71 : decode cX6_init 71 = .ok (.iconst (-1), 1) := by decide +kernel
theorem dX6_init_72 : decode cX6_init 72 = .ok (.putfield 40, 3) := by decide +kernel
theorem dX6_init_75 : decode cX6_init 75 = .ok (.aload_n 0, 1) := by decide +kernel
theorem dX6_init_76 : decode cX6_init 76 = .ok (.iconst 0, 1) := by decide +kernel
theorem dX6_init_77 : decode cX6_init 77 = .ok (.putfield 43, 3) := by decide +kernel
theorem dX6_init_80 : decode cX6_init 80 = .ok (.aload_n 0, 1) := by decide +kernel
theorem dX6_init_81 : decode cX6_init 81 = .ok (.lconst 0, 1) := by decide +kernel
theorem dX6_init_82 : decode cX6_init 82 = .ok (.putfield 46, 3) := by decide +kernel
theorem dX6_init_85 : decode cX6_init 85 = .ok (.aload_n 0, 1) := by decide +kernel
theorem dX6_init_86 : decode cX6_init 86 = .ok (.aload_n 1, 1) := by decide +kernel
theorem dX6_init_87 : decode cX6_init 87 = .ok (.putfield 50, 3) := by decide +kernel
theorem dX6_init_90 : decode cX6_init 90 = .ok (.return_, 1) := by decide +kernel
theorem dX6_playAll_0 : decode cX6_playAll 0 = .ok (.aload_n 0, 1) := by decide +kernel
theorem dX6_playAll_1 : decode cX6_playAll 1 = .ok (.aload_n 1, 1) := by decide +kernel
theorem dX6_playAll_2 : decode cX6_playAll 2 = .ok (.invokevirtual 54, 3) := by decide +kernel
theorem dX6_playAll_5 : decode cX6_playAll 5 = .ok (.iconst 0, 1) := by decide +kernel
theorem dX6_playAll_6 : decode cX6_playAll 6 = .ok (.istore_n 2, 1) := by decide +kernel
theorem dX6_playAll_7 : decode cX6_playAll 7 = .ok (.iload_n 2, 1) := by decide +kernel
theorem dX6_playAll_8 : decode cX6_playAll 8 = .ok (.bipush 20, 2) := by decide +kernel
theorem dX6_playAll_10 : decode cX6_playAll 10 = .ok (.if_icmp .ge 22, 3) := by decide +kernel
theorem dX6_playAll_13 : decode cX6_playAll 13 = .ok (.aload_n 0, 1) := by decide +kernel
theorem dX6_playAll_14 : decode cX6_playAll 14 = .ok (.getfield 43, 3) := by decide +kernel
theorem dX6_playAll_17 : decode cX6_playAll 17 = .ok (.ifCond .le 15, 3) := by decide +kernel
theorem dX6_playAll_20 : decode cX6_playAll 20 = .ok (.aload_n 0, 1) := by decide +kernel
theorem dX6_playAll_21 : decode cX6_playAll 21 = .ok (.aload_n 1, 1) := by decide +kernel
theorem dX6_playAll_22 : decode cX6_playAll 22 = .ok (.iload_n 2, 1) := by decide +kernel
theorem dX6_playAll_23 : decode cX6_playAll 23 = .ok (.invokevirtual 58, 3) := by decide +kernel
theorem dX6_playAll_26 : decode cX6_playAll 26 = .ok (.iinc 2 1, 3) := by decide +kernel
theorem dX6_playAll_29 : decode cX6_playAll 29 = .ok (.goto (-22), 3) := by decide +kernel
theorem dX6_playAll_32 : decode cX6_playAll 32 = .ok (.return_, 1) := by decide +kernel
theorem dX6_begin_0 : decode cX6_begin 0 = .ok (.aload_n 0, 1) := by decide +kernel
theorem dX6_begin_1 : decode cX6_begin 1 = .ok (.iconst 0, 1) := by decide +kernel
theorem dX6_begin_2 : decode cX6_begin 2 = .ok (.putfield 43, 3) := by decide +kernel
theorem dX6_begin_5 : decode cX6_begin 5 = .ok (.iconst 0, 1) := by decide +kernel
theorem dX6_begin_6 : decode cX6_begin 6 = .ok (.istore_n 2, 1) := by decide +kernel
theorem dX6_begin_7 : decode cX6_begin 7 = .ok (.iload_n 2, 1) := by decide +kernel
theorem dX6_begin_8 : decode cX6_begin 8 = .ok (.aload_n 1, 1) := by decide +kernel
theorem dX6_begin_9 : decode cX6_begin 9 = .ok (.getfield 62, 3) := by decide +kernel
theorem dX6_begin_12 : decode cX6_begin 12 = .ok (.if_icmp .ge 63, 3) := by decide +kernel
theorem dX6_begin_15 : decode cX6_begin 15 = .ok (.aload_n 0, 1) := by decide +kernel
theorem dX6_begin_16 : decode cX6_begin 16 = .ok (.getfield 9, 3) := by decide +kernel
theorem dX6_begin_19 : decode cX6_begin 19 = .ok (.iload_n 2, 1) := by decide +kernel
theorem dX6_begin_20 : decode cX6_begin 20 = .ok (.iconst 0, 1) := by decide +kernel
theorem dX6_begin_21 : decode cX6_begin 21 = .ok (.iastore, 1) := by decide +kernel
theorem dX6_begin_22 : decode cX6_begin 22 = .ok (.aload_n 0, 1) := by decide +kernel
theorem dX6_begin_23 : decode cX6_begin 23 = .ok (.getfield 15, 3) := by decide +kernel
theorem dX6_begin_26 : decode cX6_begin 26 = .ok (.iload_n 2, 1) := by decide +kernel
theorem dX6_begin_27 : decode cX6_begin 27 = .ok (.iconst (-1), 1) := by decide +kernel
theorem dX6_begin_28 : decode cX6_begin 28 = .ok (.iastore, 1) := by decide +kernel
theorem dX6_begin_29 : decode cX6_begin 29 = .ok (.aload_n 0, 1) := by decide +kernel
theorem dX6_begin_30 : decode cX6_begin 30 = .ok (.getfield 18, 3) := by decide +kernel
theorem dX6_begin_33 : decode cX6_begin 33 = .ok (.iload_n 2, 1) := by decide +kernel
theorem dX6_begin_34 : decode cX6_begin 34 = .ok (.iconst 0, 1) := by decide +kernel
theorem dX6_begin_35 : decode cX6_begin 35 = .ok (.iastore, 1) := by decide +kernel
theorem dX6_begin_36 : decode cX6_begin 36 = .ok (.aload_n 0, 1) := by decide +kernel
theorem dX6_begin_37 : decode cX6_begin 37 = .ok (.getfield 21, 3) := by decide +kernel
theorem dX6_begin_40 : decode cX6_begin 40 = .ok (.iload_n 2, 1) := by decide +kernel
theorem dX6_begin_41 : decode cX6_begin 41 = .ok (.aload_n 1, 1) := by decide +kernel
theorem dX6_begin_42 : decode cX6_begin 42 = .ok (.getfield 67, 3) := by decide +kernel
theorem dX6_begin_45 : decode cX6_begin 45 = .ok (.iload_n 2, 1) := by decide +kernel
theorem dX6_begin_46 : decode cX6_begin 46 = .ok (.iaload, 1) := by decide +kernel
theorem dX6_begin_47 : decode cX6_begin 47 = .ok (.iastore, 1) := by decide +kernel
theorem dX6_begin_48 : decode cX6_begin 48 = .ok (.aload_n 1, 1) := by decide +kernel
theorem dX6_begin_49 : decode cX6_begin 49 = .ok (.getfield 70, 3) := by decide +kernel
theorem dX6_begin_52 : decode cX6_begin 52 = .ok (.iload_n 2, 1) := by decide +kernel
theorem dX6_begin_53 : decode cX6_begin 53 = .ok (.iaload, 1) := by decide +kernel
theorem dX6_begin_54 : decode cX6_begin 54 = .ok (.bipush 20, 2) := by decide +kernel
theorem dX6_begin_56 : decode cX6_begin 56 = .ok (.if_icmp .ge 13, 3) := by decide +kernel
theorem dX6_begin_59 : decode cX6_begin 59 = .ok (.aload_n 0, 1) := by decide +kernel
theorem dX6_begin_60 : decode cX6_begin 60 = .ok (.dup, 1) := by decide +kernel
theorem dX6_begin_61 : decode cX6_begin 61 = .ok (.getfield 43, 3) := by decide +kernel
theorem dX6_begin_64 : decode cX6_begin 64 = .ok (.iconst 1, 1) := by decide +kernel
theorem dX6_begin_65 : decode cX6_begin 65 = .ok (.iadd, 1) := by decide +kernel
theorem dX6_begin_66 : decode cX6_begin 66 = .ok (.putfield 43, 3) := by decide +kernel
theorem dX6_begin_69 : decode cX6_begin 69 = .ok (.iinc 2 1, 3) := by decide +kernel
theorem dX6_begin_72 : decode cX6_begin 72 = .ok (.goto (-65), 3) := by decide +kernel
theorem dX6_begin_75 : decode cX6_begin 75 = .ok (.aload_n 0, 1) := by decide +kernel
theorem dX6_begin_76 : decode cX6_begin 76 = .ok (.lconst 0, 1) := by decide +kernel
theorem dX6_begin_77 : decode cX6_begin 77 = .ok (.putfield 46, 3) := by decide +kernel
theorem dX6_begin_80 : decode cX6_begin 80 = .ok (.iconst 0, 1) := by decide +kernel
theorem dX6_begin_81 : decode cX6_begin 81 = .ok (.istore_n 2, 1) := by decide +kernel
theorem dX6_begin_82 : decode cX6_begin 82 = .ok (.iload_n 2, 1) := by decide +kernel
theorem dX6_begin_83 : decode cX6_begin 83 = .ok (.aload_n 1, 1) := by decide +kernel
theorem dX6_begin_84 : decode cX6_begin 84 = .ok (.getfield 73, 3) := by decide +kernel
theorem dX6_begin_87 : decode cX6_begin 87 = .ok (.if_icmp .ge 47, 3) := by decide +kernel
theorem dX6_begin_90 : decode cX6_begin 90 = .ok (.aload_n 0, 1) := by decide +kernel
theorem dX6_begin_91 : decode cX6_begin 91 = .ok (.getfield 24, 3) := by decide +kernel
theorem dX6_begin_94 : decode cX6_begin 94 = .ok (.iload_n 2, 1) := by decide +kernel
theorem dX6_begin_95 : decode cX6_begin 95 = .ok (.iconst (-1), 1) := by decide +kernel
theorem dX6_begin_96 : decode cX6_begin 96 = .ok (.iastore, 1) := by decide +kernel
theorem dX6_begin_97 : decode cX6_begin 97 = .ok (.aload_n 0, 1) := by decide +kernel
theorem dX6_begin_98 : decode cX6_begin 98 = .ok (.getfield 27, 3) := by decide +kernel
theorem dX6_begin_101 : decode cX6_begin 101 = .ok (.iload_n 2, 1) := by decide +kernel
theorem dX6_begin_102 : decode cX6_begin 102 = .ok (.iconst (-1), 1) := by decide +kernel
theorem dX6_begin_103 : decode cX6_begin 103 = .ok (.iastore, 1) := by decide +kernel
theorem dX6_begin_104 : decode cX6_begin 104 = .ok (.aload_n 0, 1) := by decide +kernel
theorem dX6_begin_105 : decode cX6_begin 105 = .ok (.getfield 30, 3) := by decide +kernel
theorem dX6_begin_108 : decode cX6_begin 108 = .ok (.iload_n 2, 1) := by decide +kernel
theorem dX6_begin_109 : decode cX6_begin 109 = .ok (.iconst (-1), 1) := by decide +kernel
theorem dX6_begin_110 : decode cX6_begin 110 = .ok (.iastore, 1) := by decide +kernel
theorem dX6_begin_111 : decode cX6_begin 111 = .ok (.aload_n 0, 1) := by decide +kernel
theorem dX6_begin_112 : decode cX6_begin 112 = .ok (.dup, 1) := by decide +kernel
theorem dX6_begin_113 : decode cX6_begin 113 = .ok (.getfield 46, 3) := by decide +kernel
theorem dX6_begin_116 : decode cX6_begin 116 = .ok (.lconst 1, 1) := by decide +kernel
theorem dX6_begin_117 : decode cX6_begin 117 = .ok (.aload_n 1, 1) := by decide +kernel
theorem dX6_begin_118 : decode cX6_begin 118 = .ok (.getfield 76, 3) := by decide +kernel
theorem dX6_begin_121 : decode cX6_begin 121 = .ok (.iload_n 2, 1) := by decide +kernel
theorem dX6_begin_122 : decode cX6_begin 122 = .ok (.iaload, 1) := by decide +kernel
theorem dX6_begin_123 : decode cX6_begin 123 = .ok (.lshl, 1) := by decide +kernel
theorem dX6_begin_124 : decode cX6_begin 124 = .ok (.lor, 1) := by decide +kernel
theorem dX6_begin_125 : decode cX6_begin 125 = .ok (.putfield 46, 3) := by decide +kernel
theorem dX6_begin_128 : decode cX6_begin 128 = .ok (.iinc 2 1, 3) := by decide +kernel
theorem dX6_begin_131 : decode cX6_begin 131 = .ok (.goto (-49), 3) := by decide +kernel
theorem dX6_begin_134 : decode cX6_begin 134 = .ok (.aload_n 0, 1) := by decide +kernel
theorem dX6_begin_135 : decode cX6_begin 135 = .ok (.iconst 0, 1) := by decide +kernel
theorem dX6_begin_136 : decode cX6_begin 136 = .ok (.putfield 33, 3) := by decide +kernel
theorem dX6_begin_139 : decode cX6_begin 139 = .ok (.aload_n 0, 1) := by decide +kernel
theorem dX6_begin_140 : decode cX6_begin 140 = .ok (.iconst 0, 1) := by decide +kernel
theorem dX6_begin_141 : decode cX6_begin 141 = .ok (.putfield 37, 3) := by decide +kernel
theorem dX6_begin_144 : decode cX6_begin 144 = .ok (.aload_n 0, 1) := by decide +kernel
theorem dX6_begin_145 : decode cX6_begin 145 = .ok (.iconst (-1), 1) := by decide +kernel
theorem dX6_begin_146 : decode cX6_begin 146 = .ok (.putfield 40, 3) := by decide +kernel
theorem dX6_begin_149 : decode cX6_begin 149 = .ok (.return_, 1) := by decide +kernel
theorem dX6_takeStep_0 : decode cX6_takeStep 0 = .ok (.lconst 0, 1) := by decide +kernel
theorem dX6_takeStep_1 : decode cX6_takeStep 1 = .ok (.lstore_n 3, 1) := by decide +kernel
theorem dX6_takeStep_2 : decode cX6_takeStep 2 = .ok (.iconst 0, 1) := by decide +kernel
theorem dX6_takeStep_3 : decode cX6_takeStep 3 = .ok (.istore 5, 2) := by decide +kernel
theorem dX6_takeStep_5 : decode cX6_takeStep 5 = .ok (.iconst 0, 1) := by decide +kernel
theorem dX6_takeStep_6 : decode cX6_takeStep 6 = .ok (.istore 6, 2) := by decide +kernel
theorem dX6_takeStep_8 : decode cX6_takeStep 8 = .ok (.iload 6, 2) := by decide +kernel
theorem dX6_takeStep_10 : decode cX6_takeStep 10 = .ok (.aload_n 1, 1) := by decide +kernel
theorem dX6_takeStep_11 : decode cX6_takeStep 11 = .ok (.getfield 62, 3) := by decide +kernel
theorem dX6_takeStep_14 : decode cX6_takeStep 14 = .ok (.if_icmp .ge 107, 3) := by decide +kernel
theorem dX6_takeStep_17 : decode cX6_takeStep 17 = .ok (.aload_n 0, 1) := by decide +kernel
theorem dX6_takeStep_18 : decode cX6_takeStep 18 = .ok (.getfield 9, 3) := by decide +kernel
theorem dX6_takeStep_21 : decode cX6_takeStep 21 = .ok (.iload 6, 2) := by decide +kernel
theorem dX6_takeStep_23 : decode cX6_takeStep 23 = .ok (.iaload, 1) := by decide +kernel
theorem dX6_takeStep_24 : decode cX6_takeStep 24 = .ok (.iconst 1, 1) := by decide +kernel
theorem dX6_takeStep_25 : decode cX6_takeStep 25 = .ok (.if_icmp .ne 14, 3) := by decide +kernel
theorem dX6_takeStep_28 : decode cX6_takeStep 28 = .ok (.aload_n 0, 1) := by decide +kernel
theorem dX6_takeStep_29 : decode cX6_takeStep 29 = .ok (.aload_n 1, 1) := by decide +kernel
theorem dX6_takeStep_30 : decode cX6_takeStep 30 = .ok (.iload 6, 2) := by decide +kernel
theorem dX6_takeStep_32 : decode cX6_takeStep 32 = .ok (.iload_n 2, 1) := by decide +kernel
theorem dX6_takeStep_33 : decode cX6_takeStep 33 = .ok (.invokevirtual 79, 3) := by decide +kernel
theorem dX6_takeStep_36 : decode cX6_takeStep 36 = .ok (.goto 31, 3) := by decide +kernel
theorem dX6_takeStep_39 : decode cX6_takeStep 39 = .ok (.aload_n 0, 1) := by decide +kernel
theorem dX6_takeStep_40 : decode cX6_takeStep 40 = .ok (.getfield 9, 3) := by decide +kernel
theorem dX6_takeStep_43 : decode cX6_takeStep 43 = .ok (.iload 6, 2) := by decide +kernel
theorem dX6_takeStep_45 : decode cX6_takeStep 45 = .ok (.iaload, 1) := by decide +kernel
theorem dX6_takeStep_46 : decode cX6_takeStep 46 = .ok (.ifCond .ne 21, 3) := by decide +kernel
theorem dX6_takeStep_49 : decode cX6_takeStep 49 = .ok (.aload_n 1, 1) := by decide +kernel
theorem dX6_takeStep_50 : decode cX6_takeStep 50 = .ok (.getfield 70, 3) := by decide +kernel
theorem dX6_takeStep_53 : decode cX6_takeStep 53 = .ok (.iload 6, 2) := by decide +kernel
theorem dX6_takeStep_55 : decode cX6_takeStep 55 = .ok (.iaload, 1) := by decide +kernel
theorem dX6_takeStep_56 : decode cX6_takeStep 56 = .ok (.iload_n 2, 1) := by decide +kernel
theorem dX6_takeStep_57 : decode cX6_takeStep 57 = .ok (.if_icmp .ne 10, 3) := by decide +kernel
theorem dX6_takeStep_60 : decode cX6_takeStep 60 = .ok (.aload_n 0, 1) := by decide +kernel
theorem dX6_takeStep_61 : decode cX6_takeStep 61 = .ok (.aload_n 1, 1) := by decide +kernel
theorem dX6_takeStep_62 : decode cX6_takeStep 62 = .ok (.iload 6, 2) := by decide +kernel
theorem dX6_takeStep_64 : decode cX6_takeStep 64 = .ok (.invokevirtual 83, 3) := by decide +kernel
theorem dX6_takeStep_67 : decode cX6_takeStep 67 = .ok (.aload_n 0, 1) := by decide +kernel
theorem dX6_takeStep_68 : decode cX6_takeStep 68 = .ok (.getfield 9, 3) := by decide +kernel
theorem dX6_takeStep_71 : decode cX6_takeStep 71 = .ok (.iload 6, 2) := by decide +kernel
theorem dX6_takeStep_73 : decode cX6_takeStep 73 = .ok (.iaload, 1) := by decide +kernel
theorem dX6_takeStep_74 : decode cX6_takeStep 74 = .ok (.iconst 1, 1) := by decide +kernel
theorem dX6_takeStep_75 : decode cX6_takeStep 75 = .ok (.if_icmp .ne 40, 3) := by decide +kernel
theorem dX6_takeStep_78 : decode cX6_takeStep 78 = .ok (.lconst 1, 1) := by decide +kernel
theorem dX6_takeStep_79 : decode cX6_takeStep 79 = .ok (.aload_n 0, 1) := by decide +kernel
theorem dX6_takeStep_80 : decode cX6_takeStep 80 = .ok (.getfield 15, 3) := by decide +kernel
theorem dX6_takeStep_83 : decode cX6_takeStep 83 = .ok (.iload 6, 2) := by decide +kernel
theorem dX6_takeStep_85 : decode cX6_takeStep 85 = .ok (.iaload, 1) := by decide +kernel
theorem dX6_takeStep_86 : decode cX6_takeStep 86 = .ok (.lshl, 1) := by decide +kernel
theorem dX6_takeStep_87 : decode cX6_takeStep 87 = .ok (.lstore 7, 2) := by decide +kernel
theorem dX6_takeStep_89 : decode cX6_takeStep 89 = .ok (.iload 5, 2) := by decide +kernel
theorem dX6_takeStep_91 : decode cX6_takeStep 91 = .ok (.ifCond .ne 12, 3) := by decide +kernel
theorem dX6_takeStep_94 : decode cX6_takeStep 94 = .ok (.lload_n 3, 1) := by decide +kernel
theorem dX6_takeStep_95 : decode cX6_takeStep 95 = .ok (.lload 7, 2) := by decide +kernel
theorem dX6_takeStep_97 : decode cX6_takeStep 97 = .ok (.land, 1) := by decide +kernel
theorem dX6_takeStep_98 : decode cX6_takeStep 98 = .ok (.lconst 0, 1) := by decide +kernel
theorem dX6_takeStep_99 : decode cX6_takeStep 99 = .ok (.lcmp, 1) := by decide +kernel
theorem dX6_takeStep_100 : decode cX6_takeStep 100 = .ok (.ifCond .eq 7, 3) := by decide +kernel
theorem dX6_takeStep_103 : decode cX6_takeStep 103 = .ok (.iconst 1, 1) := by decide +kernel
theorem dX6_takeStep_104 : decode cX6_takeStep 104 = .ok (.goto 4, 3) := by decide +kernel
theorem dX6_takeStep_107 : decode cX6_takeStep 107 = .ok (.iconst 0, 1) := by decide +kernel
theorem dX6_takeStep_108 : decode cX6_takeStep 108 = .ok (.istore 5, 2) := by decide +kernel
theorem dX6_takeStep_110 : decode cX6_takeStep 110 = .ok (.lload_n 3, 1) := by decide +kernel
theorem dX6_takeStep_111 : decode cX6_takeStep 111 = .ok (.lload 7, 2) := by decide +kernel
theorem dX6_takeStep_113 : decode cX6_takeStep 113 = .ok (.lor, 1) := by decide +kernel
theorem dX6_takeStep_114 : decode cX6_takeStep 114 = .ok (.lstore_n 3, 1) := by decide +kernel
theorem dX6_takeStep_115 : decode cX6_takeStep 115 = .ok (.iinc 6 1, 3) := by decide +kernel
theorem dX6_takeStep_118 : decode cX6_takeStep 118 = .ok (.goto (-110), 3) := by decide +kernel
theorem dX6_takeStep_121 : decode cX6_takeStep 121 = .ok (.iload 5, 2) := by decide +kernel
theorem dX6_takeStep_123 : decode cX6_takeStep 123 = .ok (.ifCond .eq 9, 3) := by decide +kernel
theorem dX6_takeStep_126 : decode cX6_takeStep 126 = .ok (.aload_n 0, 1) := by decide +kernel
theorem dX6_takeStep_127 : decode cX6_takeStep 127 = .ok (.aload_n 1, 1) := by decide +kernel
theorem dX6_takeStep_128 : decode cX6_takeStep 128 = .ok (.iload_n 2, 1) := by decide +kernel
theorem dX6_takeStep_129 : decode cX6_takeStep 129 = .ok (.invokevirtual 86, 3) := by decide +kernel
theorem dX6_takeStep_132 : decode cX6_takeStep 132 = .ok (.lload_n 3, 1) := by decide +kernel
theorem dX6_takeStep_133 : decode cX6_takeStep 133 = .ok (.aload_n 0, 1) := by decide +kernel
theorem dX6_takeStep_134 : decode cX6_takeStep 134 = .ok (.getfield 46, 3) := by decide +kernel
theorem dX6_takeStep_137 : decode cX6_takeStep 137 = .ok (.land, 1) := by decide +kernel
theorem dX6_takeStep_138 : decode cX6_takeStep 138 = .ok (.lconst 0, 1) := by decide +kernel
theorem dX6_takeStep_139 : decode cX6_takeStep 139 = .ok (.lcmp, 1) := by decide +kernel
theorem dX6_takeStep_140 : decode cX6_takeStep 140 = .ok (.ifCond .eq 9, 3) := by decide +kernel
theorem dX6_takeStep_143 : decode cX6_takeStep 143 = .ok (.aload_n 0, 1) := by decide +kernel
theorem dX6_takeStep_144 : decode cX6_takeStep 144 = .ok (.aload_n 1, 1) := by decide +kernel
theorem dX6_takeStep_145 : decode cX6_takeStep 145 = .ok (.iload_n 2, 1) := by decide +kernel
theorem dX6_takeStep_146 : decode cX6_takeStep 146 = .ok (.invokevirtual 89, 3) := by decide +kernel
theorem dX6_takeStep_149 : decode cX6_takeStep 149 = .ok (.return_, 1) := by decide +kernel
theorem dX6_move_0 : decode cX6_move 0 = .ok (.iconst 1, 1) := by decide +kernel
theorem dX6_move_1 : decode cX6_move 1 = .ok (.istore 4, 2) := by decide +kernel
theorem dX6_move_3 : decode cX6_move 3 = .ok (.aload_n 0, 1) := by decide +kernel
theorem dX6_move_4 : decode cX6_move 4 = .ok (.getfield 21, 3) := by decide +kernel
theorem dX6_move_7 : decode cX6_move 7 = .ok (.iload_n 2, 1) := by decide +kernel
theorem dX6_move_8 : decode cX6_move 8 = .ok (.iaload, 1) := by decide +kernel
theorem dX6_move_9 : decode cX6_move 9 = .ok (.ifCond .le 26, 3) := by decide +kernel
theorem dX6_move_12 : decode cX6_move 12 = .ok (.aload_n 0, 1) := by decide +kernel
theorem dX6_move_13 : decode cX6_move 13 = .ok (.getfield 21, 3) := by decide +kernel
theorem dX6_move_16 : decode cX6_move 16 = .ok (.iload_n 2, 1) := by decide +kernel
theorem dX6_move_17 : decode cX6_move 17 = .ok (.dup2, 1) := by decide +kernel
theorem dX6_move_18 : decode cX6_move 18 = .ok (.iaload, 1) := by decide +kernel
theorem dX6_move_19 : decode cX6_move 19 = .ok (.iconst 1, 1) := by decide +kernel
theorem dX6_move_20 : decode cX6_move 20 = .ok (.isub, 1) := by decide +kernel
theorem dX6_move_21 : decode cX6_move 21 = .ok (.iastore, 1) := by decide +kernel
theorem dX6_move_22 : decode cX6_move 22 = .ok (.aload_n 0, 1) := by decide +kernel
theorem dX6_move_23 : decode cX6_move 23 = .ok (.iload_n 2, 1) := by decide +kernel
theorem dX6_move_24 : decode cX6_move 24 = .ok (.aload_n 1, 1) := by decide +kernel
theorem dX6_move_25 : decode cX6_move 25 = .ok (.getfield 92, 3) := by decide +kernel
theorem dX6_move_28 : decode cX6_move 28 = .ok (.iload_n 2, 1) := by decide +kernel
theorem dX6_move_29 : decode cX6_move 29 = .ok (.iaload, 1) := by decide +kernel
theorem dX6_move_30 : decode cX6_move 30 = .ok (.invokevirtual 95, 3) := by decide +kernel
theorem dX6_move_33 : decode cX6_move 33 = .ok (.istore 4, 2) := by decide +kernel
theorem dX6_move_35 : decode cX6_move 35 = .ok (.iload 4, 2) := by decide +kernel
theorem dX6_move_37 : decode cX6_move 37 = .ok (.ifCond .eq 26, 3) := by decide +kernel
theorem dX6_move_40 : decode cX6_move 40 = .ok (.aload_n 1, 1) := by decide +kernel
theorem dX6_move_41 : decode cX6_move 41 = .ok (.getfield 99, 3) := by decide +kernel
theorem dX6_move_44 : decode cX6_move 44 = .ok (.iload_n 3, 1) := by decide +kernel
theorem dX6_move_45 : decode cX6_move 45 = .ok (.iaload, 1) := by decide +kernel
theorem dX6_move_46 : decode cX6_move 46 = .ok (.iconst (-1), 1) := by decide +kernel
theorem dX6_move_47 : decode cX6_move 47 = .ok (.if_icmp .eq 16, 3) := by decide +kernel
theorem dX6_move_50 : decode cX6_move 50 = .ok (.aload_n 0, 1) := by decide +kernel
theorem dX6_move_51 : decode cX6_move 51 = .ok (.iload_n 2, 1) := by decide +kernel
theorem dX6_move_52 : decode cX6_move 52 = .ok (.aload_n 1, 1) := by decide +kernel
theorem dX6_move_53 : decode cX6_move 53 = .ok (.getfield 99, 3) := by decide +kernel
theorem dX6_move_56 : decode cX6_move 56 = .ok (.iload_n 3, 1) := by decide +kernel
theorem dX6_move_57 : decode cX6_move 57 = .ok (.iaload, 1) := by decide +kernel
theorem dX6_move_58 : decode cX6_move 58 = .ok (.invokevirtual 95, 3) := by decide +kernel
theorem dX6_move_61 : decode cX6_move 61 = .ok (.istore 4, 2) := by decide +kernel
theorem dX6_move_63 : decode cX6_move 63 = .ok (.iload 4, 2) := by decide +kernel
theorem dX6_move_65 : decode cX6_move 65 = .ok (.ifCond .ne 10, 3) := by decide +kernel
theorem dX6_move_68 : decode cX6_move 68 = .ok (.aload_n 0, 1) := by decide +kernel
theorem dX6_move_69 : decode cX6_move 69 = .ok (.iload_n 2, 1) := by decide +kernel
theorem dX6_move_70 : decode cX6_move 70 = .ok (.iconst 3, 1) := by decide +kernel
theorem dX6_move_71 : decode cX6_move 71 = .ok (.invokevirtual 102, 3) := by decide +kernel
theorem dX6_move_74 : decode cX6_move 74 = .ok (.return_, 1) := by decide +kernel
theorem dX6_move_75 : decode cX6_move 75 = .ok (.iload_n 3, 1) := by decide +kernel
theorem dX6_move_76 : decode cX6_move 76 = .ok (.aload_n 1, 1) := by decide +kernel
theorem dX6_move_77 : decode cX6_move 77 = .ok (.getfield 70, 3) := by decide +kernel
theorem dX6_move_80 : decode cX6_move 80 = .ok (.iload_n 2, 1) := by decide +kernel
theorem dX6_move_81 : decode cX6_move 81 = .ok (.iaload, 1) := by decide +kernel
theorem dX6_move_82 : decode cX6_move 82 = .ok (.isub, 1) := by decide +kernel
theorem dX6_move_83 : decode cX6_move 83 = .ok (.aload_n 0, 1) := by decide +kernel
theorem dX6_move_84 : decode cX6_move 84 = .ok (.getfield 18, 3) := by decide +kernel
theorem dX6_move_87 : decode cX6_move 87 = .ok (.iload_n 2, 1) := by decide +kernel
theorem dX6_move_88 : decode cX6_move 88 = .ok (.iaload, 1) := by decide +kernel
theorem dX6_move_89 : decode cX6_move 89 = .ok (.aload_n 1, 1) := by decide +kernel
theorem dX6_move_90 : decode cX6_move 90 = .ok (.getfield 106, 3) := by decide +kernel
theorem dX6_move_93 : decode cX6_move 93 = .ok (.imul, 1) := by decide +kernel
theorem dX6_move_94 : decode cX6_move 94 = .ok (.if_icmp .lt 13, 3) := by decide +kernel
theorem dX6_move_97 : decode cX6_move 97 = .ok (.aload_n 0, 1) := by decide +kernel
theorem dX6_move_98 : decode cX6_move 98 = .ok (.getfield 18, 3) := by decide +kernel
theorem dX6_move_101 : decode cX6_move 101 = .ok (.iload_n 2, 1) := by decide +kernel
theorem dX6_move_102 : decode cX6_move 102 = .ok (.dup2, 1) := by decide +kernel
theorem dX6_move_103 : decode cX6_move 103 = .ok (.iaload, 1) := by decide +kernel
theorem dX6_move_104 : decode cX6_move 104 = .ok (.iconst 1, 1) := by decide +kernel
theorem dX6_move_105 : decode cX6_move 105 = .ok (.iadd, 1) := by decide +kernel
theorem dX6_move_106 : decode cX6_move 106 = .ok (.iastore, 1) := by decide +kernel
theorem dX6_move_107 : decode cX6_move 107 = .ok (.aload_n 0, 1) := by decide +kernel
theorem dX6_move_108 : decode cX6_move 108 = .ok (.getfield 18, 3) := by decide +kernel
theorem dX6_move_111 : decode cX6_move 111 = .ok (.iload_n 2, 1) := by decide +kernel
theorem dX6_move_112 : decode cX6_move 112 = .ok (.iaload, 1) := by decide +kernel
theorem dX6_move_113 : decode cX6_move 113 = .ok (.bipush 9, 2) := by decide +kernel
theorem dX6_move_115 : decode cX6_move 115 = .ok (.if_icmp .le 9, 3) := by decide +kernel
theorem dX6_move_118 : decode cX6_move 118 = .ok (.aload_n 0, 1) := by decide +kernel
theorem dX6_move_119 : decode cX6_move 119 = .ok (.iload_n 2, 1) := by decide +kernel
theorem dX6_move_120 : decode cX6_move 120 = .ok (.iconst 4, 1) := by decide +kernel
theorem dX6_move_121 : decode cX6_move 121 = .ok (.invokevirtual 102, 3) := by decide +kernel
theorem dX6_move_124 : decode cX6_move 124 = .ok (.return_, 1) := by decide +kernel
theorem dX6_shift_0 : decode cX6_shift 0 = .ok (.aload_n 0, 1) := by decide +kernel
theorem dX6_shift_1 : decode cX6_shift 1 = .ok (.getfield 15, 3) := by decide +kernel
theorem dX6_shift_4 : decode cX6_shift 4 = .ok (.iload_n 1, 1) := by decide +kernel
theorem dX6_shift_5 : decode cX6_shift 5 = .ok (.iaload, 1) := by decide +kernel
theorem dX6_shift_6 : decode cX6_shift 6 = .ok (.iconst 4, 1) := by decide +kernel
theorem dX6_shift_7 : decode cX6_shift 7 = .ok (.imul, 1) := by decide +kernel
theorem dX6_shift_8 : decode cX6_shift 8 = .ok (.iload_n 2, 1) := by decide +kernel
theorem dX6_shift_9 : decode cX6_shift 9 = .ok (.iadd, 1) := by decide +kernel
theorem dX6_shift_10 : decode cX6_shift 10 = .ok (.istore_n 3, 1) := by decide +kernel
theorem dX6_shift_11 : decode cX6_shift 11 = .ok (.iload_n 3, 1) := by decide +kernel
theorem dX6_shift_12 : decode cX6_shift 12 = .ok (.ifCond .lt 27, 3) := by decide +kernel
theorem dX6_shift_15 : decode cX6_shift 15 = .ok (.iload_n 3, 1) := by decide +kernel
theorem dX6_shift_16 : decode cX6_shift 16 = .ok (.aload_n 0, 1) := by decide +kernel
theorem dX6_shift_17 : decode cX6_shift 17 = .ok (.getfield 50, 3) := by decide +kernel
theorem dX6_shift_20 : decode cX6_shift 20 = .ok (.getfield 109, 3) := by decide +kernel
theorem dX6_shift_23 : decode cX6_shift 23 = .ok (.arraylength, 1) := by decide +kernel
theorem dX6_shift_24 : decode cX6_shift 24 = .ok (.if_icmp .ge 15, 3) := by decide +kernel
theorem dX6_shift_27 : decode cX6_shift 27 = .ok (.aload_n 0, 1) := by decide +kernel
theorem dX6_shift_28 : decode cX6_shift 28 = .ok (.getfield 50, 3) := by decide +kernel
theorem dX6_shift_31 : decode cX6_shift 31 = .ok (.getfield 109, 3) := by decide +kernel
theorem dX6_shift_34 : decode cX6_shift 34 = .ok (.iload_n 3, 1) := by decide +kernel
theorem dX6_shift_35 : decode cX6_shift 35 = .ok (.iaload, 1) := by decide +kernel
theorem dX6_shift_36 : decode cX6_shift 36 = .ok (.goto 4, 3) := by decide +kernel
theorem dX6_shift_39 : decode cX6_shift 39 = .ok (.iconst (-1), 1) := by decide +kernel
theorem dX6_shift_40 : decode cX6_shift 40 = .ok (.istore 4, 2) := by decide +kernel
theorem dX6_shift_42 : decode cX6_shift 42 = .ok (.iload 4, 2) := by decide +kernel
theorem dX6_shift_44 : decode cX6_shift 44 = .ok (.iconst (-1), 1) := by decide +kernel
theorem dX6_shift_45 : decode cX6_shift 45 = .ok (.if_icmp .ne 5, 3) := by decide +kernel
theorem dX6_shift_48 : decode cX6_shift 48 = .ok (.iconst 0, 1) := by decide +kernel
theorem dX6_shift_49 : decode cX6_shift 49 = .ok (.ireturn, 1) := by decide +kernel
theorem dX6_shift_50 : decode cX6_shift 50 = .ok (.aload_n 0, 1) := by decide +kernel
theorem dX6_shift_51 : decode cX6_shift 51 = .ok (.getfield 15, 3) := by decide +kernel
theorem dX6_shift_54 : decode cX6_shift 54 = .ok (.iload_n 1, 1) := by decide +kernel
theorem dX6_shift_55 : decode cX6_shift 55 = .ok (.iload 4, 2) := by decide +kernel
theorem dX6_shift_57 : decode cX6_shift 57 = .ok (.iastore, 1) := by decide +kernel
theorem dX6_shift_58 : decode cX6_shift 58 = .ok (.iconst 1, 1) := by decide +kernel
theorem dX6_shift_59 : decode cX6_shift 59 = .ok (.ireturn, 1) := by decide +kernel
theorem dX6_start_0 : decode cX6_start 0 = .ok (.aload_n 0, 1) := by decide +kernel
theorem dX6_start_1 : decode cX6_start 1 = .ok (.getfield 18, 3) := by decide +kernel
theorem dX6_start_4 : decode cX6_start 4 = .ok (.iload_n 2, 1) := by decide +kernel
theorem dX6_start_5 : decode cX6_start 5 = .ok (.iconst 1, 1) := by decide +kernel
theorem dX6_start_6 : decode cX6_start 6 = .ok (.iastore, 1) := by decide +kernel
theorem dX6_start_7 : decode cX6_start 7 = .ok (.aload_n 0, 1) := by decide +kernel
theorem dX6_start_8 : decode cX6_start 8 = .ok (.getfield 15, 3) := by decide +kernel
theorem dX6_start_11 : decode cX6_start 11 = .ok (.iload_n 2, 1) := by decide +kernel
theorem dX6_start_12 : decode cX6_start 12 = .ok (.aload_n 1, 1) := by decide +kernel
theorem dX6_start_13 : decode cX6_start 13 = .ok (.getfield 114, 3) := by decide +kernel
theorem dX6_start_16 : decode cX6_start 16 = .ok (.iload_n 2, 1) := by decide +kernel
theorem dX6_start_17 : decode cX6_start 17 = .ok (.iaload, 1) := by decide +kernel
theorem dX6_start_18 : decode cX6_start 18 = .ok (.aload_n 0, 1) := by decide +kernel
theorem dX6_start_19 : decode cX6_start 19 = .ok (.getfield 50, 3) := by decide +kernel
theorem dX6_start_22 : decode cX6_start 22 = .ok (.getfield 117, 3) := by decide +kernel
theorem dX6_start_25 : decode cX6_start 25 = .ok (.if_icmp .ge 12, 3) := by decide +kernel
theorem dX6_start_28 : decode cX6_start 28 = .ok (.aload_n 1, 1) := by decide +kernel
theorem dX6_start_29 : decode cX6_start 29 = .ok (.getfield 114, 3) := by decide +kernel
theorem dX6_start_32 : decode cX6_start 32 = .ok (.iload_n 2, 1) := by decide +kernel
theorem dX6_start_33 : decode cX6_start 33 = .ok (.iaload, 1) := by decide +kernel
theorem dX6_start_34 : decode cX6_start 34 = .ok (.goto 4, 3) := by decide +kernel
theorem dX6_start_37 : decode cX6_start 37 = .ok (.iconst (-1), 1) := by decide +kernel
theorem dX6_start_38 : decode cX6_start 38 = .ok (.iastore, 1) := by decide +kernel
theorem dX6_start_39 : decode cX6_start 39 = .ok (.aload_n 0, 1) := by decide +kernel
theorem dX6_start_40 : decode cX6_start 40 = .ok (.getfield 50, 3) := by decide +kernel
theorem dX6_start_43 : decode cX6_start 43 = .ok (.aload_n 0, 1) := by decide +kernel
theorem dX6_start_44 : decode cX6_start 44 = .ok (.getfield 15, 3) := by decide +kernel
theorem dX6_start_47 : decode cX6_start 47 = .ok (.iload_n 2, 1) := by decide +kernel
theorem dX6_start_48 : decode cX6_start 48 = .ok (.iaload, 1) := by decide +kernel
theorem dX6_start_49 : decode cX6_start 49 = .ok (.invokevirtual 120, 3) := by decide +kernel
theorem dX6_start_52 : decode cX6_start 52 = .ok (.ifCond .eq 13, 3) := by decide +kernel
theorem dX6_start_55 : decode cX6_start 55 = .ok (.aload_n 0, 1) := by decide +kernel
theorem dX6_start_56 : decode cX6_start 56 = .ok (.getfield 9, 3) := by decide +kernel
theorem dX6_start_59 : decode cX6_start 59 = .ok (.iload_n 2, 1) := by decide +kernel
theorem dX6_start_60 : decode cX6_start 60 = .ok (.iconst 1, 1) := by decide +kernel
theorem dX6_start_61 : decode cX6_start 61 = .ok (.iastore, 1) := by decide +kernel
theorem dX6_start_62 : decode cX6_start 62 = .ok (.goto 9, 3) := by decide +kernel
theorem dX6_start_65 : decode cX6_start 65 = .ok (.aload_n 0, 1) := by decide +kernel
theorem dX6_start_66 : decode cX6_start 66 = .ok (.iload_n 2, 1) := by decide +kernel
theorem dX6_start_67 : decode cX6_start 67 = .ok (.iconst 3, 1) := by decide +kernel
theorem dX6_start_68 : decode cX6_start 68 = .ok (.invokevirtual 102, 3) := by decide +kernel
theorem dX6_start_71 : decode cX6_start 71 = .ok (.return_, 1) := by decide +kernel
theorem dX6_settle_0 : decode cX6_settle 0 = .ok (.aload_n 0, 1) := by decide +kernel
theorem dX6_settle_1 : decode cX6_settle 1 = .ok (.getfield 9, 3) := by decide +kernel
theorem dX6_settle_4 : decode cX6_settle 4 = .ok (.iload_n 1, 1) := by decide +kernel
theorem dX6_settle_5 : decode cX6_settle 5 = .ok (.iload_n 2, 1) := by decide +kernel
theorem dX6_settle_6 : decode cX6_settle 6 = .ok (.iastore, 1) := by decide +kernel
theorem dX6_settle_7 : decode cX6_settle 7 = .ok (.aload_n 0, 1) := by decide +kernel
theorem dX6_settle_8 : decode cX6_settle 8 = .ok (.dup, 1) := by decide +kernel
theorem dX6_settle_9 : decode cX6_settle 9 = .ok (.getfield 43, 3) := by decide +kernel
theorem dX6_settle_12 : decode cX6_settle 12 = .ok (.iconst 1, 1) := by decide +kernel
theorem dX6_settle_13 : decode cX6_settle 13 = .ok (.isub, 1) := by decide +kernel
theorem dX6_settle_14 : decode cX6_settle 14 = .ok (.putfield 43, 3) := by decide +kernel
theorem dX6_settle_17 : decode cX6_settle 17 = .ok (.return_, 1) := by decide +kernel
theorem dX6_meet_0 : decode cX6_meet 0 = .ok (.iconst 0, 1) := by decide +kernel
theorem dX6_meet_1 : decode cX6_meet 1 = .ok (.istore_n 3, 1) := by decide +kernel
theorem dX6_meet_2 : decode cX6_meet 2 = .ok (.iconst 0, 1) := by decide +kernel
theorem dX6_meet_3 : decode cX6_meet 3 = .ok (.istore 4, 2) := by decide +kernel
theorem dX6_meet_5 : decode cX6_meet 5 = .ok (.iload 4, 2) := by decide +kernel
theorem dX6_meet_7 : decode cX6_meet 7 = .ok (.aload_n 1, 1) := by decide +kernel
theorem dX6_meet_8 : decode cX6_meet 8 = .ok (.getfield 62, 3) := by decide +kernel
theorem dX6_meet_11 : decode cX6_meet 11 = .ok (.if_icmp .ge 133, 3) := by decide +kernel
theorem dX6_meet_14 : decode cX6_meet 14 = .ok (.iload 4, 2) := by decide +kernel
theorem dX6_meet_16 : decode cX6_meet 16 = .ok (.iconst 1, 1) := by decide +kernel
theorem dX6_meet_17 : decode cX6_meet 17 = .ok (.iadd, 1) := by decide +kernel
theorem dX6_meet_18 : decode cX6_meet 18 = .ok (.istore 5, 2) := by decide +kernel
theorem dX6_meet_20 : decode cX6_meet 20 = .ok (.iload 5, 2) := by decide +kernel
theorem dX6_meet_22 : decode cX6_meet 22 = .ok (.aload_n 1, 1) := by decide +kernel
theorem dX6_meet_23 : decode cX6_meet 23 = .ok (.getfield 62, 3) := by decide +kernel
theorem dX6_meet_26 : decode cX6_meet 26 = .ok (.if_icmp .ge 112, 3) := by decide +kernel
theorem dX6_meet_29 : decode cX6_meet 29 = .ok (.aload_n 0, 1) := by decide +kernel
theorem dX6_meet_30 : decode cX6_meet 30 = .ok (.getfield 9, 3) := by decide +kernel
theorem dX6_meet_33 : decode cX6_meet 33 = .ok (.iload 4, 2) := by decide +kernel
theorem dX6_meet_35 : decode cX6_meet 35 = .ok (.iaload, 1) := by decide +kernel
theorem dX6_meet_36 : decode cX6_meet 36 = .ok (.iconst 1, 1) := by decide +kernel
theorem dX6_meet_37 : decode cX6_meet 37 = .ok (.if_icmp .ne 101, 3) := by decide +kernel
theorem dX6_meet_40 : decode cX6_meet 40 = .ok (.aload_n 0, 1) := by decide +kernel
theorem dX6_meet_41 : decode cX6_meet 41 = .ok (.getfield 9, 3) := by decide +kernel
theorem dX6_meet_44 : decode cX6_meet 44 = .ok (.iload 5, 2) := by decide +kernel
theorem dX6_meet_46 : decode cX6_meet 46 = .ok (.iaload, 1) := by decide +kernel
theorem dX6_meet_47 : decode cX6_meet 47 = .ok (.iconst 1, 1) := by decide +kernel
theorem dX6_meet_48 : decode cX6_meet 48 = .ok (.if_icmp .ne 84, 3) := by decide +kernel
theorem dX6_meet_51 : decode cX6_meet 51 = .ok (.aload_n 0, 1) := by decide +kernel
theorem dX6_meet_52 : decode cX6_meet 52 = .ok (.getfield 15, 3) := by decide +kernel
theorem dX6_meet_55 : decode cX6_meet 55 = .ok (.iload 4, 2) := by decide +kernel
theorem dX6_meet_57 : decode cX6_meet 57 = .ok (.iaload, 1) := by decide +kernel
theorem dX6_meet_58 : decode cX6_meet 58 = .ok (.aload_n 0, 1) := by decide +kernel
theorem dX6_meet_59 : decode cX6_meet 59 = .ok (.getfield 15, 3) := by decide +kernel
theorem dX6_meet_62 : decode cX6_meet 62 = .ok (.iload 5, 2) := by decide +kernel
theorem dX6_meet_64 : decode cX6_meet 64 = .ok (.iaload, 1) := by decide +kernel
theorem dX6_meet_65 : decode cX6_meet 65 = .ok (.if_icmp .eq 6, 3) := by decide +kernel
theorem dX6_meet_68 : decode cX6_meet 68 = .ok (.goto 64, 3) := by decide +kernel
theorem dX6_meet_71 : decode cX6_meet 71 = .ok (.aload_n 0, 1) := by decide +kernel
theorem dX6_meet_72 : decode cX6_meet 72 = .ok (.getfield 18, 3) := by decide +kernel
theorem dX6_meet_75 : decode cX6_meet 75 = .ok (.iload 4, 2) := by decide +kernel
theorem dX6_meet_77 : decode cX6_meet 77 = .ok (.iaload, 1) := by decide +kernel
theorem dX6_meet_78 : decode cX6_meet 78 = .ok (.aload_n 0, 1) := by decide +kernel
theorem dX6_meet_79 : decode cX6_meet 79 = .ok (.getfield 18, 3) := by decide +kernel
theorem dX6_meet_82 : decode cX6_meet 82 = .ok (.iload 5, 2) := by decide +kernel
theorem dX6_meet_84 : decode cX6_meet 84 = .ok (.iaload, 1) := by decide +kernel
theorem dX6_meet_85 : decode cX6_meet 85 = .ok (.if_icmp .ne 18, 3) := by decide +kernel
theorem dX6_meet_88 : decode cX6_meet 88 = .ok (.iload_n 3, 1) := by decide +kernel
theorem dX6_meet_89 : decode cX6_meet 89 = .ok (.iconst 1, 1) := by decide +kernel
theorem dX6_meet_90 : decode cX6_meet 90 = .ok (.iload 4, 2) := by decide +kernel
theorem dX6_meet_92 : decode cX6_meet 92 = .ok (.ishl, 1) := by decide +kernel
theorem dX6_meet_93 : decode cX6_meet 93 = .ok (.iconst 1, 1) := by decide +kernel
theorem dX6_meet_94 : decode cX6_meet 94 = .ok (.iload 5, 2) := by decide +kernel
theorem dX6_meet_96 : decode cX6_meet 96 = .ok (.ishl, 1) := by decide +kernel
theorem dX6_meet_97 : decode cX6_meet 97 = .ok (.ior, 1) := by decide +kernel
theorem dX6_meet_98 : decode cX6_meet 98 = .ok (.ior, 1) := by decide +kernel
theorem dX6_meet_99 : decode cX6_meet 99 = .ok (.istore_n 3, 1) := by decide +kernel
theorem dX6_meet_100 : decode cX6_meet 100 = .ok (.goto 32, 3) := by decide +kernel
theorem dX6_meet_103 : decode cX6_meet 103 = .ok (.aload_n 0, 1) := by decide +kernel
theorem dX6_meet_104 : decode cX6_meet 104 = .ok (.aload_n 0, 1) := by decide +kernel
theorem dX6_meet_105 : decode cX6_meet 105 = .ok (.getfield 37, 3) := by decide +kernel
theorem dX6_meet_108 : decode cX6_meet 108 = .ok (.ifCond .ne 7, 3) := by decide +kernel
theorem dX6_meet_111 : decode cX6_meet 111 = .ok (.iload_n 2, 1) := by decide +kernel
theorem dX6_meet_112 : decode cX6_meet 112 = .ok (.goto 7, 3) := by decide +kernel
theorem dX6_meet_115 : decode cX6_meet 115 = .ok (.aload_n 0, 1) := by decide +kernel
theorem dX6_meet_116 : decode cX6_meet 116 = .ok (.getfield 40, 3) := by decide +kernel
theorem dX6_meet_119 : decode cX6_meet 119 = .ok (.putfield 40, 3) := by decide +kernel
theorem dX6_meet_122 : decode cX6_meet 122 = .ok (.aload_n 0, 1) := by decide +kernel
theorem dX6_meet_123 : decode cX6_meet 123 = .ok (.dup, 1) := by decide +kernel
theorem dX6_meet_124 : decode cX6_meet 124 = .ok (.getfield 37, 3) := by decide +kernel
theorem dX6_meet_127 : decode cX6_meet 127 = .ok (.iconst 1, 1) := by decide +kernel
theorem dX6_meet_128 : decode cX6_meet 128 = .ok (.iadd, 1) := by decide +kernel
theorem dX6_meet_129 : decode cX6_meet 129 = .ok (.putfield 37, 3) := by decide +kernel
theorem dX6_meet_132 : decode cX6_meet 132 = .ok (.iinc 5 1, 3) := by decide +kernel
theorem dX6_meet_135 : decode cX6_meet 135 = .ok (.goto (-115), 3) := by decide +kernel
theorem dX6_meet_138 : decode cX6_meet 138 = .ok (.iinc 4 1, 3) := by decide +kernel
theorem dX6_meet_141 : decode cX6_meet 141 = .ok (.goto (-136), 3) := by decide +kernel
theorem dX6_meet_144 : decode cX6_meet 144 = .ok (.iconst 0, 1) := by decide +kernel
theorem dX6_meet_145 : decode cX6_meet 145 = .ok (.istore 4, 2) := by decide +kernel
theorem dX6_meet_147 : decode cX6_meet 147 = .ok (.iload 4, 2) := by decide +kernel
theorem dX6_meet_149 : decode cX6_meet 149 = .ok (.aload_n 1, 1) := by decide +kernel
theorem dX6_meet_150 : decode cX6_meet 150 = .ok (.getfield 62, 3) := by decide +kernel
theorem dX6_meet_153 : decode cX6_meet 153 = .ok (.if_icmp .ge 25, 3) := by decide +kernel
theorem dX6_meet_156 : decode cX6_meet 156 = .ok (.iload_n 3, 1) := by decide +kernel
theorem dX6_meet_157 : decode cX6_meet 157 = .ok (.iload 4, 2) := by decide +kernel
theorem dX6_meet_159 : decode cX6_meet 159 = .ok (.ishr, 1) := by decide +kernel
theorem dX6_meet_160 : decode cX6_meet 160 = .ok (.iconst 1, 1) := by decide +kernel
theorem dX6_meet_161 : decode cX6_meet 161 = .ok (.iand, 1) := by decide +kernel
theorem dX6_meet_162 : decode cX6_meet 162 = .ok (.ifCond .eq 10, 3) := by decide +kernel
theorem dX6_meet_165 : decode cX6_meet 165 = .ok (.aload_n 0, 1) := by decide +kernel
theorem dX6_meet_166 : decode cX6_meet 166 = .ok (.iload 4, 2) := by decide +kernel
theorem dX6_meet_168 : decode cX6_meet 168 = .ok (.iconst 3, 1) := by decide +kernel
theorem dX6_meet_169 : decode cX6_meet 169 = .ok (.invokevirtual 102, 3) := by decide +kernel
theorem dX6_meet_172 : decode cX6_meet 172 = .ok (.iinc 4 1, 3) := by decide +kernel
theorem dX6_meet_175 : decode cX6_meet 175 = .ok (.goto (-28), 3) := by decide +kernel
theorem dX6_meet_178 : decode cX6_meet 178 = .ok (.return_, 1) := by decide +kernel
theorem dX6_fall_0 : decode cX6_fall 0 = .ok (.iconst 0, 1) := by decide +kernel
theorem dX6_fall_1 : decode cX6_fall 1 = .ok (.istore_n 3, 1) := by decide +kernel
theorem dX6_fall_2 : decode cX6_fall 2 = .ok (.iload_n 3, 1) := by decide +kernel
theorem dX6_fall_3 : decode cX6_fall 3 = .ok (.aload_n 1, 1) := by decide +kernel
theorem dX6_fall_4 : decode cX6_fall 4 = .ok (.getfield 62, 3) := by decide +kernel
theorem dX6_fall_7 : decode cX6_fall 7 = .ok (.if_icmp .ge 124, 3) := by decide +kernel
theorem dX6_fall_10 : decode cX6_fall 10 = .ok (.iconst 0, 1) := by decide +kernel
theorem dX6_fall_11 : decode cX6_fall 11 = .ok (.istore 4, 2) := by decide +kernel
theorem dX6_fall_13 : decode cX6_fall 13 = .ok (.iload 4, 2) := by decide +kernel
theorem dX6_fall_15 : decode cX6_fall 15 = .ok (.aload_n 1, 1) := by decide +kernel
theorem dX6_fall_16 : decode cX6_fall 16 = .ok (.getfield 73, 3) := by decide +kernel
theorem dX6_fall_19 : decode cX6_fall 19 = .ok (.if_icmp .ge 106, 3) := by decide +kernel
theorem dX6_fall_22 : decode cX6_fall 22 = .ok (.aload_n 0, 1) := by decide +kernel
theorem dX6_fall_23 : decode cX6_fall 23 = .ok (.getfield 9, 3) := by decide +kernel
theorem dX6_fall_26 : decode cX6_fall 26 = .ok (.iload_n 3, 1) := by decide +kernel
theorem dX6_fall_27 : decode cX6_fall 27 = .ok (.iaload, 1) := by decide +kernel
theorem dX6_fall_28 : decode cX6_fall 28 = .ok (.iconst 1, 1) := by decide +kernel
theorem dX6_fall_29 : decode cX6_fall 29 = .ok (.if_icmp .ne 96, 3) := by decide +kernel
theorem dX6_fall_32 : decode cX6_fall 32 = .ok (.aload_n 1, 1) := by decide +kernel
theorem dX6_fall_33 : decode cX6_fall 33 = .ok (.getfield 76, 3) := by decide +kernel
theorem dX6_fall_36 : decode cX6_fall 36 = .ok (.iload 4, 2) := by decide +kernel
theorem dX6_fall_38 : decode cX6_fall 38 = .ok (.iaload, 1) := by decide +kernel
theorem dX6_fall_39 : decode cX6_fall 39 = .ok (.aload_n 0, 1) := by decide +kernel
theorem dX6_fall_40 : decode cX6_fall 40 = .ok (.getfield 15, 3) := by decide +kernel
theorem dX6_fall_43 : decode cX6_fall 43 = .ok (.iload_n 3, 1) := by decide +kernel
theorem dX6_fall_44 : decode cX6_fall 44 = .ok (.iaload, 1) := by decide +kernel
theorem dX6_fall_45 : decode cX6_fall 45 = .ok (.if_icmp .ne 74, 3) := by decide +kernel
theorem dX6_fall_48 : decode cX6_fall 48 = .ok (.aload_n 0, 1) := by decide +kernel
theorem dX6_fall_49 : decode cX6_fall 49 = .ok (.getfield 24, 3) := by decide +kernel
theorem dX6_fall_52 : decode cX6_fall 52 = .ok (.iload 4, 2) := by decide +kernel
theorem dX6_fall_54 : decode cX6_fall 54 = .ok (.iaload, 1) := by decide +kernel
theorem dX6_fall_55 : decode cX6_fall 55 = .ok (.iconst (-1), 1) := by decide +kernel
theorem dX6_fall_56 : decode cX6_fall 56 = .ok (.if_icmp .ne 63, 3) := by decide +kernel
theorem dX6_fall_59 : decode cX6_fall 59 = .ok (.aload_n 1, 1) := by decide +kernel
theorem dX6_fall_60 : decode cX6_fall 60 = .ok (.aload_n 0, 1) := by decide +kernel
theorem dX6_fall_61 : decode cX6_fall 61 = .ok (.getfield 18, 3) := by decide +kernel
theorem dX6_fall_64 : decode cX6_fall 64 = .ok (.iload_n 3, 1) := by decide +kernel
theorem dX6_fall_65 : decode cX6_fall 65 = .ok (.iaload, 1) := by decide +kernel
theorem dX6_fall_66 : decode cX6_fall 66 = .ok (.iload 4, 2) := by decide +kernel
theorem dX6_fall_68 : decode cX6_fall 68 = .ok (.invokevirtual 124, 3) := by decide +kernel
theorem dX6_fall_71 : decode cX6_fall 71 = .ok (.ifCond .eq 48, 3) := by decide +kernel
theorem dX6_fall_74 : decode cX6_fall 74 = .ok (.aload_n 0, 1) := by decide +kernel
theorem dX6_fall_75 : decode cX6_fall 75 = .ok (.getfield 24, 3) := by decide +kernel
theorem dX6_fall_78 : decode cX6_fall 78 = .ok (.iload 4, 2) := by decide +kernel
theorem dX6_fall_80 : decode cX6_fall 80 = .ok (.iload_n 3, 1) := by decide +kernel
theorem dX6_fall_81 : decode cX6_fall 81 = .ok (.iastore, 1) := by decide +kernel
theorem dX6_fall_82 : decode cX6_fall 82 = .ok (.aload_n 0, 1) := by decide +kernel
theorem dX6_fall_83 : decode cX6_fall 83 = .ok (.getfield 27, 3) := by decide +kernel
theorem dX6_fall_86 : decode cX6_fall 86 = .ok (.iload 4, 2) := by decide +kernel
theorem dX6_fall_88 : decode cX6_fall 88 = .ok (.iload_n 2, 1) := by decide +kernel
theorem dX6_fall_89 : decode cX6_fall 89 = .ok (.iastore, 1) := by decide +kernel
theorem dX6_fall_90 : decode cX6_fall 90 = .ok (.aload_n 0, 1) := by decide +kernel
theorem dX6_fall_91 : decode cX6_fall 91 = .ok (.getfield 30, 3) := by decide +kernel
theorem dX6_fall_94 : decode cX6_fall 94 = .ok (.iload 4, 2) := by decide +kernel
theorem dX6_fall_96 : decode cX6_fall 96 = .ok (.aload_n 1, 1) := by decide +kernel
theorem dX6_fall_97 : decode cX6_fall 97 = .ok (.getfield 127, 3) := by decide +kernel
theorem dX6_fall_100 : decode cX6_fall 100 = .ok (.iload_n 3, 1) := by decide +kernel
theorem dX6_fall_101 : decode cX6_fall 101 = .ok (.iaload, 1) := by decide +kernel
theorem dX6_fall_102 : decode cX6_fall 102 = .ok (.iastore, 1) := by decide +kernel
theorem dX6_fall_103 : decode cX6_fall 103 = .ok (.aload_n 0, 1) := by decide +kernel
theorem dX6_fall_104 : decode cX6_fall 104 = .ok (.dup, 1) := by decide +kernel
theorem dX6_fall_105 : decode cX6_fall 105 = .ok (.getfield 33, 3) := by decide +kernel
theorem dX6_fall_108 : decode cX6_fall 108 = .ok (.iconst 1, 1) := by decide +kernel
theorem dX6_fall_109 : decode cX6_fall 109 = .ok (.iadd, 1) := by decide +kernel
theorem dX6_fall_110 : decode cX6_fall 110 = .ok (.putfield 33, 3) := by decide +kernel
theorem dX6_fall_113 : decode cX6_fall 113 = .ok (.aload_n 0, 1) := by decide +kernel
theorem dX6_fall_114 : decode cX6_fall 114 = .ok (.iload_n 3, 1) := by decide +kernel
theorem dX6_fall_115 : decode cX6_fall 115 = .ok (.iconst 2, 1) := by decide +kernel
theorem dX6_fall_116 : decode cX6_fall 116 = .ok (.invokevirtual 102, 3) := by decide +kernel
theorem dX6_fall_119 : decode cX6_fall 119 = .ok (.iinc 4 1, 3) := by decide +kernel
theorem dX6_fall_122 : decode cX6_fall 122 = .ok (.goto (-109), 3) := by decide +kernel
theorem dX6_fall_125 : decode cX6_fall 125 = .ok (.iinc 3 1, 3) := by decide +kernel
theorem dX6_fall_128 : decode cX6_fall 128 = .ok (.goto (-126), 3) := by decide +kernel
theorem dX6_fall_131 : decode cX6_fall 131 = .ok (.return_, 1) := by decide +kernel
theorem dX6_wedBits_0 : decode cX6_wedBits 0 = .ok (.iconst 0, 1) := by decide +kernel
theorem dX6_wedBits_1 : decode cX6_wedBits 1 = .ok (.istore_n 3, 1) := by decide +kernel
theorem dX6_wedBits_2 : decode cX6_wedBits 2 = .ok (.iconst 0, 1) := by decide +kernel
theorem dX6_wedBits_3 : decode cX6_wedBits 3 = .ok (.istore 4, 2) := by decide +kernel
theorem dX6_wedBits_5 : decode cX6_wedBits 5 = .ok (.iload 4, 2) := by decide +kernel
theorem dX6_wedBits_7 : decode cX6_wedBits 7 = .ok (.aload_n 1, 1) := by decide +kernel
theorem dX6_wedBits_8 : decode cX6_wedBits 8 = .ok (.getfield 73, 3) := by decide +kernel
theorem dX6_wedBits_11 : decode cX6_wedBits 11 = .ok (.if_icmp .ge 27, 3) := by decide +kernel
theorem dX6_wedBits_14 : decode cX6_wedBits 14 = .ok (.aload_n 0, 1) := by decide +kernel
theorem dX6_wedBits_15 : decode cX6_wedBits 15 = .ok (.getfield 30, 3) := by decide +kernel
theorem dX6_wedBits_18 : decode cX6_wedBits 18 = .ok (.iload 4, 2) := by decide +kernel
theorem dX6_wedBits_20 : decode cX6_wedBits 20 = .ok (.iaload, 1) := by decide +kernel
theorem dX6_wedBits_21 : decode cX6_wedBits 21 = .ok (.iload_n 2, 1) := by decide +kernel
theorem dX6_wedBits_22 : decode cX6_wedBits 22 = .ok (.if_icmp .ne 10, 3) := by decide +kernel
theorem dX6_wedBits_25 : decode cX6_wedBits 25 = .ok (.iload_n 3, 1) := by decide +kernel
theorem dX6_wedBits_26 : decode cX6_wedBits 26 = .ok (.iconst 1, 1) := by decide +kernel
theorem dX6_wedBits_27 : decode cX6_wedBits 27 = .ok (.iload 4, 2) := by decide +kernel
theorem dX6_wedBits_29 : decode cX6_wedBits 29 = .ok (.ishl, 1) := by decide +kernel
theorem dX6_wedBits_30 : decode cX6_wedBits 30 = .ok (.ior, 1) := by decide +kernel
theorem dX6_wedBits_31 : decode cX6_wedBits 31 = .ok (.istore_n 3, 1) := by decide +kernel
theorem dX6_wedBits_32 : decode cX6_wedBits 32 = .ok (.iinc 4 1, 3) := by decide +kernel
theorem dX6_wedBits_35 : decode cX6_wedBits 35 = .ok (.goto (-30), 3) := by decide +kernel
theorem dX6_wedBits_38 : decode cX6_wedBits 38 = .ok (.iload_n 3, 1) := by decide +kernel
theorem dX6_wedBits_39 : decode cX6_wedBits 39 = .ok (.ireturn, 1) := by decide +kernel
theorem dX6_upkeepOf_0 : decode cX6_upkeepOf 0 = .ok (.iconst 0, 1) := by decide +kernel
theorem dX6_upkeepOf_1 : decode cX6_upkeepOf 1 = .ok (.istore_n 3, 1) := by decide +kernel
theorem dX6_upkeepOf_2 : decode cX6_upkeepOf 2 = .ok (.iconst 0, 1) := by decide +kernel
theorem dX6_upkeepOf_3 : decode cX6_upkeepOf 3 = .ok (.istore 4, 2) := by decide +kernel
theorem dX6_upkeepOf_5 : decode cX6_upkeepOf 5 = .ok (.iload 4, 2) := by decide +kernel
theorem dX6_upkeepOf_7 : decode cX6_upkeepOf 7 = .ok (.aload_n 1, 1) := by decide +kernel
theorem dX6_upkeepOf_8 : decode cX6_upkeepOf 8 = .ok (.getfield 73, 3) := by decide +kernel
theorem dX6_upkeepOf_11 : decode cX6_upkeepOf 11 = .ok (.if_icmp .ge 29, 3) := by decide +kernel
theorem dX6_upkeepOf_14 : decode cX6_upkeepOf 14 = .ok (.aload_n 0, 1) := by decide +kernel
theorem dX6_upkeepOf_15 : decode cX6_upkeepOf 15 = .ok (.getfield 30, 3) := by decide +kernel
theorem dX6_upkeepOf_18 : decode cX6_upkeepOf 18 = .ok (.iload 4, 2) := by decide +kernel
theorem dX6_upkeepOf_20 : decode cX6_upkeepOf 20 = .ok (.iaload, 1) := by decide +kernel
theorem dX6_upkeepOf_21 : decode cX6_upkeepOf 21 = .ok (.iload_n 2, 1) := by decide +kernel
theorem dX6_upkeepOf_22 : decode cX6_upkeepOf 22 = .ok (.if_icmp .ne 12, 3) := by decide +kernel
theorem dX6_upkeepOf_25 : decode cX6_upkeepOf 25 = .ok (.iload_n 3, 1) := by decide +kernel
theorem dX6_upkeepOf_26 : decode cX6_upkeepOf 26 = .ok (.aload_n 1, 1) := by decide +kernel
theorem dX6_upkeepOf_27 : decode cX6_upkeepOf 27 = .ok (.iload 4, 2) := by decide +kernel
theorem dX6_upkeepOf_29 : decode cX6_upkeepOf 29 = .ok (.invokevirtual 130, 3) := by decide +kernel
theorem dX6_upkeepOf_32 : decode cX6_upkeepOf 32 = .ok (.iadd, 1) := by decide +kernel
theorem dX6_upkeepOf_33 : decode cX6_upkeepOf 33 = .ok (.istore_n 3, 1) := by decide +kernel
theorem dX6_upkeepOf_34 : decode cX6_upkeepOf 34 = .ok (.iinc 4 1, 3) := by decide +kernel
theorem dX6_upkeepOf_37 : decode cX6_upkeepOf 37 = .ok (.goto (-32), 3) := by decide +kernel
theorem dX6_upkeepOf_40 : decode cX6_upkeepOf 40 = .ok (.iload_n 3, 1) := by decide +kernel
theorem dX6_upkeepOf_41 : decode cX6_upkeepOf 41 = .ok (.ireturn, 1) := by decide +kernel
theorem dX6_brokenRings_0 : decode cX6_brokenRings 0 = .ok (.iconst 0, 1) := by decide +kernel
theorem dX6_brokenRings_1 : decode cX6_brokenRings 1 = .ok (.istore_n 2, 1) := by decide +kernel
theorem dX6_brokenRings_2 : decode cX6_brokenRings 2 = .ok (.iconst 0, 1) := by decide +kernel
theorem dX6_brokenRings_3 : decode cX6_brokenRings 3 = .ok (.istore_n 3, 1) := by decide +kernel
theorem dX6_brokenRings_4 : decode cX6_brokenRings 4 = .ok (.iload_n 3, 1) := by decide +kernel
theorem dX6_brokenRings_5 : decode cX6_brokenRings 5 = .ok (.aload_n 1, 1) := by decide +kernel
theorem dX6_brokenRings_6 : decode cX6_brokenRings 6 = .ok (.getfield 62, 3) := by decide +kernel
theorem dX6_brokenRings_9 : decode cX6_brokenRings 9 = .ok (.if_icmp .ge 22, 3) := by decide +kernel
theorem dX6_brokenRings_12 : decode cX6_brokenRings 12 = .ok (.aload_n 0, 1) := by decide +kernel
theorem dX6_brokenRings_13 : decode cX6_brokenRings 13 = .ok (.getfield 9, 3) := by decide +kernel
theorem dX6_brokenRings_16 : decode cX6_brokenRings 16 = .ok (.iload_n 3, 1) := by decide +kernel
theorem dX6_brokenRings_17 : decode cX6_brokenRings 17 = .ok (.iaload, 1) := by decide +kernel
theorem dX6_brokenRings_18 : decode cX6_brokenRings 18 = .ok (.iconst 3, 1) := by decide +kernel
theorem dX6_brokenRings_19 : decode cX6_brokenRings 19 = .ok (.if_icmp .ne 6, 3) := by decide +kernel
theorem dX6_brokenRings_22 : decode cX6_brokenRings 22 = .ok (.iinc 2 1, 3) := by decide +kernel
theorem dX6_brokenRings_25 : decode cX6_brokenRings 25 = .ok (.iinc 3 1, 3) := by decide +kernel
theorem dX6_brokenRings_28 : decode cX6_brokenRings 28 = .ok (.goto (-24), 3) := by decide +kernel
theorem dX6_brokenRings_31 : decode cX6_brokenRings 31 = .ok (.iload_n 2, 1) := by decide +kernel
theorem dX6_brokenRings_32 : decode cX6_brokenRings 32 = .ok (.ireturn, 1) := by decide +kernel
theorem dX6_outcome_0 : decode cX6_outcome 0 = .ok (.aload_n 0, 1) := by decide +kernel
theorem dX6_outcome_1 : decode cX6_outcome 1 = .ok (.getfield 30, 3) := by decide +kernel
theorem dX6_outcome_4 : decode cX6_outcome 4 = .ok (.iload_n 1, 1) := by decide +kernel
theorem dX6_outcome_5 : decode cX6_outcome 5 = .ok (.iaload, 1) := by decide +kernel
theorem dX6_outcome_6 : decode cX6_outcome 6 = .ok (.iconst (-1), 1) := by decide +kernel
theorem dX6_outcome_7 : decode cX6_outcome 7 = .ok (.if_icmp .ne 7, 3) := by decide +kernel
theorem dX6_outcome_10 : decode cX6_outcome 10 = .ok (.iconst 4, 1) := by decide +kernel
theorem dX6_outcome_11 : decode cX6_outcome 11 = .ok (.goto 9, 3) := by decide +kernel
theorem dX6_outcome_14 : decode cX6_outcome 14 = .ok (.aload_n 0, 1) := by decide +kernel
theorem dX6_outcome_15 : decode cX6_outcome 15 = .ok (.getfield 30, 3) := by decide +kernel
theorem dX6_outcome_18 : decode cX6_outcome 18 = .ok (.iload_n 1, 1) := by decide +kernel
theorem dX6_outcome_19 : decode cX6_outcome 19 = .ok (.iaload, 1) := by decide +kernel
theorem dX6_outcome_20 : decode cX6_outcome 20 = .ok (.ireturn, 1) := by decide +kernel
theorem dX7_init_0 : decode cX7_init 0 = .ok (.aload_n 0, 1) := by decide +kernel
theorem dX7_init_1 : decode cX7_init 1 = .ok (.invokespecial 3, 3) := by decide +kernel
theorem dX7_init_4 : decode cX7_init 4 = .ok (.aload_n 0, 1) := by decide +kernel
theorem dX7_init_5 : decode cX7_init 5 = .ok (.iconst (-1), 1) := by decide +kernel
theorem dX7_init_6 : decode cX7_init 6 = .ok (.putfield 9, 3) := by decide +kernel
theorem dX7_init_9 : decode cX7_init 9 = .ok (.aload_n 0, 1) := by decide +kernel
theorem dX7_init_10 : decode cX7_init 10 = .ok (.iconst 0, 1) := by decide +kernel
theorem dX7_init_11 : decode cX7_init 11 = .ok (.putfield 15, 3) := by decide +kernel
theorem dX7_init_14 : decode cX7_init 14 = .ok (.aload_n 0, 1) := by decide +kernel
theorem dX7_init_15 : decode cX7_init 15 = .ok (.bipush 60, 2) := by decide +kernel
theorem dX7_init_17 : decode cX7_init 17 = .ok (.newarray .int, 2) := by decide +kernel
theorem dX7_init_19 : decode cX7_init 19 = .ok (.putfield 18, 3) := by decide +kernel
theorem dX7_init_22 : decode cX7_init 22 = .ok (.return_, 1) := by decide +kernel
theorem dX7_isLost_0 : decode cX7_isLost 0 = .ok (.aload_n 0, 1) := by decide +kernel
theorem dX7_isLost_1 : decode cX7_isLost 1 = .ok (.getfield 9, 3) := by decide +kernel
theorem dX7_isLost_4 : decode cX7_isLost 4 = .ok (.iconst (-1), 1) := by decide +kernel
theorem dX7_isLost_5 : decode cX7_isLost 5 = .ok (.if_icmp .ne 7, 3) := by decide +kernel
theorem dX7_isLost_8 : decode cX7_isLost 8 = .ok (.iconst 1, 1) := by decide +kernel
theorem dX7_isLost_9 : decode cX7_isLost 9 = .ok (.goto 4, 3) := by decide +kernel
theorem dX7_isLost_12 : decode cX7_isLost 12 = .ok (.iconst 0, 1) := by decide +kernel
theorem dX7_isLost_13 : decode cX7_isLost 13 = .ok (.ireturn, 1) := by decide +kernel
theorem dX7_renew_0 : decode cX7_renew 0 = .ok (.aload_n 0, 1) := by decide +kernel
theorem dX7_renew_1 : decode cX7_renew 1 = .ok (.iload_n 1, 1) := by decide +kernel
theorem dX7_renew_2 : decode cX7_renew 2 = .ok (.putfield 9, 3) := by decide +kernel
theorem dX7_renew_5 : decode cX7_renew 5 = .ok (.aload_n 0, 1) := by decide +kernel
theorem dX7_renew_6 : decode cX7_renew 6 = .ok (.iconst 0, 1) := by decide +kernel
theorem dX7_renew_7 : decode cX7_renew 7 = .ok (.iload_n 2, 1) := by decide +kernel
theorem dX7_renew_8 : decode cX7_renew 8 = .ok (.bipush 60, 2) := by decide +kernel
theorem dX7_renew_10 : decode cX7_renew 10 = .ok (.invokestatic 22, 3) := by decide +kernel
theorem dX7_renew_13 : decode cX7_renew 13 = .ok (.invokestatic 28, 3) := by decide +kernel
theorem dX7_renew_16 : decode cX7_renew 16 = .ok (.putfield 15, 3) := by decide +kernel
theorem dX7_renew_19 : decode cX7_renew 19 = .ok (.aload_n 0, 1) := by decide +kernel
theorem dX7_renew_20 : decode cX7_renew 20 = .ok (.getfield 18, 3) := by decide +kernel
theorem dX7_renew_23 : decode cX7_renew 23 = .ok (.iconst 0, 1) := by decide +kernel
theorem dX7_renew_24 : decode cX7_renew 24 = .ok (.invokestatic 31, 3) := by decide +kernel
theorem dX7_renew_27 : decode cX7_renew 27 = .ok (.return_, 1) := by decide +kernel
theorem dX7_trouble_0 : decode cX7_trouble 0 = .ok (.aload_n 0, 1) := by decide +kernel
theorem dX7_trouble_1 : decode cX7_trouble 1 = .ok (.invokevirtual 37, 3) := by decide +kernel
theorem dX7_trouble_4 : decode cX7_trouble 4 = .ok (.ifCond .eq 7, 3) := by decide +kernel
theorem dX7_trouble_7 : decode cX7_trouble 7 = .ok (.iconst 1, 1) := by decide +kernel
theorem dX7_trouble_8 : decode cX7_trouble 8 = .ok (.goto 28, 3) := by decide +kernel
theorem dX7_trouble_11 : decode cX7_trouble 11 = .ok (.aload_n 0, 1) := by decide +kernel
theorem dX7_trouble_12 : decode cX7_trouble 12 = .ok (.getfield 9, 3) := by decide +kernel
theorem dX7_trouble_15 : decode cX7_trouble 15 = .ok (.iload_n 1, 1) := by decide +kernel
theorem dX7_trouble_16 : decode cX7_trouble 16 = .ok (.if_icmp .eq 7, 3) := by decide +kernel
theorem dX7_trouble_19 : decode cX7_trouble 19 = .ok (.iconst 3, 1) := by decide +kernel
theorem dX7_trouble_20 : decode cX7_trouble 20 = .ok (.goto 16, 3) := by decide +kernel
theorem dX7_trouble_23 : decode cX7_trouble 23 = .ok (.aload_n 0, 1) := by decide +kernel
theorem dX7_trouble_24 : decode cX7_trouble 24 = .ok (.iload_n 2, 1) := by decide +kernel
theorem dX7_trouble_25 : decode cX7_trouble 25 = .ok (.invokevirtual 41, 3) := by decide +kernel
theorem dX7_trouble_28 : decode cX7_trouble 28 = .ok (.ifCond .eq 7, 3) := by decide +kernel
theorem dX7_trouble_31 : decode cX7_trouble 31 = .ok (.iconst 0, 1) := by decide +kernel
theorem dX7_trouble_32 : decode cX7_trouble 32 = .ok (.goto 4, 3) := by decide +kernel
theorem dX7_trouble_35 : decode cX7_trouble 35 = .ok (.iconst 2, 1) := by decide +kernel
theorem dX7_trouble_36 : decode cX7_trouble 36 = .ok (.ireturn, 1) := by decide +kernel
theorem dX7_hasItem_0 : decode cX7_hasItem 0 = .ok (.iload_n 1, 1) := by decide +kernel
theorem dX7_hasItem_1 : decode cX7_hasItem 1 = .ok (.ifCond .lt 15, 3) := by decide +kernel
theorem dX7_hasItem_4 : decode cX7_hasItem 4 = .ok (.iload_n 1, 1) := by decide +kernel
theorem dX7_hasItem_5 : decode cX7_hasItem 5 = .ok (.aload_n 0, 1) := by decide +kernel
theorem dX7_hasItem_6 : decode cX7_hasItem 6 = .ok (.getfield 15, 3) := by decide +kernel
theorem dX7_hasItem_9 : decode cX7_hasItem 9 = .ok (.if_icmp .ge 7, 3) := by decide +kernel
theorem dX7_hasItem_12 : decode cX7_hasItem 12 = .ok (.iconst 1, 1) := by decide +kernel
theorem dX7_hasItem_13 : decode cX7_hasItem 13 = .ok (.goto 4, 3) := by decide +kernel
theorem dX7_hasItem_16 : decode cX7_hasItem 16 = .ok (.iconst 0, 1) := by decide +kernel
theorem dX7_hasItem_17 : decode cX7_hasItem 17 = .ok (.ireturn, 1) := by decide +kernel
theorem dX7_hasRun_0 : decode cX7_hasRun 0 = .ok (.iload_n 1, 1) := by decide +kernel
theorem dX7_hasRun_1 : decode cX7_hasRun 1 = .ok (.ifCond .lt 29, 3) := by decide +kernel
theorem dX7_hasRun_4 : decode cX7_hasRun 4 = .ok (.iload_n 2, 1) := by decide +kernel
theorem dX7_hasRun_5 : decode cX7_hasRun 5 = .ok (.ifCond .lt 25, 3) := by decide +kernel
theorem dX7_hasRun_8 : decode cX7_hasRun 8 = .ok (.iload_n 1, 1) := by decide +kernel
theorem dX7_hasRun_9 : decode cX7_hasRun 9 = .ok (.aload_n 0, 1) := by decide +kernel
theorem dX7_hasRun_10 : decode cX7_hasRun 10 = .ok (.getfield 15, 3) := by decide +kernel
theorem dX7_hasRun_13 : decode cX7_hasRun 13 = .ok (.if_icmp .gt 17, 3) := by decide +kernel
theorem dX7_hasRun_16 : decode cX7_hasRun 16 = .ok (.iload_n 2, 1) := by decide +kernel
theorem dX7_hasRun_17 : decode cX7_hasRun 17 = .ok (.aload_n 0, 1) := by decide +kernel
theorem dX7_hasRun_18 : decode cX7_hasRun 18 = .ok (.getfield 15, 3) := by decide +kernel
theorem dX7_hasRun_21 : decode cX7_hasRun 21 = .ok (.iload_n 1, 1) := by decide +kernel
theorem dX7_hasRun_22 : decode cX7_hasRun 22 = .ok (.isub, 1) := by decide +kernel
theorem dX7_hasRun_23 : decode cX7_hasRun 23 = .ok (.if_icmp .gt 7, 3) := by decide +kernel
theorem dX7_hasRun_26 : decode cX7_hasRun 26 = .ok (.iconst 1, 1) := by decide +kernel
theorem dX7_hasRun_27 : decode cX7_hasRun 27 = .ok (.goto 4, 3) := by decide +kernel
theorem dX7_hasRun_30 : decode cX7_hasRun 30 = .ok (.iconst 0, 1) := by decide +kernel
theorem dX7_hasRun_31 : decode cX7_hasRun 31 = .ok (.ireturn, 1) := by decide +kernel
theorem dX7_item_0 : decode cX7_item 0 = .ok (.aload_n 0, 1) := by decide +kernel
theorem dX7_item_1 : decode cX7_item 1 = .ok (.iload_n 1, 1) := by decide +kernel
theorem dX7_item_2 : decode cX7_item 2 = .ok (.invokevirtual 41, 3) := by decide +kernel
theorem dX7_item_5 : decode cX7_item 5 = .ok (.ifCond .eq 12, 3) := by decide +kernel
theorem dX7_item_8 : decode cX7_item 8 = .ok (.aload_n 0, 1) := by decide +kernel
theorem dX7_item_9 : decode cX7_item 9 = .ok (.getfield 18, 3) := by decide +kernel
theorem dX7_item_12 : decode cX7_item 12 = .ok (.iload_n 1, 1) := by decide +kernel
theorem dX7_item_13 : decode cX7_item 13 = .ok (.iaload, 1) := by decide +kernel
theorem dX7_item_14 : decode cX7_item 14 = .ok (.goto 4, 3) := by decide +kernel
theorem dX7_item_17 : decode cX7_item 17 = .ok (.iconst 0, 1) := by decide +kernel
theorem dX7_item_18 : decode cX7_item 18 = .ok (.ireturn, 1) := by decide +kernel
theorem dX7_put_0 : decode cX7_put 0 = .ok (.aload_n 0, 1) := by decide +kernel
theorem dX7_put_1 : decode cX7_put 1 = .ok (.iload_n 1, 1) := by decide +kernel
theorem dX7_put_2 : decode cX7_put 2 = .ok (.invokevirtual 41, 3) := by decide +kernel
theorem dX7_put_5 : decode cX7_put 5 = .ok (.ifCond .eq 35, 3) := by decide +kernel
theorem dX7_put_8 : decode cX7_put 8 = .ok (.aload_n 0, 1) := by decide +kernel
theorem dX7_put_9 : decode cX7_put 9 = .ok (.getfield 18, 3) := by decide +kernel
theorem dX7_put_12 : decode cX7_put 12 = .ok (.iload_n 1, 1) := by decide +kernel
theorem dX7_put_13 : decode cX7_put 13 = .ok (.aload_n 0, 1) := by decide +kernel
theorem dX7_put_14 : decode cX7_put 14 = .ok (.getfield 9, 3) := by decide +kernel
theorem dX7_put_17 : decode cX7_put 17 = .ok (.ifCond .ne 8, 3) := by decide +kernel
theorem dX7_put_20 : decode cX7_put 20 = .ok (.iload_n 2, 1) := by decide +kernel
theorem dX7_put_21 : decode cX7_put 21 = .ok (.i2b, 1) := by decide +kernel
theorem dX7_put_22 : decode cX7_put 22 = .ok (.goto 17, 3) := by decide +kernel
theorem dX7_put_25 : decode cX7_put 25 = .ok (.aload_n 0, 1) := by decide +kernel
theorem dX7_put_26 : decode cX7_put 26 = .ok (.getfield 9, 3) := by decide +kernel
theorem dX7_put_29 : decode cX7_put 29 = .ok (.iconst 1, 1) := by decide +kernel
theorem dX7_put_30 : decode cX7_put 30 = .ok (.if_icmp .ne 8, 3) := by decide +kernel
theorem dX7_put_33 : decode cX7_put 33 = .ok (.iload_n 2, 1) := by decide +kernel
theorem dX7_put_34 : decode cX7_put 34 = .ok (.i2s, 1) := by decide +kernel
theorem dX7_put_35 : decode cX7_put 35 = .ok (.goto 4, 3) := by decide +kernel
theorem dX7_put_38 : decode cX7_put 38 = .ok (.iload_n 2, 1) := by decide +kernel
theorem dX7_put_39 : decode cX7_put 39 = .ok (.iastore, 1) := by decide +kernel
theorem dX7_put_40 : decode cX7_put 40 = .ok (.return_, 1) := by decide +kernel
theorem dX8_init_0 : decode cX8_init 0 = .ok (.aload_n 0, 1) := by decide +kernel
theorem dX8_init_1 : decode cX8_init 1 = .ok (.invokespecial 3, 3) := by decide +kernel
theorem dX8_init_4 : decode cX8_init 4 = .ok (.aload_n 0, 1) := by decide +kernel
theorem dX8_init_5 : decode cX8_init 5 = .ok (.bipush 8, 2) := by decide +kernel
theorem dX8_init_7 : decode cX8_init 7 = .ok (.newarray .int, 2) := by decide +kernel
theorem dX8_init_9 : decode cX8_init 9 = .ok (.putfield 9, 3) := by decide +kernel
theorem dX8_init_12 : decode cX8_init 12 = .ok (.aload_n 0, 1) := by decide +kernel
theorem dX8_init_13 : decode cX8_init 13 = .ok (.bipush 8, 2) := by decide +kernel
theorem dX8_init_15 : decode cX8_init 15 = .ok (.newarray .int, 2) := by decide +kernel
theorem dX8_init_17 : decode cX8_init 17 = .ok (.putfield 15, 3) := by decide +kernel
theorem dX8_init_20 : decode cX8_init 20 = .ok (.aload_n 0, 1) := by decide +kernel
theorem dX8_init_21 : decode cX8_init 21 = .ok (.iconst 0, 1) := by decide +kernel
theorem dX8_init_22 : decode cX8_init 22 = .ok (.putfield 18, 3) := by decide +kernel
theorem dX8_init_25 : decode cX8_init 25 = .ok (.return_, 1) := by decide +kernel
theorem dX8_note_0 : decode cX8_note 0 = .ok (.aload_n 0, 1) := by decide +kernel
theorem dX8_note_1 : decode cX8_note 1 = .ok (.getfield 18, 3) := by decide +kernel
theorem dX8_note_4 : decode cX8_note 4 = .ok (.bipush 8, 2) := by decide +kernel
theorem dX8_note_6 : decode cX8_note 6 = .ok (.if_icmp .lt 5, 3) := by decide +kernel
theorem dX8_note_9 : decode cX8_note 9 = .ok (.iconst 0, 1) := by decide +kernel
theorem dX8_note_10 : decode cX8_note 10 = .ok (.ireturn, 1) := by decide +kernel
theorem dX8_note_11 : decode cX8_note 11 = .ok (.aload_n 0, 1) := by decide +kernel
theorem dX8_note_12 : decode cX8_note 12 = .ok (.getfield 9, 3) := by decide +kernel
theorem dX8_note_15 : decode cX8_note 15 = .ok (.aload_n 0, 1) := by decide +kernel
theorem dX8_note_16 : decode cX8_note 16 = .ok (.getfield 18, 3) := by decide +kernel
theorem dX8_note_19 : decode cX8_note 19 = .ok (.iload_n 1, 1) := by decide +kernel
theorem dX8_note_20 : decode cX8_note 20 = .ok (.iastore, 1) := by decide +kernel
theorem dX8_note_21 : decode cX8_note 21 = .ok (.aload_n 0, 1) := by decide +kernel
theorem dX8_note_22 : decode cX8_note 22 = .ok (.getfield 15, 3) := by decide +kernel
theorem dX8_note_25 : decode cX8_note 25 = .ok (.aload_n 0, 1) := by decide +kernel
theorem dX8_note_26 : decode cX8_note 26 = .ok (.getfield 18, 3) := by decide +kernel
theorem dX8_note_29 : decode cX8_note 29 = .ok (.iload_n 2, 1) := by decide +kernel
theorem dX8_note_30 : decode cX8_note 30 = .ok (.iastore, 1) := by decide +kernel
theorem dX8_note_31 : decode cX8_note 31 = .ok (.aload_n 0, 1) := by decide +kernel
theorem dX8_note_32 : decode cX8_note 32 = .ok (.dup, 1) := by decide +kernel
theorem dX8_note_33 : decode cX8_note 33 = .ok (.getfield 18, 3) := by decide +kernel
theorem dX8_note_36 : decode cX8_note 36 = .ok (.iconst 1, 1) := by decide +kernel
theorem dX8_note_37 : decode cX8_note 37 = .ok (.iadd, 1) := by decide +kernel
theorem dX8_note_38 : decode cX8_note 38 = .ok (.putfield 18, 3) := by decide +kernel
theorem dX8_note_41 : decode cX8_note 41 = .ok (.iconst 1, 1) := by decide +kernel
theorem dX8_note_42 : decode cX8_note 42 = .ok (.ireturn, 1) := by decide +kernel
theorem dX8_allSo_0 : decode cX8_allSo 0 = .ok (.iconst 0, 1) := by decide +kernel
theorem dX8_allSo_1 : decode cX8_allSo 1 = .ok (.istore_n 3, 1) := by decide +kernel
theorem dX8_allSo_2 : decode cX8_allSo 2 = .ok (.iload_n 3, 1) := by decide +kernel
theorem dX8_allSo_3 : decode cX8_allSo 3 = .ok (.aload_n 0, 1) := by decide +kernel
theorem dX8_allSo_4 : decode cX8_allSo 4 = .ok (.getfield 18, 3) := by decide +kernel
theorem dX8_allSo_7 : decode cX8_allSo 7 = .ok (.if_icmp .ge 43, 3) := by decide +kernel
theorem dX8_allSo_10 : decode cX8_allSo 10 = .ok (.aload_n 0, 1) := by decide +kernel
theorem dX8_allSo_11 : decode cX8_allSo 11 = .ok (.getfield 9, 3) := by decide +kernel
theorem dX8_allSo_14 : decode cX8_allSo 14 = .ok (.iload_n 3, 1) := by decide +kernel
theorem dX8_allSo_15 : decode cX8_allSo 15 = .ok (.iaload, 1) := by decide +kernel
theorem dX8_allSo_16 : decode cX8_allSo 16 = .ok (.aload_n 1, 1) := by decide +kernel
theorem dX8_allSo_17 : decode cX8_allSo 17 = .ok (.getfield 22, 3) := by decide +kernel
theorem dX8_allSo_20 : decode cX8_allSo 20 = .ok (.if_icmp .ge 22, 3) := by decide +kernel
theorem dX8_allSo_23 : decode cX8_allSo 23 = .ok (.aload_n 2, 1) := by decide +kernel
theorem dX8_allSo_24 : decode cX8_allSo 24 = .ok (.aload_n 0, 1) := by decide +kernel
theorem dX8_allSo_25 : decode cX8_allSo 25 = .ok (.getfield 9, 3) := by decide +kernel
theorem dX8_allSo_28 : decode cX8_allSo 28 = .ok (.iload_n 3, 1) := by decide +kernel
theorem dX8_allSo_29 : decode cX8_allSo 29 = .ok (.iaload, 1) := by decide +kernel
theorem dX8_allSo_30 : decode cX8_allSo 30 = .ok (.invokevirtual 26, 3) := by decide +kernel
theorem dX8_allSo_33 : decode cX8_allSo 33 = .ok (.aload_n 0, 1) := by decide +kernel
theorem dX8_allSo_34 : decode cX8_allSo 34 = .ok (.getfield 15, 3) := by decide +kernel
theorem dX8_allSo_37 : decode cX8_allSo 37 = .ok (.iload_n 3, 1) := by decide +kernel
theorem dX8_allSo_38 : decode cX8_allSo 38 = .ok (.iaload, 1) := by decide +kernel
theorem dX8_allSo_39 : decode cX8_allSo 39 = .ok (.if_icmp .eq 5, 3) := by decide +kernel
theorem dX8_allSo_42 : decode cX8_allSo 42 = .ok (.iconst 0, 1) := by decide +kernel
theorem dX8_allSo_43 : decode cX8_allSo 43 = .ok (.ireturn, 1) := by decide +kernel
theorem dX8_allSo_44 : decode cX8_allSo 44 = .ok (.iinc 3 1, 3) := by decide +kernel
theorem dX8_allSo_47 : decode cX8_allSo 47 = .ok (.goto (-45), 3) := by decide +kernel
theorem dX8_allSo_50 : decode cX8_allSo 50 = .ok (.iconst 1, 1) := by decide +kernel
theorem dX8_allSo_51 : decode cX8_allSo 51 = .ok (.ireturn, 1) := by decide +kernel
theorem dX9_init_0 : decode cX9_init 0 = .ok (.aload_n 0, 1) := by decide +kernel
theorem dX9_init_1 : decode cX9_init 1 = .ok (.invokespecial 3, 3) := by decide +kernel
theorem dX9_init_4 : decode cX9_init 4 = .ok (.aload_n 0, 1) := by decide +kernel
theorem dX9_init_5 : decode cX9_init 5 = .ok (.iconst 0, 1) := by decide +kernel
theorem dX9_init_6 : decode cX9_init 6 = .ok (.putfield 9, 3) := by decide +kernel
theorem dX9_init_9 : decode cX9_init 9 = .ok (.aload_n 0, 1) := by decide +kernel
theorem dX9_init_10 : decode cX9_init 10 = .ok (.iload_n 1, 1) := by decide +kernel
theorem dX9_init_11 : decode cX9_init 11 = .ok (.iconst 0, 1) := by decide +kernel
theorem dX9_init_12 : decode cX9_init 12 = .ok (.invokestatic 15, 3) := by decide +kernel
theorem dX9_init_15 : decode cX9_init 15 = .ok (.newarray .int, 2) := by decide +kernel
theorem dX9_init_17 : decode cX9_init 17 = .ok (.putfield 21, 3) := by decide +kernel
theorem dX9_init_20 : decode cX9_init 20 = .ok (.return_, 1) := by decide +kernel
theorem dX9_append_0 : decode cX9_append 0 = .ok (.aload_n 0, 1) := by decide +kernel
theorem dX9_append_1 : decode cX9_append 1 = .ok (.getfield 9, 3) := by decide +kernel
theorem dX9_append_4 : decode cX9_append 4 = .ok (.aload_n 0, 1) := by decide +kernel
theorem dX9_append_5 : decode cX9_append 5 = .ok (.getfield 21, 3) := by decide +kernel
theorem dX9_append_8 : decode cX9_append 8 = .ok (.arraylength, 1) := by decide +kernel
theorem dX9_append_9 : decode cX9_append 9 = .ok (.if_icmp .lt 5, 3) := by decide +kernel
theorem dX9_append_12 : decode cX9_append 12 = .ok (.iconst 0, 1) := by decide +kernel
theorem dX9_append_13 : decode cX9_append 13 = .ok (.ireturn, 1) := by decide +kernel
theorem dX9_append_14 : decode cX9_append 14 = .ok (.aload_n 0, 1) := by decide +kernel
theorem dX9_append_15 : decode cX9_append 15 = .ok (.getfield 21, 3) := by decide +kernel
theorem dX9_append_18 : decode cX9_append 18 = .ok (.aload_n 0, 1) := by decide +kernel
theorem dX9_append_19 : decode cX9_append 19 = .ok (.getfield 9, 3) := by decide +kernel
theorem dX9_append_22 : decode cX9_append 22 = .ok (.iload_n 1, 1) := by decide +kernel
theorem dX9_append_23 : decode cX9_append 23 = .ok (.iastore, 1) := by decide +kernel
theorem dX9_append_24 : decode cX9_append 24 = .ok (.aload_n 0, 1) := by decide +kernel
theorem dX9_append_25 : decode cX9_append 25 = .ok (.dup, 1) := by decide +kernel
theorem dX9_append_26 : decode cX9_append 26 = .ok (.getfield 9, 3) := by decide +kernel
theorem dX9_append_29 : decode cX9_append 29 = .ok (.iconst 1, 1) := by decide +kernel
theorem dX9_append_30 : decode cX9_append 30 = .ok (.iadd, 1) := by decide +kernel
theorem dX9_append_31 : decode cX9_append 31 = .ok (.putfield 9, 3) := by decide +kernel
theorem dX9_append_34 : decode cX9_append 34 = .ok (.iconst 1, 1) := by decide +kernel
theorem dX9_append_35 : decode cX9_append 35 = .ok (.ireturn, 1) := by decide +kernel
theorem dX9_sign_0 : decode cX9_sign 0 = .ok (.iload_n 1, 1) := by decide +kernel
theorem dX9_sign_1 : decode cX9_sign 1 = .ok (.ifCond .lt 20, 3) := by decide +kernel
theorem dX9_sign_4 : decode cX9_sign 4 = .ok (.iload_n 1, 1) := by decide +kernel
theorem dX9_sign_5 : decode cX9_sign 5 = .ok (.aload_n 0, 1) := by decide +kernel
theorem dX9_sign_6 : decode cX9_sign 6 = .ok (.getfield 9, 3) := by decide +kernel
theorem dX9_sign_9 : decode cX9_sign 9 = .ok (.if_icmp .ge 12, 3) := by decide +kernel
theorem dX9_sign_12 : decode cX9_sign 12 = .ok (.aload_n 0, 1) := by decide +kernel
theorem dX9_sign_13 : decode cX9_sign 13 = .ok (.getfield 21, 3) := by decide +kernel
theorem dX9_sign_16 : decode cX9_sign 16 = .ok (.iload_n 1, 1) := by decide +kernel
theorem dX9_sign_17 : decode cX9_sign 17 = .ok (.iaload, 1) := by decide +kernel
theorem dX9_sign_18 : decode cX9_sign 18 = .ok (.goto 4, 3) := by decide +kernel
theorem dX9_sign_21 : decode cX9_sign 21 = .ok (.iconst (-1), 1) := by decide +kernel
theorem dX9_sign_22 : decode cX9_sign 22 = .ok (.ireturn, 1) := by decide +kernel
theorem dX10_init_0 : decode cX10_init 0 = .ok (.aload_n 0, 1) := by decide +kernel
theorem dX10_init_1 : decode cX10_init 1 = .ok (.invokespecial 3, 3) := by decide +kernel
theorem dX10_init_4 : decode cX10_init 4 = .ok (.aload_n 0, 1) := by decide +kernel
theorem dX10_init_5 : decode cX10_init 5 = .ok (.iconst 0, 1) := by decide +kernel
theorem dX10_init_6 : decode cX10_init 6 = .ok (.putfield 9, 3) := by decide +kernel
theorem dX10_init_9 : decode cX10_init 9 = .ok (.aload_n 0, 1) := by decide +kernel
theorem dX10_init_10 : decode cX10_init 10 = .ok (.bipush 36, 2) := by decide +kernel
theorem dX10_init_12 : decode cX10_init 12 = .ok (.newarray .boolean, 2) := by decide +kernel
theorem dX10_init_14 : decode cX10_init 14 = .ok (.putfield 15, 3) := by decide +kernel
theorem dX10_init_17 : decode cX10_init 17 = .ok (.aload_n 0, 1) := by decide +kernel
theorem dX10_init_18 : decode cX10_init 18 = .ok (.sipush 144, 3) := by decide +kernel
theorem dX10_init_21 : decode cX10_init 21 = .ok (.newarray .int, 2) := by decide +kernel
theorem dX10_init_23 : decode cX10_init 23 = .ok (.putfield 19, 3) := by decide +kernel
theorem dX10_init_26 : decode cX10_init 26 = .ok (.return_, 1) := by decide +kernel
theorem dX10_isOpen_0 : decode cX10_isOpen 0 = .ok (.iload_n 1, 1) := by decide +kernel
theorem dX10_isOpen_1 : decode cX10_isOpen 1 = .ok (.ifCond .lt 24, 3) := by decide +kernel
theorem dX10_isOpen_4 : decode cX10_isOpen 4 = .ok (.iload_n 1, 1) := by decide +kernel
theorem dX10_isOpen_5 : decode cX10_isOpen 5 = .ok (.aload_n 0, 1) := by decide +kernel
theorem dX10_isOpen_6 : decode cX10_isOpen 6 = .ok (.getfield 9, 3) := by decide +kernel
theorem dX10_isOpen_9 : decode cX10_isOpen 9 = .ok (.if_icmp .ge 16, 3) := by decide +kernel
theorem dX10_isOpen_12 : decode cX10_isOpen 12 = .ok (.aload_n 0, 1) := by decide +kernel
theorem dX10_isOpen_13 : decode cX10_isOpen 13 = .ok (.getfield 15, 3) := by decide +kernel
theorem dX10_isOpen_16 : decode cX10_isOpen 16 = .ok (.iload_n 1, 1) := by decide +kernel
theorem dX10_isOpen_17 : decode cX10_isOpen 17 = .ok (.baload, 1) := by decide +kernel
theorem dX10_isOpen_18 : decode cX10_isOpen 18 = .ok (.ifCond .eq 7, 3) := by decide +kernel
theorem dX10_isOpen_21 : decode cX10_isOpen 21 = .ok (.iconst 1, 1) := by decide +kernel
theorem dX10_isOpen_22 : decode cX10_isOpen 22 = .ok (.goto 4, 3) := by decide +kernel
theorem dX10_isOpen_25 : decode cX10_isOpen 25 = .ok (.iconst 0, 1) := by decide +kernel
theorem dX10_isOpen_26 : decode cX10_isOpen 26 = .ok (.ireturn, 1) := by decide +kernel
theorem dX10_reread_0 : decode cX10_reread 0 = .ok (.aload_n 1, 1) := by decide +kernel
theorem dX10_reread_1 : decode cX10_reread 1 = .ok (.invokestatic 23, 3) := by decide +kernel
theorem dX10_reread_4 : decode cX10_reread 4 = .ok (.istore_n 2, 1) := by decide +kernel
theorem dX10_reread_5 : decode cX10_reread 5 = .ok (.iconst 0, 1) := by decide +kernel
theorem dX10_reread_6 : decode cX10_reread 6 = .ok (.istore_n 3, 1) := by decide +kernel
theorem dX10_reread_7 : decode cX10_reread 7 = .ok (.aload_n 0, 1) := by decide +kernel
theorem dX10_reread_8 : decode cX10_reread 8 = .ok (.iconst 0, 1) := by decide +kernel
theorem dX10_reread_9 : decode cX10_reread 9 = .ok (.putfield 9, 3) := by decide +kernel
theorem dX10_reread_12 : decode cX10_reread 12 = .ok (.iload_n 2, 1) := by decide +kernel
theorem dX10_reread_13 : decode cX10_reread 13 = .ok (.iconst (-1), 1) := by decide +kernel
theorem dX10_reread_14 : decode cX10_reread 14 = .ok (.if_icmp .ne 9, 3) := by decide +kernel
theorem dX10_reread_17 : decode cX10_reread 17 = .ok (.aload_n 0, 1) := by decide +kernel
theorem dX10_reread_18 : decode cX10_reread 18 = .ok (.aload_n 1, 1) := by decide +kernel
theorem dX10_reread_19 : decode cX10_reread 19 = .ok (.invokevirtual 27, 3) := by decide +kernel
theorem dX10_reread_22 : decode cX10_reread 22 = .ok (.istore_n 3, 1) := by decide +kernel
theorem dX10_reread_23 : decode cX10_reread 23 = .ok (.iconst 0, 1) := by decide +kernel
theorem dX10_reread_24 : decode cX10_reread 24 = .ok (.istore 4, 2) := by decide +kernel
theorem dX10_reread_26 : decode cX10_reread 26 = .ok (.iload 4, 2) := by decide +kernel
theorem dX10_reread_28 : decode cX10_reread 28 = .ok (.bipush 36, 2) := by decide +kernel
theorem dX10_reread_30 : decode cX10_reread 30 = .ok (.if_icmp .ge 16, 3) := by decide +kernel
theorem dX10_reread_33 : decode cX10_reread 33 = .ok (.aload_n 0, 1) := by decide +kernel
theorem dX10_reread_34 : decode cX10_reread 34 = .ok (.iload 4, 2) := by decide +kernel
theorem dX10_reread_36 : decode cX10_reread 36 = .ok (.iload_n 3, 1) := by decide +kernel
theorem dX10_reread_37 : decode cX10_reread 37 = .ok (.invokevirtual 30, 3) := by decide +kernel
theorem dX10_reread_40 : decode cX10_reread 40 = .ok (.iinc 4 1, 3) := by decide +kernel
theorem dX10_reread_43 : decode cX10_reread 43 = .ok (.goto (-17), 3) := by decide +kernel
theorem dX10_reread_46 : decode cX10_reread 46 = .ok (.iload_n 2, 1) := by decide +kernel
theorem dX10_reread_47 : decode cX10_reread 47 = .ok (.ireturn, 1) := by decide +kernel
theorem dX10_firstFault_0 : decode cX10_firstFault 0 = .ok (.iconst 0, 1) := by decide +kernel
theorem dX10_firstFault_1 : decode cX10_firstFault 1 = .ok (.istore_n 1, 1) := by decide +kernel
theorem dX10_firstFault_2 : decode cX10_firstFault 2 = .ok (.iconst 0, 1) := by decide +kernel
theorem dX10_firstFault_3 : decode cX10_firstFault 3 = .ok (.istore_n 2, 1) := by decide +kernel
theorem dX10_firstFault_4 : decode cX10_firstFault 4 = .ok (.iconst 0, 1) := by decide +kernel
theorem dX10_firstFault_5 : decode cX10_firstFault 5 = .ok (.istore_n 3, 1) := by decide +kernel
theorem dX10_firstFault_6 : decode cX10_firstFault 6 = .ok (.iconst 0, 1) := by decide +kernel
theorem dX10_firstFault_7 : decode cX10_firstFault 7 = .ok (.istore 4, 2) := by decide +kernel
theorem dX10_firstFault_9 : decode cX10_firstFault 9 = .ok (.iload 4, 2) := by decide +kernel
theorem dX10_firstFault_11 : decode cX10_firstFault 11 = .ok (.aload_n 0, 1) := by decide +kernel
theorem dX10_firstFault_12 : decode cX10_firstFault 12 = .ok (.getfield 34, 3) := by decide +kernel
theorem dX10_firstFault_15 : decode cX10_firstFault 15 = .ok (.if_icmp .ge 92, 3) := by decide +kernel
theorem dX10_firstFault_18 : decode cX10_firstFault 18 = .ok (.aload_n 0, 1) := by decide +kernel
theorem dX10_firstFault_19 : decode cX10_firstFault 19 = .ok (.iload 4, 2) := by decide +kernel
theorem dX10_firstFault_21 : decode cX10_firstFault 21 = .ok (.invokevirtual 39, 3) := by decide +kernel
theorem dX10_firstFault_24 : decode cX10_firstFault 24 = .ok (.istore 5, 2) := by decide +kernel
theorem dX10_firstFault_26 : decode cX10_firstFault 26 = .ok (.iload 5, 2) := by decide +kernel
theorem dX10_firstFault_28 : decode cX10_firstFault 28 = .ok (.bipush 59, 2) := by decide +kernel
theorem dX10_firstFault_30 : decode cX10_firstFault 30 = .ok (.if_icmp .ne 25, 3) := by decide +kernel
theorem dX10_firstFault_33 : decode cX10_firstFault 33 = .ok (.iload_n 2, 1) := by decide +kernel
theorem dX10_firstFault_34 : decode cX10_firstFault 34 = .ok (.ifCond .eq 8, 3) := by decide +kernel
theorem dX10_firstFault_37 : decode cX10_firstFault 37 = .ok (.iload_n 2, 1) := by decide +kernel
theorem dX10_firstFault_38 : decode cX10_firstFault 38 = .ok (.iload_n 3, 1) := by decide +kernel
theorem dX10_firstFault_39 : decode cX10_firstFault 39 = .ok (.if_icmp .ge 6, 3) := by decide +kernel
theorem dX10_firstFault_42 : decode cX10_firstFault 42 = .ok (.iload 4, 2) := by decide +kernel
theorem dX10_firstFault_44 : decode cX10_firstFault 44 = .ok (.ireturn, 1) := by decide +kernel
theorem dX10_firstFault_45 : decode cX10_firstFault 45 = .ok (.iload_n 2, 1) := by decide +kernel
theorem dX10_firstFault_46 : decode cX10_firstFault 46 = .ok (.istore_n 3, 1) := by decide +kernel
theorem dX10_firstFault_47 : decode cX10_firstFault 47 = .ok (.iconst 0, 1) := by decide +kernel
theorem dX10_firstFault_48 : decode cX10_firstFault 48 = .ok (.istore_n 2, 1) := by decide +kernel
theorem dX10_firstFault_49 : decode cX10_firstFault 49 = .ok (.iinc 1 1, 3) := by decide +kernel
theorem dX10_firstFault_52 : decode cX10_firstFault 52 = .ok (.goto 49, 3) := by decide +kernel
theorem dX10_firstFault_55 : decode cX10_firstFault 55 = .ok (.iload 5, 2) := by decide +kernel
theorem dX10_firstFault_57 : decode cX10_firstFault 57 = .ok (.bipush 46, 2) := by decide +kernel
theorem dX10_firstFault_59 : decode cX10_firstFault 59 = .ok (.if_icmp .eq 10, 3) := by decide +kernel
theorem dX10_firstFault_62 : decode cX10_firstFault 62 = .ok (.iload 5, 2) := by decide +kernel
theorem dX10_firstFault_64 : decode cX10_firstFault 64 = .ok (.bipush 35, 2) := by decide +kernel
theorem dX10_firstFault_66 : decode cX10_firstFault 66 = .ok (.if_icmp .ne 32, 3) := by decide +kernel
theorem dX10_firstFault_69 : decode cX10_firstFault 69 = .ok (.iload_n 1, 1) := by decide +kernel
theorem dX10_firstFault_70 : decode cX10_firstFault 70 = .ok (.bipush 6, 2) := by decide +kernel
theorem dX10_firstFault_72 : decode cX10_firstFault 72 = .ok (.if_icmp .ge 17, 3) := by decide +kernel
theorem dX10_firstFault_75 : decode cX10_firstFault 75 = .ok (.iload_n 2, 1) := by decide +kernel
theorem dX10_firstFault_76 : decode cX10_firstFault 76 = .ok (.iload_n 1, 1) := by decide +kernel
theorem dX10_firstFault_77 : decode cX10_firstFault 77 = .ok (.ifCond .ne 8, 3) := by decide +kernel
theorem dX10_firstFault_80 : decode cX10_firstFault 80 = .ok (.bipush 6, 2) := by decide +kernel
theorem dX10_firstFault_82 : decode cX10_firstFault 82 = .ok (.goto 4, 3) := by decide +kernel
theorem dX10_firstFault_85 : decode cX10_firstFault 85 = .ok (.iload_n 3, 1) := by decide +kernel
theorem dX10_firstFault_86 : decode cX10_firstFault 86 = .ok (.if_icmp .lt 6, 3) := by decide +kernel
theorem dX10_firstFault_89 : decode cX10_firstFault 89 = .ok (.iload 4, 2) := by decide +kernel
theorem dX10_firstFault_91 : decode cX10_firstFault 91 = .ok (.ireturn, 1) := by decide +kernel
theorem dX10_firstFault_92 : decode cX10_firstFault 92 = .ok (.iinc 2 1, 3) := by decide +kernel
theorem dX10_firstFault_95 : decode cX10_firstFault 95 = .ok (.goto 6, 3) := by decide +kernel
theorem dX10_firstFault_98 : decode cX10_firstFault 98 = .ok (.iload 4, 2) := by decide +kernel
theorem dX10_firstFault_100 : decode cX10_firstFault 100 = .ok (.ireturn, 1) := by decide +kernel
theorem dX10_firstFault_101 : decode cX10_firstFault 101 = .ok (.iinc 4 1, 3) := by decide +kernel
theorem dX10_firstFault_104 : decode cX10_firstFault 104 = .ok (.goto (-95), 3) := by decide +kernel
theorem dX10_firstFault_107 : decode cX10_firstFault 107 = .ok (.iload_n 2, 1) := by decide +kernel
theorem dX10_firstFault_108 : decode cX10_firstFault 108 = .ok (.ifCond .le 12, 3) := by decide +kernel
theorem dX10_firstFault_111 : decode cX10_firstFault 111 = .ok (.iload_n 2, 1) := by decide +kernel
theorem dX10_firstFault_112 : decode cX10_firstFault 112 = .ok (.iload_n 3, 1) := by decide +kernel
theorem dX10_firstFault_113 : decode cX10_firstFault 113 = .ok (.if_icmp .lt 7, 3) := by decide +kernel
theorem dX10_firstFault_116 : decode cX10_firstFault 116 = .ok (.iconst 1, 1) := by decide +kernel
theorem dX10_firstFault_117 : decode cX10_firstFault 117 = .ok (.goto 4, 3) := by decide +kernel
theorem dX10_firstFault_120 : decode cX10_firstFault 120 = .ok (.iconst 0, 1) := by decide +kernel
theorem dX10_firstFault_121 : decode cX10_firstFault 121 = .ok (.istore 4, 2) := by decide +kernel
theorem dX10_firstFault_123 : decode cX10_firstFault 123 = .ok (.iload 4, 2) := by decide +kernel
theorem dX10_firstFault_125 : decode cX10_firstFault 125 = .ok (.ifCond .ne 10, 3) := by decide +kernel
theorem dX10_firstFault_128 : decode cX10_firstFault 128 = .ok (.aload_n 0, 1) := by decide +kernel
theorem dX10_firstFault_129 : decode cX10_firstFault 129 = .ok (.getfield 34, 3) := by decide +kernel
theorem dX10_firstFault_132 : decode cX10_firstFault 132 = .ok (.ifCond .ne 7, 3) := by decide +kernel
theorem dX10_firstFault_135 : decode cX10_firstFault 135 = .ok (.iconst (-1), 1) := by decide +kernel
theorem dX10_firstFault_136 : decode cX10_firstFault 136 = .ok (.goto 7, 3) := by decide +kernel
theorem dX10_firstFault_139 : decode cX10_firstFault 139 = .ok (.aload_n 0, 1) := by decide +kernel
theorem dX10_firstFault_140 : decode cX10_firstFault 140 = .ok (.getfield 34, 3) := by decide +kernel
theorem dX10_firstFault_143 : decode cX10_firstFault 143 = .ok (.ireturn, 1) := by decide +kernel
theorem dX10_fill_0 : decode cX10_fill 0 = .ok (.iconst 0, 1) := by decide +kernel
theorem dX10_fill_1 : decode cX10_fill 1 = .ok (.istore_n 2, 1) := by decide +kernel
theorem dX10_fill_2 : decode cX10_fill 2 = .ok (.iconst 0, 1) := by decide +kernel
theorem dX10_fill_3 : decode cX10_fill 3 = .ok (.istore_n 3, 1) := by decide +kernel
theorem dX10_fill_4 : decode cX10_fill 4 = .ok (.iload_n 3, 1) := by decide +kernel
theorem dX10_fill_5 : decode cX10_fill 5 = .ok (.aload_n 1, 1) := by decide +kernel
theorem dX10_fill_6 : decode cX10_fill 6 = .ok (.getfield 34, 3) := by decide +kernel
theorem dX10_fill_9 : decode cX10_fill 9 = .ok (.if_icmp .ge 79, 3) := by decide +kernel
theorem dX10_fill_12 : decode cX10_fill 12 = .ok (.aload_n 1, 1) := by decide +kernel
theorem dX10_fill_13 : decode cX10_fill 13 = .ok (.iload_n 3, 1) := by decide +kernel
theorem dX10_fill_14 : decode cX10_fill 14 = .ok (.invokevirtual 39, 3) := by decide +kernel
theorem dX10_fill_17 : decode cX10_fill 17 = .ok (.istore 4, 2) := by decide +kernel
theorem dX10_fill_19 : decode cX10_fill 19 = .ok (.iload 4, 2) := by decide +kernel
theorem dX10_fill_21 : decode cX10_fill 21 = .ok (.bipush 59, 2) := by decide +kernel
theorem dX10_fill_23 : decode cX10_fill 23 = .ok (.if_icmp .ne 19, 3) := by decide +kernel
theorem dX10_fill_26 : decode cX10_fill 26 = .ok (.iload_n 2, 1) := by decide +kernel
theorem dX10_fill_27 : decode cX10_fill 27 = .ok (.ifCond .ne 10, 3) := by decide +kernel
theorem dX10_fill_30 : decode cX10_fill 30 = .ok (.aload_n 0, 1) := by decide +kernel
theorem dX10_fill_31 : decode cX10_fill 31 = .ok (.getfield 9, 3) := by decide +kernel
theorem dX10_fill_34 : decode cX10_fill 34 = .ok (.goto 4, 3) := by decide +kernel
theorem dX10_fill_37 : decode cX10_fill 37 = .ok (.iload_n 2, 1) := by decide +kernel
theorem dX10_fill_38 : decode cX10_fill 38 = .ok (.istore_n 2, 1) := by decide +kernel
theorem dX10_fill_39 : decode cX10_fill 39 = .ok (.goto 43, 3) := by decide +kernel
theorem dX10_fill_42 : decode cX10_fill 42 = .ok (.aload_n 0, 1) := by decide +kernel
theorem dX10_fill_43 : decode cX10_fill 43 = .ok (.getfield 9, 3) := by decide +kernel
theorem dX10_fill_46 : decode cX10_fill 46 = .ok (.bipush 36, 2) := by decide +kernel
theorem dX10_fill_48 : decode cX10_fill 48 = .ok (.if_icmp .ge 34, 3) := by decide +kernel
theorem dX10_fill_51 : decode cX10_fill 51 = .ok (.aload_n 0, 1) := by decide +kernel
theorem dX10_fill_52 : decode cX10_fill 52 = .ok (.getfield 15, 3) := by decide +kernel
theorem dX10_fill_55 : decode cX10_fill 55 = .ok (.aload_n 0, 1) := by decide +kernel
theorem dX10_fill_56 : decode cX10_fill 56 = .ok (.getfield 9, 3) := by decide +kernel
theorem dX10_fill_59 : decode cX10_fill 59 = .ok (.iload 4, 2) := by decide +kernel
theorem dX10_fill_61 : decode cX10_fill 61 = .ok (.bipush 46, 2) := by decide +kernel
theorem dX10_fill_63 : decode cX10_fill 63 = .ok (.if_icmp .ne 7, 3) := by decide +kernel
theorem dX10_fill_66 : decode cX10_fill 66 = .ok (.iconst 1, 1) := by decide +kernel
theorem dX10_fill_67 : decode cX10_fill 67 = .ok (.goto 4, 3) := by decide +kernel
theorem dX10_fill_70 : decode cX10_fill 70 = .ok (.iconst 0, 1) := by decide +kernel
theorem dX10_fill_71 : decode cX10_fill 71 = .ok (.bastore, 1) := by decide +kernel
theorem dX10_fill_72 : decode cX10_fill 72 = .ok (.aload_n 0, 1) := by decide +kernel
theorem dX10_fill_73 : decode cX10_fill 73 = .ok (.dup, 1) := by decide +kernel
theorem dX10_fill_74 : decode cX10_fill 74 = .ok (.getfield 9, 3) := by decide +kernel
theorem dX10_fill_77 : decode cX10_fill 77 = .ok (.iconst 1, 1) := by decide +kernel
theorem dX10_fill_78 : decode cX10_fill 78 = .ok (.iadd, 1) := by decide +kernel
theorem dX10_fill_79 : decode cX10_fill 79 = .ok (.putfield 9, 3) := by decide +kernel
theorem dX10_fill_82 : decode cX10_fill 82 = .ok (.iinc 3 1, 3) := by decide +kernel
theorem dX10_fill_85 : decode cX10_fill 85 = .ok (.goto (-81), 3) := by decide +kernel
theorem dX10_fill_88 : decode cX10_fill 88 = .ok (.iload_n 2, 1) := by decide +kernel
theorem dX10_fill_89 : decode cX10_fill 89 = .ok (.ifCond .ne 10, 3) := by decide +kernel
theorem dX10_fill_92 : decode cX10_fill 92 = .ok (.aload_n 0, 1) := by decide +kernel
theorem dX10_fill_93 : decode cX10_fill 93 = .ok (.getfield 9, 3) := by decide +kernel
theorem dX10_fill_96 : decode cX10_fill 96 = .ok (.goto 4, 3) := by decide +kernel
theorem dX10_fill_99 : decode cX10_fill 99 = .ok (.iload_n 2, 1) := by decide +kernel
theorem dX10_fill_100 : decode cX10_fill 100 = .ok (.ireturn, 1) := by decide +kernel
theorem dX10_link_0 : decode cX10_link 0 = .ok (.iload_n 2, 1) := by decide +kernel
theorem dX10_link_1 : decode cX10_link 1 = .ok (.ifCond .le 9, 3) := by decide +kernel
theorem dX10_link_4 : decode cX10_link 4 = .ok (.iload_n 1, 1) := by decide +kernel
theorem dX10_link_5 : decode cX10_link 5 = .ok (.iload_n 2, 1) := by decide +kernel
theorem dX10_link_6 : decode cX10_link 6 = .ok (.irem, 1) := by decide +kernel
theorem dX10_link_7 : decode cX10_link 7 = .ok (.goto 4, 3) := by decide +kernel
theorem dX10_link_10 : decode cX10_link 10 = .ok (.iconst 0, 1) := by decide +kernel
theorem dX10_link_11 : decode cX10_link 11 = .ok (.istore_n 3, 1) := by decide +kernel
theorem dX10_link_12 : decode cX10_link 12 = .ok (.aload_n 0, 1) := by decide +kernel
theorem dX10_link_13 : decode cX10_link 13 = .ok (.iload_n 1, 1) := by decide +kernel
theorem dX10_link_14 : decode cX10_link 14 = .ok (.iconst 0, 1) := by decide +kernel
theorem dX10_link_15 : decode cX10_link 15 = .ok (.iload_n 1, 1) := by decide +kernel
theorem dX10_link_16 : decode cX10_link 16 = .ok (.iload_n 2, 1) := by decide +kernel
theorem dX10_link_17 : decode cX10_link 17 = .ok (.isub, 1) := by decide +kernel
theorem dX10_link_18 : decode cX10_link 18 = .ok (.iconst 1, 1) := by decide +kernel
theorem dX10_link_19 : decode cX10_link 19 = .ok (.invokevirtual 43, 3) := by decide +kernel
theorem dX10_link_22 : decode cX10_link 22 = .ok (.aload_n 0, 1) := by decide +kernel
theorem dX10_link_23 : decode cX10_link 23 = .ok (.iload_n 1, 1) := by decide +kernel
theorem dX10_link_24 : decode cX10_link 24 = .ok (.iconst 1, 1) := by decide +kernel
theorem dX10_link_25 : decode cX10_link 25 = .ok (.iload_n 1, 1) := by decide +kernel
theorem dX10_link_26 : decode cX10_link 26 = .ok (.iconst 1, 1) := by decide +kernel
theorem dX10_link_27 : decode cX10_link 27 = .ok (.iadd, 1) := by decide +kernel
theorem dX10_link_28 : decode cX10_link 28 = .ok (.iload_n 3, 1) := by decide +kernel
theorem dX10_link_29 : decode cX10_link 29 = .ok (.iload_n 2, 1) := by decide +kernel
theorem dX10_link_30 : decode cX10_link 30 = .ok (.iconst 1, 1) := by decide +kernel
theorem dX10_link_31 : decode cX10_link 31 = .ok (.isub, 1) := by decide +kernel
theorem dX10_link_32 : decode cX10_link 32 = .ok (.if_icmp .ge 7, 3) := by decide +kernel
theorem dX10_link_35 : decode cX10_link 35 = .ok (.iconst 1, 1) := by decide +kernel
theorem dX10_link_36 : decode cX10_link 36 = .ok (.goto 4, 3) := by decide +kernel
theorem dX10_link_39 : decode cX10_link 39 = .ok (.iconst 0, 1) := by decide +kernel
theorem dX10_link_40 : decode cX10_link 40 = .ok (.invokevirtual 43, 3) := by decide +kernel
theorem dX10_link_43 : decode cX10_link 43 = .ok (.aload_n 0, 1) := by decide +kernel
theorem dX10_link_44 : decode cX10_link 44 = .ok (.iload_n 1, 1) := by decide +kernel
theorem dX10_link_45 : decode cX10_link 45 = .ok (.iconst 2, 1) := by decide +kernel
theorem dX10_link_46 : decode cX10_link 46 = .ok (.iload_n 1, 1) := by decide +kernel
theorem dX10_link_47 : decode cX10_link 47 = .ok (.iload_n 2, 1) := by decide +kernel
theorem dX10_link_48 : decode cX10_link 48 = .ok (.iadd, 1) := by decide +kernel
theorem dX10_link_49 : decode cX10_link 49 = .ok (.iconst 1, 1) := by decide +kernel
theorem dX10_link_50 : decode cX10_link 50 = .ok (.invokevirtual 43, 3) := by decide +kernel
theorem dX10_link_53 : decode cX10_link 53 = .ok (.aload_n 0, 1) := by decide +kernel
theorem dX10_link_54 : decode cX10_link 54 = .ok (.iload_n 1, 1) := by decide +kernel
theorem dX10_link_55 : decode cX10_link 55 = .ok (.iconst 3, 1) := by decide +kernel
theorem dX10_link_56 : decode cX10_link 56 = .ok (.iload_n 1, 1) := by decide +kernel
theorem dX10_link_57 : decode cX10_link 57 = .ok (.iconst 1, 1) := by decide +kernel
theorem dX10_link_58 : decode cX10_link 58 = .ok (.isub, 1) := by decide +kernel
theorem dX10_link_59 : decode cX10_link 59 = .ok (.iload_n 3, 1) := by decide +kernel
theorem dX10_link_60 : decode cX10_link 60 = .ok (.ifCond .le 7, 3) := by decide +kernel
theorem dX10_link_63 : decode cX10_link 63 = .ok (.iconst 1, 1) := by decide +kernel
theorem dX10_link_64 : decode cX10_link 64 = .ok (.goto 4, 3) := by decide +kernel
theorem dX10_link_67 : decode cX10_link 67 = .ok (.iconst 0, 1) := by decide +kernel
theorem dX10_link_68 : decode cX10_link 68 = .ok (.invokevirtual 43, 3) := by decide +kernel
theorem dX10_link_71 : decode cX10_link 71 = .ok (.return_, 1) := by decide +kernel
theorem dX10_link__0 : decode cX10_link_ 0 = .ok (.aload_n 0, 1) := by decide +kernel
theorem dX10_link__1 : decode cX10_link_ 1 = .ok (.getfield 19, 3) := by decide +kernel
theorem dX10_link__4 : decode cX10_link_ 4 = .ok (.iload_n 1, 1) := by decide +kernel
theorem dX10_link__5 : decode cX10_link_ 5 = .ok (.iconst 4, 1) := by decide +kernel
theorem dX10_link__6 : decode cX10_link_ 6 = .ok (.imul, 1) := by decide +kernel
theorem dX10_link__7 : decode cX10_link_ 7 = .ok (.iload_n 2, 1) := by decide +kernel
theorem dX10_link__8 : decode cX10_link_ 8 = .ok (.iadd, 1) := by decide +kernel
theorem dX10_link__9 : decode cX10_link_ 9 = .ok (.iload_n 1, 1) := by decide +kernel
theorem dX10_link__10 : decode cX10_link_ 10 = .ok (.aload_n 0, 1) := by decide +kernel
theorem dX10_link__11 : decode cX10_link_ 11 = .ok (.getfield 9, 3) := by decide +kernel
theorem dX10_link__14 : decode cX10_link_ 14 = .ok (.if_icmp .ge 20, 3) := by decide +kernel
theorem dX10_link__17 : decode cX10_link_ 17 = .ok (.iload 4, 2) := by decide +kernel
theorem dX10_link__19 : decode cX10_link_ 19 = .ok (.ifCond .eq 15, 3) := by decide +kernel
theorem dX10_link__22 : decode cX10_link_ 22 = .ok (.aload_n 0, 1) := by decide +kernel
theorem dX10_link__23 : decode cX10_link_ 23 = .ok (.iload_n 3, 1) := by decide +kernel
theorem dX10_link__24 : decode cX10_link_ 24 = .ok (.invokevirtual 46, 3) := by decide +kernel
theorem dX10_link__27 : decode cX10_link_ 27 = .ok (.ifCond .eq 7, 3) := by decide +kernel
theorem dX10_link__30 : decode cX10_link_ 30 = .ok (.iload_n 3, 1) := by decide +kernel
theorem dX10_link__31 : decode cX10_link_ 31 = .ok (.goto 4, 3) := by decide +kernel
theorem dX10_link__34 : decode cX10_link_ 34 = .ok (.iconst (-1), 1) := by decide +kernel
theorem dX10_link__35 : decode cX10_link_ 35 = .ok (.iastore, 1) := by decide +kernel
theorem dX10_link__36 : decode cX10_link_ 36 = .ok (.return_, 1) := by decide +kernel
theorem dJ6_bitCount_0f7a4_0 : decode cJ6_bitCount_0f7a4 0 = .ok (.iload_n 0, 1) := by decide +kernel
theorem dJ6_bitCount_0f7a4_1 : decode cJ6_bitCount_0f7a4 1 = .ok (.iload_n 0, 1) := by decide +kernel
theorem dJ6_bitCount_0f7a4_2 : decode cJ6_bitCount_0f7a4 2 = .ok (.iconst 1, 1) := by decide +kernel
theorem dJ6_bitCount_0f7a4_3 : decode cJ6_bitCount_0f7a4 3 = .ok (.iushr, 1) := by decide +kernel
theorem dJ6_bitCount_0f7a4_4 : decode cJ6_bitCount_0f7a4 4 = .ok (.ldc_w 265, 3) := by decide +kernel
theorem dJ6_bitCount_0f7a4_7 : decode cJ6_bitCount_0f7a4 7 = .ok (.iand, 1) := by decide +kernel
theorem dJ6_bitCount_0f7a4_8 : decode cJ6_bitCount_0f7a4 8 = .ok (.isub, 1) := by decide +kernel
theorem dJ6_bitCount_0f7a4_9 : decode cJ6_bitCount_0f7a4 9 = .ok (.istore_n 0, 1) := by decide +kernel
theorem dJ6_bitCount_0f7a4_10 : decode cJ6_bitCount_0f7a4 10 = .ok (.iload_n 0, 1) := by decide +kernel
theorem dJ6_bitCount_0f7a4_11 : decode cJ6_bitCount_0f7a4 11 = .ok (.ldc_w 266, 3) := by decide +kernel
theorem dJ6_bitCount_0f7a4_14 : decode cJ6_bitCount_0f7a4 14 = .ok (.iand, 1) := by decide +kernel
theorem dJ6_bitCount_0f7a4_15 : decode cJ6_bitCount_0f7a4 15 = .ok (.iload_n 0, 1) := by decide +kernel
theorem dJ6_bitCount_0f7a4_16 : decode cJ6_bitCount_0f7a4 16 = .ok (.iconst 2, 1) := by decide +kernel
theorem dJ6_bitCount_0f7a4_17 : decode cJ6_bitCount_0f7a4 17 = .ok (.iushr, 1) := by decide +kernel
theorem dJ6_bitCount_0f7a4_18 : decode cJ6_bitCount_0f7a4 18 = .ok (.ldc_w 266, 3) := by decide +kernel
theorem dJ6_bitCount_0f7a4_21 : decode cJ6_bitCount_0f7a4 21 = .ok (.iand, 1) := by decide +kernel
theorem dJ6_bitCount_0f7a4_22 : decode cJ6_bitCount_0f7a4 22 = .ok (.iadd, 1) := by decide +kernel
theorem dJ6_bitCount_0f7a4_23 : decode cJ6_bitCount_0f7a4 23 = .ok (.istore_n 0, 1) := by decide +kernel
theorem dJ6_bitCount_0f7a4_24 : decode cJ6_bitCount_0f7a4 24 = .ok (.iload_n 0, 1) := by decide +kernel
theorem dJ6_bitCount_0f7a4_25 : decode cJ6_bitCount_0f7a4 25 = .ok (.iload_n 0, 1) := by decide +kernel
theorem dJ6_bitCount_0f7a4_26 : decode cJ6_bitCount_0f7a4 26 = .ok (.iconst 4, 1) := by decide +kernel
theorem dJ6_bitCount_0f7a4_27 : decode cJ6_bitCount_0f7a4 27 = .ok (.iushr, 1) := by decide +kernel
theorem dJ6_bitCount_0f7a4_28 : decode cJ6_bitCount_0f7a4 28 = .ok (.iadd, 1) := by decide +kernel
theorem dJ6_bitCount_0f7a4_29 : decode cJ6_bitCount_0f7a4 29 = .ok (.ldc_w 267, 3) := by decide +kernel
theorem dJ6_bitCount_0f7a4_32 : decode cJ6_bitCount_0f7a4 32 = .ok (.iand, 1) := by decide +kernel
theorem dJ6_bitCount_0f7a4_33 : decode cJ6_bitCount_0f7a4 33 = .ok (.istore_n 0, 1) := by decide +kernel
theorem dJ6_bitCount_0f7a4_34 : decode cJ6_bitCount_0f7a4 34 = .ok (.iload_n 0, 1) := by decide +kernel
theorem dJ6_bitCount_0f7a4_35 : decode cJ6_bitCount_0f7a4 35 = .ok (.iload_n 0, 1) := by decide +kernel
theorem dJ6_bitCount_0f7a4_36 : decode cJ6_bitCount_0f7a4 36 = .ok (.bipush 8, 2) := by decide +kernel
theorem dJ6_bitCount_0f7a4_38 : decode cJ6_bitCount_0f7a4 38 = .ok (.iushr, 1) := by decide +kernel
theorem dJ6_bitCount_0f7a4_39 : decode cJ6_bitCount_0f7a4 39 = .ok (.iadd, 1) := by decide +kernel
theorem dJ6_bitCount_0f7a4_40 : decode cJ6_bitCount_0f7a4 40 = .ok (.istore_n 0, 1) := by decide +kernel
theorem dJ6_bitCount_0f7a4_41 : decode cJ6_bitCount_0f7a4 41 = .ok (.iload_n 0, 1) := by decide +kernel
theorem dJ6_bitCount_0f7a4_42 : decode cJ6_bitCount_0f7a4 42 = .ok (.iload_n 0, 1) := by decide +kernel
theorem dJ6_bitCount_0f7a4_43 : decode cJ6_bitCount_0f7a4 43 = .ok (.bipush 16, 2) := by decide +kernel
theorem dJ6_bitCount_0f7a4_45 : decode cJ6_bitCount_0f7a4 45 = .ok (.iushr, 1) := by decide +kernel
theorem dJ6_bitCount_0f7a4_46 : decode cJ6_bitCount_0f7a4 46 = .ok (.iadd, 1) := by decide +kernel
theorem dJ6_bitCount_0f7a4_47 : decode cJ6_bitCount_0f7a4 47 = .ok (.istore_n 0, 1) := by decide +kernel
theorem dJ6_bitCount_0f7a4_48 : decode cJ6_bitCount_0f7a4 48 = .ok (.iload_n 0, 1) := by decide +kernel
theorem dJ6_bitCount_0f7a4_49 : decode cJ6_bitCount_0f7a4 49 = .ok (.bipush 63, 2) := by decide +kernel
theorem dJ6_bitCount_0f7a4_51 : decode cJ6_bitCount_0f7a4 51 = .ok (.iand, 1) := by decide +kernel
theorem dJ6_bitCount_0f7a4_52 : decode cJ6_bitCount_0f7a4 52 = .ok (.ireturn, 1) := by decide +kernel
theorem dJ13_bitCount_95d88_0 : decode cJ13_bitCount_95d88 0 = .ok (.lload_n 0, 1) := by decide +kernel
theorem dJ13_bitCount_95d88_1 : decode cJ13_bitCount_95d88 1 = .ok (.lload_n 0, 1) := by decide +kernel
theorem dJ13_bitCount_95d88_2 : decode cJ13_bitCount_95d88 2 = .ok (.iconst 1, 1) := by decide +kernel
theorem dJ13_bitCount_95d88_3 : decode cJ13_bitCount_95d88 3 = .ok (.lushr, 1) := by decide +kernel
theorem dJ13_bitCount_95d88_4 : decode cJ13_bitCount_95d88 4 = .ok (.ldc2_w 314, 3) := by decide +kernel
theorem dJ13_bitCount_95d88_7 : decode cJ13_bitCount_95d88 7 = .ok (.land, 1) := by decide +kernel
theorem dJ13_bitCount_95d88_8 : decode cJ13_bitCount_95d88 8 = .ok (.lsub, 1) := by decide +kernel
theorem dJ13_bitCount_95d88_9 : decode cJ13_bitCount_95d88 9 = .ok (.lstore_n 0, 1) := by decide +kernel
theorem dJ13_bitCount_95d88_10 : decode cJ13_bitCount_95d88 10 = .ok (.lload_n 0, 1) := by decide +kernel
theorem dJ13_bitCount_95d88_11 : decode cJ13_bitCount_95d88 11 = .ok (.ldc2_w 316, 3) := by decide +kernel
theorem dJ13_bitCount_95d88_14 : decode cJ13_bitCount_95d88 14 = .ok (.land, 1) := by decide +kernel
theorem dJ13_bitCount_95d88_15 : decode cJ13_bitCount_95d88 15 = .ok (.lload_n 0, 1) := by decide +kernel
theorem dJ13_bitCount_95d88_16 : decode cJ13_bitCount_95d88 16 = .ok (.iconst 2, 1) := by decide +kernel
theorem dJ13_bitCount_95d88_17 : decode cJ13_bitCount_95d88 17 = .ok (.lushr, 1) := by decide +kernel
theorem dJ13_bitCount_95d88_18 : decode cJ13_bitCount_95d88 18 = .ok (.ldc2_w 316, 3) := by decide +kernel
theorem dJ13_bitCount_95d88_21 : decode cJ13_bitCount_95d88 21 = .ok (.land, 1) := by decide +kernel
theorem dJ13_bitCount_95d88_22 : decode cJ13_bitCount_95d88 22 = .ok (.ladd, 1) := by decide +kernel
theorem dJ13_bitCount_95d88_23 : decode cJ13_bitCount_95d88 23 = .ok (.lstore_n 0, 1) := by decide +kernel
theorem dJ13_bitCount_95d88_24 : decode cJ13_bitCount_95d88 24 = .ok (.lload_n 0, 1) := by decide +kernel
theorem dJ13_bitCount_95d88_25 : decode cJ13_bitCount_95d88 25 = .ok (.lload_n 0, 1) := by decide +kernel
theorem dJ13_bitCount_95d88_26 : decode cJ13_bitCount_95d88 26 = .ok (.iconst 4, 1) := by decide +kernel
theorem dJ13_bitCount_95d88_27 : decode cJ13_bitCount_95d88 27 = .ok (.lushr, 1) := by decide +kernel
theorem dJ13_bitCount_95d88_28 : decode cJ13_bitCount_95d88 28 = .ok (.ladd, 1) := by decide +kernel
theorem dJ13_bitCount_95d88_29 : decode cJ13_bitCount_95d88 29 = .ok (.ldc2_w 318, 3) := by decide +kernel
theorem dJ13_bitCount_95d88_32 : decode cJ13_bitCount_95d88 32 = .ok (.land, 1) := by decide +kernel
theorem dJ13_bitCount_95d88_33 : decode cJ13_bitCount_95d88 33 = .ok (.lstore_n 0, 1) := by decide +kernel
theorem dJ13_bitCount_95d88_34 : decode cJ13_bitCount_95d88 34 = .ok (.lload_n 0, 1) := by decide +kernel
theorem dJ13_bitCount_95d88_35 : decode cJ13_bitCount_95d88 35 = .ok (.lload_n 0, 1) := by decide +kernel
theorem dJ13_bitCount_95d88_36 : decode cJ13_bitCount_95d88 36 = .ok (.bipush 8, 2) := by decide +kernel
theorem dJ13_bitCount_95d88_38 : decode cJ13_bitCount_95d88 38 = .ok (.lushr, 1) := by decide +kernel
theorem dJ13_bitCount_95d88_39 : decode cJ13_bitCount_95d88 39 = .ok (.ladd, 1) := by decide +kernel
theorem dJ13_bitCount_95d88_40 : decode cJ13_bitCount_95d88 40 = .ok (.lstore_n 0, 1) := by decide +kernel
theorem dJ13_bitCount_95d88_41 : decode cJ13_bitCount_95d88 41 = .ok (.lload_n 0, 1) := by decide +kernel
theorem dJ13_bitCount_95d88_42 : decode cJ13_bitCount_95d88 42 = .ok (.lload_n 0, 1) := by decide +kernel
theorem dJ13_bitCount_95d88_43 : decode cJ13_bitCount_95d88 43 = .ok (.bipush 16, 2) := by decide +kernel
theorem dJ13_bitCount_95d88_45 : decode cJ13_bitCount_95d88 45 = .ok (.lushr, 1) := by decide +kernel
theorem dJ13_bitCount_95d88_46 : decode cJ13_bitCount_95d88 46 = .ok (.ladd, 1) := by decide +kernel
theorem dJ13_bitCount_95d88_47 : decode cJ13_bitCount_95d88 47 = .ok (.lstore_n 0, 1) := by decide +kernel
theorem dJ13_bitCount_95d88_48 : decode cJ13_bitCount_95d88 48 = .ok (.lload_n 0, 1) := by decide +kernel
theorem dJ13_bitCount_95d88_49 : decode cJ13_bitCount_95d88 49 = .ok (.lload_n 0, 1) := by decide +kernel
theorem dJ13_bitCount_95d88_50 : decode cJ13_bitCount_95d88 50 = .ok (.bipush 32, 2) := by decide +kernel
theorem dJ13_bitCount_95d88_52 : decode cJ13_bitCount_95d88 52 = .ok (.lushr, 1) := by decide +kernel
theorem dJ13_bitCount_95d88_53 : decode cJ13_bitCount_95d88 53 = .ok (.ladd, 1) := by decide +kernel
theorem dJ13_bitCount_95d88_54 : decode cJ13_bitCount_95d88 54 = .ok (.lstore_n 0, 1) := by decide +kernel
theorem dJ13_bitCount_95d88_55 : decode cJ13_bitCount_95d88 55 = .ok (.lload_n 0, 1) := by decide +kernel
theorem dJ13_bitCount_95d88_56 : decode cJ13_bitCount_95d88 56 = .ok (.l2i, 1) := by decide +kernel
theorem dJ13_bitCount_95d88_57 : decode cJ13_bitCount_95d88 57 = .ok (.bipush 127, 2) := by decide +kernel
theorem dJ13_bitCount_95d88_59 : decode cJ13_bitCount_95d88 59 = .ok (.iand, 1) := by decide +kernel
theorem dJ13_bitCount_95d88_60 : decode cJ13_bitCount_95d88 60 = .ok (.ireturn, 1) := by decide +kernel
theorem dJ9_max_7cf53_0 : decode cJ9_max_7cf53 0 = .ok (.iload_n 0, 1) := by decide +kernel
theorem dJ9_max_7cf53_1 : decode cJ9_max_7cf53 1 = .ok (.iload_n 1, 1) := by decide +kernel
theorem dJ9_max_7cf53_2 : decode cJ9_max_7cf53 2 = .ok (.if_icmp .lt 7, 3) := by decide +kernel
theorem dJ9_max_7cf53_5 : decode cJ9_max_7cf53 5 = .ok (.iload_n 0, 1) := by decide +kernel
theorem dJ9_max_7cf53_6 : decode cJ9_max_7cf53 6 = .ok (.goto 4, 3) := by decide +kernel
theorem dJ9_max_7cf53_9 : decode cJ9_max_7cf53 9 = .ok (.iload_n 1, 1) := by decide +kernel
theorem dJ9_max_7cf53_10 : decode cJ9_max_7cf53 10 = .ok (.ireturn, 1) := by decide +kernel
theorem dJ9_min_7cf53_0 : decode cJ9_min_7cf53 0 = .ok (.iload_n 0, 1) := by decide +kernel
theorem dJ9_min_7cf53_1 : decode cJ9_min_7cf53 1 = .ok (.iload_n 1, 1) := by decide +kernel
theorem dJ9_min_7cf53_2 : decode cJ9_min_7cf53 2 = .ok (.if_icmp .gt 7, 3) := by decide +kernel
theorem dJ9_min_7cf53_5 : decode cJ9_min_7cf53 5 = .ok (.iload_n 0, 1) := by decide +kernel
theorem dJ9_min_7cf53_6 : decode cJ9_min_7cf53 6 = .ok (.goto 4, 3) := by decide +kernel
theorem dJ9_min_7cf53_9 : decode cJ9_min_7cf53 9 = .ok (.iload_n 1, 1) := by decide +kernel
theorem dJ9_min_7cf53_10 : decode cJ9_min_7cf53 10 = .ok (.ireturn, 1) := by decide +kernel
theorem dJ7_fill_d0a16_0 : decode cJ7_fill_d0a16 0 = .ok (.iconst 0, 1) := by decide +kernel
theorem dJ7_fill_d0a16_1 : decode cJ7_fill_d0a16 1 = .ok (.istore_n 3, 1) := by decide +kernel
theorem dJ7_fill_d0a16_2 : decode cJ7_fill_d0a16 2 = .ok (.aload_n 0, 1) := by decide +kernel
theorem dJ7_fill_d0a16_3 : decode cJ7_fill_d0a16 3 = .ok (.arraylength, 1) := by decide +kernel
theorem dJ7_fill_d0a16_4 : decode cJ7_fill_d0a16 4 = .ok (.istore 4, 2) := by decide +kernel
theorem dJ7_fill_d0a16_6 : decode cJ7_fill_d0a16 6 = .ok (.iload_n 3, 1) := by decide +kernel
theorem dJ7_fill_d0a16_7 : decode cJ7_fill_d0a16 7 = .ok (.iload 4, 2) := by decide +kernel
theorem dJ7_fill_d0a16_9 : decode cJ7_fill_d0a16 9 = .ok (.if_icmp .ge 13, 3) := by decide +kernel
theorem dJ7_fill_d0a16_12 : decode cJ7_fill_d0a16 12 = .ok (.aload_n 0, 1) := by decide +kernel
theorem dJ7_fill_d0a16_13 : decode cJ7_fill_d0a16 13 = .ok (.iload_n 3, 1) := by decide +kernel
theorem dJ7_fill_d0a16_14 : decode cJ7_fill_d0a16 14 = .ok (.lload_n 1, 1) := by decide +kernel
theorem dJ7_fill_d0a16_15 : decode cJ7_fill_d0a16 15 = .ok (.lastore, 1) := by decide +kernel
theorem dJ7_fill_d0a16_16 : decode cJ7_fill_d0a16 16 = .ok (.iinc 3 1, 3) := by decide +kernel
theorem dJ7_fill_d0a16_19 : decode cJ7_fill_d0a16 19 = .ok (.goto (-13), 3) := by decide +kernel
theorem dJ7_fill_d0a16_22 : decode cJ7_fill_d0a16 22 = .ok (.return_, 1) := by decide +kernel
theorem dJ7_fill_53178_0 : decode cJ7_fill_53178 0 = .ok (.iconst 0, 1) := by decide +kernel
theorem dJ7_fill_53178_1 : decode cJ7_fill_53178 1 = .ok (.istore_n 2, 1) := by decide +kernel
theorem dJ7_fill_53178_2 : decode cJ7_fill_53178 2 = .ok (.aload_n 0, 1) := by decide +kernel
theorem dJ7_fill_53178_3 : decode cJ7_fill_53178 3 = .ok (.arraylength, 1) := by decide +kernel
theorem dJ7_fill_53178_4 : decode cJ7_fill_53178 4 = .ok (.istore_n 3, 1) := by decide +kernel
theorem dJ7_fill_53178_5 : decode cJ7_fill_53178 5 = .ok (.iload_n 2, 1) := by decide +kernel
theorem dJ7_fill_53178_6 : decode cJ7_fill_53178 6 = .ok (.iload_n 3, 1) := by decide +kernel
theorem dJ7_fill_53178_7 : decode cJ7_fill_53178 7 = .ok (.if_icmp .ge 13, 3) := by decide +kernel
theorem dJ7_fill_53178_10 : decode cJ7_fill_53178 10 = .ok (.aload_n 0, 1) := by decide +kernel
theorem dJ7_fill_53178_11 : decode cJ7_fill_53178 11 = .ok (.iload_n 2, 1) := by decide +kernel
theorem dJ7_fill_53178_12 : decode cJ7_fill_53178 12 = .ok (.iload_n 1, 1) := by decide +kernel
theorem dJ7_fill_53178_13 : decode cJ7_fill_53178 13 = .ok (.iastore, 1) := by decide +kernel
theorem dJ7_fill_53178_14 : decode cJ7_fill_53178 14 = .ok (.iinc 2 1, 3) := by decide +kernel
theorem dJ7_fill_53178_17 : decode cJ7_fill_53178 17 = .ok (.goto (-12), 3) := by decide +kernel
theorem dJ7_fill_53178_20 : decode cJ7_fill_53178 20 = .ok (.return_, 1) := by decide +kernel
