theorem dX11_safeGate_0 : decode cX11_safeGate 0 = .ok (.bipush 40, 2) := by decide +kernel
theorem dX11_safeGate_2 : decode cX11_safeGate 2 = .ok (.istore_n 1, 1) := by decide +kernel
theorem dX11_safeGate_3 : decode cX11_safeGate 3 = .ok (.iload_n 1, 1) := by decide +kernel
theorem dX11_safeGate_4 : decode cX11_safeGate 4 = .ok (.ifCond .lt 19, 3) := by decide +kernel
theorem dX11_safeGate_7 : decode cX11_safeGate 7 = .ok (.aload_n 0, 1) := by decide +kernel
theorem dX11_safeGate_8 : decode cX11_safeGate 8 = .ok (.iload_n 1, 1) := by decide +kernel
theorem dX11_safeGate_9 : decode cX11_safeGate 9 = .ok (.invokevirtual 364, 3) := by decide +kernel
theorem dX11_safeGate_12 : decode cX11_safeGate 12 = .ok (.ifCond .eq 5, 3) := by decide +kernel
theorem dX11_safeGate_15 : decode cX11_safeGate 15 = .ok (.iload_n 1, 1) := by decide +kernel
theorem dX11_safeGate_16 : decode cX11_safeGate 16 = .ok (.ireturn, 1) := by decide +kernel
theorem dX11_safeGate_17 : decode cX11_safeGate 17 = .ok (.iinc 1 (-1), 3) := by decide +kernel
theorem dX11_safeGate_20 : decode cX11_safeGate 20 = .ok (.goto (-17), 3) := by decide +kernel
theorem dX11_safeGate_23 : decode cX11_safeGate 23 = .ok (.bipush (-2), 2) := by decide +kernel
theorem dX11_safeGate_25 : decode cX11_safeGate 25 = .ok (.ireturn, 1) := by decide +kernel
theorem dX11_isSafeGate_0 : decode cX11_isSafeGate 0 = .ok (.iconst 0, 1) := by decide +kernel
theorem dX11_isSafeGate_1 : decode cX11_isSafeGate 1 = .ok (.istore_n 2, 1) := by decide +kernel
theorem dX11_isSafeGate_2 : decode cX11_isSafeGate 2 = .ok (.iload_n 2, 1) := by decide +kernel
theorem dX11_isSafeGate_3 : decode cX11_isSafeGate 3 = .ok (.bipush 9, 2) := by decide +kernel
theorem dX11_isSafeGate_5 : decode cX11_isSafeGate 5 = .ok (.if_icmp .gt 76, 3) := by decide +kernel
theorem dX11_isSafeGate_8 : decode cX11_isSafeGate 8 = .ok (.aload_n 0, 1) := by decide +kernel
theorem dX11_isSafeGate_9 : decode cX11_isSafeGate 9 = .ok (.getfield 49, 3) := by decide +kernel
theorem dX11_isSafeGate_12 : decode cX11_isSafeGate 12 = .ok (.aload_n 0, 1) := by decide +kernel
theorem dX11_isSafeGate_13 : decode cX11_isSafeGate 13 = .ok (.getfield 56, 3) := by decide +kernel
theorem dX11_isSafeGate_16 : decode cX11_isSafeGate 16 = .ok (.getfield 126, 3) := by decide +kernel
theorem dX11_isSafeGate_19 : decode cX11_isSafeGate 19 = .ok (.iload_n 2, 1) := by decide +kernel
theorem dX11_isSafeGate_20 : decode cX11_isSafeGate 20 = .ok (.iadd, 1) := by decide +kernel
theorem dX11_isSafeGate_21 : decode cX11_isSafeGate 21 = .ok (.invokevirtual 142, 3) := by decide +kernel
theorem dX11_isSafeGate_24 : decode cX11_isSafeGate 24 = .ok (.iconst 0, 1) := by decide +kernel
theorem dX11_isSafeGate_25 : decode cX11_isSafeGate 25 = .ok (.istore_n 3, 1) := by decide +kernel
theorem dX11_isSafeGate_26 : decode cX11_isSafeGate 26 = .ok (.iload_n 3, 1) := by decide +kernel
theorem dX11_isSafeGate_27 : decode cX11_isSafeGate 27 = .ok (.aload_n 0, 1) := by decide +kernel
theorem dX11_isSafeGate_28 : decode cX11_isSafeGate 28 = .ok (.getfield 41, 3) := by decide +kernel
theorem dX11_isSafeGate_31 : decode cX11_isSafeGate 31 = .ok (.getfield 216, 3) := by decide +kernel
theorem dX11_isSafeGate_34 : decode cX11_isSafeGate 34 = .ok (.getfield 239, 3) := by decide +kernel
theorem dX11_isSafeGate_37 : decode cX11_isSafeGate 37 = .ok (.if_icmp .ge 38, 3) := by decide +kernel
theorem dX11_isSafeGate_40 : decode cX11_isSafeGate 40 = .ok (.aload_n 0, 1) := by decide +kernel
theorem dX11_isSafeGate_41 : decode cX11_isSafeGate 41 = .ok (.getfield 49, 3) := by decide +kernel
theorem dX11_isSafeGate_44 : decode cX11_isSafeGate 44 = .ok (.iload_n 3, 1) := by decide +kernel
theorem dX11_isSafeGate_45 : decode cX11_isSafeGate 45 = .ok (.iconst 0, 1) := by decide +kernel
theorem dX11_isSafeGate_46 : decode cX11_isSafeGate 46 = .ok (.iload_n 1, 1) := by decide +kernel
theorem dX11_isSafeGate_47 : decode cX11_isSafeGate 47 = .ok (.aload_n 0, 1) := by decide +kernel
theorem dX11_isSafeGate_48 : decode cX11_isSafeGate 48 = .ok (.getfield 56, 3) := by decide +kernel
theorem dX11_isSafeGate_51 : decode cX11_isSafeGate 51 = .ok (.getfield 139, 3) := by decide +kernel
theorem dX11_isSafeGate_54 : decode cX11_isSafeGate 54 = .ok (.invokevirtual 245, 3) := by decide +kernel
theorem dX11_isSafeGate_57 : decode cX11_isSafeGate 57 = .ok (.aload_n 0, 1) := by decide +kernel
theorem dX11_isSafeGate_58 : decode cX11_isSafeGate 58 = .ok (.getfield 41, 3) := by decide +kernel
theorem dX11_isSafeGate_61 : decode cX11_isSafeGate 61 = .ok (.getfield 331, 3) := by decide +kernel
theorem dX11_isSafeGate_64 : decode cX11_isSafeGate 64 = .ok (.if_icmp .le 5, 3) := by decide +kernel
theorem dX11_isSafeGate_67 : decode cX11_isSafeGate 67 = .ok (.iconst 0, 1) := by decide +kernel
theorem dX11_isSafeGate_68 : decode cX11_isSafeGate 68 = .ok (.ireturn, 1) := by decide +kernel
theorem dX11_isSafeGate_69 : decode cX11_isSafeGate 69 = .ok (.iinc 3 1, 3) := by decide +kernel
theorem dX11_isSafeGate_72 : decode cX11_isSafeGate 72 = .ok (.goto (-46), 3) := by decide +kernel
theorem dX11_isSafeGate_75 : decode cX11_isSafeGate 75 = .ok (.iinc 2 1, 3) := by decide +kernel
theorem dX11_isSafeGate_78 : decode cX11_isSafeGate 78 = .ok (.goto (-76), 3) := by decide +kernel
theorem dX11_isSafeGate_81 : decode cX11_isSafeGate 81 = .ok (.iconst 1, 1) := by decide +kernel
theorem dX11_isSafeGate_82 : decode cX11_isSafeGate 82 = .ok (.ireturn, 1) := by decide +kernel
theorem dX11_pointsWithout_0 : decode cX11_pointsWithout 0 = .ok (.aload_n 0, 1) := by decide +kernel
theorem dX11_pointsWithout_1 : decode cX11_pointsWithout 1 = .ok (.getfield 56, 3) := by decide +kernel
theorem dX11_pointsWithout_4 : decode cX11_pointsWithout 4 = .ok (.iload_n 1, 1) := by decide +kernel
theorem dX11_pointsWithout_5 : decode cX11_pointsWithout 5 = .ok (.iload_n 2, 1) := by decide +kernel
theorem dX11_pointsWithout_6 : decode cX11_pointsWithout 6 = .ok (.invokevirtual 156, 3) := by decide +kernel
theorem dX11_pointsWithout_9 : decode cX11_pointsWithout 9 = .ok (.ifCond .ne 5, 3) := by decide +kernel
theorem dX11_pointsWithout_12 : decode cX11_pointsWithout 12 = .ok (.iconst 0, 1) := by decide +kernel
theorem dX11_pointsWithout_13 : decode cX11_pointsWithout 13 = .ok (.ireturn, 1) := by decide +kernel
theorem dX11_pointsWithout_14 : decode cX11_pointsWithout 14 = .ok (.aload_n 0, 1) := by decide +kernel
theorem dX11_pointsWithout_15 : decode cX11_pointsWithout 15 = .ok (.getfield 56, 3) := by decide +kernel
theorem dX11_pointsWithout_18 : decode cX11_pointsWithout 18 = .ok (.iload_n 1, 1) := by decide +kernel
theorem dX11_pointsWithout_19 : decode cX11_pointsWithout 19 = .ok (.iload_n 2, 1) := by decide +kernel
theorem dX11_pointsWithout_20 : decode cX11_pointsWithout 20 = .ok (.iload_n 3, 1) := by decide +kernel
theorem dX11_pointsWithout_21 : decode cX11_pointsWithout 21 = .ok (.invokevirtual 367, 3) := by decide +kernel
theorem dX11_pointsWithout_24 : decode cX11_pointsWithout 24 = .ok (.istore 4, 2) := by decide +kernel
theorem dX11_pointsWithout_26 : decode cX11_pointsWithout 26 = .ok (.aload_n 0, 1) := by decide +kernel
theorem dX11_pointsWithout_27 : decode cX11_pointsWithout 27 = .ok (.getfield 49, 3) := by decide +kernel
theorem dX11_pointsWithout_30 : decode cX11_pointsWithout 30 = .ok (.aload_n 0, 1) := by decide +kernel
theorem dX11_pointsWithout_31 : decode cX11_pointsWithout 31 = .ok (.getfield 56, 3) := by decide +kernel
theorem dX11_pointsWithout_34 : decode cX11_pointsWithout 34 = .ok (.iload_n 1, 1) := by decide +kernel
theorem dX11_pointsWithout_35 : decode cX11_pointsWithout 35 = .ok (.iload_n 2, 1) := by decide +kernel
theorem dX11_pointsWithout_36 : decode cX11_pointsWithout 36 = .ok (.bipush 6, 2) := by decide +kernel
theorem dX11_pointsWithout_38 : decode cX11_pointsWithout 38 = .ok (.invokevirtual 160, 3) := by decide +kernel
theorem dX11_pointsWithout_41 : decode cX11_pointsWithout 41 = .ok (.invokevirtual 272, 3) := by decide +kernel
theorem dX11_pointsWithout_44 : decode cX11_pointsWithout 44 = .ok (.istore 5, 2) := by decide +kernel
theorem dX11_pointsWithout_46 : decode cX11_pointsWithout 46 = .ok (.aload_n 0, 1) := by decide +kernel
theorem dX11_pointsWithout_47 : decode cX11_pointsWithout 47 = .ok (.getfield 49, 3) := by decide +kernel
theorem dX11_pointsWithout_50 : decode cX11_pointsWithout 50 = .ok (.aload_n 0, 1) := by decide +kernel
theorem dX11_pointsWithout_51 : decode cX11_pointsWithout 51 = .ok (.getfield 56, 3) := by decide +kernel
theorem dX11_pointsWithout_54 : decode cX11_pointsWithout 54 = .ok (.iload_n 1, 1) := by decide +kernel
theorem dX11_pointsWithout_55 : decode cX11_pointsWithout 55 = .ok (.iload_n 2, 1) := by decide +kernel
theorem dX11_pointsWithout_56 : decode cX11_pointsWithout 56 = .ok (.iconst 0, 1) := by decide +kernel
theorem dX11_pointsWithout_57 : decode cX11_pointsWithout 57 = .ok (.invokevirtual 160, 3) := by decide +kernel
theorem dX11_pointsWithout_60 : decode cX11_pointsWithout 60 = .ok (.iload 4, 2) := by decide +kernel
theorem dX11_pointsWithout_62 : decode cX11_pointsWithout 62 = .ok (.iload 5, 2) := by decide +kernel
theorem dX11_pointsWithout_64 : decode cX11_pointsWithout 64 = .ok (.aload_n 0, 1) := by decide +kernel
theorem dX11_pointsWithout_65 : decode cX11_pointsWithout 65 = .ok (.getfield 56, 3) := by decide +kernel
theorem dX11_pointsWithout_68 : decode cX11_pointsWithout 68 = .ok (.iload_n 1, 1) := by decide +kernel
theorem dX11_pointsWithout_69 : decode cX11_pointsWithout 69 = .ok (.iload_n 2, 1) := by decide +kernel
theorem dX11_pointsWithout_70 : decode cX11_pointsWithout 70 = .ok (.iconst 5, 1) := by decide +kernel
theorem dX11_pointsWithout_71 : decode cX11_pointsWithout 71 = .ok (.invokevirtual 160, 3) := by decide +kernel
theorem dX11_pointsWithout_74 : decode cX11_pointsWithout 74 = .ok (.invokevirtual 275, 3) := by decide +kernel
theorem dX11_pointsWithout_77 : decode cX11_pointsWithout 77 = .ok (.ireturn, 1) := by decide +kernel
theorem dX11_moreThanHimself_0 : decode cX11_moreThanHimself 0 = .ok (.aload_n 0, 1) := by decide +kernel
theorem dX11_moreThanHimself_1 : decode cX11_moreThanHimself 1 = .ok (.getfield 49, 3) := by decide +kernel
theorem dX11_moreThanHimself_4 : decode cX11_moreThanHimself 4 = .ok (.aload_n 0, 1) := by decide +kernel
theorem dX11_moreThanHimself_5 : decode cX11_moreThanHimself 5 = .ok (.getfield 56, 3) := by decide +kernel
theorem dX11_moreThanHimself_8 : decode cX11_moreThanHimself 8 = .ok (.iload_n 1, 1) := by decide +kernel
theorem dX11_moreThanHimself_9 : decode cX11_moreThanHimself 9 = .ok (.iload_n 2, 1) := by decide +kernel
theorem dX11_moreThanHimself_10 : decode cX11_moreThanHimself 10 = .ok (.iconst 4, 1) := by decide +kernel
theorem dX11_moreThanHimself_11 : decode cX11_moreThanHimself 11 = .ok (.invokevirtual 160, 3) := by decide +kernel
theorem dX11_moreThanHimself_14 : decode cX11_moreThanHimself 14 = .ok (.invokevirtual 142, 3) := by decide +kernel
theorem dX11_moreThanHimself_17 : decode cX11_moreThanHimself 17 = .ok (.aload_n 0, 1) := by decide +kernel
theorem dX11_moreThanHimself_18 : decode cX11_moreThanHimself 18 = .ok (.getfield 49, 3) := by decide +kernel
theorem dX11_moreThanHimself_21 : decode cX11_moreThanHimself 21 = .ok (.iload_n 1, 1) := by decide +kernel
theorem dX11_moreThanHimself_22 : decode cX11_moreThanHimself 22 = .ok (.iconst 0, 1) := by decide +kernel
theorem dX11_moreThanHimself_23 : decode cX11_moreThanHimself 23 = .ok (.aload_n 0, 1) := by decide +kernel
theorem dX11_moreThanHimself_24 : decode cX11_moreThanHimself 24 = .ok (.getfield 56, 3) := by decide +kernel
theorem dX11_moreThanHimself_27 : decode cX11_moreThanHimself 27 = .ok (.iload_n 1, 1) := by decide +kernel
theorem dX11_moreThanHimself_28 : decode cX11_moreThanHimself 28 = .ok (.iload_n 2, 1) := by decide +kernel
theorem dX11_moreThanHimself_29 : decode cX11_moreThanHimself 29 = .ok (.iconst 5, 1) := by decide +kernel
theorem dX11_moreThanHimself_30 : decode cX11_moreThanHimself 30 = .ok (.invokevirtual 160, 3) := by decide +kernel
theorem dX11_moreThanHimself_33 : decode cX11_moreThanHimself 33 = .ok (.aload_n 0, 1) := by decide +kernel
theorem dX11_moreThanHimself_34 : decode cX11_moreThanHimself 34 = .ok (.getfield 56, 3) := by decide +kernel
theorem dX11_moreThanHimself_37 : decode cX11_moreThanHimself 37 = .ok (.iload_n 1, 1) := by decide +kernel
theorem dX11_moreThanHimself_38 : decode cX11_moreThanHimself 38 = .ok (.iload_n 2, 1) := by decide +kernel
theorem dX11_moreThanHimself_39 : decode cX11_moreThanHimself 39 = .ok (.bipush 7, 2) := by decide +kernel
theorem dX11_moreThanHimself_41 : decode cX11_moreThanHimself 41 = .ok (.invokevirtual 160, 3) := by decide +kernel
theorem dX11_moreThanHimself_44 : decode cX11_moreThanHimself 44 = .ok (.invokevirtual 245, 3) := by decide +kernel
theorem dX11_moreThanHimself_47 : decode cX11_moreThanHimself 47 = .ok (.istore_n 3, 1) := by decide +kernel
theorem dX11_moreThanHimself_48 : decode cX11_moreThanHimself 48 = .ok (.aload_n 0, 1) := by decide +kernel
theorem dX11_moreThanHimself_49 : decode cX11_moreThanHimself 49 = .ok (.getfield 56, 3) := by decide +kernel
theorem dX11_moreThanHimself_52 : decode cX11_moreThanHimself 52 = .ok (.iload_n 1, 1) := by decide +kernel
theorem dX11_moreThanHimself_53 : decode cX11_moreThanHimself 53 = .ok (.iload_n 2, 1) := by decide +kernel
theorem dX11_moreThanHimself_54 : decode cX11_moreThanHimself 54 = .ok (.iconst 0, 1) := by decide +kernel
theorem dX11_moreThanHimself_55 : decode cX11_moreThanHimself 55 = .ok (.invokevirtual 160, 3) := by decide +kernel
theorem dX11_moreThanHimself_58 : decode cX11_moreThanHimself 58 = .ok (.iload_n 3, 1) := by decide +kernel
theorem dX11_moreThanHimself_59 : decode cX11_moreThanHimself 59 = .ok (.isub, 1) := by decide +kernel
theorem dX11_moreThanHimself_60 : decode cX11_moreThanHimself 60 = .ok (.ireturn, 1) := by decide +kernel
theorem dX11_mayBeSoLate_0 : decode cX11_mayBeSoLate 0 = .ok (.iconst 0, 1) := by decide +kernel
theorem dX11_mayBeSoLate_1 : decode cX11_mayBeSoLate 1 = .ok (.istore 4, 2) := by decide +kernel
theorem dX11_mayBeSoLate_3 : decode cX11_mayBeSoLate 3 = .ok (.iload 4, 2) := by decide +kernel
theorem dX11_mayBeSoLate_5 : decode cX11_mayBeSoLate 5 = .ok (.iload_n 2, 1) := by decide +kernel
theorem dX11_mayBeSoLate_6 : decode cX11_mayBeSoLate 6 = .ok (.if_icmp .ge 82, 3) := by decide +kernel
theorem dX11_mayBeSoLate_9 : decode cX11_mayBeSoLate 9 = .ok (.iload 4, 2) := by decide +kernel
theorem dX11_mayBeSoLate_11 : decode cX11_mayBeSoLate 11 = .ok (.bipush 20, 2) := by decide +kernel
theorem dX11_mayBeSoLate_13 : decode cX11_mayBeSoLate 13 = .ok (.if_icmp .ge 75, 3) := by decide +kernel
theorem dX11_mayBeSoLate_16 : decode cX11_mayBeSoLate 16 = .ok (.aload_n 0, 1) := by decide +kernel
theorem dX11_mayBeSoLate_17 : decode cX11_mayBeSoLate 17 = .ok (.getfield 80, 3) := by decide +kernel
theorem dX11_mayBeSoLate_20 : decode cX11_mayBeSoLate 20 = .ok (.getfield 370, 3) := by decide +kernel
theorem dX11_mayBeSoLate_23 : decode cX11_mayBeSoLate 23 = .ok (.iload 4, 2) := by decide +kernel
theorem dX11_mayBeSoLate_25 : decode cX11_mayBeSoLate 25 = .ok (.iaload, 1) := by decide +kernel
theorem dX11_mayBeSoLate_26 : decode cX11_mayBeSoLate 26 = .ok (.iload_n 1, 1) := by decide +kernel
theorem dX11_mayBeSoLate_27 : decode cX11_mayBeSoLate 27 = .ok (.if_icmp .eq 6, 3) := by decide +kernel
theorem dX11_mayBeSoLate_30 : decode cX11_mayBeSoLate 30 = .ok (.goto 52, 3) := by decide +kernel
theorem dX11_mayBeSoLate_33 : decode cX11_mayBeSoLate 33 = .ok (.aload_n 0, 1) := by decide +kernel
theorem dX11_mayBeSoLate_34 : decode cX11_mayBeSoLate 34 = .ok (.getfield 49, 3) := by decide +kernel
theorem dX11_mayBeSoLate_37 : decode cX11_mayBeSoLate 37 = .ok (.aload_n 0, 1) := by decide +kernel
theorem dX11_mayBeSoLate_38 : decode cX11_mayBeSoLate 38 = .ok (.getfield 80, 3) := by decide +kernel
theorem dX11_mayBeSoLate_41 : decode cX11_mayBeSoLate 41 = .ok (.getfield 373, 3) := by decide +kernel
theorem dX11_mayBeSoLate_44 : decode cX11_mayBeSoLate 44 = .ok (.iload 4, 2) := by decide +kernel
theorem dX11_mayBeSoLate_46 : decode cX11_mayBeSoLate 46 = .ok (.iaload, 1) := by decide +kernel
theorem dX11_mayBeSoLate_47 : decode cX11_mayBeSoLate 47 = .ok (.invokevirtual 142, 3) := by decide +kernel
theorem dX11_mayBeSoLate_50 : decode cX11_mayBeSoLate 50 = .ok (.aload_n 0, 1) := by decide +kernel
theorem dX11_mayBeSoLate_51 : decode cX11_mayBeSoLate 51 = .ok (.getfield 49, 3) := by decide +kernel
theorem dX11_mayBeSoLate_54 : decode cX11_mayBeSoLate 54 = .ok (.iload_n 1, 1) := by decide +kernel
theorem dX11_mayBeSoLate_55 : decode cX11_mayBeSoLate 55 = .ok (.iload_n 3, 1) := by decide +kernel
theorem dX11_mayBeSoLate_56 : decode cX11_mayBeSoLate 56 = .ok (.aload_n 0, 1) := by decide +kernel
theorem dX11_mayBeSoLate_57 : decode cX11_mayBeSoLate 57 = .ok (.getfield 41, 3) := by decide +kernel
theorem dX11_mayBeSoLate_60 : decode cX11_mayBeSoLate 60 = .ok (.getfield 375, 3) := by decide +kernel
theorem dX11_mayBeSoLate_63 : decode cX11_mayBeSoLate 63 = .ok (.iconst 0, 1) := by decide +kernel
theorem dX11_mayBeSoLate_64 : decode cX11_mayBeSoLate 64 = .ok (.invokevirtual 245, 3) := by decide +kernel
theorem dX11_mayBeSoLate_67 : decode cX11_mayBeSoLate 67 = .ok (.aload_n 0, 1) := by decide +kernel
theorem dX11_mayBeSoLate_68 : decode cX11_mayBeSoLate 68 = .ok (.getfield 80, 3) := by decide +kernel
theorem dX11_mayBeSoLate_71 : decode cX11_mayBeSoLate 71 = .ok (.getfield 378, 3) := by decide +kernel
theorem dX11_mayBeSoLate_74 : decode cX11_mayBeSoLate 74 = .ok (.iload 4, 2) := by decide +kernel
theorem dX11_mayBeSoLate_76 : decode cX11_mayBeSoLate 76 = .ok (.iaload, 1) := by decide +kernel
theorem dX11_mayBeSoLate_77 : decode cX11_mayBeSoLate 77 = .ok (.if_icmp .eq 5, 3) := by decide +kernel
theorem dX11_mayBeSoLate_80 : decode cX11_mayBeSoLate 80 = .ok (.iconst 0, 1) := by decide +kernel
theorem dX11_mayBeSoLate_81 : decode cX11_mayBeSoLate 81 = .ok (.ireturn, 1) := by decide +kernel
theorem dX11_mayBeSoLate_82 : decode cX11_mayBeSoLate 82 = .ok (.iinc 4 1, 3) := by decide +kernel
theorem dX11_mayBeSoLate_85 : decode cX11_mayBeSoLate 85 = .ok (.goto (-82), 3) := by decide +kernel
theorem dX11_mayBeSoLate_88 : decode cX11_mayBeSoLate 88 = .ok (.iconst 1, 1) := by decide +kernel
theorem dX11_mayBeSoLate_89 : decode cX11_mayBeSoLate 89 = .ok (.ireturn, 1) := by decide +kernel
theorem dX12_init_0 : decode cX12_init 0 = .ok (.aload_n 0, 1) := by decide +kernel
theorem dX12_init_1 : decode cX12_init 1 = .ok (.invokespecial 7, 3) := by decide +kernel
theorem dX12_init_4 : decode cX12_init 4 = .ok (.aload_n 0, 1) := by decide +kernel
theorem dX12_init_5 : decode cX12_init 5 = .ok (.sipush 2000, 3) := by decide +kernel
theorem dX12_init_8 : decode cX12_init 8 = .ok (.newarray .byte, 2) := by decide +kernel
theorem dX12_init_10 : decode cX12_init 10 = .ok (.putfield 13, 3) := by decide +kernel
theorem dX12_init_13 : decode cX12_init 13 = .ok (.aload_n 0, 1) := by decide +kernel
theorem dX12_init_14 : decode cX12_init 14 = .ok (.sipush 2000, 3) := by decide +kernel
theorem dX12_init_17 : decode cX12_init 17 = .ok (.newarray .byte, 2) := by decide +kernel
theorem dX12_init_19 : decode cX12_init 19 = .ok (.putfield 17, 3) := by decide +kernel
theorem dX12_init_22 : decode cX12_init 22 = .ok (.aload_n 0, 1) := by decide +kernel
theorem dX12_init_23 : decode cX12_init 23 = .ok (.sipush 403, 3) := by decide +kernel
theorem dX12_init_26 : decode cX12_init 26 = .ok (.newarray .int, 2) := by decide +kernel
theorem dX12_init_28 : decode cX12_init 28 = .ok (.putfield 20, 3) := by decide +kernel
theorem dX12_init_31 : decode cX12_init 31 = .ok (.aload_n 0, 1) := by decide +kernel
theorem dX12_init_32 : decode cX12_init 32 = .ok (.sipush 403, 3) := by decide +kernel
theorem dX12_init_35 : decode cX12_init 35 = .ok (.newarray .int, 2) := by decide +kernel
theorem dX12_init_37 : decode cX12_init 37 = .ok (.putfield 24, 3) := by decide +kernel
theorem dX12_init_40 : decode cX12_init 40 = .ok (.aload_n 0, 1) := by decide +kernel
theorem dX12_init_41 : decode cX12_init 41 = .ok (.sipush 403, 3) := by decide +kernel
theorem dX12_init_44 : decode cX12_init 44 = .ok (.newarray .int, 2) := by decide +kernel
theorem dX12_init_46 : decode cX12_init 46 = .ok (.putfield 27, 3) := by decide +kernel
theorem dX12_init_49 : decode cX12_init 49 = .ok (.aload_n 0, 1) := by decide +kernel
theorem dX12_init_50 : decode cX12_init 50 = .ok (.sipush 403, 3) := by decide +kernel
theorem dX12_init_53 : decode cX12_init 53 = .ok (.newarray .long, 2) := by decide +kernel
theorem dX12_init_55 : decode cX12_init 55 = .ok (.putfield 30, 3) := by decide +kernel
theorem dX12_init_58 : decode cX12_init 58 = .ok (.aload_n 0, 1) := by decide +kernel
theorem dX12_init_59 : decode cX12_init 59 = .ok (.bipush 29, 2) := by decide +kernel
theorem dX12_init_61 : decode cX12_init 61 = .ok (.newarray .long, 2) := by decide +kernel
theorem dX12_init_63 : decode cX12_init 63 = .ok (.putfield 34, 3) := by decide +kernel
theorem dX12_init_66 : decode cX12_init 66 = .ok (.aload_n 0, 1) := by decide +kernel
theorem dX12_init_67 : decode cX12_init 67 = .ok (.iconst (-1), 1) := by decide +kernel
theorem dX12_init_68 : decode cX12_init 68 = .ok (.putfield 37, 3) := by decide +kernel
theorem dX12_init_71 : decode cX12_init 71 = .ok (.aload_n 0, 1) := by decide +kernel
theorem dX12_init_72 : decode cX12_init 72 = .ok (.bipush 15, 2) := by decide +kernel
theorem dX12_init_74 : decode cX12_init 74 = .ok (.newarray .long, 2) := by decide +kernel
theorem dX12_init_76 : decode cX12_init 76 = .ok (.putfield 40, 3) := by decide +kernel
theorem dX12_init_79 : decode cX12_init 79 = .ok (.aload_n 0, 1) := by decide +kernel
theorem dX12_init_80 : decode cX12_init 80 = .ok (.bipush 40, 2) := by decide +kernel
theorem dX12_init_82 : decode cX12_init 82 = .ok (.newarray .int, 2) := by decide +kernel
theorem dX12_init_84 : decode cX12_init 84 = .ok (.putfield 43, 3) := by decide +kernel
theorem dX12_init_87 : decode cX12_init 87 = .ok (.aload_n 0, 1) := by decide +kernel
theorem dX12_init_88 : decode cX12_init 88 = .ok (.iconst 2, 1) := by decide +kernel
theorem dX12_init_89 : decode cX12_init 89 = .ok (.newarray .int, 2) := by decide +kernel
theorem dX12_init_91 : decode cX12_init 91 = .ok (.putfield 46, 3) := by decide +kernel
theorem dX12_init_94 : decode cX12_init 94 = .ok (.aload_n 0, 1) := by decide +kernel
theorem dX12_init_95 : decode cX12_init 95 = .ok (.bipush 16, 2) := by decide +kernel
theorem dX12_init_97 : decode cX12_init 97 = .ok (.newarray .int, 2) := by decide +kernel
theorem dX12_init_99 : decode cX12_init 99 = .ok (.putfield 49, 3) := by decide +kernel
theorem dX12_init_102 : decode cX12_init 102 = .ok (.aload_n 0, 1) := by decide +kernel
theorem dX12_init_103 : decode cX12_init 103 = .ok (.bipush 16, 2) := by decide +kernel
theorem dX12_init_105 : decode cX12_init 105 = .ok (.newarray .int, 2) := by decide +kernel
theorem dX12_init_107 : decode cX12_init 107 = .ok (.putfield 52, 3) := by decide +kernel
theorem dX12_init_110 : decode cX12_init 110 = .ok (.aload_n 0, 1) := by decide +kernel
theorem dX12_init_111 : decode cX12_init 111 = .ok (.bipush 16, 2) := by decide +kernel
theorem dX12_init_113 : decode cX12_init 113 = .ok (.newarray .int, 2) := by decide +kernel
theorem dX12_init_115 : decode cX12_init 115 = .ok (.putfield 55, 3) := by decide +kernel
theorem dX12_init_118 : decode cX12_init 118 = .ok (.aload_n 0, 1) := by decide +kernel
theorem dX12_init_119 : decode cX12_init 119 = .ok (.bipush 16, 2) := by decide +kernel
theorem dX12_init_121 : decode cX12_init 121 = .ok (.newarray .int, 2) := by decide +kernel
theorem dX12_init_123 : decode cX12_init 123 = .ok (.putfield 58, 3) := by decide +kernel
theorem dX12_init_126 : decode cX12_init 126 = .ok (.aload_n 0, 1) := by decide +kernel
theorem dX12_init_127 : decode cX12_init 127 = .ok (.iconst 2, 1) := by decide +kernel
theorem dX12_init_128 : decode cX12_init 128 = .ok (.newarray .int, 2) := by decide +kernel
theorem dX12_init_130 : decode cX12_init 130 = .ok (.putfield 61, 3) := by decide +kernel
theorem dX12_init_133 : decode cX12_init 133 = .ok (.aload_n 0, 1) := by decide +kernel
theorem dX12_init_134 : decode cX12_init 134 = .ok (.bipush 14, 2) := by decide +kernel
theorem dX12_init_136 : decode cX12_init 136 = .ok (.newarray .int, 2) := by decide +kernel
theorem dX12_init_138 : decode cX12_init 138 = .ok (.putfield 64, 3) := by decide +kernel
theorem dX12_init_141 : decode cX12_init 141 = .ok (.aload_n 0, 1) := by decide +kernel
theorem dX12_init_142 : decode cX12_init 142 = .ok (.bipush 14, 2) := by decide +kernel
theorem dX12_init_144 : decode cX12_init 144 = .ok (.newarray .int, 2) := by decide +kernel
theorem dX12_init_146 : decode cX12_init 146 = .ok (.putfield 67, 3) := by decide +kernel
theorem dX12_init_149 : decode cX12_init 149 = .ok (.aload_n 0, 1) := by decide +kernel
theorem dX12_init_150 : decode cX12_init 150 = .ok (.bipush 10, 2) := by decide +kernel
theorem dX12_init_152 : decode cX12_init 152 = .ok (.newarray .int, 2) := by decide +kernel
theorem dX12_init_154 : decode cX12_init 154 = .ok (.putfield 70, 3) := by decide +kernel
theorem dX12_init_157 : decode cX12_init 157 = .ok (.aload_n 0, 1) := by decide +kernel
theorem dX12_init_158 : decode cX12_init 158 = .ok (.bipush 10, 2) := by decide +kernel
theorem dX12_init_160 : decode cX12_init 160 = .ok (.newarray .int, 2) := by decide +kernel
theorem dX12_init_162 : decode cX12_init 162 = .ok (.putfield 73, 3) := by decide +kernel
theorem dX12_init_165 : decode cX12_init 165 = .ok (.aload_n 0, 1) := by decide +kernel
theorem dX12_init_166 : decode cX12_init 166 = .ok (.sipush 260, 3) := by decide +kernel
theorem dX12_init_169 : decode cX12_init 169 = .ok (.newarray .boolean, 2) := by decide +kernel
theorem dX12_init_171 : decode cX12_init 171 = .ok (.putfield 76, 3) := by decide +kernel
theorem dX12_init_174 : decode cX12_init 174 = .ok (.aload_n 0, 1) := by decide +kernel
theorem dX12_init_175 : decode cX12_init 175 = .ok (.sipush 260, 3) := by decide +kernel
theorem dX12_init_178 : decode cX12_init 178 = .ok (.newarray .int, 2) := by decide +kernel
theorem dX12_init_180 : decode cX12_init 180 = .ok (.putfield 80, 3) := by decide +kernel
theorem dX12_init_183 : decode cX12_init 183 = .ok (.aload_n 0, 1) := by decide +kernel
theorem dX12_init_184 : decode cX12_init 184 = .ok (.sipush 260, 3) := by decide +kernel
theorem dX12_init_187 : decode cX12_init 187 = .ok (.newarray .int, 2) := by decide +kernel
theorem dX12_init_189 : decode cX12_init 189 = .ok (.putfield 83, 3) := by decide +kernel
theorem dX12_init_192 : decode cX12_init 192 = .ok (.aload_n 0, 1) := by decide +kernel
theorem dX12_init_193 : decode cX12_init 193 = .ok (.sipush 260, 3) := by decide +kernel
theorem dX12_init_196 : decode cX12_init 196 = .ok (.newarray .int, 2) := by decide +kernel
theorem dX12_init_198 : decode cX12_init 198 = .ok (.putfield 86, 3) := by decide +kernel
theorem dX12_init_201 : decode cX12_init 201 = .ok (.aload_n 0, 1) := by decide +kernel
theorem dX12_init_202 : decode cX12_init 202 = .ok (.sipush 260, 3) := by decide +kernel
theorem dX12_init_205 : decode cX12_init 205 = .ok (.newarray .int, 2) := by decide +kernel
theorem dX12_init_207 : decode cX12_init 207 = .ok (.putfield 89, 3) := by decide +kernel
theorem dX12_init_210 : decode cX12_init 210 = .ok (.aload_n 0, 1) := by decide +kernel
theorem dX12_init_211 : decode cX12_init 211 = .ok (.sipush 840, 3) := by decide +kernel
theorem dX12_init_214 : decode cX12_init 214 = .ok (.newarray .int, 2) := by decide +kernel
theorem dX12_init_216 : decode cX12_init 216 = .ok (.putfield 92, 3) := by decide +kernel
theorem dX12_init_219 : decode cX12_init 219 = .ok (.aload_n 0, 1) := by decide +kernel
theorem dX12_init_220 : decode cX12_init 220 = .ok (.sipush 840, 3) := by decide +kernel
theorem dX12_init_223 : decode cX12_init 223 = .ok (.newarray .int, 2) := by decide +kernel
theorem dX12_init_225 : decode cX12_init 225 = .ok (.putfield 95, 3) := by decide +kernel
theorem dX12_init_228 : decode cX12_init 228 = .ok (.aload_n 0, 1) := by decide +kernel
theorem dX12_init_229 : decode cX12_init 229 = .ok (.bipush 64, 2) := by decide +kernel
theorem dX12_init_231 : decode cX12_init 231 = .ok (.newarray .int, 2) := by decide +kernel
theorem dX12_init_233 : decode cX12_init 233 = .ok (.putfield 98, 3) := by decide +kernel
theorem dX12_init_236 : decode cX12_init 236 = .ok (.aload_n 0, 1) := by decide +kernel
theorem dX12_init_237 : decode cX12_init 237 = .ok (.bipush 11, 2) := by decide +kernel
theorem dX12_init_239 : decode cX12_init 239 = .ok (.newarray .int, 2) := by decide +kernel
theorem dX12_init_241 : decode cX12_init 241 = .ok (.putfield 101, 3) := by decide +kernel
theorem dX12_init_244 : decode cX12_init 244 = .ok (.aload_n 0, 1) := by decide +kernel
theorem dX12_init_245 : decode cX12_init 245 = .ok (.sipush 400, 3) := by decide +kernel
theorem dX12_init_248 : decode cX12_init 248 = .ok (.newarray .int, 2) := by decide +kernel
theorem dX12_init_250 : decode cX12_init 250 = .ok (.putfield 104, 3) := by decide +kernel
theorem dX12_init_253 : decode cX12_init 253 = .ok (.aload_n 0, 1) := by decide +kernel
theorem dX12_init_254 : decode cX12_init 254 = .ok (.sipush 260, 3) := by decide +kernel
theorem dX12_init_257 : decode cX12_init 257 = .ok (.newarray .int, 2) := by decide +kernel
theorem dX12_init_259 : decode cX12_init 259 = .ok (.putfield 107, 3) := by decide +kernel
theorem dX12_init_262 : decode cX12_init 262 = .ok (.aload_n 0, 1) := by decide +kernel
theorem dX12_init_263 : decode cX12_init 263 = .ok (.sipush 260, 3) := by decide +kernel
theorem dX12_init_266 : decode cX12_init 266 = .ok (.newarray .int, 2) := by decide +kernel
theorem dX12_init_268 : decode cX12_init 268 = .ok (.putfield 110, 3) := by decide +kernel
theorem dX12_init_271 : decode cX12_init 271 = .ok (.aload_n 0, 1) := by decide +kernel
theorem dX12_init_272 : decode cX12_init 272 = .ok (.bipush 7, 2) := by decide +kernel
theorem dX12_init_274 : decode cX12_init 274 = .ok (.newarray .int, 2) := by decide +kernel
theorem dX12_init_276 : decode cX12_init 276 = .ok (.putfield 113, 3) := by decide +kernel
theorem dX12_init_279 : decode cX12_init 279 = .ok (.aload_n 0, 1) := by decide +kernel
theorem dX12_init_280 : decode cX12_init 280 = .ok (.iconst (-1), 1) := by decide +kernel
theorem dX12_init_281 : decode cX12_init 281 = .ok (.putfield 116, 3) := by decide +kernel
theorem dX12_init_284 : decode cX12_init 284 = .ok (.aload_n 0, 1) := by decide +kernel
theorem dX12_init_285 : decode cX12_init 285 = .ok (.sipush 10400, 3) := by decide +kernel
theorem dX12_init_288 : decode cX12_init 288 = .ok (.newarray .int, 2) := by decide +kernel
theorem dX12_init_290 : decode cX12_init 290 = .ok (.putfield 119, 3) := by decide +kernel
theorem dX12_init_293 : decode cX12_init 293 = .ok (.aload_n 0, 1) := by decide +kernel
theorem dX12_init_294 : decode cX12_init 294 = .ok (.bipush 20, 2) := by decide +kernel
theorem dX12_init_296 : decode cX12_init 296 = .ok (.newarray .int, 2) := by decide +kernel
theorem dX12_init_298 : decode cX12_init 298 = .ok (.putfield 122, 3) := by decide +kernel
theorem dX12_init_301 : decode cX12_init 301 = .ok (.aload_n 0, 1) := by decide +kernel
theorem dX12_init_302 : decode cX12_init 302 = .ok (.bipush 20, 2) := by decide +kernel
theorem dX12_init_304 : decode cX12_init 304 = .ok (.newarray .int, 2) := by decide +kernel
theorem dX12_init_306 : decode cX12_init 306 = .ok (.putfield 125, 3) := by decide +kernel
theorem dX12_init_309 : decode cX12_init 309 = .ok (.aload_n 0, 1) := by decide +kernel
theorem dX12_init_310 : decode cX12_init 310 = .ok (.bipush 20, 2) := by decide +kernel
theorem dX12_init_312 : decode cX12_init 312 = .ok (.newarray .int, 2) := by decide +kernel
theorem dX12_init_314 : decode cX12_init 314 = .ok (.putfield 128, 3) := by decide +kernel
theorem dX12_init_317 : decode cX12_init 317 = .ok (.aload_n 0, 1) := by decide +kernel
theorem dX12_init_318 : decode cX12_init 318 = .ok (.iconst 3, 1) := by decide +kernel
theorem dX12_init_319 : decode cX12_init 319 = .ok (.newarray .boolean, 2) := by decide +kernel
theorem dX12_init_321 : decode cX12_init 321 = .ok (.putfield 131, 3) := by decide +kernel
theorem dX12_init_324 : decode cX12_init 324 = .ok (.aload_n 0, 1) := by decide +kernel
theorem dX12_init_325 : decode cX12_init 325 = .ok (.sipush 780, 3) := by decide +kernel
theorem dX12_init_328 : decode cX12_init 328 = .ok (.newarray .int, 2) := by decide +kernel
theorem dX12_init_330 : decode cX12_init 330 = .ok (.putfield 134, 3) := by decide +kernel
theorem dX12_init_333 : decode cX12_init 333 = .ok (.aload_n 0, 1) := by decide +kernel
theorem dX12_init_334 : decode cX12_init 334 = .ok (.iconst 0, 1) := by decide +kernel
theorem dX12_init_335 : decode cX12_init 335 = .ok (.invokevirtual 137, 3) := by decide +kernel
theorem dX12_init_338 : decode cX12_init 338 = .ok (.aload_n 0, 1) := by decide +kernel
theorem dX12_init_339 : decode cX12_init 339 = .ok (.getfield 34, 3) := by decide +kernel
theorem dX12_init_342 : decode cX12_init 342 = .ok (.iconst 0, 1) := by decide +kernel
theorem dX12_init_343 : decode cX12_init 343 = .ok (.bipush 104, 2) := by decide +kernel
theorem dX12_init_345 : decode cX12_init 345 = .ok (.bipush 105, 2) := by decide +kernel
theorem dX12_init_347 : decode cX12_init 347 = .ok (.bipush 108, 2) := by decide +kernel
theorem dX12_init_349 : decode cX12_init 349 = .ok (.bipush 108, 2) := by decide +kernel
theorem dX12_init_351 : decode cX12_init 351 = .ok (.iconst 0, 1) := by decide +kernel
theorem dX12_init_352 : decode cX12_init 352 = .ok (.iconst 0, 1) := by decide +kernel
theorem dX12_init_353 : decode cX12_init 353 = .ok (.iconst 0, 1) := by decide +kernel
theorem dX12_init_354 : decode cX12_init 354 = .ok (.invokestatic 141, 3) := by decide +kernel
theorem dX12_init_357 : decode cX12_init 357 = .ok (.lastore, 1) := by decide +kernel
theorem dX12_init_358 : decode cX12_init 358 = .ok (.aload_n 0, 1) := by decide +kernel
theorem dX12_init_359 : decode cX12_init 359 = .ok (.getfield 34, 3) := by decide +kernel
theorem dX12_init_362 : decode cX12_init 362 = .ok (.iconst 1, 1) := by decide +kernel
theorem dX12_init_363 : decode cX12_init 363 = .ok (.bipush 119, 2) := by decide +kernel
theorem dX12_init_365 : decode cX12_init 365 = .ok (.bipush 105, 2) := by decide +kernel
theorem dX12_init_367 : decode cX12_init 367 = .ok (.bipush 110, 2) := by decide +kernel
theorem dX12_init_369 : decode cX12_init 369 = .ok (.bipush 100, 2) := by decide +kernel
theorem dX12_init_371 : decode cX12_init 371 = .ok (.iconst 0, 1) := by decide +kernel
theorem dX12_init_372 : decode cX12_init 372 = .ok (.iconst 0, 1) := by decide +kernel
theorem dX12_init_373 : decode cX12_init 373 = .ok (.iconst 0, 1) := by decide +kernel
theorem dX12_init_374 : decode cX12_init 374 = .ok (.invokestatic 141, 3) := by decide +kernel
theorem dX12_init_377 : decode cX12_init 377 = .ok (.lastore, 1) := by decide +kernel
theorem dX12_init_378 : decode cX12_init 378 = .ok (.aload_n 0, 1) := by decide +kernel
theorem dX12_init_379 : decode cX12_init 379 = .ok (.getfield 34, 3) := by decide +kernel
theorem dX12_init_382 : decode cX12_init 382 = .ok (.iconst 2, 1) := by decide +kernel
theorem dX12_init_383 : decode cX12_init 383 = .ok (.bipush 102, 2) := by decide +kernel
theorem dX12_init_385 : decode cX12_init 385 = .ok (.bipush 97, 2) := by decide +kernel
theorem dX12_init_387 : decode cX12_init 387 = .ok (.bipush 114, 2) := by decide +kernel
theorem dX12_init_389 : decode cX12_init 389 = .ok (.iconst 0, 1) := by decide +kernel
theorem dX12_init_390 : decode cX12_init 390 = .ok (.iconst 0, 1) := by decide +kernel
theorem dX12_init_391 : decode cX12_init 391 = .ok (.iconst 0, 1) := by decide +kernel
theorem dX12_init_392 : decode cX12_init 392 = .ok (.iconst 0, 1) := by decide +kernel
theorem dX12_init_393 : decode cX12_init 393 = .ok (.invokestatic 141, 3) := by decide +kernel
theorem dX12_init_396 : decode cX12_init 396 = .ok (.lastore, 1) := by decide +kernel
theorem dX12_init_397 : decode cX12_init 397 = .ok (.aload_n 0, 1) := by decide +kernel
theorem dX12_init_398 : decode cX12_init 398 = .ok (.getfield 34, 3) := by decide +kernel
theorem dX12_init_401 : decode cX12_init 401 = .ok (.iconst 3, 1) := by decide +kernel
theorem dX12_init_402 : decode cX12_init 402 = .ok (.bipush 103, 2) := by decide +kernel
theorem dX12_init_404 : decode cX12_init 404 = .ok (.bipush 105, 2) := by decide +kernel
theorem dX12_init_406 : decode cX12_init 406 = .ok (.bipush 118, 2) := by decide +kernel
theorem dX12_init_408 : decode cX12_init 408 = .ok (.bipush 101, 2) := by decide +kernel
theorem dX12_init_410 : decode cX12_init 410 = .ok (.bipush 115, 2) := by decide +kernel
theorem dX12_init_412 : decode cX12_init 412 = .ok (.iconst 0, 1) := by decide +kernel
theorem dX12_init_413 : decode cX12_init 413 = .ok (.iconst 0, 1) := by decide +kernel
theorem dX12_init_414 : decode cX12_init 414 = .ok (.invokestatic 141, 3) := by decide +kernel
theorem dX12_init_417 : decode cX12_init 417 = .ok (.lastore, 1) := by decide +kernel
theorem dX12_init_418 : decode cX12_init 418 = .ok (.aload_n 0, 1) := by decide +kernel
theorem dX12_init_419 : decode cX12_init 419 = .ok (.getfield 34, 3) := by decide +kernel
theorem dX12_init_422 : decode cX12_init 422 = .ok (.iconst 4, 1) := by decide +kernel
theorem dX12_init_423 : decode cX12_init 423 = .ok (.bipush 115, 2) := by decide +kernel
theorem dX12_init_425 : decode cX12_init 425 = .ok (.bipush 116, 2) := by decide +kernel
theorem dX12_init_427 : decode cX12_init 427 = .ok (.bipush 121, 2) := by decide +kernel
theorem dX12_init_429 : decode cX12_init 429 = .ok (.bipush 108, 2) := by decide +kernel
theorem dX12_init_431 : decode cX12_init 431 = .ok (.bipush 101, 2) := by decide +kernel
theorem dX12_init_433 : decode cX12_init 433 = .ok (.iconst 0, 1) := by decide +kernel
theorem dX12_init_434 : decode cX12_init 434 = .ok (.iconst 0, 1) := by decide +kernel
theorem dX12_init_435 : decode cX12_init 435 = .ok (.invokestatic 141, 3) := by decide +kernel
theorem dX12_init_438 : decode cX12_init 438 = .ok (.lastore, 1) := by decide +kernel
theorem dX12_init_439 : decode cX12_init 439 = .ok (.aload_n 0, 1) := by decide +kernel
theorem dX12_init_440 : decode cX12_init 440 = .ok (.getfield 34, 3) := by decide +kernel
theorem dX12_init_443 : decode cX12_init 443 = .ok (.iconst 5, 1) := by decide +kernel
theorem dX12_init_444 : decode cX12_init 444 = .ok (.bipush 103, 2) := by decide +kernel
theorem dX12_init_446 : decode cX12_init 446 = .ok (.bipush 111, 2) := by decide +kernel
theorem dX12_init_448 : decode cX12_init 448 = .ok (.bipush 101, 2) := by decide +kernel
theorem dX12_init_450 : decode cX12_init 450 = .ok (.bipush 115, 2) := by decide +kernel
theorem dX12_init_452 : decode cX12_init 452 = .ok (.iconst 0, 1) := by decide +kernel
theorem dX12_init_453 : decode cX12_init 453 = .ok (.iconst 0, 1) := by decide +kernel
theorem dX12_init_454 : decode cX12_init 454 = .ok (.iconst 0, 1) := by decide +kernel
theorem dX12_init_455 : decode cX12_init 455 = .ok (.invokestatic 141, 3) := by decide +kernel
theorem dX12_init_458 : decode cX12_init 458 = .ok (.lastore, 1) := by decide +kernel
theorem dX12_init_459 : decode cX12_init 459 = .ok (.aload_n 0, 1) := by decide +kernel
theorem dX12_init_460 : decode cX12_init 460 = .ok (.getfield 34, 3) := by decide +kernel
theorem dX12_init_463 : decode cX12_init 463 = .ok (.bipush 6, 2) := by decide +kernel
theorem dX12_init_465 : decode cX12_init 465 = .ok (.bipush 112, 2) := by decide +kernel
theorem dX12_init_467 : decode cX12_init 467 = .ok (.bipush 97, 2) := by decide +kernel
theorem dX12_init_469 : decode cX12_init 469 = .ok (.bipush 114, 2) := by decide +kernel
theorem dX12_init_471 : decode cX12_init 471 = .ok (.bipush 116, 2) := by decide +kernel
theorem dX12_init_473 : decode cX12_init 473 = .ok (.bipush 115, 2) := by decide +kernel
theorem dX12_init_475 : decode cX12_init 475 = .ok (.iconst 0, 1) := by decide +kernel
theorem dX12_init_476 : decode cX12_init 476 = .ok (.iconst 0, 1) := by decide +kernel
theorem dX12_init_477 : decode cX12_init 477 = .ok (.invokestatic 141, 3) := by decide +kernel
theorem dX12_init_480 : decode cX12_init 480 = .ok (.lastore, 1) := by decide +kernel
theorem dX12_init_481 : decode cX12_init 481 = .ok (.aload_n 0, 1) := by decide +kernel
theorem dX12_init_482 : decode cX12_init 482 = .ok (.getfield 34, 3) := by decide +kernel
theorem dX12_init_485 : decode cX12_init 485 = .ok (.bipush 7, 2) := by decide +kernel
theorem dX12_init_487 : decode cX12_init 487 = .ok (.bipush 109, 2) := by decide +kernel
theorem dX12_init_489 : decode cX12_init 489 = .ok (.bipush 97, 2) := by decide +kernel
theorem dX12_init_491 : decode cX12_init 491 = .ok (.bipush 110, 2) := by decide +kernel
theorem dX12_init_493 : decode cX12_init 493 = .ok (.iconst 0, 1) := by decide +kernel
theorem dX12_init_494 : decode cX12_init 494 = .ok (.iconst 0, 1) := by decide +kernel
theorem dX12_init_495 : decode cX12_init 495 = .ok (.iconst 0, 1) := by decide +kernel
theorem dX12_init_496 : decode cX12_init 496 = .ok (.iconst 0, 1) := by decide +kernel
theorem dX12_init_497 : decode cX12_init 497 = .ok (.invokestatic 141, 3) := by decide +kernel
theorem dX12_init_500 : decode cX12_init 500 = .ok (.lastore, 1) := by decide +kernel
theorem dX12_init_501 : decode cX12_init 501 = .ok (.aload_n 0, 1) := by decide +kernel
theorem dX12_init_502 : decode cX12_init 502 = .ok (.getfield 34, 3) := by decide +kernel
theorem dX12_init_505 : decode cX12_init 505 = .ok (.bipush 8, 2) := by decide +kernel
theorem dX12_init_507 : decode cX12_init 507 = .ok (.bipush 106, 2) := by decide +kernel
theorem dX12_init_509 : decode cX12_init 509 = .ok (.bipush 117, 2) := by decide +kernel
theorem dX12_init_511 : decode cX12_init 511 = .ok (.bipush 100, 2) := by decide +kernel
theorem dX12_init_513 : decode cX12_init 513 = .ok (.bipush 103, 2) := by decide +kernel
theorem dX12_init_515 : decode cX12_init 515 = .ok (.bipush 101, 2) := by decide +kernel
theorem dX12_init_517 : decode cX12_init 517 = .ok (.iconst 0, 1) := by decide +kernel
theorem dX12_init_518 : decode cX12_init 518 = .ok (.iconst 0, 1) := by decide +kernel
theorem dX12_init_519 : decode cX12_init 519 = .ok (.invokestatic 141, 3) := by decide +kernel
theorem dX12_init_522 : decode cX12_init 522 = .ok (.lastore, 1) := by decide +kernel
theorem dX12_init_523 : decode cX12_init 523 = .ok (.aload_n 0, 1) := by decide +kernel
theorem dX12_init_524 : decode cX12_init 524 = .ok (.getfield 34, 3) := by decide +kernel
theorem dX12_init_527 : decode cX12_init 527 = .ok (.bipush 9, 2) := by decide +kernel
theorem dX12_init_529 : decode cX12_init 529 = .ok (.bipush 115, 2) := by decide +kernel
theorem dX12_init_531 : decode cX12_init 531 = .ok (.bipush 110, 2) := by decide +kernel
theorem dX12_init_533 : decode cX12_init 533 = .ok (.bipush 111, 2) := by decide +kernel
theorem dX12_init_535 : decode cX12_init 535 = .ok (.bipush 119, 2) := by decide +kernel
theorem dX12_init_537 : decode cX12_init 537 = .ok (.iconst 0, 1) := by decide +kernel
theorem dX12_init_538 : decode cX12_init 538 = .ok (.iconst 0, 1) := by decide +kernel
theorem dX12_init_539 : decode cX12_init 539 = .ok (.iconst 0, 1) := by decide +kernel
theorem dX12_init_540 : decode cX12_init 540 = .ok (.invokestatic 141, 3) := by decide +kernel
theorem dX12_init_543 : decode cX12_init 543 = .ok (.lastore, 1) := by decide +kernel
theorem dX12_init_544 : decode cX12_init 544 = .ok (.aload_n 0, 1) := by decide +kernel
theorem dX12_init_545 : decode cX12_init 545 = .ok (.getfield 34, 3) := by decide +kernel
theorem dX12_init_548 : decode cX12_init 548 = .ok (.bipush 10, 2) := by decide +kernel
theorem dX12_init_550 : decode cX12_init 550 = .ok (.bipush 103, 2) := by decide +kernel
theorem dX12_init_552 : decode cX12_init 552 = .ok (.bipush 117, 2) := by decide +kernel
theorem dX12_init_554 : decode cX12_init 554 = .ok (.bipush 115, 2) := by decide +kernel
theorem dX12_init_556 : decode cX12_init 556 = .ok (.bipush 116, 2) := by decide +kernel
theorem dX12_init_558 : decode cX12_init 558 = .ok (.bipush 115, 2) := by decide +kernel
theorem dX12_init_560 : decode cX12_init 560 = .ok (.iconst 0, 1) := by decide +kernel
theorem dX12_init_561 : decode cX12_init 561 = .ok (.iconst 0, 1) := by decide +kernel
theorem dX12_init_562 : decode cX12_init 562 = .ok (.invokestatic 141, 3) := by decide +kernel
theorem dX12_init_565 : decode cX12_init 565 = .ok (.lastore, 1) := by decide +kernel
theorem dX12_init_566 : decode cX12_init 566 = .ok (.aload_n 0, 1) := by decide +kernel
theorem dX12_init_567 : decode cX12_init 567 = .ok (.getfield 34, 3) := by decide +kernel
theorem dX12_init_570 : decode cX12_init 570 = .ok (.bipush 11, 2) := by decide +kernel
theorem dX12_init_572 : decode cX12_init 572 = .ok (.bipush 119, 2) := by decide +kernel
theorem dX12_init_574 : decode cX12_init 574 = .ok (.bipush 97, 2) := by decide +kernel
theorem dX12_init_576 : decode cX12_init 576 = .ok (.bipush 105, 2) := by decide +kernel
theorem dX12_init_578 : decode cX12_init 578 = .ok (.bipush 116, 2) := by decide +kernel
theorem dX12_init_580 : decode cX12_init 580 = .ok (.bipush 115, 2) := by decide +kernel
theorem dX12_init_582 : decode cX12_init 582 = .ok (.iconst 0, 1) := by decide +kernel
theorem dX12_init_583 : decode cX12_init 583 = .ok (.iconst 0, 1) := by decide +kernel
theorem dX12_init_584 : decode cX12_init 584 = .ok (.invokestatic 141, 3) := by decide +kernel
theorem dX12_init_587 : decode cX12_init 587 = .ok (.lastore, 1) := by decide +kernel
theorem dX12_init_588 : decode cX12_init 588 = .ok (.aload_n 0, 1) := by decide +kernel
theorem dX12_init_589 : decode cX12_init 589 = .ok (.getfield 34, 3) := by decide +kernel
theorem dX12_init_592 : decode cX12_init 592 = .ok (.bipush 12, 2) := by decide +kernel
theorem dX12_init_594 : decode cX12_init 594 = .ok (.bipush 103, 2) := by decide +kernel
theorem dX12_init_596 : decode cX12_init 596 = .ok (.bipush 97, 2) := by decide +kernel
theorem dX12_init_598 : decode cX12_init 598 = .ok (.bipush 116, 2) := by decide +kernel
theorem dX12_init_600 : decode cX12_init 600 = .ok (.bipush 101, 2) := by decide +kernel
theorem dX12_init_602 : decode cX12_init 602 = .ok (.iconst 0, 1) := by decide +kernel
theorem dX12_init_603 : decode cX12_init 603 = .ok (.iconst 0, 1) := by decide +kernel
theorem dX12_init_604 : decode cX12_init 604 = .ok (.iconst 0, 1) := by decide +kernel
theorem dX12_init_605 : decode cX12_init 605 = .ok (.invokestatic 141, 3) := by decide +kernel
theorem dX12_init_608 : decode cX12_init 608 = .ok (.lastore, 1) := by decide +kernel
theorem dX12_init_609 : decode cX12_init 609 = .ok (.aload_n 0, 1) := by decide +kernel
theorem dX12_init_610 : decode cX12_init 610 = .ok (.getfield 34, 3) := by decide +kernel
theorem dX12_init_613 : decode cX12_init 613 = .ok (.bipush 13, 2) := by decide +kernel
theorem dX12_init_615 : decode cX12_init 615 = .ok (.bipush 115, 2) := by decide +kernel
theorem dX12_init_617 : decode cX12_init 617 = .ok (.bipush 101, 2) := by decide +kernel
theorem dX12_init_619 : decode cX12_init 619 = .ok (.bipush 99, 2) := by decide +kernel
theorem dX12_init_621 : decode cX12_init 621 = .ok (.bipush 111, 2) := by decide +kernel
theorem dX12_init_623 : decode cX12_init 623 = .ok (.bipush 110, 2) := by decide +kernel
theorem dX12_init_625 : decode cX12_init 625 = .ok (.bipush 100, 2) := by decide +kernel
theorem dX12_init_627 : decode cX12_init 627 = .ok (.iconst 0, 1) := by decide +kernel
theorem dX12_init_628 : decode cX12_init 628 = .ok (.invokestatic 141, 3) := by decide +kernel
theorem dX12_init_631 : decode cX12_init 631 = .ok (.lastore, 1) := by decide +kernel
theorem dX12_init_632 : decode cX12_init 632 = .ok (.aload_n 0, 1) := by decide +kernel
theorem dX12_init_633 : decode cX12_init 633 = .ok (.getfield 34, 3) := by decide +kernel
theorem dX12_init_636 : decode cX12_init 636 = .ok (.bipush 14, 2) := by decide +kernel
theorem dX12_init_638 : decode cX12_init 638 = .ok (.bipush 115, 2) := by decide +kernel
theorem dX12_init_640 : decode cX12_init 640 = .ok (.bipush 101, 2) := by decide +kernel
theorem dX12_init_642 : decode cX12_init 642 = .ok (.bipush 101, 2) := by decide +kernel
theorem dX12_init_644 : decode cX12_init 644 = .ok (.bipush 100, 2) := by decide +kernel
theorem dX12_init_646 : decode cX12_init 646 = .ok (.iconst 0, 1) := by decide +kernel
theorem dX12_init_647 : decode cX12_init 647 = .ok (.iconst 0, 1) := by decide +kernel
theorem dX12_init_648 : decode cX12_init 648 = .ok (.iconst 0, 1) := by decide +kernel
theorem dX12_init_649 : decode cX12_init 649 = .ok (.invokestatic 141, 3) := by decide +kernel
theorem dX12_init_652 : decode cX12_init 652 = .ok (.lastore, 1) := by decide +kernel
theorem dX12_init_653 : decode cX12_init 653 = .ok (.aload_n 0, 1) := by decide +kernel
theorem dX12_init_654 : decode cX12_init 654 = .ok (.getfield 34, 3) := by decide +kernel
theorem dX12_init_657 : decode cX12_init 657 = .ok (.bipush 15, 2) := by decide +kernel
theorem dX12_init_659 : decode cX12_init 659 = .ok (.bipush 105, 2) := by decide +kernel
theorem dX12_init_661 : decode cX12_init 661 = .ok (.bipush 102, 2) := by decide +kernel
theorem dX12_init_663 : decode cX12_init 663 = .ok (.iconst 0, 1) := by decide +kernel
theorem dX12_init_664 : decode cX12_init 664 = .ok (.iconst 0, 1) := by decide +kernel
theorem dX12_init_665 : decode cX12_init 665 = .ok (.iconst 0, 1) := by decide +kernel
theorem dX12_init_666 : decode cX12_init 666 = .ok (.iconst 0, 1) := by decide +kernel
theorem dX12_init_667 : decode cX12_init 667 = .ok (.iconst 0, 1) := by decide +kernel
theorem dX12_init_668 : decode cX12_init 668 = .ok (.invokestatic 141, 3) := by decide +kernel
theorem dX12_init_671 : decode cX12_init 671 = .ok (.lastore, 1) := by decide +kernel
theorem dX12_init_672 : decode cX12_init 672 = .ok (.aload_n 0, 1) := by decide +kernel
theorem dX12_init_673 : decode cX12_init 673 = .ok (.getfield 34, 3) := by decide +kernel
theorem dX12_init_676 : decode cX12_init 676 = .ok (.bipush 16, 2) := by decide +kernel
theorem dX12_init_678 : decode cX12_init 678 = .ok (.bipush 116, 2) := by decide +kernel
theorem dX12_init_680 : decode cX12_init 680 = .ok (.bipush 104, 2) := by decide +kernel
theorem dX12_init_682 : decode cX12_init 682 = .ok (.bipush 101, 2) := by decide +kernel
theorem dX12_init_684 : decode cX12_init 684 = .ok (.bipush 110, 2) := by decide +kernel
theorem dX12_init_686 : decode cX12_init 686 = .ok (.iconst 0, 1) := by decide +kernel
theorem dX12_init_687 : decode cX12_init 687 = .ok (.iconst 0, 1) := by decide +kernel
theorem dX12_init_688 : decode cX12_init 688 = .ok (.iconst 0, 1) := by decide +kernel
theorem dX12_init_689 : decode cX12_init 689 = .ok (.invokestatic 141, 3) := by decide +kernel
theorem dX12_init_692 : decode cX12_init 692 = .ok (.lastore, 1) := by decide +kernel
theorem dX12_init_693 : decode cX12_init 693 = .ok (.aload_n 0, 1) := by decide +kernel
theorem dX12_init_694 : decode cX12_init 694 = .ok (.getfield 34, 3) := by decide +kernel
theorem dX12_init_697 : decode cX12_init 697 = .ok (.bipush 17, 2) := by decide +kernel
theorem dX12_init_699 : decode cX12_init 699 = .ok (.bipush 101, 2) := by decide +kernel
theorem dX12_init_701 : decode cX12_init 701 = .ok (.bipush 108, 2) := by decide +kernel
theorem dX12_init_703 : decode cX12_init 703 = .ok (.bipush 115, 2) := by decide +kernel
theorem dX12_init_705 : decode cX12_init 705 = .ok (.bipush 101, 2) := by decide +kernel
theorem dX12_init_707 : decode cX12_init 707 = .ok (.iconst 0, 1) := by decide +kernel
theorem dX12_init_708 : decode cX12_init 708 = .ok (.iconst 0, 1) := by decide +kernel
theorem dX12_init_709 : decode cX12_init 709 = .ok (.iconst 0, 1) := by decide +kernel
theorem dX12_init_710 : decode cX12_init 710 = .ok (.invokestatic 141, 3) := by decide +kernel
theorem dX12_init_713 : decode cX12_init 713 = .ok (.lastore, 1) := by decide +kernel
theorem dX12_init_714 : decode cX12_init 714 = .ok (.aload_n 0, 1) := by decide +kernel
theorem dX12_init_715 : decode cX12_init 715 = .ok (.getfield 34, 3) := by decide +kernel
theorem dX12_init_718 : decode cX12_init 718 = .ok (.bipush 18, 2) := by decide +kernel
theorem dX12_init_720 : decode cX12_init 720 = .ok (.bipush 97, 2) := by decide +kernel
theorem dX12_init_722 : decode cX12_init 722 = .ok (.bipush 116, 2) := by decide +kernel
theorem dX12_init_724 : decode cX12_init 724 = .ok (.iconst 0, 1) := by decide +kernel
theorem dX12_init_725 : decode cX12_init 725 = .ok (.iconst 0, 1) := by decide +kernel
theorem dX12_init_726 : decode cX12_init 726 = .ok (.iconst 0, 1) := by decide +kernel
theorem dX12_init_727 : decode cX12_init 727 = .ok (.iconst 0, 1) := by decide +kernel
theorem dX12_init_728 : decode cX12_init 728 = .ok (.iconst 0, 1) := by decide +kernel
theorem dX12_init_729 : decode cX12_init 729 = .ok (.invokestatic 141, 3) := by decide +kernel
theorem dX12_init_732 : decode cX12_init 732 = .ok (.lastore, 1) := by decide +kernel
theorem dX12_init_733 : decode cX12_init 733 = .ok (.aload_n 0, 1) := by decide +kernel
theorem dX12_init_734 : decode cX12_init 734 = .ok (.getfield 34, 3) := by decide +kernel
theorem dX12_init_737 : decode cX12_init 737 = .ok (.bipush 19, 2) := by decide +kernel
theorem dX12_init_739 : decode cX12_init 739 = .ok (.bipush 115, 2) := by decide +kernel
theorem dX12_init_741 : decode cX12_init 741 = .ok (.bipush 101, 2) := by decide +kernel
theorem dX12_init_743 : decode cX12_init 743 = .ok (.bipush 99, 2) := by decide +kernel
theorem dX12_init_745 : decode cX12_init 745 = .ok (.bipush 116, 2) := by decide +kernel
theorem dX12_init_747 : decode cX12_init 747 = .ok (.bipush 105, 2) := by decide +kernel
theorem dX12_init_749 : decode cX12_init 749 = .ok (.bipush 111, 2) := by decide +kernel
theorem dX12_init_751 : decode cX12_init 751 = .ok (.bipush 110, 2) := by decide +kernel
theorem dX12_init_753 : decode cX12_init 753 = .ok (.invokestatic 141, 3) := by decide +kernel
theorem dX12_init_756 : decode cX12_init 756 = .ok (.lastore, 1) := by decide +kernel
theorem dX12_init_757 : decode cX12_init 757 = .ok (.aload_n 0, 1) := by decide +kernel
theorem dX12_init_758 : decode cX12_init 758 = .ok (.getfield 34, 3) := by decide +kernel
theorem dX12_init_761 : decode cX12_init 761 = .ok (.bipush 20, 2) := by decide +kernel
theorem dX12_init_763 : decode cX12_init 763 = .ok (.bipush 103, 2) := by decide +kernel
theorem dX12_init_765 : decode cX12_init 765 = .ok (.bipush 117, 2) := by decide +kernel
theorem dX12_init_767 : decode cX12_init 767 = .ok (.bipush 115, 2) := by decide +kernel
theorem dX12_init_769 : decode cX12_init 769 = .ok (.bipush 116, 2) := by decide +kernel
theorem dX12_init_771 : decode cX12_init 771 = .ok (.iconst 0, 1) := by decide +kernel
theorem dX12_init_772 : decode cX12_init 772 = .ok (.iconst 0, 1) := by decide +kernel
theorem dX12_init_773 : decode cX12_init 773 = .ok (.iconst 0, 1) := by decide +kernel
theorem dX12_init_774 : decode cX12_init 774 = .ok (.invokestatic 141, 3) := by decide +kernel
theorem dX12_init_777 : decode cX12_init 777 = .ok (.lastore, 1) := by decide +kernel
theorem dX12_init_778 : decode cX12_init 778 = .ok (.aload_n 0, 1) := by decide +kernel
theorem dX12_init_779 : decode cX12_init 779 = .ok (.getfield 34, 3) := by decide +kernel
theorem dX12_init_782 : decode cX12_init 782 = .ok (.bipush 21, 2) := by decide +kernel
theorem dX12_init_784 : decode cX12_init 784 = .ok (.bipush 119, 2) := by decide +kernel
theorem dX12_init_786 : decode cX12_init 786 = .ok (.bipush 101, 2) := by decide +kernel
theorem dX12_init_788 : decode cX12_init 788 = .ok (.bipush 105, 2) := by decide +kernel
theorem dX12_init_790 : decode cX12_init 790 = .ok (.bipush 103, 2) := by decide +kernel
theorem dX12_init_792 : decode cX12_init 792 = .ok (.bipush 104, 2) := by decide +kernel
theorem dX12_init_794 : decode cX12_init 794 = .ok (.bipush 116, 2) := by decide +kernel
theorem dX12_init_796 : decode cX12_init 796 = .ok (.iconst 0, 1) := by decide +kernel
theorem dX12_init_797 : decode cX12_init 797 = .ok (.invokestatic 141, 3) := by decide +kernel
theorem dX12_init_800 : decode cX12_init 800 = .ok (.lastore, 1) := by decide +kernel
theorem dX12_init_801 : decode cX12_init 801 = .ok (.aload_n 0, 1) := by decide +kernel
theorem dX12_init_802 : decode cX12_init 802 = .ok (.getfield 34, 3) := by decide +kernel
theorem dX12_init_805 : decode cX12_init 805 = .ok (.bipush 22, 2) := by decide +kernel
theorem dX12_init_807 : decode cX12_init 807 = .ok (.bipush 115, 2) := by decide +kernel
theorem dX12_init_809 : decode cX12_init 809 = .ok (.bipush 107, 2) := by decide +kernel
theorem dX12_init_811 : decode cX12_init 811 = .ok (.bipush 105, 2) := by decide +kernel
theorem dX12_init_813 : decode cX12_init 813 = .ok (.iconst 0, 1) := by decide +kernel
theorem dX12_init_814 : decode cX12_init 814 = .ok (.iconst 0, 1) := by decide +kernel
theorem dX12_init_815 : decode cX12_init 815 = .ok (.iconst 0, 1) := by decide +kernel
theorem dX12_init_816 : decode cX12_init 816 = .ok (.iconst 0, 1) := by decide +kernel
theorem dX12_init_817 : decode cX12_init 817 = .ok (.invokestatic 141, 3) := by decide +kernel
theorem dX12_init_820 : decode cX12_init 820 = .ok (.lastore, 1) := by decide +kernel
theorem dX12_init_821 : decode cX12_init 821 = .ok (.aload_n 0, 1) := by decide +kernel
theorem dX12_init_822 : decode cX12_init 822 = .ok (.getfield 34, 3) := by decide +kernel
theorem dX12_init_825 : decode cX12_init 825 = .ok (.bipush 23, 2) := by decide +kernel
theorem dX12_init_827 : decode cX12_init 827 = .ok (.bipush 108, 2) := by decide +kernel
theorem dX12_init_829 : decode cX12_init 829 = .ok (.bipush 97, 2) := by decide +kernel
theorem dX12_init_831 : decode cX12_init 831 = .ok (.bipush 116, 2) := by decide +kernel
theorem dX12_init_833 : decode cX12_init 833 = .ok (.bipush 101, 2) := by decide +kernel
theorem dX12_init_835 : decode cX12_init 835 = .ok (.iconst 0, 1) := by decide +kernel
theorem dX12_init_836 : decode cX12_init 836 = .ok (.iconst 0, 1) := by decide +kernel
theorem dX12_init_837 : decode cX12_init 837 = .ok (.iconst 0, 1) := by decide +kernel
theorem dX12_init_838 : decode cX12_init 838 = .ok (.invokestatic 141, 3) := by decide +kernel
theorem dX12_init_841 : decode cX12_init 841 = .ok (.lastore, 1) := by decide +kernel
theorem dX12_init_842 : decode cX12_init 842 = .ok (.aload_n 0, 1) := by decide +kernel
theorem dX12_init_843 : decode cX12_init 843 = .ok (.getfield 34, 3) := by decide +kernel
theorem dX12_init_846 : decode cX12_init 846 = .ok (.bipush 24, 2) := by decide +kernel
theorem dX12_init_848 : decode cX12_init 848 = .ok (.bipush 119, 2) := by decide +kernel
theorem dX12_init_850 : decode cX12_init 850 = .ok (.bipush 104, 2) := by decide +kernel
theorem dX12_init_852 : decode cX12_init 852 = .ok (.bipush 105, 2) := by decide +kernel
theorem dX12_init_854 : decode cX12_init 854 = .ok (.bipush 116, 2) := by decide +kernel
theorem dX12_init_856 : decode cX12_init 856 = .ok (.bipush 101, 2) := by decide +kernel
theorem dX12_init_858 : decode cX12_init 858 = .ok (.iconst 0, 1) := by decide +kernel
theorem dX12_init_859 : decode cX12_init 859 = .ok (.iconst 0, 1) := by decide +kernel
theorem dX12_init_860 : decode cX12_init 860 = .ok (.invokestatic 141, 3) := by decide +kernel
theorem dX12_init_863 : decode cX12_init 863 = .ok (.lastore, 1) := by decide +kernel
theorem dX12_init_864 : decode cX12_init 864 = .ok (.aload_n 0, 1) := by decide +kernel
theorem dX12_init_865 : decode cX12_init 865 = .ok (.getfield 34, 3) := by decide +kernel
theorem dX12_init_868 : decode cX12_init 868 = .ok (.bipush 25, 2) := by decide +kernel
theorem dX12_init_870 : decode cX12_init 870 = .ok (.bipush 98, 2) := by decide +kernel
theorem dX12_init_872 : decode cX12_init 872 = .ok (.bipush 97, 2) := by decide +kernel
theorem dX12_init_874 : decode cX12_init 874 = .ok (.bipush 114, 2) := by decide +kernel
theorem dX12_init_876 : decode cX12_init 876 = .ok (.iconst 0, 1) := by decide +kernel
theorem dX12_init_877 : decode cX12_init 877 = .ok (.iconst 0, 1) := by decide +kernel
theorem dX12_init_878 : decode cX12_init 878 = .ok (.iconst 0, 1) := by decide +kernel
theorem dX12_init_879 : decode cX12_init 879 = .ok (.iconst 0, 1) := by decide +kernel
theorem dX12_init_880 : decode cX12_init 880 = .ok (.invokestatic 141, 3) := by decide +kernel
theorem dX12_init_883 : decode cX12_init 883 = .ok (.lastore, 1) := by decide +kernel
theorem dX12_init_884 : decode cX12_init 884 = .ok (.aload_n 0, 1) := by decide +kernel
theorem dX12_init_885 : decode cX12_init 885 = .ok (.getfield 34, 3) := by decide +kernel
theorem dX12_init_888 : decode cX12_init 888 = .ok (.bipush 26, 2) := by decide +kernel
theorem dX12_init_890 : decode cX12_init 890 = .ok (.bipush 108, 2) := by decide +kernel
theorem dX12_init_892 : decode cX12_init 892 = .ok (.bipush 101, 2) := by decide +kernel
theorem dX12_init_894 : decode cX12_init 894 = .ok (.bipush 110, 2) := by decide +kernel
theorem dX12_init_896 : decode cX12_init 896 = .ok (.bipush 103, 2) := by decide +kernel
theorem dX12_init_898 : decode cX12_init 898 = .ok (.bipush 116, 2) := by decide +kernel
theorem dX12_init_900 : decode cX12_init 900 = .ok (.bipush 104, 2) := by decide +kernel
theorem dX12_init_902 : decode cX12_init 902 = .ok (.iconst 0, 1) := by decide +kernel
theorem dX12_init_903 : decode cX12_init 903 = .ok (.invokestatic 141, 3) := by decide +kernel
theorem dX12_init_906 : decode cX12_init 906 = .ok (.lastore, 1) := by decide +kernel
theorem dX12_init_907 : decode cX12_init 907 = .ok (.aload_n 0, 1) := by decide +kernel
theorem dX12_init_908 : decode cX12_init 908 = .ok (.getfield 34, 3) := by decide +kernel
theorem dX12_init_911 : decode cX12_init 911 = .ok (.bipush 27, 2) := by decide +kernel
theorem dX12_init_913 : decode cX12_init 913 = .ok (.bipush 108, 2) := by decide +kernel
theorem dX12_init_915 : decode cX12_init 915 = .ok (.bipush 101, 2) := by decide +kernel
theorem dX12_init_917 : decode cX12_init 917 = .ok (.bipush 97, 2) := by decide +kernel
theorem dX12_init_919 : decode cX12_init 919 = .ok (.bipush 110, 2) := by decide +kernel
theorem dX12_init_921 : decode cX12_init 921 = .ok (.iconst 0, 1) := by decide +kernel
theorem dX12_init_922 : decode cX12_init 922 = .ok (.iconst 0, 1) := by decide +kernel
theorem dX12_init_923 : decode cX12_init 923 = .ok (.iconst 0, 1) := by decide +kernel
theorem dX12_init_924 : decode cX12_init 924 = .ok (.invokestatic 141, 3) := by decide +kernel
theorem dX12_init_927 : decode cX12_init 927 = .ok (.lastore, 1) := by decide +kernel
theorem dX12_init_928 : decode cX12_init 928 = .ok (.aload_n 0, 1) := by decide +kernel
theorem dX12_init_929 : decode cX12_init 929 = .ok (.getfield 34, 3) := by decide +kernel
theorem dX12_init_932 : decode cX12_init 932 = .ok (.bipush 28, 2) := by decide +kernel
theorem dX12_init_934 : decode cX12_init 934 = .ok (.bipush 104, 2) := by decide +kernel
theorem dX12_init_936 : decode cX12_init 936 = .ok (.bipush 111, 2) := by decide +kernel
theorem dX12_init_938 : decode cX12_init 938 = .ok (.bipush 109, 2) := by decide +kernel
theorem dX12_init_940 : decode cX12_init 940 = .ok (.bipush 101, 2) := by decide +kernel
theorem dX12_init_942 : decode cX12_init 942 = .ok (.iconst 0, 1) := by decide +kernel
theorem dX12_init_943 : decode cX12_init 943 = .ok (.iconst 0, 1) := by decide +kernel
theorem dX12_init_944 : decode cX12_init 944 = .ok (.iconst 0, 1) := by decide +kernel
theorem dX12_init_945 : decode cX12_init 945 = .ok (.invokestatic 141, 3) := by decide +kernel
theorem dX12_init_948 : decode cX12_init 948 = .ok (.lastore, 1) := by decide +kernel
theorem dX12_init_949 : decode cX12_init 949 = .ok (.aload_n 0, 1) := by decide +kernel
theorem dX12_init_950 : decode cX12_init 950 = .ok (.invokevirtual 145, 3) := by decide +kernel
theorem dX12_init_953 : decode cX12_init 953 = .ok (.aload_n 0, 1) := by decide +kernel
theorem dX12_init_954 : decode cX12_init 954 = .ok (.invokevirtual 148, 3) := by decide +kernel
theorem dX12_init_957 : decode cX12_init 957 = .ok (.return_, 1) := by decide +kernel
theorem dX12_feed_0 : decode cX12_feed 0 = .ok (.aload_n 0, 1) := by decide +kernel
theorem dX12_feed_1 : decode cX12_feed 1 = .ok (.getfield 151, 3) := by decide +kernel
theorem dX12_feed_4 : decode cX12_feed 4 = .ok (.bipush 20, 2) := by decide +kernel
theorem dX12_feed_6 : decode cX12_feed 6 = .ok (.iadd, 1) := by decide +kernel
theorem dX12_feed_7 : decode cX12_feed 7 = .ok (.sipush 2000, 3) := by decide +kernel
theorem dX12_feed_10 : decode cX12_feed 10 = .ok (.if_icmp .le 5, 3) := by decide +kernel
theorem dX12_feed_13 : decode cX12_feed 13 = .ok (.iconst (-1), 1) := by decide +kernel
theorem dX12_feed_14 : decode cX12_feed 14 = .ok (.ireturn, 1) := by decide +kernel
theorem dX12_feed_15 : decode cX12_feed 15 = .ok (.aload_n 0, 1) := by decide +kernel
theorem dX12_feed_16 : decode cX12_feed 16 = .ok (.iload_n 1, 1) := by decide +kernel
theorem dX12_feed_17 : decode cX12_feed 17 = .ok (.invokevirtual 154, 3) := by decide +kernel
theorem dX12_feed_20 : decode cX12_feed 20 = .ok (.aload_n 0, 1) := by decide +kernel
theorem dX12_feed_21 : decode cX12_feed 21 = .ok (.iload_n 2, 1) := by decide +kernel
theorem dX12_feed_22 : decode cX12_feed 22 = .ok (.invokevirtual 154, 3) := by decide +kernel
theorem dX12_feed_25 : decode cX12_feed 25 = .ok (.aload_n 0, 1) := by decide +kernel
theorem dX12_feed_26 : decode cX12_feed 26 = .ok (.iload_n 3, 1) := by decide +kernel
theorem dX12_feed_27 : decode cX12_feed 27 = .ok (.invokevirtual 154, 3) := by decide +kernel
theorem dX12_feed_30 : decode cX12_feed 30 = .ok (.aload_n 0, 1) := by decide +kernel
theorem dX12_feed_31 : decode cX12_feed 31 = .ok (.iload 4, 2) := by decide +kernel
theorem dX12_feed_33 : decode cX12_feed 33 = .ok (.invokevirtual 154, 3) := by decide +kernel
theorem dX12_feed_36 : decode cX12_feed 36 = .ok (.aload_n 0, 1) := by decide +kernel
theorem dX12_feed_37 : decode cX12_feed 37 = .ok (.iload 5, 2) := by decide +kernel
theorem dX12_feed_39 : decode cX12_feed 39 = .ok (.invokevirtual 154, 3) := by decide +kernel
theorem dX12_feed_42 : decode cX12_feed 42 = .ok (.aload_n 0, 1) := by decide +kernel
theorem dX12_feed_43 : decode cX12_feed 43 = .ok (.getfield 151, 3) := by decide +kernel
theorem dX12_feed_46 : decode cX12_feed 46 = .ok (.ireturn, 1) := by decide +kernel
theorem dX12_put_0 : decode cX12_put 0 = .ok (.bipush 24, 2) := by decide +kernel
theorem dX12_put_2 : decode cX12_put 2 = .ok (.istore_n 2, 1) := by decide +kernel
theorem dX12_put_3 : decode cX12_put 3 = .ok (.iload_n 2, 1) := by decide +kernel
theorem dX12_put_4 : decode cX12_put 4 = .ok (.ifCond .lt 32, 3) := by decide +kernel
theorem dX12_put_7 : decode cX12_put 7 = .ok (.aload_n 0, 1) := by decide +kernel
theorem dX12_put_8 : decode cX12_put 8 = .ok (.getfield 13, 3) := by decide +kernel
theorem dX12_put_11 : decode cX12_put 11 = .ok (.aload_n 0, 1) := by decide +kernel
theorem dX12_put_12 : decode cX12_put 12 = .ok (.getfield 151, 3) := by decide +kernel
theorem dX12_put_15 : decode cX12_put 15 = .ok (.iload_n 1, 1) := by decide +kernel
theorem dX12_put_16 : decode cX12_put 16 = .ok (.iload_n 2, 1) := by decide +kernel
theorem dX12_put_17 : decode cX12_put 17 = .ok (.ishr, 1) := by decide +kernel
theorem dX12_put_18 : decode cX12_put 18 = .ok (.i2b, 1) := by decide +kernel
theorem dX12_put_19 : decode cX12_put 19 = .ok (.bastore, 1) := by decide +kernel
theorem dX12_put_20 : decode cX12_put 20 = .ok (.aload_n 0, 1) := by decide +kernel
theorem dX12_put_21 : decode cX12_put 21 = .ok (.dup, 1) := by decide +kernel
theorem dX12_put_22 : decode cX12_put 22 = .ok (.getfield 151, 3) := by decide +kernel
theorem dX12_put_25 : decode cX12_put 25 = .ok (.iconst 1, 1) := by decide +kernel
theorem dX12_put_26 : decode cX12_put 26 = .ok (.iadd, 1) := by decide +kernel
theorem dX12_put_27 : decode cX12_put 27 = .ok (.putfield 151, 3) := by decide +kernel
theorem dX12_put_30 : decode cX12_put 30 = .ok (.iinc 2 (-8), 3) := by decide +kernel
theorem dX12_put_33 : decode cX12_put 33 = .ok (.goto (-30), 3) := by decide +kernel
theorem dX12_put_36 : decode cX12_put 36 = .ok (.return_, 1) := by decide +kernel
theorem dX12_back_0 : decode cX12_back 0 = .ok (.iload_n 1, 1) := by decide +kernel
theorem dX12_back_1 : decode cX12_back 1 = .ok (.ifCond .lt 11, 3) := by decide +kernel
theorem dX12_back_4 : decode cX12_back 4 = .ok (.iload_n 1, 1) := by decide +kernel
theorem dX12_back_5 : decode cX12_back 5 = .ok (.aload_n 0, 1) := by decide +kernel
theorem dX12_back_6 : decode cX12_back 6 = .ok (.getfield 151, 3) := by decide +kernel
theorem dX12_back_9 : decode cX12_back 9 = .ok (.if_icmp .le 5, 3) := by decide +kernel
theorem dX12_back_12 : decode cX12_back 12 = .ok (.iconst (-1), 1) := by decide +kernel
theorem dX12_back_13 : decode cX12_back 13 = .ok (.ireturn, 1) := by decide +kernel
theorem dX12_back_14 : decode cX12_back 14 = .ok (.aload_n 0, 1) := by decide +kernel
theorem dX12_back_15 : decode cX12_back 15 = .ok (.dup, 1) := by decide +kernel
theorem dX12_back_16 : decode cX12_back 16 = .ok (.getfield 151, 3) := by decide +kernel
theorem dX12_back_19 : decode cX12_back 19 = .ok (.iload_n 1, 1) := by decide +kernel
theorem dX12_back_20 : decode cX12_back 20 = .ok (.isub, 1) := by decide +kernel
theorem dX12_back_21 : decode cX12_back 21 = .ok (.putfield 151, 3) := by decide +kernel
theorem dX12_back_24 : decode cX12_back 24 = .ok (.aload_n 0, 1) := by decide +kernel
theorem dX12_back_25 : decode cX12_back 25 = .ok (.getfield 151, 3) := by decide +kernel
theorem dX12_back_28 : decode cX12_back 28 = .ok (.ireturn, 1) := by decide +kernel
theorem dX12_byteAt_0 : decode cX12_byteAt 0 = .ok (.iload_n 1, 1) := by decide +kernel
theorem dX12_byteAt_1 : decode cX12_byteAt 1 = .ok (.aload_n 0, 1) := by decide +kernel
theorem dX12_byteAt_2 : decode cX12_byteAt 2 = .ok (.getfield 157, 3) := by decide +kernel
theorem dX12_byteAt_5 : decode cX12_byteAt 5 = .ok (.if_icmp .ge 16, 3) := by decide +kernel
theorem dX12_byteAt_8 : decode cX12_byteAt 8 = .ok (.aload_n 0, 1) := by decide +kernel
theorem dX12_byteAt_9 : decode cX12_byteAt 9 = .ok (.getfield 17, 3) := by decide +kernel
theorem dX12_byteAt_12 : decode cX12_byteAt 12 = .ok (.iload_n 1, 1) := by decide +kernel
theorem dX12_byteAt_13 : decode cX12_byteAt 13 = .ok (.baload, 1) := by decide +kernel
theorem dX12_byteAt_14 : decode cX12_byteAt 14 = .ok (.sipush 255, 3) := by decide +kernel
theorem dX12_byteAt_17 : decode cX12_byteAt 17 = .ok (.iand, 1) := by decide +kernel
theorem dX12_byteAt_18 : decode cX12_byteAt 18 = .ok (.goto 4, 3) := by decide +kernel
theorem dX12_byteAt_21 : decode cX12_byteAt 21 = .ok (.iconst 0, 1) := by decide +kernel
theorem dX12_byteAt_22 : decode cX12_byteAt 22 = .ok (.ireturn, 1) := by decide +kernel
theorem dX12_isDigit_0 : decode cX12_isDigit 0 = .ok (.iload_n 0, 1) := by decide +kernel
theorem dX12_isDigit_1 : decode cX12_isDigit 1 = .ok (.bipush 48, 2) := by decide +kernel
theorem dX12_isDigit_3 : decode cX12_isDigit 3 = .ok (.if_icmp .lt 13, 3) := by decide +kernel
theorem dX12_isDigit_6 : decode cX12_isDigit 6 = .ok (.iload_n 0, 1) := by decide +kernel
theorem dX12_isDigit_7 : decode cX12_isDigit 7 = .ok (.bipush 57, 2) := by decide +kernel
theorem dX12_isDigit_9 : decode cX12_isDigit 9 = .ok (.if_icmp .gt 7, 3) := by decide +kernel
theorem dX12_isDigit_12 : decode cX12_isDigit 12 = .ok (.iconst 1, 1) := by decide +kernel
theorem dX12_isDigit_13 : decode cX12_isDigit 13 = .ok (.goto 4, 3) := by decide +kernel
theorem dX12_isDigit_16 : decode cX12_isDigit 16 = .ok (.iconst 0, 1) := by decide +kernel
theorem dX12_isDigit_17 : decode cX12_isDigit 17 = .ok (.ireturn, 1) := by decide +kernel
theorem dX12_isLetter_0 : decode cX12_isLetter 0 = .ok (.iload_n 0, 1) := by decide +kernel
theorem dX12_isLetter_1 : decode cX12_isLetter 1 = .ok (.bipush 97, 2) := by decide +kernel
theorem dX12_isLetter_3 : decode cX12_isLetter 3 = .ok (.if_icmp .lt 13, 3) := by decide +kernel
theorem dX12_isLetter_6 : decode cX12_isLetter 6 = .ok (.iload_n 0, 1) := by decide +kernel
theorem dX12_isLetter_7 : decode cX12_isLetter 7 = .ok (.bipush 122, 2) := by decide +kernel
theorem dX12_isLetter_9 : decode cX12_isLetter 9 = .ok (.if_icmp .gt 7, 3) := by decide +kernel
theorem dX12_isLetter_12 : decode cX12_isLetter 12 = .ok (.iconst 1, 1) := by decide +kernel
theorem dX12_isLetter_13 : decode cX12_isLetter 13 = .ok (.goto 4, 3) := by decide +kernel
theorem dX12_isLetter_16 : decode cX12_isLetter 16 = .ok (.iconst 0, 1) := by decide +kernel
theorem dX12_isLetter_17 : decode cX12_isLetter 17 = .ok (.ireturn, 1) := by decide +kernel
theorem dX12_appends_0 : decode cX12_appends 0 = .ok (.iload_n 2, 1) := by decide +kernel
theorem dX12_appends_1 : decode cX12_appends 1 = .ok (.ifCond .ne 7, 3) := by decide +kernel
theorem dX12_appends_4 : decode cX12_appends 4 = .ok (.lload_n 0, 1) := by decide +kernel
theorem dX12_appends_5 : decode cX12_appends 5 = .ok (.goto 16, 3) := by decide +kernel
theorem dX12_appends_8 : decode cX12_appends 8 = .ok (.ldc2_w 160, 3) := by decide +kernel
theorem dX12_appends_11 : decode cX12_appends 11 = .ok (.lload_n 0, 1) := by decide +kernel
theorem dX12_appends_12 : decode cX12_appends 12 = .ok (.lmul, 1) := by decide +kernel
theorem dX12_appends_13 : decode cX12_appends 13 = .ok (.iload_n 2, 1) := by decide +kernel
theorem dX12_appends_14 : decode cX12_appends 14 = .ok (.bipush 97, 2) := by decide +kernel
theorem dX12_appends_16 : decode cX12_appends 16 = .ok (.isub, 1) := by decide +kernel
theorem dX12_appends_17 : decode cX12_appends 17 = .ok (.iconst 1, 1) := by decide +kernel
theorem dX12_appends_18 : decode cX12_appends 18 = .ok (.iadd, 1) := by decide +kernel
theorem dX12_appends_19 : decode cX12_appends 19 = .ok (.i2l, 1) := by decide +kernel
theorem dX12_appends_20 : decode cX12_appends 20 = .ok (.ladd, 1) := by decide +kernel
theorem dX12_appends_21 : decode cX12_appends 21 = .ok (.lreturn, 1) := by decide +kernel
theorem dX12_word_0 : decode cX12_word 0 = .ok (.lconst 0, 1) := by decide +kernel
theorem dX12_word_1 : decode cX12_word 1 = .ok (.iload_n 0, 1) := by decide +kernel
theorem dX12_word_2 : decode cX12_word 2 = .ok (.invokestatic 162, 3) := by decide +kernel
theorem dX12_word_5 : decode cX12_word 5 = .ok (.iload_n 1, 1) := by decide +kernel
theorem dX12_word_6 : decode cX12_word 6 = .ok (.invokestatic 162, 3) := by decide +kernel
theorem dX12_word_9 : decode cX12_word 9 = .ok (.iload_n 2, 1) := by decide +kernel
theorem dX12_word_10 : decode cX12_word 10 = .ok (.invokestatic 162, 3) := by decide +kernel
theorem dX12_word_13 : decode cX12_word 13 = .ok (.iload_n 3, 1) := by decide +kernel
theorem dX12_word_14 : decode cX12_word 14 = .ok (.invokestatic 162, 3) := by decide +kernel
theorem dX12_word_17 : decode cX12_word 17 = .ok (.iload 4, 2) := by decide +kernel
theorem dX12_word_19 : decode cX12_word 19 = .ok (.invokestatic 162, 3) := by decide +kernel
theorem dX12_word_22 : decode cX12_word 22 = .ok (.iload 5, 2) := by decide +kernel
theorem dX12_word_24 : decode cX12_word 24 = .ok (.invokestatic 162, 3) := by decide +kernel
theorem dX12_word_27 : decode cX12_word 27 = .ok (.iload 6, 2) := by decide +kernel
theorem dX12_word_29 : decode cX12_word 29 = .ok (.invokestatic 162, 3) := by decide +kernel
theorem dX12_word_32 : decode cX12_word 32 = .ok (.lreturn, 1) := by decide +kernel
theorem dX12_token_0 : decode cX12_token 0 = .ok (.aload_n 0, 1) := by decide +kernel
theorem dX12_token_1 : decode cX12_token 1 = .ok (.getfield 20, 3) := by decide +kernel
theorem dX12_token_4 : decode cX12_token 4 = .ok (.aload_n 0, 1) := by decide +kernel
theorem dX12_token_5 : decode cX12_token 5 = .ok (.getfield 166, 3) := by decide +kernel
theorem dX12_token_8 : decode cX12_token 8 = .ok (.iload_n 1, 1) := by decide +kernel
theorem dX12_token_9 : decode cX12_token 9 = .ok (.iastore, 1) := by decide +kernel
theorem dX12_token_10 : decode cX12_token 10 = .ok (.aload_n 0, 1) := by decide +kernel
theorem dX12_token_11 : decode cX12_token 11 = .ok (.getfield 24, 3) := by decide +kernel
theorem dX12_token_14 : decode cX12_token 14 = .ok (.aload_n 0, 1) := by decide +kernel
theorem dX12_token_15 : decode cX12_token 15 = .ok (.getfield 166, 3) := by decide +kernel
theorem dX12_token_18 : decode cX12_token 18 = .ok (.iload_n 2, 1) := by decide +kernel
theorem dX12_token_19 : decode cX12_token 19 = .ok (.iastore, 1) := by decide +kernel
theorem dX12_token_20 : decode cX12_token 20 = .ok (.aload_n 0, 1) := by decide +kernel
theorem dX12_token_21 : decode cX12_token 21 = .ok (.getfield 27, 3) := by decide +kernel
theorem dX12_token_24 : decode cX12_token 24 = .ok (.aload_n 0, 1) := by decide +kernel
theorem dX12_token_25 : decode cX12_token 25 = .ok (.getfield 166, 3) := by decide +kernel
theorem dX12_token_28 : decode cX12_token 28 = .ok (.iload_n 3, 1) := by decide +kernel
theorem dX12_token_29 : decode cX12_token 29 = .ok (.iastore, 1) := by decide +kernel
theorem dX12_token_30 : decode cX12_token 30 = .ok (.aload_n 0, 1) := by decide +kernel
theorem dX12_token_31 : decode cX12_token 31 = .ok (.getfield 30, 3) := by decide +kernel
theorem dX12_token_34 : decode cX12_token 34 = .ok (.aload_n 0, 1) := by decide +kernel
theorem dX12_token_35 : decode cX12_token 35 = .ok (.getfield 166, 3) := by decide +kernel
theorem dX12_token_38 : decode cX12_token 38 = .ok (.lload 4, 2) := by decide +kernel
theorem dX12_token_40 : decode cX12_token 40 = .ok (.lastore, 1) := by decide +kernel
theorem dX12_token_41 : decode cX12_token 41 = .ok (.aload_n 0, 1) := by decide +kernel
theorem dX12_token_42 : decode cX12_token 42 = .ok (.dup, 1) := by decide +kernel
theorem dX12_token_43 : decode cX12_token 43 = .ok (.getfield 166, 3) := by decide +kernel
theorem dX12_token_46 : decode cX12_token 46 = .ok (.iconst 1, 1) := by decide +kernel
theorem dX12_token_47 : decode cX12_token 47 = .ok (.iadd, 1) := by decide +kernel
theorem dX12_token_48 : decode cX12_token 48 = .ok (.putfield 166, 3) := by decide +kernel
theorem dX12_token_51 : decode cX12_token 51 = .ok (.return_, 1) := by decide +kernel
theorem dX12_cut_0 : decode cX12_cut 0 = .ok (.aload_n 0, 1) := by decide +kernel
theorem dX12_cut_1 : decode cX12_cut 1 = .ok (.iconst 0, 1) := by decide +kernel
theorem dX12_cut_2 : decode cX12_cut 2 = .ok (.putfield 166, 3) := by decide +kernel
theorem dX12_cut_5 : decode cX12_cut 5 = .ok (.iconst 0, 1) := by decide +kernel
theorem dX12_cut_6 : decode cX12_cut 6 = .ok (.istore_n 1, 1) := by decide +kernel
theorem dX12_cut_7 : decode cX12_cut 7 = .ok (.aload_n 0, 1) := by decide +kernel
theorem dX12_cut_8 : decode cX12_cut 8 = .ok (.getfield 166, 3) := by decide +kernel
theorem dX12_cut_11 : decode cX12_cut 11 = .ok (.sipush 400, 3) := by decide +kernel
theorem dX12_cut_14 : decode cX12_cut 14 = .ok (.if_icmp .gt 280, 3) := by decide +kernel
theorem dX12_cut_17 : decode cX12_cut 17 = .ok (.aload_n 0, 1) := by decide +kernel
theorem dX12_cut_18 : decode cX12_cut 18 = .ok (.iload_n 1, 1) := by decide +kernel
theorem dX12_cut_19 : decode cX12_cut 19 = .ok (.invokevirtual 169, 3) := by decide +kernel
theorem dX12_cut_22 : decode cX12_cut 22 = .ok (.istore_n 2, 1) := by decide +kernel
theorem dX12_cut_23 : decode cX12_cut 23 = .ok (.iload_n 1, 1) := by decide +kernel
theorem dX12_cut_24 : decode cX12_cut 24 = .ok (.aload_n 0, 1) := by decide +kernel
theorem dX12_cut_25 : decode cX12_cut 25 = .ok (.getfield 157, 3) := by decide +kernel
theorem dX12_cut_28 : decode cX12_cut 28 = .ok (.if_icmp .lt 15, 3) := by decide +kernel
theorem dX12_cut_31 : decode cX12_cut 31 = .ok (.aload_n 0, 1) := by decide +kernel
theorem dX12_cut_32 : decode cX12_cut 32 = .ok (.iconst 0, 1) := by decide +kernel
theorem dX12_cut_33 : decode cX12_cut 33 = .ok (.aload_n 0, 1) := by decide +kernel
theorem dX12_cut_34 : decode cX12_cut 34 = .ok (.getfield 157, 3) := by decide +kernel
theorem dX12_cut_37 : decode cX12_cut 37 = .ok (.iconst 0, 1) := by decide +kernel
theorem dX12_cut_38 : decode cX12_cut 38 = .ok (.lconst 0, 1) := by decide +kernel
theorem dX12_cut_39 : decode cX12_cut 39 = .ok (.invokevirtual 173, 3) := by decide +kernel
theorem dX12_cut_42 : decode cX12_cut 42 = .ok (.return_, 1) := by decide +kernel
theorem dX12_cut_43 : decode cX12_cut 43 = .ok (.iload_n 2, 1) := by decide +kernel
theorem dX12_cut_44 : decode cX12_cut 44 = .ok (.bipush 9, 2) := by decide +kernel
theorem dX12_cut_46 : decode cX12_cut 46 = .ok (.if_icmp .eq 21, 3) := by decide +kernel
theorem dX12_cut_49 : decode cX12_cut 49 = .ok (.iload_n 2, 1) := by decide +kernel
theorem dX12_cut_50 : decode cX12_cut 50 = .ok (.bipush 10, 2) := by decide +kernel
theorem dX12_cut_52 : decode cX12_cut 52 = .ok (.if_icmp .eq 15, 3) := by decide +kernel
theorem dX12_cut_55 : decode cX12_cut 55 = .ok (.iload_n 2, 1) := by decide +kernel
theorem dX12_cut_56 : decode cX12_cut 56 = .ok (.bipush 13, 2) := by decide +kernel
theorem dX12_cut_58 : decode cX12_cut 58 = .ok (.if_icmp .eq 9, 3) := by decide +kernel
theorem dX12_cut_61 : decode cX12_cut 61 = .ok (.iload_n 2, 1) := by decide +kernel
theorem dX12_cut_62 : decode cX12_cut 62 = .ok (.bipush 32, 2) := by decide +kernel
theorem dX12_cut_64 : decode cX12_cut 64 = .ok (.if_icmp .ne 9, 3) := by decide +kernel
theorem dX12_cut_67 : decode cX12_cut 67 = .ok (.iinc 1 1, 3) := by decide +kernel
theorem dX12_cut_70 : decode cX12_cut 70 = .ok (.goto 221, 3) := by decide +kernel
theorem dX12_cut_73 : decode cX12_cut 73 = .ok (.iload_n 2, 1) := by decide +kernel
theorem dX12_cut_74 : decode cX12_cut 74 = .ok (.invokestatic 177, 3) := by decide +kernel
theorem dX12_cut_77 : decode cX12_cut 77 = .ok (.ifCond .eq 119, 3) := by decide +kernel
theorem dX12_cut_80 : decode cX12_cut 80 = .ok (.iconst 0, 1) := by decide +kernel
theorem dX12_cut_81 : decode cX12_cut 81 = .ok (.istore_n 3, 1) := by decide +kernel
theorem dX12_cut_82 : decode cX12_cut 82 = .ok (.lconst 0, 1) := by decide +kernel
theorem dX12_cut_83 : decode cX12_cut 83 = .ok (.lstore 4, 2) := by decide +kernel
theorem dX12_cut_85 : decode cX12_cut 85 = .ok (.aload_n 0, 1) := by decide +kernel
theorem dX12_cut_86 : decode cX12_cut 86 = .ok (.iload_n 1, 1) := by decide +kernel
theorem dX12_cut_87 : decode cX12_cut 87 = .ok (.iload_n 3, 1) := by decide +kernel
theorem dX12_cut_88 : decode cX12_cut 88 = .ok (.iadd, 1) := by decide +kernel
theorem dX12_cut_89 : decode cX12_cut 89 = .ok (.invokevirtual 169, 3) := by decide +kernel
theorem dX12_cut_92 : decode cX12_cut 92 = .ok (.invokestatic 177, 3) := by decide +kernel
theorem dX12_cut_95 : decode cX12_cut 95 = .ok (.ifCond .eq 29, 3) := by decide +kernel
theorem dX12_cut_98 : decode cX12_cut 98 = .ok (.iload_n 3, 1) := by decide +kernel
theorem dX12_cut_99 : decode cX12_cut 99 = .ok (.bipush 8, 2) := by decide +kernel
theorem dX12_cut_101 : decode cX12_cut 101 = .ok (.if_icmp .ge 17, 3) := by decide +kernel
theorem dX12_cut_104 : decode cX12_cut 104 = .ok (.lload 4, 2) := by decide +kernel
theorem dX12_cut_106 : decode cX12_cut 106 = .ok (.aload_n 0, 1) := by decide +kernel
theorem dX12_cut_107 : decode cX12_cut 107 = .ok (.iload_n 1, 1) := by decide +kernel
theorem dX12_cut_108 : decode cX12_cut 108 = .ok (.iload_n 3, 1) := by decide +kernel
theorem dX12_cut_109 : decode cX12_cut 109 = .ok (.iadd, 1) := by decide +kernel
theorem dX12_cut_110 : decode cX12_cut 110 = .ok (.invokevirtual 169, 3) := by decide +kernel
theorem dX12_cut_113 : decode cX12_cut 113 = .ok (.invokestatic 162, 3) := by decide +kernel
theorem dX12_cut_116 : decode cX12_cut 116 = .ok (.lstore 4, 2) := by decide +kernel
theorem dX12_cut_118 : decode cX12_cut 118 = .ok (.iinc 3 1, 3) := by decide +kernel
theorem dX12_cut_121 : decode cX12_cut 121 = .ok (.goto (-36), 3) := by decide +kernel
theorem dX12_cut_124 : decode cX12_cut 124 = .ok (.iload_n 3, 1) := by decide +kernel
theorem dX12_cut_125 : decode cX12_cut 125 = .ok (.bipush 8, 2) := by decide +kernel
theorem dX12_cut_127 : decode cX12_cut 127 = .ok (.if_icmp .le 7, 3) := by decide +kernel
theorem dX12_cut_130 : decode cX12_cut 130 = .ok (.iconst 3, 1) := by decide +kernel
theorem dX12_cut_131 : decode cX12_cut 131 = .ok (.goto 4, 3) := by decide +kernel
theorem dX12_cut_134 : decode cX12_cut 134 = .ok (.iconst 1, 1) := by decide +kernel
theorem dX12_cut_135 : decode cX12_cut 135 = .ok (.istore 6, 2) := by decide +kernel
theorem dX12_cut_137 : decode cX12_cut 137 = .ok (.iload_n 3, 1) := by decide +kernel
theorem dX12_cut_138 : decode cX12_cut 138 = .ok (.bipush 7, 2) := by decide +kernel
theorem dX12_cut_140 : decode cX12_cut 140 = .ok (.if_icmp .gt 39, 3) := by decide +kernel
theorem dX12_cut_143 : decode cX12_cut 143 = .ok (.iconst 0, 1) := by decide +kernel
theorem dX12_cut_144 : decode cX12_cut 144 = .ok (.istore 7, 2) := by decide +kernel
theorem dX12_cut_146 : decode cX12_cut 146 = .ok (.iload 7, 2) := by decide +kernel
theorem dX12_cut_148 : decode cX12_cut 148 = .ok (.bipush 29, 2) := by decide +kernel
theorem dX12_cut_150 : decode cX12_cut 150 = .ok (.if_icmp .ge 29, 3) := by decide +kernel
theorem dX12_cut_153 : decode cX12_cut 153 = .ok (.aload_n 0, 1) := by decide +kernel
theorem dX12_cut_154 : decode cX12_cut 154 = .ok (.getfield 34, 3) := by decide +kernel
theorem dX12_cut_157 : decode cX12_cut 157 = .ok (.iload 7, 2) := by decide +kernel
theorem dX12_cut_159 : decode cX12_cut 159 = .ok (.laload, 1) := by decide +kernel
theorem dX12_cut_160 : decode cX12_cut 160 = .ok (.lload 4, 2) := by decide +kernel
theorem dX12_cut_162 : decode cX12_cut 162 = .ok (.lcmp, 1) := by decide +kernel
theorem dX12_cut_163 : decode cX12_cut 163 = .ok (.ifCond .ne 10, 3) := by decide +kernel
theorem dX12_cut_166 : decode cX12_cut 166 = .ok (.bipush 20, 2) := by decide +kernel
theorem dX12_cut_168 : decode cX12_cut 168 = .ok (.iload 7, 2) := by decide +kernel
theorem dX12_cut_170 : decode cX12_cut 170 = .ok (.iadd, 1) := by decide +kernel
theorem dX12_cut_171 : decode cX12_cut 171 = .ok (.istore 6, 2) := by decide +kernel
theorem dX12_cut_173 : decode cX12_cut 173 = .ok (.iinc 7 1, 3) := by decide +kernel
theorem dX12_cut_176 : decode cX12_cut 176 = .ok (.goto (-30), 3) := by decide +kernel
theorem dX12_cut_179 : decode cX12_cut 179 = .ok (.aload_n 0, 1) := by decide +kernel
theorem dX12_cut_180 : decode cX12_cut 180 = .ok (.iload 6, 2) := by decide +kernel
theorem dX12_cut_182 : decode cX12_cut 182 = .ok (.iload_n 1, 1) := by decide +kernel
theorem dX12_cut_183 : decode cX12_cut 183 = .ok (.iconst 0, 1) := by decide +kernel
theorem dX12_cut_184 : decode cX12_cut 184 = .ok (.lload 4, 2) := by decide +kernel
theorem dX12_cut_186 : decode cX12_cut 186 = .ok (.invokevirtual 173, 3) := by decide +kernel
theorem dX12_cut_189 : decode cX12_cut 189 = .ok (.iload_n 1, 1) := by decide +kernel
theorem dX12_cut_190 : decode cX12_cut 190 = .ok (.iload_n 3, 1) := by decide +kernel
theorem dX12_cut_191 : decode cX12_cut 191 = .ok (.iadd, 1) := by decide +kernel
theorem dX12_cut_192 : decode cX12_cut 192 = .ok (.istore_n 1, 1) := by decide +kernel
theorem dX12_cut_193 : decode cX12_cut 193 = .ok (.goto 98, 3) := by decide +kernel
theorem dX12_cut_196 : decode cX12_cut 196 = .ok (.iload_n 2, 1) := by decide +kernel
theorem dX12_cut_197 : decode cX12_cut 197 = .ok (.invokestatic 181, 3) := by decide +kernel
theorem dX12_cut_200 : decode cX12_cut 200 = .ok (.ifCond .eq 75, 3) := by decide +kernel
theorem dX12_cut_203 : decode cX12_cut 203 = .ok (.iconst 0, 1) := by decide +kernel
theorem dX12_cut_204 : decode cX12_cut 204 = .ok (.istore_n 3, 1) := by decide +kernel
theorem dX12_cut_205 : decode cX12_cut 205 = .ok (.iconst 0, 1) := by decide +kernel
theorem dX12_cut_206 : decode cX12_cut 206 = .ok (.istore 4, 2) := by decide +kernel
theorem dX12_cut_208 : decode cX12_cut 208 = .ok (.aload_n 0, 1) := by decide +kernel
theorem dX12_cut_209 : decode cX12_cut 209 = .ok (.iload_n 1, 1) := by decide +kernel
theorem dX12_cut_210 : decode cX12_cut 210 = .ok (.iload_n 3, 1) := by decide +kernel
theorem dX12_cut_211 : decode cX12_cut 211 = .ok (.iadd, 1) := by decide +kernel
theorem dX12_cut_212 : decode cX12_cut 212 = .ok (.invokevirtual 169, 3) := by decide +kernel
theorem dX12_cut_215 : decode cX12_cut 215 = .ok (.invokestatic 181, 3) := by decide +kernel
theorem dX12_cut_218 : decode cX12_cut 218 = .ok (.ifCond .eq 32, 3) := by decide +kernel
theorem dX12_cut_221 : decode cX12_cut 221 = .ok (.iload_n 3, 1) := by decide +kernel
theorem dX12_cut_222 : decode cX12_cut 222 = .ok (.iconst 4, 1) := by decide +kernel
theorem dX12_cut_223 : decode cX12_cut 223 = .ok (.if_icmp .ge 21, 3) := by decide +kernel
theorem dX12_cut_226 : decode cX12_cut 226 = .ok (.bipush 10, 2) := by decide +kernel
theorem dX12_cut_228 : decode cX12_cut 228 = .ok (.iload 4, 2) := by decide +kernel
theorem dX12_cut_230 : decode cX12_cut 230 = .ok (.imul, 1) := by decide +kernel
theorem dX12_cut_231 : decode cX12_cut 231 = .ok (.aload_n 0, 1) := by decide +kernel
theorem dX12_cut_232 : decode cX12_cut 232 = .ok (.iload_n 1, 1) := by decide +kernel
theorem dX12_cut_233 : decode cX12_cut 233 = .ok (.iload_n 3, 1) := by decide +kernel
theorem dX12_cut_234 : decode cX12_cut 234 = .ok (.iadd, 1) := by decide +kernel
theorem dX12_cut_235 : decode cX12_cut 235 = .ok (.invokevirtual 169, 3) := by decide +kernel
theorem dX12_cut_238 : decode cX12_cut 238 = .ok (.iadd, 1) := by decide +kernel
theorem dX12_cut_239 : decode cX12_cut 239 = .ok (.bipush 48, 2) := by decide +kernel
theorem dX12_cut_241 : decode cX12_cut 241 = .ok (.isub, 1) := by decide +kernel
theorem dX12_cut_242 : decode cX12_cut 242 = .ok (.istore 4, 2) := by decide +kernel
theorem dX12_cut_244 : decode cX12_cut 244 = .ok (.iinc 3 1, 3) := by decide +kernel
theorem dX12_cut_247 : decode cX12_cut 247 = .ok (.goto (-39), 3) := by decide +kernel
theorem dX12_cut_250 : decode cX12_cut 250 = .ok (.aload_n 0, 1) := by decide +kernel
theorem dX12_cut_251 : decode cX12_cut 251 = .ok (.iload_n 3, 1) := by decide +kernel
theorem dX12_cut_252 : decode cX12_cut 252 = .ok (.iconst 4, 1) := by decide +kernel
theorem dX12_cut_253 : decode cX12_cut 253 = .ok (.if_icmp .le 7, 3) := by decide +kernel
theorem dX12_cut_256 : decode cX12_cut 256 = .ok (.iconst 3, 1) := by decide +kernel
theorem dX12_cut_257 : decode cX12_cut 257 = .ok (.goto 4, 3) := by decide +kernel
theorem dX12_cut_260 : decode cX12_cut 260 = .ok (.iconst 2, 1) := by decide +kernel
theorem dX12_cut_261 : decode cX12_cut 261 = .ok (.iload_n 1, 1) := by decide +kernel
theorem dX12_cut_262 : decode cX12_cut 262 = .ok (.iload 4, 2) := by decide +kernel
theorem dX12_cut_264 : decode cX12_cut 264 = .ok (.lconst 0, 1) := by decide +kernel
theorem dX12_cut_265 : decode cX12_cut 265 = .ok (.invokevirtual 173, 3) := by decide +kernel
theorem dX12_cut_268 : decode cX12_cut 268 = .ok (.iload_n 1, 1) := by decide +kernel
theorem dX12_cut_269 : decode cX12_cut 269 = .ok (.iload_n 3, 1) := by decide +kernel
theorem dX12_cut_270 : decode cX12_cut 270 = .ok (.iadd, 1) := by decide +kernel
theorem dX12_cut_271 : decode cX12_cut 271 = .ok (.istore_n 1, 1) := by decide +kernel
theorem dX12_cut_272 : decode cX12_cut 272 = .ok (.goto 19, 3) := by decide +kernel
theorem dX12_cut_275 : decode cX12_cut 275 = .ok (.iload_n 1, 1) := by decide +kernel
theorem dX12_cut_276 : decode cX12_cut 276 = .ok (.aload_n 0, 1) := by decide +kernel
theorem dX12_cut_277 : decode cX12_cut 277 = .ok (.iload_n 1, 1) := by decide +kernel
theorem dX12_cut_278 : decode cX12_cut 278 = .ok (.iload_n 2, 1) := by decide +kernel
theorem dX12_cut_279 : decode cX12_cut 279 = .ok (.aload_n 0, 1) := by decide +kernel
theorem dX12_cut_280 : decode cX12_cut 280 = .ok (.iload_n 1, 1) := by decide +kernel
theorem dX12_cut_281 : decode cX12_cut 281 = .ok (.iconst 1, 1) := by decide +kernel
theorem dX12_cut_282 : decode cX12_cut 282 = .ok (.iadd, 1) := by decide +kernel
theorem dX12_cut_283 : decode cX12_cut 283 = .ok (.invokevirtual 169, 3) := by decide +kernel
theorem dX12_cut_286 : decode cX12_cut 286 = .ok (.invokevirtual 184, 3) := by decide +kernel
theorem dX12_cut_289 : decode cX12_cut 289 = .ok (.iadd, 1) := by decide +kernel
theorem dX12_cut_290 : decode cX12_cut 290 = .ok (.istore_n 1, 1) := by decide +kernel
theorem dX12_cut_291 : decode cX12_cut 291 = .ok (.goto (-284), 3) := by decide +kernel
theorem dX12_cut_294 : decode cX12_cut 294 = .ok (.return_, 1) := by decide +kernel
theorem dX12_sign_0 : decode cX12_sign 0 = .ok (.iload_n 2, 1) := by decide +kernel
theorem dX12_sign_1 : decode cX12_sign 1 = .ok (.bipush 59, 2) := by decide +kernel
theorem dX12_sign_3 : decode cX12_sign 3 = .ok (.if_icmp .ne 7, 3) := by decide +kernel
theorem dX12_sign_6 : decode cX12_sign 6 = .ok (.iconst 4, 1) := by decide +kernel
theorem dX12_sign_7 : decode cX12_sign 7 = .ok (.goto 36, 3) := by decide +kernel
theorem dX12_sign_10 : decode cX12_sign 10 = .ok (.iload_n 2, 1) := by decide +kernel
theorem dX12_sign_11 : decode cX12_sign 11 = .ok (.bipush 61, 2) := by decide +kernel
theorem dX12_sign_13 : decode cX12_sign 13 = .ok (.if_icmp .ne 7, 3) := by decide +kernel
theorem dX12_sign_16 : decode cX12_sign 16 = .ok (.iconst 5, 1) := by decide +kernel
theorem dX12_sign_17 : decode cX12_sign 17 = .ok (.goto 26, 3) := by decide +kernel
theorem dX12_sign_20 : decode cX12_sign 20 = .ok (.iload_n 2, 1) := by decide +kernel
theorem dX12_sign_21 : decode cX12_sign 21 = .ok (.bipush 40, 2) := by decide +kernel
theorem dX12_sign_23 : decode cX12_sign 23 = .ok (.if_icmp .ne 8, 3) := by decide +kernel
theorem dX12_sign_26 : decode cX12_sign 26 = .ok (.bipush 6, 2) := by decide +kernel
theorem dX12_sign_28 : decode cX12_sign 28 = .ok (.goto 15, 3) := by decide +kernel
theorem dX12_sign_31 : decode cX12_sign 31 = .ok (.iload_n 2, 1) := by decide +kernel
theorem dX12_sign_32 : decode cX12_sign 32 = .ok (.bipush 41, 2) := by decide +kernel
theorem dX12_sign_34 : decode cX12_sign 34 = .ok (.if_icmp .ne 8, 3) := by decide +kernel
theorem dX12_sign_37 : decode cX12_sign 37 = .ok (.bipush 7, 2) := by decide +kernel
theorem dX12_sign_39 : decode cX12_sign 39 = .ok (.goto 4, 3) := by decide +kernel
theorem dX12_sign_42 : decode cX12_sign 42 = .ok (.iconst 3, 1) := by decide +kernel
theorem dX12_sign_43 : decode cX12_sign 43 = .ok (.istore 4, 2) := by decide +kernel
theorem dX12_sign_45 : decode cX12_sign 45 = .ok (.iload_n 2, 1) := by decide +kernel
theorem dX12_sign_46 : decode cX12_sign 46 = .ok (.bipush 43, 2) := by decide +kernel
theorem dX12_sign_48 : decode cX12_sign 48 = .ok (.if_icmp .ne 7, 3) := by decide +kernel
theorem dX12_sign_51 : decode cX12_sign 51 = .ok (.bipush 8, 2) := by decide +kernel
theorem dX12_sign_53 : decode cX12_sign 53 = .ok (.istore 4, 2) := by decide +kernel
theorem dX12_sign_55 : decode cX12_sign 55 = .ok (.iload_n 2, 1) := by decide +kernel
theorem dX12_sign_56 : decode cX12_sign 56 = .ok (.bipush 45, 2) := by decide +kernel
theorem dX12_sign_58 : decode cX12_sign 58 = .ok (.if_icmp .ne 7, 3) := by decide +kernel
theorem dX12_sign_61 : decode cX12_sign 61 = .ok (.bipush 9, 2) := by decide +kernel
theorem dX12_sign_63 : decode cX12_sign 63 = .ok (.istore 4, 2) := by decide +kernel
theorem dX12_sign_65 : decode cX12_sign 65 = .ok (.iload_n 2, 1) := by decide +kernel
theorem dX12_sign_66 : decode cX12_sign 66 = .ok (.bipush 42, 2) := by decide +kernel
theorem dX12_sign_68 : decode cX12_sign 68 = .ok (.if_icmp .ne 7, 3) := by decide +kernel
theorem dX12_sign_71 : decode cX12_sign 71 = .ok (.bipush 10, 2) := by decide +kernel
theorem dX12_sign_73 : decode cX12_sign 73 = .ok (.istore 4, 2) := by decide +kernel
theorem dX12_sign_75 : decode cX12_sign 75 = .ok (.iload_n 2, 1) := by decide +kernel
theorem dX12_sign_76 : decode cX12_sign 76 = .ok (.bipush 47, 2) := by decide +kernel
theorem dX12_sign_78 : decode cX12_sign 78 = .ok (.if_icmp .ne 7, 3) := by decide +kernel
theorem dX12_sign_81 : decode cX12_sign 81 = .ok (.bipush 15, 2) := by decide +kernel
theorem dX12_sign_83 : decode cX12_sign 83 = .ok (.istore 4, 2) := by decide +kernel
theorem dX12_sign_85 : decode cX12_sign 85 = .ok (.iload_n 2, 1) := by decide +kernel
theorem dX12_sign_86 : decode cX12_sign 86 = .ok (.bipush 60, 2) := by decide +kernel
theorem dX12_sign_88 : decode cX12_sign 88 = .ok (.if_icmp .ne 7, 3) := by decide +kernel
theorem dX12_sign_91 : decode cX12_sign 91 = .ok (.bipush 13, 2) := by decide +kernel
theorem dX12_sign_93 : decode cX12_sign 93 = .ok (.istore 4, 2) := by decide +kernel
theorem dX12_sign_95 : decode cX12_sign 95 = .ok (.aload_n 0, 1) := by decide +kernel
theorem dX12_sign_96 : decode cX12_sign 96 = .ok (.iload 4, 2) := by decide +kernel
theorem dX12_sign_98 : decode cX12_sign 98 = .ok (.iload_n 1, 1) := by decide +kernel
theorem dX12_sign_99 : decode cX12_sign 99 = .ok (.iconst 0, 1) := by decide +kernel
theorem dX12_sign_100 : decode cX12_sign 100 = .ok (.lconst 0, 1) := by decide +kernel
theorem dX12_sign_101 : decode cX12_sign 101 = .ok (.invokevirtual 173, 3) := by decide +kernel
theorem dX12_sign_104 : decode cX12_sign 104 = .ok (.iconst 1, 1) := by decide +kernel
theorem dX12_sign_105 : decode cX12_sign 105 = .ok (.ireturn, 1) := by decide +kernel
theorem dX12_is_0 : decode cX12_is 0 = .ok (.aload_n 0, 1) := by decide +kernel
theorem dX12_is_1 : decode cX12_is 1 = .ok (.getfield 188, 3) := by decide +kernel
theorem dX12_is_4 : decode cX12_is 4 = .ok (.ifCond .ne 20, 3) := by decide +kernel
theorem dX12_is_7 : decode cX12_is 7 = .ok (.aload_n 0, 1) := by decide +kernel
theorem dX12_is_8 : decode cX12_is 8 = .ok (.getfield 20, 3) := by decide +kernel
theorem dX12_is_11 : decode cX12_is 11 = .ok (.aload_n 0, 1) := by decide +kernel
theorem dX12_is_12 : decode cX12_is 12 = .ok (.getfield 191, 3) := by decide +kernel
theorem dX12_is_15 : decode cX12_is 15 = .ok (.iaload, 1) := by decide +kernel
theorem dX12_is_16 : decode cX12_is 16 = .ok (.iload_n 1, 1) := by decide +kernel
theorem dX12_is_17 : decode cX12_is 17 = .ok (.if_icmp .ne 7, 3) := by decide +kernel
theorem dX12_is_20 : decode cX12_is 20 = .ok (.iconst 1, 1) := by decide +kernel
theorem dX12_is_21 : decode cX12_is 21 = .ok (.goto 4, 3) := by decide +kernel
theorem dX12_is_24 : decode cX12_is 24 = .ok (.iconst 0, 1) := by decide +kernel
theorem dX12_is_25 : decode cX12_is 25 = .ok (.ireturn, 1) := by decide +kernel
theorem dX12_fail_0 : decode cX12_fail 0 = .ok (.aload_n 0, 1) := by decide +kernel
theorem dX12_fail_1 : decode cX12_fail 1 = .ok (.getfield 188, 3) := by decide +kernel
theorem dX12_fail_4 : decode cX12_fail 4 = .ok (.ifCond .le 4, 3) := by decide +kernel
theorem dX12_fail_7 : decode cX12_fail 7 = .ok (.return_, 1) := by decide +kernel
theorem dX12_fail_8 : decode cX12_fail 8 = .ok (.aload_n 0, 1) := by decide +kernel
theorem dX12_fail_9 : decode cX12_fail 9 = .ok (.iload_n 1, 1) := by decide +kernel
theorem dX12_fail_10 : decode cX12_fail 10 = .ok (.putfield 188, 3) := by decide +kernel
theorem dX12_fail_13 : decode cX12_fail 13 = .ok (.aload_n 0, 1) := by decide +kernel
theorem dX12_fail_14 : decode cX12_fail 14 = .ok (.aload_n 0, 1) := by decide +kernel
theorem dX12_fail_15 : decode cX12_fail 15 = .ok (.getfield 24, 3) := by decide +kernel
theorem dX12_fail_18 : decode cX12_fail 18 = .ok (.aload_n 0, 1) := by decide +kernel
theorem dX12_fail_19 : decode cX12_fail 19 = .ok (.getfield 191, 3) := by decide +kernel
theorem dX12_fail_22 : decode cX12_fail 22 = .ok (.iaload, 1) := by decide +kernel
theorem dX12_fail_23 : decode cX12_fail 23 = .ok (.putfield 194, 3) := by decide +kernel
theorem dX12_fail_26 : decode cX12_fail 26 = .ok (.return_, 1) := by decide +kernel
theorem dX12_wrong_0 : decode cX12_wrong 0 = .ok (.aload_n 0, 1) := by decide +kernel
theorem dX12_wrong_1 : decode cX12_wrong 1 = .ok (.getfield 24, 3) := by decide +kernel
theorem dX12_wrong_4 : decode cX12_wrong 4 = .ok (.iload_n 2, 1) := by decide +kernel
theorem dX12_wrong_5 : decode cX12_wrong 5 = .ok (.iaload, 1) := by decide +kernel
theorem dX12_wrong_6 : decode cX12_wrong 6 = .ok (.istore_n 3, 1) := by decide +kernel
theorem dX12_wrong_7 : decode cX12_wrong 7 = .ok (.aload_n 0, 1) := by decide +kernel
theorem dX12_wrong_8 : decode cX12_wrong 8 = .ok (.getfield 188, 3) := by decide +kernel
theorem dX12_wrong_11 : decode cX12_wrong 11 = .ok (.ifCond .gt 34, 3) := by decide +kernel
theorem dX12_wrong_14 : decode cX12_wrong 14 = .ok (.aload_n 0, 1) := by decide +kernel
theorem dX12_wrong_15 : decode cX12_wrong 15 = .ok (.getfield 197, 3) := by decide +kernel
theorem dX12_wrong_18 : decode cX12_wrong 18 = .ok (.ifCond .eq 28, 3) := by decide +kernel
theorem dX12_wrong_21 : decode cX12_wrong 21 = .ok (.iload_n 3, 1) := by decide +kernel
theorem dX12_wrong_22 : decode cX12_wrong 22 = .ok (.aload_n 0, 1) := by decide +kernel
theorem dX12_wrong_23 : decode cX12_wrong 23 = .ok (.getfield 200, 3) := by decide +kernel
theorem dX12_wrong_26 : decode cX12_wrong 26 = .ok (.if_icmp .gt 19, 3) := by decide +kernel
theorem dX12_wrong_29 : decode cX12_wrong 29 = .ok (.iload_n 3, 1) := by decide +kernel
theorem dX12_wrong_30 : decode cX12_wrong 30 = .ok (.aload_n 0, 1) := by decide +kernel
theorem dX12_wrong_31 : decode cX12_wrong 31 = .ok (.getfield 200, 3) := by decide +kernel
theorem dX12_wrong_34 : decode cX12_wrong 34 = .ok (.if_icmp .ne 12, 3) := by decide +kernel
theorem dX12_wrong_37 : decode cX12_wrong 37 = .ok (.iload_n 1, 1) := by decide +kernel
theorem dX12_wrong_38 : decode cX12_wrong 38 = .ok (.aload_n 0, 1) := by decide +kernel
theorem dX12_wrong_39 : decode cX12_wrong 39 = .ok (.getfield 197, 3) := by decide +kernel
theorem dX12_wrong_42 : decode cX12_wrong 42 = .ok (.if_icmp .lt 4, 3) := by decide +kernel
theorem dX12_wrong_45 : decode cX12_wrong 45 = .ok (.return_, 1) := by decide +kernel
theorem dX12_wrong_46 : decode cX12_wrong 46 = .ok (.aload_n 0, 1) := by decide +kernel
theorem dX12_wrong_47 : decode cX12_wrong 47 = .ok (.iload_n 1, 1) := by decide +kernel
theorem dX12_wrong_48 : decode cX12_wrong 48 = .ok (.putfield 197, 3) := by decide +kernel
theorem dX12_wrong_51 : decode cX12_wrong 51 = .ok (.aload_n 0, 1) := by decide +kernel
theorem dX12_wrong_52 : decode cX12_wrong 52 = .ok (.iload_n 3, 1) := by decide +kernel
theorem dX12_wrong_53 : decode cX12_wrong 53 = .ok (.putfield 200, 3) := by decide +kernel
theorem dX12_wrong_56 : decode cX12_wrong 56 = .ok (.return_, 1) := by decide +kernel
theorem dX12_goesOn_0 : decode cX12_goesOn 0 = .ok (.aload_n 0, 1) := by decide +kernel
theorem dX12_goesOn_1 : decode cX12_goesOn 1 = .ok (.getfield 191, 3) := by decide +kernel
theorem dX12_goesOn_4 : decode cX12_goesOn 4 = .ok (.sipush 400, 3) := by decide +kernel
theorem dX12_goesOn_7 : decode cX12_goesOn 7 = .ok (.if_icmp .ne 11, 3) := by decide +kernel
theorem dX12_goesOn_10 : decode cX12_goesOn 10 = .ok (.aload_n 0, 1) := by decide +kernel
theorem dX12_goesOn_11 : decode cX12_goesOn 11 = .ok (.iconst 2, 1) := by decide +kernel
theorem dX12_goesOn_12 : decode cX12_goesOn 12 = .ok (.invokevirtual 203, 3) := by decide +kernel
theorem dX12_goesOn_15 : decode cX12_goesOn 15 = .ok (.goto 13, 3) := by decide +kernel
theorem dX12_goesOn_18 : decode cX12_goesOn 18 = .ok (.aload_n 0, 1) := by decide +kernel
theorem dX12_goesOn_19 : decode cX12_goesOn 19 = .ok (.dup, 1) := by decide +kernel
theorem dX12_goesOn_20 : decode cX12_goesOn 20 = .ok (.getfield 191, 3) := by decide +kernel
theorem dX12_goesOn_23 : decode cX12_goesOn 23 = .ok (.iconst 1, 1) := by decide +kernel
theorem dX12_goesOn_24 : decode cX12_goesOn 24 = .ok (.iadd, 1) := by decide +kernel
theorem dX12_goesOn_25 : decode cX12_goesOn 25 = .ok (.putfield 191, 3) := by decide +kernel
theorem dX12_goesOn_28 : decode cX12_goesOn 28 = .ok (.return_, 1) := by decide +kernel
theorem dX12_must_0 : decode cX12_must 0 = .ok (.aload_n 0, 1) := by decide +kernel
theorem dX12_must_1 : decode cX12_must 1 = .ok (.iload_n 1, 1) := by decide +kernel
theorem dX12_must_2 : decode cX12_must 2 = .ok (.invokevirtual 206, 3) := by decide +kernel
theorem dX12_must_5 : decode cX12_must 5 = .ok (.ifCond .eq 10, 3) := by decide +kernel
theorem dX12_must_8 : decode cX12_must 8 = .ok (.aload_n 0, 1) := by decide +kernel
theorem dX12_must_9 : decode cX12_must 9 = .ok (.invokevirtual 209, 3) := by decide +kernel
theorem dX12_must_12 : decode cX12_must 12 = .ok (.goto 8, 3) := by decide +kernel
theorem dX12_must_15 : decode cX12_must 15 = .ok (.aload_n 0, 1) := by decide +kernel
theorem dX12_must_16 : decode cX12_must 16 = .ok (.iconst 1, 1) := by decide +kernel
theorem dX12_must_17 : decode cX12_must 17 = .ok (.invokevirtual 203, 3) := by decide +kernel
theorem dX12_must_20 : decode cX12_must 20 = .ok (.return_, 1) := by decide +kernel
theorem dX12_plain_0 : decode cX12_plain 0 = .ok (.bipush 20, 2) := by decide +kernel
theorem dX12_plain_2 : decode cX12_plain 2 = .ok (.iload_n 1, 1) := by decide +kernel
theorem dX12_plain_3 : decode cX12_plain 3 = .ok (.imul, 1) := by decide +kernel
theorem dX12_plain_4 : decode cX12_plain 4 = .ok (.istore_n 2, 1) := by decide +kernel
theorem dX12_plain_5 : decode cX12_plain 5 = .ok (.iconst 0, 1) := by decide +kernel
theorem dX12_plain_6 : decode cX12_plain 6 = .ok (.istore_n 3, 1) := by decide +kernel
theorem dX12_plain_7 : decode cX12_plain 7 = .ok (.iload_n 3, 1) := by decide +kernel
theorem dX12_plain_8 : decode cX12_plain 8 = .ok (.bipush 20, 2) := by decide +kernel
theorem dX12_plain_10 : decode cX12_plain 10 = .ok (.if_icmp .ge 18, 3) := by decide +kernel
theorem dX12_plain_13 : decode cX12_plain 13 = .ok (.aload_n 0, 1) := by decide +kernel
theorem dX12_plain_14 : decode cX12_plain 14 = .ok (.getfield 43, 3) := by decide +kernel
theorem dX12_plain_17 : decode cX12_plain 17 = .ok (.iload_n 2, 1) := by decide +kernel
theorem dX12_plain_18 : decode cX12_plain 18 = .ok (.iload_n 3, 1) := by decide +kernel
theorem dX12_plain_19 : decode cX12_plain 19 = .ok (.iadd, 1) := by decide +kernel
theorem dX12_plain_20 : decode cX12_plain 20 = .ok (.iconst 0, 1) := by decide +kernel
theorem dX12_plain_21 : decode cX12_plain 21 = .ok (.iastore, 1) := by decide +kernel
theorem dX12_plain_22 : decode cX12_plain 22 = .ok (.iinc 3 1, 3) := by decide +kernel
theorem dX12_plain_25 : decode cX12_plain 25 = .ok (.goto (-18), 3) := by decide +kernel
theorem dX12_plain_28 : decode cX12_plain 28 = .ok (.aload_n 0, 1) := by decide +kernel
theorem dX12_plain_29 : decode cX12_plain 29 = .ok (.getfield 43, 3) := by decide +kernel
theorem dX12_plain_32 : decode cX12_plain 32 = .ok (.iload_n 2, 1) := by decide +kernel
theorem dX12_plain_33 : decode cX12_plain 33 = .ok (.sipush 900, 3) := by decide +kernel
theorem dX12_plain_36 : decode cX12_plain 36 = .ok (.iastore, 1) := by decide +kernel
theorem dX12_plain_37 : decode cX12_plain 37 = .ok (.aload_n 0, 1) := by decide +kernel
theorem dX12_plain_38 : decode cX12_plain 38 = .ok (.getfield 43, 3) := by decide +kernel
theorem dX12_plain_41 : decode cX12_plain 41 = .ok (.iload_n 2, 1) := by decide +kernel
theorem dX12_plain_42 : decode cX12_plain 42 = .ok (.iconst 1, 1) := by decide +kernel
theorem dX12_plain_43 : decode cX12_plain 43 = .ok (.iadd, 1) := by decide +kernel
theorem dX12_plain_44 : decode cX12_plain 44 = .ok (.sipush 1000, 3) := by decide +kernel
theorem dX12_plain_47 : decode cX12_plain 47 = .ok (.iastore, 1) := by decide +kernel
theorem dX12_plain_48 : decode cX12_plain 48 = .ok (.aload_n 0, 1) := by decide +kernel
theorem dX12_plain_49 : decode cX12_plain 49 = .ok (.getfield 43, 3) := by decide +kernel
theorem dX12_plain_52 : decode cX12_plain 52 = .ok (.iload_n 2, 1) := by decide +kernel
theorem dX12_plain_53 : decode cX12_plain 53 = .ok (.iconst 2, 1) := by decide +kernel
theorem dX12_plain_54 : decode cX12_plain 54 = .ok (.iadd, 1) := by decide +kernel
theorem dX12_plain_55 : decode cX12_plain 55 = .ok (.bipush 20, 2) := by decide +kernel
theorem dX12_plain_57 : decode cX12_plain 57 = .ok (.iastore, 1) := by decide +kernel
theorem dX12_plain_58 : decode cX12_plain 58 = .ok (.iconst 3, 1) := by decide +kernel
theorem dX12_plain_59 : decode cX12_plain 59 = .ok (.istore_n 3, 1) := by decide +kernel
theorem dX12_plain_60 : decode cX12_plain 60 = .ok (.iload_n 3, 1) := by decide +kernel
theorem dX12_plain_61 : decode cX12_plain 61 = .ok (.bipush 8, 2) := by decide +kernel
theorem dX12_plain_63 : decode cX12_plain 63 = .ok (.if_icmp .ge 18, 3) := by decide +kernel
theorem dX12_plain_66 : decode cX12_plain 66 = .ok (.aload_n 0, 1) := by decide +kernel
theorem dX12_plain_67 : decode cX12_plain 67 = .ok (.getfield 43, 3) := by decide +kernel
theorem dX12_plain_70 : decode cX12_plain 70 = .ok (.iload_n 2, 1) := by decide +kernel
theorem dX12_plain_71 : decode cX12_plain 71 = .ok (.iload_n 3, 1) := by decide +kernel
theorem dX12_plain_72 : decode cX12_plain 72 = .ok (.iadd, 1) := by decide +kernel
theorem dX12_plain_73 : decode cX12_plain 73 = .ok (.iconst 1, 1) := by decide +kernel
theorem dX12_plain_74 : decode cX12_plain 74 = .ok (.iastore, 1) := by decide +kernel
theorem dX12_plain_75 : decode cX12_plain 75 = .ok (.iinc 3 1, 3) := by decide +kernel
theorem dX12_plain_78 : decode cX12_plain 78 = .ok (.goto (-18), 3) := by decide +kernel
theorem dX12_plain_81 : decode cX12_plain 81 = .ok (.aload_n 0, 1) := by decide +kernel
theorem dX12_plain_82 : decode cX12_plain 82 = .ok (.getfield 43, 3) := by decide +kernel
theorem dX12_plain_85 : decode cX12_plain 85 = .ok (.iload_n 2, 1) := by decide +kernel
theorem dX12_plain_86 : decode cX12_plain 86 = .ok (.bipush 10, 2) := by decide +kernel
theorem dX12_plain_88 : decode cX12_plain 88 = .ok (.iadd, 1) := by decide +kernel
theorem dX12_plain_89 : decode cX12_plain 89 = .ok (.bipush 10, 2) := by decide +kernel
theorem dX12_plain_91 : decode cX12_plain 91 = .ok (.iastore, 1) := by decide +kernel
theorem dX12_plain_92 : decode cX12_plain 92 = .ok (.aload_n 0, 1) := by decide +kernel
theorem dX12_plain_93 : decode cX12_plain 93 = .ok (.getfield 43, 3) := by decide +kernel
theorem dX12_plain_96 : decode cX12_plain 96 = .ok (.iload_n 2, 1) := by decide +kernel
theorem dX12_plain_97 : decode cX12_plain 97 = .ok (.bipush 11, 2) := by decide +kernel
theorem dX12_plain_99 : decode cX12_plain 99 = .ok (.iadd, 1) := by decide +kernel
theorem dX12_plain_100 : decode cX12_plain 100 = .ok (.bipush 60, 2) := by decide +kernel
theorem dX12_plain_102 : decode cX12_plain 102 = .ok (.iastore, 1) := by decide +kernel
theorem dX12_plain_103 : decode cX12_plain 103 = .ok (.aload_n 0, 1) := by decide +kernel
theorem dX12_plain_104 : decode cX12_plain 104 = .ok (.getfield 43, 3) := by decide +kernel
theorem dX12_plain_107 : decode cX12_plain 107 = .ok (.iload_n 2, 1) := by decide +kernel
theorem dX12_plain_108 : decode cX12_plain 108 = .ok (.bipush 12, 2) := by decide +kernel
theorem dX12_plain_110 : decode cX12_plain 110 = .ok (.iadd, 1) := by decide +kernel
theorem dX12_plain_111 : decode cX12_plain 111 = .ok (.bipush 20, 2) := by decide +kernel
theorem dX12_plain_113 : decode cX12_plain 113 = .ok (.iastore, 1) := by decide +kernel
theorem dX12_plain_114 : decode cX12_plain 114 = .ok (.aload_n 0, 1) := by decide +kernel
theorem dX12_plain_115 : decode cX12_plain 115 = .ok (.getfield 43, 3) := by decide +kernel
theorem dX12_plain_118 : decode cX12_plain 118 = .ok (.iload_n 2, 1) := by decide +kernel
theorem dX12_plain_119 : decode cX12_plain 119 = .ok (.bipush 13, 2) := by decide +kernel
theorem dX12_plain_121 : decode cX12_plain 121 = .ok (.iadd, 1) := by decide +kernel
theorem dX12_plain_122 : decode cX12_plain 122 = .ok (.bipush 50, 2) := by decide +kernel
theorem dX12_plain_124 : decode cX12_plain 124 = .ok (.iastore, 1) := by decide +kernel
theorem dX12_plain_125 : decode cX12_plain 125 = .ok (.aload_n 0, 1) := by decide +kernel
theorem dX12_plain_126 : decode cX12_plain 126 = .ok (.getfield 43, 3) := by decide +kernel
theorem dX12_plain_129 : decode cX12_plain 129 = .ok (.iload_n 2, 1) := by decide +kernel
theorem dX12_plain_130 : decode cX12_plain 130 = .ok (.bipush 14, 2) := by decide +kernel
theorem dX12_plain_132 : decode cX12_plain 132 = .ok (.iadd, 1) := by decide +kernel
theorem dX12_plain_133 : decode cX12_plain 133 = .ok (.bipush 8, 2) := by decide +kernel
theorem dX12_plain_135 : decode cX12_plain 135 = .ok (.iastore, 1) := by decide +kernel
theorem dX12_plain_136 : decode cX12_plain 136 = .ok (.aload_n 0, 1) := by decide +kernel
theorem dX12_plain_137 : decode cX12_plain 137 = .ok (.getfield 46, 3) := by decide +kernel
theorem dX12_plain_140 : decode cX12_plain 140 = .ok (.iload_n 1, 1) := by decide +kernel
theorem dX12_plain_141 : decode cX12_plain 141 = .ok (.iconst 0, 1) := by decide +kernel
theorem dX12_plain_142 : decode cX12_plain 142 = .ok (.iastore, 1) := by decide +kernel
theorem dX12_plain_143 : decode cX12_plain 143 = .ok (.aload_n 0, 1) := by decide +kernel
theorem dX12_plain_144 : decode cX12_plain 144 = .ok (.getfield 61, 3) := by decide +kernel
theorem dX12_plain_147 : decode cX12_plain 147 = .ok (.iload_n 1, 1) := by decide +kernel
theorem dX12_plain_148 : decode cX12_plain 148 = .ok (.iconst 0, 1) := by decide +kernel
theorem dX12_plain_149 : decode cX12_plain 149 = .ok (.iastore, 1) := by decide +kernel
theorem dX12_plain_150 : decode cX12_plain 150 = .ok (.iconst 0, 1) := by decide +kernel
theorem dX12_plain_151 : decode cX12_plain 151 = .ok (.istore_n 3, 1) := by decide +kernel
theorem dX12_plain_152 : decode cX12_plain 152 = .ok (.iload_n 3, 1) := by decide +kernel
theorem dX12_plain_153 : decode cX12_plain 153 = .ok (.iconst 5, 1) := by decide +kernel
theorem dX12_plain_154 : decode cX12_plain 154 = .ok (.if_icmp .ge 31, 3) := by decide +kernel
theorem dX12_plain_157 : decode cX12_plain 157 = .ok (.aload_n 0, 1) := by decide +kernel
theorem dX12_plain_158 : decode cX12_plain 158 = .ok (.getfield 70, 3) := by decide +kernel
theorem dX12_plain_161 : decode cX12_plain 161 = .ok (.iconst 5, 1) := by decide +kernel
theorem dX12_plain_162 : decode cX12_plain 162 = .ok (.iload_n 1, 1) := by decide +kernel
theorem dX12_plain_163 : decode cX12_plain 163 = .ok (.imul, 1) := by decide +kernel
theorem dX12_plain_164 : decode cX12_plain 164 = .ok (.iload_n 3, 1) := by decide +kernel
theorem dX12_plain_165 : decode cX12_plain 165 = .ok (.iadd, 1) := by decide +kernel
theorem dX12_plain_166 : decode cX12_plain 166 = .ok (.iconst 0, 1) := by decide +kernel
theorem dX12_plain_167 : decode cX12_plain 167 = .ok (.iastore, 1) := by decide +kernel
theorem dX12_plain_168 : decode cX12_plain 168 = .ok (.aload_n 0, 1) := by decide +kernel
theorem dX12_plain_169 : decode cX12_plain 169 = .ok (.getfield 73, 3) := by decide +kernel
theorem dX12_plain_172 : decode cX12_plain 172 = .ok (.iconst 5, 1) := by decide +kernel
theorem dX12_plain_173 : decode cX12_plain 173 = .ok (.iload_n 1, 1) := by decide +kernel
theorem dX12_plain_174 : decode cX12_plain 174 = .ok (.imul, 1) := by decide +kernel
theorem dX12_plain_175 : decode cX12_plain 175 = .ok (.iload_n 3, 1) := by decide +kernel
theorem dX12_plain_176 : decode cX12_plain 176 = .ok (.iadd, 1) := by decide +kernel
theorem dX12_plain_177 : decode cX12_plain 177 = .ok (.iconst 0, 1) := by decide +kernel
theorem dX12_plain_178 : decode cX12_plain 178 = .ok (.iastore, 1) := by decide +kernel
theorem dX12_plain_179 : decode cX12_plain 179 = .ok (.iinc 3 1, 3) := by decide +kernel
theorem dX12_plain_182 : decode cX12_plain 182 = .ok (.goto (-30), 3) := by decide +kernel
theorem dX12_plain_185 : decode cX12_plain 185 = .ok (.return_, 1) := by decide +kernel
theorem dX12_read_0 : decode cX12_read 0 = .ok (.aload_n 0, 1) := by decide +kernel
theorem dX12_read_1 : decode cX12_read 1 = .ok (.aload_n 0, 1) := by decide +kernel
theorem dX12_read_2 : decode cX12_read 2 = .ok (.getfield 151, 3) := by decide +kernel
theorem dX12_read_5 : decode cX12_read 5 = .ok (.putfield 157, 3) := by decide +kernel
theorem dX12_read_8 : decode cX12_read 8 = .ok (.iconst 0, 1) := by decide +kernel
theorem dX12_read_9 : decode cX12_read 9 = .ok (.istore_n 1, 1) := by decide +kernel
theorem dX12_read_10 : decode cX12_read 10 = .ok (.iload_n 1, 1) := by decide +kernel
theorem dX12_read_11 : decode cX12_read 11 = .ok (.aload_n 0, 1) := by decide +kernel
theorem dX12_read_12 : decode cX12_read 12 = .ok (.getfield 157, 3) := by decide +kernel
theorem dX12_read_15 : decode cX12_read 15 = .ok (.if_icmp .ge 21, 3) := by decide +kernel
theorem dX12_read_18 : decode cX12_read 18 = .ok (.aload_n 0, 1) := by decide +kernel
theorem dX12_read_19 : decode cX12_read 19 = .ok (.getfield 17, 3) := by decide +kernel
theorem dX12_read_22 : decode cX12_read 22 = .ok (.iload_n 1, 1) := by decide +kernel
theorem dX12_read_23 : decode cX12_read 23 = .ok (.aload_n 0, 1) := by decide +kernel
theorem dX12_read_24 : decode cX12_read 24 = .ok (.getfield 13, 3) := by decide +kernel
theorem dX12_read_27 : decode cX12_read 27 = .ok (.iload_n 1, 1) := by decide +kernel
theorem dX12_read_28 : decode cX12_read 28 = .ok (.baload, 1) := by decide +kernel
theorem dX12_read_29 : decode cX12_read 29 = .ok (.bastore, 1) := by decide +kernel
theorem dX12_read_30 : decode cX12_read 30 = .ok (.iinc 1 1, 3) := by decide +kernel
theorem dX12_read_33 : decode cX12_read 33 = .ok (.goto (-23), 3) := by decide +kernel
theorem dX12_read_36 : decode cX12_read 36 = .ok (.aload_n 0, 1) := by decide +kernel
theorem dX12_read_37 : decode cX12_read 37 = .ok (.iconst 0, 1) := by decide +kernel
theorem dX12_read_38 : decode cX12_read 38 = .ok (.putfield 151, 3) := by decide +kernel
theorem dX12_read_41 : decode cX12_read 41 = .ok (.aload_n 0, 1) := by decide +kernel
theorem dX12_read_42 : decode cX12_read 42 = .ok (.invokevirtual 212, 3) := by decide +kernel
theorem dX12_read_45 : decode cX12_read 45 = .ok (.aload_n 0, 1) := by decide +kernel
theorem dX12_read_46 : decode cX12_read 46 = .ok (.iconst 0, 1) := by decide +kernel
theorem dX12_read_47 : decode cX12_read 47 = .ok (.putfield 191, 3) := by decide +kernel
theorem dX12_read_50 : decode cX12_read 50 = .ok (.aload_n 0, 1) := by decide +kernel
theorem dX12_read_51 : decode cX12_read 51 = .ok (.iconst 0, 1) := by decide +kernel
theorem dX12_read_52 : decode cX12_read 52 = .ok (.putfield 215, 3) := by decide +kernel
theorem dX12_read_55 : decode cX12_read 55 = .ok (.aload_n 0, 1) := by decide +kernel
theorem dX12_read_56 : decode cX12_read 56 = .ok (.iconst 0, 1) := by decide +kernel
theorem dX12_read_57 : decode cX12_read 57 = .ok (.putfield 188, 3) := by decide +kernel
theorem dX12_read_60 : decode cX12_read 60 = .ok (.aload_n 0, 1) := by decide +kernel
theorem dX12_read_61 : decode cX12_read 61 = .ok (.iconst 0, 1) := by decide +kernel
theorem dX12_read_62 : decode cX12_read 62 = .ok (.putfield 197, 3) := by decide +kernel
theorem dX12_read_65 : decode cX12_read 65 = .ok (.aload_n 0, 1) := by decide +kernel
theorem dX12_read_66 : decode cX12_read 66 = .ok (.iconst 1, 1) := by decide +kernel
theorem dX12_read_67 : decode cX12_read 67 = .ok (.aload_n 0, 1) := by decide +kernel
theorem dX12_read_68 : decode cX12_read 68 = .ok (.getfield 218, 3) := by decide +kernel
theorem dX12_read_71 : decode cX12_read 71 = .ok (.isub, 1) := by decide +kernel
theorem dX12_read_72 : decode cX12_read 72 = .ok (.putfield 221, 3) := by decide +kernel
theorem dX12_read_75 : decode cX12_read 75 = .ok (.aload_n 0, 1) := by decide +kernel
theorem dX12_read_76 : decode cX12_read 76 = .ok (.iconst 0, 1) := by decide +kernel
theorem dX12_read_77 : decode cX12_read 77 = .ok (.putfield 224, 3) := by decide +kernel
theorem dX12_read_80 : decode cX12_read 80 = .ok (.aload_n 0, 1) := by decide +kernel
theorem dX12_read_81 : decode cX12_read 81 = .ok (.aload_n 0, 1) := by decide +kernel
theorem dX12_read_82 : decode cX12_read 82 = .ok (.getfield 221, 3) := by decide +kernel
theorem dX12_read_85 : decode cX12_read 85 = .ok (.invokevirtual 137, 3) := by decide +kernel
theorem dX12_read_88 : decode cX12_read 88 = .ok (.aload_n 0, 1) := by decide +kernel
theorem dX12_read_89 : decode cX12_read 89 = .ok (.sipush 130, 3) := by decide +kernel
theorem dX12_read_92 : decode cX12_read 92 = .ok (.aload_n 0, 1) := by decide +kernel
theorem dX12_read_93 : decode cX12_read 93 = .ok (.getfield 221, 3) := by decide +kernel
theorem dX12_read_96 : decode cX12_read 96 = .ok (.imul, 1) := by decide +kernel
theorem dX12_read_97 : decode cX12_read 97 = .ok (.putfield 227, 3) := by decide +kernel
theorem dX12_read_100 : decode cX12_read 100 = .ok (.aload_n 0, 1) := by decide +kernel
theorem dX12_read_101 : decode cX12_read 101 = .ok (.sipush 420, 3) := by decide +kernel
theorem dX12_read_104 : decode cX12_read 104 = .ok (.aload_n 0, 1) := by decide +kernel
theorem dX12_read_105 : decode cX12_read 105 = .ok (.getfield 221, 3) := by decide +kernel
theorem dX12_read_108 : decode cX12_read 108 = .ok (.imul, 1) := by decide +kernel
theorem dX12_read_109 : decode cX12_read 109 = .ok (.putfield 230, 3) := by decide +kernel
theorem dX12_read_112 : decode cX12_read 112 = .ok (.aload_n 0, 1) := by decide +kernel
theorem dX12_read_113 : decode cX12_read 113 = .ok (.getfield 188, 3) := by decide +kernel
theorem dX12_read_116 : decode cX12_read 116 = .ok (.ifCond .ne 18, 3) := by decide +kernel
theorem dX12_read_119 : decode cX12_read 119 = .ok (.aload_n 0, 1) := by decide +kernel
theorem dX12_read_120 : decode cX12_read 120 = .ok (.iconst 0, 1) := by decide +kernel
theorem dX12_read_121 : decode cX12_read 121 = .ok (.invokevirtual 206, 3) := by decide +kernel
theorem dX12_read_124 : decode cX12_read 124 = .ok (.ifCond .ne 10, 3) := by decide +kernel
theorem dX12_read_127 : decode cX12_read 127 = .ok (.aload_n 0, 1) := by decide +kernel
theorem dX12_read_128 : decode cX12_read 128 = .ok (.invokevirtual 233, 3) := by decide +kernel
theorem dX12_read_131 : decode cX12_read 131 = .ok (.goto (-19), 3) := by decide +kernel
theorem dX12_read_134 : decode cX12_read 134 = .ok (.aload_n 0, 1) := by decide +kernel
theorem dX12_read_135 : decode cX12_read 135 = .ok (.aload_n 0, 1) := by decide +kernel
theorem dX12_read_136 : decode cX12_read 136 = .ok (.getfield 188, 3) := by decide +kernel
theorem dX12_read_139 : decode cX12_read 139 = .ok (.ifCond .le 10, 3) := by decide +kernel
theorem dX12_read_142 : decode cX12_read 142 = .ok (.aload_n 0, 1) := by decide +kernel
theorem dX12_read_143 : decode cX12_read 143 = .ok (.getfield 194, 3) := by decide +kernel
theorem dX12_read_146 : decode cX12_read 146 = .ok (.goto 18, 3) := by decide +kernel
theorem dX12_read_149 : decode cX12_read 149 = .ok (.aload_n 0, 1) := by decide +kernel
theorem dX12_read_150 : decode cX12_read 150 = .ok (.getfield 197, 3) := by decide +kernel
theorem dX12_read_153 : decode cX12_read 153 = .ok (.ifCond .le 10, 3) := by decide +kernel
theorem dX12_read_156 : decode cX12_read 156 = .ok (.aload_n 0, 1) := by decide +kernel
theorem dX12_read_157 : decode cX12_read 157 = .ok (.getfield 200, 3) := by decide +kernel
theorem dX12_read_160 : decode cX12_read 160 = .ok (.goto 4, 3) := by decide +kernel
theorem dX12_read_163 : decode cX12_read 163 = .ok (.iconst (-1), 1) := by decide +kernel
theorem dX12_read_164 : decode cX12_read 164 = .ok (.putfield 37, 3) := by decide +kernel
theorem dX12_read_167 : decode cX12_read 167 = .ok (.aload_n 0, 1) := by decide +kernel
theorem dX12_read_168 : decode cX12_read 168 = .ok (.getfield 188, 3) := by decide +kernel
theorem dX12_read_171 : decode cX12_read 171 = .ok (.ifCond .le 8, 3) := by decide +kernel
theorem dX12_read_174 : decode cX12_read 174 = .ok (.aload_n 0, 1) := by decide +kernel
theorem dX12_read_175 : decode cX12_read 175 = .ok (.getfield 188, 3) := by decide +kernel
theorem dX12_read_178 : decode cX12_read 178 = .ok (.ireturn, 1) := by decide +kernel
theorem dX12_read_179 : decode cX12_read 179 = .ok (.aload_n 0, 1) := by decide +kernel
theorem dX12_read_180 : decode cX12_read 180 = .ok (.getfield 197, 3) := by decide +kernel
theorem dX12_read_183 : decode cX12_read 183 = .ok (.ifCond .le 8, 3) := by decide +kernel
theorem dX12_read_186 : decode cX12_read 186 = .ok (.aload_n 0, 1) := by decide +kernel
theorem dX12_read_187 : decode cX12_read 187 = .ok (.getfield 197, 3) := by decide +kernel
theorem dX12_read_190 : decode cX12_read 190 = .ok (.ireturn, 1) := by decide +kernel
theorem dX12_read_191 : decode cX12_read 191 = .ok (.aload_n 0, 1) := by decide +kernel
theorem dX12_read_192 : decode cX12_read 192 = .ok (.aload_n 0, 1) := by decide +kernel
theorem dX12_read_193 : decode cX12_read 193 = .ok (.getfield 221, 3) := by decide +kernel
theorem dX12_read_196 : decode cX12_read 196 = .ok (.putfield 218, 3) := by decide +kernel
theorem dX12_read_199 : decode cX12_read 199 = .ok (.aload_n 0, 1) := by decide +kernel
theorem dX12_read_200 : decode cX12_read 200 = .ok (.invokevirtual 145, 3) := by decide +kernel
theorem dX12_read_203 : decode cX12_read 203 = .ok (.aload_n 0, 1) := by decide +kernel
theorem dX12_read_204 : decode cX12_read 204 = .ok (.invokevirtual 148, 3) := by decide +kernel
theorem dX12_read_207 : decode cX12_read 207 = .ok (.aload_n 0, 1) := by decide +kernel
theorem dX12_read_208 : decode cX12_read 208 = .ok (.iconst 0, 1) := by decide +kernel
theorem dX12_read_209 : decode cX12_read 209 = .ok (.putfield 236, 3) := by decide +kernel
theorem dX12_read_212 : decode cX12_read 212 = .ok (.aload_n 0, 1) := by decide +kernel
theorem dX12_read_213 : decode cX12_read 213 = .ok (.iconst 0, 1) := by decide +kernel
theorem dX12_read_214 : decode cX12_read 214 = .ok (.putfield 239, 3) := by decide +kernel
theorem dX12_read_217 : decode cX12_read 217 = .ok (.iconst 0, 1) := by decide +kernel
theorem dX12_read_218 : decode cX12_read 218 = .ok (.istore_n 1, 1) := by decide +kernel
theorem dX12_read_219 : decode cX12_read 219 = .ok (.iload_n 1, 1) := by decide +kernel
theorem dX12_read_220 : decode cX12_read 220 = .ok (.iconst 3, 1) := by decide +kernel
theorem dX12_read_221 : decode cX12_read 221 = .ok (.if_icmp .ge 16, 3) := by decide +kernel
theorem dX12_read_224 : decode cX12_read 224 = .ok (.aload_n 0, 1) := by decide +kernel
theorem dX12_read_225 : decode cX12_read 225 = .ok (.getfield 131, 3) := by decide +kernel
theorem dX12_read_228 : decode cX12_read 228 = .ok (.iload_n 1, 1) := by decide +kernel
theorem dX12_read_229 : decode cX12_read 229 = .ok (.iconst 0, 1) := by decide +kernel
theorem dX12_read_230 : decode cX12_read 230 = .ok (.bastore, 1) := by decide +kernel
theorem dX12_read_231 : decode cX12_read 231 = .ok (.iinc 1 1, 3) := by decide +kernel
theorem dX12_read_234 : decode cX12_read 234 = .ok (.goto (-15), 3) := by decide +kernel
theorem dX12_read_237 : decode cX12_read 237 = .ok (.iconst 0, 1) := by decide +kernel
theorem dX12_read_238 : decode cX12_read 238 = .ok (.ireturn, 1) := by decide +kernel
theorem dX12_place_0 : decode cX12_place 0 = .ok (.aload_n 0, 1) := by decide +kernel
theorem dX12_place_1 : decode cX12_place 1 = .ok (.getfield 37, 3) := by decide +kernel
theorem dX12_place_4 : decode cX12_place 4 = .ok (.ireturn, 1) := by decide +kernel
theorem dX12_tellNumber_0 : decode cX12_tellNumber 0 = .ok (.aload_n 0, 1) := by decide +kernel
theorem dX12_tellNumber_1 : decode cX12_tellNumber 1 = .ok (.iload_n 2, 1) := by decide +kernel
theorem dX12_tellNumber_2 : decode cX12_tellNumber 2 = .ok (.iload_n 3, 1) := by decide +kernel
theorem dX12_tellNumber_3 : decode cX12_tellNumber 3 = .ok (.invokevirtual 242, 3) := by decide +kernel
theorem dX12_tellNumber_6 : decode cX12_tellNumber 6 = .ok (.istore 4, 2) := by decide +kernel
theorem dX12_tellNumber_8 : decode cX12_tellNumber 8 = .ok (.aload_n 0, 1) := by decide +kernel
theorem dX12_tellNumber_9 : decode cX12_tellNumber 9 = .ok (.getfield 188, 3) := by decide +kernel
theorem dX12_tellNumber_12 : decode cX12_tellNumber 12 = .ok (.ifCond .ne 19, 3) := by decide +kernel
theorem dX12_tellNumber_15 : decode cX12_tellNumber 15 = .ok (.aload_n 0, 1) := by decide +kernel
theorem dX12_tellNumber_16 : decode cX12_tellNumber 16 = .ok (.getfield 43, 3) := by decide +kernel
theorem dX12_tellNumber_19 : decode cX12_tellNumber 19 = .ok (.bipush 20, 2) := by decide +kernel
theorem dX12_tellNumber_21 : decode cX12_tellNumber 21 = .ok (.aload_n 0, 1) := by decide +kernel
theorem dX12_tellNumber_22 : decode cX12_tellNumber 22 = .ok (.getfield 221, 3) := by decide +kernel
theorem dX12_tellNumber_25 : decode cX12_tellNumber 25 = .ok (.imul, 1) := by decide +kernel
theorem dX12_tellNumber_26 : decode cX12_tellNumber 26 = .ok (.iload_n 1, 1) := by decide +kernel
theorem dX12_tellNumber_27 : decode cX12_tellNumber 27 = .ok (.iadd, 1) := by decide +kernel
theorem dX12_tellNumber_28 : decode cX12_tellNumber 28 = .ok (.iload 4, 2) := by decide +kernel
theorem dX12_tellNumber_30 : decode cX12_tellNumber 30 = .ok (.iastore, 1) := by decide +kernel
theorem dX12_tellNumber_31 : decode cX12_tellNumber 31 = .ok (.return_, 1) := by decide +kernel
theorem dX12_tellOne_0 : decode cX12_tellOne 0 = .ok (.aload_n 0, 1) := by decide +kernel
theorem dX12_tellOne_1 : decode cX12_tellOne 1 = .ok (.getfield 20, 3) := by decide +kernel
theorem dX12_tellOne_4 : decode cX12_tellOne 4 = .ok (.aload_n 0, 1) := by decide +kernel
theorem dX12_tellOne_5 : decode cX12_tellOne 5 = .ok (.getfield 191, 3) := by decide +kernel
theorem dX12_tellOne_8 : decode cX12_tellOne 8 = .ok (.iaload, 1) := by decide +kernel
theorem dX12_tellOne_9 : decode cX12_tellOne 9 = .ok (.tableswitch 361 20 34 #[75, 361, 361, 361, 361, 361, 115, 149, 182, 215, 236, 257, 288, 318, 339], 75) := by decide +kernel
theorem dX12_tellOne_84 : decode cX12_tellOne 84 = .ok (.aload_n 0, 1) := by decide +kernel
theorem dX12_tellOne_85 : decode cX12_tellOne 85 = .ok (.invokevirtual 209, 3) := by decide +kernel
theorem dX12_tellOne_88 : decode cX12_tellOne 88 = .ok (.aload_n 0, 1) := by decide +kernel
theorem dX12_tellOne_89 : decode cX12_tellOne 89 = .ok (.iconst 0, 1) := by decide +kernel
theorem dX12_tellOne_90 : decode cX12_tellOne 90 = .ok (.bipush 100, 2) := by decide +kernel
theorem dX12_tellOne_92 : decode cX12_tellOne 92 = .ok (.sipush 2500, 3) := by decide +kernel
theorem dX12_tellOne_95 : decode cX12_tellOne 95 = .ok (.invokevirtual 246, 3) := by decide +kernel
theorem dX12_tellOne_98 : decode cX12_tellOne 98 = .ok (.aload_n 0, 1) := by decide +kernel
theorem dX12_tellOne_99 : decode cX12_tellOne 99 = .ok (.iconst 1, 1) := by decide +kernel
theorem dX12_tellOne_100 : decode cX12_tellOne 100 = .ok (.bipush 100, 2) := by decide +kernel
theorem dX12_tellOne_102 : decode cX12_tellOne 102 = .ok (.sipush 2500, 3) := by decide +kernel
theorem dX12_tellOne_105 : decode cX12_tellOne 105 = .ok (.invokevirtual 246, 3) := by decide +kernel
theorem dX12_tellOne_108 : decode cX12_tellOne 108 = .ok (.aload_n 0, 1) := by decide +kernel
theorem dX12_tellOne_109 : decode cX12_tellOne 109 = .ok (.iconst 2, 1) := by decide +kernel
theorem dX12_tellOne_110 : decode cX12_tellOne 110 = .ok (.iconst 0, 1) := by decide +kernel
theorem dX12_tellOne_111 : decode cX12_tellOne 111 = .ok (.bipush 99, 2) := by decide +kernel
theorem dX12_tellOne_113 : decode cX12_tellOne 113 = .ok (.invokevirtual 246, 3) := by decide +kernel
theorem dX12_tellOne_116 : decode cX12_tellOne 116 = .ok (.aload_n 0, 1) := by decide +kernel
theorem dX12_tellOne_117 : decode cX12_tellOne 117 = .ok (.iconst 4, 1) := by decide +kernel
theorem dX12_tellOne_118 : decode cX12_tellOne 118 = .ok (.invokevirtual 250, 3) := by decide +kernel
theorem dX12_tellOne_121 : decode cX12_tellOne 121 = .ok (.goto 302, 3) := by decide +kernel
theorem dX12_tellOne_124 : decode cX12_tellOne 124 = .ok (.aload_n 0, 1) := by decide +kernel
theorem dX12_tellOne_125 : decode cX12_tellOne 125 = .ok (.invokevirtual 209, 3) := by decide +kernel
theorem dX12_tellOne_128 : decode cX12_tellOne 128 = .ok (.iconst 3, 1) := by decide +kernel
theorem dX12_tellOne_129 : decode cX12_tellOne 129 = .ok (.istore_n 1, 1) := by decide +kernel
theorem dX12_tellOne_130 : decode cX12_tellOne 130 = .ok (.iload_n 1, 1) := by decide +kernel
theorem dX12_tellOne_131 : decode cX12_tellOne 131 = .ok (.bipush 8, 2) := by decide +kernel
theorem dX12_tellOne_133 : decode cX12_tellOne 133 = .ok (.if_icmp .ge 17, 3) := by decide +kernel
theorem dX12_tellOne_136 : decode cX12_tellOne 136 = .ok (.aload_n 0, 1) := by decide +kernel
theorem dX12_tellOne_137 : decode cX12_tellOne 137 = .ok (.iload_n 1, 1) := by decide +kernel
theorem dX12_tellOne_138 : decode cX12_tellOne 138 = .ok (.iconst 0, 1) := by decide +kernel
theorem dX12_tellOne_139 : decode cX12_tellOne 139 = .ok (.bipush 9, 2) := by decide +kernel
theorem dX12_tellOne_141 : decode cX12_tellOne 141 = .ok (.invokevirtual 246, 3) := by decide +kernel
theorem dX12_tellOne_144 : decode cX12_tellOne 144 = .ok (.iinc 1 1, 3) := by decide +kernel
theorem dX12_tellOne_147 : decode cX12_tellOne 147 = .ok (.goto (-17), 3) := by decide +kernel
theorem dX12_tellOne_150 : decode cX12_tellOne 150 = .ok (.aload_n 0, 1) := by decide +kernel
theorem dX12_tellOne_151 : decode cX12_tellOne 151 = .ok (.iconst 4, 1) := by decide +kernel
theorem dX12_tellOne_152 : decode cX12_tellOne 152 = .ok (.invokevirtual 250, 3) := by decide +kernel
theorem dX12_tellOne_155 : decode cX12_tellOne 155 = .ok (.goto 268, 3) := by decide +kernel
theorem dX12_tellOne_158 : decode cX12_tellOne 158 = .ok (.aload_n 0, 1) := by decide +kernel
theorem dX12_tellOne_159 : decode cX12_tellOne 159 = .ok (.getfield 46, 3) := by decide +kernel
theorem dX12_tellOne_162 : decode cX12_tellOne 162 = .ok (.aload_n 0, 1) := by decide +kernel
theorem dX12_tellOne_163 : decode cX12_tellOne 163 = .ok (.getfield 221, 3) := by decide +kernel
theorem dX12_tellOne_166 : decode cX12_tellOne 166 = .ok (.iaload, 1) := by decide +kernel
theorem dX12_tellOne_167 : decode cX12_tellOne 167 = .ok (.bipush 8, 2) := by decide +kernel
theorem dX12_tellOne_169 : decode cX12_tellOne 169 = .ok (.if_icmp .ne 8, 3) := by decide +kernel
theorem dX12_tellOne_172 : decode cX12_tellOne 172 = .ok (.aload_n 0, 1) := by decide +kernel
theorem dX12_tellOne_173 : decode cX12_tellOne 173 = .ok (.iconst 2, 1) := by decide +kernel
theorem dX12_tellOne_174 : decode cX12_tellOne 174 = .ok (.invokevirtual 203, 3) := by decide +kernel
theorem dX12_tellOne_177 : decode cX12_tellOne 177 = .ok (.aload_n 0, 1) := by decide +kernel
theorem dX12_tellOne_178 : decode cX12_tellOne 178 = .ok (.getfield 188, 3) := by decide +kernel
theorem dX12_tellOne_181 : decode cX12_tellOne 181 = .ok (.ifCond .ne 242, 3) := by decide +kernel
theorem dX12_tellOne_184 : decode cX12_tellOne 184 = .ok (.aload_n 0, 1) := by decide +kernel
theorem dX12_tellOne_185 : decode cX12_tellOne 185 = .ok (.invokevirtual 253, 3) := by decide +kernel
theorem dX12_tellOne_188 : decode cX12_tellOne 188 = .ok (.goto 235, 3) := by decide +kernel
theorem dX12_tellOne_191 : decode cX12_tellOne 191 = .ok (.aload_n 0, 1) := by decide +kernel
theorem dX12_tellOne_192 : decode cX12_tellOne 192 = .ok (.getfield 61, 3) := by decide +kernel
theorem dX12_tellOne_195 : decode cX12_tellOne 195 = .ok (.aload_n 0, 1) := by decide +kernel
theorem dX12_tellOne_196 : decode cX12_tellOne 196 = .ok (.getfield 221, 3) := by decide +kernel
theorem dX12_tellOne_199 : decode cX12_tellOne 199 = .ok (.iaload, 1) := by decide +kernel
theorem dX12_tellOne_200 : decode cX12_tellOne 200 = .ok (.bipush 7, 2) := by decide +kernel
theorem dX12_tellOne_202 : decode cX12_tellOne 202 = .ok (.if_icmp .ne 8, 3) := by decide +kernel
theorem dX12_tellOne_205 : decode cX12_tellOne 205 = .ok (.aload_n 0, 1) := by decide +kernel
theorem dX12_tellOne_206 : decode cX12_tellOne 206 = .ok (.iconst 2, 1) := by decide +kernel
theorem dX12_tellOne_207 : decode cX12_tellOne 207 = .ok (.invokevirtual 203, 3) := by decide +kernel
theorem dX12_tellOne_210 : decode cX12_tellOne 210 = .ok (.aload_n 0, 1) := by decide +kernel
theorem dX12_tellOne_211 : decode cX12_tellOne 211 = .ok (.getfield 188, 3) := by decide +kernel
theorem dX12_tellOne_214 : decode cX12_tellOne 214 = .ok (.ifCond .ne 209, 3) := by decide +kernel
theorem dX12_tellOne_217 : decode cX12_tellOne 217 = .ok (.aload_n 0, 1) := by decide +kernel
theorem dX12_tellOne_218 : decode cX12_tellOne 218 = .ok (.invokevirtual 256, 3) := by decide +kernel
theorem dX12_tellOne_221 : decode cX12_tellOne 221 = .ok (.goto 202, 3) := by decide +kernel
theorem dX12_tellOne_224 : decode cX12_tellOne 224 = .ok (.aload_n 0, 1) := by decide +kernel
theorem dX12_tellOne_225 : decode cX12_tellOne 225 = .ok (.invokevirtual 209, 3) := by decide +kernel
theorem dX12_tellOne_228 : decode cX12_tellOne 228 = .ok (.aload_n 0, 1) := by decide +kernel
theorem dX12_tellOne_229 : decode cX12_tellOne 229 = .ok (.bipush 8, 2) := by decide +kernel
theorem dX12_tellOne_231 : decode cX12_tellOne 231 = .ok (.iconst 0, 1) := by decide +kernel
theorem dX12_tellOne_232 : decode cX12_tellOne 232 = .ok (.bipush 99, 2) := by decide +kernel
theorem dX12_tellOne_234 : decode cX12_tellOne 234 = .ok (.invokevirtual 246, 3) := by decide +kernel
theorem dX12_tellOne_237 : decode cX12_tellOne 237 = .ok (.aload_n 0, 1) := by decide +kernel
theorem dX12_tellOne_238 : decode cX12_tellOne 238 = .ok (.iconst 4, 1) := by decide +kernel
theorem dX12_tellOne_239 : decode cX12_tellOne 239 = .ok (.invokevirtual 250, 3) := by decide +kernel
theorem dX12_tellOne_242 : decode cX12_tellOne 242 = .ok (.goto 181, 3) := by decide +kernel
theorem dX12_tellOne_245 : decode cX12_tellOne 245 = .ok (.aload_n 0, 1) := by decide +kernel
theorem dX12_tellOne_246 : decode cX12_tellOne 246 = .ok (.invokevirtual 209, 3) := by decide +kernel
theorem dX12_tellOne_249 : decode cX12_tellOne 249 = .ok (.aload_n 0, 1) := by decide +kernel
theorem dX12_tellOne_250 : decode cX12_tellOne 250 = .ok (.bipush 9, 2) := by decide +kernel
theorem dX12_tellOne_252 : decode cX12_tellOne 252 = .ok (.iconst 0, 1) := by decide +kernel
theorem dX12_tellOne_253 : decode cX12_tellOne 253 = .ok (.bipush 30, 2) := by decide +kernel
theorem dX12_tellOne_255 : decode cX12_tellOne 255 = .ok (.invokevirtual 246, 3) := by decide +kernel
theorem dX12_tellOne_258 : decode cX12_tellOne 258 = .ok (.aload_n 0, 1) := by decide +kernel
theorem dX12_tellOne_259 : decode cX12_tellOne 259 = .ok (.iconst 4, 1) := by decide +kernel
theorem dX12_tellOne_260 : decode cX12_tellOne 260 = .ok (.invokevirtual 250, 3) := by decide +kernel
theorem dX12_tellOne_263 : decode cX12_tellOne 263 = .ok (.goto 160, 3) := by decide +kernel
theorem dX12_tellOne_266 : decode cX12_tellOne 266 = .ok (.aload_n 0, 1) := by decide +kernel
theorem dX12_tellOne_267 : decode cX12_tellOne 267 = .ok (.invokevirtual 209, 3) := by decide +kernel
theorem dX12_tellOne_270 : decode cX12_tellOne 270 = .ok (.aload_n 0, 1) := by decide +kernel
theorem dX12_tellOne_271 : decode cX12_tellOne 271 = .ok (.bipush 10, 2) := by decide +kernel
theorem dX12_tellOne_273 : decode cX12_tellOne 273 = .ok (.iconst 0, 1) := by decide +kernel
theorem dX12_tellOne_274 : decode cX12_tellOne 274 = .ok (.bipush 30, 2) := by decide +kernel
theorem dX12_tellOne_276 : decode cX12_tellOne 276 = .ok (.invokevirtual 246, 3) := by decide +kernel
theorem dX12_tellOne_279 : decode cX12_tellOne 279 = .ok (.aload_n 0, 1) := by decide +kernel
theorem dX12_tellOne_280 : decode cX12_tellOne 280 = .ok (.bipush 11, 2) := by decide +kernel
theorem dX12_tellOne_282 : decode cX12_tellOne 282 = .ok (.iconst 1, 1) := by decide +kernel
theorem dX12_tellOne_283 : decode cX12_tellOne 283 = .ok (.sipush 300, 3) := by decide +kernel
theorem dX12_tellOne_286 : decode cX12_tellOne 286 = .ok (.invokevirtual 246, 3) := by decide +kernel
theorem dX12_tellOne_289 : decode cX12_tellOne 289 = .ok (.aload_n 0, 1) := by decide +kernel
theorem dX12_tellOne_290 : decode cX12_tellOne 290 = .ok (.iconst 4, 1) := by decide +kernel
theorem dX12_tellOne_291 : decode cX12_tellOne 291 = .ok (.invokevirtual 250, 3) := by decide +kernel
theorem dX12_tellOne_294 : decode cX12_tellOne 294 = .ok (.goto 129, 3) := by decide +kernel
theorem dX12_tellOne_297 : decode cX12_tellOne 297 = .ok (.aload_n 0, 1) := by decide +kernel
theorem dX12_tellOne_298 : decode cX12_tellOne 298 = .ok (.invokevirtual 209, 3) := by decide +kernel
theorem dX12_tellOne_301 : decode cX12_tellOne 301 = .ok (.aload_n 0, 1) := by decide +kernel
theorem dX12_tellOne_302 : decode cX12_tellOne 302 = .ok (.bipush 12, 2) := by decide +kernel
theorem dX12_tellOne_304 : decode cX12_tellOne 304 = .ok (.iconst 0, 1) := by decide +kernel
theorem dX12_tellOne_305 : decode cX12_tellOne 305 = .ok (.bipush 40, 2) := by decide +kernel
theorem dX12_tellOne_307 : decode cX12_tellOne 307 = .ok (.invokevirtual 246, 3) := by decide +kernel
theorem dX12_tellOne_310 : decode cX12_tellOne 310 = .ok (.aload_n 0, 1) := by decide +kernel
theorem dX12_tellOne_311 : decode cX12_tellOne 311 = .ok (.bipush 13, 2) := by decide +kernel
theorem dX12_tellOne_313 : decode cX12_tellOne 313 = .ok (.iconst 0, 1) := by decide +kernel
theorem dX12_tellOne_314 : decode cX12_tellOne 314 = .ok (.bipush 99, 2) := by decide +kernel
theorem dX12_tellOne_316 : decode cX12_tellOne 316 = .ok (.invokevirtual 246, 3) := by decide +kernel
theorem dX12_tellOne_319 : decode cX12_tellOne 319 = .ok (.aload_n 0, 1) := by decide +kernel
theorem dX12_tellOne_320 : decode cX12_tellOne 320 = .ok (.iconst 4, 1) := by decide +kernel
theorem dX12_tellOne_321 : decode cX12_tellOne 321 = .ok (.invokevirtual 250, 3) := by decide +kernel
theorem dX12_tellOne_324 : decode cX12_tellOne 324 = .ok (.goto 99, 3) := by decide +kernel
theorem dX12_tellOne_327 : decode cX12_tellOne 327 = .ok (.aload_n 0, 1) := by decide +kernel
theorem dX12_tellOne_328 : decode cX12_tellOne 328 = .ok (.invokevirtual 209, 3) := by decide +kernel
theorem dX12_tellOne_331 : decode cX12_tellOne 331 = .ok (.aload_n 0, 1) := by decide +kernel
theorem dX12_tellOne_332 : decode cX12_tellOne 332 = .ok (.bipush 14, 2) := by decide +kernel
theorem dX12_tellOne_334 : decode cX12_tellOne 334 = .ok (.iconst 1, 1) := by decide +kernel
theorem dX12_tellOne_335 : decode cX12_tellOne 335 = .ok (.bipush 8, 2) := by decide +kernel
theorem dX12_tellOne_337 : decode cX12_tellOne 337 = .ok (.invokevirtual 246, 3) := by decide +kernel
theorem dX12_tellOne_340 : decode cX12_tellOne 340 = .ok (.aload_n 0, 1) := by decide +kernel
theorem dX12_tellOne_341 : decode cX12_tellOne 341 = .ok (.iconst 4, 1) := by decide +kernel
theorem dX12_tellOne_342 : decode cX12_tellOne 342 = .ok (.invokevirtual 250, 3) := by decide +kernel
theorem dX12_tellOne_345 : decode cX12_tellOne 345 = .ok (.goto 78, 3) := by decide +kernel
theorem dX12_tellOne_348 : decode cX12_tellOne 348 = .ok (.aload_n 0, 1) := by decide +kernel
theorem dX12_tellOne_349 : decode cX12_tellOne 349 = .ok (.invokevirtual 209, 3) := by decide +kernel
theorem dX12_tellOne_352 : decode cX12_tellOne 352 = .ok (.aload_n 0, 1) := by decide +kernel
theorem dX12_tellOne_353 : decode cX12_tellOne 353 = .ok (.bipush 15, 2) := by decide +kernel
theorem dX12_tellOne_355 : decode cX12_tellOne 355 = .ok (.iconst 0, 1) := by decide +kernel
theorem dX12_tellOne_356 : decode cX12_tellOne 356 = .ok (.sipush 9999, 3) := by decide +kernel
theorem dX12_tellOne_359 : decode cX12_tellOne 359 = .ok (.invokevirtual 246, 3) := by decide +kernel
theorem dX12_tellOne_362 : decode cX12_tellOne 362 = .ok (.aload_n 0, 1) := by decide +kernel
theorem dX12_tellOne_363 : decode cX12_tellOne 363 = .ok (.iconst 4, 1) := by decide +kernel
theorem dX12_tellOne_364 : decode cX12_tellOne 364 = .ok (.invokevirtual 250, 3) := by decide +kernel
theorem dX12_tellOne_367 : decode cX12_tellOne 367 = .ok (.goto 56, 3) := by decide +kernel
theorem dX12_tellOne_370 : decode cX12_tellOne 370 = .ok (.aload_n 0, 1) := by decide +kernel
theorem dX12_tellOne_371 : decode cX12_tellOne 371 = .ok (.getfield 20, 3) := by decide +kernel
theorem dX12_tellOne_374 : decode cX12_tellOne 374 = .ok (.aload_n 0, 1) := by decide +kernel
theorem dX12_tellOne_375 : decode cX12_tellOne 375 = .ok (.getfield 191, 3) := by decide +kernel
theorem dX12_tellOne_378 : decode cX12_tellOne 378 = .ok (.iaload, 1) := by decide +kernel
theorem dX12_tellOne_379 : decode cX12_tellOne 379 = .ok (.bipush 21, 2) := by decide +kernel
theorem dX12_tellOne_381 : decode cX12_tellOne 381 = .ok (.isub, 1) := by decide +kernel
theorem dX12_tellOne_382 : decode cX12_tellOne 382 = .ok (.istore_n 1, 1) := by decide +kernel
theorem dX12_tellOne_383 : decode cX12_tellOne 383 = .ok (.iload_n 1, 1) := by decide +kernel
theorem dX12_tellOne_384 : decode cX12_tellOne 384 = .ok (.ifCond .lt 17, 3) := by decide +kernel
theorem dX12_tellOne_387 : decode cX12_tellOne 387 = .ok (.aload_n 0, 1) := by decide +kernel
theorem dX12_tellOne_388 : decode cX12_tellOne 388 = .ok (.getfield 20, 3) := by decide +kernel
theorem dX12_tellOne_391 : decode cX12_tellOne 391 = .ok (.aload_n 0, 1) := by decide +kernel
theorem dX12_tellOne_392 : decode cX12_tellOne 392 = .ok (.getfield 191, 3) := by decide +kernel
theorem dX12_tellOne_395 : decode cX12_tellOne 395 = .ok (.iaload, 1) := by decide +kernel
theorem dX12_tellOne_396 : decode cX12_tellOne 396 = .ok (.bipush 25, 2) := by decide +kernel
theorem dX12_tellOne_398 : decode cX12_tellOne 398 = .ok (.if_icmp .le 8, 3) := by decide +kernel
theorem dX12_tellOne_401 : decode cX12_tellOne 401 = .ok (.aload_n 0, 1) := by decide +kernel
theorem dX12_tellOne_402 : decode cX12_tellOne 402 = .ok (.iconst 1, 1) := by decide +kernel
theorem dX12_tellOne_403 : decode cX12_tellOne 403 = .ok (.invokevirtual 203, 3) := by decide +kernel
theorem dX12_tellOne_406 : decode cX12_tellOne 406 = .ok (.aload_n 0, 1) := by decide +kernel
theorem dX12_tellOne_407 : decode cX12_tellOne 407 = .ok (.getfield 188, 3) := by decide +kernel
theorem dX12_tellOne_410 : decode cX12_tellOne 410 = .ok (.ifCond .le 4, 3) := by decide +kernel
theorem dX12_tellOne_413 : decode cX12_tellOne 413 = .ok (.return_, 1) := by decide +kernel
theorem dX12_tellOne_414 : decode cX12_tellOne 414 = .ok (.aload_n 0, 1) := by decide +kernel
theorem dX12_tellOne_415 : decode cX12_tellOne 415 = .ok (.invokevirtual 209, 3) := by decide +kernel
theorem dX12_tellOne_418 : decode cX12_tellOne 418 = .ok (.aload_n 0, 1) := by decide +kernel
theorem dX12_tellOne_419 : decode cX12_tellOne 419 = .ok (.iload_n 1, 1) := by decide +kernel
theorem dX12_tellOne_420 : decode cX12_tellOne 420 = .ok (.invokevirtual 259, 3) := by decide +kernel
theorem dX12_tellOne_423 : decode cX12_tellOne 423 = .ok (.return_, 1) := by decide +kernel
theorem dX12_named_0 : decode cX12_named 0 = .ok (.aload_n 0, 1) := by decide +kernel
theorem dX12_named_1 : decode cX12_named 1 = .ok (.invokevirtual 209, 3) := by decide +kernel
theorem dX12_named_4 : decode cX12_named 4 = .ok (.aload_n 0, 1) := by decide +kernel
theorem dX12_named_5 : decode cX12_named 5 = .ok (.getfield 191, 3) := by decide +kernel
theorem dX12_named_8 : decode cX12_named 8 = .ok (.istore_n 1, 1) := by decide +kernel
theorem dX12_named_9 : decode cX12_named 9 = .ok (.aload_n 0, 1) := by decide +kernel
theorem dX12_named_10 : decode cX12_named 10 = .ok (.iconst 1, 1) := by decide +kernel
theorem dX12_named_11 : decode cX12_named 11 = .ok (.invokevirtual 250, 3) := by decide +kernel
theorem dX12_named_14 : decode cX12_named 14 = .ok (.iconst 0, 1) := by decide +kernel
theorem dX12_named_15 : decode cX12_named 15 = .ok (.istore_n 2, 1) := by decide +kernel
theorem dX12_named_16 : decode cX12_named 16 = .ok (.iload_n 2, 1) := by decide +kernel
theorem dX12_named_17 : decode cX12_named 17 = .ok (.aload_n 0, 1) := by decide +kernel
theorem dX12_named_18 : decode cX12_named 18 = .ok (.getfield 224, 3) := by decide +kernel
theorem dX12_named_21 : decode cX12_named 21 = .ok (.if_icmp .ge 38, 3) := by decide +kernel
theorem dX12_named_24 : decode cX12_named 24 = .ok (.aload_n 0, 1) := by decide +kernel
theorem dX12_named_25 : decode cX12_named 25 = .ok (.getfield 188, 3) := by decide +kernel
theorem dX12_named_28 : decode cX12_named 28 = .ok (.ifCond .ne 31, 3) := by decide +kernel
theorem dX12_named_31 : decode cX12_named 31 = .ok (.aload_n 0, 1) := by decide +kernel
theorem dX12_named_32 : decode cX12_named 32 = .ok (.getfield 40, 3) := by decide +kernel
theorem dX12_named_35 : decode cX12_named 35 = .ok (.iload_n 2, 1) := by decide +kernel
theorem dX12_named_36 : decode cX12_named 36 = .ok (.laload, 1) := by decide +kernel
theorem dX12_named_37 : decode cX12_named 37 = .ok (.aload_n 0, 1) := by decide +kernel
theorem dX12_named_38 : decode cX12_named 38 = .ok (.getfield 30, 3) := by decide +kernel
theorem dX12_named_41 : decode cX12_named 41 = .ok (.iload_n 1, 1) := by decide +kernel
theorem dX12_named_42 : decode cX12_named 42 = .ok (.laload, 1) := by decide +kernel
theorem dX12_named_43 : decode cX12_named 43 = .ok (.lcmp, 1) := by decide +kernel
theorem dX12_named_44 : decode cX12_named 44 = .ok (.ifCond .ne 9, 3) := by decide +kernel
theorem dX12_named_47 : decode cX12_named 47 = .ok (.aload_n 0, 1) := by decide +kernel
theorem dX12_named_48 : decode cX12_named 48 = .ok (.iconst 3, 1) := by decide +kernel
theorem dX12_named_49 : decode cX12_named 49 = .ok (.iload_n 1, 1) := by decide +kernel
theorem dX12_named_50 : decode cX12_named 50 = .ok (.invokevirtual 262, 3) := by decide +kernel
theorem dX12_named_53 : decode cX12_named 53 = .ok (.iinc 2 1, 3) := by decide +kernel
theorem dX12_named_56 : decode cX12_named 56 = .ok (.goto (-40), 3) := by decide +kernel
theorem dX12_named_59 : decode cX12_named 59 = .ok (.iload_n 1, 1) := by decide +kernel
theorem dX12_named_60 : decode cX12_named 60 = .ok (.ireturn, 1) := by decide +kernel
theorem dX12_bounded_0 : decode cX12_bounded 0 = .ok (.aload_n 0, 1) := by decide +kernel
theorem dX12_bounded_1 : decode cX12_bounded 1 = .ok (.getfield 188, 3) := by decide +kernel
theorem dX12_bounded_4 : decode cX12_bounded 4 = .ok (.ifCond .gt 11, 3) := by decide +kernel
theorem dX12_bounded_7 : decode cX12_bounded 7 = .ok (.aload_n 0, 1) := by decide +kernel
theorem dX12_bounded_8 : decode cX12_bounded 8 = .ok (.iconst 2, 1) := by decide +kernel
theorem dX12_bounded_9 : decode cX12_bounded 9 = .ok (.invokevirtual 206, 3) := by decide +kernel
theorem dX12_bounded_12 : decode cX12_bounded 12 = .ok (.ifCond .ne 10, 3) := by decide +kernel
theorem dX12_bounded_15 : decode cX12_bounded 15 = .ok (.aload_n 0, 1) := by decide +kernel
theorem dX12_bounded_16 : decode cX12_bounded 16 = .ok (.iconst 1, 1) := by decide +kernel
theorem dX12_bounded_17 : decode cX12_bounded 17 = .ok (.invokevirtual 203, 3) := by decide +kernel
theorem dX12_bounded_20 : decode cX12_bounded 20 = .ok (.iload_n 1, 1) := by decide +kernel
theorem dX12_bounded_21 : decode cX12_bounded 21 = .ok (.ireturn, 1) := by decide +kernel
theorem dX12_bounded_22 : decode cX12_bounded 22 = .ok (.aload_n 0, 1) := by decide +kernel
theorem dX12_bounded_23 : decode cX12_bounded 23 = .ok (.getfield 27, 3) := by decide +kernel
theorem dX12_bounded_26 : decode cX12_bounded 26 = .ok (.aload_n 0, 1) := by decide +kernel
theorem dX12_bounded_27 : decode cX12_bounded 27 = .ok (.getfield 191, 3) := by decide +kernel
theorem dX12_bounded_30 : decode cX12_bounded 30 = .ok (.iaload, 1) := by decide +kernel
theorem dX12_bounded_31 : decode cX12_bounded 31 = .ok (.istore_n 3, 1) := by decide +kernel
theorem dX12_bounded_32 : decode cX12_bounded 32 = .ok (.iload_n 3, 1) := by decide +kernel
theorem dX12_bounded_33 : decode cX12_bounded 33 = .ok (.iload_n 1, 1) := by decide +kernel
theorem dX12_bounded_34 : decode cX12_bounded 34 = .ok (.if_icmp .lt 8, 3) := by decide +kernel
theorem dX12_bounded_37 : decode cX12_bounded 37 = .ok (.iload_n 3, 1) := by decide +kernel
theorem dX12_bounded_38 : decode cX12_bounded 38 = .ok (.iload_n 2, 1) := by decide +kernel
theorem dX12_bounded_39 : decode cX12_bounded 39 = .ok (.if_icmp .le 12, 3) := by decide +kernel
theorem dX12_bounded_42 : decode cX12_bounded 42 = .ok (.aload_n 0, 1) := by decide +kernel
theorem dX12_bounded_43 : decode cX12_bounded 43 = .ok (.iconst 5, 1) := by decide +kernel
theorem dX12_bounded_44 : decode cX12_bounded 44 = .ok (.aload_n 0, 1) := by decide +kernel
theorem dX12_bounded_45 : decode cX12_bounded 45 = .ok (.getfield 191, 3) := by decide +kernel
theorem dX12_bounded_48 : decode cX12_bounded 48 = .ok (.invokevirtual 262, 3) := by decide +kernel
theorem dX12_bounded_51 : decode cX12_bounded 51 = .ok (.aload_n 0, 1) := by decide +kernel
theorem dX12_bounded_52 : decode cX12_bounded 52 = .ok (.invokevirtual 209, 3) := by decide +kernel
theorem dX12_bounded_55 : decode cX12_bounded 55 = .ok (.iload_n 3, 1) := by decide +kernel
theorem dX12_bounded_56 : decode cX12_bounded 56 = .ok (.ireturn, 1) := by decide +kernel
theorem dX12_tellMan_0 : decode cX12_tellMan 0 = .ok (.bipush 8, 2) := by decide +kernel
theorem dX12_tellMan_2 : decode cX12_tellMan 2 = .ok (.aload_n 0, 1) := by decide +kernel
theorem dX12_tellMan_3 : decode cX12_tellMan 3 = .ok (.getfield 221, 3) := by decide +kernel
theorem dX12_tellMan_6 : decode cX12_tellMan 6 = .ok (.imul, 1) := by decide +kernel
theorem dX12_tellMan_7 : decode cX12_tellMan 7 = .ok (.aload_n 0, 1) := by decide +kernel
theorem dX12_tellMan_8 : decode cX12_tellMan 8 = .ok (.getfield 46, 3) := by decide +kernel
theorem dX12_tellMan_11 : decode cX12_tellMan 11 = .ok (.aload_n 0, 1) := by decide +kernel
theorem dX12_tellMan_12 : decode cX12_tellMan 12 = .ok (.getfield 221, 3) := by decide +kernel
theorem dX12_tellMan_15 : decode cX12_tellMan 15 = .ok (.iaload, 1) := by decide +kernel
theorem dX12_tellMan_16 : decode cX12_tellMan 16 = .ok (.iadd, 1) := by decide +kernel
theorem dX12_tellMan_17 : decode cX12_tellMan 17 = .ok (.istore_n 1, 1) := by decide +kernel
theorem dX12_tellMan_18 : decode cX12_tellMan 18 = .ok (.aload_n 0, 1) := by decide +kernel
theorem dX12_tellMan_19 : decode cX12_tellMan 19 = .ok (.invokevirtual 266, 3) := by decide +kernel
theorem dX12_tellMan_22 : decode cX12_tellMan 22 = .ok (.istore_n 2, 1) := by decide +kernel
theorem dX12_tellMan_23 : decode cX12_tellMan 23 = .ok (.aload_n 0, 1) := by decide +kernel
theorem dX12_tellMan_24 : decode cX12_tellMan 24 = .ok (.getfield 49, 3) := by decide +kernel
theorem dX12_tellMan_27 : decode cX12_tellMan 27 = .ok (.iload_n 1, 1) := by decide +kernel
theorem dX12_tellMan_28 : decode cX12_tellMan 28 = .ok (.aload_n 0, 1) := by decide +kernel
theorem dX12_tellMan_29 : decode cX12_tellMan 29 = .ok (.bipush 30, 2) := by decide +kernel
theorem dX12_tellMan_31 : decode cX12_tellMan 31 = .ok (.bipush 120, 2) := by decide +kernel
theorem dX12_tellMan_33 : decode cX12_tellMan 33 = .ok (.invokevirtual 242, 3) := by decide +kernel
theorem dX12_tellMan_36 : decode cX12_tellMan 36 = .ok (.iastore, 1) := by decide +kernel
theorem dX12_tellMan_37 : decode cX12_tellMan 37 = .ok (.aload_n 0, 1) := by decide +kernel
theorem dX12_tellMan_38 : decode cX12_tellMan 38 = .ok (.getfield 52, 3) := by decide +kernel
theorem dX12_tellMan_41 : decode cX12_tellMan 41 = .ok (.iload_n 1, 1) := by decide +kernel
theorem dX12_tellMan_42 : decode cX12_tellMan 42 = .ok (.aload_n 0, 1) := by decide +kernel
theorem dX12_tellMan_43 : decode cX12_tellMan 43 = .ok (.bipush 100, 2) := by decide +kernel
theorem dX12_tellMan_45 : decode cX12_tellMan 45 = .ok (.sipush 300, 3) := by decide +kernel
theorem dX12_tellMan_48 : decode cX12_tellMan 48 = .ok (.invokevirtual 242, 3) := by decide +kernel
theorem dX12_tellMan_51 : decode cX12_tellMan 51 = .ok (.iastore, 1) := by decide +kernel
theorem dX12_tellMan_52 : decode cX12_tellMan 52 = .ok (.aload_n 0, 1) := by decide +kernel
theorem dX12_tellMan_53 : decode cX12_tellMan 53 = .ok (.getfield 55, 3) := by decide +kernel
theorem dX12_tellMan_56 : decode cX12_tellMan 56 = .ok (.iload_n 1, 1) := by decide +kernel
theorem dX12_tellMan_57 : decode cX12_tellMan 57 = .ok (.aload_n 0, 1) := by decide +kernel
theorem dX12_tellMan_58 : decode cX12_tellMan 58 = .ok (.iconst 0, 1) := by decide +kernel
theorem dX12_tellMan_59 : decode cX12_tellMan 59 = .ok (.bipush 9, 2) := by decide +kernel
theorem dX12_tellMan_61 : decode cX12_tellMan 61 = .ok (.invokevirtual 242, 3) := by decide +kernel
theorem dX12_tellMan_64 : decode cX12_tellMan 64 = .ok (.iastore, 1) := by decide +kernel
theorem dX12_tellMan_65 : decode cX12_tellMan 65 = .ok (.aload_n 0, 1) := by decide +kernel
theorem dX12_tellMan_66 : decode cX12_tellMan 66 = .ok (.getfield 58, 3) := by decide +kernel
theorem dX12_tellMan_69 : decode cX12_tellMan 69 = .ok (.iload_n 1, 1) := by decide +kernel
theorem dX12_tellMan_70 : decode cX12_tellMan 70 = .ok (.aload_n 0, 1) := by decide +kernel
theorem dX12_tellMan_71 : decode cX12_tellMan 71 = .ok (.iconst 0, 1) := by decide +kernel
theorem dX12_tellMan_72 : decode cX12_tellMan 72 = .ok (.bipush 9, 2) := by decide +kernel
theorem dX12_tellMan_74 : decode cX12_tellMan 74 = .ok (.invokevirtual 242, 3) := by decide +kernel
theorem dX12_tellMan_77 : decode cX12_tellMan 77 = .ok (.iastore, 1) := by decide +kernel
theorem dX12_tellMan_78 : decode cX12_tellMan 78 = .ok (.aload_n 0, 1) := by decide +kernel
theorem dX12_tellMan_79 : decode cX12_tellMan 79 = .ok (.iconst 4, 1) := by decide +kernel
theorem dX12_tellMan_80 : decode cX12_tellMan 80 = .ok (.invokevirtual 250, 3) := by decide +kernel
theorem dX12_tellMan_83 : decode cX12_tellMan 83 = .ok (.aload_n 0, 1) := by decide +kernel
theorem dX12_tellMan_84 : decode cX12_tellMan 84 = .ok (.getfield 188, 3) := by decide +kernel
theorem dX12_tellMan_87 : decode cX12_tellMan 87 = .ok (.ifCond .le 4, 3) := by decide +kernel
theorem dX12_tellMan_90 : decode cX12_tellMan 90 = .ok (.return_, 1) := by decide +kernel
theorem dX12_tellMan_91 : decode cX12_tellMan 91 = .ok (.aload_n 0, 1) := by decide +kernel
theorem dX12_tellMan_92 : decode cX12_tellMan 92 = .ok (.getfield 40, 3) := by decide +kernel
theorem dX12_tellMan_95 : decode cX12_tellMan 95 = .ok (.aload_n 0, 1) := by decide +kernel
theorem dX12_tellMan_96 : decode cX12_tellMan 96 = .ok (.getfield 224, 3) := by decide +kernel
theorem dX12_tellMan_99 : decode cX12_tellMan 99 = .ok (.aload_n 0, 1) := by decide +kernel
theorem dX12_tellMan_100 : decode cX12_tellMan 100 = .ok (.getfield 30, 3) := by decide +kernel
theorem dX12_tellMan_103 : decode cX12_tellMan 103 = .ok (.iload_n 2, 1) := by decide +kernel
theorem dX12_tellMan_104 : decode cX12_tellMan 104 = .ok (.laload, 1) := by decide +kernel
theorem dX12_tellMan_105 : decode cX12_tellMan 105 = .ok (.lastore, 1) := by decide +kernel
theorem dX12_tellMan_106 : decode cX12_tellMan 106 = .ok (.aload_n 0, 1) := by decide +kernel
theorem dX12_tellMan_107 : decode cX12_tellMan 107 = .ok (.dup, 1) := by decide +kernel
theorem dX12_tellMan_108 : decode cX12_tellMan 108 = .ok (.getfield 224, 3) := by decide +kernel
theorem dX12_tellMan_111 : decode cX12_tellMan 111 = .ok (.iconst 1, 1) := by decide +kernel
theorem dX12_tellMan_112 : decode cX12_tellMan 112 = .ok (.iadd, 1) := by decide +kernel
theorem dX12_tellMan_113 : decode cX12_tellMan 113 = .ok (.putfield 224, 3) := by decide +kernel
theorem dX12_tellMan_116 : decode cX12_tellMan 116 = .ok (.aload_n 0, 1) := by decide +kernel
theorem dX12_tellMan_117 : decode cX12_tellMan 117 = .ok (.getfield 46, 3) := by decide +kernel
theorem dX12_tellMan_120 : decode cX12_tellMan 120 = .ok (.aload_n 0, 1) := by decide +kernel
theorem dX12_tellMan_121 : decode cX12_tellMan 121 = .ok (.getfield 221, 3) := by decide +kernel
theorem dX12_tellMan_124 : decode cX12_tellMan 124 = .ok (.dup2, 1) := by decide +kernel
theorem dX12_tellMan_125 : decode cX12_tellMan 125 = .ok (.iaload, 1) := by decide +kernel
theorem dX12_tellMan_126 : decode cX12_tellMan 126 = .ok (.iconst 1, 1) := by decide +kernel
theorem dX12_tellMan_127 : decode cX12_tellMan 127 = .ok (.iadd, 1) := by decide +kernel
theorem dX12_tellMan_128 : decode cX12_tellMan 128 = .ok (.iastore, 1) := by decide +kernel
theorem dX12_tellMan_129 : decode cX12_tellMan 129 = .ok (.return_, 1) := by decide +kernel
theorem dX12_tellJudge_0 : decode cX12_tellJudge 0 = .ok (.bipush 7, 2) := by decide +kernel
theorem dX12_tellJudge_2 : decode cX12_tellJudge 2 = .ok (.aload_n 0, 1) := by decide +kernel
theorem dX12_tellJudge_3 : decode cX12_tellJudge 3 = .ok (.getfield 221, 3) := by decide +kernel
theorem dX12_tellJudge_6 : decode cX12_tellJudge 6 = .ok (.imul, 1) := by decide +kernel
theorem dX12_tellJudge_7 : decode cX12_tellJudge 7 = .ok (.aload_n 0, 1) := by decide +kernel
theorem dX12_tellJudge_8 : decode cX12_tellJudge 8 = .ok (.getfield 61, 3) := by decide +kernel
theorem dX12_tellJudge_11 : decode cX12_tellJudge 11 = .ok (.aload_n 0, 1) := by decide +kernel
theorem dX12_tellJudge_12 : decode cX12_tellJudge 12 = .ok (.getfield 221, 3) := by decide +kernel
theorem dX12_tellJudge_15 : decode cX12_tellJudge 15 = .ok (.iaload, 1) := by decide +kernel
theorem dX12_tellJudge_16 : decode cX12_tellJudge 16 = .ok (.iadd, 1) := by decide +kernel
theorem dX12_tellJudge_17 : decode cX12_tellJudge 17 = .ok (.istore_n 1, 1) := by decide +kernel
theorem dX12_tellJudge_18 : decode cX12_tellJudge 18 = .ok (.aload_n 0, 1) := by decide +kernel
theorem dX12_tellJudge_19 : decode cX12_tellJudge 19 = .ok (.invokevirtual 266, 3) := by decide +kernel
theorem dX12_tellJudge_22 : decode cX12_tellJudge 22 = .ok (.istore_n 2, 1) := by decide +kernel
theorem dX12_tellJudge_23 : decode cX12_tellJudge 23 = .ok (.aload_n 0, 1) := by decide +kernel
theorem dX12_tellJudge_24 : decode cX12_tellJudge 24 = .ok (.bipush 9, 2) := by decide +kernel
theorem dX12_tellJudge_26 : decode cX12_tellJudge 26 = .ok (.invokevirtual 206, 3) := by decide +kernel
theorem dX12_tellJudge_29 : decode cX12_tellJudge 29 = .ok (.istore_n 3, 1) := by decide +kernel
theorem dX12_tellJudge_30 : decode cX12_tellJudge 30 = .ok (.iload_n 3, 1) := by decide +kernel
theorem dX12_tellJudge_31 : decode cX12_tellJudge 31 = .ok (.ifCond .eq 7, 3) := by decide +kernel
theorem dX12_tellJudge_34 : decode cX12_tellJudge 34 = .ok (.aload_n 0, 1) := by decide +kernel
theorem dX12_tellJudge_35 : decode cX12_tellJudge 35 = .ok (.invokevirtual 209, 3) := by decide +kernel
theorem dX12_tellJudge_38 : decode cX12_tellJudge 38 = .ok (.aload_n 0, 1) := by decide +kernel
theorem dX12_tellJudge_39 : decode cX12_tellJudge 39 = .ok (.iconst 0, 1) := by decide +kernel
theorem dX12_tellJudge_40 : decode cX12_tellJudge 40 = .ok (.bipush 9, 2) := by decide +kernel
theorem dX12_tellJudge_42 : decode cX12_tellJudge 42 = .ok (.invokevirtual 242, 3) := by decide +kernel
theorem dX12_tellJudge_45 : decode cX12_tellJudge 45 = .ok (.istore 4, 2) := by decide +kernel
theorem dX12_tellJudge_47 : decode cX12_tellJudge 47 = .ok (.aload_n 0, 1) := by decide +kernel
theorem dX12_tellJudge_48 : decode cX12_tellJudge 48 = .ok (.getfield 64, 3) := by decide +kernel
theorem dX12_tellJudge_51 : decode cX12_tellJudge 51 = .ok (.iload_n 1, 1) := by decide +kernel
theorem dX12_tellJudge_52 : decode cX12_tellJudge 52 = .ok (.iload_n 3, 1) := by decide +kernel
theorem dX12_tellJudge_53 : decode cX12_tellJudge 53 = .ok (.ifCond .eq 9, 3) := by decide +kernel
theorem dX12_tellJudge_56 : decode cX12_tellJudge 56 = .ok (.iload 4, 2) := by decide +kernel
theorem dX12_tellJudge_58 : decode cX12_tellJudge 58 = .ok (.ineg, 1) := by decide +kernel
theorem dX12_tellJudge_59 : decode cX12_tellJudge 59 = .ok (.goto 5, 3) := by decide +kernel
theorem dX12_tellJudge_62 : decode cX12_tellJudge 62 = .ok (.iload 4, 2) := by decide +kernel
theorem dX12_tellJudge_64 : decode cX12_tellJudge 64 = .ok (.iastore, 1) := by decide +kernel
theorem dX12_tellJudge_65 : decode cX12_tellJudge 65 = .ok (.aload_n 0, 1) := by decide +kernel
theorem dX12_tellJudge_66 : decode cX12_tellJudge 66 = .ok (.getfield 67, 3) := by decide +kernel
theorem dX12_tellJudge_69 : decode cX12_tellJudge 69 = .ok (.iload_n 1, 1) := by decide +kernel
theorem dX12_tellJudge_70 : decode cX12_tellJudge 70 = .ok (.aload_n 0, 1) := by decide +kernel
theorem dX12_tellJudge_71 : decode cX12_tellJudge 71 = .ok (.iconst 0, 1) := by decide +kernel
theorem dX12_tellJudge_72 : decode cX12_tellJudge 72 = .ok (.bipush 9, 2) := by decide +kernel
theorem dX12_tellJudge_74 : decode cX12_tellJudge 74 = .ok (.invokevirtual 242, 3) := by decide +kernel
theorem dX12_tellJudge_77 : decode cX12_tellJudge 77 = .ok (.iastore, 1) := by decide +kernel
theorem dX12_tellJudge_78 : decode cX12_tellJudge 78 = .ok (.aload_n 0, 1) := by decide +kernel
theorem dX12_tellJudge_79 : decode cX12_tellJudge 79 = .ok (.iconst 4, 1) := by decide +kernel
theorem dX12_tellJudge_80 : decode cX12_tellJudge 80 = .ok (.invokevirtual 250, 3) := by decide +kernel
theorem dX12_tellJudge_83 : decode cX12_tellJudge 83 = .ok (.aload_n 0, 1) := by decide +kernel
theorem dX12_tellJudge_84 : decode cX12_tellJudge 84 = .ok (.getfield 188, 3) := by decide +kernel
theorem dX12_tellJudge_87 : decode cX12_tellJudge 87 = .ok (.ifCond .le 4, 3) := by decide +kernel
theorem dX12_tellJudge_90 : decode cX12_tellJudge 90 = .ok (.return_, 1) := by decide +kernel
theorem dX12_tellJudge_91 : decode cX12_tellJudge 91 = .ok (.aload_n 0, 1) := by decide +kernel
theorem dX12_tellJudge_92 : decode cX12_tellJudge 92 = .ok (.getfield 40, 3) := by decide +kernel
theorem dX12_tellJudge_95 : decode cX12_tellJudge 95 = .ok (.aload_n 0, 1) := by decide +kernel
theorem dX12_tellJudge_96 : decode cX12_tellJudge 96 = .ok (.getfield 224, 3) := by decide +kernel
theorem dX12_tellJudge_99 : decode cX12_tellJudge 99 = .ok (.aload_n 0, 1) := by decide +kernel
theorem dX12_tellJudge_100 : decode cX12_tellJudge 100 = .ok (.getfield 30, 3) := by decide +kernel
theorem dX12_tellJudge_103 : decode cX12_tellJudge 103 = .ok (.iload_n 2, 1) := by decide +kernel
theorem dX12_tellJudge_104 : decode cX12_tellJudge 104 = .ok (.laload, 1) := by decide +kernel
theorem dX12_tellJudge_105 : decode cX12_tellJudge 105 = .ok (.lastore, 1) := by decide +kernel
theorem dX12_tellJudge_106 : decode cX12_tellJudge 106 = .ok (.aload_n 0, 1) := by decide +kernel
theorem dX12_tellJudge_107 : decode cX12_tellJudge 107 = .ok (.dup, 1) := by decide +kernel
theorem dX12_tellJudge_108 : decode cX12_tellJudge 108 = .ok (.getfield 224, 3) := by decide +kernel
theorem dX12_tellJudge_111 : decode cX12_tellJudge 111 = .ok (.iconst 1, 1) := by decide +kernel
theorem dX12_tellJudge_112 : decode cX12_tellJudge 112 = .ok (.iadd, 1) := by decide +kernel
theorem dX12_tellJudge_113 : decode cX12_tellJudge 113 = .ok (.putfield 224, 3) := by decide +kernel
theorem dX12_tellJudge_116 : decode cX12_tellJudge 116 = .ok (.aload_n 0, 1) := by decide +kernel
theorem dX12_tellJudge_117 : decode cX12_tellJudge 117 = .ok (.getfield 61, 3) := by decide +kernel
theorem dX12_tellJudge_120 : decode cX12_tellJudge 120 = .ok (.aload_n 0, 1) := by decide +kernel
theorem dX12_tellJudge_121 : decode cX12_tellJudge 121 = .ok (.getfield 221, 3) := by decide +kernel
theorem dX12_tellJudge_124 : decode cX12_tellJudge 124 = .ok (.dup2, 1) := by decide +kernel
theorem dX12_tellJudge_125 : decode cX12_tellJudge 125 = .ok (.iaload, 1) := by decide +kernel
theorem dX12_tellJudge_126 : decode cX12_tellJudge 126 = .ok (.iconst 1, 1) := by decide +kernel
theorem dX12_tellJudge_127 : decode cX12_tellJudge 127 = .ok (.iadd, 1) := by decide +kernel
theorem dX12_tellJudge_128 : decode cX12_tellJudge 128 = .ok (.iastore, 1) := by decide +kernel
theorem dX12_tellJudge_129 : decode cX12_tellJudge 129 = .ok (.return_, 1) := by decide +kernel
theorem dX12_tellLaw_0 : decode cX12_tellLaw 0 = .ok (.aload_n 0, 1) := by decide +kernel
theorem dX12_tellLaw_1 : decode cX12_tellLaw 1 = .ok (.iconst 5, 1) := by decide +kernel
theorem dX12_tellLaw_2 : decode cX12_tellLaw 2 = .ok (.invokevirtual 250, 3) := by decide +kernel
theorem dX12_tellLaw_5 : decode cX12_tellLaw 5 = .ok (.aload_n 0, 1) := by decide +kernel
theorem dX12_tellLaw_6 : decode cX12_tellLaw 6 = .ok (.getfield 227, 3) := by decide +kernel
theorem dX12_tellLaw_9 : decode cX12_tellLaw 9 = .ok (.istore_n 2, 1) := by decide +kernel
theorem dX12_tellLaw_10 : decode cX12_tellLaw 10 = .ok (.iconst 0, 1) := by decide +kernel
theorem dX12_tellLaw_11 : decode cX12_tellLaw 11 = .ok (.istore_n 3, 1) := by decide +kernel
theorem dX12_tellLaw_12 : decode cX12_tellLaw 12 = .ok (.aload_n 0, 1) := by decide +kernel
theorem dX12_tellLaw_13 : decode cX12_tellLaw 13 = .ok (.getfield 188, 3) := by decide +kernel
theorem dX12_tellLaw_16 : decode cX12_tellLaw 16 = .ok (.ifCond .ne 113, 3) := by decide +kernel
theorem dX12_tellLaw_19 : decode cX12_tellLaw 19 = .ok (.aload_n 0, 1) := by decide +kernel
theorem dX12_tellLaw_20 : decode cX12_tellLaw 20 = .ok (.bipush 35, 2) := by decide +kernel
theorem dX12_tellLaw_22 : decode cX12_tellLaw 22 = .ok (.invokevirtual 206, 3) := by decide +kernel
theorem dX12_tellLaw_25 : decode cX12_tellLaw 25 = .ok (.ifCond .eq 104, 3) := by decide +kernel
theorem dX12_tellLaw_28 : decode cX12_tellLaw 28 = .ok (.iload_n 3, 1) := by decide +kernel
theorem dX12_tellLaw_29 : decode cX12_tellLaw 29 = .ok (.iconst 4, 1) := by decide +kernel
theorem dX12_tellLaw_30 : decode cX12_tellLaw 30 = .ok (.if_icmp .ne 8, 3) := by decide +kernel
theorem dX12_tellLaw_33 : decode cX12_tellLaw 33 = .ok (.aload_n 0, 1) := by decide +kernel
theorem dX12_tellLaw_34 : decode cX12_tellLaw 34 = .ok (.iconst 2, 1) := by decide +kernel
theorem dX12_tellLaw_35 : decode cX12_tellLaw 35 = .ok (.invokevirtual 203, 3) := by decide +kernel
theorem dX12_tellLaw_38 : decode cX12_tellLaw 38 = .ok (.aload_n 0, 1) := by decide +kernel
theorem dX12_tellLaw_39 : decode cX12_tellLaw 39 = .ok (.getfield 188, 3) := by decide +kernel
theorem dX12_tellLaw_42 : decode cX12_tellLaw 42 = .ok (.ifCond .le 4, 3) := by decide +kernel
theorem dX12_tellLaw_45 : decode cX12_tellLaw 45 = .ok (.return_, 1) := by decide +kernel
theorem dX12_tellLaw_46 : decode cX12_tellLaw 46 = .ok (.iinc 3 1, 3) := by decide +kernel
theorem dX12_tellLaw_49 : decode cX12_tellLaw 49 = .ok (.aload_n 0, 1) := by decide +kernel
theorem dX12_tellLaw_50 : decode cX12_tellLaw 50 = .ok (.invokevirtual 209, 3) := by decide +kernel
theorem dX12_tellLaw_53 : decode cX12_tellLaw 53 = .ok (.aload_n 0, 1) := by decide +kernel
theorem dX12_tellLaw_54 : decode cX12_tellLaw 54 = .ok (.getfield 76, 3) := by decide +kernel
theorem dX12_tellLaw_57 : decode cX12_tellLaw 57 = .ok (.aload_n 0, 1) := by decide +kernel
theorem dX12_tellLaw_58 : decode cX12_tellLaw 58 = .ok (.getfield 227, 3) := by decide +kernel
theorem dX12_tellLaw_61 : decode cX12_tellLaw 61 = .ok (.iconst 1, 1) := by decide +kernel
theorem dX12_tellLaw_62 : decode cX12_tellLaw 62 = .ok (.bastore, 1) := by decide +kernel
theorem dX12_tellLaw_63 : decode cX12_tellLaw 63 = .ok (.aload_n 0, 1) := by decide +kernel
theorem dX12_tellLaw_64 : decode cX12_tellLaw 64 = .ok (.getfield 80, 3) := by decide +kernel
theorem dX12_tellLaw_67 : decode cX12_tellLaw 67 = .ok (.aload_n 0, 1) := by decide +kernel
theorem dX12_tellLaw_68 : decode cX12_tellLaw 68 = .ok (.getfield 227, 3) := by decide +kernel
theorem dX12_tellLaw_71 : decode cX12_tellLaw 71 = .ok (.aload_n 0, 1) := by decide +kernel
theorem dX12_tellLaw_72 : decode cX12_tellLaw 72 = .ok (.getfield 230, 3) := by decide +kernel
theorem dX12_tellLaw_75 : decode cX12_tellLaw 75 = .ok (.iastore, 1) := by decide +kernel
theorem dX12_tellLaw_76 : decode cX12_tellLaw 76 = .ok (.aload_n 0, 1) := by decide +kernel
theorem dX12_tellLaw_77 : decode cX12_tellLaw 77 = .ok (.invokevirtual 270, 3) := by decide +kernel
theorem dX12_tellLaw_80 : decode cX12_tellLaw 80 = .ok (.aload_n 0, 1) := by decide +kernel
theorem dX12_tellLaw_81 : decode cX12_tellLaw 81 = .ok (.bipush 13, 2) := by decide +kernel
theorem dX12_tellLaw_83 : decode cX12_tellLaw 83 = .ok (.invokevirtual 250, 3) := by decide +kernel
theorem dX12_tellLaw_86 : decode cX12_tellLaw 86 = .ok (.aload_n 0, 1) := by decide +kernel
theorem dX12_tellLaw_87 : decode cX12_tellLaw 87 = .ok (.getfield 83, 3) := by decide +kernel
theorem dX12_tellLaw_90 : decode cX12_tellLaw 90 = .ok (.aload_n 0, 1) := by decide +kernel
theorem dX12_tellLaw_91 : decode cX12_tellLaw 91 = .ok (.getfield 227, 3) := by decide +kernel
theorem dX12_tellLaw_94 : decode cX12_tellLaw 94 = .ok (.aload_n 0, 1) := by decide +kernel
theorem dX12_tellLaw_95 : decode cX12_tellLaw 95 = .ok (.getfield 230, 3) := by decide +kernel
theorem dX12_tellLaw_98 : decode cX12_tellLaw 98 = .ok (.iastore, 1) := by decide +kernel
theorem dX12_tellLaw_99 : decode cX12_tellLaw 99 = .ok (.aload_n 0, 1) := by decide +kernel
theorem dX12_tellLaw_100 : decode cX12_tellLaw 100 = .ok (.getfield 188, 3) := by decide +kernel
theorem dX12_tellLaw_103 : decode cX12_tellLaw 103 = .ok (.ifCond .ne 7, 3) := by decide +kernel
theorem dX12_tellLaw_106 : decode cX12_tellLaw 106 = .ok (.aload_n 0, 1) := by decide +kernel
theorem dX12_tellLaw_107 : decode cX12_tellLaw 107 = .ok (.invokevirtual 270, 3) := by decide +kernel
theorem dX12_tellLaw_110 : decode cX12_tellLaw 110 = .ok (.aload_n 0, 1) := by decide +kernel
theorem dX12_tellLaw_111 : decode cX12_tellLaw 111 = .ok (.bipush 36, 2) := by decide +kernel
theorem dX12_tellLaw_113 : decode cX12_tellLaw 113 = .ok (.invokevirtual 250, 3) := by decide +kernel
theorem dX12_tellLaw_116 : decode cX12_tellLaw 116 = .ok (.aload_n 0, 1) := by decide +kernel
theorem dX12_tellLaw_117 : decode cX12_tellLaw 117 = .ok (.invokevirtual 273, 3) := by decide +kernel
theorem dX12_tellLaw_120 : decode cX12_tellLaw 120 = .ok (.aload_n 0, 1) := by decide +kernel
theorem dX12_tellLaw_121 : decode cX12_tellLaw 121 = .ok (.bipush 37, 2) := by decide +kernel
theorem dX12_tellLaw_123 : decode cX12_tellLaw 123 = .ok (.invokevirtual 250, 3) := by decide +kernel
theorem dX12_tellLaw_126 : decode cX12_tellLaw 126 = .ok (.goto (-114), 3) := by decide +kernel
theorem dX12_tellLaw_129 : decode cX12_tellLaw 129 = .ok (.aload_n 0, 1) := by decide +kernel
theorem dX12_tellLaw_130 : decode cX12_tellLaw 130 = .ok (.getfield 76, 3) := by decide +kernel
theorem dX12_tellLaw_133 : decode cX12_tellLaw 133 = .ok (.aload_n 0, 1) := by decide +kernel
theorem dX12_tellLaw_134 : decode cX12_tellLaw 134 = .ok (.getfield 227, 3) := by decide +kernel
theorem dX12_tellLaw_137 : decode cX12_tellLaw 137 = .ok (.iconst 0, 1) := by decide +kernel
theorem dX12_tellLaw_138 : decode cX12_tellLaw 138 = .ok (.bastore, 1) := by decide +kernel
theorem dX12_tellLaw_139 : decode cX12_tellLaw 139 = .ok (.aload_n 0, 1) := by decide +kernel
theorem dX12_tellLaw_140 : decode cX12_tellLaw 140 = .ok (.invokevirtual 273, 3) := by decide +kernel
theorem dX12_tellLaw_143 : decode cX12_tellLaw 143 = .ok (.aload_n 0, 1) := by decide +kernel
theorem dX12_tellLaw_144 : decode cX12_tellLaw 144 = .ok (.iconst 4, 1) := by decide +kernel
theorem dX12_tellLaw_145 : decode cX12_tellLaw 145 = .ok (.invokevirtual 250, 3) := by decide +kernel
theorem dX12_tellLaw_148 : decode cX12_tellLaw 148 = .ok (.aload_n 0, 1) := by decide +kernel
theorem dX12_tellLaw_149 : decode cX12_tellLaw 149 = .ok (.getfield 188, 3) := by decide +kernel
theorem dX12_tellLaw_152 : decode cX12_tellLaw 152 = .ok (.ifCond .le 4, 3) := by decide +kernel
theorem dX12_tellLaw_155 : decode cX12_tellLaw 155 = .ok (.return_, 1) := by decide +kernel
theorem dX12_tellLaw_156 : decode cX12_tellLaw 156 = .ok (.aload_n 0, 1) := by decide +kernel
theorem dX12_tellLaw_157 : decode cX12_tellLaw 157 = .ok (.getfield 70, 3) := by decide +kernel
theorem dX12_tellLaw_160 : decode cX12_tellLaw 160 = .ok (.iconst 5, 1) := by decide +kernel
theorem dX12_tellLaw_161 : decode cX12_tellLaw 161 = .ok (.aload_n 0, 1) := by decide +kernel
theorem dX12_tellLaw_162 : decode cX12_tellLaw 162 = .ok (.getfield 221, 3) := by decide +kernel
theorem dX12_tellLaw_165 : decode cX12_tellLaw 165 = .ok (.imul, 1) := by decide +kernel
theorem dX12_tellLaw_166 : decode cX12_tellLaw 166 = .ok (.iload_n 1, 1) := by decide +kernel
theorem dX12_tellLaw_167 : decode cX12_tellLaw 167 = .ok (.iadd, 1) := by decide +kernel
theorem dX12_tellLaw_168 : decode cX12_tellLaw 168 = .ok (.iload_n 2, 1) := by decide +kernel
theorem dX12_tellLaw_169 : decode cX12_tellLaw 169 = .ok (.iastore, 1) := by decide +kernel
theorem dX12_tellLaw_170 : decode cX12_tellLaw 170 = .ok (.aload_n 0, 1) := by decide +kernel
theorem dX12_tellLaw_171 : decode cX12_tellLaw 171 = .ok (.getfield 73, 3) := by decide +kernel
theorem dX12_tellLaw_174 : decode cX12_tellLaw 174 = .ok (.iconst 5, 1) := by decide +kernel
theorem dX12_tellLaw_175 : decode cX12_tellLaw 175 = .ok (.aload_n 0, 1) := by decide +kernel
theorem dX12_tellLaw_176 : decode cX12_tellLaw 176 = .ok (.getfield 221, 3) := by decide +kernel
theorem dX12_tellLaw_179 : decode cX12_tellLaw 179 = .ok (.imul, 1) := by decide +kernel
theorem dX12_tellLaw_180 : decode cX12_tellLaw 180 = .ok (.iload_n 1, 1) := by decide +kernel
theorem dX12_tellLaw_181 : decode cX12_tellLaw 181 = .ok (.iadd, 1) := by decide +kernel
theorem dX12_tellLaw_182 : decode cX12_tellLaw 182 = .ok (.aload_n 0, 1) := by decide +kernel
theorem dX12_tellLaw_183 : decode cX12_tellLaw 183 = .ok (.getfield 227, 3) := by decide +kernel
theorem dX12_tellLaw_186 : decode cX12_tellLaw 186 = .ok (.iastore, 1) := by decide +kernel
theorem dX12_tellLaw_187 : decode cX12_tellLaw 187 = .ok (.return_, 1) := by decide +kernel
theorem dX12_term_0 : decode cX12_term 0 = .ok (.aload_n 0, 1) := by decide +kernel
theorem dX12_term_1 : decode cX12_term 1 = .ok (.getfield 86, 3) := by decide +kernel
theorem dX12_term_4 : decode cX12_term 4 = .ok (.aload_n 0, 1) := by decide +kernel
theorem dX12_term_5 : decode cX12_term 5 = .ok (.getfield 227, 3) := by decide +kernel
theorem dX12_term_8 : decode cX12_term 8 = .ok (.aload_n 0, 1) := by decide +kernel
theorem dX12_term_9 : decode cX12_term 9 = .ok (.getfield 230, 3) := by decide +kernel
theorem dX12_term_12 : decode cX12_term 12 = .ok (.iastore, 1) := by decide +kernel
theorem dX12_term_13 : decode cX12_term 13 = .ok (.aload_n 0, 1) := by decide +kernel
theorem dX12_term_14 : decode cX12_term 14 = .ok (.getfield 188, 3) := by decide +kernel
theorem dX12_term_17 : decode cX12_term 17 = .ok (.ifCond .ne 7, 3) := by decide +kernel
theorem dX12_term_20 : decode cX12_term 20 = .ok (.aload_n 0, 1) := by decide +kernel
theorem dX12_term_21 : decode cX12_term 21 = .ok (.invokevirtual 270, 3) := by decide +kernel
theorem dX12_term_24 : decode cX12_term 24 = .ok (.aload_n 0, 1) := by decide +kernel
theorem dX12_term_25 : decode cX12_term 25 = .ok (.getfield 89, 3) := by decide +kernel
theorem dX12_term_28 : decode cX12_term 28 = .ok (.aload_n 0, 1) := by decide +kernel
theorem dX12_term_29 : decode cX12_term 29 = .ok (.getfield 227, 3) := by decide +kernel
theorem dX12_term_32 : decode cX12_term 32 = .ok (.aload_n 0, 1) := by decide +kernel
theorem dX12_term_33 : decode cX12_term 33 = .ok (.getfield 230, 3) := by decide +kernel
theorem dX12_term_36 : decode cX12_term 36 = .ok (.iastore, 1) := by decide +kernel
theorem dX12_term_37 : decode cX12_term 37 = .ok (.aload_n 0, 1) := by decide +kernel
theorem dX12_term_38 : decode cX12_term 38 = .ok (.dup, 1) := by decide +kernel
theorem dX12_term_39 : decode cX12_term 39 = .ok (.getfield 227, 3) := by decide +kernel
theorem dX12_term_42 : decode cX12_term 42 = .ok (.iconst 1, 1) := by decide +kernel
theorem dX12_term_43 : decode cX12_term 43 = .ok (.iadd, 1) := by decide +kernel
theorem dX12_term_44 : decode cX12_term 44 = .ok (.putfield 227, 3) := by decide +kernel
theorem dX12_term_47 : decode cX12_term 47 = .ok (.return_, 1) := by decide +kernel
theorem dX12_emit_0 : decode cX12_emit 0 = .ok (.aload_n 0, 1) := by decide +kernel
theorem dX12_emit_1 : decode cX12_emit 1 = .ok (.getfield 92, 3) := by decide +kernel
theorem dX12_emit_4 : decode cX12_emit 4 = .ok (.aload_n 0, 1) := by decide +kernel
theorem dX12_emit_5 : decode cX12_emit 5 = .ok (.getfield 230, 3) := by decide +kernel
theorem dX12_emit_8 : decode cX12_emit 8 = .ok (.iload_n 1, 1) := by decide +kernel
theorem dX12_emit_9 : decode cX12_emit 9 = .ok (.iastore, 1) := by decide +kernel
theorem dX12_emit_10 : decode cX12_emit 10 = .ok (.aload_n 0, 1) := by decide +kernel
theorem dX12_emit_11 : decode cX12_emit 11 = .ok (.getfield 95, 3) := by decide +kernel
theorem dX12_emit_14 : decode cX12_emit 14 = .ok (.aload_n 0, 1) := by decide +kernel
theorem dX12_emit_15 : decode cX12_emit 15 = .ok (.getfield 230, 3) := by decide +kernel
theorem dX12_emit_18 : decode cX12_emit 18 = .ok (.iload_n 2, 1) := by decide +kernel
theorem dX12_emit_19 : decode cX12_emit 19 = .ok (.iastore, 1) := by decide +kernel
theorem dX12_emit_20 : decode cX12_emit 20 = .ok (.aload_n 0, 1) := by decide +kernel
theorem dX12_emit_21 : decode cX12_emit 21 = .ok (.dup, 1) := by decide +kernel
theorem dX12_emit_22 : decode cX12_emit 22 = .ok (.getfield 230, 3) := by decide +kernel
theorem dX12_emit_25 : decode cX12_emit 25 = .ok (.iconst 1, 1) := by decide +kernel
theorem dX12_emit_26 : decode cX12_emit 26 = .ok (.iadd, 1) := by decide +kernel
theorem dX12_emit_27 : decode cX12_emit 27 = .ok (.putfield 230, 3) := by decide +kernel
theorem dX12_emit_30 : decode cX12_emit 30 = .ok (.return_, 1) := by decide +kernel
theorem dX12_comesOut_0 : decode cX12_comesOut 0 = .ok (.aload_n 0, 1) := by decide +kernel
theorem dX12_comesOut_1 : decode cX12_comesOut 1 = .ok (.getfield 276, 3) := by decide +kernel
theorem dX12_comesOut_4 : decode cX12_comesOut 4 = .ok (.ifCond .le 87, 3) := by decide +kernel
theorem dX12_comesOut_7 : decode cX12_comesOut 7 = .ok (.aload_n 0, 1) := by decide +kernel
theorem dX12_comesOut_8 : decode cX12_comesOut 8 = .ok (.getfield 98, 3) := by decide +kernel
theorem dX12_comesOut_11 : decode cX12_comesOut 11 = .ok (.aload_n 0, 1) := by decide +kernel
theorem dX12_comesOut_12 : decode cX12_comesOut 12 = .ok (.getfield 276, 3) := by decide +kernel
theorem dX12_comesOut_15 : decode cX12_comesOut 15 = .ok (.iconst 1, 1) := by decide +kernel
theorem dX12_comesOut_16 : decode cX12_comesOut 16 = .ok (.isub, 1) := by decide +kernel
theorem dX12_comesOut_17 : decode cX12_comesOut 17 = .ok (.iaload, 1) := by decide +kernel
theorem dX12_comesOut_18 : decode cX12_comesOut 18 = .ok (.istore_n 2, 1) := by decide +kernel
theorem dX12_comesOut_19 : decode cX12_comesOut 19 = .ok (.iload_n 2, 1) := by decide +kernel
theorem dX12_comesOut_20 : decode cX12_comesOut 20 = .ok (.bipush 6, 2) := by decide +kernel
theorem dX12_comesOut_22 : decode cX12_comesOut 22 = .ok (.if_icmp .eq 19, 3) := by decide +kernel
theorem dX12_comesOut_25 : decode cX12_comesOut 25 = .ok (.iload_n 1, 1) := by decide +kernel
theorem dX12_comesOut_26 : decode cX12_comesOut 26 = .ok (.ifCond .eq 16, 3) := by decide +kernel
theorem dX12_comesOut_29 : decode cX12_comesOut 29 = .ok (.iload_n 2, 1) := by decide +kernel
theorem dX12_comesOut_30 : decode cX12_comesOut 30 = .ok (.bipush 8, 2) := by decide +kernel
theorem dX12_comesOut_32 : decode cX12_comesOut 32 = .ok (.if_icmp .eq 9, 3) := by decide +kernel
theorem dX12_comesOut_35 : decode cX12_comesOut 35 = .ok (.iload_n 2, 1) := by decide +kernel
theorem dX12_comesOut_36 : decode cX12_comesOut 36 = .ok (.bipush 9, 2) := by decide +kernel
theorem dX12_comesOut_38 : decode cX12_comesOut 38 = .ok (.if_icmp .ne 4, 3) := by decide +kernel
theorem dX12_comesOut_41 : decode cX12_comesOut 41 = .ok (.return_, 1) := by decide +kernel
theorem dX12_comesOut_42 : decode cX12_comesOut 42 = .ok (.aload_n 0, 1) := by decide +kernel
theorem dX12_comesOut_43 : decode cX12_comesOut 43 = .ok (.dup, 1) := by decide +kernel
theorem dX12_comesOut_44 : decode cX12_comesOut 44 = .ok (.getfield 276, 3) := by decide +kernel
theorem dX12_comesOut_47 : decode cX12_comesOut 47 = .ok (.iconst 1, 1) := by decide +kernel
theorem dX12_comesOut_48 : decode cX12_comesOut 48 = .ok (.isub, 1) := by decide +kernel
theorem dX12_comesOut_49 : decode cX12_comesOut 49 = .ok (.putfield 276, 3) := by decide +kernel
theorem dX12_comesOut_52 : decode cX12_comesOut 52 = .ok (.aload_n 0, 1) := by decide +kernel
theorem dX12_comesOut_53 : decode cX12_comesOut 53 = .ok (.iload_n 2, 1) := by decide +kernel
theorem dX12_comesOut_54 : decode cX12_comesOut 54 = .ok (.bipush 8, 2) := by decide +kernel
theorem dX12_comesOut_56 : decode cX12_comesOut 56 = .ok (.if_icmp .ne 7, 3) := by decide +kernel
theorem dX12_comesOut_59 : decode cX12_comesOut 59 = .ok (.iconst 2, 1) := by decide +kernel
theorem dX12_comesOut_60 : decode cX12_comesOut 60 = .ok (.goto 24, 3) := by decide +kernel
theorem dX12_comesOut_63 : decode cX12_comesOut 63 = .ok (.iload_n 2, 1) := by decide +kernel
theorem dX12_comesOut_64 : decode cX12_comesOut 64 = .ok (.bipush 9, 2) := by decide +kernel
theorem dX12_comesOut_66 : decode cX12_comesOut 66 = .ok (.if_icmp .ne 7, 3) := by decide +kernel
theorem dX12_comesOut_69 : decode cX12_comesOut 69 = .ok (.iconst 3, 1) := by decide +kernel
theorem dX12_comesOut_70 : decode cX12_comesOut 70 = .ok (.goto 14, 3) := by decide +kernel
theorem dX12_comesOut_73 : decode cX12_comesOut 73 = .ok (.iload_n 2, 1) := by decide +kernel
theorem dX12_comesOut_74 : decode cX12_comesOut 74 = .ok (.bipush 10, 2) := by decide +kernel
theorem dX12_comesOut_76 : decode cX12_comesOut 76 = .ok (.if_icmp .ne 7, 3) := by decide +kernel
theorem dX12_comesOut_79 : decode cX12_comesOut 79 = .ok (.iconst 4, 1) := by decide +kernel
theorem dX12_comesOut_80 : decode cX12_comesOut 80 = .ok (.goto 4, 3) := by decide +kernel
theorem dX12_comesOut_83 : decode cX12_comesOut 83 = .ok (.iconst 5, 1) := by decide +kernel
theorem dX12_comesOut_84 : decode cX12_comesOut 84 = .ok (.iconst 0, 1) := by decide +kernel
theorem dX12_comesOut_85 : decode cX12_comesOut 85 = .ok (.invokevirtual 279, 3) := by decide +kernel
theorem dX12_comesOut_88 : decode cX12_comesOut 88 = .ok (.goto (-88), 3) := by decide +kernel
theorem dX12_comesOut_91 : decode cX12_comesOut 91 = .ok (.return_, 1) := by decide +kernel
theorem dX12_expression_0 : decode cX12_expression 0 = .ok (.aload_n 0, 1) := by decide +kernel
theorem dX12_expression_1 : decode cX12_expression 1 = .ok (.iconst 0, 1) := by decide +kernel
theorem dX12_expression_2 : decode cX12_expression 2 = .ok (.putfield 276, 3) := by decide +kernel
theorem dX12_expression_5 : decode cX12_expression 5 = .ok (.aload_n 0, 1) := by decide +kernel
theorem dX12_expression_6 : decode cX12_expression 6 = .ok (.getfield 215, 3) := by decide +kernel
theorem dX12_expression_9 : decode cX12_expression 9 = .ok (.istore_n 1, 1) := by decide +kernel
theorem dX12_expression_10 : decode cX12_expression 10 = .ok (.iconst 1, 1) := by decide +kernel
theorem dX12_expression_11 : decode cX12_expression 11 = .ok (.istore_n 2, 1) := by decide +kernel
theorem dX12_expression_12 : decode cX12_expression 12 = .ok (.iload_n 2, 1) := by decide +kernel
theorem dX12_expression_13 : decode cX12_expression 13 = .ok (.ifCond .eq 259, 3) := by decide +kernel
theorem dX12_expression_16 : decode cX12_expression 16 = .ok (.aload_n 0, 1) := by decide +kernel
theorem dX12_expression_17 : decode cX12_expression 17 = .ok (.getfield 188, 3) := by decide +kernel
theorem dX12_expression_20 : decode cX12_expression 20 = .ok (.ifCond .ne 252, 3) := by decide +kernel
theorem dX12_expression_23 : decode cX12_expression 23 = .ok (.aload_n 0, 1) := by decide +kernel
theorem dX12_expression_24 : decode cX12_expression 24 = .ok (.bipush 6, 2) := by decide +kernel
theorem dX12_expression_26 : decode cX12_expression 26 = .ok (.invokevirtual 206, 3) := by decide +kernel
theorem dX12_expression_29 : decode cX12_expression 29 = .ok (.ifCond .eq 55, 3) := by decide +kernel
theorem dX12_expression_32 : decode cX12_expression 32 = .ok (.aload_n 0, 1) := by decide +kernel
theorem dX12_expression_33 : decode cX12_expression 33 = .ok (.getfield 215, 3) := by decide +kernel
theorem dX12_expression_36 : decode cX12_expression 36 = .ok (.bipush 6, 2) := by decide +kernel
theorem dX12_expression_38 : decode cX12_expression 38 = .ok (.if_icmp .ne 8, 3) := by decide +kernel
theorem dX12_expression_41 : decode cX12_expression 41 = .ok (.aload_n 0, 1) := by decide +kernel
theorem dX12_expression_42 : decode cX12_expression 42 = .ok (.iconst 2, 1) := by decide +kernel
theorem dX12_expression_43 : decode cX12_expression 43 = .ok (.invokevirtual 203, 3) := by decide +kernel
theorem dX12_expression_46 : decode cX12_expression 46 = .ok (.aload_n 0, 1) := by decide +kernel
theorem dX12_expression_47 : decode cX12_expression 47 = .ok (.dup, 1) := by decide +kernel
theorem dX12_expression_48 : decode cX12_expression 48 = .ok (.getfield 215, 3) := by decide +kernel
theorem dX12_expression_51 : decode cX12_expression 51 = .ok (.iconst 1, 1) := by decide +kernel
theorem dX12_expression_52 : decode cX12_expression 52 = .ok (.iadd, 1) := by decide +kernel
theorem dX12_expression_53 : decode cX12_expression 53 = .ok (.putfield 215, 3) := by decide +kernel
theorem dX12_expression_56 : decode cX12_expression 56 = .ok (.aload_n 0, 1) := by decide +kernel
theorem dX12_expression_57 : decode cX12_expression 57 = .ok (.invokevirtual 209, 3) := by decide +kernel
theorem dX12_expression_60 : decode cX12_expression 60 = .ok (.aload_n 0, 1) := by decide +kernel
theorem dX12_expression_61 : decode cX12_expression 61 = .ok (.getfield 98, 3) := by decide +kernel
theorem dX12_expression_64 : decode cX12_expression 64 = .ok (.aload_n 0, 1) := by decide +kernel
theorem dX12_expression_65 : decode cX12_expression 65 = .ok (.getfield 276, 3) := by decide +kernel
theorem dX12_expression_68 : decode cX12_expression 68 = .ok (.bipush 6, 2) := by decide +kernel
theorem dX12_expression_70 : decode cX12_expression 70 = .ok (.iastore, 1) := by decide +kernel
theorem dX12_expression_71 : decode cX12_expression 71 = .ok (.aload_n 0, 1) := by decide +kernel
theorem dX12_expression_72 : decode cX12_expression 72 = .ok (.dup, 1) := by decide +kernel
theorem dX12_expression_73 : decode cX12_expression 73 = .ok (.getfield 276, 3) := by decide +kernel
theorem dX12_expression_76 : decode cX12_expression 76 = .ok (.iconst 1, 1) := by decide +kernel
theorem dX12_expression_77 : decode cX12_expression 77 = .ok (.iadd, 1) := by decide +kernel
theorem dX12_expression_78 : decode cX12_expression 78 = .ok (.putfield 276, 3) := by decide +kernel
theorem dX12_expression_81 : decode cX12_expression 81 = .ok (.goto (-58), 3) := by decide +kernel
theorem dX12_expression_84 : decode cX12_expression 84 = .ok (.aload_n 0, 1) := by decide +kernel
theorem dX12_expression_85 : decode cX12_expression 85 = .ok (.invokevirtual 282, 3) := by decide +kernel
theorem dX12_expression_88 : decode cX12_expression 88 = .ok (.aload_n 0, 1) := by decide +kernel
theorem dX12_expression_89 : decode cX12_expression 89 = .ok (.getfield 188, 3) := by decide +kernel
theorem dX12_expression_92 : decode cX12_expression 92 = .ok (.ifCond .le 4, 3) := by decide +kernel
theorem dX12_expression_95 : decode cX12_expression 95 = .ok (.return_, 1) := by decide +kernel
theorem dX12_expression_96 : decode cX12_expression 96 = .ok (.aload_n 0, 1) := by decide +kernel
theorem dX12_expression_97 : decode cX12_expression 97 = .ok (.bipush 7, 2) := by decide +kernel
theorem dX12_expression_99 : decode cX12_expression 99 = .ok (.invokevirtual 206, 3) := by decide +kernel
theorem dX12_expression_102 : decode cX12_expression 102 = .ok (.ifCond .eq 43, 3) := by decide +kernel
theorem dX12_expression_105 : decode cX12_expression 105 = .ok (.aload_n 0, 1) := by decide +kernel
theorem dX12_expression_106 : decode cX12_expression 106 = .ok (.getfield 215, 3) := by decide +kernel
theorem dX12_expression_109 : decode cX12_expression 109 = .ok (.iload_n 1, 1) := by decide +kernel
theorem dX12_expression_110 : decode cX12_expression 110 = .ok (.if_icmp .le 35, 3) := by decide +kernel
theorem dX12_expression_113 : decode cX12_expression 113 = .ok (.aload_n 0, 1) := by decide +kernel
theorem dX12_expression_114 : decode cX12_expression 114 = .ok (.iconst 0, 1) := by decide +kernel
theorem dX12_expression_115 : decode cX12_expression 115 = .ok (.invokevirtual 285, 3) := by decide +kernel
theorem dX12_expression_118 : decode cX12_expression 118 = .ok (.aload_n 0, 1) := by decide +kernel
theorem dX12_expression_119 : decode cX12_expression 119 = .ok (.dup, 1) := by decide +kernel
theorem dX12_expression_120 : decode cX12_expression 120 = .ok (.getfield 276, 3) := by decide +kernel
theorem dX12_expression_123 : decode cX12_expression 123 = .ok (.iconst 1, 1) := by decide +kernel
theorem dX12_expression_124 : decode cX12_expression 124 = .ok (.isub, 1) := by decide +kernel
theorem dX12_expression_125 : decode cX12_expression 125 = .ok (.putfield 276, 3) := by decide +kernel
theorem dX12_expression_128 : decode cX12_expression 128 = .ok (.aload_n 0, 1) := by decide +kernel
theorem dX12_expression_129 : decode cX12_expression 129 = .ok (.dup, 1) := by decide +kernel
theorem dX12_expression_130 : decode cX12_expression 130 = .ok (.getfield 215, 3) := by decide +kernel
theorem dX12_expression_133 : decode cX12_expression 133 = .ok (.iconst 1, 1) := by decide +kernel
theorem dX12_expression_134 : decode cX12_expression 134 = .ok (.isub, 1) := by decide +kernel
theorem dX12_expression_135 : decode cX12_expression 135 = .ok (.putfield 215, 3) := by decide +kernel
theorem dX12_expression_138 : decode cX12_expression 138 = .ok (.aload_n 0, 1) := by decide +kernel
theorem dX12_expression_139 : decode cX12_expression 139 = .ok (.invokevirtual 209, 3) := by decide +kernel
theorem dX12_expression_142 : decode cX12_expression 142 = .ok (.goto (-46), 3) := by decide +kernel
theorem dX12_expression_145 : decode cX12_expression 145 = .ok (.aload_n 0, 1) := by decide +kernel
theorem dX12_expression_146 : decode cX12_expression 146 = .ok (.bipush 8, 2) := by decide +kernel
theorem dX12_expression_148 : decode cX12_expression 148 = .ok (.invokevirtual 206, 3) := by decide +kernel
theorem dX12_expression_151 : decode cX12_expression 151 = .ok (.ifCond .ne 30, 3) := by decide +kernel
theorem dX12_expression_154 : decode cX12_expression 154 = .ok (.aload_n 0, 1) := by decide +kernel
theorem dX12_expression_155 : decode cX12_expression 155 = .ok (.bipush 9, 2) := by decide +kernel
theorem dX12_expression_157 : decode cX12_expression 157 = .ok (.invokevirtual 206, 3) := by decide +kernel
theorem dX12_expression_160 : decode cX12_expression 160 = .ok (.ifCond .ne 21, 3) := by decide +kernel
theorem dX12_expression_163 : decode cX12_expression 163 = .ok (.aload_n 0, 1) := by decide +kernel
theorem dX12_expression_164 : decode cX12_expression 164 = .ok (.bipush 10, 2) := by decide +kernel
theorem dX12_expression_166 : decode cX12_expression 166 = .ok (.invokevirtual 206, 3) := by decide +kernel
theorem dX12_expression_169 : decode cX12_expression 169 = .ok (.ifCond .ne 12, 3) := by decide +kernel
theorem dX12_expression_172 : decode cX12_expression 172 = .ok (.aload_n 0, 1) := by decide +kernel
theorem dX12_expression_173 : decode cX12_expression 173 = .ok (.bipush 15, 2) := by decide +kernel
theorem dX12_expression_175 : decode cX12_expression 175 = .ok (.invokevirtual 206, 3) := by decide +kernel
theorem dX12_expression_178 : decode cX12_expression 178 = .ok (.ifCond .eq 7, 3) := by decide +kernel
theorem dX12_expression_181 : decode cX12_expression 181 = .ok (.iconst 1, 1) := by decide +kernel
theorem dX12_expression_182 : decode cX12_expression 182 = .ok (.goto 4, 3) := by decide +kernel
theorem dX12_expression_185 : decode cX12_expression 185 = .ok (.iconst 0, 1) := by decide +kernel
theorem dX12_expression_186 : decode cX12_expression 186 = .ok (.istore_n 2, 1) := by decide +kernel
theorem dX12_expression_187 : decode cX12_expression 187 = .ok (.iload_n 2, 1) := by decide +kernel
theorem dX12_expression_188 : decode cX12_expression 188 = .ok (.ifCond .ne 22, 3) := by decide +kernel
theorem dX12_expression_191 : decode cX12_expression 191 = .ok (.aload_n 0, 1) := by decide +kernel
theorem dX12_expression_192 : decode cX12_expression 192 = .ok (.getfield 215, 3) := by decide +kernel
theorem dX12_expression_195 : decode cX12_expression 195 = .ok (.iload_n 1, 1) := by decide +kernel
theorem dX12_expression_196 : decode cX12_expression 196 = .ok (.if_icmp .le 8, 3) := by decide +kernel
theorem dX12_expression_199 : decode cX12_expression 199 = .ok (.aload_n 0, 1) := by decide +kernel
theorem dX12_expression_200 : decode cX12_expression 200 = .ok (.iconst 1, 1) := by decide +kernel
theorem dX12_expression_201 : decode cX12_expression 201 = .ok (.invokevirtual 203, 3) := by decide +kernel
theorem dX12_expression_204 : decode cX12_expression 204 = .ok (.aload_n 0, 1) := by decide +kernel
theorem dX12_expression_205 : decode cX12_expression 205 = .ok (.iconst 0, 1) := by decide +kernel
theorem dX12_expression_206 : decode cX12_expression 206 = .ok (.invokevirtual 285, 3) := by decide +kernel
theorem dX12_expression_209 : decode cX12_expression 209 = .ok (.return_, 1) := by decide +kernel
theorem dX12_expression_210 : decode cX12_expression 210 = .ok (.aload_n 0, 1) := by decide +kernel
theorem dX12_expression_211 : decode cX12_expression 211 = .ok (.aload_n 0, 1) := by decide +kernel
theorem dX12_expression_212 : decode cX12_expression 212 = .ok (.bipush 10, 2) := by decide +kernel
theorem dX12_expression_214 : decode cX12_expression 214 = .ok (.invokevirtual 206, 3) := by decide +kernel
theorem dX12_expression_217 : decode cX12_expression 217 = .ok (.ifCond .ne 12, 3) := by decide +kernel
theorem dX12_expression_220 : decode cX12_expression 220 = .ok (.aload_n 0, 1) := by decide +kernel
theorem dX12_expression_221 : decode cX12_expression 221 = .ok (.bipush 15, 2) := by decide +kernel
theorem dX12_expression_223 : decode cX12_expression 223 = .ok (.invokevirtual 206, 3) := by decide +kernel
theorem dX12_expression_226 : decode cX12_expression 226 = .ok (.ifCond .eq 7, 3) := by decide +kernel
theorem dX12_expression_229 : decode cX12_expression 229 = .ok (.iconst 1, 1) := by decide +kernel
theorem dX12_expression_230 : decode cX12_expression 230 = .ok (.goto 4, 3) := by decide +kernel
theorem dX12_expression_233 : decode cX12_expression 233 = .ok (.iconst 0, 1) := by decide +kernel
theorem dX12_expression_234 : decode cX12_expression 234 = .ok (.invokevirtual 285, 3) := by decide +kernel
theorem dX12_expression_237 : decode cX12_expression 237 = .ok (.aload_n 0, 1) := by decide +kernel
theorem dX12_expression_238 : decode cX12_expression 238 = .ok (.getfield 98, 3) := by decide +kernel
theorem dX12_expression_241 : decode cX12_expression 241 = .ok (.aload_n 0, 1) := by decide +kernel
theorem dX12_expression_242 : decode cX12_expression 242 = .ok (.getfield 276, 3) := by decide +kernel
theorem dX12_expression_245 : decode cX12_expression 245 = .ok (.aload_n 0, 1) := by decide +kernel
theorem dX12_expression_246 : decode cX12_expression 246 = .ok (.getfield 20, 3) := by decide +kernel
theorem dX12_expression_249 : decode cX12_expression 249 = .ok (.aload_n 0, 1) := by decide +kernel
theorem dX12_expression_250 : decode cX12_expression 250 = .ok (.getfield 191, 3) := by decide +kernel
theorem dX12_expression_253 : decode cX12_expression 253 = .ok (.iaload, 1) := by decide +kernel
theorem dX12_expression_254 : decode cX12_expression 254 = .ok (.iastore, 1) := by decide +kernel
theorem dX12_expression_255 : decode cX12_expression 255 = .ok (.aload_n 0, 1) := by decide +kernel
theorem dX12_expression_256 : decode cX12_expression 256 = .ok (.dup, 1) := by decide +kernel
theorem dX12_expression_257 : decode cX12_expression 257 = .ok (.getfield 276, 3) := by decide +kernel
theorem dX12_expression_260 : decode cX12_expression 260 = .ok (.iconst 1, 1) := by decide +kernel
theorem dX12_expression_261 : decode cX12_expression 261 = .ok (.iadd, 1) := by decide +kernel
theorem dX12_expression_262 : decode cX12_expression 262 = .ok (.putfield 276, 3) := by decide +kernel
theorem dX12_expression_265 : decode cX12_expression 265 = .ok (.aload_n 0, 1) := by decide +kernel
theorem dX12_expression_266 : decode cX12_expression 266 = .ok (.invokevirtual 209, 3) := by decide +kernel
theorem dX12_expression_269 : decode cX12_expression 269 = .ok (.goto (-257), 3) := by decide +kernel
theorem dX12_expression_272 : decode cX12_expression 272 = .ok (.return_, 1) := by decide +kernel
theorem dX12_unit_0 : decode cX12_unit 0 = .ok (.aload_n 0, 1) := by decide +kernel
theorem dX12_unit_1 : decode cX12_unit 1 = .ok (.iconst 2, 1) := by decide +kernel
theorem dX12_unit_2 : decode cX12_unit 2 = .ok (.invokevirtual 206, 3) := by decide +kernel
theorem dX12_unit_5 : decode cX12_unit 5 = .ok (.ifCond .eq 24, 3) := by decide +kernel
theorem dX12_unit_8 : decode cX12_unit 8 = .ok (.aload_n 0, 1) := by decide +kernel
theorem dX12_unit_9 : decode cX12_unit 9 = .ok (.iconst 0, 1) := by decide +kernel
theorem dX12_unit_10 : decode cX12_unit 10 = .ok (.aload_n 0, 1) := by decide +kernel
theorem dX12_unit_11 : decode cX12_unit 11 = .ok (.getfield 27, 3) := by decide +kernel
theorem dX12_unit_14 : decode cX12_unit 14 = .ok (.aload_n 0, 1) := by decide +kernel
theorem dX12_unit_15 : decode cX12_unit 15 = .ok (.getfield 191, 3) := by decide +kernel
theorem dX12_unit_18 : decode cX12_unit 18 = .ok (.iaload, 1) := by decide +kernel
theorem dX12_unit_19 : decode cX12_unit 19 = .ok (.invokevirtual 279, 3) := by decide +kernel
theorem dX12_unit_22 : decode cX12_unit 22 = .ok (.aload_n 0, 1) := by decide +kernel
theorem dX12_unit_23 : decode cX12_unit 23 = .ok (.invokevirtual 209, 3) := by decide +kernel
theorem dX12_unit_26 : decode cX12_unit 26 = .ok (.goto 67, 3) := by decide +kernel
theorem dX12_unit_29 : decode cX12_unit 29 = .ok (.aload_n 0, 1) := by decide +kernel
theorem dX12_unit_30 : decode cX12_unit 30 = .ok (.getfield 188, 3) := by decide +kernel
theorem dX12_unit_33 : decode cX12_unit 33 = .ok (.ifCond .ne 55, 3) := by decide +kernel
theorem dX12_unit_36 : decode cX12_unit 36 = .ok (.aload_n 0, 1) := by decide +kernel
theorem dX12_unit_37 : decode cX12_unit 37 = .ok (.getfield 20, 3) := by decide +kernel
theorem dX12_unit_40 : decode cX12_unit 40 = .ok (.aload_n 0, 1) := by decide +kernel
theorem dX12_unit_41 : decode cX12_unit 41 = .ok (.getfield 191, 3) := by decide +kernel
theorem dX12_unit_44 : decode cX12_unit 44 = .ok (.iaload, 1) := by decide +kernel
theorem dX12_unit_45 : decode cX12_unit 45 = .ok (.bipush 38, 2) := by decide +kernel
theorem dX12_unit_47 : decode cX12_unit 47 = .ok (.if_icmp .lt 41, 3) := by decide +kernel
theorem dX12_unit_50 : decode cX12_unit 50 = .ok (.aload_n 0, 1) := by decide +kernel
theorem dX12_unit_51 : decode cX12_unit 51 = .ok (.getfield 20, 3) := by decide +kernel
theorem dX12_unit_54 : decode cX12_unit 54 = .ok (.aload_n 0, 1) := by decide +kernel
theorem dX12_unit_55 : decode cX12_unit 55 = .ok (.getfield 191, 3) := by decide +kernel
theorem dX12_unit_58 : decode cX12_unit 58 = .ok (.iaload, 1) := by decide +kernel
theorem dX12_unit_59 : decode cX12_unit 59 = .ok (.bipush 48, 2) := by decide +kernel
theorem dX12_unit_61 : decode cX12_unit 61 = .ok (.if_icmp .gt 27, 3) := by decide +kernel
theorem dX12_unit_64 : decode cX12_unit 64 = .ok (.aload_n 0, 1) := by decide +kernel
theorem dX12_unit_65 : decode cX12_unit 65 = .ok (.iconst 1, 1) := by decide +kernel
theorem dX12_unit_66 : decode cX12_unit 66 = .ok (.aload_n 0, 1) := by decide +kernel
theorem dX12_unit_67 : decode cX12_unit 67 = .ok (.getfield 20, 3) := by decide +kernel
theorem dX12_unit_70 : decode cX12_unit 70 = .ok (.aload_n 0, 1) := by decide +kernel
theorem dX12_unit_71 : decode cX12_unit 71 = .ok (.getfield 191, 3) := by decide +kernel
theorem dX12_unit_74 : decode cX12_unit 74 = .ok (.iaload, 1) := by decide +kernel
theorem dX12_unit_75 : decode cX12_unit 75 = .ok (.bipush 38, 2) := by decide +kernel
theorem dX12_unit_77 : decode cX12_unit 77 = .ok (.isub, 1) := by decide +kernel
theorem dX12_unit_78 : decode cX12_unit 78 = .ok (.invokevirtual 279, 3) := by decide +kernel
theorem dX12_unit_81 : decode cX12_unit 81 = .ok (.aload_n 0, 1) := by decide +kernel
theorem dX12_unit_82 : decode cX12_unit 82 = .ok (.invokevirtual 209, 3) := by decide +kernel
theorem dX12_unit_85 : decode cX12_unit 85 = .ok (.goto 8, 3) := by decide +kernel
theorem dX12_unit_88 : decode cX12_unit 88 = .ok (.aload_n 0, 1) := by decide +kernel
theorem dX12_unit_89 : decode cX12_unit 89 = .ok (.iconst 1, 1) := by decide +kernel
theorem dX12_unit_90 : decode cX12_unit 90 = .ok (.invokevirtual 203, 3) := by decide +kernel
theorem dX12_unit_93 : decode cX12_unit 93 = .ok (.return_, 1) := by decide +kernel
theorem dX12_termOf_0 : decode cX12_termOf 0 = .ok (.iconst 0, 1) := by decide +kernel
theorem dX12_termOf_1 : decode cX12_termOf 1 = .ok (.istore_n 3, 1) := by decide +kernel
theorem dX12_termOf_2 : decode cX12_termOf 2 = .ok (.iload_n 1, 1) := by decide +kernel
theorem dX12_termOf_3 : decode cX12_termOf 3 = .ok (.istore 4, 2) := by decide +kernel
theorem dX12_termOf_5 : decode cX12_termOf 5 = .ok (.iload 4, 2) := by decide +kernel
theorem dX12_termOf_7 : decode cX12_termOf 7 = .ok (.iload_n 2, 1) := by decide +kernel
theorem dX12_termOf_8 : decode cX12_termOf 8 = .ok (.if_icmp .ge 157, 3) := by decide +kernel
theorem dX12_termOf_11 : decode cX12_termOf 11 = .ok (.aload_n 0, 1) := by decide +kernel
theorem dX12_termOf_12 : decode cX12_termOf 12 = .ok (.getfield 92, 3) := by decide +kernel
theorem dX12_termOf_15 : decode cX12_termOf 15 = .ok (.iload 4, 2) := by decide +kernel
theorem dX12_termOf_17 : decode cX12_termOf 17 = .ok (.iaload, 1) := by decide +kernel
theorem dX12_termOf_18 : decode cX12_termOf 18 = .ok (.istore 5, 2) := by decide +kernel
theorem dX12_termOf_20 : decode cX12_termOf 20 = .ok (.iload 5, 2) := by decide +kernel
theorem dX12_termOf_22 : decode cX12_termOf 22 = .ok (.iconst 2, 1) := by decide +kernel
theorem dX12_termOf_23 : decode cX12_termOf 23 = .ok (.if_icmp .ge 42, 3) := by decide +kernel
theorem dX12_termOf_26 : decode cX12_termOf 26 = .ok (.aload_n 0, 1) := by decide +kernel
theorem dX12_termOf_27 : decode cX12_termOf 27 = .ok (.getfield 104, 3) := by decide +kernel
theorem dX12_termOf_30 : decode cX12_termOf 30 = .ok (.iload_n 3, 1) := by decide +kernel
theorem dX12_termOf_31 : decode cX12_termOf 31 = .ok (.iload 5, 2) := by decide +kernel
theorem dX12_termOf_33 : decode cX12_termOf 33 = .ok (.ifCond .ne 13, 3) := by decide +kernel
theorem dX12_termOf_36 : decode cX12_termOf 36 = .ok (.aload_n 0, 1) := by decide +kernel
theorem dX12_termOf_37 : decode cX12_termOf 37 = .ok (.getfield 95, 3) := by decide +kernel
theorem dX12_termOf_40 : decode cX12_termOf 40 = .ok (.iload 4, 2) := by decide +kernel
theorem dX12_termOf_42 : decode cX12_termOf 42 = .ok (.iaload, 1) := by decide +kernel
theorem dX12_termOf_43 : decode cX12_termOf 43 = .ok (.goto 15, 3) := by decide +kernel
theorem dX12_termOf_46 : decode cX12_termOf 46 = .ok (.aload_n 0, 1) := by decide +kernel
theorem dX12_termOf_47 : decode cX12_termOf 47 = .ok (.getfield 101, 3) := by decide +kernel
theorem dX12_termOf_50 : decode cX12_termOf 50 = .ok (.aload_n 0, 1) := by decide +kernel
theorem dX12_termOf_51 : decode cX12_termOf 51 = .ok (.getfield 95, 3) := by decide +kernel
theorem dX12_termOf_54 : decode cX12_termOf 54 = .ok (.iload 4, 2) := by decide +kernel
theorem dX12_termOf_56 : decode cX12_termOf 56 = .ok (.iaload, 1) := by decide +kernel
theorem dX12_termOf_57 : decode cX12_termOf 57 = .ok (.iaload, 1) := by decide +kernel
theorem dX12_termOf_58 : decode cX12_termOf 58 = .ok (.iastore, 1) := by decide +kernel
theorem dX12_termOf_59 : decode cX12_termOf 59 = .ok (.iinc 3 1, 3) := by decide +kernel
theorem dX12_termOf_62 : decode cX12_termOf 62 = .ok (.goto 97, 3) := by decide +kernel
theorem dX12_termOf_65 : decode cX12_termOf 65 = .ok (.iinc 3 (-1), 3) := by decide +kernel
theorem dX12_termOf_68 : decode cX12_termOf 68 = .ok (.aload_n 0, 1) := by decide +kernel
theorem dX12_termOf_69 : decode cX12_termOf 69 = .ok (.getfield 104, 3) := by decide +kernel
theorem dX12_termOf_72 : decode cX12_termOf 72 = .ok (.iload_n 3, 1) := by decide +kernel
theorem dX12_termOf_73 : decode cX12_termOf 73 = .ok (.iconst 1, 1) := by decide +kernel
theorem dX12_termOf_74 : decode cX12_termOf 74 = .ok (.isub, 1) := by decide +kernel
theorem dX12_termOf_75 : decode cX12_termOf 75 = .ok (.iaload, 1) := by decide +kernel
theorem dX12_termOf_76 : decode cX12_termOf 76 = .ok (.istore 6, 2) := by decide +kernel
theorem dX12_termOf_78 : decode cX12_termOf 78 = .ok (.aload_n 0, 1) := by decide +kernel
theorem dX12_termOf_79 : decode cX12_termOf 79 = .ok (.getfield 104, 3) := by decide +kernel
theorem dX12_termOf_82 : decode cX12_termOf 82 = .ok (.iload_n 3, 1) := by decide +kernel
theorem dX12_termOf_83 : decode cX12_termOf 83 = .ok (.iaload, 1) := by decide +kernel
theorem dX12_termOf_84 : decode cX12_termOf 84 = .ok (.istore 7, 2) := by decide +kernel
theorem dX12_termOf_86 : decode cX12_termOf 86 = .ok (.iload 5, 2) := by decide +kernel
theorem dX12_termOf_88 : decode cX12_termOf 88 = .ok (.iconst 5, 1) := by decide +kernel
theorem dX12_termOf_89 : decode cX12_termOf 89 = .ok (.if_icmp .ne 15, 3) := by decide +kernel
theorem dX12_termOf_92 : decode cX12_termOf 92 = .ok (.iload 7, 2) := by decide +kernel
theorem dX12_termOf_94 : decode cX12_termOf 94 = .ok (.ifCond .ne 10, 3) := by decide +kernel
theorem dX12_termOf_97 : decode cX12_termOf 97 = .ok (.aload_n 0, 1) := by decide +kernel
theorem dX12_termOf_98 : decode cX12_termOf 98 = .ok (.iconst 1, 1) := by decide +kernel
theorem dX12_termOf_99 : decode cX12_termOf 99 = .ok (.putfield 289, 3) := by decide +kernel
theorem dX12_termOf_102 : decode cX12_termOf 102 = .ok (.iconst 0, 1) := by decide +kernel
theorem dX12_termOf_103 : decode cX12_termOf 103 = .ok (.ireturn, 1) := by decide +kernel
theorem dX12_termOf_104 : decode cX12_termOf 104 = .ok (.aload_n 0, 1) := by decide +kernel
theorem dX12_termOf_105 : decode cX12_termOf 105 = .ok (.getfield 104, 3) := by decide +kernel
theorem dX12_termOf_108 : decode cX12_termOf 108 = .ok (.iload_n 3, 1) := by decide +kernel
theorem dX12_termOf_109 : decode cX12_termOf 109 = .ok (.iconst 1, 1) := by decide +kernel
theorem dX12_termOf_110 : decode cX12_termOf 110 = .ok (.isub, 1) := by decide +kernel
theorem dX12_termOf_111 : decode cX12_termOf 111 = .ok (.iload 5, 2) := by decide +kernel
theorem dX12_termOf_113 : decode cX12_termOf 113 = .ok (.iconst 2, 1) := by decide +kernel
theorem dX12_termOf_114 : decode cX12_termOf 114 = .ok (.if_icmp .ne 11, 3) := by decide +kernel
theorem dX12_termOf_117 : decode cX12_termOf 117 = .ok (.iload 6, 2) := by decide +kernel
theorem dX12_termOf_119 : decode cX12_termOf 119 = .ok (.iload 7, 2) := by decide +kernel
theorem dX12_termOf_121 : decode cX12_termOf 121 = .ok (.iadd, 1) := by decide +kernel
theorem dX12_termOf_122 : decode cX12_termOf 122 = .ok (.goto 36, 3) := by decide +kernel
theorem dX12_termOf_125 : decode cX12_termOf 125 = .ok (.iload 5, 2) := by decide +kernel
theorem dX12_termOf_127 : decode cX12_termOf 127 = .ok (.iconst 3, 1) := by decide +kernel
theorem dX12_termOf_128 : decode cX12_termOf 128 = .ok (.if_icmp .ne 11, 3) := by decide +kernel
theorem dX12_termOf_131 : decode cX12_termOf 131 = .ok (.iload 6, 2) := by decide +kernel
theorem dX12_termOf_133 : decode cX12_termOf 133 = .ok (.iload 7, 2) := by decide +kernel
theorem dX12_termOf_135 : decode cX12_termOf 135 = .ok (.isub, 1) := by decide +kernel
theorem dX12_termOf_136 : decode cX12_termOf 136 = .ok (.goto 22, 3) := by decide +kernel
theorem dX12_termOf_139 : decode cX12_termOf 139 = .ok (.iload 5, 2) := by decide +kernel
theorem dX12_termOf_141 : decode cX12_termOf 141 = .ok (.iconst 4, 1) := by decide +kernel
theorem dX12_termOf_142 : decode cX12_termOf 142 = .ok (.if_icmp .ne 11, 3) := by decide +kernel
theorem dX12_termOf_145 : decode cX12_termOf 145 = .ok (.iload 6, 2) := by decide +kernel
theorem dX12_termOf_147 : decode cX12_termOf 147 = .ok (.iload 7, 2) := by decide +kernel
theorem dX12_termOf_149 : decode cX12_termOf 149 = .ok (.imul, 1) := by decide +kernel
theorem dX12_termOf_150 : decode cX12_termOf 150 = .ok (.goto 8, 3) := by decide +kernel
theorem dX12_termOf_153 : decode cX12_termOf 153 = .ok (.iload 6, 2) := by decide +kernel
theorem dX12_termOf_155 : decode cX12_termOf 155 = .ok (.iload 7, 2) := by decide +kernel
theorem dX12_termOf_157 : decode cX12_termOf 157 = .ok (.idiv, 1) := by decide +kernel
theorem dX12_termOf_158 : decode cX12_termOf 158 = .ok (.iastore, 1) := by decide +kernel
theorem dX12_termOf_159 : decode cX12_termOf 159 = .ok (.iinc 4 1, 3) := by decide +kernel
theorem dX12_termOf_162 : decode cX12_termOf 162 = .ok (.goto (-157), 3) := by decide +kernel
theorem dX12_termOf_165 : decode cX12_termOf 165 = .ok (.aload_n 0, 1) := by decide +kernel
theorem dX12_termOf_166 : decode cX12_termOf 166 = .ok (.getfield 104, 3) := by decide +kernel
theorem dX12_termOf_169 : decode cX12_termOf 169 = .ok (.iconst 0, 1) := by decide +kernel
theorem dX12_termOf_170 : decode cX12_termOf 170 = .ok (.iaload, 1) := by decide +kernel
theorem dX12_termOf_171 : decode cX12_termOf 171 = .ok (.ireturn, 1) := by decide +kernel
theorem dX12_in_0 : decode cX12_in 0 = .ok (.iload_n 0, 1) := by decide +kernel
theorem dX12_in_1 : decode cX12_in 1 = .ok (.iload_n 1, 1) := by decide +kernel
theorem dX12_in_2 : decode cX12_in 2 = .ok (.if_icmp .lt 12, 3) := by decide +kernel
theorem dX12_in_5 : decode cX12_in 5 = .ok (.iload_n 0, 1) := by decide +kernel
theorem dX12_in_6 : decode cX12_in 6 = .ok (.iload_n 2, 1) := by decide +kernel
theorem dX12_in_7 : decode cX12_in 7 = .ok (.if_icmp .gt 7, 3) := by decide +kernel
theorem dX12_in_10 : decode cX12_in 10 = .ok (.iconst 1, 1) := by decide +kernel
theorem dX12_in_11 : decode cX12_in 11 = .ok (.goto 4, 3) := by decide +kernel
theorem dX12_in_14 : decode cX12_in 14 = .ok (.iconst 0, 1) := by decide +kernel
theorem dX12_in_15 : decode cX12_in 15 = .ok (.ireturn, 1) := by decide +kernel
theorem dX12_tell0_0 : decode cX12_tell0 0 = .ok (.aload_n 0, 1) := by decide +kernel
theorem dX12_tell0_1 : decode cX12_tell0 1 = .ok (.getfield 43, 3) := by decide +kernel
theorem dX12_tell0_4 : decode cX12_tell0 4 = .ok (.bipush 20, 2) := by decide +kernel
theorem dX12_tell0_6 : decode cX12_tell0 6 = .ok (.aload_n 0, 1) := by decide +kernel
theorem dX12_tell0_7 : decode cX12_tell0 7 = .ok (.getfield 218, 3) := by decide +kernel
theorem dX12_tell0_10 : decode cX12_tell0 10 = .ok (.imul, 1) := by decide +kernel
theorem dX12_tell0_11 : decode cX12_tell0 11 = .ok (.iload_n 1, 1) := by decide +kernel
theorem dX12_tell0_12 : decode cX12_tell0 12 = .ok (.iadd, 1) := by decide +kernel
theorem dX12_tell0_13 : decode cX12_tell0 13 = .ok (.iaload, 1) := by decide +kernel
theorem dX12_tell0_14 : decode cX12_tell0 14 = .ok (.ireturn, 1) := by decide +kernel
theorem dX12_isMan_0 : decode cX12_isMan 0 = .ok (.iload_n 1, 1) := by decide +kernel
theorem dX12_isMan_1 : decode cX12_isMan 1 = .ok (.iconst 0, 1) := by decide +kernel
theorem dX12_isMan_2 : decode cX12_isMan 2 = .ok (.aload_n 0, 1) := by decide +kernel
theorem dX12_isMan_3 : decode cX12_isMan 3 = .ok (.getfield 46, 3) := by decide +kernel
theorem dX12_isMan_6 : decode cX12_isMan 6 = .ok (.aload_n 0, 1) := by decide +kernel
theorem dX12_isMan_7 : decode cX12_isMan 7 = .ok (.getfield 218, 3) := by decide +kernel
theorem dX12_isMan_10 : decode cX12_isMan 10 = .ok (.iaload, 1) := by decide +kernel
theorem dX12_isMan_11 : decode cX12_isMan 11 = .ok (.iconst 1, 1) := by decide +kernel
theorem dX12_isMan_12 : decode cX12_isMan 12 = .ok (.isub, 1) := by decide +kernel
theorem dX12_isMan_13 : decode cX12_isMan 13 = .ok (.invokestatic 293, 3) := by decide +kernel
theorem dX12_isMan_16 : decode cX12_isMan 16 = .ok (.ireturn, 1) := by decide +kernel
theorem dX12_isJudge_0 : decode cX12_isJudge 0 = .ok (.iload_n 1, 1) := by decide +kernel
theorem dX12_isJudge_1 : decode cX12_isJudge 1 = .ok (.iconst 0, 1) := by decide +kernel
theorem dX12_isJudge_2 : decode cX12_isJudge 2 = .ok (.aload_n 0, 1) := by decide +kernel
theorem dX12_isJudge_3 : decode cX12_isJudge 3 = .ok (.getfield 61, 3) := by decide +kernel
theorem dX12_isJudge_6 : decode cX12_isJudge 6 = .ok (.aload_n 0, 1) := by decide +kernel
theorem dX12_isJudge_7 : decode cX12_isJudge 7 = .ok (.getfield 218, 3) := by decide +kernel
theorem dX12_isJudge_10 : decode cX12_isJudge 10 = .ok (.iaload, 1) := by decide +kernel
theorem dX12_isJudge_11 : decode cX12_isJudge 11 = .ok (.iconst 1, 1) := by decide +kernel
theorem dX12_isJudge_12 : decode cX12_isJudge 12 = .ok (.isub, 1) := by decide +kernel
theorem dX12_isJudge_13 : decode cX12_isJudge 13 = .ok (.invokestatic 293, 3) := by decide +kernel
theorem dX12_isJudge_16 : decode cX12_isJudge 16 = .ok (.ireturn, 1) := by decide +kernel
theorem dX12_begins_0 : decode cX12_begins 0 = .ok (.iconst 0, 1) := by decide +kernel
theorem dX12_begins_1 : decode cX12_begins 1 = .ok (.istore_n 1, 1) := by decide +kernel
theorem dX12_begins_2 : decode cX12_begins 2 = .ok (.iload_n 1, 1) := by decide +kernel
theorem dX12_begins_3 : decode cX12_begins 3 = .ok (.sipush 260, 3) := by decide +kernel
theorem dX12_begins_6 : decode cX12_begins 6 = .ok (.if_icmp .ge 16, 3) := by decide +kernel
theorem dX12_begins_9 : decode cX12_begins 9 = .ok (.aload_n 0, 1) := by decide +kernel
theorem dX12_begins_10 : decode cX12_begins 10 = .ok (.getfield 110, 3) := by decide +kernel
theorem dX12_begins_13 : decode cX12_begins 13 = .ok (.iload_n 1, 1) := by decide +kernel
theorem dX12_begins_14 : decode cX12_begins 14 = .ok (.iconst 0, 1) := by decide +kernel
theorem dX12_begins_15 : decode cX12_begins 15 = .ok (.iastore, 1) := by decide +kernel
theorem dX12_begins_16 : decode cX12_begins 16 = .ok (.iinc 1 1, 3) := by decide +kernel
theorem dX12_begins_19 : decode cX12_begins 19 = .ok (.goto (-17), 3) := by decide +kernel
theorem dX12_begins_22 : decode cX12_begins 22 = .ok (.aload_n 0, 1) := by decide +kernel
theorem dX12_begins_23 : decode cX12_begins 23 = .ok (.getfield 110, 3) := by decide +kernel
theorem dX12_begins_26 : decode cX12_begins 26 = .ok (.iconst 1, 1) := by decide +kernel
theorem dX12_begins_27 : decode cX12_begins 27 = .ok (.iconst 1, 1) := by decide +kernel
theorem dX12_begins_28 : decode cX12_begins 28 = .ok (.iastore, 1) := by decide +kernel
theorem dX12_begins_29 : decode cX12_begins 29 = .ok (.aload_n 0, 1) := by decide +kernel
theorem dX12_begins_30 : decode cX12_begins 30 = .ok (.getfield 110, 3) := by decide +kernel
theorem dX12_begins_33 : decode cX12_begins 33 = .ok (.iconst 2, 1) := by decide +kernel
theorem dX12_begins_34 : decode cX12_begins 34 = .ok (.aload_n 0, 1) := by decide +kernel
theorem dX12_begins_35 : decode cX12_begins 35 = .ok (.bipush 12, 2) := by decide +kernel
theorem dX12_begins_37 : decode cX12_begins 37 = .ok (.invokevirtual 297, 3) := by decide +kernel
theorem dX12_begins_40 : decode cX12_begins 40 = .ok (.iastore, 1) := by decide +kernel
theorem dX12_begins_41 : decode cX12_begins 41 = .ok (.aload_n 0, 1) := by decide +kernel
theorem dX12_begins_42 : decode cX12_begins 42 = .ok (.invokevirtual 300, 3) := by decide +kernel
theorem dX12_begins_45 : decode cX12_begins 45 = .ok (.return_, 1) := by decide +kernel
theorem dX12_plainly_0 : decode cX12_plainly 0 = .ok (.aload_n 0, 1) := by decide +kernel
theorem dX12_plainly_1 : decode cX12_plainly 1 = .ok (.aload_n 0, 1) := by decide +kernel
theorem dX12_plainly_2 : decode cX12_plainly 2 = .ok (.bipush 15, 2) := by decide +kernel
theorem dX12_plainly_4 : decode cX12_plainly 4 = .ok (.invokevirtual 297, 3) := by decide +kernel
theorem dX12_plainly_7 : decode cX12_plainly 7 = .ok (.putfield 303, 3) := by decide +kernel
theorem dX12_plainly_10 : decode cX12_plainly 10 = .ok (.aload_n 0, 1) := by decide +kernel
theorem dX12_plainly_11 : decode cX12_plainly 11 = .ok (.iconst 0, 1) := by decide +kernel
theorem dX12_plainly_12 : decode cX12_plainly 12 = .ok (.putfield 306, 3) := by decide +kernel
theorem dX12_plainly_15 : decode cX12_plainly 15 = .ok (.return_, 1) := by decide +kernel
