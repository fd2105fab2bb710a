theorem dX0_init_0 : decode cX0_init 0 = .ok (.aload_n 0, 1) := by decide +kernel
theorem dX0_init_1 : decode cX0_init 1 = .ok (.invokespecial 3, 3) := by decide +kernel
theorem dX0_init_4 : decode cX0_init 4 = .ok (.aload_n 0, 1) := by decide +kernel
theorem dX0_init_5 : decode cX0_init 5 = .ok (.bipush 7, 2) := by decide +kernel
theorem dX0_init_7 : decode cX0_init 7 = .ok (.newarray .int, 2) := by decide +kernel
theorem dX0_init_9 : decode cX0_init 9 = .ok (.putfield 9, 3) := by decide +kernel
theorem dX0_init_12 : decode cX0_init 12 = .ok (.aload_n 0, 1) := by decide +kernel
theorem dX0_init_13 : decode cX0_init 13 = .ok (.aload_n 1, 1) := by decide +kernel
theorem dX0_init_14 : decode cX0_init 14 = .ok (.putfield 15, 3) := by decide +kernel
theorem dX0_init_17 : decode cX0_init 17 = .ok (.return_, 1) := by decide +kernel
theorem dX0_windAt_0 : decode cX0_windAt 0 = .ok (.aload_n 0, 1) := by decide +kernel
theorem dX0_windAt_1 : decode cX0_windAt 1 = .ok (.getfield 15, 3) := by decide +kernel
theorem dX0_windAt_4 : decode cX0_windAt 4 = .ok (.getfield 19, 3) := by decide +kernel
theorem dX0_windAt_7 : decode cX0_windAt 7 = .ok (.iconst 0, 1) := by decide +kernel
theorem dX0_windAt_8 : decode cX0_windAt 8 = .ok (.iload_n 2, 1) := by decide +kernel
theorem dX0_windAt_9 : decode cX0_windAt 9 = .ok (.invokevirtual 27, 3) := by decide +kernel
theorem dX0_windAt_12 : decode cX0_windAt 12 = .ok (.aload_n 0, 1) := by decide +kernel
theorem dX0_windAt_13 : decode cX0_windAt 13 = .ok (.getfield 15, 3) := by decide +kernel
theorem dX0_windAt_16 : decode cX0_windAt 16 = .ok (.getfield 19, 3) := by decide +kernel
theorem dX0_windAt_19 : decode cX0_windAt 19 = .ok (.iconst 1, 1) := by decide +kernel
theorem dX0_windAt_20 : decode cX0_windAt 20 = .ok (.iload_n 1, 1) := by decide +kernel
theorem dX0_windAt_21 : decode cX0_windAt 21 = .ok (.invokevirtual 27, 3) := by decide +kernel
theorem dX0_windAt_24 : decode cX0_windAt 24 = .ok (.aload_n 0, 1) := by decide +kernel
theorem dX0_windAt_25 : decode cX0_windAt 25 = .ok (.iconst 2, 1) := by decide +kernel
theorem dX0_windAt_26 : decode cX0_windAt 26 = .ok (.aload_n 0, 1) := by decide +kernel
theorem dX0_windAt_27 : decode cX0_windAt 27 = .ok (.getfield 15, 3) := by decide +kernel
theorem dX0_windAt_30 : decode cX0_windAt 30 = .ok (.getfield 31, 3) := by decide +kernel
theorem dX0_windAt_33 : decode cX0_windAt 33 = .ok (.imul, 1) := by decide +kernel
theorem dX0_windAt_34 : decode cX0_windAt 34 = .ok (.iconst 1, 1) := by decide +kernel
theorem dX0_windAt_35 : decode cX0_windAt 35 = .ok (.iadd, 1) := by decide +kernel
theorem dX0_windAt_36 : decode cX0_windAt 36 = .ok (.bipush 8, 2) := by decide +kernel
theorem dX0_windAt_38 : decode cX0_windAt 38 = .ok (.iload_n 2, 1) := by decide +kernel
theorem dX0_windAt_39 : decode cX0_windAt 39 = .ok (.imul, 1) := by decide +kernel
theorem dX0_windAt_40 : decode cX0_windAt 40 = .ok (.iload_n 1, 1) := by decide +kernel
theorem dX0_windAt_41 : decode cX0_windAt 41 = .ok (.iadd, 1) := by decide +kernel
theorem dX0_windAt_42 : decode cX0_windAt 42 = .ok (.invokevirtual 35, 3) := by decide +kernel
theorem dX0_windAt_45 : decode cX0_windAt 45 = .ok (.aload_n 0, 1) := by decide +kernel
theorem dX0_windAt_46 : decode cX0_windAt 46 = .ok (.getfield 15, 3) := by decide +kernel
theorem dX0_windAt_49 : decode cX0_windAt 49 = .ok (.getfield 31, 3) := by decide +kernel
theorem dX0_windAt_52 : decode cX0_windAt 52 = .ok (.isub, 1) := by decide +kernel
theorem dX0_windAt_53 : decode cX0_windAt 53 = .ok (.istore_n 3, 1) := by decide +kernel
theorem dX0_windAt_54 : decode cX0_windAt 54 = .ok (.aload_n 0, 1) := by decide +kernel
theorem dX0_windAt_55 : decode cX0_windAt 55 = .ok (.getfield 15, 3) := by decide +kernel
theorem dX0_windAt_58 : decode cX0_windAt 58 = .ok (.getfield 19, 3) := by decide +kernel
theorem dX0_windAt_61 : decode cX0_windAt 61 = .ok (.invokevirtual 39, 3) := by decide +kernel
theorem dX0_windAt_64 : decode cX0_windAt 64 = .ok (.bipush (-99), 2) := by decide +kernel
theorem dX0_windAt_66 : decode cX0_windAt 66 = .ok (.bipush 99, 2) := by decide +kernel
theorem dX0_windAt_68 : decode cX0_windAt 68 = .ok (.invokestatic 43, 3) := by decide +kernel
theorem dX0_windAt_71 : decode cX0_windAt 71 = .ok (.iload_n 3, 1) := by decide +kernel
theorem dX0_windAt_72 : decode cX0_windAt 72 = .ok (.iadd, 1) := by decide +kernel
theorem dX0_windAt_73 : decode cX0_windAt 73 = .ok (.ireturn, 1) := by decide +kernel
theorem dX0_blow_0 : decode cX0_blow 0 = .ok (.iconst 0, 1) := by decide +kernel
theorem dX0_blow_1 : decode cX0_blow 1 = .ok (.istore_n 2, 1) := by decide +kernel
theorem dX0_blow_2 : decode cX0_blow 2 = .ok (.iconst 0, 1) := by decide +kernel
theorem dX0_blow_3 : decode cX0_blow 3 = .ok (.istore_n 3, 1) := by decide +kernel
theorem dX0_blow_4 : decode cX0_blow 4 = .ok (.iconst 0, 1) := by decide +kernel
theorem dX0_blow_5 : decode cX0_blow 5 = .ok (.istore 4, 2) := by decide +kernel
theorem dX0_blow_7 : decode cX0_blow 7 = .ok (.iconst 0, 1) := by decide +kernel
theorem dX0_blow_8 : decode cX0_blow 8 = .ok (.istore 5, 2) := by decide +kernel
theorem dX0_blow_10 : decode cX0_blow 10 = .ok (.iload 5, 2) := by decide +kernel
theorem dX0_blow_12 : decode cX0_blow 12 = .ok (.iconst 5, 1) := by decide +kernel
theorem dX0_blow_13 : decode cX0_blow 13 = .ok (.if_icmp .ge 57, 3) := by decide +kernel
theorem dX0_blow_16 : decode cX0_blow 16 = .ok (.aload_n 0, 1) := by decide +kernel
theorem dX0_blow_17 : decode cX0_blow 17 = .ok (.iload 5, 2) := by decide +kernel
theorem dX0_blow_19 : decode cX0_blow 19 = .ok (.iload_n 1, 1) := by decide +kernel
theorem dX0_blow_20 : decode cX0_blow 20 = .ok (.iload 5, 2) := by decide +kernel
theorem dX0_blow_22 : decode cX0_blow 22 = .ok (.iadd, 1) := by decide +kernel
theorem dX0_blow_23 : decode cX0_blow 23 = .ok (.invokevirtual 47, 3) := by decide +kernel
theorem dX0_blow_26 : decode cX0_blow 26 = .ok (.istore 6, 2) := by decide +kernel
theorem dX0_blow_28 : decode cX0_blow 28 = .ok (.iload_n 2, 1) := by decide +kernel
theorem dX0_blow_29 : decode cX0_blow 29 = .ok (.iload 6, 2) := by decide +kernel
theorem dX0_blow_31 : decode cX0_blow 31 = .ok (.iadd, 1) := by decide +kernel
theorem dX0_blow_32 : decode cX0_blow 32 = .ok (.istore_n 2, 1) := by decide +kernel
theorem dX0_blow_33 : decode cX0_blow 33 = .ok (.iload_n 3, 1) := by decide +kernel
theorem dX0_blow_34 : decode cX0_blow 34 = .ok (.aload_n 0, 1) := by decide +kernel
theorem dX0_blow_35 : decode cX0_blow 35 = .ok (.getfield 15, 3) := by decide +kernel
theorem dX0_blow_38 : decode cX0_blow 38 = .ok (.getfield 50, 3) := by decide +kernel
theorem dX0_blow_41 : decode cX0_blow 41 = .ok (.iload 5, 2) := by decide +kernel
theorem dX0_blow_43 : decode cX0_blow 43 = .ok (.iaload, 1) := by decide +kernel
theorem dX0_blow_44 : decode cX0_blow 44 = .ok (.iload 6, 2) := by decide +kernel
theorem dX0_blow_46 : decode cX0_blow 46 = .ok (.imul, 1) := by decide +kernel
theorem dX0_blow_47 : decode cX0_blow 47 = .ok (.iadd, 1) := by decide +kernel
theorem dX0_blow_48 : decode cX0_blow 48 = .ok (.istore_n 3, 1) := by decide +kernel
theorem dX0_blow_49 : decode cX0_blow 49 = .ok (.iload 4, 2) := by decide +kernel
theorem dX0_blow_51 : decode cX0_blow 51 = .ok (.aload_n 0, 1) := by decide +kernel
theorem dX0_blow_52 : decode cX0_blow 52 = .ok (.getfield 15, 3) := by decide +kernel
theorem dX0_blow_55 : decode cX0_blow 55 = .ok (.getfield 50, 3) := by decide +kernel
theorem dX0_blow_58 : decode cX0_blow 58 = .ok (.iload 5, 2) := by decide +kernel
theorem dX0_blow_60 : decode cX0_blow 60 = .ok (.iaload, 1) := by decide +kernel
theorem dX0_blow_61 : decode cX0_blow 61 = .ok (.iadd, 1) := by decide +kernel
theorem dX0_blow_62 : decode cX0_blow 62 = .ok (.istore 4, 2) := by decide +kernel
theorem dX0_blow_64 : decode cX0_blow 64 = .ok (.iinc 5 1, 3) := by decide +kernel
theorem dX0_blow_67 : decode cX0_blow 67 = .ok (.goto (-57), 3) := by decide +kernel
theorem dX0_blow_70 : decode cX0_blow 70 = .ok (.aload_n 0, 1) := by decide +kernel
theorem dX0_blow_71 : decode cX0_blow 71 = .ok (.iload_n 2, 1) := by decide +kernel
theorem dX0_blow_72 : decode cX0_blow 72 = .ok (.iconst 5, 1) := by decide +kernel
theorem dX0_blow_73 : decode cX0_blow 73 = .ok (.idiv, 1) := by decide +kernel
theorem dX0_blow_74 : decode cX0_blow 74 = .ok (.putfield 53, 3) := by decide +kernel
theorem dX0_blow_77 : decode cX0_blow 77 = .ok (.aload_n 0, 1) := by decide +kernel
theorem dX0_blow_78 : decode cX0_blow 78 = .ok (.iload 4, 2) := by decide +kernel
theorem dX0_blow_80 : decode cX0_blow 80 = .ok (.ifCond .ne 7, 3) := by decide +kernel
theorem dX0_blow_83 : decode cX0_blow 83 = .ok (.iconst 0, 1) := by decide +kernel
theorem dX0_blow_84 : decode cX0_blow 84 = .ok (.goto 7, 3) := by decide +kernel
theorem dX0_blow_87 : decode cX0_blow 87 = .ok (.iload_n 3, 1) := by decide +kernel
theorem dX0_blow_88 : decode cX0_blow 88 = .ok (.iload 4, 2) := by decide +kernel
theorem dX0_blow_90 : decode cX0_blow 90 = .ok (.idiv, 1) := by decide +kernel
theorem dX0_blow_91 : decode cX0_blow 91 = .ok (.putfield 56, 3) := by decide +kernel
theorem dX0_blow_94 : decode cX0_blow 94 = .ok (.return_, 1) := by decide +kernel
theorem dX0_calmDown_0 : decode cX0_calmDown 0 = .ok (.aload_n 0, 1) := by decide +kernel
theorem dX0_calmDown_1 : decode cX0_calmDown 1 = .ok (.iconst 0, 1) := by decide +kernel
theorem dX0_calmDown_2 : decode cX0_calmDown 2 = .ok (.putfield 53, 3) := by decide +kernel
theorem dX0_calmDown_5 : decode cX0_calmDown 5 = .ok (.aload_n 0, 1) := by decide +kernel
theorem dX0_calmDown_6 : decode cX0_calmDown 6 = .ok (.iconst 0, 1) := by decide +kernel
theorem dX0_calmDown_7 : decode cX0_calmDown 7 = .ok (.putfield 56, 3) := by decide +kernel
theorem dX0_calmDown_10 : decode cX0_calmDown 10 = .ok (.return_, 1) := by decide +kernel
theorem dX0_slipOf_0 : decode cX0_slipOf 0 = .ok (.aload_n 0, 1) := by decide +kernel
theorem dX0_slipOf_1 : decode cX0_slipOf 1 = .ok (.getfield 15, 3) := by decide +kernel
theorem dX0_slipOf_4 : decode cX0_slipOf 4 = .ok (.getfield 59, 3) := by decide +kernel
theorem dX0_slipOf_7 : decode cX0_slipOf 7 = .ok (.getfield 63, 3) := by decide +kernel
theorem dX0_slipOf_10 : decode cX0_slipOf 10 = .ok (.iload_n 1, 1) := by decide +kernel
theorem dX0_slipOf_11 : decode cX0_slipOf 11 = .ok (.iaload, 1) := by decide +kernel
theorem dX0_slipOf_12 : decode cX0_slipOf 12 = .ok (.istore_n 3, 1) := by decide +kernel
theorem dX0_slipOf_13 : decode cX0_slipOf 13 = .ok (.aload_n 0, 1) := by decide +kernel
theorem dX0_slipOf_14 : decode cX0_slipOf 14 = .ok (.iconst 2, 1) := by decide +kernel
theorem dX0_slipOf_15 : decode cX0_slipOf 15 = .ok (.iload_n 3, 1) := by decide +kernel
theorem dX0_slipOf_16 : decode cX0_slipOf 16 = .ok (.imul, 1) := by decide +kernel
theorem dX0_slipOf_17 : decode cX0_slipOf 17 = .ok (.iconst 1, 1) := by decide +kernel
theorem dX0_slipOf_18 : decode cX0_slipOf 18 = .ok (.iadd, 1) := by decide +kernel
theorem dX0_slipOf_19 : decode cX0_slipOf 19 = .ok (.ldc 68, 2) := by decide +kernel
theorem dX0_slipOf_21 : decode cX0_slipOf 21 = .ok (.iload_n 2, 1) := by decide +kernel
theorem dX0_slipOf_22 : decode cX0_slipOf 22 = .ok (.iadd, 1) := by decide +kernel
theorem dX0_slipOf_23 : decode cX0_slipOf 23 = .ok (.invokevirtual 35, 3) := by decide +kernel
theorem dX0_slipOf_26 : decode cX0_slipOf 26 = .ok (.iload_n 3, 1) := by decide +kernel
theorem dX0_slipOf_27 : decode cX0_slipOf 27 = .ok (.isub, 1) := by decide +kernel
theorem dX0_slipOf_28 : decode cX0_slipOf 28 = .ok (.ireturn, 1) := by decide +kernel
theorem dX0_goes_0 : decode cX0_goes 0 = .ok (.aload_n 0, 1) := by decide +kernel
theorem dX0_goes_1 : decode cX0_goes 1 = .ok (.getfield 15, 3) := by decide +kernel
theorem dX0_goes_4 : decode cX0_goes 4 = .ok (.getfield 69, 3) := by decide +kernel
theorem dX0_goes_7 : decode cX0_goes 7 = .ok (.astore_n 3, 1) := by decide +kernel
theorem dX0_goes_8 : decode cX0_goes 8 = .ok (.aload_n 3, 1) := by decide +kernel
theorem dX0_goes_9 : decode cX0_goes 9 = .ok (.iconst 0, 1) := by decide +kernel
theorem dX0_goes_10 : decode cX0_goes 10 = .ok (.iload_n 2, 1) := by decide +kernel
theorem dX0_goes_11 : decode cX0_goes 11 = .ok (.invokevirtual 27, 3) := by decide +kernel
theorem dX0_goes_14 : decode cX0_goes 14 = .ok (.aload_n 3, 1) := by decide +kernel
theorem dX0_goes_15 : decode cX0_goes 15 = .ok (.iconst 2, 1) := by decide +kernel
theorem dX0_goes_16 : decode cX0_goes 16 = .ok (.aload_n 0, 1) := by decide +kernel
theorem dX0_goes_17 : decode cX0_goes 17 = .ok (.getfield 53, 3) := by decide +kernel
theorem dX0_goes_20 : decode cX0_goes 20 = .ok (.invokevirtual 27, 3) := by decide +kernel
theorem dX0_goes_23 : decode cX0_goes 23 = .ok (.aload_n 3, 1) := by decide +kernel
theorem dX0_goes_24 : decode cX0_goes 24 = .ok (.iconst 3, 1) := by decide +kernel
theorem dX0_goes_25 : decode cX0_goes 25 = .ok (.aload_n 0, 1) := by decide +kernel
theorem dX0_goes_26 : decode cX0_goes 26 = .ok (.getfield 15, 3) := by decide +kernel
theorem dX0_goes_29 : decode cX0_goes 29 = .ok (.getfield 59, 3) := by decide +kernel
theorem dX0_goes_32 : decode cX0_goes 32 = .ok (.getfield 72, 3) := by decide +kernel
theorem dX0_goes_35 : decode cX0_goes 35 = .ok (.iload_n 1, 1) := by decide +kernel
theorem dX0_goes_36 : decode cX0_goes 36 = .ok (.iaload, 1) := by decide +kernel
theorem dX0_goes_37 : decode cX0_goes 37 = .ok (.invokevirtual 27, 3) := by decide +kernel
theorem dX0_goes_40 : decode cX0_goes 40 = .ok (.aload_n 3, 1) := by decide +kernel
theorem dX0_goes_41 : decode cX0_goes 41 = .ok (.iconst 4, 1) := by decide +kernel
theorem dX0_goes_42 : decode cX0_goes 42 = .ok (.aload_n 0, 1) := by decide +kernel
theorem dX0_goes_43 : decode cX0_goes 43 = .ok (.getfield 15, 3) := by decide +kernel
theorem dX0_goes_46 : decode cX0_goes 46 = .ok (.getfield 59, 3) := by decide +kernel
theorem dX0_goes_49 : decode cX0_goes 49 = .ok (.getfield 75, 3) := by decide +kernel
theorem dX0_goes_52 : decode cX0_goes 52 = .ok (.iload_n 1, 1) := by decide +kernel
theorem dX0_goes_53 : decode cX0_goes 53 = .ok (.iaload, 1) := by decide +kernel
theorem dX0_goes_54 : decode cX0_goes 54 = .ok (.invokevirtual 27, 3) := by decide +kernel
theorem dX0_goes_57 : decode cX0_goes 57 = .ok (.aload_n 3, 1) := by decide +kernel
theorem dX0_goes_58 : decode cX0_goes 58 = .ok (.invokevirtual 39, 3) := by decide +kernel
theorem dX0_goes_61 : decode cX0_goes 61 = .ok (.ifCond .le 7, 3) := by decide +kernel
theorem dX0_goes_64 : decode cX0_goes 64 = .ok (.iconst 1, 1) := by decide +kernel
theorem dX0_goes_65 : decode cX0_goes 65 = .ok (.goto 4, 3) := by decide +kernel
theorem dX0_goes_68 : decode cX0_goes 68 = .ok (.iconst 0, 1) := by decide +kernel
theorem dX0_goes_69 : decode cX0_goes 69 = .ok (.ireturn, 1) := by decide +kernel
theorem dX0_reachOf_0 : decode cX0_reachOf 0 = .ok (.aload_n 0, 1) := by decide +kernel
theorem dX0_reachOf_1 : decode cX0_reachOf 1 = .ok (.aload_n 0, 1) := by decide +kernel
theorem dX0_reachOf_2 : decode cX0_reachOf 2 = .ok (.getfield 15, 3) := by decide +kernel
theorem dX0_reachOf_5 : decode cX0_reachOf 5 = .ok (.getfield 59, 3) := by decide +kernel
theorem dX0_reachOf_8 : decode cX0_reachOf 8 = .ok (.getfield 72, 3) := by decide +kernel
theorem dX0_reachOf_11 : decode cX0_reachOf 11 = .ok (.iload_n 1, 1) := by decide +kernel
theorem dX0_reachOf_12 : decode cX0_reachOf 12 = .ok (.iaload, 1) := by decide +kernel
theorem dX0_reachOf_13 : decode cX0_reachOf 13 = .ok (.aload_n 0, 1) := by decide +kernel
theorem dX0_reachOf_14 : decode cX0_reachOf 14 = .ok (.getfield 15, 3) := by decide +kernel
theorem dX0_reachOf_17 : decode cX0_reachOf 17 = .ok (.getfield 59, 3) := by decide +kernel
theorem dX0_reachOf_20 : decode cX0_reachOf 20 = .ok (.getfield 75, 3) := by decide +kernel
theorem dX0_reachOf_23 : decode cX0_reachOf 23 = .ok (.iload_n 1, 1) := by decide +kernel
theorem dX0_reachOf_24 : decode cX0_reachOf 24 = .ok (.iaload, 1) := by decide +kernel
theorem dX0_reachOf_25 : decode cX0_reachOf 25 = .ok (.iload_n 2, 1) := by decide +kernel
theorem dX0_reachOf_26 : decode cX0_reachOf 26 = .ok (.iload_n 3, 1) := by decide +kernel
theorem dX0_reachOf_27 : decode cX0_reachOf 27 = .ok (.iload 4, 2) := by decide +kernel
theorem dX0_reachOf_29 : decode cX0_reachOf 29 = .ok (.invokevirtual 78, 3) := by decide +kernel
theorem dX0_reachOf_32 : decode cX0_reachOf 32 = .ok (.ireturn, 1) := by decide +kernel
theorem dX0_reach_0 : decode cX0_reach 0 = .ok (.aload_n 0, 1) := by decide +kernel
theorem dX0_reach_1 : decode cX0_reach 1 = .ok (.getfield 15, 3) := by decide +kernel
theorem dX0_reach_4 : decode cX0_reach 4 = .ok (.getfield 82, 3) := by decide +kernel
theorem dX0_reach_7 : decode cX0_reach 7 = .ok (.astore 6, 2) := by decide +kernel
theorem dX0_reach_9 : decode cX0_reach 9 = .ok (.aload 6, 2) := by decide +kernel
theorem dX0_reach_11 : decode cX0_reach 11 = .ok (.iconst 2, 1) := by decide +kernel
theorem dX0_reach_12 : decode cX0_reach 12 = .ok (.aload_n 0, 1) := by decide +kernel
theorem dX0_reach_13 : decode cX0_reach 13 = .ok (.getfield 56, 3) := by decide +kernel
theorem dX0_reach_16 : decode cX0_reach 16 = .ok (.invokevirtual 27, 3) := by decide +kernel
theorem dX0_reach_19 : decode cX0_reach 19 = .ok (.aload 6, 2) := by decide +kernel
theorem dX0_reach_21 : decode cX0_reach 21 = .ok (.iconst 3, 1) := by decide +kernel
theorem dX0_reach_22 : decode cX0_reach 22 = .ok (.iload_n 1, 1) := by decide +kernel
theorem dX0_reach_23 : decode cX0_reach 23 = .ok (.invokevirtual 27, 3) := by decide +kernel
theorem dX0_reach_26 : decode cX0_reach 26 = .ok (.aload 6, 2) := by decide +kernel
theorem dX0_reach_28 : decode cX0_reach 28 = .ok (.iconst 4, 1) := by decide +kernel
theorem dX0_reach_29 : decode cX0_reach 29 = .ok (.iload_n 2, 1) := by decide +kernel
theorem dX0_reach_30 : decode cX0_reach 30 = .ok (.invokevirtual 27, 3) := by decide +kernel
theorem dX0_reach_33 : decode cX0_reach 33 = .ok (.aload 6, 2) := by decide +kernel
theorem dX0_reach_35 : decode cX0_reach 35 = .ok (.iconst 5, 1) := by decide +kernel
theorem dX0_reach_36 : decode cX0_reach 36 = .ok (.iload_n 3, 1) := by decide +kernel
theorem dX0_reach_37 : decode cX0_reach 37 = .ok (.invokevirtual 27, 3) := by decide +kernel
theorem dX0_reach_40 : decode cX0_reach 40 = .ok (.aload 6, 2) := by decide +kernel
theorem dX0_reach_42 : decode cX0_reach 42 = .ok (.bipush 6, 2) := by decide +kernel
theorem dX0_reach_44 : decode cX0_reach 44 = .ok (.aload_n 0, 1) := by decide +kernel
theorem dX0_reach_45 : decode cX0_reach 45 = .ok (.getfield 15, 3) := by decide +kernel
theorem dX0_reach_48 : decode cX0_reach 48 = .ok (.getfield 85, 3) := by decide +kernel
theorem dX0_reach_51 : decode cX0_reach 51 = .ok (.iload 5, 2) := by decide +kernel
theorem dX0_reach_53 : decode cX0_reach 53 = .ok (.imul, 1) := by decide +kernel
theorem dX0_reach_54 : decode cX0_reach 54 = .ok (.invokevirtual 27, 3) := by decide +kernel
theorem dX0_reach_57 : decode cX0_reach 57 = .ok (.aload 6, 2) := by decide +kernel
theorem dX0_reach_59 : decode cX0_reach 59 = .ok (.bipush 7, 2) := by decide +kernel
theorem dX0_reach_61 : decode cX0_reach 61 = .ok (.iload 4, 2) := by decide +kernel
theorem dX0_reach_63 : decode cX0_reach 63 = .ok (.aload_n 0, 1) := by decide +kernel
theorem dX0_reach_64 : decode cX0_reach 64 = .ok (.getfield 15, 3) := by decide +kernel
theorem dX0_reach_67 : decode cX0_reach 67 = .ok (.getfield 88, 3) := by decide +kernel
theorem dX0_reach_70 : decode cX0_reach 70 = .ok (.isub, 1) := by decide +kernel
theorem dX0_reach_71 : decode cX0_reach 71 = .ok (.invokevirtual 27, 3) := by decide +kernel
theorem dX0_reach_74 : decode cX0_reach 74 = .ok (.aload_n 0, 1) := by decide +kernel
theorem dX0_reach_75 : decode cX0_reach 75 = .ok (.aload 6, 2) := by decide +kernel
theorem dX0_reach_77 : decode cX0_reach 77 = .ok (.invokevirtual 39, 3) := by decide +kernel
theorem dX0_reach_80 : decode cX0_reach 80 = .ok (.iconst 0, 1) := by decide +kernel
theorem dX0_reach_81 : decode cX0_reach 81 = .ok (.sipush 9999, 3) := by decide +kernel
theorem dX0_reach_84 : decode cX0_reach 84 = .ok (.invokestatic 43, 3) := by decide +kernel
theorem dX0_reach_87 : decode cX0_reach 87 = .ok (.putfield 91, 3) := by decide +kernel
theorem dX0_reach_90 : decode cX0_reach 90 = .ok (.aload_n 0, 1) := by decide +kernel
theorem dX0_reach_91 : decode cX0_reach 91 = .ok (.getfield 91, 3) := by decide +kernel
theorem dX0_reach_94 : decode cX0_reach 94 = .ok (.ireturn, 1) := by decide +kernel
theorem dX0_judge_0 : decode cX0_judge 0 = .ok (.aload_n 0, 1) := by decide +kernel
theorem dX0_judge_1 : decode cX0_judge 1 = .ok (.getfield 15, 3) := by decide +kernel
theorem dX0_judge_4 : decode cX0_judge 4 = .ok (.getfield 94, 3) := by decide +kernel
theorem dX0_judge_7 : decode cX0_judge 7 = .ok (.astore 4, 2) := by decide +kernel
theorem dX0_judge_9 : decode cX0_judge 9 = .ok (.aload 4, 2) := by decide +kernel
theorem dX0_judge_11 : decode cX0_judge 11 = .ok (.bipush 8, 2) := by decide +kernel
theorem dX0_judge_13 : decode cX0_judge 13 = .ok (.aload_n 0, 1) := by decide +kernel
theorem dX0_judge_14 : decode cX0_judge 14 = .ok (.getfield 91, 3) := by decide +kernel
theorem dX0_judge_17 : decode cX0_judge 17 = .ok (.invokevirtual 27, 3) := by decide +kernel
theorem dX0_judge_20 : decode cX0_judge 20 = .ok (.aload 4, 2) := by decide +kernel
theorem dX0_judge_22 : decode cX0_judge 22 = .ok (.iconst 5, 1) := by decide +kernel
theorem dX0_judge_23 : decode cX0_judge 23 = .ok (.iload_n 2, 1) := by decide +kernel
theorem dX0_judge_24 : decode cX0_judge 24 = .ok (.invokevirtual 27, 3) := by decide +kernel
theorem dX0_judge_27 : decode cX0_judge 27 = .ok (.aload 4, 2) := by decide +kernel
theorem dX0_judge_29 : decode cX0_judge 29 = .ok (.iconst 2, 1) := by decide +kernel
theorem dX0_judge_30 : decode cX0_judge 30 = .ok (.aload_n 0, 1) := by decide +kernel
theorem dX0_judge_31 : decode cX0_judge 31 = .ok (.getfield 56, 3) := by decide +kernel
theorem dX0_judge_34 : decode cX0_judge 34 = .ok (.invokevirtual 27, 3) := by decide +kernel
theorem dX0_judge_37 : decode cX0_judge 37 = .ok (.iconst 0, 1) := by decide +kernel
theorem dX0_judge_38 : decode cX0_judge 38 = .ok (.istore 5, 2) := by decide +kernel
theorem dX0_judge_40 : decode cX0_judge 40 = .ok (.iload 5, 2) := by decide +kernel
theorem dX0_judge_42 : decode cX0_judge 42 = .ok (.aload_n 0, 1) := by decide +kernel
theorem dX0_judge_43 : decode cX0_judge 43 = .ok (.getfield 15, 3) := by decide +kernel
theorem dX0_judge_46 : decode cX0_judge 46 = .ok (.getfield 59, 3) := by decide +kernel
theorem dX0_judge_49 : decode cX0_judge 49 = .ok (.getfield 97, 3) := by decide +kernel
theorem dX0_judge_52 : decode cX0_judge 52 = .ok (.if_icmp .ge 88, 3) := by decide +kernel
theorem dX0_judge_55 : decode cX0_judge 55 = .ok (.aload 4, 2) := by decide +kernel
theorem dX0_judge_57 : decode cX0_judge 57 = .ok (.bipush 9, 2) := by decide +kernel
theorem dX0_judge_59 : decode cX0_judge 59 = .ok (.aload_n 0, 1) := by decide +kernel
theorem dX0_judge_60 : decode cX0_judge 60 = .ok (.getfield 15, 3) := by decide +kernel
theorem dX0_judge_63 : decode cX0_judge 63 = .ok (.getfield 59, 3) := by decide +kernel
theorem dX0_judge_66 : decode cX0_judge 66 = .ok (.getfield 100, 3) := by decide +kernel
theorem dX0_judge_69 : decode cX0_judge 69 = .ok (.iload 5, 2) := by decide +kernel
theorem dX0_judge_71 : decode cX0_judge 71 = .ok (.iaload, 1) := by decide +kernel
theorem dX0_judge_72 : decode cX0_judge 72 = .ok (.invokevirtual 27, 3) := by decide +kernel
theorem dX0_judge_75 : decode cX0_judge 75 = .ok (.aload 4, 2) := by decide +kernel
theorem dX0_judge_77 : decode cX0_judge 77 = .ok (.bipush 10, 2) := by decide +kernel
theorem dX0_judge_79 : decode cX0_judge 79 = .ok (.aload_n 0, 1) := by decide +kernel
theorem dX0_judge_80 : decode cX0_judge 80 = .ok (.getfield 15, 3) := by decide +kernel
theorem dX0_judge_83 : decode cX0_judge 83 = .ok (.getfield 59, 3) := by decide +kernel
theorem dX0_judge_86 : decode cX0_judge 86 = .ok (.getfield 103, 3) := by decide +kernel
theorem dX0_judge_89 : decode cX0_judge 89 = .ok (.iload 5, 2) := by decide +kernel
theorem dX0_judge_91 : decode cX0_judge 91 = .ok (.iaload, 1) := by decide +kernel
theorem dX0_judge_92 : decode cX0_judge 92 = .ok (.aload_n 0, 1) := by decide +kernel
theorem dX0_judge_93 : decode cX0_judge 93 = .ok (.getfield 15, 3) := by decide +kernel
theorem dX0_judge_96 : decode cX0_judge 96 = .ok (.getfield 59, 3) := by decide +kernel
theorem dX0_judge_99 : decode cX0_judge 99 = .ok (.getfield 106, 3) := by decide +kernel
theorem dX0_judge_102 : decode cX0_judge 102 = .ok (.iload_n 1, 1) := by decide +kernel
theorem dX0_judge_103 : decode cX0_judge 103 = .ok (.iaload, 1) := by decide +kernel
theorem dX0_judge_104 : decode cX0_judge 104 = .ok (.if_icmp .ne 7, 3) := by decide +kernel
theorem dX0_judge_107 : decode cX0_judge 107 = .ok (.iconst 1, 1) := by decide +kernel
theorem dX0_judge_108 : decode cX0_judge 108 = .ok (.goto 4, 3) := by decide +kernel
theorem dX0_judge_111 : decode cX0_judge 111 = .ok (.iconst 0, 1) := by decide +kernel
theorem dX0_judge_112 : decode cX0_judge 112 = .ok (.invokevirtual 27, 3) := by decide +kernel
theorem dX0_judge_115 : decode cX0_judge 115 = .ok (.aload_n 0, 1) := by decide +kernel
theorem dX0_judge_116 : decode cX0_judge 116 = .ok (.getfield 9, 3) := by decide +kernel
theorem dX0_judge_119 : decode cX0_judge 119 = .ok (.iload 5, 2) := by decide +kernel
theorem dX0_judge_121 : decode cX0_judge 121 = .ok (.aload 4, 2) := by decide +kernel
theorem dX0_judge_123 : decode cX0_judge 123 = .ok (.invokevirtual 39, 3) := by decide +kernel
theorem dX0_judge_126 : decode cX0_judge 126 = .ok (.iconst 0, 1) := by decide +kernel
theorem dX0_judge_127 : decode cX0_judge 127 = .ok (.sipush 200, 3) := by decide +kernel
theorem dX0_judge_130 : decode cX0_judge 130 = .ok (.invokestatic 43, 3) := by decide +kernel
theorem dX0_judge_133 : decode cX0_judge 133 = .ok (.iastore, 1) := by decide +kernel
theorem dX0_judge_134 : decode cX0_judge 134 = .ok (.iinc 5 1, 3) := by decide +kernel
theorem dX0_judge_137 : decode cX0_judge 137 = .ok (.goto (-97), 3) := by decide +kernel
theorem dX0_judge_140 : decode cX0_judge 140 = .ok (.aload_n 0, 1) := by decide +kernel
theorem dX0_judge_141 : decode cX0_judge 141 = .ok (.aload_n 0, 1) := by decide +kernel
theorem dX0_judge_142 : decode cX0_judge 142 = .ok (.getfield 9, 3) := by decide +kernel
theorem dX0_judge_145 : decode cX0_judge 145 = .ok (.iconst 0, 1) := by decide +kernel
theorem dX0_judge_146 : decode cX0_judge 146 = .ok (.aload_n 0, 1) := by decide +kernel
theorem dX0_judge_147 : decode cX0_judge 147 = .ok (.getfield 15, 3) := by decide +kernel
theorem dX0_judge_150 : decode cX0_judge 150 = .ok (.getfield 59, 3) := by decide +kernel
theorem dX0_judge_153 : decode cX0_judge 153 = .ok (.getfield 97, 3) := by decide +kernel
theorem dX0_judge_156 : decode cX0_judge 156 = .ok (.iconst (-1), 1) := by decide +kernel
theorem dX0_judge_157 : decode cX0_judge 157 = .ok (.invokestatic 109, 3) := by decide +kernel
theorem dX0_judge_160 : decode cX0_judge 160 = .ok (.putfield 113, 3) := by decide +kernel
theorem dX0_judge_163 : decode cX0_judge 163 = .ok (.aload_n 0, 1) := by decide +kernel
theorem dX0_judge_164 : decode cX0_judge 164 = .ok (.aload_n 0, 1) := by decide +kernel
theorem dX0_judge_165 : decode cX0_judge 165 = .ok (.aload_n 0, 1) := by decide +kernel
theorem dX0_judge_166 : decode cX0_judge 166 = .ok (.getfield 91, 3) := by decide +kernel
theorem dX0_judge_169 : decode cX0_judge 169 = .ok (.aload_n 0, 1) := by decide +kernel
theorem dX0_judge_170 : decode cX0_judge 170 = .ok (.getfield 113, 3) := by decide +kernel
theorem dX0_judge_173 : decode cX0_judge 173 = .ok (.aload_n 0, 1) := by decide +kernel
theorem dX0_judge_174 : decode cX0_judge 174 = .ok (.aload_n 0, 1) := by decide +kernel
theorem dX0_judge_175 : decode cX0_judge 175 = .ok (.getfield 53, 3) := by decide +kernel
theorem dX0_judge_178 : decode cX0_judge 178 = .ok (.invokevirtual 116, 3) := by decide +kernel
theorem dX0_judge_181 : decode cX0_judge 181 = .ok (.iload_n 3, 1) := by decide +kernel
theorem dX0_judge_182 : decode cX0_judge 182 = .ok (.invokevirtual 120, 3) := by decide +kernel
theorem dX0_judge_185 : decode cX0_judge 185 = .ok (.putfield 124, 3) := by decide +kernel
theorem dX0_judge_188 : decode cX0_judge 188 = .ok (.return_, 1) := by decide +kernel
theorem dX0_givenFor_0 : decode cX0_givenFor 0 = .ok (.aload_n 0, 1) := by decide +kernel
theorem dX0_givenFor_1 : decode cX0_givenFor 1 = .ok (.getfield 15, 3) := by decide +kernel
theorem dX0_givenFor_4 : decode cX0_givenFor 4 = .ok (.getfield 127, 3) := by decide +kernel
theorem dX0_givenFor_7 : decode cX0_givenFor 7 = .ok (.iconst 2, 1) := by decide +kernel
theorem dX0_givenFor_8 : decode cX0_givenFor 8 = .ok (.iload_n 1, 1) := by decide +kernel
theorem dX0_givenFor_9 : decode cX0_givenFor 9 = .ok (.invokevirtual 27, 3) := by decide +kernel
theorem dX0_givenFor_12 : decode cX0_givenFor 12 = .ok (.aload_n 0, 1) := by decide +kernel
theorem dX0_givenFor_13 : decode cX0_givenFor 13 = .ok (.getfield 15, 3) := by decide +kernel
theorem dX0_givenFor_16 : decode cX0_givenFor 16 = .ok (.getfield 127, 3) := by decide +kernel
theorem dX0_givenFor_19 : decode cX0_givenFor 19 = .ok (.invokevirtual 39, 3) := by decide +kernel
theorem dX0_givenFor_22 : decode cX0_givenFor 22 = .ok (.sipush (-999), 3) := by decide +kernel
theorem dX0_givenFor_25 : decode cX0_givenFor 25 = .ok (.sipush 999, 3) := by decide +kernel
theorem dX0_givenFor_28 : decode cX0_givenFor 28 = .ok (.invokestatic 43, 3) := by decide +kernel
theorem dX0_givenFor_31 : decode cX0_givenFor 31 = .ok (.ireturn, 1) := by decide +kernel
theorem dX0_pointsFor_0 : decode cX0_pointsFor 0 = .ok (.aload_n 0, 1) := by decide +kernel
theorem dX0_pointsFor_1 : decode cX0_pointsFor 1 = .ok (.getfield 15, 3) := by decide +kernel
theorem dX0_pointsFor_4 : decode cX0_pointsFor 4 = .ok (.getfield 130, 3) := by decide +kernel
theorem dX0_pointsFor_7 : decode cX0_pointsFor 7 = .ok (.iload_n 1, 1) := by decide +kernel
theorem dX0_pointsFor_8 : decode cX0_pointsFor 8 = .ok (.aload_n 0, 1) := by decide +kernel
theorem dX0_pointsFor_9 : decode cX0_pointsFor 9 = .ok (.getfield 15, 3) := by decide +kernel
theorem dX0_pointsFor_12 : decode cX0_pointsFor 12 = .ok (.getfield 133, 3) := by decide +kernel
theorem dX0_pointsFor_15 : decode cX0_pointsFor 15 = .ok (.isub, 1) := by decide +kernel
theorem dX0_pointsFor_16 : decode cX0_pointsFor 16 = .ok (.imul, 1) := by decide +kernel
theorem dX0_pointsFor_17 : decode cX0_pointsFor 17 = .ok (.bipush 10, 2) := by decide +kernel
theorem dX0_pointsFor_19 : decode cX0_pointsFor 19 = .ok (.idiv, 1) := by decide +kernel
theorem dX0_pointsFor_20 : decode cX0_pointsFor 20 = .ok (.istore 5, 2) := by decide +kernel
theorem dX0_pointsFor_22 : decode cX0_pointsFor 22 = .ok (.iconst 0, 1) := by decide +kernel
theorem dX0_pointsFor_23 : decode cX0_pointsFor 23 = .ok (.sipush 600, 3) := by decide +kernel
theorem dX0_pointsFor_26 : decode cX0_pointsFor 26 = .ok (.iload 5, 2) := by decide +kernel
theorem dX0_pointsFor_28 : decode cX0_pointsFor 28 = .ok (.iadd, 1) := by decide +kernel
theorem dX0_pointsFor_29 : decode cX0_pointsFor 29 = .ok (.iload_n 2, 1) := by decide +kernel
theorem dX0_pointsFor_30 : decode cX0_pointsFor 30 = .ok (.iadd, 1) := by decide +kernel
theorem dX0_pointsFor_31 : decode cX0_pointsFor 31 = .ok (.iload_n 3, 1) := by decide +kernel
theorem dX0_pointsFor_32 : decode cX0_pointsFor 32 = .ok (.iadd, 1) := by decide +kernel
theorem dX0_pointsFor_33 : decode cX0_pointsFor 33 = .ok (.aload_n 0, 1) := by decide +kernel
theorem dX0_pointsFor_34 : decode cX0_pointsFor 34 = .ok (.getfield 15, 3) := by decide +kernel
theorem dX0_pointsFor_37 : decode cX0_pointsFor 37 = .ok (.getfield 136, 3) := by decide +kernel
theorem dX0_pointsFor_40 : decode cX0_pointsFor 40 = .ok (.aload_n 0, 1) := by decide +kernel
theorem dX0_pointsFor_41 : decode cX0_pointsFor 41 = .ok (.getfield 15, 3) := by decide +kernel
theorem dX0_pointsFor_44 : decode cX0_pointsFor 44 = .ok (.getfield 88, 3) := by decide +kernel
theorem dX0_pointsFor_47 : decode cX0_pointsFor 47 = .ok (.iload 4, 2) := by decide +kernel
theorem dX0_pointsFor_49 : decode cX0_pointsFor 49 = .ok (.isub, 1) := by decide +kernel
theorem dX0_pointsFor_50 : decode cX0_pointsFor 50 = .ok (.imul, 1) := by decide +kernel
theorem dX0_pointsFor_51 : decode cX0_pointsFor 51 = .ok (.iadd, 1) := by decide +kernel
theorem dX0_pointsFor_52 : decode cX0_pointsFor 52 = .ok (.invokestatic 139, 3) := by decide +kernel
theorem dX0_pointsFor_55 : decode cX0_pointsFor 55 = .ok (.ireturn, 1) := by decide +kernel
theorem dX0_mostStyle_0 : decode cX0_mostStyle 0 = .ok (.aload_n 0, 1) := by decide +kernel
theorem dX0_mostStyle_1 : decode cX0_mostStyle 1 = .ok (.getfield 9, 3) := by decide +kernel
theorem dX0_mostStyle_4 : decode cX0_mostStyle 4 = .ok (.sipush 200, 3) := by decide +kernel
theorem dX0_mostStyle_7 : decode cX0_mostStyle 7 = .ok (.invokestatic 144, 3) := by decide +kernel
theorem dX0_mostStyle_10 : decode cX0_mostStyle 10 = .ok (.aload_n 0, 1) := by decide +kernel
theorem dX0_mostStyle_11 : decode cX0_mostStyle 11 = .ok (.getfield 9, 3) := by decide +kernel
theorem dX0_mostStyle_14 : decode cX0_mostStyle 14 = .ok (.iconst 0, 1) := by decide +kernel
theorem dX0_mostStyle_15 : decode cX0_mostStyle 15 = .ok (.aload_n 0, 1) := by decide +kernel
theorem dX0_mostStyle_16 : decode cX0_mostStyle 16 = .ok (.getfield 15, 3) := by decide +kernel
theorem dX0_mostStyle_19 : decode cX0_mostStyle 19 = .ok (.getfield 59, 3) := by decide +kernel
theorem dX0_mostStyle_22 : decode cX0_mostStyle 22 = .ok (.getfield 97, 3) := by decide +kernel
theorem dX0_mostStyle_25 : decode cX0_mostStyle 25 = .ok (.iconst (-1), 1) := by decide +kernel
theorem dX0_mostStyle_26 : decode cX0_mostStyle 26 = .ok (.invokestatic 109, 3) := by decide +kernel
theorem dX0_mostStyle_29 : decode cX0_mostStyle 29 = .ok (.ireturn, 1) := by decide +kernel
theorem dX0_lot_0 : decode cX0_lot 0 = .ok (.iload_n 1, 1) := by decide +kernel
theorem dX0_lot_1 : decode cX0_lot 1 = .ok (.iconst 1, 1) := by decide +kernel
theorem dX0_lot_2 : decode cX0_lot 2 = .ok (.if_icmp .gt 5, 3) := by decide +kernel
theorem dX0_lot_5 : decode cX0_lot 5 = .ok (.iconst 0, 1) := by decide +kernel
theorem dX0_lot_6 : decode cX0_lot 6 = .ok (.ireturn, 1) := by decide +kernel
theorem dX0_lot_7 : decode cX0_lot 7 = .ok (.aload_n 0, 1) := by decide +kernel
theorem dX0_lot_8 : decode cX0_lot 8 = .ok (.getfield 150, 3) := by decide +kernel
theorem dX0_lot_11 : decode cX0_lot 11 = .ok (.bipush 47, 2) := by decide +kernel
theorem dX0_lot_13 : decode cX0_lot 13 = .ok (.invokestatic 153, 3) := by decide +kernel
theorem dX0_lot_16 : decode cX0_lot 16 = .ok (.iload_n 2, 1) := by decide +kernel
theorem dX0_lot_17 : decode cX0_lot 17 = .ok (.invokestatic 153, 3) := by decide +kernel
theorem dX0_lot_20 : decode cX0_lot 20 = .ok (.istore_n 3, 1) := by decide +kernel
theorem dX0_lot_21 : decode cX0_lot 21 = .ok (.iload_n 3, 1) := by decide +kernel
theorem dX0_lot_22 : decode cX0_lot 22 = .ok (.iconst 1, 1) := by decide +kernel
theorem dX0_lot_23 : decode cX0_lot 23 = .ok (.iushr, 1) := by decide +kernel
theorem dX0_lot_24 : decode cX0_lot 24 = .ok (.iload_n 1, 1) := by decide +kernel
theorem dX0_lot_25 : decode cX0_lot 25 = .ok (.irem, 1) := by decide +kernel
theorem dX0_lot_26 : decode cX0_lot 26 = .ok (.ireturn, 1) := by decide +kernel
theorem dX0_mixed_0 : decode cX0_mixed 0 = .ok (.iload_n 0, 1) := by decide +kernel
theorem dX0_mixed_1 : decode cX0_mixed 1 = .ok (.iload_n 1, 1) := by decide +kernel
theorem dX0_mixed_2 : decode cX0_mixed 2 = .ok (.ixor, 1) := by decide +kernel
theorem dX0_mixed_3 : decode cX0_mixed 3 = .ok (.ldc 156, 2) := by decide +kernel
theorem dX0_mixed_5 : decode cX0_mixed 5 = .ok (.imul, 1) := by decide +kernel
theorem dX0_mixed_6 : decode cX0_mixed 6 = .ok (.sipush 12345, 3) := by decide +kernel
theorem dX0_mixed_9 : decode cX0_mixed 9 = .ok (.iadd, 1) := by decide +kernel
theorem dX0_mixed_10 : decode cX0_mixed 10 = .ok (.istore_n 2, 1) := by decide +kernel
theorem dX0_mixed_11 : decode cX0_mixed 11 = .ok (.iload_n 2, 1) := by decide +kernel
theorem dX0_mixed_12 : decode cX0_mixed 12 = .ok (.iload_n 2, 1) := by decide +kernel
theorem dX0_mixed_13 : decode cX0_mixed 13 = .ok (.bipush 15, 2) := by decide +kernel
theorem dX0_mixed_15 : decode cX0_mixed 15 = .ok (.iushr, 1) := by decide +kernel
theorem dX0_mixed_16 : decode cX0_mixed 16 = .ok (.ixor, 1) := by decide +kernel
theorem dX0_mixed_17 : decode cX0_mixed 17 = .ok (.ireturn, 1) := by decide +kernel
theorem dX1_init_0 : decode cX1_init 0 = .ok (.aload_n 0, 1) := by decide +kernel
theorem dX1_init_1 : decode cX1_init 1 = .ok (.invokespecial 1, 3) := by decide +kernel
theorem dX1_init_4 : decode cX1_init 4 = .ok (.aload_n 0, 1) := by decide +kernel
theorem dX1_init_5 : decode cX1_init 5 = .ok (.bipush 40, 2) := by decide +kernel
theorem dX1_init_7 : decode cX1_init 7 = .ok (.sipush 277, 3) := by decide +kernel
theorem dX1_init_10 : decode cX1_init 10 = .ok (.multianewarray 11 2, 4) := by decide +kernel
theorem dX1_init_14 : decode cX1_init 14 = .ok (.putfield 13, 3) := by decide +kernel
theorem dX1_init_17 : decode cX1_init 17 = .ok (.return_, 1) := by decide +kernel
theorem dX1_clear_0 : decode cX1_clear 0 = .ok (.aload_n 0, 1) := by decide +kernel
theorem dX1_clear_1 : decode cX1_clear 1 = .ok (.iconst 0, 1) := by decide +kernel
theorem dX1_clear_2 : decode cX1_clear 2 = .ok (.putfield 16, 3) := by decide +kernel
theorem dX1_clear_5 : decode cX1_clear 5 = .ok (.aload_n 0, 1) := by decide +kernel
theorem dX1_clear_6 : decode cX1_clear 6 = .ok (.iconst 0, 1) := by decide +kernel
theorem dX1_clear_7 : decode cX1_clear 7 = .ok (.putfield 20, 3) := by decide +kernel
theorem dX1_clear_10 : decode cX1_clear 10 = .ok (.return_, 1) := by decide +kernel
theorem dX1_keep_0 : decode cX1_keep 0 = .ok (.aload_n 1, 1) := by decide +kernel
theorem dX1_keep_1 : decode cX1_keep 1 = .ok (.aload_n 0, 1) := by decide +kernel
theorem dX1_keep_2 : decode cX1_keep 2 = .ok (.getfield 13, 3) := by decide +kernel
theorem dX1_keep_5 : decode cX1_keep 5 = .ok (.aload_n 0, 1) := by decide +kernel
theorem dX1_keep_6 : decode cX1_keep 6 = .ok (.getfield 20, 3) := by decide +kernel
theorem dX1_keep_9 : decode cX1_keep 9 = .ok (.aaload, 1) := by decide +kernel
theorem dX1_keep_10 : decode cX1_keep 10 = .ok (.invokevirtual 23, 3) := by decide +kernel
theorem dX1_keep_13 : decode cX1_keep 13 = .ok (.aload_n 0, 1) := by decide +kernel
theorem dX1_keep_14 : decode cX1_keep 14 = .ok (.aload_n 0, 1) := by decide +kernel
theorem dX1_keep_15 : decode cX1_keep 15 = .ok (.getfield 20, 3) := by decide +kernel
theorem dX1_keep_18 : decode cX1_keep 18 = .ok (.iconst 1, 1) := by decide +kernel
theorem dX1_keep_19 : decode cX1_keep 19 = .ok (.iadd, 1) := by decide +kernel
theorem dX1_keep_20 : decode cX1_keep 20 = .ok (.bipush 40, 2) := by decide +kernel
theorem dX1_keep_22 : decode cX1_keep 22 = .ok (.irem, 1) := by decide +kernel
theorem dX1_keep_23 : decode cX1_keep 23 = .ok (.putfield 20, 3) := by decide +kernel
theorem dX1_keep_26 : decode cX1_keep 26 = .ok (.aload_n 0, 1) := by decide +kernel
theorem dX1_keep_27 : decode cX1_keep 27 = .ok (.aload_n 0, 1) := by decide +kernel
theorem dX1_keep_28 : decode cX1_keep 28 = .ok (.getfield 16, 3) := by decide +kernel
theorem dX1_keep_31 : decode cX1_keep 31 = .ok (.iconst 1, 1) := by decide +kernel
theorem dX1_keep_32 : decode cX1_keep 32 = .ok (.iadd, 1) := by decide +kernel
theorem dX1_keep_33 : decode cX1_keep 33 = .ok (.bipush 40, 2) := by decide +kernel
theorem dX1_keep_35 : decode cX1_keep 35 = .ok (.invokestatic 27, 3) := by decide +kernel
theorem dX1_keep_38 : decode cX1_keep 38 = .ok (.putfield 16, 3) := by decide +kernel
theorem dX1_keep_41 : decode cX1_keep 41 = .ok (.return_, 1) := by decide +kernel
theorem dX1_takeBack_0 : decode cX1_takeBack 0 = .ok (.aload_n 0, 1) := by decide +kernel
theorem dX1_takeBack_1 : decode cX1_takeBack 1 = .ok (.getfield 16, 3) := by decide +kernel
theorem dX1_takeBack_4 : decode cX1_takeBack 4 = .ok (.ifCond .ne 5, 3) := by decide +kernel
theorem dX1_takeBack_7 : decode cX1_takeBack 7 = .ok (.iconst 0, 1) := by decide +kernel
theorem dX1_takeBack_8 : decode cX1_takeBack 8 = .ok (.ireturn, 1) := by decide +kernel
theorem dX1_takeBack_9 : decode cX1_takeBack 9 = .ok (.aload_n 0, 1) := by decide +kernel
theorem dX1_takeBack_10 : decode cX1_takeBack 10 = .ok (.aload_n 0, 1) := by decide +kernel
theorem dX1_takeBack_11 : decode cX1_takeBack 11 = .ok (.getfield 20, 3) := by decide +kernel
theorem dX1_takeBack_14 : decode cX1_takeBack 14 = .ok (.bipush 40, 2) := by decide +kernel
theorem dX1_takeBack_16 : decode cX1_takeBack 16 = .ok (.iadd, 1) := by decide +kernel
theorem dX1_takeBack_17 : decode cX1_takeBack 17 = .ok (.iconst 1, 1) := by decide +kernel
theorem dX1_takeBack_18 : decode cX1_takeBack 18 = .ok (.isub, 1) := by decide +kernel
theorem dX1_takeBack_19 : decode cX1_takeBack 19 = .ok (.bipush 40, 2) := by decide +kernel
theorem dX1_takeBack_21 : decode cX1_takeBack 21 = .ok (.irem, 1) := by decide +kernel
theorem dX1_takeBack_22 : decode cX1_takeBack 22 = .ok (.putfield 20, 3) := by decide +kernel
theorem dX1_takeBack_25 : decode cX1_takeBack 25 = .ok (.aload_n 0, 1) := by decide +kernel
theorem dX1_takeBack_26 : decode cX1_takeBack 26 = .ok (.dup, 1) := by decide +kernel
theorem dX1_takeBack_27 : decode cX1_takeBack 27 = .ok (.getfield 16, 3) := by decide +kernel
theorem dX1_takeBack_30 : decode cX1_takeBack 30 = .ok (.iconst 1, 1) := by decide +kernel
theorem dX1_takeBack_31 : decode cX1_takeBack 31 = .ok (.isub, 1) := by decide +kernel
theorem dX1_takeBack_32 : decode cX1_takeBack 32 = .ok (.putfield 16, 3) := by decide +kernel
theorem dX1_takeBack_35 : decode cX1_takeBack 35 = .ok (.aload_n 1, 1) := by decide +kernel
theorem dX1_takeBack_36 : decode cX1_takeBack 36 = .ok (.aload_n 0, 1) := by decide +kernel
theorem dX1_takeBack_37 : decode cX1_takeBack 37 = .ok (.getfield 13, 3) := by decide +kernel
theorem dX1_takeBack_40 : decode cX1_takeBack 40 = .ok (.aload_n 0, 1) := by decide +kernel
theorem dX1_takeBack_41 : decode cX1_takeBack 41 = .ok (.getfield 20, 3) := by decide +kernel
theorem dX1_takeBack_44 : decode cX1_takeBack 44 = .ok (.aaload, 1) := by decide +kernel
theorem dX1_takeBack_45 : decode cX1_takeBack 45 = .ok (.invokevirtual 33, 3) := by decide +kernel
theorem dX1_takeBack_48 : decode cX1_takeBack 48 = .ok (.iconst 1, 1) := by decide +kernel
theorem dX1_takeBack_49 : decode cX1_takeBack 49 = .ok (.ireturn, 1) := by decide +kernel
theorem dX2_init_0 : decode cX2_init 0 = .ok (.aload_n 0, 1) := by decide +kernel
theorem dX2_init_1 : decode cX2_init 1 = .ok (.invokespecial 1, 3) := by decide +kernel
theorem dX2_init_4 : decode cX2_init 4 = .ok (.aload_n 0, 1) := by decide +kernel
theorem dX2_init_5 : decode cX2_init 5 = .ok (.sipush 400, 3) := by decide +kernel
theorem dX2_init_8 : decode cX2_init 8 = .ok (.newarray .int, 2) := by decide +kernel
theorem dX2_init_10 : decode cX2_init 10 = .ok (.putfield 9, 3) := by decide +kernel
theorem dX2_init_13 : decode cX2_init 13 = .ok (.aload_n 0, 1) := by decide +kernel
theorem dX2_init_14 : decode cX2_init 14 = .ok (.sipush 400, 3) := by decide +kernel
theorem dX2_init_17 : decode cX2_init 17 = .ok (.newarray .int, 2) := by decide +kernel
theorem dX2_init_19 : decode cX2_init 19 = .ok (.putfield 15, 3) := by decide +kernel
theorem dX2_init_22 : decode cX2_init 22 = .ok (.aload_n 0, 1) := by decide +kernel
theorem dX2_init_23 : decode cX2_init 23 = .ok (.bipush 13, 2) := by decide +kernel
theorem dX2_init_25 : decode cX2_init 25 = .ok (.newarray .int, 2) := by decide +kernel
theorem dX2_init_27 : decode cX2_init 27 = .ok (.putfield 18, 3) := by decide +kernel
theorem dX2_init_30 : decode cX2_init 30 = .ok (.aload_n 0, 1) := by decide +kernel
theorem dX2_init_31 : decode cX2_init 31 = .ok (.bipush 11, 2) := by decide +kernel
theorem dX2_init_33 : decode cX2_init 33 = .ok (.newarray .int, 2) := by decide +kernel
theorem dX2_init_35 : decode cX2_init 35 = .ok (.putfield 21, 3) := by decide +kernel
theorem dX2_init_38 : decode cX2_init 38 = .ok (.aload_n 0, 1) := by decide +kernel
theorem dX2_init_39 : decode cX2_init 39 = .ok (.bipush 16, 2) := by decide +kernel
theorem dX2_init_41 : decode cX2_init 41 = .ok (.newarray .int, 2) := by decide +kernel
theorem dX2_init_43 : decode cX2_init 43 = .ok (.putfield 24, 3) := by decide +kernel
theorem dX2_init_46 : decode cX2_init 46 = .ok (.return_, 1) := by decide +kernel
theorem dX2_clear_0 : decode cX2_clear 0 = .ok (.aload_n 0, 1) := by decide +kernel
theorem dX2_clear_1 : decode cX2_clear 1 = .ok (.iconst 0, 1) := by decide +kernel
theorem dX2_clear_2 : decode cX2_clear 2 = .ok (.putfield 27, 3) := by decide +kernel
theorem dX2_clear_5 : decode cX2_clear 5 = .ok (.aload_n 0, 1) := by decide +kernel
theorem dX2_clear_6 : decode cX2_clear 6 = .ok (.iconst 0, 1) := by decide +kernel
theorem dX2_clear_7 : decode cX2_clear 7 = .ok (.putfield 31, 3) := by decide +kernel
theorem dX2_clear_10 : decode cX2_clear 10 = .ok (.return_, 1) := by decide +kernel
theorem dX2_add_0 : decode cX2_add 0 = .ok (.aload_n 0, 1) := by decide +kernel
theorem dX2_add_1 : decode cX2_add 1 = .ok (.getfield 27, 3) := by decide +kernel
theorem dX2_add_4 : decode cX2_add 4 = .ok (.aload_n 0, 1) := by decide +kernel
theorem dX2_add_5 : decode cX2_add 5 = .ok (.getfield 9, 3) := by decide +kernel
theorem dX2_add_8 : decode cX2_add 8 = .ok (.arraylength, 1) := by decide +kernel
theorem dX2_add_9 : decode cX2_add 9 = .ok (.if_icmp .ge 33, 3) := by decide +kernel
theorem dX2_add_12 : decode cX2_add 12 = .ok (.aload_n 0, 1) := by decide +kernel
theorem dX2_add_13 : decode cX2_add 13 = .ok (.getfield 9, 3) := by decide +kernel
theorem dX2_add_16 : decode cX2_add 16 = .ok (.aload_n 0, 1) := by decide +kernel
theorem dX2_add_17 : decode cX2_add 17 = .ok (.getfield 27, 3) := by decide +kernel
theorem dX2_add_20 : decode cX2_add 20 = .ok (.iload_n 1, 1) := by decide +kernel
theorem dX2_add_21 : decode cX2_add 21 = .ok (.iastore, 1) := by decide +kernel
theorem dX2_add_22 : decode cX2_add 22 = .ok (.aload_n 0, 1) := by decide +kernel
theorem dX2_add_23 : decode cX2_add 23 = .ok (.getfield 15, 3) := by decide +kernel
theorem dX2_add_26 : decode cX2_add 26 = .ok (.aload_n 0, 1) := by decide +kernel
theorem dX2_add_27 : decode cX2_add 27 = .ok (.getfield 27, 3) := by decide +kernel
theorem dX2_add_30 : decode cX2_add 30 = .ok (.iload_n 2, 1) := by decide +kernel
theorem dX2_add_31 : decode cX2_add 31 = .ok (.iastore, 1) := by decide +kernel
theorem dX2_add_32 : decode cX2_add 32 = .ok (.aload_n 0, 1) := by decide +kernel
theorem dX2_add_33 : decode cX2_add 33 = .ok (.dup, 1) := by decide +kernel
theorem dX2_add_34 : decode cX2_add 34 = .ok (.getfield 27, 3) := by decide +kernel
theorem dX2_add_37 : decode cX2_add 37 = .ok (.iconst 1, 1) := by decide +kernel
theorem dX2_add_38 : decode cX2_add 38 = .ok (.iadd, 1) := by decide +kernel
theorem dX2_add_39 : decode cX2_add 39 = .ok (.putfield 27, 3) := by decide +kernel
theorem dX2_add_42 : decode cX2_add 42 = .ok (.return_, 1) := by decide +kernel
theorem dX2_endPiece_0 : decode cX2_endPiece 0 = .ok (.aload_n 0, 1) := by decide +kernel
theorem dX2_endPiece_1 : decode cX2_endPiece 1 = .ok (.getfield 31, 3) := by decide +kernel
theorem dX2_endPiece_4 : decode cX2_endPiece 4 = .ok (.aload_n 0, 1) := by decide +kernel
theorem dX2_endPiece_5 : decode cX2_endPiece 5 = .ok (.getfield 18, 3) := by decide +kernel
theorem dX2_endPiece_8 : decode cX2_endPiece 8 = .ok (.arraylength, 1) := by decide +kernel
theorem dX2_endPiece_9 : decode cX2_endPiece 9 = .ok (.if_icmp .ge 26, 3) := by decide +kernel
theorem dX2_endPiece_12 : decode cX2_endPiece 12 = .ok (.aload_n 0, 1) := by decide +kernel
theorem dX2_endPiece_13 : decode cX2_endPiece 13 = .ok (.getfield 18, 3) := by decide +kernel
theorem dX2_endPiece_16 : decode cX2_endPiece 16 = .ok (.aload_n 0, 1) := by decide +kernel
theorem dX2_endPiece_17 : decode cX2_endPiece 17 = .ok (.getfield 31, 3) := by decide +kernel
theorem dX2_endPiece_20 : decode cX2_endPiece 20 = .ok (.aload_n 0, 1) := by decide +kernel
theorem dX2_endPiece_21 : decode cX2_endPiece 21 = .ok (.getfield 27, 3) := by decide +kernel
theorem dX2_endPiece_24 : decode cX2_endPiece 24 = .ok (.iastore, 1) := by decide +kernel
theorem dX2_endPiece_25 : decode cX2_endPiece 25 = .ok (.aload_n 0, 1) := by decide +kernel
theorem dX2_endPiece_26 : decode cX2_endPiece 26 = .ok (.dup, 1) := by decide +kernel
theorem dX2_endPiece_27 : decode cX2_endPiece 27 = .ok (.getfield 31, 3) := by decide +kernel
theorem dX2_endPiece_30 : decode cX2_endPiece 30 = .ok (.iconst 1, 1) := by decide +kernel
theorem dX2_endPiece_31 : decode cX2_endPiece 31 = .ok (.iadd, 1) := by decide +kernel
theorem dX2_endPiece_32 : decode cX2_endPiece 32 = .ok (.putfield 31, 3) := by decide +kernel
theorem dX2_endPiece_35 : decode cX2_endPiece 35 = .ok (.return_, 1) := by decide +kernel
theorem dX2_fillUntold_0 : decode cX2_fillUntold 0 = .ok (.aload_n 0, 1) := by decide +kernel
theorem dX2_fillUntold_1 : decode cX2_fillUntold 1 = .ok (.getfield 31, 3) := by decide +kernel
theorem dX2_fillUntold_4 : decode cX2_fillUntold 4 = .ok (.ifCond .ne 13, 3) := by decide +kernel
theorem dX2_fillUntold_7 : decode cX2_fillUntold 7 = .ok (.aload_n 0, 1) := by decide +kernel
theorem dX2_fillUntold_8 : decode cX2_fillUntold 8 = .ok (.iconst 0, 1) := by decide +kernel
theorem dX2_fillUntold_9 : decode cX2_fillUntold 9 = .ok (.iload_n 1, 1) := by decide +kernel
theorem dX2_fillUntold_10 : decode cX2_fillUntold 10 = .ok (.invokevirtual 34, 3) := by decide +kernel
theorem dX2_fillUntold_13 : decode cX2_fillUntold 13 = .ok (.aload_n 0, 1) := by decide +kernel
theorem dX2_fillUntold_14 : decode cX2_fillUntold 14 = .ok (.invokevirtual 38, 3) := by decide +kernel
theorem dX2_fillUntold_17 : decode cX2_fillUntold 17 = .ok (.return_, 1) := by decide +kernel
theorem dX2_set_0 : decode cX2_set 0 = .ok (.iload_n 1, 1) := by decide +kernel
theorem dX2_set_1 : decode cX2_set 1 = .ok (.ifCond .lt 19, 3) := by decide +kernel
theorem dX2_set_4 : decode cX2_set 4 = .ok (.iload_n 1, 1) := by decide +kernel
theorem dX2_set_5 : decode cX2_set 5 = .ok (.aload_n 0, 1) := by decide +kernel
theorem dX2_set_6 : decode cX2_set 6 = .ok (.getfield 21, 3) := by decide +kernel
theorem dX2_set_9 : decode cX2_set 9 = .ok (.arraylength, 1) := by decide +kernel
theorem dX2_set_10 : decode cX2_set 10 = .ok (.if_icmp .ge 10, 3) := by decide +kernel
theorem dX2_set_13 : decode cX2_set 13 = .ok (.aload_n 0, 1) := by decide +kernel
theorem dX2_set_14 : decode cX2_set 14 = .ok (.getfield 21, 3) := by decide +kernel
theorem dX2_set_17 : decode cX2_set 17 = .ok (.iload_n 1, 1) := by decide +kernel
theorem dX2_set_18 : decode cX2_set 18 = .ok (.iload_n 2, 1) := by decide +kernel
theorem dX2_set_19 : decode cX2_set 19 = .ok (.iastore, 1) := by decide +kernel
theorem dX2_set_20 : decode cX2_set 20 = .ok (.return_, 1) := by decide +kernel
theorem dX2_tells_0 : decode cX2_tells 0 = .ok (.aload_n 0, 1) := by decide +kernel
theorem dX2_tells_1 : decode cX2_tells 1 = .ok (.iconst 0, 1) := by decide +kernel
theorem dX2_tells_2 : decode cX2_tells 2 = .ok (.putfield 41, 3) := by decide +kernel
theorem dX2_tells_5 : decode cX2_tells 5 = .ok (.iconst 0, 1) := by decide +kernel
theorem dX2_tells_6 : decode cX2_tells 6 = .ok (.istore_n 1, 1) := by decide +kernel
theorem dX2_tells_7 : decode cX2_tells 7 = .ok (.iload_n 1, 1) := by decide +kernel
theorem dX2_tells_8 : decode cX2_tells 8 = .ok (.iconst 3, 1) := by decide +kernel
theorem dX2_tells_9 : decode cX2_tells 9 = .ok (.iadd, 1) := by decide +kernel
theorem dX2_tells_10 : decode cX2_tells 10 = .ok (.aload_n 0, 1) := by decide +kernel
theorem dX2_tells_11 : decode cX2_tells 11 = .ok (.getfield 31, 3) := by decide +kernel
theorem dX2_tells_14 : decode cX2_tells 14 = .ok (.if_icmp .ge 64, 3) := by decide +kernel
theorem dX2_tells_17 : decode cX2_tells 17 = .ok (.aload_n 0, 1) := by decide +kernel
theorem dX2_tells_18 : decode cX2_tells 18 = .ok (.iload_n 1, 1) := by decide +kernel
theorem dX2_tells_19 : decode cX2_tells 19 = .ok (.invokevirtual 45, 3) := by decide +kernel
theorem dX2_tells_22 : decode cX2_tells 22 = .ok (.aload_n 0, 1) := by decide +kernel
theorem dX2_tells_23 : decode cX2_tells 23 = .ok (.iload_n 1, 1) := by decide +kernel
theorem dX2_tells_24 : decode cX2_tells 24 = .ok (.iconst 1, 1) := by decide +kernel
theorem dX2_tells_25 : decode cX2_tells 25 = .ok (.iadd, 1) := by decide +kernel
theorem dX2_tells_26 : decode cX2_tells 26 = .ok (.invokevirtual 45, 3) := by decide +kernel
theorem dX2_tells_29 : decode cX2_tells 29 = .ok (.if_icmp .ge 7, 3) := by decide +kernel
theorem dX2_tells_32 : decode cX2_tells 32 = .ok (.iconst 1, 1) := by decide +kernel
theorem dX2_tells_33 : decode cX2_tells 33 = .ok (.goto 4, 3) := by decide +kernel
theorem dX2_tells_36 : decode cX2_tells 36 = .ok (.iconst 0, 1) := by decide +kernel
theorem dX2_tells_37 : decode cX2_tells 37 = .ok (.istore_n 2, 1) := by decide +kernel
theorem dX2_tells_38 : decode cX2_tells 38 = .ok (.aload_n 0, 1) := by decide +kernel
theorem dX2_tells_39 : decode cX2_tells 39 = .ok (.getfield 41, 3) := by decide +kernel
theorem dX2_tells_42 : decode cX2_tells 42 = .ok (.ifCond .eq 5, 3) := by decide +kernel
theorem dX2_tells_45 : decode cX2_tells 45 = .ok (.iconst 0, 1) := by decide +kernel
theorem dX2_tells_46 : decode cX2_tells 46 = .ok (.ireturn, 1) := by decide +kernel
theorem dX2_tells_47 : decode cX2_tells 47 = .ok (.iload_n 2, 1) := by decide +kernel
theorem dX2_tells_48 : decode cX2_tells 48 = .ok (.ifCond .eq 24, 3) := by decide +kernel
theorem dX2_tells_51 : decode cX2_tells 51 = .ok (.aload_n 0, 1) := by decide +kernel
theorem dX2_tells_52 : decode cX2_tells 52 = .ok (.iload_n 1, 1) := by decide +kernel
theorem dX2_tells_53 : decode cX2_tells 53 = .ok (.iconst 2, 1) := by decide +kernel
theorem dX2_tells_54 : decode cX2_tells 54 = .ok (.iadd, 1) := by decide +kernel
theorem dX2_tells_55 : decode cX2_tells 55 = .ok (.invokevirtual 45, 3) := by decide +kernel
theorem dX2_tells_58 : decode cX2_tells 58 = .ok (.istore_n 3, 1) := by decide +kernel
theorem dX2_tells_59 : decode cX2_tells 59 = .ok (.aload_n 0, 1) := by decide +kernel
theorem dX2_tells_60 : decode cX2_tells 60 = .ok (.getfield 41, 3) := by decide +kernel
theorem dX2_tells_63 : decode cX2_tells 63 = .ok (.ifCond .eq 7, 3) := by decide +kernel
theorem dX2_tells_66 : decode cX2_tells 66 = .ok (.iconst 0, 1) := by decide +kernel
theorem dX2_tells_67 : decode cX2_tells 67 = .ok (.goto 4, 3) := by decide +kernel
theorem dX2_tells_70 : decode cX2_tells 70 = .ok (.iload_n 3, 1) := by decide +kernel
theorem dX2_tells_71 : decode cX2_tells 71 = .ok (.ireturn, 1) := by decide +kernel
theorem dX2_tells_72 : decode cX2_tells 72 = .ok (.iinc 1 3, 3) := by decide +kernel
theorem dX2_tells_75 : decode cX2_tells 75 = .ok (.goto (-68), 3) := by decide +kernel
theorem dX2_tells_78 : decode cX2_tells 78 = .ok (.aload_n 0, 1) := by decide +kernel
theorem dX2_tells_79 : decode cX2_tells 79 = .ok (.aload_n 0, 1) := by decide +kernel
theorem dX2_tells_80 : decode cX2_tells 80 = .ok (.getfield 31, 3) := by decide +kernel
theorem dX2_tells_83 : decode cX2_tells 83 = .ok (.iconst 1, 1) := by decide +kernel
theorem dX2_tells_84 : decode cX2_tells 84 = .ok (.isub, 1) := by decide +kernel
theorem dX2_tells_85 : decode cX2_tells 85 = .ok (.invokevirtual 45, 3) := by decide +kernel
theorem dX2_tells_88 : decode cX2_tells 88 = .ok (.istore_n 1, 1) := by decide +kernel
theorem dX2_tells_89 : decode cX2_tells 89 = .ok (.aload_n 0, 1) := by decide +kernel
theorem dX2_tells_90 : decode cX2_tells 90 = .ok (.getfield 41, 3) := by decide +kernel
theorem dX2_tells_93 : decode cX2_tells 93 = .ok (.ifCond .eq 7, 3) := by decide +kernel
theorem dX2_tells_96 : decode cX2_tells 96 = .ok (.iconst 0, 1) := by decide +kernel
theorem dX2_tells_97 : decode cX2_tells 97 = .ok (.goto 4, 3) := by decide +kernel
theorem dX2_tells_100 : decode cX2_tells 100 = .ok (.iload_n 1, 1) := by decide +kernel
theorem dX2_tells_101 : decode cX2_tells 101 = .ok (.ireturn, 1) := by decide +kernel
theorem dX2_worth_0 : decode cX2_worth 0 = .ok (.iload_n 1, 1) := by decide +kernel
theorem dX2_worth_1 : decode cX2_worth 1 = .ok (.ifCond .lt 20, 3) := by decide +kernel
theorem dX2_worth_4 : decode cX2_worth 4 = .ok (.iload_n 1, 1) := by decide +kernel
theorem dX2_worth_5 : decode cX2_worth 5 = .ok (.aload_n 0, 1) := by decide +kernel
theorem dX2_worth_6 : decode cX2_worth 6 = .ok (.getfield 31, 3) := by decide +kernel
theorem dX2_worth_9 : decode cX2_worth 9 = .ok (.if_icmp .ge 12, 3) := by decide +kernel
theorem dX2_worth_12 : decode cX2_worth 12 = .ok (.iload_n 1, 1) := by decide +kernel
theorem dX2_worth_13 : decode cX2_worth 13 = .ok (.aload_n 0, 1) := by decide +kernel
theorem dX2_worth_14 : decode cX2_worth 14 = .ok (.getfield 18, 3) := by decide +kernel
theorem dX2_worth_17 : decode cX2_worth 17 = .ok (.arraylength, 1) := by decide +kernel
theorem dX2_worth_18 : decode cX2_worth 18 = .ok (.if_icmp .lt 5, 3) := by decide +kernel
theorem dX2_worth_21 : decode cX2_worth 21 = .ok (.iconst 0, 1) := by decide +kernel
theorem dX2_worth_22 : decode cX2_worth 22 = .ok (.ireturn, 1) := by decide +kernel
theorem dX2_worth_23 : decode cX2_worth 23 = .ok (.iconst 0, 1) := by decide +kernel
theorem dX2_worth_24 : decode cX2_worth 24 = .ok (.istore_n 2, 1) := by decide +kernel
theorem dX2_worth_25 : decode cX2_worth 25 = .ok (.iload_n 1, 1) := by decide +kernel
theorem dX2_worth_26 : decode cX2_worth 26 = .ok (.ifCond .ne 7, 3) := by decide +kernel
theorem dX2_worth_29 : decode cX2_worth 29 = .ok (.iconst 0, 1) := by decide +kernel
theorem dX2_worth_30 : decode cX2_worth 30 = .ok (.goto 11, 3) := by decide +kernel
theorem dX2_worth_33 : decode cX2_worth 33 = .ok (.aload_n 0, 1) := by decide +kernel
theorem dX2_worth_34 : decode cX2_worth 34 = .ok (.getfield 18, 3) := by decide +kernel
theorem dX2_worth_37 : decode cX2_worth 37 = .ok (.iload_n 1, 1) := by decide +kernel
theorem dX2_worth_38 : decode cX2_worth 38 = .ok (.iconst 1, 1) := by decide +kernel
theorem dX2_worth_39 : decode cX2_worth 39 = .ok (.isub, 1) := by decide +kernel
theorem dX2_worth_40 : decode cX2_worth 40 = .ok (.iaload, 1) := by decide +kernel
theorem dX2_worth_41 : decode cX2_worth 41 = .ok (.istore_n 3, 1) := by decide +kernel
theorem dX2_worth_42 : decode cX2_worth 42 = .ok (.iload_n 3, 1) := by decide +kernel
theorem dX2_worth_43 : decode cX2_worth 43 = .ok (.aload_n 0, 1) := by decide +kernel
theorem dX2_worth_44 : decode cX2_worth 44 = .ok (.getfield 18, 3) := by decide +kernel
theorem dX2_worth_47 : decode cX2_worth 47 = .ok (.iload_n 1, 1) := by decide +kernel
theorem dX2_worth_48 : decode cX2_worth 48 = .ok (.iaload, 1) := by decide +kernel
theorem dX2_worth_49 : decode cX2_worth 49 = .ok (.if_icmp .ge 118, 3) := by decide +kernel
theorem dX2_worth_52 : decode cX2_worth 52 = .ok (.aload_n 0, 1) := by decide +kernel
theorem dX2_worth_53 : decode cX2_worth 53 = .ok (.getfield 9, 3) := by decide +kernel
theorem dX2_worth_56 : decode cX2_worth 56 = .ok (.iload_n 3, 1) := by decide +kernel
theorem dX2_worth_57 : decode cX2_worth 57 = .ok (.iaload, 1) := by decide +kernel
theorem dX2_worth_58 : decode cX2_worth 58 = .ok (.ifCond .eq 13, 3) := by decide +kernel
theorem dX2_worth_61 : decode cX2_worth 61 = .ok (.aload_n 0, 1) := by decide +kernel
theorem dX2_worth_62 : decode cX2_worth 62 = .ok (.getfield 9, 3) := by decide +kernel
theorem dX2_worth_65 : decode cX2_worth 65 = .ok (.iload_n 3, 1) := by decide +kernel
theorem dX2_worth_66 : decode cX2_worth 66 = .ok (.iaload, 1) := by decide +kernel
theorem dX2_worth_67 : decode cX2_worth 67 = .ok (.iconst 1, 1) := by decide +kernel
theorem dX2_worth_68 : decode cX2_worth 68 = .ok (.if_icmp .ne 53, 3) := by decide +kernel
theorem dX2_worth_71 : decode cX2_worth 71 = .ok (.iload_n 2, 1) := by decide +kernel
theorem dX2_worth_72 : decode cX2_worth 72 = .ok (.aload_n 0, 1) := by decide +kernel
theorem dX2_worth_73 : decode cX2_worth 73 = .ok (.getfield 24, 3) := by decide +kernel
theorem dX2_worth_76 : decode cX2_worth 76 = .ok (.arraylength, 1) := by decide +kernel
theorem dX2_worth_77 : decode cX2_worth 77 = .ok (.if_icmp .ge 84, 3) := by decide +kernel
theorem dX2_worth_80 : decode cX2_worth 80 = .ok (.aload_n 0, 1) := by decide +kernel
theorem dX2_worth_81 : decode cX2_worth 81 = .ok (.getfield 24, 3) := by decide +kernel
theorem dX2_worth_84 : decode cX2_worth 84 = .ok (.iload_n 2, 1) := by decide +kernel
theorem dX2_worth_85 : decode cX2_worth 85 = .ok (.aload_n 0, 1) := by decide +kernel
theorem dX2_worth_86 : decode cX2_worth 86 = .ok (.getfield 9, 3) := by decide +kernel
theorem dX2_worth_89 : decode cX2_worth 89 = .ok (.iload_n 3, 1) := by decide +kernel
theorem dX2_worth_90 : decode cX2_worth 90 = .ok (.iaload, 1) := by decide +kernel
theorem dX2_worth_91 : decode cX2_worth 91 = .ok (.ifCond .ne 12, 3) := by decide +kernel
theorem dX2_worth_94 : decode cX2_worth 94 = .ok (.aload_n 0, 1) := by decide +kernel
theorem dX2_worth_95 : decode cX2_worth 95 = .ok (.getfield 15, 3) := by decide +kernel
theorem dX2_worth_98 : decode cX2_worth 98 = .ok (.iload_n 3, 1) := by decide +kernel
theorem dX2_worth_99 : decode cX2_worth 99 = .ok (.iaload, 1) := by decide +kernel
theorem dX2_worth_100 : decode cX2_worth 100 = .ok (.goto 14, 3) := by decide +kernel
theorem dX2_worth_103 : decode cX2_worth 103 = .ok (.aload_n 0, 1) := by decide +kernel
theorem dX2_worth_104 : decode cX2_worth 104 = .ok (.getfield 21, 3) := by decide +kernel
theorem dX2_worth_107 : decode cX2_worth 107 = .ok (.aload_n 0, 1) := by decide +kernel
theorem dX2_worth_108 : decode cX2_worth 108 = .ok (.getfield 15, 3) := by decide +kernel
theorem dX2_worth_111 : decode cX2_worth 111 = .ok (.iload_n 3, 1) := by decide +kernel
theorem dX2_worth_112 : decode cX2_worth 112 = .ok (.iaload, 1) := by decide +kernel
theorem dX2_worth_113 : decode cX2_worth 113 = .ok (.iaload, 1) := by decide +kernel
theorem dX2_worth_114 : decode cX2_worth 114 = .ok (.iastore, 1) := by decide +kernel
theorem dX2_worth_115 : decode cX2_worth 115 = .ok (.iinc 2 1, 3) := by decide +kernel
theorem dX2_worth_118 : decode cX2_worth 118 = .ok (.goto 43, 3) := by decide +kernel
theorem dX2_worth_121 : decode cX2_worth 121 = .ok (.iload_n 2, 1) := by decide +kernel
theorem dX2_worth_122 : decode cX2_worth 122 = .ok (.iconst 2, 1) := by decide +kernel
theorem dX2_worth_123 : decode cX2_worth 123 = .ok (.if_icmp .lt 38, 3) := by decide +kernel
theorem dX2_worth_126 : decode cX2_worth 126 = .ok (.iinc 2 (-1), 3) := by decide +kernel
theorem dX2_worth_129 : decode cX2_worth 129 = .ok (.aload_n 0, 1) := by decide +kernel
theorem dX2_worth_130 : decode cX2_worth 130 = .ok (.getfield 24, 3) := by decide +kernel
theorem dX2_worth_133 : decode cX2_worth 133 = .ok (.iload_n 2, 1) := by decide +kernel
theorem dX2_worth_134 : decode cX2_worth 134 = .ok (.iconst 1, 1) := by decide +kernel
theorem dX2_worth_135 : decode cX2_worth 135 = .ok (.isub, 1) := by decide +kernel
theorem dX2_worth_136 : decode cX2_worth 136 = .ok (.aload_n 0, 1) := by decide +kernel
theorem dX2_worth_137 : decode cX2_worth 137 = .ok (.aload_n 0, 1) := by decide +kernel
theorem dX2_worth_138 : decode cX2_worth 138 = .ok (.getfield 9, 3) := by decide +kernel
theorem dX2_worth_141 : decode cX2_worth 141 = .ok (.iload_n 3, 1) := by decide +kernel
theorem dX2_worth_142 : decode cX2_worth 142 = .ok (.iaload, 1) := by decide +kernel
theorem dX2_worth_143 : decode cX2_worth 143 = .ok (.aload_n 0, 1) := by decide +kernel
theorem dX2_worth_144 : decode cX2_worth 144 = .ok (.getfield 24, 3) := by decide +kernel
theorem dX2_worth_147 : decode cX2_worth 147 = .ok (.iload_n 2, 1) := by decide +kernel
theorem dX2_worth_148 : decode cX2_worth 148 = .ok (.iconst 1, 1) := by decide +kernel
theorem dX2_worth_149 : decode cX2_worth 149 = .ok (.isub, 1) := by decide +kernel
theorem dX2_worth_150 : decode cX2_worth 150 = .ok (.iaload, 1) := by decide +kernel
theorem dX2_worth_151 : decode cX2_worth 151 = .ok (.aload_n 0, 1) := by decide +kernel
theorem dX2_worth_152 : decode cX2_worth 152 = .ok (.getfield 24, 3) := by decide +kernel
theorem dX2_worth_155 : decode cX2_worth 155 = .ok (.iload_n 2, 1) := by decide +kernel
theorem dX2_worth_156 : decode cX2_worth 156 = .ok (.iaload, 1) := by decide +kernel
theorem dX2_worth_157 : decode cX2_worth 157 = .ok (.invokevirtual 49, 3) := by decide +kernel
theorem dX2_worth_160 : decode cX2_worth 160 = .ok (.iastore, 1) := by decide +kernel
theorem dX2_worth_161 : decode cX2_worth 161 = .ok (.iinc 3 1, 3) := by decide +kernel
theorem dX2_worth_164 : decode cX2_worth 164 = .ok (.goto (-122), 3) := by decide +kernel
theorem dX2_worth_167 : decode cX2_worth 167 = .ok (.iload_n 2, 1) := by decide +kernel
theorem dX2_worth_168 : decode cX2_worth 168 = .ok (.iconst 1, 1) := by decide +kernel
theorem dX2_worth_169 : decode cX2_worth 169 = .ok (.if_icmp .ne 12, 3) := by decide +kernel
theorem dX2_worth_172 : decode cX2_worth 172 = .ok (.aload_n 0, 1) := by decide +kernel
theorem dX2_worth_173 : decode cX2_worth 173 = .ok (.getfield 24, 3) := by decide +kernel
theorem dX2_worth_176 : decode cX2_worth 176 = .ok (.iconst 0, 1) := by decide +kernel
theorem dX2_worth_177 : decode cX2_worth 177 = .ok (.iaload, 1) := by decide +kernel
theorem dX2_worth_178 : decode cX2_worth 178 = .ok (.goto 4, 3) := by decide +kernel
theorem dX2_worth_181 : decode cX2_worth 181 = .ok (.iconst 0, 1) := by decide +kernel
theorem dX2_worth_182 : decode cX2_worth 182 = .ok (.ireturn, 1) := by decide +kernel
theorem dX2_joined_0 : decode cX2_joined 0 = .ok (.iload_n 1, 1) := by decide +kernel
theorem dX2_joined_1 : decode cX2_joined 1 = .ok (.tableswitch 43 42 45 #[39, 31, 43, 35], 31) := by decide +kernel
theorem dX2_joined_32 : decode cX2_joined 32 = .ok (.iload_n 2, 1) := by decide +kernel
theorem dX2_joined_33 : decode cX2_joined 33 = .ok (.iload_n 3, 1) := by decide +kernel
theorem dX2_joined_34 : decode cX2_joined 34 = .ok (.iadd, 1) := by decide +kernel
theorem dX2_joined_35 : decode cX2_joined 35 = .ok (.ireturn, 1) := by decide +kernel
theorem dX2_joined_36 : decode cX2_joined 36 = .ok (.iload_n 2, 1) := by decide +kernel
theorem dX2_joined_37 : decode cX2_joined 37 = .ok (.iload_n 3, 1) := by decide +kernel
theorem dX2_joined_38 : decode cX2_joined 38 = .ok (.isub, 1) := by decide +kernel
theorem dX2_joined_39 : decode cX2_joined 39 = .ok (.ireturn, 1) := by decide +kernel
theorem dX2_joined_40 : decode cX2_joined 40 = .ok (.iload_n 2, 1) := by decide +kernel
theorem dX2_joined_41 : decode cX2_joined 41 = .ok (.iload_n 3, 1) := by decide +kernel
theorem dX2_joined_42 : decode cX2_joined 42 = .ok (.imul, 1) := by decide +kernel
theorem dX2_joined_43 : decode cX2_joined 43 = .ok (.ireturn, 1) := by decide +kernel
theorem dX2_joined_44 : decode cX2_joined 44 = .ok (.iload_n 3, 1) := by decide +kernel
theorem dX2_joined_45 : decode cX2_joined 45 = .ok (.ifCond .ne 10, 3) := by decide +kernel
theorem dX2_joined_48 : decode cX2_joined 48 = .ok (.aload_n 0, 1) := by decide +kernel
theorem dX2_joined_49 : decode cX2_joined 49 = .ok (.iconst 1, 1) := by decide +kernel
theorem dX2_joined_50 : decode cX2_joined 50 = .ok (.putfield 41, 3) := by decide +kernel
theorem dX2_joined_53 : decode cX2_joined 53 = .ok (.iconst 0, 1) := by decide +kernel
theorem dX2_joined_54 : decode cX2_joined 54 = .ok (.ireturn, 1) := by decide +kernel
theorem dX2_joined_55 : decode cX2_joined 55 = .ok (.iload_n 2, 1) := by decide +kernel
theorem dX2_joined_56 : decode cX2_joined 56 = .ok (.iload_n 3, 1) := by decide +kernel
theorem dX2_joined_57 : decode cX2_joined 57 = .ok (.idiv, 1) := by decide +kernel
theorem dX2_joined_58 : decode cX2_joined 58 = .ok (.ireturn, 1) := by decide +kernel
theorem dX3_init_0 : decode cX3_init 0 = .ok (.aload_n 0, 1) := by decide +kernel
theorem dX3_init_1 : decode cX3_init 1 = .ok (.invokespecial 3, 3) := by decide +kernel
theorem dX3_init_4 : decode cX3_init 4 = .ok (.aload_n 0, 1) := by decide +kernel
theorem dX3_init_5 : decode cX3_init 5 = .ok (.bipush 15, 2) := by decide +kernel
theorem dX3_init_7 : decode cX3_init 7 = .ok (.newarray .int, 2) := by decide +kernel
theorem dX3_init_9 : decode cX3_init 9 = .ok (.putfield 9, 3) := by decide +kernel
theorem dX3_init_12 : decode cX3_init 12 = .ok (.aload_n 0, 1) := by decide +kernel
theorem dX3_init_13 : decode cX3_init 13 = .ok (.aload_n 1, 1) := by decide +kernel
theorem dX3_init_14 : decode cX3_init 14 = .ok (.putfield 15, 3) := by decide +kernel
theorem dX3_init_17 : decode cX3_init 17 = .ok (.return_, 1) := by decide +kernel
theorem dX3_parse_0 : decode cX3_parse 0 = .ok (.aload_n 0, 1) := by decide +kernel
theorem dX3_parse_1 : decode cX3_parse 1 = .ok (.iconst 0, 1) := by decide +kernel
theorem dX3_parse_2 : decode cX3_parse 2 = .ok (.putfield 19, 3) := by decide +kernel
theorem dX3_parse_5 : decode cX3_parse 5 = .ok (.aload_n 0, 1) := by decide +kernel
theorem dX3_parse_6 : decode cX3_parse 6 = .ok (.iconst 0, 1) := by decide +kernel
theorem dX3_parse_7 : decode cX3_parse 7 = .ok (.putfield 23, 3) := by decide +kernel
theorem dX3_parse_10 : decode cX3_parse 10 = .ok (.aload_n 0, 1) := by decide +kernel
theorem dX3_parse_11 : decode cX3_parse 11 = .ok (.iconst 0, 1) := by decide +kernel
theorem dX3_parse_12 : decode cX3_parse 12 = .ok (.putfield 26, 3) := by decide +kernel
theorem dX3_parse_15 : decode cX3_parse 15 = .ok (.aload_n 0, 1) := by decide +kernel
theorem dX3_parse_16 : decode cX3_parse 16 = .ok (.iconst (-1), 1) := by decide +kernel
theorem dX3_parse_17 : decode cX3_parse 17 = .ok (.putfield 29, 3) := by decide +kernel
theorem dX3_parse_20 : decode cX3_parse 20 = .ok (.aload_n 0, 1) := by decide +kernel
theorem dX3_parse_21 : decode cX3_parse 21 = .ok (.iconst 0, 1) := by decide +kernel
theorem dX3_parse_22 : decode cX3_parse 22 = .ok (.putfield 32, 3) := by decide +kernel
theorem dX3_parse_25 : decode cX3_parse 25 = .ok (.aload_n 0, 1) := by decide +kernel
theorem dX3_parse_26 : decode cX3_parse 26 = .ok (.iconst (-1), 1) := by decide +kernel
theorem dX3_parse_27 : decode cX3_parse 27 = .ok (.putfield 35, 3) := by decide +kernel
theorem dX3_parse_30 : decode cX3_parse 30 = .ok (.aload_n 1, 1) := by decide +kernel
theorem dX3_parse_31 : decode cX3_parse 31 = .ok (.invokevirtual 38, 3) := by decide +kernel
theorem dX3_parse_34 : decode cX3_parse 34 = .ok (.iconst 1, 1) := by decide +kernel
theorem dX3_parse_35 : decode cX3_parse 35 = .ok (.istore_n 2, 1) := by decide +kernel
theorem dX3_parse_36 : decode cX3_parse 36 = .ok (.iconst 0, 1) := by decide +kernel
theorem dX3_parse_37 : decode cX3_parse 37 = .ok (.istore_n 3, 1) := by decide +kernel
theorem dX3_parse_38 : decode cX3_parse 38 = .ok (.iload_n 3, 1) := by decide +kernel
theorem dX3_parse_39 : decode cX3_parse 39 = .ok (.sipush 400, 3) := by decide +kernel
theorem dX3_parse_42 : decode cX3_parse 42 = .ok (.if_icmp .gt 34, 3) := by decide +kernel
theorem dX3_parse_45 : decode cX3_parse 45 = .ok (.iload_n 2, 1) := by decide +kernel
theorem dX3_parse_46 : decode cX3_parse 46 = .ok (.ifCond .eq 30, 3) := by decide +kernel
theorem dX3_parse_49 : decode cX3_parse 49 = .ok (.aload_n 0, 1) := by decide +kernel
theorem dX3_parse_50 : decode cX3_parse 50 = .ok (.getfield 15, 3) := by decide +kernel
theorem dX3_parse_53 : decode cX3_parse 53 = .ok (.getfield 45, 3) := by decide +kernel
theorem dX3_parse_56 : decode cX3_parse 56 = .ok (.aload_n 0, 1) := by decide +kernel
theorem dX3_parse_57 : decode cX3_parse 57 = .ok (.getfield 19, 3) := by decide +kernel
theorem dX3_parse_60 : decode cX3_parse 60 = .ok (.iaload, 1) := by decide +kernel
theorem dX3_parse_61 : decode cX3_parse 61 = .ok (.ifCond .eq 15, 3) := by decide +kernel
theorem dX3_parse_64 : decode cX3_parse 64 = .ok (.aload_n 0, 1) := by decide +kernel
theorem dX3_parse_65 : decode cX3_parse 65 = .ok (.aload_n 1, 1) := by decide +kernel
theorem dX3_parse_66 : decode cX3_parse 66 = .ok (.invokevirtual 48, 3) := by decide +kernel
theorem dX3_parse_69 : decode cX3_parse 69 = .ok (.istore_n 2, 1) := by decide +kernel
theorem dX3_parse_70 : decode cX3_parse 70 = .ok (.iinc 3 1, 3) := by decide +kernel
theorem dX3_parse_73 : decode cX3_parse 73 = .ok (.goto (-35), 3) := by decide +kernel
theorem dX3_parse_76 : decode cX3_parse 76 = .ok (.iload_n 2, 1) := by decide +kernel
theorem dX3_parse_77 : decode cX3_parse 77 = .ok (.ifCond .eq 23, 3) := by decide +kernel
theorem dX3_parse_80 : decode cX3_parse 80 = .ok (.aload_n 0, 1) := by decide +kernel
theorem dX3_parse_81 : decode cX3_parse 81 = .ok (.aload_n 0, 1) := by decide +kernel
theorem dX3_parse_82 : decode cX3_parse 82 = .ok (.getfield 32, 3) := by decide +kernel
theorem dX3_parse_85 : decode cX3_parse 85 = .ok (.putfield 26, 3) := by decide +kernel
theorem dX3_parse_88 : decode cX3_parse 88 = .ok (.aload_n 0, 1) := by decide +kernel
theorem dX3_parse_89 : decode cX3_parse 89 = .ok (.aload_n 0, 1) := by decide +kernel
theorem dX3_parse_90 : decode cX3_parse 90 = .ok (.getfield 35, 3) := by decide +kernel
theorem dX3_parse_93 : decode cX3_parse 93 = .ok (.putfield 29, 3) := by decide +kernel
theorem dX3_parse_96 : decode cX3_parse 96 = .ok (.aload_n 1, 1) := by decide +kernel
theorem dX3_parse_97 : decode cX3_parse 97 = .ok (.invokevirtual 52, 3) := by decide +kernel
theorem dX3_parse_100 : decode cX3_parse 100 = .ok (.aload_n 0, 1) := by decide +kernel
theorem dX3_parse_101 : decode cX3_parse 101 = .ok (.getfield 26, 3) := by decide +kernel
theorem dX3_parse_104 : decode cX3_parse 104 = .ok (.ireturn, 1) := by decide +kernel
theorem dX3_readTell_0 : decode cX3_readTell 0 = .ok (.aload_n 0, 1) := by decide +kernel
theorem dX3_readTell_1 : decode cX3_readTell 1 = .ok (.getfield 15, 3) := by decide +kernel
theorem dX3_readTell_4 : decode cX3_readTell 4 = .ok (.getfield 45, 3) := by decide +kernel
theorem dX3_readTell_7 : decode cX3_readTell 7 = .ok (.aload_n 0, 1) := by decide +kernel
theorem dX3_readTell_8 : decode cX3_readTell 8 = .ok (.getfield 19, 3) := by decide +kernel
theorem dX3_readTell_11 : decode cX3_readTell 11 = .ok (.iaload, 1) := by decide +kernel
theorem dX3_readTell_12 : decode cX3_readTell 12 = .ok (.istore_n 2, 1) := by decide +kernel
theorem dX3_readTell_13 : decode cX3_readTell 13 = .ok (.iload_n 2, 1) := by decide +kernel
theorem dX3_readTell_14 : decode cX3_readTell 14 = .ok (.sipush 128, 3) := by decide +kernel
theorem dX3_readTell_17 : decode cX3_readTell 17 = .ok (.if_icmp .lt 10, 3) := by decide +kernel
theorem dX3_readTell_20 : decode cX3_readTell 20 = .ok (.iload_n 2, 1) := by decide +kernel
theorem dX3_readTell_21 : decode cX3_readTell 21 = .ok (.sipush 142, 3) := by decide +kernel
theorem dX3_readTell_24 : decode cX3_readTell 24 = .ok (.if_icmp .le 9, 3) := by decide +kernel
theorem dX3_readTell_27 : decode cX3_readTell 27 = .ok (.aload_n 0, 1) := by decide +kernel
theorem dX3_readTell_28 : decode cX3_readTell 28 = .ok (.iconst 1, 1) := by decide +kernel
theorem dX3_readTell_29 : decode cX3_readTell 29 = .ok (.invokevirtual 55, 3) := by decide +kernel
theorem dX3_readTell_32 : decode cX3_readTell 32 = .ok (.ireturn, 1) := by decide +kernel
theorem dX3_readTell_33 : decode cX3_readTell 33 = .ok (.aload_n 1, 1) := by decide +kernel
theorem dX3_readTell_34 : decode cX3_readTell 34 = .ok (.getfield 59, 3) := by decide +kernel
theorem dX3_readTell_37 : decode cX3_readTell 37 = .ok (.iload_n 2, 1) := by decide +kernel
theorem dX3_readTell_38 : decode cX3_readTell 38 = .ok (.invokevirtual 63, 3) := by decide +kernel
theorem dX3_readTell_41 : decode cX3_readTell 41 = .ok (.ifCond .eq 9, 3) := by decide +kernel
theorem dX3_readTell_44 : decode cX3_readTell 44 = .ok (.aload_n 0, 1) := by decide +kernel
theorem dX3_readTell_45 : decode cX3_readTell 45 = .ok (.iconst 2, 1) := by decide +kernel
theorem dX3_readTell_46 : decode cX3_readTell 46 = .ok (.invokevirtual 55, 3) := by decide +kernel
theorem dX3_readTell_49 : decode cX3_readTell 49 = .ok (.ireturn, 1) := by decide +kernel
theorem dX3_readTell_50 : decode cX3_readTell 50 = .ok (.aload_n 0, 1) := by decide +kernel
theorem dX3_readTell_51 : decode cX3_readTell 51 = .ok (.iload_n 2, 1) := by decide +kernel
theorem dX3_readTell_52 : decode cX3_readTell 52 = .ok (.invokevirtual 68, 3) := by decide +kernel
theorem dX3_readTell_55 : decode cX3_readTell 55 = .ok (.ifCond .ne 5, 3) := by decide +kernel
theorem dX3_readTell_58 : decode cX3_readTell 58 = .ok (.iconst 0, 1) := by decide +kernel
theorem dX3_readTell_59 : decode cX3_readTell 59 = .ok (.ireturn, 1) := by decide +kernel
theorem dX3_readTell_60 : decode cX3_readTell 60 = .ok (.iload_n 2, 1) := by decide +kernel
theorem dX3_readTell_61 : decode cX3_readTell 61 = .ok (.tableswitch 156 128 136 #[51, 60, 72, 84, 96, 108, 120, 132, 144], 51) := by decide +kernel
theorem dX3_readTell_112 : decode cX3_readTell 112 = .ok (.aload_n 0, 1) := by decide +kernel
theorem dX3_readTell_113 : decode cX3_readTell 113 = .ok (.aload_n 1, 1) := by decide +kernel
theorem dX3_readTell_114 : decode cX3_readTell 114 = .ok (.invokevirtual 71, 3) := by decide +kernel
theorem dX3_readTell_117 : decode cX3_readTell 117 = .ok (.istore_n 3, 1) := by decide +kernel
theorem dX3_readTell_118 : decode cX3_readTell 118 = .ok (.goto 106, 3) := by decide +kernel
theorem dX3_readTell_121 : decode cX3_readTell 121 = .ok (.aload_n 0, 1) := by decide +kernel
theorem dX3_readTell_122 : decode cX3_readTell 122 = .ok (.aload_n 1, 1) := by decide +kernel
theorem dX3_readTell_123 : decode cX3_readTell 123 = .ok (.getfield 74, 3) := by decide +kernel
theorem dX3_readTell_126 : decode cX3_readTell 126 = .ok (.invokevirtual 78, 3) := by decide +kernel
theorem dX3_readTell_129 : decode cX3_readTell 129 = .ok (.istore_n 3, 1) := by decide +kernel
theorem dX3_readTell_130 : decode cX3_readTell 130 = .ok (.goto 94, 3) := by decide +kernel
theorem dX3_readTell_133 : decode cX3_readTell 133 = .ok (.aload_n 0, 1) := by decide +kernel
theorem dX3_readTell_134 : decode cX3_readTell 134 = .ok (.aload_n 1, 1) := by decide +kernel
theorem dX3_readTell_135 : decode cX3_readTell 135 = .ok (.getfield 82, 3) := by decide +kernel
theorem dX3_readTell_138 : decode cX3_readTell 138 = .ok (.invokevirtual 78, 3) := by decide +kernel
theorem dX3_readTell_141 : decode cX3_readTell 141 = .ok (.istore_n 3, 1) := by decide +kernel
theorem dX3_readTell_142 : decode cX3_readTell 142 = .ok (.goto 82, 3) := by decide +kernel
theorem dX3_readTell_145 : decode cX3_readTell 145 = .ok (.aload_n 0, 1) := by decide +kernel
theorem dX3_readTell_146 : decode cX3_readTell 146 = .ok (.aload_n 1, 1) := by decide +kernel
theorem dX3_readTell_147 : decode cX3_readTell 147 = .ok (.getfield 85, 3) := by decide +kernel
theorem dX3_readTell_150 : decode cX3_readTell 150 = .ok (.invokevirtual 78, 3) := by decide +kernel
theorem dX3_readTell_153 : decode cX3_readTell 153 = .ok (.istore_n 3, 1) := by decide +kernel
theorem dX3_readTell_154 : decode cX3_readTell 154 = .ok (.goto 70, 3) := by decide +kernel
theorem dX3_readTell_157 : decode cX3_readTell 157 = .ok (.aload_n 0, 1) := by decide +kernel
theorem dX3_readTell_158 : decode cX3_readTell 158 = .ok (.aload_n 1, 1) := by decide +kernel
theorem dX3_readTell_159 : decode cX3_readTell 159 = .ok (.getfield 88, 3) := by decide +kernel
theorem dX3_readTell_162 : decode cX3_readTell 162 = .ok (.invokevirtual 78, 3) := by decide +kernel
theorem dX3_readTell_165 : decode cX3_readTell 165 = .ok (.istore_n 3, 1) := by decide +kernel
theorem dX3_readTell_166 : decode cX3_readTell 166 = .ok (.goto 58, 3) := by decide +kernel
theorem dX3_readTell_169 : decode cX3_readTell 169 = .ok (.aload_n 0, 1) := by decide +kernel
theorem dX3_readTell_170 : decode cX3_readTell 170 = .ok (.aload_n 1, 1) := by decide +kernel
theorem dX3_readTell_171 : decode cX3_readTell 171 = .ok (.getfield 91, 3) := by decide +kernel
theorem dX3_readTell_174 : decode cX3_readTell 174 = .ok (.invokevirtual 78, 3) := by decide +kernel
theorem dX3_readTell_177 : decode cX3_readTell 177 = .ok (.istore_n 3, 1) := by decide +kernel
theorem dX3_readTell_178 : decode cX3_readTell 178 = .ok (.goto 46, 3) := by decide +kernel
theorem dX3_readTell_181 : decode cX3_readTell 181 = .ok (.aload_n 0, 1) := by decide +kernel
theorem dX3_readTell_182 : decode cX3_readTell 182 = .ok (.aload_n 1, 1) := by decide +kernel
theorem dX3_readTell_183 : decode cX3_readTell 183 = .ok (.getfield 94, 3) := by decide +kernel
theorem dX3_readTell_186 : decode cX3_readTell 186 = .ok (.invokevirtual 97, 3) := by decide +kernel
theorem dX3_readTell_189 : decode cX3_readTell 189 = .ok (.istore_n 3, 1) := by decide +kernel
theorem dX3_readTell_190 : decode cX3_readTell 190 = .ok (.goto 34, 3) := by decide +kernel
theorem dX3_readTell_193 : decode cX3_readTell 193 = .ok (.aload_n 0, 1) := by decide +kernel
theorem dX3_readTell_194 : decode cX3_readTell 194 = .ok (.aload_n 1, 1) := by decide +kernel
theorem dX3_readTell_195 : decode cX3_readTell 195 = .ok (.getfield 59, 3) := by decide +kernel
theorem dX3_readTell_198 : decode cX3_readTell 198 = .ok (.invokevirtual 101, 3) := by decide +kernel
theorem dX3_readTell_201 : decode cX3_readTell 201 = .ok (.istore_n 3, 1) := by decide +kernel
theorem dX3_readTell_202 : decode cX3_readTell 202 = .ok (.goto 22, 3) := by decide +kernel
theorem dX3_readTell_205 : decode cX3_readTell 205 = .ok (.aload_n 0, 1) := by decide +kernel
theorem dX3_readTell_206 : decode cX3_readTell 206 = .ok (.aload_n 1, 1) := by decide +kernel
theorem dX3_readTell_207 : decode cX3_readTell 207 = .ok (.getfield 59, 3) := by decide +kernel
theorem dX3_readTell_210 : decode cX3_readTell 210 = .ok (.invokevirtual 105, 3) := by decide +kernel
theorem dX3_readTell_213 : decode cX3_readTell 213 = .ok (.istore_n 3, 1) := by decide +kernel
theorem dX3_readTell_214 : decode cX3_readTell 214 = .ok (.goto 10, 3) := by decide +kernel
theorem dX3_readTell_217 : decode cX3_readTell 217 = .ok (.aload_n 0, 1) := by decide +kernel
theorem dX3_readTell_218 : decode cX3_readTell 218 = .ok (.iload_n 2, 1) := by decide +kernel
theorem dX3_readTell_219 : decode cX3_readTell 219 = .ok (.aload_n 1, 1) := by decide +kernel
theorem dX3_readTell_220 : decode cX3_readTell 220 = .ok (.invokevirtual 108, 3) := by decide +kernel
theorem dX3_readTell_223 : decode cX3_readTell 223 = .ok (.istore_n 3, 1) := by decide +kernel
theorem dX3_readTell_224 : decode cX3_readTell 224 = .ok (.iload_n 3, 1) := by decide +kernel
theorem dX3_readTell_225 : decode cX3_readTell 225 = .ok (.ifCond .eq 16, 3) := by decide +kernel
theorem dX3_readTell_228 : decode cX3_readTell 228 = .ok (.aload_n 0, 1) := by decide +kernel
theorem dX3_readTell_229 : decode cX3_readTell 229 = .ok (.bipush 59, 2) := by decide +kernel
theorem dX3_readTell_231 : decode cX3_readTell 231 = .ok (.invokevirtual 68, 3) := by decide +kernel
theorem dX3_readTell_234 : decode cX3_readTell 234 = .ok (.ifCond .eq 7, 3) := by decide +kernel
theorem dX3_readTell_237 : decode cX3_readTell 237 = .ok (.iconst 1, 1) := by decide +kernel
theorem dX3_readTell_238 : decode cX3_readTell 238 = .ok (.goto 4, 3) := by decide +kernel
theorem dX3_readTell_241 : decode cX3_readTell 241 = .ok (.iconst 0, 1) := by decide +kernel
theorem dX3_readTell_242 : decode cX3_readTell 242 = .ok (.ireturn, 1) := by decide +kernel
theorem dX3_readHill_0 : decode cX3_readHill 0 = .ok (.aload_n 0, 1) := by decide +kernel
theorem dX3_readHill_1 : decode cX3_readHill 1 = .ok (.bipush 100, 2) := by decide +kernel
theorem dX3_readHill_3 : decode cX3_readHill 3 = .ok (.sipush 2500, 3) := by decide +kernel
theorem dX3_readHill_6 : decode cX3_readHill 6 = .ok (.invokevirtual 112, 3) := by decide +kernel
theorem dX3_readHill_9 : decode cX3_readHill 9 = .ok (.istore_n 2, 1) := by decide +kernel
theorem dX3_readHill_10 : decode cX3_readHill 10 = .ok (.aload_n 1, 1) := by decide +kernel
theorem dX3_readHill_11 : decode cX3_readHill 11 = .ok (.aload_n 0, 1) := by decide +kernel
theorem dX3_readHill_12 : decode cX3_readHill 12 = .ok (.getfield 116, 3) := by decide +kernel
theorem dX3_readHill_15 : decode cX3_readHill 15 = .ok (.putfield 119, 3) := by decide +kernel
theorem dX3_readHill_18 : decode cX3_readHill 18 = .ok (.iload_n 2, 1) := by decide +kernel
theorem dX3_readHill_19 : decode cX3_readHill 19 = .ok (.ifCond .eq 19, 3) := by decide +kernel
theorem dX3_readHill_22 : decode cX3_readHill 22 = .ok (.aload_n 0, 1) := by decide +kernel
theorem dX3_readHill_23 : decode cX3_readHill 23 = .ok (.bipush 100, 2) := by decide +kernel
theorem dX3_readHill_25 : decode cX3_readHill 25 = .ok (.sipush 2500, 3) := by decide +kernel
theorem dX3_readHill_28 : decode cX3_readHill 28 = .ok (.invokevirtual 112, 3) := by decide +kernel
theorem dX3_readHill_31 : decode cX3_readHill 31 = .ok (.ifCond .eq 7, 3) := by decide +kernel
theorem dX3_readHill_34 : decode cX3_readHill 34 = .ok (.iconst 1, 1) := by decide +kernel
theorem dX3_readHill_35 : decode cX3_readHill 35 = .ok (.goto 4, 3) := by decide +kernel
theorem dX3_readHill_38 : decode cX3_readHill 38 = .ok (.iconst 0, 1) := by decide +kernel
theorem dX3_readHill_39 : decode cX3_readHill 39 = .ok (.istore_n 2, 1) := by decide +kernel
theorem dX3_readHill_40 : decode cX3_readHill 40 = .ok (.aload_n 1, 1) := by decide +kernel
theorem dX3_readHill_41 : decode cX3_readHill 41 = .ok (.aload_n 0, 1) := by decide +kernel
theorem dX3_readHill_42 : decode cX3_readHill 42 = .ok (.getfield 116, 3) := by decide +kernel
theorem dX3_readHill_45 : decode cX3_readHill 45 = .ok (.putfield 122, 3) := by decide +kernel
theorem dX3_readHill_48 : decode cX3_readHill 48 = .ok (.iload_n 2, 1) := by decide +kernel
theorem dX3_readHill_49 : decode cX3_readHill 49 = .ok (.ifCond .eq 17, 3) := by decide +kernel
theorem dX3_readHill_52 : decode cX3_readHill 52 = .ok (.aload_n 0, 1) := by decide +kernel
theorem dX3_readHill_53 : decode cX3_readHill 53 = .ok (.iconst 0, 1) := by decide +kernel
theorem dX3_readHill_54 : decode cX3_readHill 54 = .ok (.bipush 99, 2) := by decide +kernel
theorem dX3_readHill_56 : decode cX3_readHill 56 = .ok (.invokevirtual 112, 3) := by decide +kernel
theorem dX3_readHill_59 : decode cX3_readHill 59 = .ok (.ifCond .eq 7, 3) := by decide +kernel
theorem dX3_readHill_62 : decode cX3_readHill 62 = .ok (.iconst 1, 1) := by decide +kernel
theorem dX3_readHill_63 : decode cX3_readHill 63 = .ok (.goto 4, 3) := by decide +kernel
theorem dX3_readHill_66 : decode cX3_readHill 66 = .ok (.iconst 0, 1) := by decide +kernel
theorem dX3_readHill_67 : decode cX3_readHill 67 = .ok (.istore_n 2, 1) := by decide +kernel
theorem dX3_readHill_68 : decode cX3_readHill 68 = .ok (.aload_n 1, 1) := by decide +kernel
theorem dX3_readHill_69 : decode cX3_readHill 69 = .ok (.aload_n 0, 1) := by decide +kernel
theorem dX3_readHill_70 : decode cX3_readHill 70 = .ok (.getfield 116, 3) := by decide +kernel
theorem dX3_readHill_73 : decode cX3_readHill 73 = .ok (.putfield 125, 3) := by decide +kernel
theorem dX3_readHill_76 : decode cX3_readHill 76 = .ok (.iload_n 2, 1) := by decide +kernel
theorem dX3_readHill_77 : decode cX3_readHill 77 = .ok (.ireturn, 1) := by decide +kernel
theorem dX3_readParts_0 : decode cX3_readParts 0 = .ok (.iconst 1, 1) := by decide +kernel
theorem dX3_readParts_1 : decode cX3_readParts 1 = .ok (.istore_n 2, 1) := by decide +kernel
theorem dX3_readParts_2 : decode cX3_readParts 2 = .ok (.iconst 0, 1) := by decide +kernel
theorem dX3_readParts_3 : decode cX3_readParts 3 = .ok (.istore_n 3, 1) := by decide +kernel
theorem dX3_readParts_4 : decode cX3_readParts 4 = .ok (.iload_n 3, 1) := by decide +kernel
theorem dX3_readParts_5 : decode cX3_readParts 5 = .ok (.aload_n 1, 1) := by decide +kernel
theorem dX3_readParts_6 : decode cX3_readParts 6 = .ok (.arraylength, 1) := by decide +kernel
theorem dX3_readParts_7 : decode cX3_readParts 7 = .ok (.if_icmp .ge 28, 3) := by decide +kernel
theorem dX3_readParts_10 : decode cX3_readParts 10 = .ok (.iload_n 2, 1) := by decide +kernel
theorem dX3_readParts_11 : decode cX3_readParts 11 = .ok (.ifCond .eq 24, 3) := by decide +kernel
theorem dX3_readParts_14 : decode cX3_readParts 14 = .ok (.aload_n 0, 1) := by decide +kernel
theorem dX3_readParts_15 : decode cX3_readParts 15 = .ok (.iconst 0, 1) := by decide +kernel
theorem dX3_readParts_16 : decode cX3_readParts 16 = .ok (.bipush 9, 2) := by decide +kernel
theorem dX3_readParts_18 : decode cX3_readParts 18 = .ok (.invokevirtual 112, 3) := by decide +kernel
theorem dX3_readParts_21 : decode cX3_readParts 21 = .ok (.istore_n 2, 1) := by decide +kernel
theorem dX3_readParts_22 : decode cX3_readParts 22 = .ok (.aload_n 1, 1) := by decide +kernel
theorem dX3_readParts_23 : decode cX3_readParts 23 = .ok (.iload_n 3, 1) := by decide +kernel
theorem dX3_readParts_24 : decode cX3_readParts 24 = .ok (.aload_n 0, 1) := by decide +kernel
theorem dX3_readParts_25 : decode cX3_readParts 25 = .ok (.getfield 116, 3) := by decide +kernel
theorem dX3_readParts_28 : decode cX3_readParts 28 = .ok (.iastore, 1) := by decide +kernel
theorem dX3_readParts_29 : decode cX3_readParts 29 = .ok (.iinc 3 1, 3) := by decide +kernel
theorem dX3_readParts_32 : decode cX3_readParts 32 = .ok (.goto (-28), 3) := by decide +kernel
theorem dX3_readParts_35 : decode cX3_readParts 35 = .ok (.iload_n 2, 1) := by decide +kernel
theorem dX3_readParts_36 : decode cX3_readParts 36 = .ok (.ireturn, 1) := by decide +kernel
theorem dX3_readMan_0 : decode cX3_readMan 0 = .ok (.aload_n 0, 1) := by decide +kernel
theorem dX3_readMan_1 : decode cX3_readMan 1 = .ok (.invokevirtual 128, 3) := by decide +kernel
theorem dX3_readMan_4 : decode cX3_readMan 4 = .ok (.ifCond .eq 18, 3) := by decide +kernel
theorem dX3_readMan_7 : decode cX3_readMan 7 = .ok (.aload_n 0, 1) := by decide +kernel
theorem dX3_readMan_8 : decode cX3_readMan 8 = .ok (.bipush 30, 2) := by decide +kernel
theorem dX3_readMan_10 : decode cX3_readMan 10 = .ok (.bipush 120, 2) := by decide +kernel
theorem dX3_readMan_12 : decode cX3_readMan 12 = .ok (.invokevirtual 112, 3) := by decide +kernel
theorem dX3_readMan_15 : decode cX3_readMan 15 = .ok (.ifCond .eq 7, 3) := by decide +kernel
theorem dX3_readMan_18 : decode cX3_readMan 18 = .ok (.iconst 1, 1) := by decide +kernel
theorem dX3_readMan_19 : decode cX3_readMan 19 = .ok (.goto 4, 3) := by decide +kernel
theorem dX3_readMan_22 : decode cX3_readMan 22 = .ok (.iconst 0, 1) := by decide +kernel
theorem dX3_readMan_23 : decode cX3_readMan 23 = .ok (.istore_n 2, 1) := by decide +kernel
theorem dX3_readMan_24 : decode cX3_readMan 24 = .ok (.aload_n 0, 1) := by decide +kernel
theorem dX3_readMan_25 : decode cX3_readMan 25 = .ok (.getfield 116, 3) := by decide +kernel
theorem dX3_readMan_28 : decode cX3_readMan 28 = .ok (.istore_n 3, 1) := by decide +kernel
theorem dX3_readMan_29 : decode cX3_readMan 29 = .ok (.iload_n 2, 1) := by decide +kernel
theorem dX3_readMan_30 : decode cX3_readMan 30 = .ok (.ifCond .eq 19, 3) := by decide +kernel
theorem dX3_readMan_33 : decode cX3_readMan 33 = .ok (.aload_n 0, 1) := by decide +kernel
theorem dX3_readMan_34 : decode cX3_readMan 34 = .ok (.bipush 100, 2) := by decide +kernel
theorem dX3_readMan_36 : decode cX3_readMan 36 = .ok (.sipush 300, 3) := by decide +kernel
theorem dX3_readMan_39 : decode cX3_readMan 39 = .ok (.invokevirtual 112, 3) := by decide +kernel
theorem dX3_readMan_42 : decode cX3_readMan 42 = .ok (.ifCond .eq 7, 3) := by decide +kernel
theorem dX3_readMan_45 : decode cX3_readMan 45 = .ok (.iconst 1, 1) := by decide +kernel
theorem dX3_readMan_46 : decode cX3_readMan 46 = .ok (.goto 4, 3) := by decide +kernel
theorem dX3_readMan_49 : decode cX3_readMan 49 = .ok (.iconst 0, 1) := by decide +kernel
theorem dX3_readMan_50 : decode cX3_readMan 50 = .ok (.istore_n 2, 1) := by decide +kernel
theorem dX3_readMan_51 : decode cX3_readMan 51 = .ok (.aload_n 0, 1) := by decide +kernel
theorem dX3_readMan_52 : decode cX3_readMan 52 = .ok (.getfield 116, 3) := by decide +kernel
theorem dX3_readMan_55 : decode cX3_readMan 55 = .ok (.istore 4, 2) := by decide +kernel
theorem dX3_readMan_57 : decode cX3_readMan 57 = .ok (.iload_n 2, 1) := by decide +kernel
theorem dX3_readMan_58 : decode cX3_readMan 58 = .ok (.ifCond .eq 17, 3) := by decide +kernel
theorem dX3_readMan_61 : decode cX3_readMan 61 = .ok (.aload_n 0, 1) := by decide +kernel
theorem dX3_readMan_62 : decode cX3_readMan 62 = .ok (.iconst 0, 1) := by decide +kernel
theorem dX3_readMan_63 : decode cX3_readMan 63 = .ok (.bipush 9, 2) := by decide +kernel
theorem dX3_readMan_65 : decode cX3_readMan 65 = .ok (.invokevirtual 112, 3) := by decide +kernel
theorem dX3_readMan_68 : decode cX3_readMan 68 = .ok (.ifCond .eq 7, 3) := by decide +kernel
theorem dX3_readMan_71 : decode cX3_readMan 71 = .ok (.iconst 1, 1) := by decide +kernel
theorem dX3_readMan_72 : decode cX3_readMan 72 = .ok (.goto 4, 3) := by decide +kernel
theorem dX3_readMan_75 : decode cX3_readMan 75 = .ok (.iconst 0, 1) := by decide +kernel
theorem dX3_readMan_76 : decode cX3_readMan 76 = .ok (.istore_n 2, 1) := by decide +kernel
theorem dX3_readMan_77 : decode cX3_readMan 77 = .ok (.aload_n 0, 1) := by decide +kernel
theorem dX3_readMan_78 : decode cX3_readMan 78 = .ok (.getfield 116, 3) := by decide +kernel
theorem dX3_readMan_81 : decode cX3_readMan 81 = .ok (.istore 5, 2) := by decide +kernel
theorem dX3_readMan_83 : decode cX3_readMan 83 = .ok (.iload_n 2, 1) := by decide +kernel
theorem dX3_readMan_84 : decode cX3_readMan 84 = .ok (.ifCond .eq 17, 3) := by decide +kernel
theorem dX3_readMan_87 : decode cX3_readMan 87 = .ok (.aload_n 0, 1) := by decide +kernel
theorem dX3_readMan_88 : decode cX3_readMan 88 = .ok (.iconst 0, 1) := by decide +kernel
theorem dX3_readMan_89 : decode cX3_readMan 89 = .ok (.bipush 9, 2) := by decide +kernel
theorem dX3_readMan_91 : decode cX3_readMan 91 = .ok (.invokevirtual 112, 3) := by decide +kernel
theorem dX3_readMan_94 : decode cX3_readMan 94 = .ok (.ifCond .eq 7, 3) := by decide +kernel
theorem dX3_readMan_97 : decode cX3_readMan 97 = .ok (.iconst 1, 1) := by decide +kernel
theorem dX3_readMan_98 : decode cX3_readMan 98 = .ok (.goto 4, 3) := by decide +kernel
theorem dX3_readMan_101 : decode cX3_readMan 101 = .ok (.iconst 0, 1) := by decide +kernel
theorem dX3_readMan_102 : decode cX3_readMan 102 = .ok (.istore_n 2, 1) := by decide +kernel
theorem dX3_readMan_103 : decode cX3_readMan 103 = .ok (.aload_n 1, 1) := by decide +kernel
theorem dX3_readMan_104 : decode cX3_readMan 104 = .ok (.iload_n 3, 1) := by decide +kernel
theorem dX3_readMan_105 : decode cX3_readMan 105 = .ok (.iload 4, 2) := by decide +kernel
theorem dX3_readMan_107 : decode cX3_readMan 107 = .ok (.iload 5, 2) := by decide +kernel
theorem dX3_readMan_109 : decode cX3_readMan 109 = .ok (.aload_n 0, 1) := by decide +kernel
theorem dX3_readMan_110 : decode cX3_readMan 110 = .ok (.getfield 116, 3) := by decide +kernel
theorem dX3_readMan_113 : decode cX3_readMan 113 = .ok (.invokevirtual 132, 3) := by decide +kernel
theorem dX3_readMan_116 : decode cX3_readMan 116 = .ok (.iload_n 2, 1) := by decide +kernel
theorem dX3_readMan_117 : decode cX3_readMan 117 = .ok (.ireturn, 1) := by decide +kernel
theorem dX3_readJudge_0 : decode cX3_readJudge 0 = .ok (.aload_n 0, 1) := by decide +kernel
theorem dX3_readJudge_1 : decode cX3_readJudge 1 = .ok (.invokevirtual 128, 3) := by decide +kernel
theorem dX3_readJudge_4 : decode cX3_readJudge 4 = .ok (.istore_n 2, 1) := by decide +kernel
theorem dX3_readJudge_5 : decode cX3_readJudge 5 = .ok (.iload_n 2, 1) := by decide +kernel
theorem dX3_readJudge_6 : decode cX3_readJudge 6 = .ok (.ifCond .eq 24, 3) := by decide +kernel
theorem dX3_readJudge_9 : decode cX3_readJudge 9 = .ok (.aload_n 0, 1) := by decide +kernel
theorem dX3_readJudge_10 : decode cX3_readJudge 10 = .ok (.getfield 15, 3) := by decide +kernel
theorem dX3_readJudge_13 : decode cX3_readJudge 13 = .ok (.getfield 45, 3) := by decide +kernel
theorem dX3_readJudge_16 : decode cX3_readJudge 16 = .ok (.aload_n 0, 1) := by decide +kernel
theorem dX3_readJudge_17 : decode cX3_readJudge 17 = .ok (.getfield 19, 3) := by decide +kernel
theorem dX3_readJudge_20 : decode cX3_readJudge 20 = .ok (.iaload, 1) := by decide +kernel
theorem dX3_readJudge_21 : decode cX3_readJudge 21 = .ok (.bipush 45, 2) := by decide +kernel
theorem dX3_readJudge_23 : decode cX3_readJudge 23 = .ok (.if_icmp .ne 7, 3) := by decide +kernel
theorem dX3_readJudge_26 : decode cX3_readJudge 26 = .ok (.iconst 1, 1) := by decide +kernel
theorem dX3_readJudge_27 : decode cX3_readJudge 27 = .ok (.goto 4, 3) := by decide +kernel
theorem dX3_readJudge_30 : decode cX3_readJudge 30 = .ok (.iconst 0, 1) := by decide +kernel
theorem dX3_readJudge_31 : decode cX3_readJudge 31 = .ok (.istore_n 3, 1) := by decide +kernel
theorem dX3_readJudge_32 : decode cX3_readJudge 32 = .ok (.iload_n 2, 1) := by decide +kernel
theorem dX3_readJudge_33 : decode cX3_readJudge 33 = .ok (.ifCond .eq 30, 3) := by decide +kernel
theorem dX3_readJudge_36 : decode cX3_readJudge 36 = .ok (.iload_n 3, 1) := by decide +kernel
theorem dX3_readJudge_37 : decode cX3_readJudge 37 = .ok (.ifCond .eq 12, 3) := by decide +kernel
theorem dX3_readJudge_40 : decode cX3_readJudge 40 = .ok (.aload_n 0, 1) := by decide +kernel
theorem dX3_readJudge_41 : decode cX3_readJudge 41 = .ok (.bipush 45, 2) := by decide +kernel
theorem dX3_readJudge_43 : decode cX3_readJudge 43 = .ok (.invokevirtual 68, 3) := by decide +kernel
theorem dX3_readJudge_46 : decode cX3_readJudge 46 = .ok (.ifCond .eq 17, 3) := by decide +kernel
theorem dX3_readJudge_49 : decode cX3_readJudge 49 = .ok (.aload_n 0, 1) := by decide +kernel
theorem dX3_readJudge_50 : decode cX3_readJudge 50 = .ok (.iconst 0, 1) := by decide +kernel
theorem dX3_readJudge_51 : decode cX3_readJudge 51 = .ok (.bipush 9, 2) := by decide +kernel
theorem dX3_readJudge_53 : decode cX3_readJudge 53 = .ok (.invokevirtual 112, 3) := by decide +kernel
theorem dX3_readJudge_56 : decode cX3_readJudge 56 = .ok (.ifCond .eq 7, 3) := by decide +kernel
theorem dX3_readJudge_59 : decode cX3_readJudge 59 = .ok (.iconst 1, 1) := by decide +kernel
theorem dX3_readJudge_60 : decode cX3_readJudge 60 = .ok (.goto 4, 3) := by decide +kernel
theorem dX3_readJudge_63 : decode cX3_readJudge 63 = .ok (.iconst 0, 1) := by decide +kernel
theorem dX3_readJudge_64 : decode cX3_readJudge 64 = .ok (.istore_n 2, 1) := by decide +kernel
theorem dX3_readJudge_65 : decode cX3_readJudge 65 = .ok (.iload_n 3, 1) := by decide +kernel
theorem dX3_readJudge_66 : decode cX3_readJudge 66 = .ok (.ifCond .eq 11, 3) := by decide +kernel
theorem dX3_readJudge_69 : decode cX3_readJudge 69 = .ok (.aload_n 0, 1) := by decide +kernel
theorem dX3_readJudge_70 : decode cX3_readJudge 70 = .ok (.getfield 116, 3) := by decide +kernel
theorem dX3_readJudge_73 : decode cX3_readJudge 73 = .ok (.ineg, 1) := by decide +kernel
theorem dX3_readJudge_74 : decode cX3_readJudge 74 = .ok (.goto 7, 3) := by decide +kernel
theorem dX3_readJudge_77 : decode cX3_readJudge 77 = .ok (.aload_n 0, 1) := by decide +kernel
theorem dX3_readJudge_78 : decode cX3_readJudge 78 = .ok (.getfield 116, 3) := by decide +kernel
theorem dX3_readJudge_81 : decode cX3_readJudge 81 = .ok (.istore 4, 2) := by decide +kernel
theorem dX3_readJudge_83 : decode cX3_readJudge 83 = .ok (.iload_n 2, 1) := by decide +kernel
theorem dX3_readJudge_84 : decode cX3_readJudge 84 = .ok (.ifCond .eq 17, 3) := by decide +kernel
theorem dX3_readJudge_87 : decode cX3_readJudge 87 = .ok (.aload_n 0, 1) := by decide +kernel
theorem dX3_readJudge_88 : decode cX3_readJudge 88 = .ok (.iconst 0, 1) := by decide +kernel
theorem dX3_readJudge_89 : decode cX3_readJudge 89 = .ok (.bipush 9, 2) := by decide +kernel
theorem dX3_readJudge_91 : decode cX3_readJudge 91 = .ok (.invokevirtual 112, 3) := by decide +kernel
theorem dX3_readJudge_94 : decode cX3_readJudge 94 = .ok (.ifCond .eq 7, 3) := by decide +kernel
theorem dX3_readJudge_97 : decode cX3_readJudge 97 = .ok (.iconst 1, 1) := by decide +kernel
theorem dX3_readJudge_98 : decode cX3_readJudge 98 = .ok (.goto 4, 3) := by decide +kernel
theorem dX3_readJudge_101 : decode cX3_readJudge 101 = .ok (.iconst 0, 1) := by decide +kernel
theorem dX3_readJudge_102 : decode cX3_readJudge 102 = .ok (.istore_n 2, 1) := by decide +kernel
theorem dX3_readJudge_103 : decode cX3_readJudge 103 = .ok (.aload_n 1, 1) := by decide +kernel
theorem dX3_readJudge_104 : decode cX3_readJudge 104 = .ok (.iload 4, 2) := by decide +kernel
theorem dX3_readJudge_106 : decode cX3_readJudge 106 = .ok (.aload_n 0, 1) := by decide +kernel
theorem dX3_readJudge_107 : decode cX3_readJudge 107 = .ok (.getfield 116, 3) := by decide +kernel
theorem dX3_readJudge_110 : decode cX3_readJudge 110 = .ok (.invokevirtual 136, 3) := by decide +kernel
theorem dX3_readJudge_113 : decode cX3_readJudge 113 = .ok (.iload_n 2, 1) := by decide +kernel
theorem dX3_readJudge_114 : decode cX3_readJudge 114 = .ok (.ireturn, 1) := by decide +kernel
theorem dX3_readNumbers_0 : decode cX3_readNumbers 0 = .ok (.iload_n 1, 1) := by decide +kernel
theorem dX3_readNumbers_1 : decode cX3_readNumbers 1 = .ok (.tableswitch 182 137 141 #[35, 53, 71, 118, 164], 35) := by decide +kernel
theorem dX3_readNumbers_36 : decode cX3_readNumbers 36 = .ok (.aload_n 0, 1) := by decide +kernel
theorem dX3_readNumbers_37 : decode cX3_readNumbers 37 = .ok (.iconst 0, 1) := by decide +kernel
theorem dX3_readNumbers_38 : decode cX3_readNumbers 38 = .ok (.bipush 99, 2) := by decide +kernel
theorem dX3_readNumbers_40 : decode cX3_readNumbers 40 = .ok (.invokevirtual 112, 3) := by decide +kernel
theorem dX3_readNumbers_43 : decode cX3_readNumbers 43 = .ok (.istore_n 3, 1) := by decide +kernel
theorem dX3_readNumbers_44 : decode cX3_readNumbers 44 = .ok (.aload_n 2, 1) := by decide +kernel
theorem dX3_readNumbers_45 : decode cX3_readNumbers 45 = .ok (.aload_n 0, 1) := by decide +kernel
theorem dX3_readNumbers_46 : decode cX3_readNumbers 46 = .ok (.getfield 116, 3) := by decide +kernel
theorem dX3_readNumbers_49 : decode cX3_readNumbers 49 = .ok (.putfield 140, 3) := by decide +kernel
theorem dX3_readNumbers_52 : decode cX3_readNumbers 52 = .ok (.iload_n 3, 1) := by decide +kernel
theorem dX3_readNumbers_53 : decode cX3_readNumbers 53 = .ok (.ireturn, 1) := by decide +kernel
theorem dX3_readNumbers_54 : decode cX3_readNumbers 54 = .ok (.aload_n 0, 1) := by decide +kernel
theorem dX3_readNumbers_55 : decode cX3_readNumbers 55 = .ok (.iconst 0, 1) := by decide +kernel
theorem dX3_readNumbers_56 : decode cX3_readNumbers 56 = .ok (.bipush 30, 2) := by decide +kernel
theorem dX3_readNumbers_58 : decode cX3_readNumbers 58 = .ok (.invokevirtual 112, 3) := by decide +kernel
theorem dX3_readNumbers_61 : decode cX3_readNumbers 61 = .ok (.istore_n 3, 1) := by decide +kernel
theorem dX3_readNumbers_62 : decode cX3_readNumbers 62 = .ok (.aload_n 2, 1) := by decide +kernel
theorem dX3_readNumbers_63 : decode cX3_readNumbers 63 = .ok (.aload_n 0, 1) := by decide +kernel
theorem dX3_readNumbers_64 : decode cX3_readNumbers 64 = .ok (.getfield 116, 3) := by decide +kernel
theorem dX3_readNumbers_67 : decode cX3_readNumbers 67 = .ok (.putfield 143, 3) := by decide +kernel
theorem dX3_readNumbers_70 : decode cX3_readNumbers 70 = .ok (.iload_n 3, 1) := by decide +kernel
theorem dX3_readNumbers_71 : decode cX3_readNumbers 71 = .ok (.ireturn, 1) := by decide +kernel
theorem dX3_readNumbers_72 : decode cX3_readNumbers 72 = .ok (.aload_n 0, 1) := by decide +kernel
theorem dX3_readNumbers_73 : decode cX3_readNumbers 73 = .ok (.iconst 0, 1) := by decide +kernel
theorem dX3_readNumbers_74 : decode cX3_readNumbers 74 = .ok (.bipush 30, 2) := by decide +kernel
theorem dX3_readNumbers_76 : decode cX3_readNumbers 76 = .ok (.invokevirtual 112, 3) := by decide +kernel
theorem dX3_readNumbers_79 : decode cX3_readNumbers 79 = .ok (.istore_n 3, 1) := by decide +kernel
theorem dX3_readNumbers_80 : decode cX3_readNumbers 80 = .ok (.aload_n 2, 1) := by decide +kernel
theorem dX3_readNumbers_81 : decode cX3_readNumbers 81 = .ok (.aload_n 0, 1) := by decide +kernel
theorem dX3_readNumbers_82 : decode cX3_readNumbers 82 = .ok (.getfield 116, 3) := by decide +kernel
theorem dX3_readNumbers_85 : decode cX3_readNumbers 85 = .ok (.putfield 146, 3) := by decide +kernel
theorem dX3_readNumbers_88 : decode cX3_readNumbers 88 = .ok (.iload_n 3, 1) := by decide +kernel
theorem dX3_readNumbers_89 : decode cX3_readNumbers 89 = .ok (.ifCond .eq 18, 3) := by decide +kernel
theorem dX3_readNumbers_92 : decode cX3_readNumbers 92 = .ok (.aload_n 0, 1) := by decide +kernel
theorem dX3_readNumbers_93 : decode cX3_readNumbers 93 = .ok (.iconst 1, 1) := by decide +kernel
theorem dX3_readNumbers_94 : decode cX3_readNumbers 94 = .ok (.sipush 300, 3) := by decide +kernel
theorem dX3_readNumbers_97 : decode cX3_readNumbers 97 = .ok (.invokevirtual 112, 3) := by decide +kernel
theorem dX3_readNumbers_100 : decode cX3_readNumbers 100 = .ok (.ifCond .eq 7, 3) := by decide +kernel
theorem dX3_readNumbers_103 : decode cX3_readNumbers 103 = .ok (.iconst 1, 1) := by decide +kernel
theorem dX3_readNumbers_104 : decode cX3_readNumbers 104 = .ok (.goto 4, 3) := by decide +kernel
theorem dX3_readNumbers_107 : decode cX3_readNumbers 107 = .ok (.iconst 0, 1) := by decide +kernel
theorem dX3_readNumbers_108 : decode cX3_readNumbers 108 = .ok (.istore_n 3, 1) := by decide +kernel
theorem dX3_readNumbers_109 : decode cX3_readNumbers 109 = .ok (.aload_n 2, 1) := by decide +kernel
theorem dX3_readNumbers_110 : decode cX3_readNumbers 110 = .ok (.aload_n 0, 1) := by decide +kernel
theorem dX3_readNumbers_111 : decode cX3_readNumbers 111 = .ok (.getfield 116, 3) := by decide +kernel
theorem dX3_readNumbers_114 : decode cX3_readNumbers 114 = .ok (.putfield 149, 3) := by decide +kernel
theorem dX3_readNumbers_117 : decode cX3_readNumbers 117 = .ok (.iload_n 3, 1) := by decide +kernel
theorem dX3_readNumbers_118 : decode cX3_readNumbers 118 = .ok (.ireturn, 1) := by decide +kernel
theorem dX3_readNumbers_119 : decode cX3_readNumbers 119 = .ok (.aload_n 0, 1) := by decide +kernel
theorem dX3_readNumbers_120 : decode cX3_readNumbers 120 = .ok (.iconst 0, 1) := by decide +kernel
theorem dX3_readNumbers_121 : decode cX3_readNumbers 121 = .ok (.bipush 40, 2) := by decide +kernel
theorem dX3_readNumbers_123 : decode cX3_readNumbers 123 = .ok (.invokevirtual 112, 3) := by decide +kernel
theorem dX3_readNumbers_126 : decode cX3_readNumbers 126 = .ok (.istore_n 3, 1) := by decide +kernel
theorem dX3_readNumbers_127 : decode cX3_readNumbers 127 = .ok (.aload_n 2, 1) := by decide +kernel
theorem dX3_readNumbers_128 : decode cX3_readNumbers 128 = .ok (.aload_n 0, 1) := by decide +kernel
theorem dX3_readNumbers_129 : decode cX3_readNumbers 129 = .ok (.getfield 116, 3) := by decide +kernel
theorem dX3_readNumbers_132 : decode cX3_readNumbers 132 = .ok (.putfield 152, 3) := by decide +kernel
theorem dX3_readNumbers_135 : decode cX3_readNumbers 135 = .ok (.iload_n 3, 1) := by decide +kernel
theorem dX3_readNumbers_136 : decode cX3_readNumbers 136 = .ok (.ifCond .eq 17, 3) := by decide +kernel
theorem dX3_readNumbers_139 : decode cX3_readNumbers 139 = .ok (.aload_n 0, 1) := by decide +kernel
theorem dX3_readNumbers_140 : decode cX3_readNumbers 140 = .ok (.iconst 0, 1) := by decide +kernel
theorem dX3_readNumbers_141 : decode cX3_readNumbers 141 = .ok (.bipush 99, 2) := by decide +kernel
theorem dX3_readNumbers_143 : decode cX3_readNumbers 143 = .ok (.invokevirtual 112, 3) := by decide +kernel
theorem dX3_readNumbers_146 : decode cX3_readNumbers 146 = .ok (.ifCond .eq 7, 3) := by decide +kernel
theorem dX3_readNumbers_149 : decode cX3_readNumbers 149 = .ok (.iconst 1, 1) := by decide +kernel
theorem dX3_readNumbers_150 : decode cX3_readNumbers 150 = .ok (.goto 4, 3) := by decide +kernel
theorem dX3_readNumbers_153 : decode cX3_readNumbers 153 = .ok (.iconst 0, 1) := by decide +kernel
theorem dX3_readNumbers_154 : decode cX3_readNumbers 154 = .ok (.istore_n 3, 1) := by decide +kernel
theorem dX3_readNumbers_155 : decode cX3_readNumbers 155 = .ok (.aload_n 2, 1) := by decide +kernel
theorem dX3_readNumbers_156 : decode cX3_readNumbers 156 = .ok (.aload_n 0, 1) := by decide +kernel
theorem dX3_readNumbers_157 : decode cX3_readNumbers 157 = .ok (.getfield 116, 3) := by decide +kernel
theorem dX3_readNumbers_160 : decode cX3_readNumbers 160 = .ok (.putfield 155, 3) := by decide +kernel
theorem dX3_readNumbers_163 : decode cX3_readNumbers 163 = .ok (.iload_n 3, 1) := by decide +kernel
theorem dX3_readNumbers_164 : decode cX3_readNumbers 164 = .ok (.ireturn, 1) := by decide +kernel
theorem dX3_readNumbers_165 : decode cX3_readNumbers 165 = .ok (.aload_n 0, 1) := by decide +kernel
theorem dX3_readNumbers_166 : decode cX3_readNumbers 166 = .ok (.iconst 1, 1) := by decide +kernel
theorem dX3_readNumbers_167 : decode cX3_readNumbers 167 = .ok (.bipush 8, 2) := by decide +kernel
theorem dX3_readNumbers_169 : decode cX3_readNumbers 169 = .ok (.invokevirtual 112, 3) := by decide +kernel
theorem dX3_readNumbers_172 : decode cX3_readNumbers 172 = .ok (.istore_n 3, 1) := by decide +kernel
theorem dX3_readNumbers_173 : decode cX3_readNumbers 173 = .ok (.aload_n 2, 1) := by decide +kernel
theorem dX3_readNumbers_174 : decode cX3_readNumbers 174 = .ok (.aload_n 0, 1) := by decide +kernel
theorem dX3_readNumbers_175 : decode cX3_readNumbers 175 = .ok (.getfield 116, 3) := by decide +kernel
theorem dX3_readNumbers_178 : decode cX3_readNumbers 178 = .ok (.putfield 158, 3) := by decide +kernel
theorem dX3_readNumbers_181 : decode cX3_readNumbers 181 = .ok (.iload_n 3, 1) := by decide +kernel
theorem dX3_readNumbers_182 : decode cX3_readNumbers 182 = .ok (.ireturn, 1) := by decide +kernel
theorem dX3_readNumbers_183 : decode cX3_readNumbers 183 = .ok (.aload_n 0, 1) := by decide +kernel
theorem dX3_readNumbers_184 : decode cX3_readNumbers 184 = .ok (.iconst 0, 1) := by decide +kernel
theorem dX3_readNumbers_185 : decode cX3_readNumbers 185 = .ok (.sipush 9999, 3) := by decide +kernel
theorem dX3_readNumbers_188 : decode cX3_readNumbers 188 = .ok (.invokevirtual 112, 3) := by decide +kernel
theorem dX3_readNumbers_191 : decode cX3_readNumbers 191 = .ok (.istore_n 3, 1) := by decide +kernel
theorem dX3_readNumbers_192 : decode cX3_readNumbers 192 = .ok (.aload_n 2, 1) := by decide +kernel
theorem dX3_readNumbers_193 : decode cX3_readNumbers 193 = .ok (.aload_n 0, 1) := by decide +kernel
theorem dX3_readNumbers_194 : decode cX3_readNumbers 194 = .ok (.getfield 116, 3) := by decide +kernel
theorem dX3_readNumbers_197 : decode cX3_readNumbers 197 = .ok (.putfield 161, 3) := by decide +kernel
theorem dX3_readNumbers_200 : decode cX3_readNumbers 200 = .ok (.iload_n 3, 1) := by decide +kernel
theorem dX3_readNumbers_201 : decode cX3_readNumbers 201 = .ok (.ireturn, 1) := by decide +kernel
theorem dX3_readName_0 : decode cX3_readName 0 = .ok (.aload_n 0, 1) := by decide +kernel
theorem dX3_readName_1 : decode cX3_readName 1 = .ok (.getfield 19, 3) := by decide +kernel
theorem dX3_readName_4 : decode cX3_readName 4 = .ok (.istore_n 1, 1) := by decide +kernel
theorem dX3_readName_5 : decode cX3_readName 5 = .ok (.aload_n 0, 1) := by decide +kernel
theorem dX3_readName_6 : decode cX3_readName 6 = .ok (.iconst 2, 1) := by decide +kernel
theorem dX3_readName_7 : decode cX3_readName 7 = .ok (.invokevirtual 68, 3) := by decide +kernel
theorem dX3_readName_10 : decode cX3_readName 10 = .ok (.ifCond .ne 5, 3) := by decide +kernel
theorem dX3_readName_13 : decode cX3_readName 13 = .ok (.iconst 0, 1) := by decide +kernel
theorem dX3_readName_14 : decode cX3_readName 14 = .ok (.ireturn, 1) := by decide +kernel
theorem dX3_readName_15 : decode cX3_readName 15 = .ok (.iconst 0, 1) := by decide +kernel
theorem dX3_readName_16 : decode cX3_readName 16 = .ok (.istore_n 2, 1) := by decide +kernel
theorem dX3_readName_17 : decode cX3_readName 17 = .ok (.iload_n 2, 1) := by decide +kernel
theorem dX3_readName_18 : decode cX3_readName 18 = .ok (.aload_n 0, 1) := by decide +kernel
theorem dX3_readName_19 : decode cX3_readName 19 = .ok (.getfield 23, 3) := by decide +kernel
theorem dX3_readName_22 : decode cX3_readName 22 = .ok (.if_icmp .ge 32, 3) := by decide +kernel
theorem dX3_readName_25 : decode cX3_readName 25 = .ok (.aload_n 0, 1) := by decide +kernel
theorem dX3_readName_26 : decode cX3_readName 26 = .ok (.getfield 15, 3) := by decide +kernel
theorem dX3_readName_29 : decode cX3_readName 29 = .ok (.aload_n 0, 1) := by decide +kernel
theorem dX3_readName_30 : decode cX3_readName 30 = .ok (.getfield 9, 3) := by decide +kernel
theorem dX3_readName_33 : decode cX3_readName 33 = .ok (.iload_n 2, 1) := by decide +kernel
theorem dX3_readName_34 : decode cX3_readName 34 = .ok (.iaload, 1) := by decide +kernel
theorem dX3_readName_35 : decode cX3_readName 35 = .ok (.iload_n 1, 1) := by decide +kernel
theorem dX3_readName_36 : decode cX3_readName 36 = .ok (.invokevirtual 164, 3) := by decide +kernel
theorem dX3_readName_39 : decode cX3_readName 39 = .ok (.ifCond .eq 9, 3) := by decide +kernel
theorem dX3_readName_42 : decode cX3_readName 42 = .ok (.aload_n 0, 1) := by decide +kernel
theorem dX3_readName_43 : decode cX3_readName 43 = .ok (.iconst 3, 1) := by decide +kernel
theorem dX3_readName_44 : decode cX3_readName 44 = .ok (.iload_n 1, 1) := by decide +kernel
theorem dX3_readName_45 : decode cX3_readName 45 = .ok (.invokevirtual 167, 3) := by decide +kernel
theorem dX3_readName_48 : decode cX3_readName 48 = .ok (.iinc 2 1, 3) := by decide +kernel
theorem dX3_readName_51 : decode cX3_readName 51 = .ok (.goto (-34), 3) := by decide +kernel
theorem dX3_readName_54 : decode cX3_readName 54 = .ok (.aload_n 0, 1) := by decide +kernel
theorem dX3_readName_55 : decode cX3_readName 55 = .ok (.getfield 23, 3) := by decide +kernel
theorem dX3_readName_58 : decode cX3_readName 58 = .ok (.aload_n 0, 1) := by decide +kernel
theorem dX3_readName_59 : decode cX3_readName 59 = .ok (.getfield 9, 3) := by decide +kernel
theorem dX3_readName_62 : decode cX3_readName 62 = .ok (.arraylength, 1) := by decide +kernel
theorem dX3_readName_63 : decode cX3_readName 63 = .ok (.if_icmp .ge 23, 3) := by decide +kernel
theorem dX3_readName_66 : decode cX3_readName 66 = .ok (.aload_n 0, 1) := by decide +kernel
theorem dX3_readName_67 : decode cX3_readName 67 = .ok (.getfield 9, 3) := by decide +kernel
theorem dX3_readName_70 : decode cX3_readName 70 = .ok (.aload_n 0, 1) := by decide +kernel
theorem dX3_readName_71 : decode cX3_readName 71 = .ok (.getfield 23, 3) := by decide +kernel
theorem dX3_readName_74 : decode cX3_readName 74 = .ok (.iload_n 1, 1) := by decide +kernel
theorem dX3_readName_75 : decode cX3_readName 75 = .ok (.iastore, 1) := by decide +kernel
theorem dX3_readName_76 : decode cX3_readName 76 = .ok (.aload_n 0, 1) := by decide +kernel
theorem dX3_readName_77 : decode cX3_readName 77 = .ok (.dup, 1) := by decide +kernel
theorem dX3_readName_78 : decode cX3_readName 78 = .ok (.getfield 23, 3) := by decide +kernel
theorem dX3_readName_81 : decode cX3_readName 81 = .ok (.iconst 1, 1) := by decide +kernel
theorem dX3_readName_82 : decode cX3_readName 82 = .ok (.iadd, 1) := by decide +kernel
theorem dX3_readName_83 : decode cX3_readName 83 = .ok (.putfield 23, 3) := by decide +kernel
theorem dX3_readName_86 : decode cX3_readName 86 = .ok (.iconst 1, 1) := by decide +kernel
theorem dX3_readName_87 : decode cX3_readName 87 = .ok (.ireturn, 1) := by decide +kernel
theorem dX3_readInt_0 : decode cX3_readInt 0 = .ok (.aload_n 0, 1) := by decide +kernel
theorem dX3_readInt_1 : decode cX3_readInt 1 = .ok (.getfield 19, 3) := by decide +kernel
theorem dX3_readInt_4 : decode cX3_readInt 4 = .ok (.istore_n 3, 1) := by decide +kernel
theorem dX3_readInt_5 : decode cX3_readInt 5 = .ok (.aload_n 0, 1) := by decide +kernel
theorem dX3_readInt_6 : decode cX3_readInt 6 = .ok (.iconst 3, 1) := by decide +kernel
theorem dX3_readInt_7 : decode cX3_readInt 7 = .ok (.invokevirtual 68, 3) := by decide +kernel
theorem dX3_readInt_10 : decode cX3_readInt 10 = .ok (.ifCond .ne 5, 3) := by decide +kernel
theorem dX3_readInt_13 : decode cX3_readInt 13 = .ok (.iconst 0, 1) := by decide +kernel
theorem dX3_readInt_14 : decode cX3_readInt 14 = .ok (.ireturn, 1) := by decide +kernel
theorem dX3_readInt_15 : decode cX3_readInt 15 = .ok (.aload_n 0, 1) := by decide +kernel
theorem dX3_readInt_16 : decode cX3_readInt 16 = .ok (.aload_n 0, 1) := by decide +kernel
theorem dX3_readInt_17 : decode cX3_readInt 17 = .ok (.getfield 15, 3) := by decide +kernel
theorem dX3_readInt_20 : decode cX3_readInt 20 = .ok (.getfield 170, 3) := by decide +kernel
theorem dX3_readInt_23 : decode cX3_readInt 23 = .ok (.iload_n 3, 1) := by decide +kernel
theorem dX3_readInt_24 : decode cX3_readInt 24 = .ok (.iaload, 1) := by decide +kernel
theorem dX3_readInt_25 : decode cX3_readInt 25 = .ok (.putfield 116, 3) := by decide +kernel
theorem dX3_readInt_28 : decode cX3_readInt 28 = .ok (.aload_n 0, 1) := by decide +kernel
theorem dX3_readInt_29 : decode cX3_readInt 29 = .ok (.getfield 116, 3) := by decide +kernel
theorem dX3_readInt_32 : decode cX3_readInt 32 = .ok (.iload_n 1, 1) := by decide +kernel
theorem dX3_readInt_33 : decode cX3_readInt 33 = .ok (.iload_n 2, 1) := by decide +kernel
theorem dX3_readInt_34 : decode cX3_readInt 34 = .ok (.invokestatic 173, 3) := by decide +kernel
theorem dX3_readInt_37 : decode cX3_readInt 37 = .ok (.ifCond .ne 9, 3) := by decide +kernel
theorem dX3_readInt_40 : decode cX3_readInt 40 = .ok (.aload_n 0, 1) := by decide +kernel
theorem dX3_readInt_41 : decode cX3_readInt 41 = .ok (.iconst 5, 1) := by decide +kernel
theorem dX3_readInt_42 : decode cX3_readInt 42 = .ok (.iload_n 3, 1) := by decide +kernel
theorem dX3_readInt_43 : decode cX3_readInt 43 = .ok (.invokevirtual 167, 3) := by decide +kernel
theorem dX3_readInt_46 : decode cX3_readInt 46 = .ok (.iconst 1, 1) := by decide +kernel
theorem dX3_readInt_47 : decode cX3_readInt 47 = .ok (.ireturn, 1) := by decide +kernel
theorem dX3_readLaw_0 : decode cX3_readLaw 0 = .ok (.aload_n 1, 1) := by decide +kernel
theorem dX3_readLaw_1 : decode cX3_readLaw 1 = .ok (.invokevirtual 177, 3) := by decide +kernel
theorem dX3_readLaw_4 : decode cX3_readLaw 4 = .ok (.aload_n 0, 1) := by decide +kernel
theorem dX3_readLaw_5 : decode cX3_readLaw 5 = .ok (.bipush 61, 2) := by decide +kernel
theorem dX3_readLaw_7 : decode cX3_readLaw 7 = .ok (.invokevirtual 68, 3) := by decide +kernel
theorem dX3_readLaw_10 : decode cX3_readLaw 10 = .ok (.ifCond .ne 5, 3) := by decide +kernel
theorem dX3_readLaw_13 : decode cX3_readLaw 13 = .ok (.iconst 0, 1) := by decide +kernel
theorem dX3_readLaw_14 : decode cX3_readLaw 14 = .ok (.ireturn, 1) := by decide +kernel
theorem dX3_readLaw_15 : decode cX3_readLaw 15 = .ok (.iconst 0, 1) := by decide +kernel
theorem dX3_readLaw_16 : decode cX3_readLaw 16 = .ok (.istore_n 2, 1) := by decide +kernel
theorem dX3_readLaw_17 : decode cX3_readLaw 17 = .ok (.iload_n 2, 1) := by decide +kernel
theorem dX3_readLaw_18 : decode cX3_readLaw 18 = .ok (.iconst 4, 1) := by decide +kernel
theorem dX3_readLaw_19 : decode cX3_readLaw 19 = .ok (.if_icmp .gt 116, 3) := by decide +kernel
theorem dX3_readLaw_22 : decode cX3_readLaw 22 = .ok (.aload_n 0, 1) := by decide +kernel
theorem dX3_readLaw_23 : decode cX3_readLaw 23 = .ok (.getfield 15, 3) := by decide +kernel
theorem dX3_readLaw_26 : decode cX3_readLaw 26 = .ok (.getfield 45, 3) := by decide +kernel
theorem dX3_readLaw_29 : decode cX3_readLaw 29 = .ok (.aload_n 0, 1) := by decide +kernel
theorem dX3_readLaw_30 : decode cX3_readLaw 30 = .ok (.getfield 19, 3) := by decide +kernel
theorem dX3_readLaw_33 : decode cX3_readLaw 33 = .ok (.iaload, 1) := by decide +kernel
theorem dX3_readLaw_34 : decode cX3_readLaw 34 = .ok (.sipush 143, 3) := by decide +kernel
theorem dX3_readLaw_37 : decode cX3_readLaw 37 = .ok (.if_icmp .ne 98, 3) := by decide +kernel
theorem dX3_readLaw_40 : decode cX3_readLaw 40 = .ok (.iload_n 2, 1) := by decide +kernel
theorem dX3_readLaw_41 : decode cX3_readLaw 41 = .ok (.iconst 4, 1) := by decide +kernel
theorem dX3_readLaw_42 : decode cX3_readLaw 42 = .ok (.if_icmp .ne 9, 3) := by decide +kernel
theorem dX3_readLaw_45 : decode cX3_readLaw 45 = .ok (.aload_n 0, 1) := by decide +kernel
theorem dX3_readLaw_46 : decode cX3_readLaw 46 = .ok (.iconst 2, 1) := by decide +kernel
theorem dX3_readLaw_47 : decode cX3_readLaw 47 = .ok (.invokevirtual 55, 3) := by decide +kernel
theorem dX3_readLaw_50 : decode cX3_readLaw 50 = .ok (.ireturn, 1) := by decide +kernel
theorem dX3_readLaw_51 : decode cX3_readLaw 51 = .ok (.aload_n 0, 1) := by decide +kernel
theorem dX3_readLaw_52 : decode cX3_readLaw 52 = .ok (.sipush 143, 3) := by decide +kernel
theorem dX3_readLaw_55 : decode cX3_readLaw 55 = .ok (.invokevirtual 68, 3) := by decide +kernel
theorem dX3_readLaw_58 : decode cX3_readLaw 58 = .ok (.ifCond .eq 63, 3) := by decide +kernel
theorem dX3_readLaw_61 : decode cX3_readLaw 61 = .ok (.aload_n 0, 1) := by decide +kernel
theorem dX3_readLaw_62 : decode cX3_readLaw 62 = .ok (.aload_n 1, 1) := by decide +kernel
theorem dX3_readLaw_63 : decode cX3_readLaw 63 = .ok (.iconst 0, 1) := by decide +kernel
theorem dX3_readLaw_64 : decode cX3_readLaw 64 = .ok (.invokevirtual 180, 3) := by decide +kernel
theorem dX3_readLaw_67 : decode cX3_readLaw 67 = .ok (.ifCond .eq 54, 3) := by decide +kernel
theorem dX3_readLaw_70 : decode cX3_readLaw 70 = .ok (.aload_n 0, 1) := by decide +kernel
theorem dX3_readLaw_71 : decode cX3_readLaw 71 = .ok (.bipush 60, 2) := by decide +kernel
theorem dX3_readLaw_73 : decode cX3_readLaw 73 = .ok (.invokevirtual 68, 3) := by decide +kernel
theorem dX3_readLaw_76 : decode cX3_readLaw 76 = .ok (.ifCond .eq 45, 3) := by decide +kernel
theorem dX3_readLaw_79 : decode cX3_readLaw 79 = .ok (.aload_n 0, 1) := by decide +kernel
theorem dX3_readLaw_80 : decode cX3_readLaw 80 = .ok (.aload_n 1, 1) := by decide +kernel
theorem dX3_readLaw_81 : decode cX3_readLaw 81 = .ok (.iconst 0, 1) := by decide +kernel
theorem dX3_readLaw_82 : decode cX3_readLaw 82 = .ok (.invokevirtual 180, 3) := by decide +kernel
theorem dX3_readLaw_85 : decode cX3_readLaw 85 = .ok (.ifCond .eq 36, 3) := by decide +kernel
theorem dX3_readLaw_88 : decode cX3_readLaw 88 = .ok (.aload_n 0, 1) := by decide +kernel
theorem dX3_readLaw_89 : decode cX3_readLaw 89 = .ok (.sipush 144, 3) := by decide +kernel
theorem dX3_readLaw_92 : decode cX3_readLaw 92 = .ok (.invokevirtual 68, 3) := by decide +kernel
theorem dX3_readLaw_95 : decode cX3_readLaw 95 = .ok (.ifCond .eq 26, 3) := by decide +kernel
theorem dX3_readLaw_98 : decode cX3_readLaw 98 = .ok (.aload_n 0, 1) := by decide +kernel
theorem dX3_readLaw_99 : decode cX3_readLaw 99 = .ok (.aload_n 1, 1) := by decide +kernel
theorem dX3_readLaw_100 : decode cX3_readLaw 100 = .ok (.iconst 0, 1) := by decide +kernel
theorem dX3_readLaw_101 : decode cX3_readLaw 101 = .ok (.invokevirtual 180, 3) := by decide +kernel
theorem dX3_readLaw_104 : decode cX3_readLaw 104 = .ok (.ifCond .eq 17, 3) := by decide +kernel
theorem dX3_readLaw_107 : decode cX3_readLaw 107 = .ok (.aload_n 0, 1) := by decide +kernel
theorem dX3_readLaw_108 : decode cX3_readLaw 108 = .ok (.sipush 145, 3) := by decide +kernel
theorem dX3_readLaw_111 : decode cX3_readLaw 111 = .ok (.invokevirtual 68, 3) := by decide +kernel
theorem dX3_readLaw_114 : decode cX3_readLaw 114 = .ok (.ifCond .eq 7, 3) := by decide +kernel
theorem dX3_readLaw_117 : decode cX3_readLaw 117 = .ok (.iconst 1, 1) := by decide +kernel
theorem dX3_readLaw_118 : decode cX3_readLaw 118 = .ok (.goto 4, 3) := by decide +kernel
theorem dX3_readLaw_121 : decode cX3_readLaw 121 = .ok (.iconst 0, 1) := by decide +kernel
theorem dX3_readLaw_122 : decode cX3_readLaw 122 = .ok (.istore_n 3, 1) := by decide +kernel
theorem dX3_readLaw_123 : decode cX3_readLaw 123 = .ok (.iload_n 3, 1) := by decide +kernel
theorem dX3_readLaw_124 : decode cX3_readLaw 124 = .ok (.ifCond .ne 5, 3) := by decide +kernel
theorem dX3_readLaw_127 : decode cX3_readLaw 127 = .ok (.iconst 0, 1) := by decide +kernel
theorem dX3_readLaw_128 : decode cX3_readLaw 128 = .ok (.ireturn, 1) := by decide +kernel
theorem dX3_readLaw_129 : decode cX3_readLaw 129 = .ok (.iinc 2 1, 3) := by decide +kernel
theorem dX3_readLaw_132 : decode cX3_readLaw 132 = .ok (.goto (-115), 3) := by decide +kernel
theorem dX3_readLaw_135 : decode cX3_readLaw 135 = .ok (.aload_n 0, 1) := by decide +kernel
theorem dX3_readLaw_136 : decode cX3_readLaw 136 = .ok (.aload_n 1, 1) := by decide +kernel
theorem dX3_readLaw_137 : decode cX3_readLaw 137 = .ok (.iconst 0, 1) := by decide +kernel
theorem dX3_readLaw_138 : decode cX3_readLaw 138 = .ok (.invokevirtual 180, 3) := by decide +kernel
theorem dX3_readLaw_141 : decode cX3_readLaw 141 = .ok (.ireturn, 1) := by decide +kernel
theorem dX3_readSum_0 : decode cX3_readSum 0 = .ok (.aload_n 0, 1) := by decide +kernel
theorem dX3_readSum_1 : decode cX3_readSum 1 = .ok (.aload_n 1, 1) := by decide +kernel
theorem dX3_readSum_2 : decode cX3_readSum 2 = .ok (.iload_n 2, 1) := by decide +kernel
theorem dX3_readSum_3 : decode cX3_readSum 3 = .ok (.invokevirtual 184, 3) := by decide +kernel
theorem dX3_readSum_6 : decode cX3_readSum 6 = .ok (.istore_n 3, 1) := by decide +kernel
theorem dX3_readSum_7 : decode cX3_readSum 7 = .ok (.iconst 0, 1) := by decide +kernel
theorem dX3_readSum_8 : decode cX3_readSum 8 = .ok (.istore 4, 2) := by decide +kernel
theorem dX3_readSum_10 : decode cX3_readSum 10 = .ok (.iload 4, 2) := by decide +kernel
theorem dX3_readSum_12 : decode cX3_readSum 12 = .ok (.sipush 400, 3) := by decide +kernel
theorem dX3_readSum_15 : decode cX3_readSum 15 = .ok (.if_icmp .ge 92, 3) := by decide +kernel
theorem dX3_readSum_18 : decode cX3_readSum 18 = .ok (.iload_n 3, 1) := by decide +kernel
theorem dX3_readSum_19 : decode cX3_readSum 19 = .ok (.ifCond .eq 88, 3) := by decide +kernel
theorem dX3_readSum_22 : decode cX3_readSum 22 = .ok (.aload_n 0, 1) := by decide +kernel
theorem dX3_readSum_23 : decode cX3_readSum 23 = .ok (.getfield 15, 3) := by decide +kernel
theorem dX3_readSum_26 : decode cX3_readSum 26 = .ok (.getfield 45, 3) := by decide +kernel
theorem dX3_readSum_29 : decode cX3_readSum 29 = .ok (.aload_n 0, 1) := by decide +kernel
theorem dX3_readSum_30 : decode cX3_readSum 30 = .ok (.getfield 19, 3) := by decide +kernel
theorem dX3_readSum_33 : decode cX3_readSum 33 = .ok (.iaload, 1) := by decide +kernel
theorem dX3_readSum_34 : decode cX3_readSum 34 = .ok (.bipush 43, 2) := by decide +kernel
theorem dX3_readSum_36 : decode cX3_readSum 36 = .ok (.if_icmp .eq 20, 3) := by decide +kernel
theorem dX3_readSum_39 : decode cX3_readSum 39 = .ok (.aload_n 0, 1) := by decide +kernel
theorem dX3_readSum_40 : decode cX3_readSum 40 = .ok (.getfield 15, 3) := by decide +kernel
theorem dX3_readSum_43 : decode cX3_readSum 43 = .ok (.getfield 45, 3) := by decide +kernel
theorem dX3_readSum_46 : decode cX3_readSum 46 = .ok (.aload_n 0, 1) := by decide +kernel
theorem dX3_readSum_47 : decode cX3_readSum 47 = .ok (.getfield 19, 3) := by decide +kernel
theorem dX3_readSum_50 : decode cX3_readSum 50 = .ok (.iaload, 1) := by decide +kernel
theorem dX3_readSum_51 : decode cX3_readSum 51 = .ok (.bipush 45, 2) := by decide +kernel
theorem dX3_readSum_53 : decode cX3_readSum 53 = .ok (.if_icmp .ne 54, 3) := by decide +kernel
theorem dX3_readSum_56 : decode cX3_readSum 56 = .ok (.aload_n 0, 1) := by decide +kernel
theorem dX3_readSum_57 : decode cX3_readSum 57 = .ok (.getfield 15, 3) := by decide +kernel
theorem dX3_readSum_60 : decode cX3_readSum 60 = .ok (.getfield 45, 3) := by decide +kernel
theorem dX3_readSum_63 : decode cX3_readSum 63 = .ok (.aload_n 0, 1) := by decide +kernel
theorem dX3_readSum_64 : decode cX3_readSum 64 = .ok (.getfield 19, 3) := by decide +kernel
theorem dX3_readSum_67 : decode cX3_readSum 67 = .ok (.iaload, 1) := by decide +kernel
theorem dX3_readSum_68 : decode cX3_readSum 68 = .ok (.istore 5, 2) := by decide +kernel
theorem dX3_readSum_70 : decode cX3_readSum 70 = .ok (.aload_n 0, 1) := by decide +kernel
theorem dX3_readSum_71 : decode cX3_readSum 71 = .ok (.iload 5, 2) := by decide +kernel
theorem dX3_readSum_73 : decode cX3_readSum 73 = .ok (.invokevirtual 68, 3) := by decide +kernel
theorem dX3_readSum_76 : decode cX3_readSum 76 = .ok (.ifCond .eq 16, 3) := by decide +kernel
theorem dX3_readSum_79 : decode cX3_readSum 79 = .ok (.aload_n 0, 1) := by decide +kernel
theorem dX3_readSum_80 : decode cX3_readSum 80 = .ok (.aload_n 1, 1) := by decide +kernel
theorem dX3_readSum_81 : decode cX3_readSum 81 = .ok (.iload_n 2, 1) := by decide +kernel
theorem dX3_readSum_82 : decode cX3_readSum 82 = .ok (.invokevirtual 184, 3) := by decide +kernel
theorem dX3_readSum_85 : decode cX3_readSum 85 = .ok (.ifCond .eq 7, 3) := by decide +kernel
theorem dX3_readSum_88 : decode cX3_readSum 88 = .ok (.iconst 1, 1) := by decide +kernel
theorem dX3_readSum_89 : decode cX3_readSum 89 = .ok (.goto 4, 3) := by decide +kernel
theorem dX3_readSum_92 : decode cX3_readSum 92 = .ok (.iconst 0, 1) := by decide +kernel
theorem dX3_readSum_93 : decode cX3_readSum 93 = .ok (.istore_n 3, 1) := by decide +kernel
theorem dX3_readSum_94 : decode cX3_readSum 94 = .ok (.aload_n 1, 1) := by decide +kernel
theorem dX3_readSum_95 : decode cX3_readSum 95 = .ok (.iload 5, 2) := by decide +kernel
theorem dX3_readSum_97 : decode cX3_readSum 97 = .ok (.iconst 0, 1) := by decide +kernel
theorem dX3_readSum_98 : decode cX3_readSum 98 = .ok (.invokevirtual 187, 3) := by decide +kernel
theorem dX3_readSum_101 : decode cX3_readSum 101 = .ok (.iinc 4 1, 3) := by decide +kernel
theorem dX3_readSum_104 : decode cX3_readSum 104 = .ok (.goto (-94), 3) := by decide +kernel
theorem dX3_readSum_107 : decode cX3_readSum 107 = .ok (.iload_n 2, 1) := by decide +kernel
theorem dX3_readSum_108 : decode cX3_readSum 108 = .ok (.ifCond .ne 7, 3) := by decide +kernel
theorem dX3_readSum_111 : decode cX3_readSum 111 = .ok (.aload_n 1, 1) := by decide +kernel
theorem dX3_readSum_112 : decode cX3_readSum 112 = .ok (.invokevirtual 190, 3) := by decide +kernel
theorem dX3_readSum_115 : decode cX3_readSum 115 = .ok (.iload_n 3, 1) := by decide +kernel
theorem dX3_readSum_116 : decode cX3_readSum 116 = .ok (.ireturn, 1) := by decide +kernel
theorem dX3_readProduct_0 : decode cX3_readProduct 0 = .ok (.aload_n 0, 1) := by decide +kernel
theorem dX3_readProduct_1 : decode cX3_readProduct 1 = .ok (.aload_n 1, 1) := by decide +kernel
theorem dX3_readProduct_2 : decode cX3_readProduct 2 = .ok (.iload_n 2, 1) := by decide +kernel
theorem dX3_readProduct_3 : decode cX3_readProduct 3 = .ok (.invokevirtual 193, 3) := by decide +kernel
theorem dX3_readProduct_6 : decode cX3_readProduct 6 = .ok (.istore_n 3, 1) := by decide +kernel
theorem dX3_readProduct_7 : decode cX3_readProduct 7 = .ok (.iconst 0, 1) := by decide +kernel
theorem dX3_readProduct_8 : decode cX3_readProduct 8 = .ok (.istore 4, 2) := by decide +kernel
theorem dX3_readProduct_10 : decode cX3_readProduct 10 = .ok (.iload 4, 2) := by decide +kernel
theorem dX3_readProduct_12 : decode cX3_readProduct 12 = .ok (.sipush 400, 3) := by decide +kernel
theorem dX3_readProduct_15 : decode cX3_readProduct 15 = .ok (.if_icmp .ge 92, 3) := by decide +kernel
theorem dX3_readProduct_18 : decode cX3_readProduct 18 = .ok (.iload_n 3, 1) := by decide +kernel
theorem dX3_readProduct_19 : decode cX3_readProduct 19 = .ok (.ifCond .eq 88, 3) := by decide +kernel
theorem dX3_readProduct_22 : decode cX3_readProduct 22 = .ok (.aload_n 0, 1) := by decide +kernel
theorem dX3_readProduct_23 : decode cX3_readProduct 23 = .ok (.getfield 15, 3) := by decide +kernel
theorem dX3_readProduct_26 : decode cX3_readProduct 26 = .ok (.getfield 45, 3) := by decide +kernel
theorem dX3_readProduct_29 : decode cX3_readProduct 29 = .ok (.aload_n 0, 1) := by decide +kernel
theorem dX3_readProduct_30 : decode cX3_readProduct 30 = .ok (.getfield 19, 3) := by decide +kernel
theorem dX3_readProduct_33 : decode cX3_readProduct 33 = .ok (.iaload, 1) := by decide +kernel
theorem dX3_readProduct_34 : decode cX3_readProduct 34 = .ok (.bipush 42, 2) := by decide +kernel
theorem dX3_readProduct_36 : decode cX3_readProduct 36 = .ok (.if_icmp .eq 20, 3) := by decide +kernel
theorem dX3_readProduct_39 : decode cX3_readProduct 39 = .ok (.aload_n 0, 1) := by decide +kernel
theorem dX3_readProduct_40 : decode cX3_readProduct 40 = .ok (.getfield 15, 3) := by decide +kernel
theorem dX3_readProduct_43 : decode cX3_readProduct 43 = .ok (.getfield 45, 3) := by decide +kernel
theorem dX3_readProduct_46 : decode cX3_readProduct 46 = .ok (.aload_n 0, 1) := by decide +kernel
theorem dX3_readProduct_47 : decode cX3_readProduct 47 = .ok (.getfield 19, 3) := by decide +kernel
theorem dX3_readProduct_50 : decode cX3_readProduct 50 = .ok (.iaload, 1) := by decide +kernel
theorem dX3_readProduct_51 : decode cX3_readProduct 51 = .ok (.bipush 47, 2) := by decide +kernel
theorem dX3_readProduct_53 : decode cX3_readProduct 53 = .ok (.if_icmp .ne 54, 3) := by decide +kernel
theorem dX3_readProduct_56 : decode cX3_readProduct 56 = .ok (.aload_n 0, 1) := by decide +kernel
theorem dX3_readProduct_57 : decode cX3_readProduct 57 = .ok (.getfield 15, 3) := by decide +kernel
theorem dX3_readProduct_60 : decode cX3_readProduct 60 = .ok (.getfield 45, 3) := by decide +kernel
theorem dX3_readProduct_63 : decode cX3_readProduct 63 = .ok (.aload_n 0, 1) := by decide +kernel
theorem dX3_readProduct_64 : decode cX3_readProduct 64 = .ok (.getfield 19, 3) := by decide +kernel
theorem dX3_readProduct_67 : decode cX3_readProduct 67 = .ok (.iaload, 1) := by decide +kernel
theorem dX3_readProduct_68 : decode cX3_readProduct 68 = .ok (.istore 5, 2) := by decide +kernel
theorem dX3_readProduct_70 : decode cX3_readProduct 70 = .ok (.aload_n 0, 1) := by decide +kernel
theorem dX3_readProduct_71 : decode cX3_readProduct 71 = .ok (.iload 5, 2) := by decide +kernel
theorem dX3_readProduct_73 : decode cX3_readProduct 73 = .ok (.invokevirtual 68, 3) := by decide +kernel
theorem dX3_readProduct_76 : decode cX3_readProduct 76 = .ok (.ifCond .eq 16, 3) := by decide +kernel
theorem dX3_readProduct_79 : decode cX3_readProduct 79 = .ok (.aload_n 0, 1) := by decide +kernel
theorem dX3_readProduct_80 : decode cX3_readProduct 80 = .ok (.aload_n 1, 1) := by decide +kernel
theorem dX3_readProduct_81 : decode cX3_readProduct 81 = .ok (.iload_n 2, 1) := by decide +kernel
theorem dX3_readProduct_82 : decode cX3_readProduct 82 = .ok (.invokevirtual 193, 3) := by decide +kernel
theorem dX3_readProduct_85 : decode cX3_readProduct 85 = .ok (.ifCond .eq 7, 3) := by decide +kernel
theorem dX3_readProduct_88 : decode cX3_readProduct 88 = .ok (.iconst 1, 1) := by decide +kernel
theorem dX3_readProduct_89 : decode cX3_readProduct 89 = .ok (.goto 4, 3) := by decide +kernel
theorem dX3_readProduct_92 : decode cX3_readProduct 92 = .ok (.iconst 0, 1) := by decide +kernel
theorem dX3_readProduct_93 : decode cX3_readProduct 93 = .ok (.istore_n 3, 1) := by decide +kernel
theorem dX3_readProduct_94 : decode cX3_readProduct 94 = .ok (.aload_n 1, 1) := by decide +kernel
theorem dX3_readProduct_95 : decode cX3_readProduct 95 = .ok (.iload 5, 2) := by decide +kernel
theorem dX3_readProduct_97 : decode cX3_readProduct 97 = .ok (.iconst 0, 1) := by decide +kernel
theorem dX3_readProduct_98 : decode cX3_readProduct 98 = .ok (.invokevirtual 187, 3) := by decide +kernel
theorem dX3_readProduct_101 : decode cX3_readProduct 101 = .ok (.iinc 4 1, 3) := by decide +kernel
theorem dX3_readProduct_104 : decode cX3_readProduct 104 = .ok (.goto (-94), 3) := by decide +kernel
theorem dX3_readProduct_107 : decode cX3_readProduct 107 = .ok (.iload_n 3, 1) := by decide +kernel
theorem dX3_readProduct_108 : decode cX3_readProduct 108 = .ok (.ireturn, 1) := by decide +kernel
theorem dX3_readUnit_0 : decode cX3_readUnit 0 = .ok (.aload_n 0, 1) := by decide +kernel
theorem dX3_readUnit_1 : decode cX3_readUnit 1 = .ok (.getfield 15, 3) := by decide +kernel
theorem dX3_readUnit_4 : decode cX3_readUnit 4 = .ok (.getfield 45, 3) := by decide +kernel
theorem dX3_readUnit_7 : decode cX3_readUnit 7 = .ok (.aload_n 0, 1) := by decide +kernel
theorem dX3_readUnit_8 : decode cX3_readUnit 8 = .ok (.getfield 19, 3) := by decide +kernel
theorem dX3_readUnit_11 : decode cX3_readUnit 11 = .ok (.iaload, 1) := by decide +kernel
theorem dX3_readUnit_12 : decode cX3_readUnit 12 = .ok (.istore_n 3, 1) := by decide +kernel
theorem dX3_readUnit_13 : decode cX3_readUnit 13 = .ok (.iload_n 3, 1) := by decide +kernel
theorem dX3_readUnit_14 : decode cX3_readUnit 14 = .ok (.iconst 3, 1) := by decide +kernel
theorem dX3_readUnit_15 : decode cX3_readUnit 15 = .ok (.if_icmp .ne 26, 3) := by decide +kernel
theorem dX3_readUnit_18 : decode cX3_readUnit 18 = .ok (.aload_n 1, 1) := by decide +kernel
theorem dX3_readUnit_19 : decode cX3_readUnit 19 = .ok (.iconst 0, 1) := by decide +kernel
theorem dX3_readUnit_20 : decode cX3_readUnit 20 = .ok (.aload_n 0, 1) := by decide +kernel
theorem dX3_readUnit_21 : decode cX3_readUnit 21 = .ok (.getfield 15, 3) := by decide +kernel
theorem dX3_readUnit_24 : decode cX3_readUnit 24 = .ok (.getfield 170, 3) := by decide +kernel
theorem dX3_readUnit_27 : decode cX3_readUnit 27 = .ok (.aload_n 0, 1) := by decide +kernel
theorem dX3_readUnit_28 : decode cX3_readUnit 28 = .ok (.getfield 19, 3) := by decide +kernel
theorem dX3_readUnit_31 : decode cX3_readUnit 31 = .ok (.iaload, 1) := by decide +kernel
theorem dX3_readUnit_32 : decode cX3_readUnit 32 = .ok (.invokevirtual 187, 3) := by decide +kernel
theorem dX3_readUnit_35 : decode cX3_readUnit 35 = .ok (.aload_n 0, 1) := by decide +kernel
theorem dX3_readUnit_36 : decode cX3_readUnit 36 = .ok (.iconst 3, 1) := by decide +kernel
theorem dX3_readUnit_37 : decode cX3_readUnit 37 = .ok (.invokevirtual 68, 3) := by decide +kernel
theorem dX3_readUnit_40 : decode cX3_readUnit 40 = .ok (.ireturn, 1) := by decide +kernel
theorem dX3_readUnit_41 : decode cX3_readUnit 41 = .ok (.iload_n 3, 1) := by decide +kernel
theorem dX3_readUnit_42 : decode cX3_readUnit 42 = .ok (.sipush 146, 3) := by decide +kernel
theorem dX3_readUnit_45 : decode cX3_readUnit 45 = .ok (.sipush 156, 3) := by decide +kernel
theorem dX3_readUnit_48 : decode cX3_readUnit 48 = .ok (.invokestatic 173, 3) := by decide +kernel
theorem dX3_readUnit_51 : decode cX3_readUnit 51 = .ok (.ifCond .eq 19, 3) := by decide +kernel
theorem dX3_readUnit_54 : decode cX3_readUnit 54 = .ok (.aload_n 1, 1) := by decide +kernel
theorem dX3_readUnit_55 : decode cX3_readUnit 55 = .ok (.iconst 1, 1) := by decide +kernel
theorem dX3_readUnit_56 : decode cX3_readUnit 56 = .ok (.iload_n 3, 1) := by decide +kernel
theorem dX3_readUnit_57 : decode cX3_readUnit 57 = .ok (.sipush 146, 3) := by decide +kernel
theorem dX3_readUnit_60 : decode cX3_readUnit 60 = .ok (.isub, 1) := by decide +kernel
theorem dX3_readUnit_61 : decode cX3_readUnit 61 = .ok (.invokevirtual 187, 3) := by decide +kernel
theorem dX3_readUnit_64 : decode cX3_readUnit 64 = .ok (.aload_n 0, 1) := by decide +kernel
theorem dX3_readUnit_65 : decode cX3_readUnit 65 = .ok (.iload_n 3, 1) := by decide +kernel
theorem dX3_readUnit_66 : decode cX3_readUnit 66 = .ok (.invokevirtual 68, 3) := by decide +kernel
theorem dX3_readUnit_69 : decode cX3_readUnit 69 = .ok (.ireturn, 1) := by decide +kernel
theorem dX3_readUnit_70 : decode cX3_readUnit 70 = .ok (.iload_n 3, 1) := by decide +kernel
theorem dX3_readUnit_71 : decode cX3_readUnit 71 = .ok (.bipush 40, 2) := by decide +kernel
theorem dX3_readUnit_73 : decode cX3_readUnit 73 = .ok (.if_icmp .eq 9, 3) := by decide +kernel
theorem dX3_readUnit_76 : decode cX3_readUnit 76 = .ok (.aload_n 0, 1) := by decide +kernel
theorem dX3_readUnit_77 : decode cX3_readUnit 77 = .ok (.iconst 1, 1) := by decide +kernel
theorem dX3_readUnit_78 : decode cX3_readUnit 78 = .ok (.invokevirtual 55, 3) := by decide +kernel
theorem dX3_readUnit_81 : decode cX3_readUnit 81 = .ok (.ireturn, 1) := by decide +kernel
theorem dX3_readUnit_82 : decode cX3_readUnit 82 = .ok (.iload_n 2, 1) := by decide +kernel
theorem dX3_readUnit_83 : decode cX3_readUnit 83 = .ok (.bipush 6, 2) := by decide +kernel
theorem dX3_readUnit_85 : decode cX3_readUnit 85 = .ok (.if_icmp .lt 9, 3) := by decide +kernel
theorem dX3_readUnit_88 : decode cX3_readUnit 88 = .ok (.aload_n 0, 1) := by decide +kernel
theorem dX3_readUnit_89 : decode cX3_readUnit 89 = .ok (.iconst 2, 1) := by decide +kernel
theorem dX3_readUnit_90 : decode cX3_readUnit 90 = .ok (.invokevirtual 55, 3) := by decide +kernel
theorem dX3_readUnit_93 : decode cX3_readUnit 93 = .ok (.ireturn, 1) := by decide +kernel
theorem dX3_readUnit_94 : decode cX3_readUnit 94 = .ok (.aload_n 0, 1) := by decide +kernel
theorem dX3_readUnit_95 : decode cX3_readUnit 95 = .ok (.bipush 40, 2) := by decide +kernel
theorem dX3_readUnit_97 : decode cX3_readUnit 97 = .ok (.invokevirtual 68, 3) := by decide +kernel
theorem dX3_readUnit_100 : decode cX3_readUnit 100 = .ok (.ifCond .eq 27, 3) := by decide +kernel
theorem dX3_readUnit_103 : decode cX3_readUnit 103 = .ok (.aload_n 0, 1) := by decide +kernel
theorem dX3_readUnit_104 : decode cX3_readUnit 104 = .ok (.aload_n 1, 1) := by decide +kernel
theorem dX3_readUnit_105 : decode cX3_readUnit 105 = .ok (.iload_n 2, 1) := by decide +kernel
theorem dX3_readUnit_106 : decode cX3_readUnit 106 = .ok (.iconst 1, 1) := by decide +kernel
theorem dX3_readUnit_107 : decode cX3_readUnit 107 = .ok (.iadd, 1) := by decide +kernel
theorem dX3_readUnit_108 : decode cX3_readUnit 108 = .ok (.invokevirtual 180, 3) := by decide +kernel
theorem dX3_readUnit_111 : decode cX3_readUnit 111 = .ok (.ifCond .eq 16, 3) := by decide +kernel
theorem dX3_readUnit_114 : decode cX3_readUnit 114 = .ok (.aload_n 0, 1) := by decide +kernel
theorem dX3_readUnit_115 : decode cX3_readUnit 115 = .ok (.bipush 41, 2) := by decide +kernel
theorem dX3_readUnit_117 : decode cX3_readUnit 117 = .ok (.invokevirtual 68, 3) := by decide +kernel
theorem dX3_readUnit_120 : decode cX3_readUnit 120 = .ok (.ifCond .eq 7, 3) := by decide +kernel
theorem dX3_readUnit_123 : decode cX3_readUnit 123 = .ok (.iconst 1, 1) := by decide +kernel
theorem dX3_readUnit_124 : decode cX3_readUnit 124 = .ok (.goto 4, 3) := by decide +kernel
theorem dX3_readUnit_127 : decode cX3_readUnit 127 = .ok (.iconst 0, 1) := by decide +kernel
theorem dX3_readUnit_128 : decode cX3_readUnit 128 = .ok (.ireturn, 1) := by decide +kernel
theorem dX3_takes_0 : decode cX3_takes 0 = .ok (.aload_n 0, 1) := by decide +kernel
theorem dX3_takes_1 : decode cX3_takes 1 = .ok (.getfield 15, 3) := by decide +kernel
theorem dX3_takes_4 : decode cX3_takes 4 = .ok (.getfield 45, 3) := by decide +kernel
theorem dX3_takes_7 : decode cX3_takes 7 = .ok (.aload_n 0, 1) := by decide +kernel
theorem dX3_takes_8 : decode cX3_takes 8 = .ok (.getfield 19, 3) := by decide +kernel
theorem dX3_takes_11 : decode cX3_takes 11 = .ok (.iaload, 1) := by decide +kernel
theorem dX3_takes_12 : decode cX3_takes 12 = .ok (.iload_n 1, 1) := by decide +kernel
theorem dX3_takes_13 : decode cX3_takes 13 = .ok (.if_icmp .ne 7, 3) := by decide +kernel
theorem dX3_takes_16 : decode cX3_takes 16 = .ok (.iconst 1, 1) := by decide +kernel
theorem dX3_takes_17 : decode cX3_takes 17 = .ok (.goto 4, 3) := by decide +kernel
theorem dX3_takes_20 : decode cX3_takes 20 = .ok (.iconst 0, 1) := by decide +kernel
theorem dX3_takes_21 : decode cX3_takes 21 = .ok (.istore_n 2, 1) := by decide +kernel
theorem dX3_takes_22 : decode cX3_takes 22 = .ok (.iload_n 2, 1) := by decide +kernel
theorem dX3_takes_23 : decode cX3_takes 23 = .ok (.ifCond .eq 13, 3) := by decide +kernel
theorem dX3_takes_26 : decode cX3_takes 26 = .ok (.aload_n 0, 1) := by decide +kernel
theorem dX3_takes_27 : decode cX3_takes 27 = .ok (.getfield 19, 3) := by decide +kernel
theorem dX3_takes_30 : decode cX3_takes 30 = .ok (.sipush 400, 3) := by decide +kernel
theorem dX3_takes_33 : decode cX3_takes 33 = .ok (.if_icmp .lt 34, 3) := by decide +kernel
theorem dX3_takes_36 : decode cX3_takes 36 = .ok (.aload_n 0, 1) := by decide +kernel
theorem dX3_takes_37 : decode cX3_takes 37 = .ok (.iload_n 2, 1) := by decide +kernel
theorem dX3_takes_38 : decode cX3_takes 38 = .ok (.ifCond .eq 7, 3) := by decide +kernel
theorem dX3_takes_41 : decode cX3_takes 41 = .ok (.iconst 2, 1) := by decide +kernel
theorem dX3_takes_42 : decode cX3_takes 42 = .ok (.goto 4, 3) := by decide +kernel
theorem dX3_takes_45 : decode cX3_takes 45 = .ok (.iconst 1, 1) := by decide +kernel
theorem dX3_takes_46 : decode cX3_takes 46 = .ok (.putfield 26, 3) := by decide +kernel
theorem dX3_takes_49 : decode cX3_takes 49 = .ok (.aload_n 0, 1) := by decide +kernel
theorem dX3_takes_50 : decode cX3_takes 50 = .ok (.aload_n 0, 1) := by decide +kernel
theorem dX3_takes_51 : decode cX3_takes 51 = .ok (.getfield 15, 3) := by decide +kernel
theorem dX3_takes_54 : decode cX3_takes 54 = .ok (.getfield 196, 3) := by decide +kernel
theorem dX3_takes_57 : decode cX3_takes 57 = .ok (.aload_n 0, 1) := by decide +kernel
theorem dX3_takes_58 : decode cX3_takes 58 = .ok (.getfield 19, 3) := by decide +kernel
theorem dX3_takes_61 : decode cX3_takes 61 = .ok (.iaload, 1) := by decide +kernel
theorem dX3_takes_62 : decode cX3_takes 62 = .ok (.putfield 29, 3) := by decide +kernel
theorem dX3_takes_65 : decode cX3_takes 65 = .ok (.iconst 0, 1) := by decide +kernel
theorem dX3_takes_66 : decode cX3_takes 66 = .ok (.ireturn, 1) := by decide +kernel
theorem dX3_takes_67 : decode cX3_takes 67 = .ok (.aload_n 0, 1) := by decide +kernel
theorem dX3_takes_68 : decode cX3_takes 68 = .ok (.dup, 1) := by decide +kernel
theorem dX3_takes_69 : decode cX3_takes 69 = .ok (.getfield 19, 3) := by decide +kernel
theorem dX3_takes_72 : decode cX3_takes 72 = .ok (.iconst 1, 1) := by decide +kernel
theorem dX3_takes_73 : decode cX3_takes 73 = .ok (.iadd, 1) := by decide +kernel
theorem dX3_takes_74 : decode cX3_takes 74 = .ok (.putfield 19, 3) := by decide +kernel
theorem dX3_takes_77 : decode cX3_takes 77 = .ok (.iconst 1, 1) := by decide +kernel
theorem dX3_takes_78 : decode cX3_takes 78 = .ok (.ireturn, 1) := by decide +kernel
theorem dX3_fails_0 : decode cX3_fails 0 = .ok (.aload_n 0, 1) := by decide +kernel
theorem dX3_fails_1 : decode cX3_fails 1 = .ok (.iload_n 1, 1) := by decide +kernel
theorem dX3_fails_2 : decode cX3_fails 2 = .ok (.putfield 26, 3) := by decide +kernel
theorem dX3_fails_5 : decode cX3_fails 5 = .ok (.aload_n 0, 1) := by decide +kernel
theorem dX3_fails_6 : decode cX3_fails 6 = .ok (.aload_n 0, 1) := by decide +kernel
theorem dX3_fails_7 : decode cX3_fails 7 = .ok (.getfield 15, 3) := by decide +kernel
theorem dX3_fails_10 : decode cX3_fails 10 = .ok (.getfield 196, 3) := by decide +kernel
theorem dX3_fails_13 : decode cX3_fails 13 = .ok (.aload_n 0, 1) := by decide +kernel
theorem dX3_fails_14 : decode cX3_fails 14 = .ok (.getfield 19, 3) := by decide +kernel
theorem dX3_fails_17 : decode cX3_fails 17 = .ok (.iaload, 1) := by decide +kernel
theorem dX3_fails_18 : decode cX3_fails 18 = .ok (.putfield 29, 3) := by decide +kernel
theorem dX3_fails_21 : decode cX3_fails 21 = .ok (.iconst 0, 1) := by decide +kernel
theorem dX3_fails_22 : decode cX3_fails 22 = .ok (.ireturn, 1) := by decide +kernel
theorem dX3_notes_0 : decode cX3_notes 0 = .ok (.aload_n 0, 1) := by decide +kernel
theorem dX3_notes_1 : decode cX3_notes 1 = .ok (.getfield 32, 3) := by decide +kernel
theorem dX3_notes_4 : decode cX3_notes 4 = .ok (.ifCond .ne 21, 3) := by decide +kernel
theorem dX3_notes_7 : decode cX3_notes 7 = .ok (.aload_n 0, 1) := by decide +kernel
theorem dX3_notes_8 : decode cX3_notes 8 = .ok (.iload_n 1, 1) := by decide +kernel
theorem dX3_notes_9 : decode cX3_notes 9 = .ok (.putfield 32, 3) := by decide +kernel
theorem dX3_notes_12 : decode cX3_notes 12 = .ok (.aload_n 0, 1) := by decide +kernel
theorem dX3_notes_13 : decode cX3_notes 13 = .ok (.aload_n 0, 1) := by decide +kernel
theorem dX3_notes_14 : decode cX3_notes 14 = .ok (.getfield 15, 3) := by decide +kernel
theorem dX3_notes_17 : decode cX3_notes 17 = .ok (.getfield 196, 3) := by decide +kernel
theorem dX3_notes_20 : decode cX3_notes 20 = .ok (.iload_n 2, 1) := by decide +kernel
theorem dX3_notes_21 : decode cX3_notes 21 = .ok (.iaload, 1) := by decide +kernel
theorem dX3_notes_22 : decode cX3_notes 22 = .ok (.putfield 35, 3) := by decide +kernel
theorem dX3_notes_25 : decode cX3_notes 25 = .ok (.return_, 1) := by decide +kernel
theorem dX4_init_0 : decode cX4_init 0 = .ok (.aload_n 0, 1) := by decide +kernel
theorem dX4_init_1 : decode cX4_init 1 = .ok (.invokespecial 3, 3) := by decide +kernel
theorem dX4_init_4 : decode cX4_init 4 = .ok (.aload_n 0, 1) := by decide +kernel
theorem dX4_init_5 : decode cX4_init 5 = .ok (.bipush 8, 2) := by decide +kernel
theorem dX4_init_7 : decode cX4_init 7 = .ok (.newarray .int, 2) := by decide +kernel
theorem dX4_init_9 : decode cX4_init 9 = .ok (.putfield 9, 3) := by decide +kernel
theorem dX4_init_12 : decode cX4_init 12 = .ok (.aload_n 0, 1) := by decide +kernel
theorem dX4_init_13 : decode cX4_init 13 = .ok (.bipush 8, 2) := by decide +kernel
theorem dX4_init_15 : decode cX4_init 15 = .ok (.newarray .int, 2) := by decide +kernel
theorem dX4_init_17 : decode cX4_init 17 = .ok (.putfield 15, 3) := by decide +kernel
theorem dX4_init_20 : decode cX4_init 20 = .ok (.aload_n 0, 1) := by decide +kernel
theorem dX4_init_21 : decode cX4_init 21 = .ok (.bipush 8, 2) := by decide +kernel
theorem dX4_init_23 : decode cX4_init 23 = .ok (.newarray .int, 2) := by decide +kernel
theorem dX4_init_25 : decode cX4_init 25 = .ok (.putfield 18, 3) := by decide +kernel
theorem dX4_init_28 : decode cX4_init 28 = .ok (.aload_n 0, 1) := by decide +kernel
theorem dX4_init_29 : decode cX4_init 29 = .ok (.bipush 8, 2) := by decide +kernel
theorem dX4_init_31 : decode cX4_init 31 = .ok (.newarray .int, 2) := by decide +kernel
theorem dX4_init_33 : decode cX4_init 33 = .ok (.putfield 21, 3) := by decide +kernel
theorem dX4_init_36 : decode cX4_init 36 = .ok (.aload_n 0, 1) := by decide +kernel
theorem dX4_init_37 : decode cX4_init 37 = .ok (.bipush 7, 2) := by decide +kernel
theorem dX4_init_39 : decode cX4_init 39 = .ok (.newarray .int, 2) := by decide +kernel
theorem dX4_init_41 : decode cX4_init 41 = .ok (.putfield 24, 3) := by decide +kernel
theorem dX4_init_44 : decode cX4_init 44 = .ok (.aload_n 0, 1) := by decide +kernel
theorem dX4_init_45 : decode cX4_init 45 = .ok (.bipush 7, 2) := by decide +kernel
theorem dX4_init_47 : decode cX4_init 47 = .ok (.newarray .int, 2) := by decide +kernel
theorem dX4_init_49 : decode cX4_init 49 = .ok (.putfield 27, 3) := by decide +kernel
theorem dX4_init_52 : decode cX4_init 52 = .ok (.return_, 1) := by decide +kernel
theorem dX4_clear_0 : decode cX4_clear 0 = .ok (.aload_n 0, 1) := by decide +kernel
theorem dX4_clear_1 : decode cX4_clear 1 = .ok (.iconst 0, 1) := by decide +kernel
theorem dX4_clear_2 : decode cX4_clear 2 = .ok (.putfield 30, 3) := by decide +kernel
theorem dX4_clear_5 : decode cX4_clear 5 = .ok (.aload_n 0, 1) := by decide +kernel
theorem dX4_clear_6 : decode cX4_clear 6 = .ok (.iconst 0, 1) := by decide +kernel
theorem dX4_clear_7 : decode cX4_clear 7 = .ok (.putfield 34, 3) := by decide +kernel
theorem dX4_clear_10 : decode cX4_clear 10 = .ok (.return_, 1) := by decide +kernel
theorem dX4_isFull_0 : decode cX4_isFull 0 = .ok (.iload_n 1, 1) := by decide +kernel
theorem dX4_isFull_1 : decode cX4_isFull 1 = .ok (.sipush 135, 3) := by decide +kernel
theorem dX4_isFull_4 : decode cX4_isFull 4 = .ok (.if_icmp .ne 12, 3) := by decide +kernel
theorem dX4_isFull_7 : decode cX4_isFull 7 = .ok (.aload_n 0, 1) := by decide +kernel
theorem dX4_isFull_8 : decode cX4_isFull 8 = .ok (.getfield 30, 3) := by decide +kernel
theorem dX4_isFull_11 : decode cX4_isFull 11 = .ok (.bipush 8, 2) := by decide +kernel
theorem dX4_isFull_13 : decode cX4_isFull 13 = .ok (.if_icmp .ge 19, 3) := by decide +kernel
theorem dX4_isFull_16 : decode cX4_isFull 16 = .ok (.iload_n 1, 1) := by decide +kernel
theorem dX4_isFull_17 : decode cX4_isFull 17 = .ok (.sipush 136, 3) := by decide +kernel
theorem dX4_isFull_20 : decode cX4_isFull 20 = .ok (.if_icmp .ne 16, 3) := by decide +kernel
theorem dX4_isFull_23 : decode cX4_isFull 23 = .ok (.aload_n 0, 1) := by decide +kernel
theorem dX4_isFull_24 : decode cX4_isFull 24 = .ok (.getfield 34, 3) := by decide +kernel
theorem dX4_isFull_27 : decode cX4_isFull 27 = .ok (.bipush 7, 2) := by decide +kernel
theorem dX4_isFull_29 : decode cX4_isFull 29 = .ok (.if_icmp .lt 7, 3) := by decide +kernel
theorem dX4_isFull_32 : decode cX4_isFull 32 = .ok (.iconst 1, 1) := by decide +kernel
theorem dX4_isFull_33 : decode cX4_isFull 33 = .ok (.goto 4, 3) := by decide +kernel
theorem dX4_isFull_36 : decode cX4_isFull 36 = .ok (.iconst 0, 1) := by decide +kernel
theorem dX4_isFull_37 : decode cX4_isFull 37 = .ok (.ireturn, 1) := by decide +kernel
theorem dX4_addMan_0 : decode cX4_addMan 0 = .ok (.aload_n 0, 1) := by decide +kernel
theorem dX4_addMan_1 : decode cX4_addMan 1 = .ok (.getfield 30, 3) := by decide +kernel
theorem dX4_addMan_4 : decode cX4_addMan 4 = .ok (.bipush 8, 2) := by decide +kernel
theorem dX4_addMan_6 : decode cX4_addMan 6 = .ok (.if_icmp .ge 54, 3) := by decide +kernel
theorem dX4_addMan_9 : decode cX4_addMan 9 = .ok (.aload_n 0, 1) := by decide +kernel
theorem dX4_addMan_10 : decode cX4_addMan 10 = .ok (.getfield 9, 3) := by decide +kernel
theorem dX4_addMan_13 : decode cX4_addMan 13 = .ok (.aload_n 0, 1) := by decide +kernel
theorem dX4_addMan_14 : decode cX4_addMan 14 = .ok (.getfield 30, 3) := by decide +kernel
theorem dX4_addMan_17 : decode cX4_addMan 17 = .ok (.iload_n 1, 1) := by decide +kernel
theorem dX4_addMan_18 : decode cX4_addMan 18 = .ok (.iastore, 1) := by decide +kernel
theorem dX4_addMan_19 : decode cX4_addMan 19 = .ok (.aload_n 0, 1) := by decide +kernel
theorem dX4_addMan_20 : decode cX4_addMan 20 = .ok (.getfield 15, 3) := by decide +kernel
theorem dX4_addMan_23 : decode cX4_addMan 23 = .ok (.aload_n 0, 1) := by decide +kernel
theorem dX4_addMan_24 : decode cX4_addMan 24 = .ok (.getfield 30, 3) := by decide +kernel
theorem dX4_addMan_27 : decode cX4_addMan 27 = .ok (.iload_n 2, 1) := by decide +kernel
theorem dX4_addMan_28 : decode cX4_addMan 28 = .ok (.iastore, 1) := by decide +kernel
theorem dX4_addMan_29 : decode cX4_addMan 29 = .ok (.aload_n 0, 1) := by decide +kernel
theorem dX4_addMan_30 : decode cX4_addMan 30 = .ok (.getfield 18, 3) := by decide +kernel
theorem dX4_addMan_33 : decode cX4_addMan 33 = .ok (.aload_n 0, 1) := by decide +kernel
theorem dX4_addMan_34 : decode cX4_addMan 34 = .ok (.getfield 30, 3) := by decide +kernel
theorem dX4_addMan_37 : decode cX4_addMan 37 = .ok (.iload_n 3, 1) := by decide +kernel
theorem dX4_addMan_38 : decode cX4_addMan 38 = .ok (.iastore, 1) := by decide +kernel
theorem dX4_addMan_39 : decode cX4_addMan 39 = .ok (.aload_n 0, 1) := by decide +kernel
theorem dX4_addMan_40 : decode cX4_addMan 40 = .ok (.getfield 21, 3) := by decide +kernel
theorem dX4_addMan_43 : decode cX4_addMan 43 = .ok (.aload_n 0, 1) := by decide +kernel
theorem dX4_addMan_44 : decode cX4_addMan 44 = .ok (.getfield 30, 3) := by decide +kernel
theorem dX4_addMan_47 : decode cX4_addMan 47 = .ok (.iload 4, 2) := by decide +kernel
theorem dX4_addMan_49 : decode cX4_addMan 49 = .ok (.iastore, 1) := by decide +kernel
theorem dX4_addMan_50 : decode cX4_addMan 50 = .ok (.aload_n 0, 1) := by decide +kernel
theorem dX4_addMan_51 : decode cX4_addMan 51 = .ok (.dup, 1) := by decide +kernel
theorem dX4_addMan_52 : decode cX4_addMan 52 = .ok (.getfield 30, 3) := by decide +kernel
theorem dX4_addMan_55 : decode cX4_addMan 55 = .ok (.iconst 1, 1) := by decide +kernel
theorem dX4_addMan_56 : decode cX4_addMan 56 = .ok (.iadd, 1) := by decide +kernel
theorem dX4_addMan_57 : decode cX4_addMan 57 = .ok (.putfield 30, 3) := by decide +kernel
theorem dX4_addMan_60 : decode cX4_addMan 60 = .ok (.return_, 1) := by decide +kernel
theorem dX4_addJudge_0 : decode cX4_addJudge 0 = .ok (.aload_n 0, 1) := by decide +kernel
theorem dX4_addJudge_1 : decode cX4_addJudge 1 = .ok (.getfield 34, 3) := by decide +kernel
theorem dX4_addJudge_4 : decode cX4_addJudge 4 = .ok (.bipush 7, 2) := by decide +kernel
theorem dX4_addJudge_6 : decode cX4_addJudge 6 = .ok (.if_icmp .ge 33, 3) := by decide +kernel
theorem dX4_addJudge_9 : decode cX4_addJudge 9 = .ok (.aload_n 0, 1) := by decide +kernel
theorem dX4_addJudge_10 : decode cX4_addJudge 10 = .ok (.getfield 24, 3) := by decide +kernel
theorem dX4_addJudge_13 : decode cX4_addJudge 13 = .ok (.aload_n 0, 1) := by decide +kernel
theorem dX4_addJudge_14 : decode cX4_addJudge 14 = .ok (.getfield 34, 3) := by decide +kernel
theorem dX4_addJudge_17 : decode cX4_addJudge 17 = .ok (.iload_n 1, 1) := by decide +kernel
theorem dX4_addJudge_18 : decode cX4_addJudge 18 = .ok (.iastore, 1) := by decide +kernel
theorem dX4_addJudge_19 : decode cX4_addJudge 19 = .ok (.aload_n 0, 1) := by decide +kernel
theorem dX4_addJudge_20 : decode cX4_addJudge 20 = .ok (.getfield 27, 3) := by decide +kernel
theorem dX4_addJudge_23 : decode cX4_addJudge 23 = .ok (.aload_n 0, 1) := by decide +kernel
theorem dX4_addJudge_24 : decode cX4_addJudge 24 = .ok (.getfield 34, 3) := by decide +kernel
theorem dX4_addJudge_27 : decode cX4_addJudge 27 = .ok (.iload_n 2, 1) := by decide +kernel
theorem dX4_addJudge_28 : decode cX4_addJudge 28 = .ok (.iastore, 1) := by decide +kernel
theorem dX4_addJudge_29 : decode cX4_addJudge 29 = .ok (.aload_n 0, 1) := by decide +kernel
theorem dX4_addJudge_30 : decode cX4_addJudge 30 = .ok (.dup, 1) := by decide +kernel
theorem dX4_addJudge_31 : decode cX4_addJudge 31 = .ok (.getfield 34, 3) := by decide +kernel
theorem dX4_addJudge_34 : decode cX4_addJudge 34 = .ok (.iconst 1, 1) := by decide +kernel
theorem dX4_addJudge_35 : decode cX4_addJudge 35 = .ok (.iadd, 1) := by decide +kernel
theorem dX4_addJudge_36 : decode cX4_addJudge 36 = .ok (.putfield 34, 3) := by decide +kernel
theorem dX4_addJudge_39 : decode cX4_addJudge 39 = .ok (.return_, 1) := by decide +kernel
theorem dX5_init_0 : decode cX5_init 0 = .ok (.aload_n 0, 1) := by decide +kernel
theorem dX5_init_1 : decode cX5_init 1 = .ok (.invokespecial 5, 3) := by decide +kernel
theorem dX5_init_4 : decode cX5_init 4 = .ok (.aload_n 0, 1) := by decide +kernel
theorem dX5_init_5 : decode cX5_init 5 = .ok (.bipush 8, 2) := by decide +kernel
theorem dX5_init_7 : decode cX5_init 7 = .ok (.newarray .int, 2) := by decide +kernel
theorem dX5_init_9 : decode cX5_init 9 = .ok (.putfield 11, 3) := by decide +kernel
theorem dX5_init_12 : decode cX5_init 12 = .ok (.aload_n 0, 1) := by decide +kernel
theorem dX5_init_13 : decode cX5_init 13 = .ok (.bipush 8, 2) := by decide +kernel
theorem dX5_init_15 : decode cX5_init 15 = .ok (.newarray .int, 2) := by decide +kernel
theorem dX5_init_17 : decode cX5_init 17 = .ok (.putfield 15, 3) := by decide +kernel
theorem dX5_init_20 : decode cX5_init 20 = .ok (.aload_n 0, 1) := by decide +kernel
theorem dX5_init_21 : decode cX5_init 21 = .ok (.sipush 256, 3) := by decide +kernel
theorem dX5_init_24 : decode cX5_init 24 = .ok (.newarray .int, 2) := by decide +kernel
theorem dX5_init_26 : decode cX5_init 26 = .ok (.putfield 18, 3) := by decide +kernel
theorem dX5_init_29 : decode cX5_init 29 = .ok (.aload_n 0, 1) := by decide +kernel
theorem dX5_init_30 : decode cX5_init 30 = .ok (.aload_n 1, 1) := by decide +kernel
theorem dX5_init_31 : decode cX5_init 31 = .ok (.putfield 21, 3) := by decide +kernel
theorem dX5_init_34 : decode cX5_init 34 = .ok (.return_, 1) := by decide +kernel
theorem dX5_begin_0 : decode cX5_begin 0 = .ok (.aload_n 0, 1) := by decide +kernel
theorem dX5_begin_1 : decode cX5_begin 1 = .ok (.iconst 0, 1) := by decide +kernel
theorem dX5_begin_2 : decode cX5_begin 2 = .ok (.putfield 25, 3) := by decide +kernel
theorem dX5_begin_5 : decode cX5_begin 5 = .ok (.aload_n 0, 1) := by decide +kernel
theorem dX5_begin_6 : decode cX5_begin 6 = .ok (.iconst 1, 1) := by decide +kernel
theorem dX5_begin_7 : decode cX5_begin 7 = .ok (.putfield 29, 3) := by decide +kernel
theorem dX5_begin_10 : decode cX5_begin 10 = .ok (.aload_n 0, 1) := by decide +kernel
theorem dX5_begin_11 : decode cX5_begin 11 = .ok (.aload_n 0, 1) := by decide +kernel
theorem dX5_begin_12 : decode cX5_begin 12 = .ok (.getfield 21, 3) := by decide +kernel
theorem dX5_begin_15 : decode cX5_begin 15 = .ok (.getfield 32, 3) := by decide +kernel
theorem dX5_begin_18 : decode cX5_begin 18 = .ok (.putfield 37, 3) := by decide +kernel
theorem dX5_begin_21 : decode cX5_begin 21 = .ok (.aload_n 0, 1) := by decide +kernel
theorem dX5_begin_22 : decode cX5_begin 22 = .ok (.iconst 0, 1) := by decide +kernel
theorem dX5_begin_23 : decode cX5_begin 23 = .ok (.putfield 40, 3) := by decide +kernel
theorem dX5_begin_26 : decode cX5_begin 26 = .ok (.aload_n 0, 1) := by decide +kernel
theorem dX5_begin_27 : decode cX5_begin 27 = .ok (.aload_n 0, 1) := by decide +kernel
theorem dX5_begin_28 : decode cX5_begin 28 = .ok (.getfield 21, 3) := by decide +kernel
theorem dX5_begin_31 : decode cX5_begin 31 = .ok (.getfield 43, 3) := by decide +kernel
theorem dX5_begin_34 : decode cX5_begin 34 = .ok (.getfield 47, 3) := by decide +kernel
theorem dX5_begin_37 : decode cX5_begin 37 = .ok (.putfield 52, 3) := by decide +kernel
theorem dX5_begin_40 : decode cX5_begin 40 = .ok (.iconst 0, 1) := by decide +kernel
theorem dX5_begin_41 : decode cX5_begin 41 = .ok (.istore_n 1, 1) := by decide +kernel
theorem dX5_begin_42 : decode cX5_begin 42 = .ok (.iload_n 1, 1) := by decide +kernel
theorem dX5_begin_43 : decode cX5_begin 43 = .ok (.bipush 8, 2) := by decide +kernel
theorem dX5_begin_45 : decode cX5_begin 45 = .ok (.if_icmp .ge 16, 3) := by decide +kernel
theorem dX5_begin_48 : decode cX5_begin 48 = .ok (.aload_n 0, 1) := by decide +kernel
theorem dX5_begin_49 : decode cX5_begin 49 = .ok (.getfield 11, 3) := by decide +kernel
theorem dX5_begin_52 : decode cX5_begin 52 = .ok (.iload_n 1, 1) := by decide +kernel
theorem dX5_begin_53 : decode cX5_begin 53 = .ok (.iload_n 1, 1) := by decide +kernel
theorem dX5_begin_54 : decode cX5_begin 54 = .ok (.iastore, 1) := by decide +kernel
theorem dX5_begin_55 : decode cX5_begin 55 = .ok (.iinc 1 1, 3) := by decide +kernel
theorem dX5_begin_58 : decode cX5_begin 58 = .ok (.goto (-16), 3) := by decide +kernel
theorem dX5_begin_61 : decode cX5_begin 61 = .ok (.aload_n 0, 1) := by decide +kernel
theorem dX5_begin_62 : decode cX5_begin 62 = .ok (.getfield 15, 3) := by decide +kernel
theorem dX5_begin_65 : decode cX5_begin 65 = .ok (.iconst 0, 1) := by decide +kernel
theorem dX5_begin_66 : decode cX5_begin 66 = .ok (.invokestatic 55, 3) := by decide +kernel
theorem dX5_begin_69 : decode cX5_begin 69 = .ok (.aload_n 0, 1) := by decide +kernel
theorem dX5_begin_70 : decode cX5_begin 70 = .ok (.getfield 18, 3) := by decide +kernel
theorem dX5_begin_73 : decode cX5_begin 73 = .ok (.iconst 0, 1) := by decide +kernel
theorem dX5_begin_74 : decode cX5_begin 74 = .ok (.invokestatic 55, 3) := by decide +kernel
theorem dX5_begin_77 : decode cX5_begin 77 = .ok (.return_, 1) := by decide +kernel
theorem dX5_turnOrder_0 : decode cX5_turnOrder 0 = .ok (.iconst 0, 1) := by decide +kernel
theorem dX5_turnOrder_1 : decode cX5_turnOrder 1 = .ok (.istore_n 1, 1) := by decide +kernel
theorem dX5_turnOrder_2 : decode cX5_turnOrder 2 = .ok (.iload_n 1, 1) := by decide +kernel
theorem dX5_turnOrder_3 : decode cX5_turnOrder 3 = .ok (.aload_n 0, 1) := by decide +kernel
theorem dX5_turnOrder_4 : decode cX5_turnOrder 4 = .ok (.getfield 52, 3) := by decide +kernel
theorem dX5_turnOrder_7 : decode cX5_turnOrder 7 = .ok (.if_icmp .ge 29, 3) := by decide +kernel
theorem dX5_turnOrder_10 : decode cX5_turnOrder 10 = .ok (.iload_n 1, 1) := by decide +kernel
theorem dX5_turnOrder_11 : decode cX5_turnOrder 11 = .ok (.bipush 8, 2) := by decide +kernel
theorem dX5_turnOrder_13 : decode cX5_turnOrder 13 = .ok (.if_icmp .ge 23, 3) := by decide +kernel
theorem dX5_turnOrder_16 : decode cX5_turnOrder 16 = .ok (.aload_n 0, 1) := by decide +kernel
theorem dX5_turnOrder_17 : decode cX5_turnOrder 17 = .ok (.getfield 11, 3) := by decide +kernel
theorem dX5_turnOrder_20 : decode cX5_turnOrder 20 = .ok (.iload_n 1, 1) := by decide +kernel
theorem dX5_turnOrder_21 : decode cX5_turnOrder 21 = .ok (.aload_n 0, 1) := by decide +kernel
theorem dX5_turnOrder_22 : decode cX5_turnOrder 22 = .ok (.getfield 52, 3) := by decide +kernel
theorem dX5_turnOrder_25 : decode cX5_turnOrder 25 = .ok (.iconst 1, 1) := by decide +kernel
theorem dX5_turnOrder_26 : decode cX5_turnOrder 26 = .ok (.isub, 1) := by decide +kernel
theorem dX5_turnOrder_27 : decode cX5_turnOrder 27 = .ok (.iload_n 1, 1) := by decide +kernel
theorem dX5_turnOrder_28 : decode cX5_turnOrder 28 = .ok (.isub, 1) := by decide +kernel
theorem dX5_turnOrder_29 : decode cX5_turnOrder 29 = .ok (.iastore, 1) := by decide +kernel
theorem dX5_turnOrder_30 : decode cX5_turnOrder 30 = .ok (.iinc 1 1, 3) := by decide +kernel
theorem dX5_turnOrder_33 : decode cX5_turnOrder 33 = .ok (.goto (-31), 3) := by decide +kernel
theorem dX5_turnOrder_36 : decode cX5_turnOrder 36 = .ok (.return_, 1) := by decide +kernel
theorem dX5_copy_0 : decode cX5_copy 0 = .ok (.aload_n 0, 1) := by decide +kernel
theorem dX5_copy_1 : decode cX5_copy 1 = .ok (.aload_n 1, 1) := by decide +kernel
theorem dX5_copy_2 : decode cX5_copy 2 = .ok (.getfield 25, 3) := by decide +kernel
theorem dX5_copy_5 : decode cX5_copy 5 = .ok (.putfield 25, 3) := by decide +kernel
theorem dX5_copy_8 : decode cX5_copy 8 = .ok (.aload_n 0, 1) := by decide +kernel
theorem dX5_copy_9 : decode cX5_copy 9 = .ok (.aload_n 1, 1) := by decide +kernel
theorem dX5_copy_10 : decode cX5_copy 10 = .ok (.getfield 29, 3) := by decide +kernel
theorem dX5_copy_13 : decode cX5_copy 13 = .ok (.putfield 29, 3) := by decide +kernel
theorem dX5_copy_16 : decode cX5_copy 16 = .ok (.aload_n 0, 1) := by decide +kernel
theorem dX5_copy_17 : decode cX5_copy 17 = .ok (.aload_n 1, 1) := by decide +kernel
theorem dX5_copy_18 : decode cX5_copy 18 = .ok (.getfield 37, 3) := by decide +kernel
theorem dX5_copy_21 : decode cX5_copy 21 = .ok (.putfield 37, 3) := by decide +kernel
theorem dX5_copy_24 : decode cX5_copy 24 = .ok (.aload_n 0, 1) := by decide +kernel
theorem dX5_copy_25 : decode cX5_copy 25 = .ok (.aload_n 1, 1) := by decide +kernel
theorem dX5_copy_26 : decode cX5_copy 26 = .ok (.getfield 40, 3) := by decide +kernel
theorem dX5_copy_29 : decode cX5_copy 29 = .ok (.putfield 40, 3) := by decide +kernel
theorem dX5_copy_32 : decode cX5_copy 32 = .ok (.aload_n 0, 1) := by decide +kernel
theorem dX5_copy_33 : decode cX5_copy 33 = .ok (.aload_n 1, 1) := by decide +kernel
theorem dX5_copy_34 : decode cX5_copy 34 = .ok (.getfield 52, 3) := by decide +kernel
theorem dX5_copy_37 : decode cX5_copy 37 = .ok (.putfield 52, 3) := by decide +kernel
theorem dX5_copy_40 : decode cX5_copy 40 = .ok (.aload_n 1, 1) := by decide +kernel
theorem dX5_copy_41 : decode cX5_copy 41 = .ok (.getfield 11, 3) := by decide +kernel
theorem dX5_copy_44 : decode cX5_copy 44 = .ok (.iconst 0, 1) := by decide +kernel
theorem dX5_copy_45 : decode cX5_copy 45 = .ok (.aload_n 0, 1) := by decide +kernel
theorem dX5_copy_46 : decode cX5_copy 46 = .ok (.getfield 11, 3) := by decide +kernel
theorem dX5_copy_49 : decode cX5_copy 49 = .ok (.iconst 0, 1) := by decide +kernel
theorem dX5_copy_50 : decode cX5_copy 50 = .ok (.bipush 8, 2) := by decide +kernel
theorem dX5_copy_52 : decode cX5_copy 52 = .ok (.invokestatic 61, 3) := by decide +kernel
theorem dX5_copy_55 : decode cX5_copy 55 = .ok (.aload_n 1, 1) := by decide +kernel
theorem dX5_copy_56 : decode cX5_copy 56 = .ok (.getfield 15, 3) := by decide +kernel
theorem dX5_copy_59 : decode cX5_copy 59 = .ok (.iconst 0, 1) := by decide +kernel
theorem dX5_copy_60 : decode cX5_copy 60 = .ok (.aload_n 0, 1) := by decide +kernel
theorem dX5_copy_61 : decode cX5_copy 61 = .ok (.getfield 15, 3) := by decide +kernel
theorem dX5_copy_64 : decode cX5_copy 64 = .ok (.iconst 0, 1) := by decide +kernel
theorem dX5_copy_65 : decode cX5_copy 65 = .ok (.bipush 8, 2) := by decide +kernel
theorem dX5_copy_67 : decode cX5_copy 67 = .ok (.invokestatic 61, 3) := by decide +kernel
theorem dX5_copy_70 : decode cX5_copy 70 = .ok (.aload_n 1, 1) := by decide +kernel
theorem dX5_copy_71 : decode cX5_copy 71 = .ok (.getfield 18, 3) := by decide +kernel
theorem dX5_copy_74 : decode cX5_copy 74 = .ok (.iconst 0, 1) := by decide +kernel
theorem dX5_copy_75 : decode cX5_copy 75 = .ok (.aload_n 0, 1) := by decide +kernel
theorem dX5_copy_76 : decode cX5_copy 76 = .ok (.getfield 18, 3) := by decide +kernel
theorem dX5_copy_79 : decode cX5_copy 79 = .ok (.iconst 0, 1) := by decide +kernel
theorem dX5_copy_80 : decode cX5_copy 80 = .ok (.sipush 256, 3) := by decide +kernel
theorem dX5_copy_83 : decode cX5_copy 83 = .ok (.invokestatic 61, 3) := by decide +kernel
theorem dX5_copy_86 : decode cX5_copy 86 = .ok (.return_, 1) := by decide +kernel
theorem dX5_save_0 : decode cX5_save 0 = .ok (.aload_n 1, 1) := by decide +kernel
theorem dX5_save_1 : decode cX5_save 1 = .ok (.iconst 0, 1) := by decide +kernel
theorem dX5_save_2 : decode cX5_save 2 = .ok (.aload_n 0, 1) := by decide +kernel
theorem dX5_save_3 : decode cX5_save 3 = .ok (.getfield 25, 3) := by decide +kernel
theorem dX5_save_6 : decode cX5_save 6 = .ok (.iastore, 1) := by decide +kernel
theorem dX5_save_7 : decode cX5_save 7 = .ok (.aload_n 1, 1) := by decide +kernel
theorem dX5_save_8 : decode cX5_save 8 = .ok (.iconst 1, 1) := by decide +kernel
theorem dX5_save_9 : decode cX5_save 9 = .ok (.aload_n 0, 1) := by decide +kernel
theorem dX5_save_10 : decode cX5_save 10 = .ok (.getfield 29, 3) := by decide +kernel
theorem dX5_save_13 : decode cX5_save 13 = .ok (.iastore, 1) := by decide +kernel
theorem dX5_save_14 : decode cX5_save 14 = .ok (.aload_n 1, 1) := by decide +kernel
theorem dX5_save_15 : decode cX5_save 15 = .ok (.iconst 2, 1) := by decide +kernel
theorem dX5_save_16 : decode cX5_save 16 = .ok (.aload_n 0, 1) := by decide +kernel
theorem dX5_save_17 : decode cX5_save 17 = .ok (.getfield 37, 3) := by decide +kernel
theorem dX5_save_20 : decode cX5_save 20 = .ok (.iastore, 1) := by decide +kernel
theorem dX5_save_21 : decode cX5_save 21 = .ok (.aload_n 1, 1) := by decide +kernel
theorem dX5_save_22 : decode cX5_save 22 = .ok (.iconst 3, 1) := by decide +kernel
theorem dX5_save_23 : decode cX5_save 23 = .ok (.aload_n 0, 1) := by decide +kernel
theorem dX5_save_24 : decode cX5_save 24 = .ok (.getfield 40, 3) := by decide +kernel
theorem dX5_save_27 : decode cX5_save 27 = .ok (.iastore, 1) := by decide +kernel
theorem dX5_save_28 : decode cX5_save 28 = .ok (.aload_n 1, 1) := by decide +kernel
theorem dX5_save_29 : decode cX5_save 29 = .ok (.iconst 4, 1) := by decide +kernel
theorem dX5_save_30 : decode cX5_save 30 = .ok (.aload_n 0, 1) := by decide +kernel
theorem dX5_save_31 : decode cX5_save 31 = .ok (.getfield 52, 3) := by decide +kernel
theorem dX5_save_34 : decode cX5_save 34 = .ok (.iastore, 1) := by decide +kernel
theorem dX5_save_35 : decode cX5_save 35 = .ok (.aload_n 0, 1) := by decide +kernel
theorem dX5_save_36 : decode cX5_save 36 = .ok (.getfield 11, 3) := by decide +kernel
theorem dX5_save_39 : decode cX5_save 39 = .ok (.iconst 0, 1) := by decide +kernel
theorem dX5_save_40 : decode cX5_save 40 = .ok (.aload_n 1, 1) := by decide +kernel
theorem dX5_save_41 : decode cX5_save 41 = .ok (.iconst 5, 1) := by decide +kernel
theorem dX5_save_42 : decode cX5_save 42 = .ok (.bipush 8, 2) := by decide +kernel
theorem dX5_save_44 : decode cX5_save 44 = .ok (.invokestatic 61, 3) := by decide +kernel
theorem dX5_save_47 : decode cX5_save 47 = .ok (.aload_n 0, 1) := by decide +kernel
theorem dX5_save_48 : decode cX5_save 48 = .ok (.getfield 15, 3) := by decide +kernel
theorem dX5_save_51 : decode cX5_save 51 = .ok (.iconst 0, 1) := by decide +kernel
theorem dX5_save_52 : decode cX5_save 52 = .ok (.aload_n 1, 1) := by decide +kernel
theorem dX5_save_53 : decode cX5_save 53 = .ok (.bipush 13, 2) := by decide +kernel
theorem dX5_save_55 : decode cX5_save 55 = .ok (.bipush 8, 2) := by decide +kernel
theorem dX5_save_57 : decode cX5_save 57 = .ok (.invokestatic 61, 3) := by decide +kernel
theorem dX5_save_60 : decode cX5_save 60 = .ok (.aload_n 0, 1) := by decide +kernel
theorem dX5_save_61 : decode cX5_save 61 = .ok (.getfield 18, 3) := by decide +kernel
theorem dX5_save_64 : decode cX5_save 64 = .ok (.iconst 0, 1) := by decide +kernel
theorem dX5_save_65 : decode cX5_save 65 = .ok (.aload_n 1, 1) := by decide +kernel
theorem dX5_save_66 : decode cX5_save 66 = .ok (.bipush 21, 2) := by decide +kernel
theorem dX5_save_68 : decode cX5_save 68 = .ok (.sipush 256, 3) := by decide +kernel
theorem dX5_save_71 : decode cX5_save 71 = .ok (.invokestatic 61, 3) := by decide +kernel
theorem dX5_save_74 : decode cX5_save 74 = .ok (.return_, 1) := by decide +kernel
theorem dX5_load_0 : decode cX5_load 0 = .ok (.aload_n 0, 1) := by decide +kernel
theorem dX5_load_1 : decode cX5_load 1 = .ok (.aload_n 1, 1) := by decide +kernel
theorem dX5_load_2 : decode cX5_load 2 = .ok (.iconst 0, 1) := by decide +kernel
theorem dX5_load_3 : decode cX5_load 3 = .ok (.iaload, 1) := by decide +kernel
theorem dX5_load_4 : decode cX5_load 4 = .ok (.putfield 25, 3) := by decide +kernel
theorem dX5_load_7 : decode cX5_load 7 = .ok (.aload_n 0, 1) := by decide +kernel
theorem dX5_load_8 : decode cX5_load 8 = .ok (.aload_n 1, 1) := by decide +kernel
theorem dX5_load_9 : decode cX5_load 9 = .ok (.iconst 1, 1) := by decide +kernel
theorem dX5_load_10 : decode cX5_load 10 = .ok (.iaload, 1) := by decide +kernel
theorem dX5_load_11 : decode cX5_load 11 = .ok (.putfield 29, 3) := by decide +kernel
theorem dX5_load_14 : decode cX5_load 14 = .ok (.aload_n 0, 1) := by decide +kernel
theorem dX5_load_15 : decode cX5_load 15 = .ok (.aload_n 1, 1) := by decide +kernel
theorem dX5_load_16 : decode cX5_load 16 = .ok (.iconst 2, 1) := by decide +kernel
theorem dX5_load_17 : decode cX5_load 17 = .ok (.iaload, 1) := by decide +kernel
theorem dX5_load_18 : decode cX5_load 18 = .ok (.putfield 37, 3) := by decide +kernel
theorem dX5_load_21 : decode cX5_load 21 = .ok (.aload_n 0, 1) := by decide +kernel
theorem dX5_load_22 : decode cX5_load 22 = .ok (.aload_n 1, 1) := by decide +kernel
theorem dX5_load_23 : decode cX5_load 23 = .ok (.iconst 3, 1) := by decide +kernel
theorem dX5_load_24 : decode cX5_load 24 = .ok (.iaload, 1) := by decide +kernel
theorem dX5_load_25 : decode cX5_load 25 = .ok (.putfield 40, 3) := by decide +kernel
theorem dX5_load_28 : decode cX5_load 28 = .ok (.aload_n 0, 1) := by decide +kernel
theorem dX5_load_29 : decode cX5_load 29 = .ok (.aload_n 1, 1) := by decide +kernel
theorem dX5_load_30 : decode cX5_load 30 = .ok (.iconst 4, 1) := by decide +kernel
theorem dX5_load_31 : decode cX5_load 31 = .ok (.iaload, 1) := by decide +kernel
theorem dX5_load_32 : decode cX5_load 32 = .ok (.putfield 52, 3) := by decide +kernel
theorem dX5_load_35 : decode cX5_load 35 = .ok (.aload_n 1, 1) := by decide +kernel
theorem dX5_load_36 : decode cX5_load 36 = .ok (.iconst 5, 1) := by decide +kernel
theorem dX5_load_37 : decode cX5_load 37 = .ok (.aload_n 0, 1) := by decide +kernel
theorem dX5_load_38 : decode cX5_load 38 = .ok (.getfield 11, 3) := by decide +kernel
theorem dX5_load_41 : decode cX5_load 41 = .ok (.iconst 0, 1) := by decide +kernel
theorem dX5_load_42 : decode cX5_load 42 = .ok (.bipush 8, 2) := by decide +kernel
theorem dX5_load_44 : decode cX5_load 44 = .ok (.invokestatic 61, 3) := by decide +kernel
theorem dX5_load_47 : decode cX5_load 47 = .ok (.aload_n 1, 1) := by decide +kernel
theorem dX5_load_48 : decode cX5_load 48 = .ok (.bipush 13, 2) := by decide +kernel
theorem dX5_load_50 : decode cX5_load 50 = .ok (.aload_n 0, 1) := by decide +kernel
theorem dX5_load_51 : decode cX5_load 51 = .ok (.getfield 15, 3) := by decide +kernel
theorem dX5_load_54 : decode cX5_load 54 = .ok (.iconst 0, 1) := by decide +kernel
theorem dX5_load_55 : decode cX5_load 55 = .ok (.bipush 8, 2) := by decide +kernel
theorem dX5_load_57 : decode cX5_load 57 = .ok (.invokestatic 61, 3) := by decide +kernel
theorem dX5_load_60 : decode cX5_load 60 = .ok (.aload_n 1, 1) := by decide +kernel
theorem dX5_load_61 : decode cX5_load 61 = .ok (.bipush 21, 2) := by decide +kernel
theorem dX5_load_63 : decode cX5_load 63 = .ok (.aload_n 0, 1) := by decide +kernel
theorem dX5_load_64 : decode cX5_load 64 = .ok (.getfield 18, 3) := by decide +kernel
theorem dX5_load_67 : decode cX5_load 67 = .ok (.iconst 0, 1) := by decide +kernel
theorem dX5_load_68 : decode cX5_load 68 = .ok (.sipush 256, 3) := by decide +kernel
theorem dX5_load_71 : decode cX5_load 71 = .ok (.invokestatic 61, 3) := by decide +kernel
theorem dX5_load_74 : decode cX5_load 74 = .ok (.return_, 1) := by decide +kernel
theorem dX5_nextMan_0 : decode cX5_nextMan 0 = .ok (.aload_n 0, 1) := by decide +kernel
theorem dX5_nextMan_1 : decode cX5_nextMan 1 = .ok (.getfield 40, 3) := by decide +kernel
theorem dX5_nextMan_4 : decode cX5_nextMan 4 = .ok (.aload_n 0, 1) := by decide +kernel
theorem dX5_nextMan_5 : decode cX5_nextMan 5 = .ok (.getfield 52, 3) := by decide +kernel
theorem dX5_nextMan_8 : decode cX5_nextMan 8 = .ok (.if_icmp .ge 24, 3) := by decide +kernel
theorem dX5_nextMan_11 : decode cX5_nextMan 11 = .ok (.aload_n 0, 1) := by decide +kernel
theorem dX5_nextMan_12 : decode cX5_nextMan 12 = .ok (.getfield 40, 3) := by decide +kernel
theorem dX5_nextMan_15 : decode cX5_nextMan 15 = .ok (.bipush 8, 2) := by decide +kernel
theorem dX5_nextMan_17 : decode cX5_nextMan 17 = .ok (.if_icmp .ge 15, 3) := by decide +kernel
theorem dX5_nextMan_20 : decode cX5_nextMan 20 = .ok (.aload_n 0, 1) := by decide +kernel
theorem dX5_nextMan_21 : decode cX5_nextMan 21 = .ok (.getfield 11, 3) := by decide +kernel
theorem dX5_nextMan_24 : decode cX5_nextMan 24 = .ok (.aload_n 0, 1) := by decide +kernel
theorem dX5_nextMan_25 : decode cX5_nextMan 25 = .ok (.getfield 40, 3) := by decide +kernel
theorem dX5_nextMan_28 : decode cX5_nextMan 28 = .ok (.iaload, 1) := by decide +kernel
theorem dX5_nextMan_29 : decode cX5_nextMan 29 = .ok (.goto 5, 3) := by decide +kernel
theorem dX5_nextMan_32 : decode cX5_nextMan 32 = .ok (.bipush (-2), 2) := by decide +kernel
theorem dX5_nextMan_34 : decode cX5_nextMan 34 = .ok (.ireturn, 1) := by decide +kernel
theorem dX5_isToStart_0 : decode cX5_isToStart 0 = .ok (.aload_n 0, 1) := by decide +kernel
theorem dX5_isToStart_1 : decode cX5_isToStart 1 = .ok (.getfield 40, 3) := by decide +kernel
theorem dX5_isToStart_4 : decode cX5_isToStart 4 = .ok (.istore_n 2, 1) := by decide +kernel
theorem dX5_isToStart_5 : decode cX5_isToStart 5 = .ok (.iload_n 2, 1) := by decide +kernel
theorem dX5_isToStart_6 : decode cX5_isToStart 6 = .ok (.aload_n 0, 1) := by decide +kernel
theorem dX5_isToStart_7 : decode cX5_isToStart 7 = .ok (.getfield 52, 3) := by decide +kernel
theorem dX5_isToStart_10 : decode cX5_isToStart 10 = .ok (.if_icmp .ge 27, 3) := by decide +kernel
theorem dX5_isToStart_13 : decode cX5_isToStart 13 = .ok (.iload_n 2, 1) := by decide +kernel
theorem dX5_isToStart_14 : decode cX5_isToStart 14 = .ok (.bipush 8, 2) := by decide +kernel
theorem dX5_isToStart_16 : decode cX5_isToStart 16 = .ok (.if_icmp .ge 21, 3) := by decide +kernel
theorem dX5_isToStart_19 : decode cX5_isToStart 19 = .ok (.aload_n 0, 1) := by decide +kernel
theorem dX5_isToStart_20 : decode cX5_isToStart 20 = .ok (.getfield 11, 3) := by decide +kernel
theorem dX5_isToStart_23 : decode cX5_isToStart 23 = .ok (.iload_n 2, 1) := by decide +kernel
theorem dX5_isToStart_24 : decode cX5_isToStart 24 = .ok (.iaload, 1) := by decide +kernel
theorem dX5_isToStart_25 : decode cX5_isToStart 25 = .ok (.iload_n 1, 1) := by decide +kernel
theorem dX5_isToStart_26 : decode cX5_isToStart 26 = .ok (.if_icmp .ne 5, 3) := by decide +kernel
theorem dX5_isToStart_29 : decode cX5_isToStart 29 = .ok (.iconst 1, 1) := by decide +kernel
theorem dX5_isToStart_30 : decode cX5_isToStart 30 = .ok (.ireturn, 1) := by decide +kernel
theorem dX5_isToStart_31 : decode cX5_isToStart 31 = .ok (.iinc 2 1, 3) := by decide +kernel
theorem dX5_isToStart_34 : decode cX5_isToStart 34 = .ok (.goto (-29), 3) := by decide +kernel
theorem dX5_isToStart_37 : decode cX5_isToStart 37 = .ok (.iconst 0, 1) := by decide +kernel
theorem dX5_isToStart_38 : decode cX5_isToStart 38 = .ok (.ireturn, 1) := by decide +kernel
theorem dX5_hasJump_0 : decode cX5_hasJump 0 = .ok (.iload_n 1, 1) := by decide +kernel
theorem dX5_hasJump_1 : decode cX5_hasJump 1 = .ok (.iconst 0, 1) := by decide +kernel
theorem dX5_hasJump_2 : decode cX5_hasJump 2 = .ok (.bipush 7, 2) := by decide +kernel
theorem dX5_hasJump_4 : decode cX5_hasJump 4 = .ok (.invokestatic 67, 3) := by decide +kernel
theorem dX5_hasJump_7 : decode cX5_hasJump 7 = .ok (.ifCond .eq 28, 3) := by decide +kernel
theorem dX5_hasJump_10 : decode cX5_hasJump 10 = .ok (.iload_n 2, 1) := by decide +kernel
theorem dX5_hasJump_11 : decode cX5_hasJump 11 = .ok (.iconst 1, 1) := by decide +kernel
theorem dX5_hasJump_12 : decode cX5_hasJump 12 = .ok (.iconst 2, 1) := by decide +kernel
theorem dX5_hasJump_13 : decode cX5_hasJump 13 = .ok (.invokestatic 67, 3) := by decide +kernel
theorem dX5_hasJump_16 : decode cX5_hasJump 16 = .ok (.ifCond .eq 19, 3) := by decide +kernel
theorem dX5_hasJump_19 : decode cX5_hasJump 19 = .ok (.aload_n 0, 1) := by decide +kernel
theorem dX5_hasJump_20 : decode cX5_hasJump 20 = .ok (.iload_n 1, 1) := by decide +kernel
theorem dX5_hasJump_21 : decode cX5_hasJump 21 = .ok (.iload_n 2, 1) := by decide +kernel
theorem dX5_hasJump_22 : decode cX5_hasJump 22 = .ok (.bipush 8, 2) := by decide +kernel
theorem dX5_hasJump_24 : decode cX5_hasJump 24 = .ok (.invokevirtual 71, 3) := by decide +kernel
theorem dX5_hasJump_27 : decode cX5_hasJump 27 = .ok (.iconst 1, 1) := by decide +kernel
theorem dX5_hasJump_28 : decode cX5_hasJump 28 = .ok (.if_icmp .ne 7, 3) := by decide +kernel
theorem dX5_hasJump_31 : decode cX5_hasJump 31 = .ok (.iconst 1, 1) := by decide +kernel
theorem dX5_hasJump_32 : decode cX5_hasJump 32 = .ok (.goto 4, 3) := by decide +kernel
theorem dX5_hasJump_35 : decode cX5_hasJump 35 = .ok (.iconst 0, 1) := by decide +kernel
theorem dX5_hasJump_36 : decode cX5_hasJump 36 = .ok (.ireturn, 1) := by decide +kernel
theorem dX5_cell_0 : decode cX5_cell 0 = .ok (.iload_n 1, 1) := by decide +kernel
theorem dX5_cell_1 : decode cX5_cell 1 = .ok (.iload_n 2, 1) := by decide +kernel
theorem dX5_cell_2 : decode cX5_cell 2 = .ok (.invokestatic 75, 3) := by decide +kernel
theorem dX5_cell_5 : decode cX5_cell 5 = .ok (.iload_n 3, 1) := by decide +kernel
theorem dX5_cell_6 : decode cX5_cell 6 = .ok (.iadd, 1) := by decide +kernel
theorem dX5_cell_7 : decode cX5_cell 7 = .ok (.istore 4, 2) := by decide +kernel
theorem dX5_cell_9 : decode cX5_cell 9 = .ok (.iload 4, 2) := by decide +kernel
theorem dX5_cell_11 : decode cX5_cell 11 = .ok (.ifCond .lt 21, 3) := by decide +kernel
theorem dX5_cell_14 : decode cX5_cell 14 = .ok (.iload 4, 2) := by decide +kernel
theorem dX5_cell_16 : decode cX5_cell 16 = .ok (.sipush 256, 3) := by decide +kernel
theorem dX5_cell_19 : decode cX5_cell 19 = .ok (.if_icmp .ge 13, 3) := by decide +kernel
theorem dX5_cell_22 : decode cX5_cell 22 = .ok (.aload_n 0, 1) := by decide +kernel
theorem dX5_cell_23 : decode cX5_cell 23 = .ok (.getfield 18, 3) := by decide +kernel
theorem dX5_cell_26 : decode cX5_cell 26 = .ok (.iload 4, 2) := by decide +kernel
theorem dX5_cell_28 : decode cX5_cell 28 = .ok (.iaload, 1) := by decide +kernel
theorem dX5_cell_29 : decode cX5_cell 29 = .ok (.goto 4, 3) := by decide +kernel
theorem dX5_cell_32 : decode cX5_cell 32 = .ok (.iconst 0, 1) := by decide +kernel
theorem dX5_cell_33 : decode cX5_cell 33 = .ok (.ireturn, 1) := by decide +kernel
theorem dX5_styleWithout_0 : decode cX5_styleWithout 0 = .ok (.aload_n 0, 1) := by decide +kernel
theorem dX5_styleWithout_1 : decode cX5_styleWithout 1 = .ok (.getfield 18, 3) := by decide +kernel
theorem dX5_styleWithout_4 : decode cX5_styleWithout 4 = .ok (.iload_n 1, 1) := by decide +kernel
theorem dX5_styleWithout_5 : decode cX5_styleWithout 5 = .ok (.iload_n 2, 1) := by decide +kernel
theorem dX5_styleWithout_6 : decode cX5_styleWithout 6 = .ok (.invokestatic 75, 3) := by decide +kernel
theorem dX5_styleWithout_9 : decode cX5_styleWithout 9 = .ok (.bipush 9, 2) := by decide +kernel
theorem dX5_styleWithout_11 : decode cX5_styleWithout 11 = .ok (.iadd, 1) := by decide +kernel
theorem dX5_styleWithout_12 : decode cX5_styleWithout 12 = .ok (.aload_n 0, 1) := by decide +kernel
theorem dX5_styleWithout_13 : decode cX5_styleWithout 13 = .ok (.getfield 21, 3) := by decide +kernel
theorem dX5_styleWithout_16 : decode cX5_styleWithout 16 = .ok (.getfield 43, 3) := by decide +kernel
theorem dX5_styleWithout_19 : decode cX5_styleWithout 19 = .ok (.getfield 79, 3) := by decide +kernel
theorem dX5_styleWithout_22 : decode cX5_styleWithout 22 = .ok (.iload_n 3, 1) := by decide +kernel
theorem dX5_styleWithout_23 : decode cX5_styleWithout 23 = .ok (.invokestatic 82, 3) := by decide +kernel
theorem dX5_styleWithout_26 : decode cX5_styleWithout 26 = .ok (.ireturn, 1) := by decide +kernel
theorem dX5_enter_0 : decode cX5_enter 0 = .ok (.iload_n 1, 1) := by decide +kernel
theorem dX5_enter_1 : decode cX5_enter 1 = .ok (.aload_n 0, 1) := by decide +kernel
theorem dX5_enter_2 : decode cX5_enter 2 = .ok (.getfield 29, 3) := by decide +kernel
theorem dX5_enter_5 : decode cX5_enter 5 = .ok (.invokestatic 75, 3) := by decide +kernel
theorem dX5_enter_8 : decode cX5_enter 8 = .ok (.istore 5, 2) := by decide +kernel
theorem dX5_enter_10 : decode cX5_enter 10 = .ok (.iload 5, 2) := by decide +kernel
theorem dX5_enter_12 : decode cX5_enter 12 = .ok (.iconst 0, 1) := by decide +kernel
theorem dX5_enter_13 : decode cX5_enter 13 = .ok (.sipush 240, 3) := by decide +kernel
theorem dX5_enter_16 : decode cX5_enter 16 = .ok (.invokestatic 67, 3) := by decide +kernel
theorem dX5_enter_19 : decode cX5_enter 19 = .ok (.ifCond .ne 4, 3) := by decide +kernel
theorem dX5_enter_22 : decode cX5_enter 22 = .ok (.return_, 1) := by decide +kernel
theorem dX5_enter_23 : decode cX5_enter 23 = .ok (.aload_n 0, 1) := by decide +kernel
theorem dX5_enter_24 : decode cX5_enter 24 = .ok (.getfield 18, 3) := by decide +kernel
theorem dX5_enter_27 : decode cX5_enter 27 = .ok (.iload 5, 2) := by decide +kernel
theorem dX5_enter_29 : decode cX5_enter 29 = .ok (.iconst 0, 1) := by decide +kernel
theorem dX5_enter_30 : decode cX5_enter 30 = .ok (.iadd, 1) := by decide +kernel
theorem dX5_enter_31 : decode cX5_enter 31 = .ok (.aload 4, 2) := by decide +kernel
theorem dX5_enter_33 : decode cX5_enter 33 = .ok (.getfield 86, 3) := by decide +kernel
theorem dX5_enter_36 : decode cX5_enter 36 = .ok (.iastore, 1) := by decide +kernel
theorem dX5_enter_37 : decode cX5_enter 37 = .ok (.aload_n 0, 1) := by decide +kernel
theorem dX5_enter_38 : decode cX5_enter 38 = .ok (.getfield 18, 3) := by decide +kernel
theorem dX5_enter_41 : decode cX5_enter 41 = .ok (.iload 5, 2) := by decide +kernel
theorem dX5_enter_43 : decode cX5_enter 43 = .ok (.iconst 1, 1) := by decide +kernel
theorem dX5_enter_44 : decode cX5_enter 44 = .ok (.iadd, 1) := by decide +kernel
theorem dX5_enter_45 : decode cX5_enter 45 = .ok (.aload 4, 2) := by decide +kernel
theorem dX5_enter_47 : decode cX5_enter 47 = .ok (.getfield 91, 3) := by decide +kernel
theorem dX5_enter_50 : decode cX5_enter 50 = .ok (.iastore, 1) := by decide +kernel
theorem dX5_enter_51 : decode cX5_enter 51 = .ok (.aload_n 0, 1) := by decide +kernel
theorem dX5_enter_52 : decode cX5_enter 52 = .ok (.getfield 18, 3) := by decide +kernel
theorem dX5_enter_55 : decode cX5_enter 55 = .ok (.iload 5, 2) := by decide +kernel
theorem dX5_enter_57 : decode cX5_enter 57 = .ok (.iconst 2, 1) := by decide +kernel
theorem dX5_enter_58 : decode cX5_enter 58 = .ok (.iadd, 1) := by decide +kernel
theorem dX5_enter_59 : decode cX5_enter 59 = .ok (.aload 4, 2) := by decide +kernel
theorem dX5_enter_61 : decode cX5_enter 61 = .ok (.getfield 94, 3) := by decide +kernel
theorem dX5_enter_64 : decode cX5_enter 64 = .ok (.iastore, 1) := by decide +kernel
theorem dX5_enter_65 : decode cX5_enter 65 = .ok (.aload_n 0, 1) := by decide +kernel
theorem dX5_enter_66 : decode cX5_enter 66 = .ok (.getfield 18, 3) := by decide +kernel
theorem dX5_enter_69 : decode cX5_enter 69 = .ok (.iload 5, 2) := by decide +kernel
theorem dX5_enter_71 : decode cX5_enter 71 = .ok (.iconst 3, 1) := by decide +kernel
theorem dX5_enter_72 : decode cX5_enter 72 = .ok (.iadd, 1) := by decide +kernel
theorem dX5_enter_73 : decode cX5_enter 73 = .ok (.iload_n 2, 1) := by decide +kernel
theorem dX5_enter_74 : decode cX5_enter 74 = .ok (.iastore, 1) := by decide +kernel
theorem dX5_enter_75 : decode cX5_enter 75 = .ok (.aload_n 0, 1) := by decide +kernel
theorem dX5_enter_76 : decode cX5_enter 76 = .ok (.getfield 18, 3) := by decide +kernel
theorem dX5_enter_79 : decode cX5_enter 79 = .ok (.iload 5, 2) := by decide +kernel
theorem dX5_enter_81 : decode cX5_enter 81 = .ok (.iconst 4, 1) := by decide +kernel
theorem dX5_enter_82 : decode cX5_enter 82 = .ok (.iadd, 1) := by decide +kernel
theorem dX5_enter_83 : decode cX5_enter 83 = .ok (.iload_n 3, 1) := by decide +kernel
theorem dX5_enter_84 : decode cX5_enter 84 = .ok (.iastore, 1) := by decide +kernel
theorem dX5_enter_85 : decode cX5_enter 85 = .ok (.aload_n 0, 1) := by decide +kernel
theorem dX5_enter_86 : decode cX5_enter 86 = .ok (.getfield 18, 3) := by decide +kernel
theorem dX5_enter_89 : decode cX5_enter 89 = .ok (.iload 5, 2) := by decide +kernel
theorem dX5_enter_91 : decode cX5_enter 91 = .ok (.iconst 5, 1) := by decide +kernel
theorem dX5_enter_92 : decode cX5_enter 92 = .ok (.iadd, 1) := by decide +kernel
theorem dX5_enter_93 : decode cX5_enter 93 = .ok (.aload_n 0, 1) := by decide +kernel
theorem dX5_enter_94 : decode cX5_enter 94 = .ok (.getfield 37, 3) := by decide +kernel
theorem dX5_enter_97 : decode cX5_enter 97 = .ok (.iastore, 1) := by decide +kernel
theorem dX5_enter_98 : decode cX5_enter 98 = .ok (.aload_n 0, 1) := by decide +kernel
theorem dX5_enter_99 : decode cX5_enter 99 = .ok (.getfield 18, 3) := by decide +kernel
theorem dX5_enter_102 : decode cX5_enter 102 = .ok (.iload 5, 2) := by decide +kernel
theorem dX5_enter_104 : decode cX5_enter 104 = .ok (.bipush 6, 2) := by decide +kernel
theorem dX5_enter_106 : decode cX5_enter 106 = .ok (.iadd, 1) := by decide +kernel
theorem dX5_enter_107 : decode cX5_enter 107 = .ok (.aload 4, 2) := by decide +kernel
theorem dX5_enter_109 : decode cX5_enter 109 = .ok (.getfield 97, 3) := by decide +kernel
theorem dX5_enter_112 : decode cX5_enter 112 = .ok (.iastore, 1) := by decide +kernel
theorem dX5_enter_113 : decode cX5_enter 113 = .ok (.aload_n 0, 1) := by decide +kernel
theorem dX5_enter_114 : decode cX5_enter 114 = .ok (.getfield 18, 3) := by decide +kernel
theorem dX5_enter_117 : decode cX5_enter 117 = .ok (.iload 5, 2) := by decide +kernel
theorem dX5_enter_119 : decode cX5_enter 119 = .ok (.bipush 7, 2) := by decide +kernel
theorem dX5_enter_121 : decode cX5_enter 121 = .ok (.iadd, 1) := by decide +kernel
theorem dX5_enter_122 : decode cX5_enter 122 = .ok (.aload_n 0, 1) := by decide +kernel
theorem dX5_enter_123 : decode cX5_enter 123 = .ok (.getfield 40, 3) := by decide +kernel
theorem dX5_enter_126 : decode cX5_enter 126 = .ok (.iastore, 1) := by decide +kernel
theorem dX5_enter_127 : decode cX5_enter 127 = .ok (.aload_n 0, 1) := by decide +kernel
theorem dX5_enter_128 : decode cX5_enter 128 = .ok (.getfield 18, 3) := by decide +kernel
theorem dX5_enter_131 : decode cX5_enter 131 = .ok (.iload 5, 2) := by decide +kernel
theorem dX5_enter_133 : decode cX5_enter 133 = .ok (.bipush 8, 2) := by decide +kernel
theorem dX5_enter_135 : decode cX5_enter 135 = .ok (.iadd, 1) := by decide +kernel
theorem dX5_enter_136 : decode cX5_enter 136 = .ok (.iconst 1, 1) := by decide +kernel
theorem dX5_enter_137 : decode cX5_enter 137 = .ok (.iastore, 1) := by decide +kernel
theorem dX5_enter_138 : decode cX5_enter 138 = .ok (.aload 4, 2) := by decide +kernel
theorem dX5_enter_140 : decode cX5_enter 140 = .ok (.getfield 100, 3) := by decide +kernel
theorem dX5_enter_143 : decode cX5_enter 143 = .ok (.iconst 0, 1) := by decide +kernel
theorem dX5_enter_144 : decode cX5_enter 144 = .ok (.aload_n 0, 1) := by decide +kernel
theorem dX5_enter_145 : decode cX5_enter 145 = .ok (.getfield 18, 3) := by decide +kernel
theorem dX5_enter_148 : decode cX5_enter 148 = .ok (.iload 5, 2) := by decide +kernel
theorem dX5_enter_150 : decode cX5_enter 150 = .ok (.bipush 9, 2) := by decide +kernel
theorem dX5_enter_152 : decode cX5_enter 152 = .ok (.iadd, 1) := by decide +kernel
theorem dX5_enter_153 : decode cX5_enter 153 = .ok (.bipush 7, 2) := by decide +kernel
theorem dX5_enter_155 : decode cX5_enter 155 = .ok (.invokestatic 61, 3) := by decide +kernel
theorem dX5_enter_158 : decode cX5_enter 158 = .ok (.aload_n 0, 1) := by decide +kernel
theorem dX5_enter_159 : decode cX5_enter 159 = .ok (.getfield 15, 3) := by decide +kernel
theorem dX5_enter_162 : decode cX5_enter 162 = .ok (.iload_n 1, 1) := by decide +kernel
theorem dX5_enter_163 : decode cX5_enter 163 = .ok (.dup2, 1) := by decide +kernel
theorem dX5_enter_164 : decode cX5_enter 164 = .ok (.iaload, 1) := by decide +kernel
theorem dX5_enter_165 : decode cX5_enter 165 = .ok (.aload 4, 2) := by decide +kernel
theorem dX5_enter_167 : decode cX5_enter 167 = .ok (.getfield 91, 3) := by decide +kernel
theorem dX5_enter_170 : decode cX5_enter 170 = .ok (.iadd, 1) := by decide +kernel
theorem dX5_enter_171 : decode cX5_enter 171 = .ok (.iastore, 1) := by decide +kernel
theorem dX5_enter_172 : decode cX5_enter 172 = .ok (.aload_n 0, 1) := by decide +kernel
theorem dX5_enter_173 : decode cX5_enter 173 = .ok (.iload_n 3, 1) := by decide +kernel
theorem dX5_enter_174 : decode cX5_enter 174 = .ok (.aload_n 0, 1) := by decide +kernel
theorem dX5_enter_175 : decode cX5_enter 175 = .ok (.getfield 21, 3) := by decide +kernel
theorem dX5_enter_178 : decode cX5_enter 178 = .ok (.getfield 103, 3) := by decide +kernel
theorem dX5_enter_181 : decode cX5_enter 181 = .ok (.iadd, 1) := by decide +kernel
theorem dX5_enter_182 : decode cX5_enter 182 = .ok (.putfield 25, 3) := by decide +kernel
theorem dX5_enter_185 : decode cX5_enter 185 = .ok (.aload_n 0, 1) := by decide +kernel
theorem dX5_enter_186 : decode cX5_enter 186 = .ok (.dup, 1) := by decide +kernel
theorem dX5_enter_187 : decode cX5_enter 187 = .ok (.getfield 40, 3) := by decide +kernel
theorem dX5_enter_190 : decode cX5_enter 190 = .ok (.iconst 1, 1) := by decide +kernel
theorem dX5_enter_191 : decode cX5_enter 191 = .ok (.iadd, 1) := by decide +kernel
theorem dX5_enter_192 : decode cX5_enter 192 = .ok (.putfield 40, 3) := by decide +kernel
theorem dX5_enter_195 : decode cX5_enter 195 = .ok (.aload_n 0, 1) := by decide +kernel
theorem dX5_enter_196 : decode cX5_enter 196 = .ok (.getfield 40, 3) := by decide +kernel
theorem dX5_enter_199 : decode cX5_enter 199 = .ok (.aload_n 0, 1) := by decide +kernel
theorem dX5_enter_200 : decode cX5_enter 200 = .ok (.getfield 52, 3) := by decide +kernel
theorem dX5_enter_203 : decode cX5_enter 203 = .ok (.if_icmp .lt 7, 3) := by decide +kernel
theorem dX5_enter_206 : decode cX5_enter 206 = .ok (.aload_n 0, 1) := by decide +kernel
theorem dX5_enter_207 : decode cX5_enter 207 = .ok (.invokevirtual 106, 3) := by decide +kernel
theorem dX5_enter_210 : decode cX5_enter 210 = .ok (.return_, 1) := by decide +kernel
theorem dX5_rankOf_0 : decode cX5_rankOf 0 = .ok (.aload_n 0, 1) := by decide +kernel
theorem dX5_rankOf_1 : decode cX5_rankOf 1 = .ok (.getfield 15, 3) := by decide +kernel
theorem dX5_rankOf_4 : decode cX5_rankOf 4 = .ok (.aload_n 0, 1) := by decide +kernel
theorem dX5_rankOf_5 : decode cX5_rankOf 5 = .ok (.getfield 21, 3) := by decide +kernel
theorem dX5_rankOf_8 : decode cX5_rankOf 8 = .ok (.getfield 43, 3) := by decide +kernel
theorem dX5_rankOf_11 : decode cX5_rankOf 11 = .ok (.getfield 47, 3) := by decide +kernel
theorem dX5_rankOf_14 : decode cX5_rankOf 14 = .ok (.iload_n 1, 1) := by decide +kernel
theorem dX5_rankOf_15 : decode cX5_rankOf 15 = .ok (.invokestatic 109, 3) := by decide +kernel
theorem dX5_rankOf_18 : decode cX5_rankOf 18 = .ok (.ireturn, 1) := by decide +kernel
theorem dX5_manOfRank_0 : decode cX5_manOfRank 0 = .ok (.iconst 0, 1) := by decide +kernel
theorem dX5_manOfRank_1 : decode cX5_manOfRank 1 = .ok (.istore_n 2, 1) := by decide +kernel
theorem dX5_manOfRank_2 : decode cX5_manOfRank 2 = .ok (.iload_n 2, 1) := by decide +kernel
theorem dX5_manOfRank_3 : decode cX5_manOfRank 3 = .ok (.aload_n 0, 1) := by decide +kernel
theorem dX5_manOfRank_4 : decode cX5_manOfRank 4 = .ok (.getfield 21, 3) := by decide +kernel
theorem dX5_manOfRank_7 : decode cX5_manOfRank 7 = .ok (.getfield 43, 3) := by decide +kernel
theorem dX5_manOfRank_10 : decode cX5_manOfRank 10 = .ok (.getfield 47, 3) := by decide +kernel
theorem dX5_manOfRank_13 : decode cX5_manOfRank 13 = .ok (.if_icmp .ge 20, 3) := by decide +kernel
theorem dX5_manOfRank_16 : decode cX5_manOfRank 16 = .ok (.aload_n 0, 1) := by decide +kernel
theorem dX5_manOfRank_17 : decode cX5_manOfRank 17 = .ok (.iload_n 2, 1) := by decide +kernel
theorem dX5_manOfRank_18 : decode cX5_manOfRank 18 = .ok (.invokevirtual 113, 3) := by decide +kernel
theorem dX5_manOfRank_21 : decode cX5_manOfRank 21 = .ok (.iload_n 1, 1) := by decide +kernel
theorem dX5_manOfRank_22 : decode cX5_manOfRank 22 = .ok (.if_icmp .ne 5, 3) := by decide +kernel
theorem dX5_manOfRank_25 : decode cX5_manOfRank 25 = .ok (.iload_n 2, 1) := by decide +kernel
theorem dX5_manOfRank_26 : decode cX5_manOfRank 26 = .ok (.ireturn, 1) := by decide +kernel
theorem dX5_manOfRank_27 : decode cX5_manOfRank 27 = .ok (.iinc 2 1, 3) := by decide +kernel
theorem dX5_manOfRank_30 : decode cX5_manOfRank 30 = .ok (.goto (-28), 3) := by decide +kernel
theorem dX5_manOfRank_33 : decode cX5_manOfRank 33 = .ok (.iconst (-1), 1) := by decide +kernel
theorem dX5_manOfRank_34 : decode cX5_manOfRank 34 = .ok (.ireturn, 1) := by decide +kernel
theorem dX5_mostOfOthers_0 : decode cX5_mostOfOthers 0 = .ok (.iconst 0, 1) := by decide +kernel
theorem dX5_mostOfOthers_1 : decode cX5_mostOfOthers 1 = .ok (.istore_n 2, 1) := by decide +kernel
theorem dX5_mostOfOthers_2 : decode cX5_mostOfOthers 2 = .ok (.iconst 0, 1) := by decide +kernel
theorem dX5_mostOfOthers_3 : decode cX5_mostOfOthers 3 = .ok (.istore_n 3, 1) := by decide +kernel
theorem dX5_mostOfOthers_4 : decode cX5_mostOfOthers 4 = .ok (.iload_n 3, 1) := by decide +kernel
theorem dX5_mostOfOthers_5 : decode cX5_mostOfOthers 5 = .ok (.aload_n 0, 1) := by decide +kernel
theorem dX5_mostOfOthers_6 : decode cX5_mostOfOthers 6 = .ok (.getfield 21, 3) := by decide +kernel
theorem dX5_mostOfOthers_9 : decode cX5_mostOfOthers 9 = .ok (.getfield 43, 3) := by decide +kernel
theorem dX5_mostOfOthers_12 : decode cX5_mostOfOthers 12 = .ok (.getfield 47, 3) := by decide +kernel
theorem dX5_mostOfOthers_15 : decode cX5_mostOfOthers 15 = .ok (.if_icmp .ge 25, 3) := by decide +kernel
theorem dX5_mostOfOthers_18 : decode cX5_mostOfOthers 18 = .ok (.iload_n 3, 1) := by decide +kernel
theorem dX5_mostOfOthers_19 : decode cX5_mostOfOthers 19 = .ok (.iload_n 1, 1) := by decide +kernel
theorem dX5_mostOfOthers_20 : decode cX5_mostOfOthers 20 = .ok (.if_icmp .eq 14, 3) := by decide +kernel
theorem dX5_mostOfOthers_23 : decode cX5_mostOfOthers 23 = .ok (.iload_n 2, 1) := by decide +kernel
theorem dX5_mostOfOthers_24 : decode cX5_mostOfOthers 24 = .ok (.aload_n 0, 1) := by decide +kernel
theorem dX5_mostOfOthers_25 : decode cX5_mostOfOthers 25 = .ok (.getfield 15, 3) := by decide +kernel
theorem dX5_mostOfOthers_28 : decode cX5_mostOfOthers 28 = .ok (.iload_n 3, 1) := by decide +kernel
theorem dX5_mostOfOthers_29 : decode cX5_mostOfOthers 29 = .ok (.iaload, 1) := by decide +kernel
theorem dX5_mostOfOthers_30 : decode cX5_mostOfOthers 30 = .ok (.invokestatic 117, 3) := by decide +kernel
theorem dX5_mostOfOthers_33 : decode cX5_mostOfOthers 33 = .ok (.istore_n 2, 1) := by decide +kernel
theorem dX5_mostOfOthers_34 : decode cX5_mostOfOthers 34 = .ok (.iinc 3 1, 3) := by decide +kernel
theorem dX5_mostOfOthers_37 : decode cX5_mostOfOthers 37 = .ok (.goto (-33), 3) := by decide +kernel
theorem dX5_mostOfOthers_40 : decode cX5_mostOfOthers 40 = .ok (.iload_n 2, 1) := by decide +kernel
theorem dX5_mostOfOthers_41 : decode cX5_mostOfOthers 41 = .ok (.ireturn, 1) := by decide +kernel
theorem dX5_totalToBeFirst_0 : decode cX5_totalToBeFirst 0 = .ok (.iconst 0, 1) := by decide +kernel
theorem dX5_totalToBeFirst_1 : decode cX5_totalToBeFirst 1 = .ok (.istore_n 2, 1) := by decide +kernel
theorem dX5_totalToBeFirst_2 : decode cX5_totalToBeFirst 2 = .ok (.iconst 0, 1) := by decide +kernel
theorem dX5_totalToBeFirst_3 : decode cX5_totalToBeFirst 3 = .ok (.istore_n 3, 1) := by decide +kernel
theorem dX5_totalToBeFirst_4 : decode cX5_totalToBeFirst 4 = .ok (.iload_n 3, 1) := by decide +kernel
theorem dX5_totalToBeFirst_5 : decode cX5_totalToBeFirst 5 = .ok (.aload_n 0, 1) := by decide +kernel
theorem dX5_totalToBeFirst_6 : decode cX5_totalToBeFirst 6 = .ok (.getfield 21, 3) := by decide +kernel
theorem dX5_totalToBeFirst_9 : decode cX5_totalToBeFirst 9 = .ok (.getfield 43, 3) := by decide +kernel
theorem dX5_totalToBeFirst_12 : decode cX5_totalToBeFirst 12 = .ok (.getfield 47, 3) := by decide +kernel
theorem dX5_totalToBeFirst_15 : decode cX5_totalToBeFirst 15 = .ok (.if_icmp .ge 41, 3) := by decide +kernel
theorem dX5_totalToBeFirst_18 : decode cX5_totalToBeFirst 18 = .ok (.iload_n 3, 1) := by decide +kernel
theorem dX5_totalToBeFirst_19 : decode cX5_totalToBeFirst 19 = .ok (.iload_n 1, 1) := by decide +kernel
theorem dX5_totalToBeFirst_20 : decode cX5_totalToBeFirst 20 = .ok (.if_icmp .eq 30, 3) := by decide +kernel
theorem dX5_totalToBeFirst_23 : decode cX5_totalToBeFirst 23 = .ok (.iload_n 2, 1) := by decide +kernel
theorem dX5_totalToBeFirst_24 : decode cX5_totalToBeFirst 24 = .ok (.iload_n 3, 1) := by decide +kernel
theorem dX5_totalToBeFirst_25 : decode cX5_totalToBeFirst 25 = .ok (.iload_n 1, 1) := by decide +kernel
theorem dX5_totalToBeFirst_26 : decode cX5_totalToBeFirst 26 = .ok (.if_icmp .ge 14, 3) := by decide +kernel
theorem dX5_totalToBeFirst_29 : decode cX5_totalToBeFirst 29 = .ok (.aload_n 0, 1) := by decide +kernel
theorem dX5_totalToBeFirst_30 : decode cX5_totalToBeFirst 30 = .ok (.getfield 15, 3) := by decide +kernel
theorem dX5_totalToBeFirst_33 : decode cX5_totalToBeFirst 33 = .ok (.iload_n 3, 1) := by decide +kernel
theorem dX5_totalToBeFirst_34 : decode cX5_totalToBeFirst 34 = .ok (.iaload, 1) := by decide +kernel
theorem dX5_totalToBeFirst_35 : decode cX5_totalToBeFirst 35 = .ok (.iconst 1, 1) := by decide +kernel
theorem dX5_totalToBeFirst_36 : decode cX5_totalToBeFirst 36 = .ok (.iadd, 1) := by decide +kernel
theorem dX5_totalToBeFirst_37 : decode cX5_totalToBeFirst 37 = .ok (.goto 9, 3) := by decide +kernel
theorem dX5_totalToBeFirst_40 : decode cX5_totalToBeFirst 40 = .ok (.aload_n 0, 1) := by decide +kernel
theorem dX5_totalToBeFirst_41 : decode cX5_totalToBeFirst 41 = .ok (.getfield 15, 3) := by decide +kernel
theorem dX5_totalToBeFirst_44 : decode cX5_totalToBeFirst 44 = .ok (.iload_n 3, 1) := by decide +kernel
theorem dX5_totalToBeFirst_45 : decode cX5_totalToBeFirst 45 = .ok (.iaload, 1) := by decide +kernel
theorem dX5_totalToBeFirst_46 : decode cX5_totalToBeFirst 46 = .ok (.invokestatic 117, 3) := by decide +kernel
theorem dX5_totalToBeFirst_49 : decode cX5_totalToBeFirst 49 = .ok (.istore_n 2, 1) := by decide +kernel
theorem dX5_totalToBeFirst_50 : decode cX5_totalToBeFirst 50 = .ok (.iinc 3 1, 3) := by decide +kernel
theorem dX5_totalToBeFirst_53 : decode cX5_totalToBeFirst 53 = .ok (.goto (-49), 3) := by decide +kernel
theorem dX5_totalToBeFirst_56 : decode cX5_totalToBeFirst 56 = .ok (.iload_n 2, 1) := by decide +kernel
theorem dX5_totalToBeFirst_57 : decode cX5_totalToBeFirst 57 = .ok (.ireturn, 1) := by decide +kernel
theorem dX5_givenBy_0 : decode cX5_givenBy 0 = .ok (.iconst 0, 1) := by decide +kernel
theorem dX5_givenBy_1 : decode cX5_givenBy 1 = .ok (.istore_n 2, 1) := by decide +kernel
theorem dX5_givenBy_2 : decode cX5_givenBy 2 = .ok (.iconst 0, 1) := by decide +kernel
theorem dX5_givenBy_3 : decode cX5_givenBy 3 = .ok (.istore_n 3, 1) := by decide +kernel
theorem dX5_givenBy_4 : decode cX5_givenBy 4 = .ok (.iload_n 3, 1) := by decide +kernel
theorem dX5_givenBy_5 : decode cX5_givenBy 5 = .ok (.aload_n 0, 1) := by decide +kernel
theorem dX5_givenBy_6 : decode cX5_givenBy 6 = .ok (.getfield 21, 3) := by decide +kernel
theorem dX5_givenBy_9 : decode cX5_givenBy 9 = .ok (.getfield 43, 3) := by decide +kernel
theorem dX5_givenBy_12 : decode cX5_givenBy 12 = .ok (.getfield 47, 3) := by decide +kernel
theorem dX5_givenBy_15 : decode cX5_givenBy 15 = .ok (.if_icmp .ge 52, 3) := by decide +kernel
theorem dX5_givenBy_18 : decode cX5_givenBy 18 = .ok (.iconst 1, 1) := by decide +kernel
theorem dX5_givenBy_19 : decode cX5_givenBy 19 = .ok (.istore 4, 2) := by decide +kernel
theorem dX5_givenBy_21 : decode cX5_givenBy 21 = .ok (.iload 4, 2) := by decide +kernel
theorem dX5_givenBy_23 : decode cX5_givenBy 23 = .ok (.iconst 2, 1) := by decide +kernel
theorem dX5_givenBy_24 : decode cX5_givenBy 24 = .ok (.if_icmp .gt 37, 3) := by decide +kernel
theorem dX5_givenBy_27 : decode cX5_givenBy 27 = .ok (.iload_n 2, 1) := by decide +kernel
theorem dX5_givenBy_28 : decode cX5_givenBy 28 = .ok (.aload_n 0, 1) := by decide +kernel
theorem dX5_givenBy_29 : decode cX5_givenBy 29 = .ok (.iload_n 3, 1) := by decide +kernel
theorem dX5_givenBy_30 : decode cX5_givenBy 30 = .ok (.iload 4, 2) := by decide +kernel
theorem dX5_givenBy_32 : decode cX5_givenBy 32 = .ok (.invokevirtual 122, 3) := by decide +kernel
theorem dX5_givenBy_35 : decode cX5_givenBy 35 = .ok (.ifCond .eq 17, 3) := by decide +kernel
theorem dX5_givenBy_38 : decode cX5_givenBy 38 = .ok (.aload_n 0, 1) := by decide +kernel
theorem dX5_givenBy_39 : decode cX5_givenBy 39 = .ok (.iload_n 3, 1) := by decide +kernel
theorem dX5_givenBy_40 : decode cX5_givenBy 40 = .ok (.iload 4, 2) := by decide +kernel
theorem dX5_givenBy_42 : decode cX5_givenBy 42 = .ok (.bipush 9, 2) := by decide +kernel
theorem dX5_givenBy_44 : decode cX5_givenBy 44 = .ok (.iload_n 1, 1) := by decide +kernel
theorem dX5_givenBy_45 : decode cX5_givenBy 45 = .ok (.iadd, 1) := by decide +kernel
theorem dX5_givenBy_46 : decode cX5_givenBy 46 = .ok (.invokevirtual 71, 3) := by decide +kernel
theorem dX5_givenBy_49 : decode cX5_givenBy 49 = .ok (.goto 4, 3) := by decide +kernel
theorem dX5_givenBy_52 : decode cX5_givenBy 52 = .ok (.iconst 0, 1) := by decide +kernel
theorem dX5_givenBy_53 : decode cX5_givenBy 53 = .ok (.iadd, 1) := by decide +kernel
theorem dX5_givenBy_54 : decode cX5_givenBy 54 = .ok (.istore_n 2, 1) := by decide +kernel
theorem dX5_givenBy_55 : decode cX5_givenBy 55 = .ok (.iinc 4 1, 3) := by decide +kernel
theorem dX5_givenBy_58 : decode cX5_givenBy 58 = .ok (.goto (-37), 3) := by decide +kernel
theorem dX5_givenBy_61 : decode cX5_givenBy 61 = .ok (.iinc 3 1, 3) := by decide +kernel
theorem dX5_givenBy_64 : decode cX5_givenBy 64 = .ok (.goto (-60), 3) := by decide +kernel
theorem dX5_givenBy_67 : decode cX5_givenBy 67 = .ok (.iload_n 2, 1) := by decide +kernel
theorem dX5_givenBy_68 : decode cX5_givenBy 68 = .ok (.ireturn, 1) := by decide +kernel
theorem dX5_jumpsBeyond_0 : decode cX5_jumpsBeyond 0 = .ok (.iconst 0, 1) := by decide +kernel
theorem dX5_jumpsBeyond_1 : decode cX5_jumpsBeyond 1 = .ok (.istore_n 2, 1) := by decide +kernel
theorem dX5_jumpsBeyond_2 : decode cX5_jumpsBeyond 2 = .ok (.iconst 0, 1) := by decide +kernel
theorem dX5_jumpsBeyond_3 : decode cX5_jumpsBeyond 3 = .ok (.istore_n 3, 1) := by decide +kernel
theorem dX5_jumpsBeyond_4 : decode cX5_jumpsBeyond 4 = .ok (.iload_n 3, 1) := by decide +kernel
theorem dX5_jumpsBeyond_5 : decode cX5_jumpsBeyond 5 = .ok (.aload_n 0, 1) := by decide +kernel
theorem dX5_jumpsBeyond_6 : decode cX5_jumpsBeyond 6 = .ok (.getfield 21, 3) := by decide +kernel
theorem dX5_jumpsBeyond_9 : decode cX5_jumpsBeyond 9 = .ok (.getfield 43, 3) := by decide +kernel
theorem dX5_jumpsBeyond_12 : decode cX5_jumpsBeyond 12 = .ok (.getfield 47, 3) := by decide +kernel
theorem dX5_jumpsBeyond_15 : decode cX5_jumpsBeyond 15 = .ok (.if_icmp .ge 49, 3) := by decide +kernel
theorem dX5_jumpsBeyond_18 : decode cX5_jumpsBeyond 18 = .ok (.iconst 1, 1) := by decide +kernel
theorem dX5_jumpsBeyond_19 : decode cX5_jumpsBeyond 19 = .ok (.istore 4, 2) := by decide +kernel
theorem dX5_jumpsBeyond_21 : decode cX5_jumpsBeyond 21 = .ok (.iload 4, 2) := by decide +kernel
theorem dX5_jumpsBeyond_23 : decode cX5_jumpsBeyond 23 = .ok (.iconst 2, 1) := by decide +kernel
theorem dX5_jumpsBeyond_24 : decode cX5_jumpsBeyond 24 = .ok (.if_icmp .gt 34, 3) := by decide +kernel
theorem dX5_jumpsBeyond_27 : decode cX5_jumpsBeyond 27 = .ok (.aload_n 0, 1) := by decide +kernel
theorem dX5_jumpsBeyond_28 : decode cX5_jumpsBeyond 28 = .ok (.iload_n 3, 1) := by decide +kernel
theorem dX5_jumpsBeyond_29 : decode cX5_jumpsBeyond 29 = .ok (.iload 4, 2) := by decide +kernel
theorem dX5_jumpsBeyond_31 : decode cX5_jumpsBeyond 31 = .ok (.invokevirtual 122, 3) := by decide +kernel
theorem dX5_jumpsBeyond_34 : decode cX5_jumpsBeyond 34 = .ok (.ifCond .eq 18, 3) := by decide +kernel
theorem dX5_jumpsBeyond_37 : decode cX5_jumpsBeyond 37 = .ok (.aload_n 0, 1) := by decide +kernel
theorem dX5_jumpsBeyond_38 : decode cX5_jumpsBeyond 38 = .ok (.iload_n 3, 1) := by decide +kernel
theorem dX5_jumpsBeyond_39 : decode cX5_jumpsBeyond 39 = .ok (.iload 4, 2) := by decide +kernel
theorem dX5_jumpsBeyond_41 : decode cX5_jumpsBeyond 41 = .ok (.iconst 0, 1) := by decide +kernel
theorem dX5_jumpsBeyond_42 : decode cX5_jumpsBeyond 42 = .ok (.invokevirtual 71, 3) := by decide +kernel
theorem dX5_jumpsBeyond_45 : decode cX5_jumpsBeyond 45 = .ok (.iload_n 1, 1) := by decide +kernel
theorem dX5_jumpsBeyond_46 : decode cX5_jumpsBeyond 46 = .ok (.if_icmp .le 6, 3) := by decide +kernel
theorem dX5_jumpsBeyond_49 : decode cX5_jumpsBeyond 49 = .ok (.iinc 2 1, 3) := by decide +kernel
theorem dX5_jumpsBeyond_52 : decode cX5_jumpsBeyond 52 = .ok (.iinc 4 1, 3) := by decide +kernel
theorem dX5_jumpsBeyond_55 : decode cX5_jumpsBeyond 55 = .ok (.goto (-34), 3) := by decide +kernel
theorem dX5_jumpsBeyond_58 : decode cX5_jumpsBeyond 58 = .ok (.iinc 3 1, 3) := by decide +kernel
theorem dX5_jumpsBeyond_61 : decode cX5_jumpsBeyond 61 = .ok (.goto (-57), 3) := by decide +kernel
theorem dX5_jumpsBeyond_64 : decode cX5_jumpsBeyond 64 = .ok (.iload_n 2, 1) := by decide +kernel
theorem dX5_jumpsBeyond_65 : decode cX5_jumpsBeyond 65 = .ok (.ireturn, 1) := by decide +kernel
theorem dX5_longest_0 : decode cX5_longest 0 = .ok (.iconst 0, 1) := by decide +kernel
theorem dX5_longest_1 : decode cX5_longest 1 = .ok (.istore_n 1, 1) := by decide +kernel
theorem dX5_longest_2 : decode cX5_longest 2 = .ok (.iconst 0, 1) := by decide +kernel
theorem dX5_longest_3 : decode cX5_longest 3 = .ok (.istore_n 2, 1) := by decide +kernel
theorem dX5_longest_4 : decode cX5_longest 4 = .ok (.iload_n 2, 1) := by decide +kernel
theorem dX5_longest_5 : decode cX5_longest 5 = .ok (.aload_n 0, 1) := by decide +kernel
theorem dX5_longest_6 : decode cX5_longest 6 = .ok (.getfield 21, 3) := by decide +kernel
theorem dX5_longest_9 : decode cX5_longest 9 = .ok (.getfield 43, 3) := by decide +kernel
theorem dX5_longest_12 : decode cX5_longest 12 = .ok (.getfield 47, 3) := by decide +kernel
theorem dX5_longest_15 : decode cX5_longest 15 = .ok (.if_icmp .ge 31, 3) := by decide +kernel
theorem dX5_longest_18 : decode cX5_longest 18 = .ok (.iload_n 1, 1) := by decide +kernel
theorem dX5_longest_19 : decode cX5_longest 19 = .ok (.aload_n 0, 1) := by decide +kernel
theorem dX5_longest_20 : decode cX5_longest 20 = .ok (.iload_n 2, 1) := by decide +kernel
theorem dX5_longest_21 : decode cX5_longest 21 = .ok (.iconst 1, 1) := by decide +kernel
theorem dX5_longest_22 : decode cX5_longest 22 = .ok (.iconst 0, 1) := by decide +kernel
theorem dX5_longest_23 : decode cX5_longest 23 = .ok (.invokevirtual 71, 3) := by decide +kernel
theorem dX5_longest_26 : decode cX5_longest 26 = .ok (.aload_n 0, 1) := by decide +kernel
theorem dX5_longest_27 : decode cX5_longest 27 = .ok (.iload_n 2, 1) := by decide +kernel
theorem dX5_longest_28 : decode cX5_longest 28 = .ok (.iconst 2, 1) := by decide +kernel
theorem dX5_longest_29 : decode cX5_longest 29 = .ok (.iconst 0, 1) := by decide +kernel
theorem dX5_longest_30 : decode cX5_longest 30 = .ok (.invokevirtual 71, 3) := by decide +kernel
theorem dX5_longest_33 : decode cX5_longest 33 = .ok (.invokestatic 117, 3) := by decide +kernel
theorem dX5_longest_36 : decode cX5_longest 36 = .ok (.invokestatic 117, 3) := by decide +kernel
theorem dX5_longest_39 : decode cX5_longest 39 = .ok (.istore_n 1, 1) := by decide +kernel
theorem dX5_longest_40 : decode cX5_longest 40 = .ok (.iinc 2 1, 3) := by decide +kernel
theorem dX5_longest_43 : decode cX5_longest 43 = .ok (.goto (-39), 3) := by decide +kernel
theorem dX5_longest_46 : decode cX5_longest 46 = .ok (.iload_n 1, 1) := by decide +kernel
theorem dX5_longest_47 : decode cX5_longest 47 = .ok (.ireturn, 1) := by decide +kernel
theorem dX5_cellsOf_0 : decode cX5_cellsOf 0 = .ok (.iload_n 0, 1) := by decide +kernel
theorem dX5_cellsOf_1 : decode cX5_cellsOf 1 = .ok (.iconst 2, 1) := by decide +kernel
theorem dX5_cellsOf_2 : decode cX5_cellsOf 2 = .ok (.imul, 1) := by decide +kernel
theorem dX5_cellsOf_3 : decode cX5_cellsOf 3 = .ok (.iload_n 1, 1) := by decide +kernel
theorem dX5_cellsOf_4 : decode cX5_cellsOf 4 = .ok (.iadd, 1) := by decide +kernel
theorem dX5_cellsOf_5 : decode cX5_cellsOf 5 = .ok (.iconst 1, 1) := by decide +kernel
theorem dX5_cellsOf_6 : decode cX5_cellsOf 6 = .ok (.isub, 1) := by decide +kernel
theorem dX5_cellsOf_7 : decode cX5_cellsOf 7 = .ok (.bipush 16, 2) := by decide +kernel
theorem dX5_cellsOf_9 : decode cX5_cellsOf 9 = .ok (.imul, 1) := by decide +kernel
theorem dX5_cellsOf_10 : decode cX5_cellsOf 10 = .ok (.ireturn, 1) := by decide +kernel
theorem dX5_beginNextRound_0 : decode cX5_beginNextRound 0 = .ok (.aload_n 0, 1) := by decide +kernel
theorem dX5_beginNextRound_1 : decode cX5_beginNextRound 1 = .ok (.dup, 1) := by decide +kernel
theorem dX5_beginNextRound_2 : decode cX5_beginNextRound 2 = .ok (.getfield 29, 3) := by decide +kernel
theorem dX5_beginNextRound_5 : decode cX5_beginNextRound 5 = .ok (.iconst 1, 1) := by decide +kernel
theorem dX5_beginNextRound_6 : decode cX5_beginNextRound 6 = .ok (.iadd, 1) := by decide +kernel
theorem dX5_beginNextRound_7 : decode cX5_beginNextRound 7 = .ok (.putfield 29, 3) := by decide +kernel
theorem dX5_beginNextRound_10 : decode cX5_beginNextRound 10 = .ok (.aload_n 0, 1) := by decide +kernel
theorem dX5_beginNextRound_11 : decode cX5_beginNextRound 11 = .ok (.iconst 0, 1) := by decide +kernel
theorem dX5_beginNextRound_12 : decode cX5_beginNextRound 12 = .ok (.putfield 40, 3) := by decide +kernel
theorem dX5_beginNextRound_15 : decode cX5_beginNextRound 15 = .ok (.aload_n 0, 1) := by decide +kernel
theorem dX5_beginNextRound_16 : decode cX5_beginNextRound 16 = .ok (.aload_n 0, 1) := by decide +kernel
theorem dX5_beginNextRound_17 : decode cX5_beginNextRound 17 = .ok (.getfield 29, 3) := by decide +kernel
theorem dX5_beginNextRound_20 : decode cX5_beginNextRound 20 = .ok (.iconst 2, 1) := by decide +kernel
theorem dX5_beginNextRound_21 : decode cX5_beginNextRound 21 = .ok (.if_icmp .ne 26, 3) := by decide +kernel
theorem dX5_beginNextRound_24 : decode cX5_beginNextRound 24 = .ok (.aload_n 0, 1) := by decide +kernel
theorem dX5_beginNextRound_25 : decode cX5_beginNextRound 25 = .ok (.getfield 21, 3) := by decide +kernel
theorem dX5_beginNextRound_28 : decode cX5_beginNextRound 28 = .ok (.getfield 126, 3) := by decide +kernel
theorem dX5_beginNextRound_31 : decode cX5_beginNextRound 31 = .ok (.aload_n 0, 1) := by decide +kernel
theorem dX5_beginNextRound_32 : decode cX5_beginNextRound 32 = .ok (.getfield 21, 3) := by decide +kernel
theorem dX5_beginNextRound_35 : decode cX5_beginNextRound 35 = .ok (.getfield 43, 3) := by decide +kernel
theorem dX5_beginNextRound_38 : decode cX5_beginNextRound 38 = .ok (.getfield 47, 3) := by decide +kernel
theorem dX5_beginNextRound_41 : decode cX5_beginNextRound 41 = .ok (.invokestatic 129, 3) := by decide +kernel
theorem dX5_beginNextRound_44 : decode cX5_beginNextRound 44 = .ok (.goto 4, 3) := by decide +kernel
theorem dX5_beginNextRound_47 : decode cX5_beginNextRound 47 = .ok (.iconst 0, 1) := by decide +kernel
theorem dX5_beginNextRound_48 : decode cX5_beginNextRound 48 = .ok (.putfield 52, 3) := by decide +kernel
theorem dX5_beginNextRound_51 : decode cX5_beginNextRound 51 = .ok (.iconst 0, 1) := by decide +kernel
theorem dX5_beginNextRound_52 : decode cX5_beginNextRound 52 = .ok (.istore_n 1, 1) := by decide +kernel
theorem dX5_beginNextRound_53 : decode cX5_beginNextRound 53 = .ok (.iload_n 1, 1) := by decide +kernel
theorem dX5_beginNextRound_54 : decode cX5_beginNextRound 54 = .ok (.aload_n 0, 1) := by decide +kernel
theorem dX5_beginNextRound_55 : decode cX5_beginNextRound 55 = .ok (.getfield 52, 3) := by decide +kernel
theorem dX5_beginNextRound_58 : decode cX5_beginNextRound 58 = .ok (.if_icmp .ge 33, 3) := by decide +kernel
theorem dX5_beginNextRound_61 : decode cX5_beginNextRound 61 = .ok (.iload_n 1, 1) := by decide +kernel
theorem dX5_beginNextRound_62 : decode cX5_beginNextRound 62 = .ok (.bipush 8, 2) := by decide +kernel
theorem dX5_beginNextRound_64 : decode cX5_beginNextRound 64 = .ok (.if_icmp .ge 27, 3) := by decide +kernel
theorem dX5_beginNextRound_67 : decode cX5_beginNextRound 67 = .ok (.aload_n 0, 1) := by decide +kernel
theorem dX5_beginNextRound_68 : decode cX5_beginNextRound 68 = .ok (.getfield 11, 3) := by decide +kernel
theorem dX5_beginNextRound_71 : decode cX5_beginNextRound 71 = .ok (.iload_n 1, 1) := by decide +kernel
theorem dX5_beginNextRound_72 : decode cX5_beginNextRound 72 = .ok (.aload_n 0, 1) := by decide +kernel
theorem dX5_beginNextRound_73 : decode cX5_beginNextRound 73 = .ok (.aload_n 0, 1) := by decide +kernel
theorem dX5_beginNextRound_74 : decode cX5_beginNextRound 74 = .ok (.getfield 52, 3) := by decide +kernel
theorem dX5_beginNextRound_77 : decode cX5_beginNextRound 77 = .ok (.iconst 1, 1) := by decide +kernel
theorem dX5_beginNextRound_78 : decode cX5_beginNextRound 78 = .ok (.isub, 1) := by decide +kernel
theorem dX5_beginNextRound_79 : decode cX5_beginNextRound 79 = .ok (.iload_n 1, 1) := by decide +kernel
theorem dX5_beginNextRound_80 : decode cX5_beginNextRound 80 = .ok (.isub, 1) := by decide +kernel
theorem dX5_beginNextRound_81 : decode cX5_beginNextRound 81 = .ok (.invokevirtual 132, 3) := by decide +kernel
theorem dX5_beginNextRound_84 : decode cX5_beginNextRound 84 = .ok (.iastore, 1) := by decide +kernel
theorem dX5_beginNextRound_85 : decode cX5_beginNextRound 85 = .ok (.iinc 1 1, 3) := by decide +kernel
theorem dX5_beginNextRound_88 : decode cX5_beginNextRound 88 = .ok (.goto (-35), 3) := by decide +kernel
theorem dX5_beginNextRound_91 : decode cX5_beginNextRound 91 = .ok (.return_, 1) := by decide +kernel
