theorem dX6_init_0 : decode cX6_init 0 = .ok (.aload_n 0, 1) := by decide +kernel
theorem dX6_init_1 : decode cX6_init 1 = .ok (.invokespecial 1, 3) := by decide +kernel
theorem dX6_init_4 : decode cX6_init 4 = .ok (.aload_n 0, 1) := by decide +kernel
theorem dX6_init_5 : decode cX6_init 5 = .ok (.iconst 3, 1) := by decide +kernel
theorem dX6_init_6 : decode cX6_init 6 = .ok (.sipush 277, 3) := by decide +kernel
theorem dX6_init_9 : decode cX6_init 9 = .ok (.multianewarray 11 2, 4) := by decide +kernel
theorem dX6_init_13 : decode cX6_init 13 = .ok (.putfield 13, 3) := by decide +kernel
theorem dX6_init_16 : decode cX6_init 16 = .ok (.aload_n 0, 1) := by decide +kernel
theorem dX6_init_17 : decode cX6_init 17 = .ok (.iconst 3, 1) := by decide +kernel
theorem dX6_init_18 : decode cX6_init 18 = .ok (.newarray .boolean, 2) := by decide +kernel
theorem dX6_init_20 : decode cX6_init 20 = .ok (.putfield 16, 3) := by decide +kernel
theorem dX6_init_23 : decode cX6_init 23 = .ok (.return_, 1) := by decide +kernel
theorem dX6_clear_0 : decode cX6_clear 0 = .ok (.iconst 0, 1) := by decide +kernel
theorem dX6_clear_1 : decode cX6_clear 1 = .ok (.istore_n 1, 1) := by decide +kernel
theorem dX6_clear_2 : decode cX6_clear 2 = .ok (.iload_n 1, 1) := by decide +kernel
theorem dX6_clear_3 : decode cX6_clear 3 = .ok (.iconst 3, 1) := by decide +kernel
theorem dX6_clear_4 : decode cX6_clear 4 = .ok (.if_icmp .ge 16, 3) := by decide +kernel
theorem dX6_clear_7 : decode cX6_clear 7 = .ok (.aload_n 0, 1) := by decide +kernel
theorem dX6_clear_8 : decode cX6_clear 8 = .ok (.getfield 16, 3) := by decide +kernel
theorem dX6_clear_11 : decode cX6_clear 11 = .ok (.iload_n 1, 1) := by decide +kernel
theorem dX6_clear_12 : decode cX6_clear 12 = .ok (.iconst 0, 1) := by decide +kernel
theorem dX6_clear_13 : decode cX6_clear 13 = .ok (.bastore, 1) := by decide +kernel
theorem dX6_clear_14 : decode cX6_clear 14 = .ok (.iinc 1 1, 3) := by decide +kernel
theorem dX6_clear_17 : decode cX6_clear 17 = .ok (.goto (-15), 3) := by decide +kernel
theorem dX6_clear_20 : decode cX6_clear 20 = .ok (.return_, 1) := by decide +kernel
theorem dX6_putInto_0 : decode cX6_putInto 0 = .ok (.iload_n 1, 1) := by decide +kernel
theorem dX6_putInto_1 : decode cX6_putInto 1 = .ok (.iconst 0, 1) := by decide +kernel
theorem dX6_putInto_2 : decode cX6_putInto 2 = .ok (.iconst 2, 1) := by decide +kernel
theorem dX6_putInto_3 : decode cX6_putInto 3 = .ok (.invokestatic 20, 3) := by decide +kernel
theorem dX6_putInto_6 : decode cX6_putInto 6 = .ok (.ifCond .ne 5, 3) := by decide +kernel
theorem dX6_putInto_9 : decode cX6_putInto 9 = .ok (.iconst 0, 1) := by decide +kernel
theorem dX6_putInto_10 : decode cX6_putInto 10 = .ok (.ireturn, 1) := by decide +kernel
theorem dX6_putInto_11 : decode cX6_putInto 11 = .ok (.aload_n 2, 1) := by decide +kernel
theorem dX6_putInto_12 : decode cX6_putInto 12 = .ok (.aload_n 0, 1) := by decide +kernel
theorem dX6_putInto_13 : decode cX6_putInto 13 = .ok (.getfield 13, 3) := by decide +kernel
theorem dX6_putInto_16 : decode cX6_putInto 16 = .ok (.iload_n 1, 1) := by decide +kernel
theorem dX6_putInto_17 : decode cX6_putInto 17 = .ok (.aaload, 1) := by decide +kernel
theorem dX6_putInto_18 : decode cX6_putInto 18 = .ok (.invokevirtual 26, 3) := by decide +kernel
theorem dX6_putInto_21 : decode cX6_putInto 21 = .ok (.aload_n 0, 1) := by decide +kernel
theorem dX6_putInto_22 : decode cX6_putInto 22 = .ok (.getfield 16, 3) := by decide +kernel
theorem dX6_putInto_25 : decode cX6_putInto 25 = .ok (.iload_n 1, 1) := by decide +kernel
theorem dX6_putInto_26 : decode cX6_putInto 26 = .ok (.iconst 1, 1) := by decide +kernel
theorem dX6_putInto_27 : decode cX6_putInto 27 = .ok (.bastore, 1) := by decide +kernel
theorem dX6_putInto_28 : decode cX6_putInto 28 = .ok (.iconst 1, 1) := by decide +kernel
theorem dX6_putInto_29 : decode cX6_putInto 29 = .ok (.ireturn, 1) := by decide +kernel
theorem dX6_giveBack_0 : decode cX6_giveBack 0 = .ok (.iload_n 1, 1) := by decide +kernel
theorem dX6_giveBack_1 : decode cX6_giveBack 1 = .ok (.iconst 0, 1) := by decide +kernel
theorem dX6_giveBack_2 : decode cX6_giveBack 2 = .ok (.iconst 2, 1) := by decide +kernel
theorem dX6_giveBack_3 : decode cX6_giveBack 3 = .ok (.invokestatic 20, 3) := by decide +kernel
theorem dX6_giveBack_6 : decode cX6_giveBack 6 = .ok (.ifCond .eq 12, 3) := by decide +kernel
theorem dX6_giveBack_9 : decode cX6_giveBack 9 = .ok (.aload_n 0, 1) := by decide +kernel
theorem dX6_giveBack_10 : decode cX6_giveBack 10 = .ok (.getfield 16, 3) := by decide +kernel
theorem dX6_giveBack_13 : decode cX6_giveBack 13 = .ok (.iload_n 1, 1) := by decide +kernel
theorem dX6_giveBack_14 : decode cX6_giveBack 14 = .ok (.baload, 1) := by decide +kernel
theorem dX6_giveBack_15 : decode cX6_giveBack 15 = .ok (.ifCond .ne 5, 3) := by decide +kernel
theorem dX6_giveBack_18 : decode cX6_giveBack 18 = .ok (.iconst 0, 1) := by decide +kernel
theorem dX6_giveBack_19 : decode cX6_giveBack 19 = .ok (.ireturn, 1) := by decide +kernel
theorem dX6_giveBack_20 : decode cX6_giveBack 20 = .ok (.aload_n 2, 1) := by decide +kernel
theorem dX6_giveBack_21 : decode cX6_giveBack 21 = .ok (.aload_n 0, 1) := by decide +kernel
theorem dX6_giveBack_22 : decode cX6_giveBack 22 = .ok (.getfield 13, 3) := by decide +kernel
theorem dX6_giveBack_25 : decode cX6_giveBack 25 = .ok (.iload_n 1, 1) := by decide +kernel
theorem dX6_giveBack_26 : decode cX6_giveBack 26 = .ok (.aaload, 1) := by decide +kernel
theorem dX6_giveBack_27 : decode cX6_giveBack 27 = .ok (.invokevirtual 30, 3) := by decide +kernel
theorem dX6_giveBack_30 : decode cX6_giveBack 30 = .ok (.iconst 1, 1) := by decide +kernel
theorem dX6_giveBack_31 : decode cX6_giveBack 31 = .ok (.ireturn, 1) := by decide +kernel
theorem dX6_countHeld_0 : decode cX6_countHeld 0 = .ok (.iconst 0, 1) := by decide +kernel
theorem dX6_countHeld_1 : decode cX6_countHeld 1 = .ok (.istore_n 1, 1) := by decide +kernel
theorem dX6_countHeld_2 : decode cX6_countHeld 2 = .ok (.iconst 0, 1) := by decide +kernel
theorem dX6_countHeld_3 : decode cX6_countHeld 3 = .ok (.istore_n 2, 1) := by decide +kernel
theorem dX6_countHeld_4 : decode cX6_countHeld 4 = .ok (.iload_n 2, 1) := by decide +kernel
theorem dX6_countHeld_5 : decode cX6_countHeld 5 = .ok (.iconst 3, 1) := by decide +kernel
theorem dX6_countHeld_6 : decode cX6_countHeld 6 = .ok (.if_icmp .ge 26, 3) := by decide +kernel
theorem dX6_countHeld_9 : decode cX6_countHeld 9 = .ok (.iload_n 1, 1) := by decide +kernel
theorem dX6_countHeld_10 : decode cX6_countHeld 10 = .ok (.aload_n 0, 1) := by decide +kernel
theorem dX6_countHeld_11 : decode cX6_countHeld 11 = .ok (.getfield 16, 3) := by decide +kernel
theorem dX6_countHeld_14 : decode cX6_countHeld 14 = .ok (.iload_n 2, 1) := by decide +kernel
theorem dX6_countHeld_15 : decode cX6_countHeld 15 = .ok (.baload, 1) := by decide +kernel
theorem dX6_countHeld_16 : decode cX6_countHeld 16 = .ok (.ifCond .eq 7, 3) := by decide +kernel
theorem dX6_countHeld_19 : decode cX6_countHeld 19 = .ok (.iconst 1, 1) := by decide +kernel
theorem dX6_countHeld_20 : decode cX6_countHeld 20 = .ok (.goto 4, 3) := by decide +kernel
theorem dX6_countHeld_23 : decode cX6_countHeld 23 = .ok (.iconst 0, 1) := by decide +kernel
theorem dX6_countHeld_24 : decode cX6_countHeld 24 = .ok (.iadd, 1) := by decide +kernel
theorem dX6_countHeld_25 : decode cX6_countHeld 25 = .ok (.istore_n 1, 1) := by decide +kernel
theorem dX6_countHeld_26 : decode cX6_countHeld 26 = .ok (.iinc 2 1, 3) := by decide +kernel
theorem dX6_countHeld_29 : decode cX6_countHeld 29 = .ok (.goto (-25), 3) := by decide +kernel
theorem dX6_countHeld_32 : decode cX6_countHeld 32 = .ok (.iload_n 1, 1) := by decide +kernel
theorem dX6_countHeld_33 : decode cX6_countHeld 33 = .ok (.ireturn, 1) := by decide +kernel
theorem dX7_init_0 : decode cX7_init 0 = .ok (.aload_n 0, 1) := by decide +kernel
theorem dX7_init_1 : decode cX7_init 1 = .ok (.invokespecial 3, 3) := by decide +kernel
theorem dX7_init_4 : decode cX7_init 4 = .ok (.aload_n 0, 1) := by decide +kernel
theorem dX7_init_5 : decode cX7_init 5 = .ok (.sipush 2000, 3) := by decide +kernel
theorem dX7_init_8 : decode cX7_init 8 = .ok (.newarray .byte, 2) := by decide +kernel
theorem dX7_init_10 : decode cX7_init 10 = .ok (.putfield 11, 3) := by decide +kernel
theorem dX7_init_13 : decode cX7_init 13 = .ok (.return_, 1) := by decide +kernel
theorem dX7_hasRoom_0 : decode cX7_hasRoom 0 = .ok (.aload_n 0, 1) := by decide +kernel
theorem dX7_hasRoom_1 : decode cX7_hasRoom 1 = .ok (.getfield 15, 3) := by decide +kernel
theorem dX7_hasRoom_4 : decode cX7_hasRoom 4 = .ok (.iload_n 1, 1) := by decide +kernel
theorem dX7_hasRoom_5 : decode cX7_hasRoom 5 = .ok (.iadd, 1) := by decide +kernel
theorem dX7_hasRoom_6 : decode cX7_hasRoom 6 = .ok (.sipush 2000, 3) := by decide +kernel
theorem dX7_hasRoom_9 : decode cX7_hasRoom 9 = .ok (.if_icmp .gt 7, 3) := by decide +kernel
theorem dX7_hasRoom_12 : decode cX7_hasRoom 12 = .ok (.iconst 1, 1) := by decide +kernel
theorem dX7_hasRoom_13 : decode cX7_hasRoom 13 = .ok (.goto 4, 3) := by decide +kernel
theorem dX7_hasRoom_16 : decode cX7_hasRoom 16 = .ok (.iconst 0, 1) := by decide +kernel
theorem dX7_hasRoom_17 : decode cX7_hasRoom 17 = .ok (.ireturn, 1) := by decide +kernel
theorem dX7_put_0 : decode cX7_put 0 = .ok (.bipush 24, 2) := by decide +kernel
theorem dX7_put_2 : decode cX7_put 2 = .ok (.istore_n 2, 1) := by decide +kernel
theorem dX7_put_3 : decode cX7_put 3 = .ok (.iload_n 2, 1) := by decide +kernel
theorem dX7_put_4 : decode cX7_put 4 = .ok (.ifCond .lt 40, 3) := by decide +kernel
theorem dX7_put_7 : decode cX7_put 7 = .ok (.aload_n 0, 1) := by decide +kernel
theorem dX7_put_8 : decode cX7_put 8 = .ok (.iconst 1, 1) := by decide +kernel
theorem dX7_put_9 : decode cX7_put 9 = .ok (.invokevirtual 19, 3) := by decide +kernel
theorem dX7_put_12 : decode cX7_put 12 = .ok (.ifCond .eq 26, 3) := by decide +kernel
theorem dX7_put_15 : decode cX7_put 15 = .ok (.aload_n 0, 1) := by decide +kernel
theorem dX7_put_16 : decode cX7_put 16 = .ok (.getfield 11, 3) := by decide +kernel
theorem dX7_put_19 : decode cX7_put 19 = .ok (.aload_n 0, 1) := by decide +kernel
theorem dX7_put_20 : decode cX7_put 20 = .ok (.getfield 15, 3) := by decide +kernel
theorem dX7_put_23 : decode cX7_put 23 = .ok (.iload_n 1, 1) := by decide +kernel
theorem dX7_put_24 : decode cX7_put 24 = .ok (.iload_n 2, 1) := by decide +kernel
theorem dX7_put_25 : decode cX7_put 25 = .ok (.ishr, 1) := by decide +kernel
theorem dX7_put_26 : decode cX7_put 26 = .ok (.i2b, 1) := by decide +kernel
theorem dX7_put_27 : decode cX7_put 27 = .ok (.bastore, 1) := by decide +kernel
theorem dX7_put_28 : decode cX7_put 28 = .ok (.aload_n 0, 1) := by decide +kernel
theorem dX7_put_29 : decode cX7_put 29 = .ok (.dup, 1) := by decide +kernel
theorem dX7_put_30 : decode cX7_put 30 = .ok (.getfield 15, 3) := by decide +kernel
theorem dX7_put_33 : decode cX7_put 33 = .ok (.iconst 1, 1) := by decide +kernel
theorem dX7_put_34 : decode cX7_put 34 = .ok (.iadd, 1) := by decide +kernel
theorem dX7_put_35 : decode cX7_put 35 = .ok (.putfield 15, 3) := by decide +kernel
theorem dX7_put_38 : decode cX7_put 38 = .ok (.iinc 2 (-8), 3) := by decide +kernel
theorem dX7_put_41 : decode cX7_put 41 = .ok (.goto (-38), 3) := by decide +kernel
theorem dX7_put_44 : decode cX7_put 44 = .ok (.return_, 1) := by decide +kernel
theorem dX7_byteAt_0 : decode cX7_byteAt 0 = .ok (.iload_n 1, 1) := by decide +kernel
theorem dX7_byteAt_1 : decode cX7_byteAt 1 = .ok (.ifCond .lt 24, 3) := by decide +kernel
theorem dX7_byteAt_4 : decode cX7_byteAt 4 = .ok (.iload_n 1, 1) := by decide +kernel
theorem dX7_byteAt_5 : decode cX7_byteAt 5 = .ok (.aload_n 0, 1) := by decide +kernel
theorem dX7_byteAt_6 : decode cX7_byteAt 6 = .ok (.getfield 15, 3) := by decide +kernel
theorem dX7_byteAt_9 : decode cX7_byteAt 9 = .ok (.if_icmp .ge 16, 3) := by decide +kernel
theorem dX7_byteAt_12 : decode cX7_byteAt 12 = .ok (.aload_n 0, 1) := by decide +kernel
theorem dX7_byteAt_13 : decode cX7_byteAt 13 = .ok (.getfield 11, 3) := by decide +kernel
theorem dX7_byteAt_16 : decode cX7_byteAt 16 = .ok (.iload_n 1, 1) := by decide +kernel
theorem dX7_byteAt_17 : decode cX7_byteAt 17 = .ok (.baload, 1) := by decide +kernel
theorem dX7_byteAt_18 : decode cX7_byteAt 18 = .ok (.sipush 255, 3) := by decide +kernel
theorem dX7_byteAt_21 : decode cX7_byteAt 21 = .ok (.iand, 1) := by decide +kernel
theorem dX7_byteAt_22 : decode cX7_byteAt 22 = .ok (.goto 4, 3) := by decide +kernel
theorem dX7_byteAt_25 : decode cX7_byteAt 25 = .ok (.iconst (-1), 1) := by decide +kernel
theorem dX7_byteAt_26 : decode cX7_byteAt 26 = .ok (.ireturn, 1) := by decide +kernel
theorem dX8_init_0 : decode cX8_init 0 = .ok (.aload_n 0, 1) := by decide +kernel
theorem dX8_init_1 : decode cX8_init 1 = .ok (.invokespecial 3, 3) := by decide +kernel
theorem dX8_init_4 : decode cX8_init 4 = .ok (.aload_n 0, 1) := by decide +kernel
theorem dX8_init_5 : decode cX8_init 5 = .ok (.new 9, 3) := by decide +kernel
theorem dX8_init_8 : decode cX8_init 8 = .ok (.dup, 1) := by decide +kernel
theorem dX8_init_9 : decode cX8_init 9 = .ok (.invokespecial 11, 3) := by decide +kernel
theorem dX8_init_12 : decode cX8_init 12 = .ok (.putfield 12, 3) := by decide +kernel
theorem dX8_init_15 : decode cX8_init 15 = .ok (.aload_n 0, 1) := by decide +kernel
theorem dX8_init_16 : decode cX8_init 16 = .ok (.new 9, 3) := by decide +kernel
theorem dX8_init_19 : decode cX8_init 19 = .ok (.dup, 1) := by decide +kernel
theorem dX8_init_20 : decode cX8_init 20 = .ok (.invokespecial 11, 3) := by decide +kernel
theorem dX8_init_23 : decode cX8_init 23 = .ok (.putfield 18, 3) := by decide +kernel
theorem dX8_init_26 : decode cX8_init 26 = .ok (.aload_n 0, 1) := by decide +kernel
theorem dX8_init_27 : decode cX8_init 27 = .ok (.new 9, 3) := by decide +kernel
theorem dX8_init_30 : decode cX8_init 30 = .ok (.dup, 1) := by decide +kernel
theorem dX8_init_31 : decode cX8_init 31 = .ok (.invokespecial 11, 3) := by decide +kernel
theorem dX8_init_34 : decode cX8_init 34 = .ok (.putfield 21, 3) := by decide +kernel
theorem dX8_init_37 : decode cX8_init 37 = .ok (.aload_n 0, 1) := by decide +kernel
theorem dX8_init_38 : decode cX8_init 38 = .ok (.new 9, 3) := by decide +kernel
theorem dX8_init_41 : decode cX8_init 41 = .ok (.dup, 1) := by decide +kernel
theorem dX8_init_42 : decode cX8_init 42 = .ok (.invokespecial 11, 3) := by decide +kernel
theorem dX8_init_45 : decode cX8_init 45 = .ok (.putfield 24, 3) := by decide +kernel
theorem dX8_init_48 : decode cX8_init 48 = .ok (.aload_n 0, 1) := by decide +kernel
theorem dX8_init_49 : decode cX8_init 49 = .ok (.new 9, 3) := by decide +kernel
theorem dX8_init_52 : decode cX8_init 52 = .ok (.dup, 1) := by decide +kernel
theorem dX8_init_53 : decode cX8_init 53 = .ok (.invokespecial 11, 3) := by decide +kernel
theorem dX8_init_56 : decode cX8_init 56 = .ok (.putfield 27, 3) := by decide +kernel
theorem dX8_init_59 : decode cX8_init 59 = .ok (.aload_n 0, 1) := by decide +kernel
theorem dX8_init_60 : decode cX8_init 60 = .ok (.iconst 5, 1) := by decide +kernel
theorem dX8_init_61 : decode cX8_init 61 = .ok (.newarray .int, 2) := by decide +kernel
theorem dX8_init_63 : decode cX8_init 63 = .ok (.putfield 30, 3) := by decide +kernel
theorem dX8_init_66 : decode cX8_init 66 = .ok (.aload_n 0, 1) := by decide +kernel
theorem dX8_init_67 : decode cX8_init 67 = .ok (.new 34, 3) := by decide +kernel
theorem dX8_init_70 : decode cX8_init 70 = .ok (.dup, 1) := by decide +kernel
theorem dX8_init_71 : decode cX8_init 71 = .ok (.invokespecial 36, 3) := by decide +kernel
theorem dX8_init_74 : decode cX8_init 74 = .ok (.putfield 37, 3) := by decide +kernel
theorem dX8_init_77 : decode cX8_init 77 = .ok (.return_, 1) := by decide +kernel
theorem dX8_clear_0 : decode cX8_clear 0 = .ok (.aload_n 0, 1) := by decide +kernel
theorem dX8_clear_1 : decode cX8_clear 1 = .ok (.getfield 12, 3) := by decide +kernel
theorem dX8_clear_4 : decode cX8_clear 4 = .ok (.invokevirtual 41, 3) := by decide +kernel
theorem dX8_clear_7 : decode cX8_clear 7 = .ok (.aload_n 0, 1) := by decide +kernel
theorem dX8_clear_8 : decode cX8_clear 8 = .ok (.getfield 18, 3) := by decide +kernel
theorem dX8_clear_11 : decode cX8_clear 11 = .ok (.invokevirtual 41, 3) := by decide +kernel
theorem dX8_clear_14 : decode cX8_clear 14 = .ok (.aload_n 0, 1) := by decide +kernel
theorem dX8_clear_15 : decode cX8_clear 15 = .ok (.getfield 21, 3) := by decide +kernel
theorem dX8_clear_18 : decode cX8_clear 18 = .ok (.invokevirtual 41, 3) := by decide +kernel
theorem dX8_clear_21 : decode cX8_clear 21 = .ok (.aload_n 0, 1) := by decide +kernel
theorem dX8_clear_22 : decode cX8_clear 22 = .ok (.getfield 24, 3) := by decide +kernel
theorem dX8_clear_25 : decode cX8_clear 25 = .ok (.invokevirtual 41, 3) := by decide +kernel
theorem dX8_clear_28 : decode cX8_clear 28 = .ok (.aload_n 0, 1) := by decide +kernel
theorem dX8_clear_29 : decode cX8_clear 29 = .ok (.getfield 27, 3) := by decide +kernel
theorem dX8_clear_32 : decode cX8_clear 32 = .ok (.invokevirtual 41, 3) := by decide +kernel
theorem dX8_clear_35 : decode cX8_clear 35 = .ok (.aload_n 0, 1) := by decide +kernel
theorem dX8_clear_36 : decode cX8_clear 36 = .ok (.getfield 30, 3) := by decide +kernel
theorem dX8_clear_39 : decode cX8_clear 39 = .ok (.iconst 1, 1) := by decide +kernel
theorem dX8_clear_40 : decode cX8_clear 40 = .ok (.invokestatic 44, 3) := by decide +kernel
theorem dX8_clear_43 : decode cX8_clear 43 = .ok (.aload_n 0, 1) := by decide +kernel
theorem dX8_clear_44 : decode cX8_clear 44 = .ok (.getfield 37, 3) := by decide +kernel
theorem dX8_clear_47 : decode cX8_clear 47 = .ok (.invokevirtual 50, 3) := by decide +kernel
theorem dX8_clear_50 : decode cX8_clear 50 = .ok (.aload_n 0, 1) := by decide +kernel
theorem dX8_clear_51 : decode cX8_clear 51 = .ok (.sipush 900, 3) := by decide +kernel
theorem dX8_clear_54 : decode cX8_clear 54 = .ok (.putfield 51, 3) := by decide +kernel
theorem dX8_clear_57 : decode cX8_clear 57 = .ok (.aload_n 0, 1) := by decide +kernel
theorem dX8_clear_58 : decode cX8_clear 58 = .ok (.sipush 1000, 3) := by decide +kernel
theorem dX8_clear_61 : decode cX8_clear 61 = .ok (.putfield 55, 3) := by decide +kernel
theorem dX8_clear_64 : decode cX8_clear 64 = .ok (.aload_n 0, 1) := by decide +kernel
theorem dX8_clear_65 : decode cX8_clear 65 = .ok (.bipush 20, 2) := by decide +kernel
theorem dX8_clear_67 : decode cX8_clear 67 = .ok (.putfield 58, 3) := by decide +kernel
theorem dX8_clear_70 : decode cX8_clear 70 = .ok (.aload_n 0, 1) := by decide +kernel
theorem dX8_clear_71 : decode cX8_clear 71 = .ok (.iconst 0, 1) := by decide +kernel
theorem dX8_clear_72 : decode cX8_clear 72 = .ok (.putfield 61, 3) := by decide +kernel
theorem dX8_clear_75 : decode cX8_clear 75 = .ok (.aload_n 0, 1) := by decide +kernel
theorem dX8_clear_76 : decode cX8_clear 76 = .ok (.iconst 0, 1) := by decide +kernel
theorem dX8_clear_77 : decode cX8_clear 77 = .ok (.putfield 64, 3) := by decide +kernel
theorem dX8_clear_80 : decode cX8_clear 80 = .ok (.aload_n 0, 1) := by decide +kernel
theorem dX8_clear_81 : decode cX8_clear 81 = .ok (.bipush 10, 2) := by decide +kernel
theorem dX8_clear_83 : decode cX8_clear 83 = .ok (.putfield 67, 3) := by decide +kernel
theorem dX8_clear_86 : decode cX8_clear 86 = .ok (.aload_n 0, 1) := by decide +kernel
theorem dX8_clear_87 : decode cX8_clear 87 = .ok (.bipush 60, 2) := by decide +kernel
theorem dX8_clear_89 : decode cX8_clear 89 = .ok (.putfield 70, 3) := by decide +kernel
theorem dX8_clear_92 : decode cX8_clear 92 = .ok (.aload_n 0, 1) := by decide +kernel
theorem dX8_clear_93 : decode cX8_clear 93 = .ok (.bipush 20, 2) := by decide +kernel
theorem dX8_clear_95 : decode cX8_clear 95 = .ok (.putfield 73, 3) := by decide +kernel
theorem dX8_clear_98 : decode cX8_clear 98 = .ok (.aload_n 0, 1) := by decide +kernel
theorem dX8_clear_99 : decode cX8_clear 99 = .ok (.bipush 50, 2) := by decide +kernel
theorem dX8_clear_101 : decode cX8_clear 101 = .ok (.putfield 76, 3) := by decide +kernel
theorem dX8_clear_104 : decode cX8_clear 104 = .ok (.aload_n 0, 1) := by decide +kernel
theorem dX8_clear_105 : decode cX8_clear 105 = .ok (.bipush 8, 2) := by decide +kernel
theorem dX8_clear_107 : decode cX8_clear 107 = .ok (.putfield 79, 3) := by decide +kernel
theorem dX8_clear_110 : decode cX8_clear 110 = .ok (.aload_n 0, 1) := by decide +kernel
theorem dX8_clear_111 : decode cX8_clear 111 = .ok (.iconst 0, 1) := by decide +kernel
theorem dX8_clear_112 : decode cX8_clear 112 = .ok (.putfield 82, 3) := by decide +kernel
theorem dX8_clear_115 : decode cX8_clear 115 = .ok (.return_, 1) := by decide +kernel
theorem dX8_fillUntold_0 : decode cX8_fillUntold 0 = .ok (.aload_n 0, 1) := by decide +kernel
theorem dX8_fillUntold_1 : decode cX8_fillUntold 1 = .ok (.getfield 12, 3) := by decide +kernel
theorem dX8_fillUntold_4 : decode cX8_fillUntold 4 = .ok (.iconst 0, 1) := by decide +kernel
theorem dX8_fillUntold_5 : decode cX8_fillUntold 5 = .ok (.invokevirtual 85, 3) := by decide +kernel
theorem dX8_fillUntold_8 : decode cX8_fillUntold 8 = .ok (.aload_n 0, 1) := by decide +kernel
theorem dX8_fillUntold_9 : decode cX8_fillUntold 9 = .ok (.getfield 21, 3) := by decide +kernel
theorem dX8_fillUntold_12 : decode cX8_fillUntold 12 = .ok (.iconst 0, 1) := by decide +kernel
theorem dX8_fillUntold_13 : decode cX8_fillUntold 13 = .ok (.invokevirtual 85, 3) := by decide +kernel
theorem dX8_fillUntold_16 : decode cX8_fillUntold 16 = .ok (.aload_n 0, 1) := by decide +kernel
theorem dX8_fillUntold_17 : decode cX8_fillUntold 17 = .ok (.getfield 24, 3) := by decide +kernel
theorem dX8_fillUntold_20 : decode cX8_fillUntold 20 = .ok (.sipush 170, 3) := by decide +kernel
theorem dX8_fillUntold_23 : decode cX8_fillUntold 23 = .ok (.invokevirtual 85, 3) := by decide +kernel
theorem dX8_fillUntold_26 : decode cX8_fillUntold 26 = .ok (.aload_n 0, 1) := by decide +kernel
theorem dX8_fillUntold_27 : decode cX8_fillUntold 27 = .ok (.getfield 27, 3) := by decide +kernel
theorem dX8_fillUntold_30 : decode cX8_fillUntold 30 = .ok (.iconst 1, 1) := by decide +kernel
theorem dX8_fillUntold_31 : decode cX8_fillUntold 31 = .ok (.invokevirtual 85, 3) := by decide +kernel
theorem dX8_fillUntold_34 : decode cX8_fillUntold 34 = .ok (.aload_n 0, 1) := by decide +kernel
theorem dX8_fillUntold_35 : decode cX8_fillUntold 35 = .ok (.getfield 18, 3) := by decide +kernel
theorem dX8_fillUntold_38 : decode cX8_fillUntold 38 = .ok (.getfield 89, 3) := by decide +kernel
theorem dX8_fillUntold_41 : decode cX8_fillUntold 41 = .ok (.ifCond .ne 99, 3) := by decide +kernel
theorem dX8_fillUntold_44 : decode cX8_fillUntold 44 = .ok (.aload_n 0, 1) := by decide +kernel
theorem dX8_fillUntold_45 : decode cX8_fillUntold 45 = .ok (.getfield 18, 3) := by decide +kernel
theorem dX8_fillUntold_48 : decode cX8_fillUntold 48 = .ok (.iconst 0, 1) := by decide +kernel
theorem dX8_fillUntold_49 : decode cX8_fillUntold 49 = .ok (.aload_n 0, 1) := by decide +kernel
theorem dX8_fillUntold_50 : decode cX8_fillUntold 50 = .ok (.getfield 51, 3) := by decide +kernel
theorem dX8_fillUntold_53 : decode cX8_fillUntold 53 = .ok (.invokevirtual 92, 3) := by decide +kernel
theorem dX8_fillUntold_56 : decode cX8_fillUntold 56 = .ok (.aload_n 0, 1) := by decide +kernel
theorem dX8_fillUntold_57 : decode cX8_fillUntold 57 = .ok (.getfield 18, 3) := by decide +kernel
theorem dX8_fillUntold_60 : decode cX8_fillUntold 60 = .ok (.iconst 0, 1) := by decide +kernel
theorem dX8_fillUntold_61 : decode cX8_fillUntold 61 = .ok (.iconst 2, 1) := by decide +kernel
theorem dX8_fillUntold_62 : decode cX8_fillUntold 62 = .ok (.invokevirtual 92, 3) := by decide +kernel
theorem dX8_fillUntold_65 : decode cX8_fillUntold 65 = .ok (.aload_n 0, 1) := by decide +kernel
theorem dX8_fillUntold_66 : decode cX8_fillUntold 66 = .ok (.getfield 18, 3) := by decide +kernel
theorem dX8_fillUntold_69 : decode cX8_fillUntold 69 = .ok (.iconst 1, 1) := by decide +kernel
theorem dX8_fillUntold_70 : decode cX8_fillUntold 70 = .ok (.iconst 2, 1) := by decide +kernel
theorem dX8_fillUntold_71 : decode cX8_fillUntold 71 = .ok (.invokevirtual 92, 3) := by decide +kernel
theorem dX8_fillUntold_74 : decode cX8_fillUntold 74 = .ok (.aload_n 0, 1) := by decide +kernel
theorem dX8_fillUntold_75 : decode cX8_fillUntold 75 = .ok (.getfield 18, 3) := by decide +kernel
theorem dX8_fillUntold_78 : decode cX8_fillUntold 78 = .ok (.bipush 42, 2) := by decide +kernel
theorem dX8_fillUntold_80 : decode cX8_fillUntold 80 = .ok (.iconst 0, 1) := by decide +kernel
theorem dX8_fillUntold_81 : decode cX8_fillUntold 81 = .ok (.invokevirtual 92, 3) := by decide +kernel
theorem dX8_fillUntold_84 : decode cX8_fillUntold 84 = .ok (.aload_n 0, 1) := by decide +kernel
theorem dX8_fillUntold_85 : decode cX8_fillUntold 85 = .ok (.getfield 18, 3) := by decide +kernel
theorem dX8_fillUntold_88 : decode cX8_fillUntold 88 = .ok (.bipush 43, 2) := by decide +kernel
theorem dX8_fillUntold_90 : decode cX8_fillUntold 90 = .ok (.iconst 0, 1) := by decide +kernel
theorem dX8_fillUntold_91 : decode cX8_fillUntold 91 = .ok (.invokevirtual 92, 3) := by decide +kernel
theorem dX8_fillUntold_94 : decode cX8_fillUntold 94 = .ok (.aload_n 0, 1) := by decide +kernel
theorem dX8_fillUntold_95 : decode cX8_fillUntold 95 = .ok (.getfield 18, 3) := by decide +kernel
theorem dX8_fillUntold_98 : decode cX8_fillUntold 98 = .ok (.iconst 0, 1) := by decide +kernel
theorem dX8_fillUntold_99 : decode cX8_fillUntold 99 = .ok (.iconst 5, 1) := by decide +kernel
theorem dX8_fillUntold_100 : decode cX8_fillUntold 100 = .ok (.invokevirtual 92, 3) := by decide +kernel
theorem dX8_fillUntold_103 : decode cX8_fillUntold 103 = .ok (.aload_n 0, 1) := by decide +kernel
theorem dX8_fillUntold_104 : decode cX8_fillUntold 104 = .ok (.getfield 18, 3) := by decide +kernel
theorem dX8_fillUntold_107 : decode cX8_fillUntold 107 = .ok (.iconst 1, 1) := by decide +kernel
theorem dX8_fillUntold_108 : decode cX8_fillUntold 108 = .ok (.bipush 7, 2) := by decide +kernel
theorem dX8_fillUntold_110 : decode cX8_fillUntold 110 = .ok (.invokevirtual 92, 3) := by decide +kernel
theorem dX8_fillUntold_113 : decode cX8_fillUntold 113 = .ok (.aload_n 0, 1) := by decide +kernel
theorem dX8_fillUntold_114 : decode cX8_fillUntold 114 = .ok (.getfield 18, 3) := by decide +kernel
theorem dX8_fillUntold_117 : decode cX8_fillUntold 117 = .ok (.bipush 42, 2) := by decide +kernel
theorem dX8_fillUntold_119 : decode cX8_fillUntold 119 = .ok (.iconst 0, 1) := by decide +kernel
theorem dX8_fillUntold_120 : decode cX8_fillUntold 120 = .ok (.invokevirtual 92, 3) := by decide +kernel
theorem dX8_fillUntold_123 : decode cX8_fillUntold 123 = .ok (.aload_n 0, 1) := by decide +kernel
theorem dX8_fillUntold_124 : decode cX8_fillUntold 124 = .ok (.getfield 18, 3) := by decide +kernel
theorem dX8_fillUntold_127 : decode cX8_fillUntold 127 = .ok (.bipush 43, 2) := by decide +kernel
theorem dX8_fillUntold_129 : decode cX8_fillUntold 129 = .ok (.iconst 0, 1) := by decide +kernel
theorem dX8_fillUntold_130 : decode cX8_fillUntold 130 = .ok (.invokevirtual 92, 3) := by decide +kernel
theorem dX8_fillUntold_133 : decode cX8_fillUntold 133 = .ok (.aload_n 0, 1) := by decide +kernel
theorem dX8_fillUntold_134 : decode cX8_fillUntold 134 = .ok (.getfield 18, 3) := by decide +kernel
theorem dX8_fillUntold_137 : decode cX8_fillUntold 137 = .ok (.invokevirtual 96, 3) := by decide +kernel
theorem dX8_fillUntold_140 : decode cX8_fillUntold 140 = .ok (.return_, 1) := by decide +kernel
theorem dX9_init_0 : decode cX9_init 0 = .ok (.aload_n 0, 1) := by decide +kernel
theorem dX9_init_1 : decode cX9_init 1 = .ok (.invokespecial 3, 3) := by decide +kernel
theorem dX9_init_4 : decode cX9_init 4 = .ok (.aload_n 0, 1) := by decide +kernel
theorem dX9_init_5 : decode cX9_init 5 = .ok (.sipush 401, 3) := by decide +kernel
theorem dX9_init_8 : decode cX9_init 8 = .ok (.newarray .int, 2) := by decide +kernel
theorem dX9_init_10 : decode cX9_init 10 = .ok (.putfield 11, 3) := by decide +kernel
theorem dX9_init_13 : decode cX9_init 13 = .ok (.aload_n 0, 1) := by decide +kernel
theorem dX9_init_14 : decode cX9_init 14 = .ok (.sipush 401, 3) := by decide +kernel
theorem dX9_init_17 : decode cX9_init 17 = .ok (.newarray .int, 2) := by decide +kernel
theorem dX9_init_19 : decode cX9_init 19 = .ok (.putfield 15, 3) := by decide +kernel
theorem dX9_init_22 : decode cX9_init 22 = .ok (.aload_n 0, 1) := by decide +kernel
theorem dX9_init_23 : decode cX9_init 23 = .ok (.sipush 401, 3) := by decide +kernel
theorem dX9_init_26 : decode cX9_init 26 = .ok (.newarray .int, 2) := by decide +kernel
theorem dX9_init_28 : decode cX9_init 28 = .ok (.putfield 18, 3) := by decide +kernel
theorem dX9_init_31 : decode cX9_init 31 = .ok (.aload_n 0, 1) := by decide +kernel
theorem dX9_init_32 : decode cX9_init 32 = .ok (.aload_n 1, 1) := by decide +kernel
theorem dX9_init_33 : decode cX9_init 33 = .ok (.putfield 21, 3) := by decide +kernel
theorem dX9_init_36 : decode cX9_init 36 = .ok (.return_, 1) := by decide +kernel
theorem dX9_scan_0 : decode cX9_scan 0 = .ok (.aload_n 0, 1) := by decide +kernel
theorem dX9_scan_1 : decode cX9_scan 1 = .ok (.iconst 0, 1) := by decide +kernel
theorem dX9_scan_2 : decode cX9_scan 2 = .ok (.putfield 25, 3) := by decide +kernel
theorem dX9_scan_5 : decode cX9_scan 5 = .ok (.iconst 1, 1) := by decide +kernel
theorem dX9_scan_6 : decode cX9_scan 6 = .ok (.istore_n 1, 1) := by decide +kernel
theorem dX9_scan_7 : decode cX9_scan 7 = .ok (.iconst 0, 1) := by decide +kernel
theorem dX9_scan_8 : decode cX9_scan 8 = .ok (.istore_n 2, 1) := by decide +kernel
theorem dX9_scan_9 : decode cX9_scan 9 = .ok (.iload_n 2, 1) := by decide +kernel
theorem dX9_scan_10 : decode cX9_scan 10 = .ok (.sipush 400, 3) := by decide +kernel
theorem dX9_scan_13 : decode cX9_scan 13 = .ok (.if_icmp .gt 57, 3) := by decide +kernel
theorem dX9_scan_16 : decode cX9_scan 16 = .ok (.iload_n 1, 1) := by decide +kernel
theorem dX9_scan_17 : decode cX9_scan 17 = .ok (.ifCond .eq 53, 3) := by decide +kernel
theorem dX9_scan_20 : decode cX9_scan 20 = .ok (.aload_n 0, 1) := by decide +kernel
theorem dX9_scan_21 : decode cX9_scan 21 = .ok (.invokevirtual 29, 3) := by decide +kernel
theorem dX9_scan_24 : decode cX9_scan 24 = .ok (.aload_n 0, 1) := by decide +kernel
theorem dX9_scan_25 : decode cX9_scan 25 = .ok (.getfield 15, 3) := by decide +kernel
theorem dX9_scan_28 : decode cX9_scan 28 = .ok (.iload_n 2, 1) := by decide +kernel
theorem dX9_scan_29 : decode cX9_scan 29 = .ok (.aload_n 0, 1) := by decide +kernel
theorem dX9_scan_30 : decode cX9_scan 30 = .ok (.getfield 25, 3) := by decide +kernel
theorem dX9_scan_33 : decode cX9_scan 33 = .ok (.iastore, 1) := by decide +kernel
theorem dX9_scan_34 : decode cX9_scan 34 = .ok (.aload_n 0, 1) := by decide +kernel
theorem dX9_scan_35 : decode cX9_scan 35 = .ok (.iload_n 2, 1) := by decide +kernel
theorem dX9_scan_36 : decode cX9_scan 36 = .ok (.invokevirtual 32, 3) := by decide +kernel
theorem dX9_scan_39 : decode cX9_scan 39 = .ok (.aload_n 0, 1) := by decide +kernel
theorem dX9_scan_40 : decode cX9_scan 40 = .ok (.getfield 11, 3) := by decide +kernel
theorem dX9_scan_43 : decode cX9_scan 43 = .ok (.iload_n 2, 1) := by decide +kernel
theorem dX9_scan_44 : decode cX9_scan 44 = .ok (.iaload, 1) := by decide +kernel
theorem dX9_scan_45 : decode cX9_scan 45 = .ok (.ifCond .eq 17, 3) := by decide +kernel
theorem dX9_scan_48 : decode cX9_scan 48 = .ok (.aload_n 0, 1) := by decide +kernel
theorem dX9_scan_49 : decode cX9_scan 49 = .ok (.getfield 11, 3) := by decide +kernel
theorem dX9_scan_52 : decode cX9_scan 52 = .ok (.iload_n 2, 1) := by decide +kernel
theorem dX9_scan_53 : decode cX9_scan 53 = .ok (.iaload, 1) := by decide +kernel
theorem dX9_scan_54 : decode cX9_scan 54 = .ok (.iconst 1, 1) := by decide +kernel
theorem dX9_scan_55 : decode cX9_scan 55 = .ok (.if_icmp .eq 7, 3) := by decide +kernel
theorem dX9_scan_58 : decode cX9_scan 58 = .ok (.iconst 1, 1) := by decide +kernel
theorem dX9_scan_59 : decode cX9_scan 59 = .ok (.goto 4, 3) := by decide +kernel
theorem dX9_scan_62 : decode cX9_scan 62 = .ok (.iconst 0, 1) := by decide +kernel
theorem dX9_scan_63 : decode cX9_scan 63 = .ok (.istore_n 1, 1) := by decide +kernel
theorem dX9_scan_64 : decode cX9_scan 64 = .ok (.iinc 2 1, 3) := by decide +kernel
theorem dX9_scan_67 : decode cX9_scan 67 = .ok (.goto (-58), 3) := by decide +kernel
theorem dX9_scan_70 : decode cX9_scan 70 = .ok (.return_, 1) := by decide +kernel
theorem dX9_isSameName_0 : decode cX9_isSameName 0 = .ok (.aload_n 0, 1) := by decide +kernel
theorem dX9_isSameName_1 : decode cX9_isSameName 1 = .ok (.getfield 18, 3) := by decide +kernel
theorem dX9_isSameName_4 : decode cX9_isSameName 4 = .ok (.iload_n 1, 1) := by decide +kernel
theorem dX9_isSameName_5 : decode cX9_isSameName 5 = .ok (.iaload, 1) := by decide +kernel
theorem dX9_isSameName_6 : decode cX9_isSameName 6 = .ok (.aload_n 0, 1) := by decide +kernel
theorem dX9_isSameName_7 : decode cX9_isSameName 7 = .ok (.getfield 18, 3) := by decide +kernel
theorem dX9_isSameName_10 : decode cX9_isSameName 10 = .ok (.iload_n 2, 1) := by decide +kernel
theorem dX9_isSameName_11 : decode cX9_isSameName 11 = .ok (.iaload, 1) := by decide +kernel
theorem dX9_isSameName_12 : decode cX9_isSameName 12 = .ok (.if_icmp .eq 5, 3) := by decide +kernel
theorem dX9_isSameName_15 : decode cX9_isSameName 15 = .ok (.iconst 0, 1) := by decide +kernel
theorem dX9_isSameName_16 : decode cX9_isSameName 16 = .ok (.ireturn, 1) := by decide +kernel
theorem dX9_isSameName_17 : decode cX9_isSameName 17 = .ok (.iconst 0, 1) := by decide +kernel
theorem dX9_isSameName_18 : decode cX9_isSameName 18 = .ok (.istore_n 3, 1) := by decide +kernel
theorem dX9_isSameName_19 : decode cX9_isSameName 19 = .ok (.iload_n 3, 1) := by decide +kernel
theorem dX9_isSameName_20 : decode cX9_isSameName 20 = .ok (.aload_n 0, 1) := by decide +kernel
theorem dX9_isSameName_21 : decode cX9_isSameName 21 = .ok (.getfield 18, 3) := by decide +kernel
theorem dX9_isSameName_24 : decode cX9_isSameName 24 = .ok (.iload_n 1, 1) := by decide +kernel
theorem dX9_isSameName_25 : decode cX9_isSameName 25 = .ok (.iaload, 1) := by decide +kernel
theorem dX9_isSameName_26 : decode cX9_isSameName 26 = .ok (.if_icmp .ge 44, 3) := by decide +kernel
theorem dX9_isSameName_29 : decode cX9_isSameName 29 = .ok (.aload_n 0, 1) := by decide +kernel
theorem dX9_isSameName_30 : decode cX9_isSameName 30 = .ok (.getfield 21, 3) := by decide +kernel
theorem dX9_isSameName_33 : decode cX9_isSameName 33 = .ok (.aload_n 0, 1) := by decide +kernel
theorem dX9_isSameName_34 : decode cX9_isSameName 34 = .ok (.getfield 15, 3) := by decide +kernel
theorem dX9_isSameName_37 : decode cX9_isSameName 37 = .ok (.iload_n 1, 1) := by decide +kernel
theorem dX9_isSameName_38 : decode cX9_isSameName 38 = .ok (.iaload, 1) := by decide +kernel
theorem dX9_isSameName_39 : decode cX9_isSameName 39 = .ok (.iload_n 3, 1) := by decide +kernel
theorem dX9_isSameName_40 : decode cX9_isSameName 40 = .ok (.iadd, 1) := by decide +kernel
theorem dX9_isSameName_41 : decode cX9_isSameName 41 = .ok (.invokevirtual 36, 3) := by decide +kernel
theorem dX9_isSameName_44 : decode cX9_isSameName 44 = .ok (.aload_n 0, 1) := by decide +kernel
theorem dX9_isSameName_45 : decode cX9_isSameName 45 = .ok (.getfield 21, 3) := by decide +kernel
theorem dX9_isSameName_48 : decode cX9_isSameName 48 = .ok (.aload_n 0, 1) := by decide +kernel
theorem dX9_isSameName_49 : decode cX9_isSameName 49 = .ok (.getfield 15, 3) := by decide +kernel
theorem dX9_isSameName_52 : decode cX9_isSameName 52 = .ok (.iload_n 2, 1) := by decide +kernel
theorem dX9_isSameName_53 : decode cX9_isSameName 53 = .ok (.iaload, 1) := by decide +kernel
theorem dX9_isSameName_54 : decode cX9_isSameName 54 = .ok (.iload_n 3, 1) := by decide +kernel
theorem dX9_isSameName_55 : decode cX9_isSameName 55 = .ok (.iadd, 1) := by decide +kernel
theorem dX9_isSameName_56 : decode cX9_isSameName 56 = .ok (.invokevirtual 36, 3) := by decide +kernel
theorem dX9_isSameName_59 : decode cX9_isSameName 59 = .ok (.if_icmp .eq 5, 3) := by decide +kernel
theorem dX9_isSameName_62 : decode cX9_isSameName 62 = .ok (.iconst 0, 1) := by decide +kernel
theorem dX9_isSameName_63 : decode cX9_isSameName 63 = .ok (.ireturn, 1) := by decide +kernel
theorem dX9_isSameName_64 : decode cX9_isSameName 64 = .ok (.iinc 3 1, 3) := by decide +kernel
theorem dX9_isSameName_67 : decode cX9_isSameName 67 = .ok (.goto (-48), 3) := by decide +kernel
theorem dX9_isSameName_70 : decode cX9_isSameName 70 = .ok (.iconst 1, 1) := by decide +kernel
theorem dX9_isSameName_71 : decode cX9_isSameName 71 = .ok (.ireturn, 1) := by decide +kernel
theorem dX9_skipBlanks_0 : decode cX9_skipBlanks 0 = .ok (.aload_n 0, 1) := by decide +kernel
theorem dX9_skipBlanks_1 : decode cX9_skipBlanks 1 = .ok (.getfield 25, 3) := by decide +kernel
theorem dX9_skipBlanks_4 : decode cX9_skipBlanks 4 = .ok (.aload_n 0, 1) := by decide +kernel
theorem dX9_skipBlanks_5 : decode cX9_skipBlanks 5 = .ok (.getfield 21, 3) := by decide +kernel
theorem dX9_skipBlanks_8 : decode cX9_skipBlanks 8 = .ok (.getfield 42, 3) := by decide +kernel
theorem dX9_skipBlanks_11 : decode cX9_skipBlanks 11 = .ok (.if_icmp .ge 33, 3) := by decide +kernel
theorem dX9_skipBlanks_14 : decode cX9_skipBlanks 14 = .ok (.aload_n 0, 1) := by decide +kernel
theorem dX9_skipBlanks_15 : decode cX9_skipBlanks 15 = .ok (.getfield 21, 3) := by decide +kernel
theorem dX9_skipBlanks_18 : decode cX9_skipBlanks 18 = .ok (.aload_n 0, 1) := by decide +kernel
theorem dX9_skipBlanks_19 : decode cX9_skipBlanks 19 = .ok (.getfield 25, 3) := by decide +kernel
theorem dX9_skipBlanks_22 : decode cX9_skipBlanks 22 = .ok (.invokevirtual 36, 3) := by decide +kernel
theorem dX9_skipBlanks_25 : decode cX9_skipBlanks 25 = .ok (.invokestatic 45, 3) := by decide +kernel
theorem dX9_skipBlanks_28 : decode cX9_skipBlanks 28 = .ok (.ifCond .eq 16, 3) := by decide +kernel
theorem dX9_skipBlanks_31 : decode cX9_skipBlanks 31 = .ok (.aload_n 0, 1) := by decide +kernel
theorem dX9_skipBlanks_32 : decode cX9_skipBlanks 32 = .ok (.dup, 1) := by decide +kernel
theorem dX9_skipBlanks_33 : decode cX9_skipBlanks 33 = .ok (.getfield 25, 3) := by decide +kernel
theorem dX9_skipBlanks_36 : decode cX9_skipBlanks 36 = .ok (.iconst 1, 1) := by decide +kernel
theorem dX9_skipBlanks_37 : decode cX9_skipBlanks 37 = .ok (.iadd, 1) := by decide +kernel
theorem dX9_skipBlanks_38 : decode cX9_skipBlanks 38 = .ok (.putfield 25, 3) := by decide +kernel
theorem dX9_skipBlanks_41 : decode cX9_skipBlanks 41 = .ok (.goto (-41), 3) := by decide +kernel
theorem dX9_skipBlanks_44 : decode cX9_skipBlanks 44 = .ok (.return_, 1) := by decide +kernel
theorem dX9_scanOne_0 : decode cX9_scanOne 0 = .ok (.aload_n 0, 1) := by decide +kernel
theorem dX9_scanOne_1 : decode cX9_scanOne 1 = .ok (.getfield 21, 3) := by decide +kernel
theorem dX9_scanOne_4 : decode cX9_scanOne 4 = .ok (.aload_n 0, 1) := by decide +kernel
theorem dX9_scanOne_5 : decode cX9_scanOne 5 = .ok (.getfield 25, 3) := by decide +kernel
theorem dX9_scanOne_8 : decode cX9_scanOne 8 = .ok (.invokevirtual 36, 3) := by decide +kernel
theorem dX9_scanOne_11 : decode cX9_scanOne 11 = .ok (.istore_n 2, 1) := by decide +kernel
theorem dX9_scanOne_12 : decode cX9_scanOne 12 = .ok (.iload_n 2, 1) := by decide +kernel
theorem dX9_scanOne_13 : decode cX9_scanOne 13 = .ok (.invokestatic 49, 3) := by decide +kernel
theorem dX9_scanOne_16 : decode cX9_scanOne 16 = .ok (.ifCond .eq 11, 3) := by decide +kernel
theorem dX9_scanOne_19 : decode cX9_scanOne 19 = .ok (.aload_n 0, 1) := by decide +kernel
theorem dX9_scanOne_20 : decode cX9_scanOne 20 = .ok (.iload_n 1, 1) := by decide +kernel
theorem dX9_scanOne_21 : decode cX9_scanOne 21 = .ok (.invokevirtual 52, 3) := by decide +kernel
theorem dX9_scanOne_24 : decode cX9_scanOne 24 = .ok (.goto 69, 3) := by decide +kernel
theorem dX9_scanOne_27 : decode cX9_scanOne 27 = .ok (.iload_n 2, 1) := by decide +kernel
theorem dX9_scanOne_28 : decode cX9_scanOne 28 = .ok (.invokestatic 55, 3) := by decide +kernel
theorem dX9_scanOne_31 : decode cX9_scanOne 31 = .ok (.ifCond .eq 11, 3) := by decide +kernel
theorem dX9_scanOne_34 : decode cX9_scanOne 34 = .ok (.aload_n 0, 1) := by decide +kernel
theorem dX9_scanOne_35 : decode cX9_scanOne 35 = .ok (.iload_n 1, 1) := by decide +kernel
theorem dX9_scanOne_36 : decode cX9_scanOne 36 = .ok (.invokevirtual 58, 3) := by decide +kernel
theorem dX9_scanOne_39 : decode cX9_scanOne 39 = .ok (.goto 54, 3) := by decide +kernel
theorem dX9_scanOne_42 : decode cX9_scanOne 42 = .ok (.iload_n 2, 1) := by decide +kernel
theorem dX9_scanOne_43 : decode cX9_scanOne 43 = .ok (.iconst (-1), 1) := by decide +kernel
theorem dX9_scanOne_44 : decode cX9_scanOne 44 = .ok (.if_icmp .eq 33, 3) := by decide +kernel
theorem dX9_scanOne_47 : decode cX9_scanOne 47 = .ok (.ldc 61, 2) := by decide +kernel
theorem dX9_scanOne_49 : decode cX9_scanOne 49 = .ok (.iload_n 2, 1) := by decide +kernel
theorem dX9_scanOne_50 : decode cX9_scanOne 50 = .ok (.i2c, 1) := by decide +kernel
theorem dX9_scanOne_51 : decode cX9_scanOne 51 = .ok (.invokevirtual 63, 3) := by decide +kernel
theorem dX9_scanOne_54 : decode cX9_scanOne 54 = .ok (.ifCond .lt 23, 3) := by decide +kernel
theorem dX9_scanOne_57 : decode cX9_scanOne 57 = .ok (.aload_n 0, 1) := by decide +kernel
theorem dX9_scanOne_58 : decode cX9_scanOne 58 = .ok (.getfield 11, 3) := by decide +kernel
theorem dX9_scanOne_61 : decode cX9_scanOne 61 = .ok (.iload_n 1, 1) := by decide +kernel
theorem dX9_scanOne_62 : decode cX9_scanOne 62 = .ok (.iload_n 2, 1) := by decide +kernel
theorem dX9_scanOne_63 : decode cX9_scanOne 63 = .ok (.iastore, 1) := by decide +kernel
theorem dX9_scanOne_64 : decode cX9_scanOne 64 = .ok (.aload_n 0, 1) := by decide +kernel
theorem dX9_scanOne_65 : decode cX9_scanOne 65 = .ok (.dup, 1) := by decide +kernel
theorem dX9_scanOne_66 : decode cX9_scanOne 66 = .ok (.getfield 25, 3) := by decide +kernel
theorem dX9_scanOne_69 : decode cX9_scanOne 69 = .ok (.iconst 1, 1) := by decide +kernel
theorem dX9_scanOne_70 : decode cX9_scanOne 70 = .ok (.iadd, 1) := by decide +kernel
theorem dX9_scanOne_71 : decode cX9_scanOne 71 = .ok (.putfield 25, 3) := by decide +kernel
theorem dX9_scanOne_74 : decode cX9_scanOne 74 = .ok (.goto 19, 3) := by decide +kernel
theorem dX9_scanOne_77 : decode cX9_scanOne 77 = .ok (.aload_n 0, 1) := by decide +kernel
theorem dX9_scanOne_78 : decode cX9_scanOne 78 = .ok (.getfield 11, 3) := by decide +kernel
theorem dX9_scanOne_81 : decode cX9_scanOne 81 = .ok (.iload_n 1, 1) := by decide +kernel
theorem dX9_scanOne_82 : decode cX9_scanOne 82 = .ok (.iload_n 2, 1) := by decide +kernel
theorem dX9_scanOne_83 : decode cX9_scanOne 83 = .ok (.iconst (-1), 1) := by decide +kernel
theorem dX9_scanOne_84 : decode cX9_scanOne 84 = .ok (.if_icmp .ne 7, 3) := by decide +kernel
theorem dX9_scanOne_87 : decode cX9_scanOne 87 = .ok (.iconst 0, 1) := by decide +kernel
theorem dX9_scanOne_88 : decode cX9_scanOne 88 = .ok (.goto 4, 3) := by decide +kernel
theorem dX9_scanOne_91 : decode cX9_scanOne 91 = .ok (.iconst 1, 1) := by decide +kernel
theorem dX9_scanOne_92 : decode cX9_scanOne 92 = .ok (.iastore, 1) := by decide +kernel
theorem dX9_scanOne_93 : decode cX9_scanOne 93 = .ok (.return_, 1) := by decide +kernel
theorem dX9_scanName_0 : decode cX9_scanName 0 = .ok (.aload_n 0, 1) := by decide +kernel
theorem dX9_scanName_1 : decode cX9_scanName 1 = .ok (.getfield 25, 3) := by decide +kernel
theorem dX9_scanName_4 : decode cX9_scanName 4 = .ok (.aload_n 0, 1) := by decide +kernel
theorem dX9_scanName_5 : decode cX9_scanName 5 = .ok (.getfield 21, 3) := by decide +kernel
theorem dX9_scanName_8 : decode cX9_scanName 8 = .ok (.getfield 42, 3) := by decide +kernel
theorem dX9_scanName_11 : decode cX9_scanName 11 = .ok (.if_icmp .ge 33, 3) := by decide +kernel
theorem dX9_scanName_14 : decode cX9_scanName 14 = .ok (.aload_n 0, 1) := by decide +kernel
theorem dX9_scanName_15 : decode cX9_scanName 15 = .ok (.getfield 21, 3) := by decide +kernel
theorem dX9_scanName_18 : decode cX9_scanName 18 = .ok (.aload_n 0, 1) := by decide +kernel
theorem dX9_scanName_19 : decode cX9_scanName 19 = .ok (.getfield 25, 3) := by decide +kernel
theorem dX9_scanName_22 : decode cX9_scanName 22 = .ok (.invokevirtual 36, 3) := by decide +kernel
theorem dX9_scanName_25 : decode cX9_scanName 25 = .ok (.invokestatic 49, 3) := by decide +kernel
theorem dX9_scanName_28 : decode cX9_scanName 28 = .ok (.ifCond .eq 16, 3) := by decide +kernel
theorem dX9_scanName_31 : decode cX9_scanName 31 = .ok (.aload_n 0, 1) := by decide +kernel
theorem dX9_scanName_32 : decode cX9_scanName 32 = .ok (.dup, 1) := by decide +kernel
theorem dX9_scanName_33 : decode cX9_scanName 33 = .ok (.getfield 25, 3) := by decide +kernel
theorem dX9_scanName_36 : decode cX9_scanName 36 = .ok (.iconst 1, 1) := by decide +kernel
theorem dX9_scanName_37 : decode cX9_scanName 37 = .ok (.iadd, 1) := by decide +kernel
theorem dX9_scanName_38 : decode cX9_scanName 38 = .ok (.putfield 25, 3) := by decide +kernel
theorem dX9_scanName_41 : decode cX9_scanName 41 = .ok (.goto (-41), 3) := by decide +kernel
theorem dX9_scanName_44 : decode cX9_scanName 44 = .ok (.aload_n 0, 1) := by decide +kernel
theorem dX9_scanName_45 : decode cX9_scanName 45 = .ok (.getfield 25, 3) := by decide +kernel
theorem dX9_scanName_48 : decode cX9_scanName 48 = .ok (.aload_n 0, 1) := by decide +kernel
theorem dX9_scanName_49 : decode cX9_scanName 49 = .ok (.getfield 15, 3) := by decide +kernel
theorem dX9_scanName_52 : decode cX9_scanName 52 = .ok (.iload_n 1, 1) := by decide +kernel
theorem dX9_scanName_53 : decode cX9_scanName 53 = .ok (.iaload, 1) := by decide +kernel
theorem dX9_scanName_54 : decode cX9_scanName 54 = .ok (.isub, 1) := by decide +kernel
theorem dX9_scanName_55 : decode cX9_scanName 55 = .ok (.istore_n 2, 1) := by decide +kernel
theorem dX9_scanName_56 : decode cX9_scanName 56 = .ok (.aload_n 0, 1) := by decide +kernel
theorem dX9_scanName_57 : decode cX9_scanName 57 = .ok (.getfield 18, 3) := by decide +kernel
theorem dX9_scanName_60 : decode cX9_scanName 60 = .ok (.iload_n 1, 1) := by decide +kernel
theorem dX9_scanName_61 : decode cX9_scanName 61 = .ok (.iload_n 2, 1) := by decide +kernel
theorem dX9_scanName_62 : decode cX9_scanName 62 = .ok (.iastore, 1) := by decide +kernel
theorem dX9_scanName_63 : decode cX9_scanName 63 = .ok (.aload_n 0, 1) := by decide +kernel
theorem dX9_scanName_64 : decode cX9_scanName 64 = .ok (.getfield 11, 3) := by decide +kernel
theorem dX9_scanName_67 : decode cX9_scanName 67 = .ok (.iload_n 1, 1) := by decide +kernel
theorem dX9_scanName_68 : decode cX9_scanName 68 = .ok (.iload_n 2, 1) := by decide +kernel
theorem dX9_scanName_69 : decode cX9_scanName 69 = .ok (.bipush 8, 2) := by decide +kernel
theorem dX9_scanName_71 : decode cX9_scanName 71 = .ok (.if_icmp .le 7, 3) := by decide +kernel
theorem dX9_scanName_74 : decode cX9_scanName 74 = .ok (.iconst 1, 1) := by decide +kernel
theorem dX9_scanName_75 : decode cX9_scanName 75 = .ok (.goto 14, 3) := by decide +kernel
theorem dX9_scanName_78 : decode cX9_scanName 78 = .ok (.aload_n 0, 1) := by decide +kernel
theorem dX9_scanName_79 : decode cX9_scanName 79 = .ok (.aload_n 0, 1) := by decide +kernel
theorem dX9_scanName_80 : decode cX9_scanName 80 = .ok (.getfield 15, 3) := by decide +kernel
theorem dX9_scanName_83 : decode cX9_scanName 83 = .ok (.iload_n 1, 1) := by decide +kernel
theorem dX9_scanName_84 : decode cX9_scanName 84 = .ok (.iaload, 1) := by decide +kernel
theorem dX9_scanName_85 : decode cX9_scanName 85 = .ok (.iload_n 2, 1) := by decide +kernel
theorem dX9_scanName_86 : decode cX9_scanName 86 = .ok (.invokevirtual 68, 3) := by decide +kernel
theorem dX9_scanName_89 : decode cX9_scanName 89 = .ok (.iastore, 1) := by decide +kernel
theorem dX9_scanName_90 : decode cX9_scanName 90 = .ok (.return_, 1) := by decide +kernel
theorem dX9_scanInt_0 : decode cX9_scanInt 0 = .ok (.iconst 0, 1) := by decide +kernel
theorem dX9_scanInt_1 : decode cX9_scanInt 1 = .ok (.istore_n 2, 1) := by decide +kernel
theorem dX9_scanInt_2 : decode cX9_scanInt 2 = .ok (.aload_n 0, 1) := by decide +kernel
theorem dX9_scanInt_3 : decode cX9_scanInt 3 = .ok (.getfield 25, 3) := by decide +kernel
theorem dX9_scanInt_6 : decode cX9_scanInt 6 = .ok (.aload_n 0, 1) := by decide +kernel
theorem dX9_scanInt_7 : decode cX9_scanInt 7 = .ok (.getfield 21, 3) := by decide +kernel
theorem dX9_scanInt_10 : decode cX9_scanInt 10 = .ok (.getfield 42, 3) := by decide +kernel
theorem dX9_scanInt_13 : decode cX9_scanInt 13 = .ok (.if_icmp .ge 53, 3) := by decide +kernel
theorem dX9_scanInt_16 : decode cX9_scanInt 16 = .ok (.aload_n 0, 1) := by decide +kernel
theorem dX9_scanInt_17 : decode cX9_scanInt 17 = .ok (.getfield 21, 3) := by decide +kernel
theorem dX9_scanInt_20 : decode cX9_scanInt 20 = .ok (.aload_n 0, 1) := by decide +kernel
theorem dX9_scanInt_21 : decode cX9_scanInt 21 = .ok (.getfield 25, 3) := by decide +kernel
theorem dX9_scanInt_24 : decode cX9_scanInt 24 = .ok (.invokevirtual 36, 3) := by decide +kernel
theorem dX9_scanInt_27 : decode cX9_scanInt 27 = .ok (.invokestatic 55, 3) := by decide +kernel
theorem dX9_scanInt_30 : decode cX9_scanInt 30 = .ok (.ifCond .eq 36, 3) := by decide +kernel
theorem dX9_scanInt_33 : decode cX9_scanInt 33 = .ok (.iload_n 2, 1) := by decide +kernel
theorem dX9_scanInt_34 : decode cX9_scanInt 34 = .ok (.bipush 10, 2) := by decide +kernel
theorem dX9_scanInt_36 : decode cX9_scanInt 36 = .ok (.imul, 1) := by decide +kernel
theorem dX9_scanInt_37 : decode cX9_scanInt 37 = .ok (.aload_n 0, 1) := by decide +kernel
theorem dX9_scanInt_38 : decode cX9_scanInt 38 = .ok (.getfield 21, 3) := by decide +kernel
theorem dX9_scanInt_41 : decode cX9_scanInt 41 = .ok (.aload_n 0, 1) := by decide +kernel
theorem dX9_scanInt_42 : decode cX9_scanInt 42 = .ok (.getfield 25, 3) := by decide +kernel
theorem dX9_scanInt_45 : decode cX9_scanInt 45 = .ok (.invokevirtual 36, 3) := by decide +kernel
theorem dX9_scanInt_48 : decode cX9_scanInt 48 = .ok (.iadd, 1) := by decide +kernel
theorem dX9_scanInt_49 : decode cX9_scanInt 49 = .ok (.bipush 48, 2) := by decide +kernel
theorem dX9_scanInt_51 : decode cX9_scanInt 51 = .ok (.isub, 1) := by decide +kernel
theorem dX9_scanInt_52 : decode cX9_scanInt 52 = .ok (.istore_n 2, 1) := by decide +kernel
theorem dX9_scanInt_53 : decode cX9_scanInt 53 = .ok (.aload_n 0, 1) := by decide +kernel
theorem dX9_scanInt_54 : decode cX9_scanInt 54 = .ok (.dup, 1) := by decide +kernel
theorem dX9_scanInt_55 : decode cX9_scanInt 55 = .ok (.getfield 25, 3) := by decide +kernel
theorem dX9_scanInt_58 : decode cX9_scanInt 58 = .ok (.iconst 1, 1) := by decide +kernel
theorem dX9_scanInt_59 : decode cX9_scanInt 59 = .ok (.iadd, 1) := by decide +kernel
theorem dX9_scanInt_60 : decode cX9_scanInt 60 = .ok (.putfield 25, 3) := by decide +kernel
theorem dX9_scanInt_63 : decode cX9_scanInt 63 = .ok (.goto (-61), 3) := by decide +kernel
theorem dX9_scanInt_66 : decode cX9_scanInt 66 = .ok (.aload_n 0, 1) := by decide +kernel
theorem dX9_scanInt_67 : decode cX9_scanInt 67 = .ok (.getfield 18, 3) := by decide +kernel
theorem dX9_scanInt_70 : decode cX9_scanInt 70 = .ok (.iload_n 1, 1) := by decide +kernel
theorem dX9_scanInt_71 : decode cX9_scanInt 71 = .ok (.iload_n 2, 1) := by decide +kernel
theorem dX9_scanInt_72 : decode cX9_scanInt 72 = .ok (.iastore, 1) := by decide +kernel
theorem dX9_scanInt_73 : decode cX9_scanInt 73 = .ok (.aload_n 0, 1) := by decide +kernel
theorem dX9_scanInt_74 : decode cX9_scanInt 74 = .ok (.getfield 11, 3) := by decide +kernel
theorem dX9_scanInt_77 : decode cX9_scanInt 77 = .ok (.iload_n 1, 1) := by decide +kernel
theorem dX9_scanInt_78 : decode cX9_scanInt 78 = .ok (.aload_n 0, 1) := by decide +kernel
theorem dX9_scanInt_79 : decode cX9_scanInt 79 = .ok (.getfield 25, 3) := by decide +kernel
theorem dX9_scanInt_82 : decode cX9_scanInt 82 = .ok (.aload_n 0, 1) := by decide +kernel
theorem dX9_scanInt_83 : decode cX9_scanInt 83 = .ok (.getfield 15, 3) := by decide +kernel
theorem dX9_scanInt_86 : decode cX9_scanInt 86 = .ok (.iload_n 1, 1) := by decide +kernel
theorem dX9_scanInt_87 : decode cX9_scanInt 87 = .ok (.iaload, 1) := by decide +kernel
theorem dX9_scanInt_88 : decode cX9_scanInt 88 = .ok (.isub, 1) := by decide +kernel
theorem dX9_scanInt_89 : decode cX9_scanInt 89 = .ok (.iconst 4, 1) := by decide +kernel
theorem dX9_scanInt_90 : decode cX9_scanInt 90 = .ok (.if_icmp .le 7, 3) := by decide +kernel
theorem dX9_scanInt_93 : decode cX9_scanInt 93 = .ok (.iconst 1, 1) := by decide +kernel
theorem dX9_scanInt_94 : decode cX9_scanInt 94 = .ok (.goto 4, 3) := by decide +kernel
theorem dX9_scanInt_97 : decode cX9_scanInt 97 = .ok (.iconst 3, 1) := by decide +kernel
theorem dX9_scanInt_98 : decode cX9_scanInt 98 = .ok (.iastore, 1) := by decide +kernel
theorem dX9_scanInt_99 : decode cX9_scanInt 99 = .ok (.return_, 1) := by decide +kernel
theorem dX9_kindOfName_0 : decode cX9_kindOfName 0 = .ok (.sipush 128, 3) := by decide +kernel
theorem dX9_kindOfName_3 : decode cX9_kindOfName 3 = .ok (.istore_n 3, 1) := by decide +kernel
theorem dX9_kindOfName_4 : decode cX9_kindOfName 4 = .ok (.iconst 0, 1) := by decide +kernel
theorem dX9_kindOfName_5 : decode cX9_kindOfName 5 = .ok (.istore 4, 2) := by decide +kernel
theorem dX9_kindOfName_7 : decode cX9_kindOfName 7 = .ok (.iconst 1, 1) := by decide +kernel
theorem dX9_kindOfName_8 : decode cX9_kindOfName 8 = .ok (.istore 5, 2) := by decide +kernel
theorem dX9_kindOfName_10 : decode cX9_kindOfName 10 = .ok (.iconst 0, 1) := by decide +kernel
theorem dX9_kindOfName_11 : decode cX9_kindOfName 11 = .ok (.istore 6, 2) := by decide +kernel
theorem dX9_kindOfName_13 : decode cX9_kindOfName 13 = .ok (.iload 6, 2) := by decide +kernel
theorem dX9_kindOfName_15 : decode cX9_kindOfName 15 = .ok (.ldc 72, 2) := by decide +kernel
theorem dX9_kindOfName_17 : decode cX9_kindOfName 17 = .ok (.invokevirtual 74, 3) := by decide +kernel
theorem dX9_kindOfName_20 : decode cX9_kindOfName 20 = .ok (.if_icmp .ge 87, 3) := by decide +kernel
theorem dX9_kindOfName_23 : decode cX9_kindOfName 23 = .ok (.ldc 72, 2) := by decide +kernel
theorem dX9_kindOfName_25 : decode cX9_kindOfName 25 = .ok (.iload 6, 2) := by decide +kernel
theorem dX9_kindOfName_27 : decode cX9_kindOfName 27 = .ok (.invokevirtual 77, 3) := by decide +kernel
theorem dX9_kindOfName_30 : decode cX9_kindOfName 30 = .ok (.istore 7, 2) := by decide +kernel
theorem dX9_kindOfName_32 : decode cX9_kindOfName 32 = .ok (.iload 7, 2) := by decide +kernel
theorem dX9_kindOfName_34 : decode cX9_kindOfName 34 = .ok (.bipush 32, 2) := by decide +kernel
theorem dX9_kindOfName_36 : decode cX9_kindOfName 36 = .ok (.if_icmp .eq 43, 3) := by decide +kernel
theorem dX9_kindOfName_39 : decode cX9_kindOfName 39 = .ok (.iload 5, 2) := by decide +kernel
theorem dX9_kindOfName_41 : decode cX9_kindOfName 41 = .ok (.ifCond .eq 29, 3) := by decide +kernel
theorem dX9_kindOfName_44 : decode cX9_kindOfName 44 = .ok (.iload 4, 2) := by decide +kernel
theorem dX9_kindOfName_46 : decode cX9_kindOfName 46 = .ok (.iload_n 2, 1) := by decide +kernel
theorem dX9_kindOfName_47 : decode cX9_kindOfName 47 = .ok (.if_icmp .ge 23, 3) := by decide +kernel
theorem dX9_kindOfName_50 : decode cX9_kindOfName 50 = .ok (.aload_n 0, 1) := by decide +kernel
theorem dX9_kindOfName_51 : decode cX9_kindOfName 51 = .ok (.getfield 21, 3) := by decide +kernel
theorem dX9_kindOfName_54 : decode cX9_kindOfName 54 = .ok (.iload_n 1, 1) := by decide +kernel
theorem dX9_kindOfName_55 : decode cX9_kindOfName 55 = .ok (.iload 4, 2) := by decide +kernel
theorem dX9_kindOfName_57 : decode cX9_kindOfName 57 = .ok (.iadd, 1) := by decide +kernel
theorem dX9_kindOfName_58 : decode cX9_kindOfName 58 = .ok (.invokevirtual 36, 3) := by decide +kernel
theorem dX9_kindOfName_61 : decode cX9_kindOfName 61 = .ok (.iload 7, 2) := by decide +kernel
theorem dX9_kindOfName_63 : decode cX9_kindOfName 63 = .ok (.if_icmp .ne 7, 3) := by decide +kernel
theorem dX9_kindOfName_66 : decode cX9_kindOfName 66 = .ok (.iconst 1, 1) := by decide +kernel
theorem dX9_kindOfName_67 : decode cX9_kindOfName 67 = .ok (.goto 4, 3) := by decide +kernel
theorem dX9_kindOfName_70 : decode cX9_kindOfName 70 = .ok (.iconst 0, 1) := by decide +kernel
theorem dX9_kindOfName_71 : decode cX9_kindOfName 71 = .ok (.istore 5, 2) := by decide +kernel
theorem dX9_kindOfName_73 : decode cX9_kindOfName 73 = .ok (.iinc 4 1, 3) := by decide +kernel
theorem dX9_kindOfName_76 : decode cX9_kindOfName 76 = .ok (.goto 25, 3) := by decide +kernel
theorem dX9_kindOfName_79 : decode cX9_kindOfName 79 = .ok (.iload 5, 2) := by decide +kernel
theorem dX9_kindOfName_81 : decode cX9_kindOfName 81 = .ok (.ifCond .eq 11, 3) := by decide +kernel
theorem dX9_kindOfName_84 : decode cX9_kindOfName 84 = .ok (.iload 4, 2) := by decide +kernel
theorem dX9_kindOfName_86 : decode cX9_kindOfName 86 = .ok (.iload_n 2, 1) := by decide +kernel
theorem dX9_kindOfName_87 : decode cX9_kindOfName 87 = .ok (.if_icmp .ne 5, 3) := by decide +kernel
theorem dX9_kindOfName_90 : decode cX9_kindOfName 90 = .ok (.iload_n 3, 1) := by decide +kernel
theorem dX9_kindOfName_91 : decode cX9_kindOfName 91 = .ok (.ireturn, 1) := by decide +kernel
theorem dX9_kindOfName_92 : decode cX9_kindOfName 92 = .ok (.iinc 3 1, 3) := by decide +kernel
theorem dX9_kindOfName_95 : decode cX9_kindOfName 95 = .ok (.iconst 0, 1) := by decide +kernel
theorem dX9_kindOfName_96 : decode cX9_kindOfName 96 = .ok (.istore 4, 2) := by decide +kernel
theorem dX9_kindOfName_98 : decode cX9_kindOfName 98 = .ok (.iconst 1, 1) := by decide +kernel
theorem dX9_kindOfName_99 : decode cX9_kindOfName 99 = .ok (.istore 5, 2) := by decide +kernel
theorem dX9_kindOfName_101 : decode cX9_kindOfName 101 = .ok (.iinc 6 1, 3) := by decide +kernel
theorem dX9_kindOfName_104 : decode cX9_kindOfName 104 = .ok (.goto (-91), 3) := by decide +kernel
theorem dX9_kindOfName_107 : decode cX9_kindOfName 107 = .ok (.iconst 2, 1) := by decide +kernel
theorem dX9_kindOfName_108 : decode cX9_kindOfName 108 = .ok (.ireturn, 1) := by decide +kernel
theorem dX9_isBlank_0 : decode cX9_isBlank 0 = .ok (.iload_n 0, 1) := by decide +kernel
theorem dX9_isBlank_1 : decode cX9_isBlank 1 = .ok (.bipush 9, 2) := by decide +kernel
theorem dX9_isBlank_3 : decode cX9_isBlank 3 = .ok (.if_icmp .eq 21, 3) := by decide +kernel
theorem dX9_isBlank_6 : decode cX9_isBlank 6 = .ok (.iload_n 0, 1) := by decide +kernel
theorem dX9_isBlank_7 : decode cX9_isBlank 7 = .ok (.bipush 10, 2) := by decide +kernel
theorem dX9_isBlank_9 : decode cX9_isBlank 9 = .ok (.if_icmp .eq 15, 3) := by decide +kernel
theorem dX9_isBlank_12 : decode cX9_isBlank 12 = .ok (.iload_n 0, 1) := by decide +kernel
theorem dX9_isBlank_13 : decode cX9_isBlank 13 = .ok (.bipush 13, 2) := by decide +kernel
theorem dX9_isBlank_15 : decode cX9_isBlank 15 = .ok (.if_icmp .eq 9, 3) := by decide +kernel
theorem dX9_isBlank_18 : decode cX9_isBlank 18 = .ok (.iload_n 0, 1) := by decide +kernel
theorem dX9_isBlank_19 : decode cX9_isBlank 19 = .ok (.bipush 32, 2) := by decide +kernel
theorem dX9_isBlank_21 : decode cX9_isBlank 21 = .ok (.if_icmp .ne 7, 3) := by decide +kernel
theorem dX9_isBlank_24 : decode cX9_isBlank 24 = .ok (.iconst 1, 1) := by decide +kernel
theorem dX9_isBlank_25 : decode cX9_isBlank 25 = .ok (.goto 4, 3) := by decide +kernel
theorem dX9_isBlank_28 : decode cX9_isBlank 28 = .ok (.iconst 0, 1) := by decide +kernel
theorem dX9_isBlank_29 : decode cX9_isBlank 29 = .ok (.ireturn, 1) := by decide +kernel
theorem dX9_isLetter_0 : decode cX9_isLetter 0 = .ok (.iload_n 0, 1) := by decide +kernel
theorem dX9_isLetter_1 : decode cX9_isLetter 1 = .ok (.bipush 97, 2) := by decide +kernel
theorem dX9_isLetter_3 : decode cX9_isLetter 3 = .ok (.if_icmp .lt 13, 3) := by decide +kernel
theorem dX9_isLetter_6 : decode cX9_isLetter 6 = .ok (.iload_n 0, 1) := by decide +kernel
theorem dX9_isLetter_7 : decode cX9_isLetter 7 = .ok (.bipush 122, 2) := by decide +kernel
theorem dX9_isLetter_9 : decode cX9_isLetter 9 = .ok (.if_icmp .gt 7, 3) := by decide +kernel
theorem dX9_isLetter_12 : decode cX9_isLetter 12 = .ok (.iconst 1, 1) := by decide +kernel
theorem dX9_isLetter_13 : decode cX9_isLetter 13 = .ok (.goto 4, 3) := by decide +kernel
theorem dX9_isLetter_16 : decode cX9_isLetter 16 = .ok (.iconst 0, 1) := by decide +kernel
theorem dX9_isLetter_17 : decode cX9_isLetter 17 = .ok (.ireturn, 1) := by decide +kernel
theorem dX9_isDigit_0 : decode cX9_isDigit 0 = .ok (.iload_n 0, 1) := by decide +kernel
theorem dX9_isDigit_1 : decode cX9_isDigit 1 = .ok (.bipush 48, 2) := by decide +kernel
theorem dX9_isDigit_3 : decode cX9_isDigit 3 = .ok (.if_icmp .lt 13, 3) := by decide +kernel
theorem dX9_isDigit_6 : decode cX9_isDigit 6 = .ok (.iload_n 0, 1) := by decide +kernel
theorem dX9_isDigit_7 : decode cX9_isDigit 7 = .ok (.bipush 57, 2) := by decide +kernel
theorem dX9_isDigit_9 : decode cX9_isDigit 9 = .ok (.if_icmp .gt 7, 3) := by decide +kernel
theorem dX9_isDigit_12 : decode cX9_isDigit 12 = .ok (.iconst 1, 1) := by decide +kernel
theorem dX9_isDigit_13 : decode cX9_isDigit 13 = .ok (.goto 4, 3) := by decide +kernel
theorem dX9_isDigit_16 : decode cX9_isDigit 16 = .ok (.iconst 0, 1) := by decide +kernel
theorem dX9_isDigit_17 : decode cX9_isDigit 17 = .ok (.ireturn, 1) := by decide +kernel
theorem dX10_init_0 : decode cX10_init 0 = .ok (.aload_n 0, 1) := by decide +kernel
theorem dX10_init_1 : decode cX10_init 1 = .ok (.invokespecial 3, 3) := by decide +kernel
theorem dX10_init_4 : decode cX10_init 4 = .ok (.aload_n 0, 1) := by decide +kernel
theorem dX10_init_5 : decode cX10_init 5 = .ok (.bipush 20, 2) := by decide +kernel
theorem dX10_init_7 : decode cX10_init 7 = .ok (.newarray .int, 2) := by decide +kernel
theorem dX10_init_9 : decode cX10_init 9 = .ok (.putfield 11, 3) := by decide +kernel
theorem dX10_init_12 : decode cX10_init 12 = .ok (.aload_n 0, 1) := by decide +kernel
theorem dX10_init_13 : decode cX10_init 13 = .ok (.bipush 20, 2) := by decide +kernel
theorem dX10_init_15 : decode cX10_init 15 = .ok (.newarray .int, 2) := by decide +kernel
theorem dX10_init_17 : decode cX10_init 17 = .ok (.putfield 15, 3) := by decide +kernel
theorem dX10_init_20 : decode cX10_init 20 = .ok (.aload_n 0, 1) := by decide +kernel
theorem dX10_init_21 : decode cX10_init 21 = .ok (.bipush 20, 2) := by decide +kernel
theorem dX10_init_23 : decode cX10_init 23 = .ok (.newarray .int, 2) := by decide +kernel
theorem dX10_init_25 : decode cX10_init 25 = .ok (.putfield 18, 3) := by decide +kernel
theorem dX10_init_28 : decode cX10_init 28 = .ok (.return_, 1) := by decide +kernel
theorem dX10_add_0 : decode cX10_add 0 = .ok (.aload_n 0, 1) := by decide +kernel
theorem dX10_add_1 : decode cX10_add 1 = .ok (.getfield 21, 3) := by decide +kernel
theorem dX10_add_4 : decode cX10_add 4 = .ok (.bipush 20, 2) := by decide +kernel
theorem dX10_add_6 : decode cX10_add 6 = .ok (.if_icmp .lt 5, 3) := by decide +kernel
theorem dX10_add_9 : decode cX10_add 9 = .ok (.iconst (-1), 1) := by decide +kernel
theorem dX10_add_10 : decode cX10_add 10 = .ok (.ireturn, 1) := by decide +kernel
theorem dX10_add_11 : decode cX10_add 11 = .ok (.aload_n 0, 1) := by decide +kernel
theorem dX10_add_12 : decode cX10_add 12 = .ok (.getfield 11, 3) := by decide +kernel
theorem dX10_add_15 : decode cX10_add 15 = .ok (.aload_n 0, 1) := by decide +kernel
theorem dX10_add_16 : decode cX10_add 16 = .ok (.getfield 21, 3) := by decide +kernel
theorem dX10_add_19 : decode cX10_add 19 = .ok (.iload_n 1, 1) := by decide +kernel
theorem dX10_add_20 : decode cX10_add 20 = .ok (.iastore, 1) := by decide +kernel
theorem dX10_add_21 : decode cX10_add 21 = .ok (.aload_n 0, 1) := by decide +kernel
theorem dX10_add_22 : decode cX10_add 22 = .ok (.getfield 15, 3) := by decide +kernel
theorem dX10_add_25 : decode cX10_add 25 = .ok (.aload_n 0, 1) := by decide +kernel
theorem dX10_add_26 : decode cX10_add 26 = .ok (.getfield 21, 3) := by decide +kernel
theorem dX10_add_29 : decode cX10_add 29 = .ok (.iload_n 2, 1) := by decide +kernel
theorem dX10_add_30 : decode cX10_add 30 = .ok (.iastore, 1) := by decide +kernel
theorem dX10_add_31 : decode cX10_add 31 = .ok (.aload_n 0, 1) := by decide +kernel
theorem dX10_add_32 : decode cX10_add 32 = .ok (.getfield 18, 3) := by decide +kernel
theorem dX10_add_35 : decode cX10_add 35 = .ok (.aload_n 0, 1) := by decide +kernel
theorem dX10_add_36 : decode cX10_add 36 = .ok (.getfield 21, 3) := by decide +kernel
theorem dX10_add_39 : decode cX10_add 39 = .ok (.iload_n 3, 1) := by decide +kernel
theorem dX10_add_40 : decode cX10_add 40 = .ok (.iastore, 1) := by decide +kernel
theorem dX10_add_41 : decode cX10_add 41 = .ok (.aload_n 0, 1) := by decide +kernel
theorem dX10_add_42 : decode cX10_add 42 = .ok (.dup, 1) := by decide +kernel
theorem dX10_add_43 : decode cX10_add 43 = .ok (.getfield 21, 3) := by decide +kernel
theorem dX10_add_46 : decode cX10_add 46 = .ok (.iconst 1, 1) := by decide +kernel
theorem dX10_add_47 : decode cX10_add 47 = .ok (.iadd, 1) := by decide +kernel
theorem dX10_add_48 : decode cX10_add 48 = .ok (.putfield 21, 3) := by decide +kernel
theorem dX10_add_51 : decode cX10_add 51 = .ok (.aload_n 0, 1) := by decide +kernel
theorem dX10_add_52 : decode cX10_add 52 = .ok (.getfield 21, 3) := by decide +kernel
theorem dX10_add_55 : decode cX10_add 55 = .ok (.iconst 1, 1) := by decide +kernel
theorem dX10_add_56 : decode cX10_add 56 = .ok (.isub, 1) := by decide +kernel
theorem dX10_add_57 : decode cX10_add 57 = .ok (.ireturn, 1) := by decide +kernel
theorem dX11_init_0 : decode cX11_init 0 = .ok (.aload_n 0, 1) := by decide +kernel
theorem dX11_init_1 : decode cX11_init 1 = .ok (.invokespecial 1, 3) := by decide +kernel
theorem dX11_init_4 : decode cX11_init 4 = .ok (.aload_n 0, 1) := by decide +kernel
theorem dX11_init_5 : decode cX11_init 5 = .ok (.new 7, 3) := by decide +kernel
theorem dX11_init_8 : decode cX11_init 8 = .ok (.dup, 1) := by decide +kernel
theorem dX11_init_9 : decode cX11_init 9 = .ok (.invokespecial 9, 3) := by decide +kernel
theorem dX11_init_12 : decode cX11_init 12 = .ok (.putfield 10, 3) := by decide +kernel
theorem dX11_init_15 : decode cX11_init 15 = .ok (.aload_n 0, 1) := by decide +kernel
theorem dX11_init_16 : decode cX11_init 16 = .ok (.new 16, 3) := by decide +kernel
theorem dX11_init_19 : decode cX11_init 19 = .ok (.dup, 1) := by decide +kernel
theorem dX11_init_20 : decode cX11_init 20 = .ok (.aload_n 0, 1) := by decide +kernel
theorem dX11_init_21 : decode cX11_init 21 = .ok (.getfield 10, 3) := by decide +kernel
theorem dX11_init_24 : decode cX11_init 24 = .ok (.invokespecial 18, 3) := by decide +kernel
theorem dX11_init_27 : decode cX11_init 27 = .ok (.putfield 21, 3) := by decide +kernel
theorem dX11_init_30 : decode cX11_init 30 = .ok (.aload_n 0, 1) := by decide +kernel
theorem dX11_init_31 : decode cX11_init 31 = .ok (.new 25, 3) := by decide +kernel
theorem dX11_init_34 : decode cX11_init 34 = .ok (.dup, 1) := by decide +kernel
theorem dX11_init_35 : decode cX11_init 35 = .ok (.aload_n 0, 1) := by decide +kernel
theorem dX11_init_36 : decode cX11_init 36 = .ok (.getfield 21, 3) := by decide +kernel
theorem dX11_init_39 : decode cX11_init 39 = .ok (.invokespecial 27, 3) := by decide +kernel
theorem dX11_init_42 : decode cX11_init 42 = .ok (.putfield 30, 3) := by decide +kernel
theorem dX11_init_45 : decode cX11_init 45 = .ok (.aload_n 0, 1) := by decide +kernel
theorem dX11_init_46 : decode cX11_init 46 = .ok (.new 34, 3) := by decide +kernel
theorem dX11_init_49 : decode cX11_init 49 = .ok (.dup, 1) := by decide +kernel
theorem dX11_init_50 : decode cX11_init 50 = .ok (.invokespecial 36, 3) := by decide +kernel
theorem dX11_init_53 : decode cX11_init 53 = .ok (.putfield 37, 3) := by decide +kernel
theorem dX11_init_56 : decode cX11_init 56 = .ok (.aload_n 0, 1) := by decide +kernel
theorem dX11_init_57 : decode cX11_init 57 = .ok (.new 34, 3) := by decide +kernel
theorem dX11_init_60 : decode cX11_init 60 = .ok (.dup, 1) := by decide +kernel
theorem dX11_init_61 : decode cX11_init 61 = .ok (.invokespecial 36, 3) := by decide +kernel
theorem dX11_init_64 : decode cX11_init 64 = .ok (.putfield 41, 3) := by decide +kernel
theorem dX11_init_67 : decode cX11_init 67 = .ok (.aload_n 0, 1) := by decide +kernel
theorem dX11_init_68 : decode cX11_init 68 = .ok (.new 44, 3) := by decide +kernel
theorem dX11_init_71 : decode cX11_init 71 = .ok (.dup, 1) := by decide +kernel
theorem dX11_init_72 : decode cX11_init 72 = .ok (.aload_n 0, 1) := by decide +kernel
theorem dX11_init_73 : decode cX11_init 73 = .ok (.getfield 41, 3) := by decide +kernel
theorem dX11_init_76 : decode cX11_init 76 = .ok (.invokespecial 46, 3) := by decide +kernel
theorem dX11_init_79 : decode cX11_init 79 = .ok (.putfield 49, 3) := by decide +kernel
theorem dX11_init_82 : decode cX11_init 82 = .ok (.aload_n 0, 1) := by decide +kernel
theorem dX11_init_83 : decode cX11_init 83 = .ok (.new 53, 3) := by decide +kernel
theorem dX11_init_86 : decode cX11_init 86 = .ok (.dup, 1) := by decide +kernel
theorem dX11_init_87 : decode cX11_init 87 = .ok (.aload_n 0, 1) := by decide +kernel
theorem dX11_init_88 : decode cX11_init 88 = .ok (.getfield 41, 3) := by decide +kernel
theorem dX11_init_91 : decode cX11_init 91 = .ok (.invokespecial 55, 3) := by decide +kernel
theorem dX11_init_94 : decode cX11_init 94 = .ok (.putfield 56, 3) := by decide +kernel
theorem dX11_init_97 : decode cX11_init 97 = .ok (.aload_n 0, 1) := by decide +kernel
theorem dX11_init_98 : decode cX11_init 98 = .ok (.new 53, 3) := by decide +kernel
theorem dX11_init_101 : decode cX11_init 101 = .ok (.dup, 1) := by decide +kernel
theorem dX11_init_102 : decode cX11_init 102 = .ok (.aload_n 0, 1) := by decide +kernel
theorem dX11_init_103 : decode cX11_init 103 = .ok (.getfield 41, 3) := by decide +kernel
theorem dX11_init_106 : decode cX11_init 106 = .ok (.invokespecial 55, 3) := by decide +kernel
theorem dX11_init_109 : decode cX11_init 109 = .ok (.putfield 60, 3) := by decide +kernel
theorem dX11_init_112 : decode cX11_init 112 = .ok (.aload_n 0, 1) := by decide +kernel
theorem dX11_init_113 : decode cX11_init 113 = .ok (.new 63, 3) := by decide +kernel
theorem dX11_init_116 : decode cX11_init 116 = .ok (.dup, 1) := by decide +kernel
theorem dX11_init_117 : decode cX11_init 117 = .ok (.invokespecial 65, 3) := by decide +kernel
theorem dX11_init_120 : decode cX11_init 120 = .ok (.putfield 66, 3) := by decide +kernel
theorem dX11_init_123 : decode cX11_init 123 = .ok (.aload_n 0, 1) := by decide +kernel
theorem dX11_init_124 : decode cX11_init 124 = .ok (.new 70, 3) := by decide +kernel
theorem dX11_init_127 : decode cX11_init 127 = .ok (.dup, 1) := by decide +kernel
theorem dX11_init_128 : decode cX11_init 128 = .ok (.invokespecial 72, 3) := by decide +kernel
theorem dX11_init_131 : decode cX11_init 131 = .ok (.putfield 73, 3) := by decide +kernel
theorem dX11_init_134 : decode cX11_init 134 = .ok (.aload_n 0, 1) := by decide +kernel
theorem dX11_init_135 : decode cX11_init 135 = .ok (.new 77, 3) := by decide +kernel
theorem dX11_init_138 : decode cX11_init 138 = .ok (.dup, 1) := by decide +kernel
theorem dX11_init_139 : decode cX11_init 139 = .ok (.invokespecial 79, 3) := by decide +kernel
theorem dX11_init_142 : decode cX11_init 142 = .ok (.putfield 80, 3) := by decide +kernel
theorem dX11_init_145 : decode cX11_init 145 = .ok (.aload_n 0, 1) := by decide +kernel
theorem dX11_init_146 : decode cX11_init 146 = .ok (.bipush 8, 2) := by decide +kernel
theorem dX11_init_148 : decode cX11_init 148 = .ok (.newarray .int, 2) := by decide +kernel
theorem dX11_init_150 : decode cX11_init 150 = .ok (.putfield 84, 3) := by decide +kernel
theorem dX11_init_153 : decode cX11_init 153 = .ok (.aload_n 0, 1) := by decide +kernel
theorem dX11_init_154 : decode cX11_init 154 = .ok (.iconst (-1), 1) := by decide +kernel
theorem dX11_init_155 : decode cX11_init 155 = .ok (.putfield 88, 3) := by decide +kernel
theorem dX11_init_158 : decode cX11_init 158 = .ok (.aload_n 0, 1) := by decide +kernel
theorem dX11_init_159 : decode cX11_init 159 = .ok (.getfield 41, 3) := by decide +kernel
theorem dX11_init_162 : decode cX11_init 162 = .ok (.invokevirtual 92, 3) := by decide +kernel
theorem dX11_init_165 : decode cX11_init 165 = .ok (.aload_n 0, 1) := by decide +kernel
theorem dX11_init_166 : decode cX11_init 166 = .ok (.getfield 41, 3) := by decide +kernel
theorem dX11_init_169 : decode cX11_init 169 = .ok (.invokevirtual 95, 3) := by decide +kernel
theorem dX11_init_172 : decode cX11_init 172 = .ok (.aload_n 0, 1) := by decide +kernel
theorem dX11_init_173 : decode cX11_init 173 = .ok (.invokevirtual 98, 3) := by decide +kernel
theorem dX11_init_176 : decode cX11_init 176 = .ok (.return_, 1) := by decide +kernel
theorem dX11_feed_0 : decode cX11_feed 0 = .ok (.aload_n 0, 1) := by decide +kernel
theorem dX11_feed_1 : decode cX11_feed 1 = .ok (.getfield 10, 3) := by decide +kernel
theorem dX11_feed_4 : decode cX11_feed 4 = .ok (.bipush 20, 2) := by decide +kernel
theorem dX11_feed_6 : decode cX11_feed 6 = .ok (.invokevirtual 101, 3) := by decide +kernel
theorem dX11_feed_9 : decode cX11_feed 9 = .ok (.ifCond .ne 5, 3) := by decide +kernel
theorem dX11_feed_12 : decode cX11_feed 12 = .ok (.iconst (-1), 1) := by decide +kernel
theorem dX11_feed_13 : decode cX11_feed 13 = .ok (.ireturn, 1) := by decide +kernel
theorem dX11_feed_14 : decode cX11_feed 14 = .ok (.aload_n 0, 1) := by decide +kernel
theorem dX11_feed_15 : decode cX11_feed 15 = .ok (.getfield 10, 3) := by decide +kernel
theorem dX11_feed_18 : decode cX11_feed 18 = .ok (.iload_n 1, 1) := by decide +kernel
theorem dX11_feed_19 : decode cX11_feed 19 = .ok (.invokevirtual 105, 3) := by decide +kernel
theorem dX11_feed_22 : decode cX11_feed 22 = .ok (.aload_n 0, 1) := by decide +kernel
theorem dX11_feed_23 : decode cX11_feed 23 = .ok (.getfield 10, 3) := by decide +kernel
theorem dX11_feed_26 : decode cX11_feed 26 = .ok (.iload_n 2, 1) := by decide +kernel
theorem dX11_feed_27 : decode cX11_feed 27 = .ok (.invokevirtual 105, 3) := by decide +kernel
theorem dX11_feed_30 : decode cX11_feed 30 = .ok (.aload_n 0, 1) := by decide +kernel
theorem dX11_feed_31 : decode cX11_feed 31 = .ok (.getfield 10, 3) := by decide +kernel
theorem dX11_feed_34 : decode cX11_feed 34 = .ok (.iload_n 3, 1) := by decide +kernel
theorem dX11_feed_35 : decode cX11_feed 35 = .ok (.invokevirtual 105, 3) := by decide +kernel
theorem dX11_feed_38 : decode cX11_feed 38 = .ok (.aload_n 0, 1) := by decide +kernel
theorem dX11_feed_39 : decode cX11_feed 39 = .ok (.getfield 10, 3) := by decide +kernel
theorem dX11_feed_42 : decode cX11_feed 42 = .ok (.iload 4, 2) := by decide +kernel
theorem dX11_feed_44 : decode cX11_feed 44 = .ok (.invokevirtual 105, 3) := by decide +kernel
theorem dX11_feed_47 : decode cX11_feed 47 = .ok (.aload_n 0, 1) := by decide +kernel
theorem dX11_feed_48 : decode cX11_feed 48 = .ok (.getfield 10, 3) := by decide +kernel
theorem dX11_feed_51 : decode cX11_feed 51 = .ok (.iload 5, 2) := by decide +kernel
theorem dX11_feed_53 : decode cX11_feed 53 = .ok (.invokevirtual 105, 3) := by decide +kernel
theorem dX11_feed_56 : decode cX11_feed 56 = .ok (.aload_n 0, 1) := by decide +kernel
theorem dX11_feed_57 : decode cX11_feed 57 = .ok (.getfield 10, 3) := by decide +kernel
theorem dX11_feed_60 : decode cX11_feed 60 = .ok (.getfield 109, 3) := by decide +kernel
theorem dX11_feed_63 : decode cX11_feed 63 = .ok (.ireturn, 1) := by decide +kernel
theorem dX11_back_0 : decode cX11_back 0 = .ok (.iload_n 1, 1) := by decide +kernel
theorem dX11_back_1 : decode cX11_back 1 = .ok (.iconst 0, 1) := by decide +kernel
theorem dX11_back_2 : decode cX11_back 2 = .ok (.aload_n 0, 1) := by decide +kernel
theorem dX11_back_3 : decode cX11_back 3 = .ok (.getfield 10, 3) := by decide +kernel
theorem dX11_back_6 : decode cX11_back 6 = .ok (.getfield 109, 3) := by decide +kernel
theorem dX11_back_9 : decode cX11_back 9 = .ok (.invokestatic 112, 3) := by decide +kernel
theorem dX11_back_12 : decode cX11_back 12 = .ok (.ifCond .ne 5, 3) := by decide +kernel
theorem dX11_back_15 : decode cX11_back 15 = .ok (.iconst (-1), 1) := by decide +kernel
theorem dX11_back_16 : decode cX11_back 16 = .ok (.ireturn, 1) := by decide +kernel
theorem dX11_back_17 : decode cX11_back 17 = .ok (.aload_n 0, 1) := by decide +kernel
theorem dX11_back_18 : decode cX11_back 18 = .ok (.getfield 10, 3) := by decide +kernel
theorem dX11_back_21 : decode cX11_back 21 = .ok (.dup, 1) := by decide +kernel
theorem dX11_back_22 : decode cX11_back 22 = .ok (.getfield 109, 3) := by decide +kernel
theorem dX11_back_25 : decode cX11_back 25 = .ok (.iload_n 1, 1) := by decide +kernel
theorem dX11_back_26 : decode cX11_back 26 = .ok (.isub, 1) := by decide +kernel
theorem dX11_back_27 : decode cX11_back 27 = .ok (.putfield 109, 3) := by decide +kernel
theorem dX11_back_30 : decode cX11_back 30 = .ok (.aload_n 0, 1) := by decide +kernel
theorem dX11_back_31 : decode cX11_back 31 = .ok (.getfield 10, 3) := by decide +kernel
theorem dX11_back_34 : decode cX11_back 34 = .ok (.getfield 109, 3) := by decide +kernel
theorem dX11_back_37 : decode cX11_back 37 = .ok (.ireturn, 1) := by decide +kernel
theorem dX11_read_0 : decode cX11_read 0 = .ok (.aload_n 0, 1) := by decide +kernel
theorem dX11_read_1 : decode cX11_read 1 = .ok (.getfield 21, 3) := by decide +kernel
theorem dX11_read_4 : decode cX11_read 4 = .ok (.invokevirtual 116, 3) := by decide +kernel
theorem dX11_read_7 : decode cX11_read 7 = .ok (.aload_n 0, 1) := by decide +kernel
theorem dX11_read_8 : decode cX11_read 8 = .ok (.getfield 30, 3) := by decide +kernel
theorem dX11_read_11 : decode cX11_read 11 = .ok (.aload_n 0, 1) := by decide +kernel
theorem dX11_read_12 : decode cX11_read 12 = .ok (.getfield 37, 3) := by decide +kernel
theorem dX11_read_15 : decode cX11_read 15 = .ok (.invokevirtual 119, 3) := by decide +kernel
theorem dX11_read_18 : decode cX11_read 18 = .ok (.istore_n 1, 1) := by decide +kernel
theorem dX11_read_19 : decode cX11_read 19 = .ok (.aload_n 0, 1) := by decide +kernel
theorem dX11_read_20 : decode cX11_read 20 = .ok (.aload_n 0, 1) := by decide +kernel
theorem dX11_read_21 : decode cX11_read 21 = .ok (.getfield 30, 3) := by decide +kernel
theorem dX11_read_24 : decode cX11_read 24 = .ok (.getfield 123, 3) := by decide +kernel
theorem dX11_read_27 : decode cX11_read 27 = .ok (.putfield 88, 3) := by decide +kernel
theorem dX11_read_30 : decode cX11_read 30 = .ok (.iload_n 1, 1) := by decide +kernel
theorem dX11_read_31 : decode cX11_read 31 = .ok (.ifCond .ne 19, 3) := by decide +kernel
theorem dX11_read_34 : decode cX11_read 34 = .ok (.aload_n 0, 1) := by decide +kernel
theorem dX11_read_35 : decode cX11_read 35 = .ok (.getfield 30, 3) := by decide +kernel
theorem dX11_read_38 : decode cX11_read 38 = .ok (.aload_n 0, 1) := by decide +kernel
theorem dX11_read_39 : decode cX11_read 39 = .ok (.getfield 41, 3) := by decide +kernel
theorem dX11_read_42 : decode cX11_read 42 = .ok (.invokevirtual 119, 3) := by decide +kernel
theorem dX11_read_45 : decode cX11_read 45 = .ok (.pop, 1) := by decide +kernel
theorem dX11_read_46 : decode cX11_read 46 = .ok (.aload_n 0, 1) := by decide +kernel
theorem dX11_read_47 : decode cX11_read 47 = .ok (.invokevirtual 98, 3) := by decide +kernel
theorem dX11_read_50 : decode cX11_read 50 = .ok (.aload_n 0, 1) := by decide +kernel
theorem dX11_read_51 : decode cX11_read 51 = .ok (.getfield 10, 3) := by decide +kernel
theorem dX11_read_54 : decode cX11_read 54 = .ok (.iconst 0, 1) := by decide +kernel
theorem dX11_read_55 : decode cX11_read 55 = .ok (.putfield 109, 3) := by decide +kernel
theorem dX11_read_58 : decode cX11_read 58 = .ok (.iload_n 1, 1) := by decide +kernel
theorem dX11_read_59 : decode cX11_read 59 = .ok (.ireturn, 1) := by decide +kernel
theorem dX11_place_0 : decode cX11_place 0 = .ok (.aload_n 0, 1) := by decide +kernel
theorem dX11_place_1 : decode cX11_place 1 = .ok (.getfield 88, 3) := by decide +kernel
theorem dX11_place_4 : decode cX11_place 4 = .ok (.ireturn, 1) := by decide +kernel
theorem dX11_now_0 : decode cX11_now 0 = .ok (.iload_n 1, 1) := by decide +kernel
theorem dX11_now_1 : decode cX11_now 1 = .ok (.tableswitch 127 0 6 #[43, 51, 59, 67, 75, 83, 105], 43) := by decide +kernel
theorem dX11_now_44 : decode cX11_now 44 = .ok (.aload_n 0, 1) := by decide +kernel
theorem dX11_now_45 : decode cX11_now 45 = .ok (.getfield 56, 3) := by decide +kernel
theorem dX11_now_48 : decode cX11_now 48 = .ok (.getfield 126, 3) := by decide +kernel
theorem dX11_now_51 : decode cX11_now 51 = .ok (.ireturn, 1) := by decide +kernel
theorem dX11_now_52 : decode cX11_now 52 = .ok (.aload_n 0, 1) := by decide +kernel
theorem dX11_now_53 : decode cX11_now 53 = .ok (.getfield 56, 3) := by decide +kernel
theorem dX11_now_56 : decode cX11_now 56 = .ok (.getfield 129, 3) := by decide +kernel
theorem dX11_now_59 : decode cX11_now 59 = .ok (.ireturn, 1) := by decide +kernel
theorem dX11_now_60 : decode cX11_now 60 = .ok (.aload_n 0, 1) := by decide +kernel
theorem dX11_now_61 : decode cX11_now 61 = .ok (.getfield 56, 3) := by decide +kernel
theorem dX11_now_64 : decode cX11_now 64 = .ok (.getfield 132, 3) := by decide +kernel
theorem dX11_now_67 : decode cX11_now 67 = .ok (.ireturn, 1) := by decide +kernel
theorem dX11_now_68 : decode cX11_now 68 = .ok (.aload_n 0, 1) := by decide +kernel
theorem dX11_now_69 : decode cX11_now 69 = .ok (.getfield 56, 3) := by decide +kernel
theorem dX11_now_72 : decode cX11_now 72 = .ok (.invokevirtual 135, 3) := by decide +kernel
theorem dX11_now_75 : decode cX11_now 75 = .ok (.ireturn, 1) := by decide +kernel
theorem dX11_now_76 : decode cX11_now 76 = .ok (.aload_n 0, 1) := by decide +kernel
theorem dX11_now_77 : decode cX11_now 77 = .ok (.getfield 56, 3) := by decide +kernel
theorem dX11_now_80 : decode cX11_now 80 = .ok (.getfield 139, 3) := by decide +kernel
theorem dX11_now_83 : decode cX11_now 83 = .ok (.ireturn, 1) := by decide +kernel
theorem dX11_now_84 : decode cX11_now 84 = .ok (.aload_n 0, 1) := by decide +kernel
theorem dX11_now_85 : decode cX11_now 85 = .ok (.getfield 49, 3) := by decide +kernel
theorem dX11_now_88 : decode cX11_now 88 = .ok (.aload_n 0, 1) := by decide +kernel
theorem dX11_now_89 : decode cX11_now 89 = .ok (.getfield 56, 3) := by decide +kernel
theorem dX11_now_92 : decode cX11_now 92 = .ok (.getfield 126, 3) := by decide +kernel
theorem dX11_now_95 : decode cX11_now 95 = .ok (.invokevirtual 142, 3) := by decide +kernel
theorem dX11_now_98 : decode cX11_now 98 = .ok (.aload_n 0, 1) := by decide +kernel
theorem dX11_now_99 : decode cX11_now 99 = .ok (.getfield 49, 3) := by decide +kernel
theorem dX11_now_102 : decode cX11_now 102 = .ok (.getfield 145, 3) := by decide +kernel
theorem dX11_now_105 : decode cX11_now 105 = .ok (.ireturn, 1) := by decide +kernel
theorem dX11_now_106 : decode cX11_now 106 = .ok (.aload_n 0, 1) := by decide +kernel
theorem dX11_now_107 : decode cX11_now 107 = .ok (.getfield 49, 3) := by decide +kernel
theorem dX11_now_110 : decode cX11_now 110 = .ok (.aload_n 0, 1) := by decide +kernel
theorem dX11_now_111 : decode cX11_now 111 = .ok (.getfield 56, 3) := by decide +kernel
theorem dX11_now_114 : decode cX11_now 114 = .ok (.getfield 126, 3) := by decide +kernel
theorem dX11_now_117 : decode cX11_now 117 = .ok (.invokevirtual 142, 3) := by decide +kernel
theorem dX11_now_120 : decode cX11_now 120 = .ok (.aload_n 0, 1) := by decide +kernel
theorem dX11_now_121 : decode cX11_now 121 = .ok (.getfield 49, 3) := by decide +kernel
theorem dX11_now_124 : decode cX11_now 124 = .ok (.getfield 148, 3) := by decide +kernel
theorem dX11_now_127 : decode cX11_now 127 = .ok (.ireturn, 1) := by decide +kernel
theorem dX11_now_128 : decode cX11_now 128 = .ok (.sipush (-10000), 3) := by decide +kernel
theorem dX11_now_131 : decode cX11_now 131 = .ok (.ireturn, 1) := by decide +kernel
theorem dX11_wind_0 : decode cX11_wind 0 = .ok (.iload_n 1, 1) := by decide +kernel
theorem dX11_wind_1 : decode cX11_wind 1 = .ok (.iconst 0, 1) := by decide +kernel
theorem dX11_wind_2 : decode cX11_wind 2 = .ok (.iconst 4, 1) := by decide +kernel
theorem dX11_wind_3 : decode cX11_wind 3 = .ok (.invokestatic 112, 3) := by decide +kernel
theorem dX11_wind_6 : decode cX11_wind 6 = .ok (.ifCond .eq 13, 3) := by decide +kernel
theorem dX11_wind_9 : decode cX11_wind 9 = .ok (.iload_n 2, 1) := by decide +kernel
theorem dX11_wind_10 : decode cX11_wind 10 = .ok (.iconst 0, 1) := by decide +kernel
theorem dX11_wind_11 : decode cX11_wind 11 = .ok (.ldc 151, 2) := by decide +kernel
theorem dX11_wind_13 : decode cX11_wind 13 = .ok (.invokestatic 112, 3) := by decide +kernel
theorem dX11_wind_16 : decode cX11_wind 16 = .ok (.ifCond .ne 7, 3) := by decide +kernel
theorem dX11_wind_19 : decode cX11_wind 19 = .ok (.sipush (-10000), 3) := by decide +kernel
theorem dX11_wind_22 : decode cX11_wind 22 = .ok (.ireturn, 1) := by decide +kernel
theorem dX11_wind_23 : decode cX11_wind 23 = .ok (.aload_n 0, 1) := by decide +kernel
theorem dX11_wind_24 : decode cX11_wind 24 = .ok (.getfield 49, 3) := by decide +kernel
theorem dX11_wind_27 : decode cX11_wind 27 = .ok (.iload_n 1, 1) := by decide +kernel
theorem dX11_wind_28 : decode cX11_wind 28 = .ok (.iload_n 2, 1) := by decide +kernel
theorem dX11_wind_29 : decode cX11_wind 29 = .ok (.invokevirtual 152, 3) := by decide +kernel
theorem dX11_wind_32 : decode cX11_wind 32 = .ok (.ireturn, 1) := by decide +kernel
theorem dX11_jump_0 : decode cX11_jump 0 = .ok (.aload_n 0, 1) := by decide +kernel
theorem dX11_jump_1 : decode cX11_jump 1 = .ok (.getfield 56, 3) := by decide +kernel
theorem dX11_jump_4 : decode cX11_jump 4 = .ok (.iload_n 1, 1) := by decide +kernel
theorem dX11_jump_5 : decode cX11_jump 5 = .ok (.iload_n 2, 1) := by decide +kernel
theorem dX11_jump_6 : decode cX11_jump 6 = .ok (.invokevirtual 156, 3) := by decide +kernel
theorem dX11_jump_9 : decode cX11_jump 9 = .ok (.ifCond .eq 13, 3) := by decide +kernel
theorem dX11_jump_12 : decode cX11_jump 12 = .ok (.iload_n 3, 1) := by decide +kernel
theorem dX11_jump_13 : decode cX11_jump 13 = .ok (.iconst 0, 1) := by decide +kernel
theorem dX11_jump_14 : decode cX11_jump 14 = .ok (.bipush 7, 2) := by decide +kernel
theorem dX11_jump_16 : decode cX11_jump 16 = .ok (.invokestatic 112, 3) := by decide +kernel
theorem dX11_jump_19 : decode cX11_jump 19 = .ok (.ifCond .ne 7, 3) := by decide +kernel
theorem dX11_jump_22 : decode cX11_jump 22 = .ok (.sipush (-10000), 3) := by decide +kernel
theorem dX11_jump_25 : decode cX11_jump 25 = .ok (.ireturn, 1) := by decide +kernel
theorem dX11_jump_26 : decode cX11_jump 26 = .ok (.aload_n 0, 1) := by decide +kernel
theorem dX11_jump_27 : decode cX11_jump 27 = .ok (.getfield 56, 3) := by decide +kernel
theorem dX11_jump_30 : decode cX11_jump 30 = .ok (.iload_n 1, 1) := by decide +kernel
theorem dX11_jump_31 : decode cX11_jump 31 = .ok (.iload_n 2, 1) := by decide +kernel
theorem dX11_jump_32 : decode cX11_jump 32 = .ok (.iload_n 3, 1) := by decide +kernel
theorem dX11_jump_33 : decode cX11_jump 33 = .ok (.invokevirtual 160, 3) := by decide +kernel
theorem dX11_jump_36 : decode cX11_jump 36 = .ok (.ireturn, 1) := by decide +kernel
theorem dX11_mark_0 : decode cX11_mark 0 = .ok (.aload_n 0, 1) := by decide +kernel
theorem dX11_mark_1 : decode cX11_mark 1 = .ok (.getfield 56, 3) := by decide +kernel
theorem dX11_mark_4 : decode cX11_mark 4 = .ok (.iload_n 1, 1) := by decide +kernel
theorem dX11_mark_5 : decode cX11_mark 5 = .ok (.iload_n 2, 1) := by decide +kernel
theorem dX11_mark_6 : decode cX11_mark 6 = .ok (.invokevirtual 156, 3) := by decide +kernel
theorem dX11_mark_9 : decode cX11_mark 9 = .ok (.ifCond .eq 11, 3) := by decide +kernel
theorem dX11_mark_12 : decode cX11_mark 12 = .ok (.aload_n 0, 1) := by decide +kernel
theorem dX11_mark_13 : decode cX11_mark 13 = .ok (.iload_n 3, 1) := by decide +kernel
theorem dX11_mark_14 : decode cX11_mark 14 = .ok (.invokevirtual 164, 3) := by decide +kernel
theorem dX11_mark_17 : decode cX11_mark 17 = .ok (.ifCond .ne 7, 3) := by decide +kernel
theorem dX11_mark_20 : decode cX11_mark 20 = .ok (.sipush (-10000), 3) := by decide +kernel
theorem dX11_mark_23 : decode cX11_mark 23 = .ok (.ireturn, 1) := by decide +kernel
theorem dX11_mark_24 : decode cX11_mark 24 = .ok (.aload_n 0, 1) := by decide +kernel
theorem dX11_mark_25 : decode cX11_mark 25 = .ok (.getfield 56, 3) := by decide +kernel
theorem dX11_mark_28 : decode cX11_mark 28 = .ok (.iload_n 1, 1) := by decide +kernel
theorem dX11_mark_29 : decode cX11_mark 29 = .ok (.iload_n 2, 1) := by decide +kernel
theorem dX11_mark_30 : decode cX11_mark 30 = .ok (.bipush 9, 2) := by decide +kernel
theorem dX11_mark_32 : decode cX11_mark 32 = .ok (.iload_n 3, 1) := by decide +kernel
theorem dX11_mark_33 : decode cX11_mark 33 = .ok (.iadd, 1) := by decide +kernel
theorem dX11_mark_34 : decode cX11_mark 34 = .ok (.invokevirtual 160, 3) := by decide +kernel
theorem dX11_mark_37 : decode cX11_mark 37 = .ok (.ireturn, 1) := by decide +kernel
theorem dX11_points_0 : decode cX11_points 0 = .ok (.aload_n 0, 1) := by decide +kernel
theorem dX11_points_1 : decode cX11_points 1 = .ok (.iload_n 1, 1) := by decide +kernel
theorem dX11_points_2 : decode cX11_points 2 = .ok (.invokevirtual 167, 3) := by decide +kernel
theorem dX11_points_5 : decode cX11_points 5 = .ok (.ifCond .eq 15, 3) := by decide +kernel
theorem dX11_points_8 : decode cX11_points 8 = .ok (.aload_n 0, 1) := by decide +kernel
theorem dX11_points_9 : decode cX11_points 9 = .ok (.getfield 56, 3) := by decide +kernel
theorem dX11_points_12 : decode cX11_points 12 = .ok (.getfield 170, 3) := by decide +kernel
theorem dX11_points_15 : decode cX11_points 15 = .ok (.iload_n 1, 1) := by decide +kernel
theorem dX11_points_16 : decode cX11_points 16 = .ok (.iaload, 1) := by decide +kernel
theorem dX11_points_17 : decode cX11_points 17 = .ok (.goto 4, 3) := by decide +kernel
theorem dX11_points_20 : decode cX11_points 20 = .ok (.iconst (-1), 1) := by decide +kernel
theorem dX11_points_21 : decode cX11_points 21 = .ok (.ireturn, 1) := by decide +kernel
theorem dX11_rank_0 : decode cX11_rank 0 = .ok (.aload_n 0, 1) := by decide +kernel
theorem dX11_rank_1 : decode cX11_rank 1 = .ok (.iload_n 1, 1) := by decide +kernel
theorem dX11_rank_2 : decode cX11_rank 2 = .ok (.invokevirtual 167, 3) := by decide +kernel
theorem dX11_rank_5 : decode cX11_rank 5 = .ok (.ifCond .eq 14, 3) := by decide +kernel
theorem dX11_rank_8 : decode cX11_rank 8 = .ok (.aload_n 0, 1) := by decide +kernel
theorem dX11_rank_9 : decode cX11_rank 9 = .ok (.getfield 56, 3) := by decide +kernel
theorem dX11_rank_12 : decode cX11_rank 12 = .ok (.iload_n 1, 1) := by decide +kernel
theorem dX11_rank_13 : decode cX11_rank 13 = .ok (.invokevirtual 173, 3) := by decide +kernel
theorem dX11_rank_16 : decode cX11_rank 16 = .ok (.goto 4, 3) := by decide +kernel
theorem dX11_rank_19 : decode cX11_rank 19 = .ok (.iconst (-1), 1) := by decide +kernel
theorem dX11_rank_20 : decode cX11_rank 20 = .ok (.ireturn, 1) := by decide +kernel
theorem dX11_ranked_0 : decode cX11_ranked 0 = .ok (.aload_n 0, 1) := by decide +kernel
theorem dX11_ranked_1 : decode cX11_ranked 1 = .ok (.iload_n 1, 1) := by decide +kernel
theorem dX11_ranked_2 : decode cX11_ranked 2 = .ok (.invokevirtual 167, 3) := by decide +kernel
theorem dX11_ranked_5 : decode cX11_ranked 5 = .ok (.ifCond .eq 14, 3) := by decide +kernel
theorem dX11_ranked_8 : decode cX11_ranked 8 = .ok (.aload_n 0, 1) := by decide +kernel
theorem dX11_ranked_9 : decode cX11_ranked 9 = .ok (.getfield 56, 3) := by decide +kernel
theorem dX11_ranked_12 : decode cX11_ranked 12 = .ok (.iload_n 1, 1) := by decide +kernel
theorem dX11_ranked_13 : decode cX11_ranked 13 = .ok (.invokevirtual 177, 3) := by decide +kernel
theorem dX11_ranked_16 : decode cX11_ranked 16 = .ok (.goto 4, 3) := by decide +kernel
theorem dX11_ranked_19 : decode cX11_ranked 19 = .ok (.iconst (-1), 1) := by decide +kernel
theorem dX11_ranked_20 : decode cX11_ranked 20 = .ok (.ireturn, 1) := by decide +kernel
theorem dX11_start_0 : decode cX11_start 0 = .ok (.iload_n 1, 1) := by decide +kernel
theorem dX11_start_1 : decode cX11_start 1 = .ok (.iconst 1, 1) := by decide +kernel
theorem dX11_start_2 : decode cX11_start 2 = .ok (.bipush 16, 2) := by decide +kernel
theorem dX11_start_4 : decode cX11_start 4 = .ok (.invokestatic 112, 3) := by decide +kernel
theorem dX11_start_7 : decode cX11_start 7 = .ok (.ifCond .eq 15, 3) := by decide +kernel
theorem dX11_start_10 : decode cX11_start 10 = .ok (.aload_n 0, 1) := by decide +kernel
theorem dX11_start_11 : decode cX11_start 11 = .ok (.getfield 56, 3) := by decide +kernel
theorem dX11_start_14 : decode cX11_start 14 = .ok (.invokevirtual 135, 3) := by decide +kernel
theorem dX11_start_17 : decode cX11_start 17 = .ok (.bipush (-2), 2) := by decide +kernel
theorem dX11_start_19 : decode cX11_start 19 = .ok (.if_icmp .ne 5, 3) := by decide +kernel
theorem dX11_start_22 : decode cX11_start 22 = .ok (.iconst (-1), 1) := by decide +kernel
theorem dX11_start_23 : decode cX11_start 23 = .ok (.ireturn, 1) := by decide +kernel
theorem dX11_start_24 : decode cX11_start 24 = .ok (.aload_n 0, 1) := by decide +kernel
theorem dX11_start_25 : decode cX11_start 25 = .ok (.getfield 66, 3) := by decide +kernel
theorem dX11_start_28 : decode cX11_start 28 = .ok (.aload_n 0, 1) := by decide +kernel
theorem dX11_start_29 : decode cX11_start 29 = .ok (.getfield 56, 3) := by decide +kernel
theorem dX11_start_32 : decode cX11_start 32 = .ok (.invokevirtual 180, 3) := by decide +kernel
theorem dX11_start_35 : decode cX11_start 35 = .ok (.aload_n 0, 1) := by decide +kernel
theorem dX11_start_36 : decode cX11_start 36 = .ok (.aload_n 0, 1) := by decide +kernel
theorem dX11_start_37 : decode cX11_start 37 = .ok (.getfield 56, 3) := by decide +kernel
theorem dX11_start_40 : decode cX11_start 40 = .ok (.iload_n 1, 1) := by decide +kernel
theorem dX11_start_41 : decode cX11_start 41 = .ok (.invokevirtual 184, 3) := by decide +kernel
theorem dX11_start_44 : decode cX11_start 44 = .ok (.ireturn, 1) := by decide +kernel
theorem dX11_letGo_0 : decode cX11_letGo 0 = .ok (.iload_n 1, 1) := by decide +kernel
theorem dX11_letGo_1 : decode cX11_letGo 1 = .ok (.iconst 0, 1) := by decide +kernel
theorem dX11_letGo_2 : decode cX11_letGo 2 = .ok (.aload_n 0, 1) := by decide +kernel
theorem dX11_letGo_3 : decode cX11_letGo 3 = .ok (.getfield 41, 3) := by decide +kernel
theorem dX11_letGo_6 : decode cX11_letGo 6 = .ok (.getfield 188, 3) := by decide +kernel
theorem dX11_letGo_9 : decode cX11_letGo 9 = .ok (.invokestatic 112, 3) := by decide +kernel
theorem dX11_letGo_12 : decode cX11_letGo 12 = .ok (.ifCond .eq 15, 3) := by decide +kernel
theorem dX11_letGo_15 : decode cX11_letGo 15 = .ok (.aload_n 0, 1) := by decide +kernel
theorem dX11_letGo_16 : decode cX11_letGo 16 = .ok (.getfield 56, 3) := by decide +kernel
theorem dX11_letGo_19 : decode cX11_letGo 19 = .ok (.invokevirtual 135, 3) := by decide +kernel
theorem dX11_letGo_22 : decode cX11_letGo 22 = .ok (.bipush (-2), 2) := by decide +kernel
theorem dX11_letGo_24 : decode cX11_letGo 24 = .ok (.if_icmp .ne 5, 3) := by decide +kernel
theorem dX11_letGo_27 : decode cX11_letGo 27 = .ok (.iconst (-1), 1) := by decide +kernel
theorem dX11_letGo_28 : decode cX11_letGo 28 = .ok (.ireturn, 1) := by decide +kernel
theorem dX11_letGo_29 : decode cX11_letGo 29 = .ok (.aload_n 0, 1) := by decide +kernel
theorem dX11_letGo_30 : decode cX11_letGo 30 = .ok (.getfield 66, 3) := by decide +kernel
theorem dX11_letGo_33 : decode cX11_letGo 33 = .ok (.aload_n 0, 1) := by decide +kernel
theorem dX11_letGo_34 : decode cX11_letGo 34 = .ok (.getfield 56, 3) := by decide +kernel
theorem dX11_letGo_37 : decode cX11_letGo 37 = .ok (.invokevirtual 180, 3) := by decide +kernel
theorem dX11_letGo_40 : decode cX11_letGo 40 = .ok (.aload_n 0, 1) := by decide +kernel
theorem dX11_letGo_41 : decode cX11_letGo 41 = .ok (.aload_n 0, 1) := by decide +kernel
theorem dX11_letGo_42 : decode cX11_letGo 42 = .ok (.getfield 56, 3) := by decide +kernel
theorem dX11_letGo_45 : decode cX11_letGo 45 = .ok (.aload_n 0, 1) := by decide +kernel
theorem dX11_letGo_46 : decode cX11_letGo 46 = .ok (.getfield 56, 3) := by decide +kernel
theorem dX11_letGo_49 : decode cX11_letGo 49 = .ok (.getfield 126, 3) := by decide +kernel
theorem dX11_letGo_52 : decode cX11_letGo 52 = .ok (.iload_n 1, 1) := by decide +kernel
theorem dX11_letGo_53 : decode cX11_letGo 53 = .ok (.iadd, 1) := by decide +kernel
theorem dX11_letGo_54 : decode cX11_letGo 54 = .ok (.invokevirtual 191, 3) := by decide +kernel
theorem dX11_letGo_57 : decode cX11_letGo 57 = .ok (.aload_n 0, 1) := by decide +kernel
theorem dX11_letGo_58 : decode cX11_letGo 58 = .ok (.getfield 49, 3) := by decide +kernel
theorem dX11_letGo_61 : decode cX11_letGo 61 = .ok (.getfield 195, 3) := by decide +kernel
theorem dX11_letGo_64 : decode cX11_letGo 64 = .ok (.ireturn, 1) := by decide +kernel
theorem dX11_gate_0 : decode cX11_gate 0 = .ok (.iload_n 1, 1) := by decide +kernel
theorem dX11_gate_1 : decode cX11_gate 1 = .ok (.invokestatic 196, 3) := by decide +kernel
theorem dX11_gate_4 : decode cX11_gate 4 = .ok (.ifCond .eq 14, 3) := by decide +kernel
theorem dX11_gate_7 : decode cX11_gate 7 = .ok (.iload_n 1, 1) := by decide +kernel
theorem dX11_gate_8 : decode cX11_gate 8 = .ok (.aload_n 0, 1) := by decide +kernel
theorem dX11_gate_9 : decode cX11_gate 9 = .ok (.getfield 56, 3) := by decide +kernel
theorem dX11_gate_12 : decode cX11_gate 12 = .ok (.getfield 132, 3) := by decide +kernel
theorem dX11_gate_15 : decode cX11_gate 15 = .ok (.if_icmp .ne 5, 3) := by decide +kernel
theorem dX11_gate_18 : decode cX11_gate 18 = .ok (.iconst 0, 1) := by decide +kernel
theorem dX11_gate_19 : decode cX11_gate 19 = .ok (.ireturn, 1) := by decide +kernel
theorem dX11_gate_20 : decode cX11_gate 20 = .ok (.aload_n 0, 1) := by decide +kernel
theorem dX11_gate_21 : decode cX11_gate 21 = .ok (.getfield 66, 3) := by decide +kernel
theorem dX11_gate_24 : decode cX11_gate 24 = .ok (.aload_n 0, 1) := by decide +kernel
theorem dX11_gate_25 : decode cX11_gate 25 = .ok (.getfield 56, 3) := by decide +kernel
theorem dX11_gate_28 : decode cX11_gate 28 = .ok (.invokevirtual 180, 3) := by decide +kernel
theorem dX11_gate_31 : decode cX11_gate 31 = .ok (.aload_n 0, 1) := by decide +kernel
theorem dX11_gate_32 : decode cX11_gate 32 = .ok (.getfield 56, 3) := by decide +kernel
theorem dX11_gate_35 : decode cX11_gate 35 = .ok (.iload_n 1, 1) := by decide +kernel
theorem dX11_gate_36 : decode cX11_gate 36 = .ok (.putfield 132, 3) := by decide +kernel
theorem dX11_gate_39 : decode cX11_gate 39 = .ok (.iconst 1, 1) := by decide +kernel
theorem dX11_gate_40 : decode cX11_gate 40 = .ok (.ireturn, 1) := by decide +kernel
theorem dX11_pause_0 : decode cX11_pause 0 = .ok (.iload_n 1, 1) := by decide +kernel
theorem dX11_pause_1 : decode cX11_pause 1 = .ok (.iconst 1, 1) := by decide +kernel
theorem dX11_pause_2 : decode cX11_pause 2 = .ok (.sipush 999, 3) := by decide +kernel
theorem dX11_pause_5 : decode cX11_pause 5 = .ok (.invokestatic 112, 3) := by decide +kernel
theorem dX11_pause_8 : decode cX11_pause 8 = .ok (.ifCond .ne 5, 3) := by decide +kernel
theorem dX11_pause_11 : decode cX11_pause 11 = .ok (.iconst (-1), 1) := by decide +kernel
theorem dX11_pause_12 : decode cX11_pause 12 = .ok (.ireturn, 1) := by decide +kernel
theorem dX11_pause_13 : decode cX11_pause 13 = .ok (.aload_n 0, 1) := by decide +kernel
theorem dX11_pause_14 : decode cX11_pause 14 = .ok (.getfield 66, 3) := by decide +kernel
theorem dX11_pause_17 : decode cX11_pause 17 = .ok (.aload_n 0, 1) := by decide +kernel
theorem dX11_pause_18 : decode cX11_pause 18 = .ok (.getfield 56, 3) := by decide +kernel
theorem dX11_pause_21 : decode cX11_pause 21 = .ok (.invokevirtual 180, 3) := by decide +kernel
theorem dX11_pause_24 : decode cX11_pause 24 = .ok (.aload_n 0, 1) := by decide +kernel
theorem dX11_pause_25 : decode cX11_pause 25 = .ok (.getfield 56, 3) := by decide +kernel
theorem dX11_pause_28 : decode cX11_pause 28 = .ok (.dup, 1) := by decide +kernel
theorem dX11_pause_29 : decode cX11_pause 29 = .ok (.getfield 126, 3) := by decide +kernel
theorem dX11_pause_32 : decode cX11_pause 32 = .ok (.iload_n 1, 1) := by decide +kernel
theorem dX11_pause_33 : decode cX11_pause 33 = .ok (.iadd, 1) := by decide +kernel
theorem dX11_pause_34 : decode cX11_pause 34 = .ok (.putfield 126, 3) := by decide +kernel
theorem dX11_pause_37 : decode cX11_pause 37 = .ok (.aload_n 0, 1) := by decide +kernel
theorem dX11_pause_38 : decode cX11_pause 38 = .ok (.getfield 56, 3) := by decide +kernel
theorem dX11_pause_41 : decode cX11_pause 41 = .ok (.getfield 126, 3) := by decide +kernel
theorem dX11_pause_44 : decode cX11_pause 44 = .ok (.ireturn, 1) := by decide +kernel
theorem dX11_undo_0 : decode cX11_undo 0 = .ok (.aload_n 0, 1) := by decide +kernel
theorem dX11_undo_1 : decode cX11_undo 1 = .ok (.getfield 66, 3) := by decide +kernel
theorem dX11_undo_4 : decode cX11_undo 4 = .ok (.aload_n 0, 1) := by decide +kernel
theorem dX11_undo_5 : decode cX11_undo 5 = .ok (.getfield 56, 3) := by decide +kernel
theorem dX11_undo_8 : decode cX11_undo 8 = .ok (.invokevirtual 199, 3) := by decide +kernel
theorem dX11_undo_11 : decode cX11_undo 11 = .ok (.ireturn, 1) := by decide +kernel
theorem dX11_attempt_0 : decode cX11_attempt 0 = .ok (.aload_n 0, 1) := by decide +kernel
theorem dX11_attempt_1 : decode cX11_attempt 1 = .ok (.iload_n 1, 1) := by decide +kernel
theorem dX11_attempt_2 : decode cX11_attempt 2 = .ok (.invokevirtual 167, 3) := by decide +kernel
theorem dX11_attempt_5 : decode cX11_attempt 5 = .ok (.ifCond .eq 31, 3) := by decide +kernel
theorem dX11_attempt_8 : decode cX11_attempt 8 = .ok (.iload_n 2, 1) := by decide +kernel
theorem dX11_attempt_9 : decode cX11_attempt 9 = .ok (.iconst 0, 1) := by decide +kernel
theorem dX11_attempt_10 : decode cX11_attempt 10 = .ok (.sipush 999, 3) := by decide +kernel
theorem dX11_attempt_13 : decode cX11_attempt 13 = .ok (.invokestatic 112, 3) := by decide +kernel
theorem dX11_attempt_16 : decode cX11_attempt 16 = .ok (.ifCond .eq 20, 3) := by decide +kernel
theorem dX11_attempt_19 : decode cX11_attempt 19 = .ok (.iload_n 3, 1) := by decide +kernel
theorem dX11_attempt_20 : decode cX11_attempt 20 = .ok (.invokestatic 203, 3) := by decide +kernel
theorem dX11_attempt_23 : decode cX11_attempt 23 = .ok (.ifCond .eq 13, 3) := by decide +kernel
theorem dX11_attempt_26 : decode cX11_attempt 26 = .ok (.iload 4, 2) := by decide +kernel
theorem dX11_attempt_28 : decode cX11_attempt 28 = .ok (.iconst 0, 1) := by decide +kernel
theorem dX11_attempt_29 : decode cX11_attempt 29 = .ok (.iconst 2, 1) := by decide +kernel
theorem dX11_attempt_30 : decode cX11_attempt 30 = .ok (.invokestatic 112, 3) := by decide +kernel
theorem dX11_attempt_33 : decode cX11_attempt 33 = .ok (.ifCond .ne 7, 3) := by decide +kernel
theorem dX11_attempt_36 : decode cX11_attempt 36 = .ok (.sipush (-10000), 3) := by decide +kernel
theorem dX11_attempt_39 : decode cX11_attempt 39 = .ok (.ireturn, 1) := by decide +kernel
theorem dX11_attempt_40 : decode cX11_attempt 40 = .ok (.aload_n 0, 1) := by decide +kernel
theorem dX11_attempt_41 : decode cX11_attempt 41 = .ok (.iload_n 1, 1) := by decide +kernel
theorem dX11_attempt_42 : decode cX11_attempt 42 = .ok (.iload_n 2, 1) := by decide +kernel
theorem dX11_attempt_43 : decode cX11_attempt 43 = .ok (.iload_n 3, 1) := by decide +kernel
theorem dX11_attempt_44 : decode cX11_attempt 44 = .ok (.iconst 1, 1) := by decide +kernel
theorem dX11_attempt_45 : decode cX11_attempt 45 = .ok (.invokevirtual 206, 3) := by decide +kernel
theorem dX11_attempt_48 : decode cX11_attempt 48 = .ok (.pop, 1) := by decide +kernel
theorem dX11_attempt_49 : decode cX11_attempt 49 = .ok (.iload 4, 2) := by decide +kernel
theorem dX11_attempt_51 : decode cX11_attempt 51 = .ok (.lookupswitch 41 #[(0, 25), (1, 33)], 25) := by decide +kernel
theorem dX11_attempt_76 : decode cX11_attempt 76 = .ok (.aload_n 0, 1) := by decide +kernel
theorem dX11_attempt_77 : decode cX11_attempt 77 = .ok (.getfield 49, 3) := by decide +kernel
theorem dX11_attempt_80 : decode cX11_attempt 80 = .ok (.getfield 195, 3) := by decide +kernel
theorem dX11_attempt_83 : decode cX11_attempt 83 = .ok (.ireturn, 1) := by decide +kernel
theorem dX11_attempt_84 : decode cX11_attempt 84 = .ok (.aload_n 0, 1) := by decide +kernel
theorem dX11_attempt_85 : decode cX11_attempt 85 = .ok (.getfield 49, 3) := by decide +kernel
theorem dX11_attempt_88 : decode cX11_attempt 88 = .ok (.getfield 210, 3) := by decide +kernel
theorem dX11_attempt_91 : decode cX11_attempt 91 = .ok (.ireturn, 1) := by decide +kernel
theorem dX11_attempt_92 : decode cX11_attempt 92 = .ok (.aload_n 0, 1) := by decide +kernel
theorem dX11_attempt_93 : decode cX11_attempt 93 = .ok (.getfield 49, 3) := by decide +kernel
theorem dX11_attempt_96 : decode cX11_attempt 96 = .ok (.getfield 213, 3) := by decide +kernel
theorem dX11_attempt_99 : decode cX11_attempt 99 = .ok (.ireturn, 1) := by decide +kernel
theorem dX11_wait_0 : decode cX11_wait 0 = .ok (.aload_n 0, 1) := by decide +kernel
theorem dX11_wait_1 : decode cX11_wait 1 = .ok (.iload_n 1, 1) := by decide +kernel
theorem dX11_wait_2 : decode cX11_wait 2 = .ok (.invokevirtual 167, 3) := by decide +kernel
theorem dX11_wait_5 : decode cX11_wait 5 = .ok (.ifCond .eq 12, 3) := by decide +kernel
theorem dX11_wait_8 : decode cX11_wait 8 = .ok (.iload_n 2, 1) := by decide +kernel
theorem dX11_wait_9 : decode cX11_wait 9 = .ok (.iconst 0, 1) := by decide +kernel
theorem dX11_wait_10 : decode cX11_wait 10 = .ok (.iconst 3, 1) := by decide +kernel
theorem dX11_wait_11 : decode cX11_wait 11 = .ok (.invokestatic 112, 3) := by decide +kernel
theorem dX11_wait_14 : decode cX11_wait 14 = .ok (.ifCond .ne 5, 3) := by decide +kernel
theorem dX11_wait_17 : decode cX11_wait 17 = .ok (.iconst (-1), 1) := by decide +kernel
theorem dX11_wait_18 : decode cX11_wait 18 = .ok (.ireturn, 1) := by decide +kernel
theorem dX11_wait_19 : decode cX11_wait 19 = .ok (.iload_n 2, 1) := by decide +kernel
theorem dX11_wait_20 : decode cX11_wait 20 = .ok (.iconst 2, 1) := by decide +kernel
theorem dX11_wait_21 : decode cX11_wait 21 = .ok (.if_icmp .lt 7, 3) := by decide +kernel
theorem dX11_wait_24 : decode cX11_wait 24 = .ok (.iconst 1, 1) := by decide +kernel
theorem dX11_wait_25 : decode cX11_wait 25 = .ok (.goto 4, 3) := by decide +kernel
theorem dX11_wait_28 : decode cX11_wait 28 = .ok (.iconst 0, 1) := by decide +kernel
theorem dX11_wait_29 : decode cX11_wait 29 = .ok (.istore_n 3, 1) := by decide +kernel
theorem dX11_wait_30 : decode cX11_wait 30 = .ok (.iconst 0, 1) := by decide +kernel
theorem dX11_wait_31 : decode cX11_wait 31 = .ok (.istore 4, 2) := by decide +kernel
theorem dX11_wait_33 : decode cX11_wait 33 = .ok (.aload_n 0, 1) := by decide +kernel
theorem dX11_wait_34 : decode cX11_wait 34 = .ok (.iload_n 1, 1) := by decide +kernel
theorem dX11_wait_35 : decode cX11_wait 35 = .ok (.iconst 0, 1) := by decide +kernel
theorem dX11_wait_36 : decode cX11_wait 36 = .ok (.iconst 0, 1) := by decide +kernel
theorem dX11_wait_37 : decode cX11_wait 37 = .ok (.iload_n 3, 1) := by decide +kernel
theorem dX11_wait_38 : decode cX11_wait 38 = .ok (.invokevirtual 206, 3) := by decide +kernel
theorem dX11_wait_41 : decode cX11_wait 41 = .ok (.istore 5, 2) := by decide +kernel
theorem dX11_wait_43 : decode cX11_wait 43 = .ok (.iconst 1, 1) := by decide +kernel
theorem dX11_wait_44 : decode cX11_wait 44 = .ok (.istore 6, 2) := by decide +kernel
theorem dX11_wait_46 : decode cX11_wait 46 = .ok (.iload 6, 2) := by decide +kernel
theorem dX11_wait_48 : decode cX11_wait 48 = .ok (.aload_n 0, 1) := by decide +kernel
theorem dX11_wait_49 : decode cX11_wait 49 = .ok (.getfield 41, 3) := by decide +kernel
theorem dX11_wait_52 : decode cX11_wait 52 = .ok (.getfield 188, 3) := by decide +kernel
theorem dX11_wait_55 : decode cX11_wait 55 = .ok (.if_icmp .gt 35, 3) := by decide +kernel
theorem dX11_wait_58 : decode cX11_wait 58 = .ok (.aload_n 0, 1) := by decide +kernel
theorem dX11_wait_59 : decode cX11_wait 59 = .ok (.iload_n 1, 1) := by decide +kernel
theorem dX11_wait_60 : decode cX11_wait 60 = .ok (.iload 6, 2) := by decide +kernel
theorem dX11_wait_62 : decode cX11_wait 62 = .ok (.iconst 0, 1) := by decide +kernel
theorem dX11_wait_63 : decode cX11_wait 63 = .ok (.iload_n 3, 1) := by decide +kernel
theorem dX11_wait_64 : decode cX11_wait 64 = .ok (.invokevirtual 206, 3) := by decide +kernel
theorem dX11_wait_67 : decode cX11_wait 67 = .ok (.istore 7, 2) := by decide +kernel
theorem dX11_wait_69 : decode cX11_wait 69 = .ok (.iload 7, 2) := by decide +kernel
theorem dX11_wait_71 : decode cX11_wait 71 = .ok (.iload 5, 2) := by decide +kernel
theorem dX11_wait_73 : decode cX11_wait 73 = .ok (.if_icmp .le 11, 3) := by decide +kernel
theorem dX11_wait_76 : decode cX11_wait 76 = .ok (.iload 7, 2) := by decide +kernel
theorem dX11_wait_78 : decode cX11_wait 78 = .ok (.istore 5, 2) := by decide +kernel
theorem dX11_wait_80 : decode cX11_wait 80 = .ok (.iload 6, 2) := by decide +kernel
theorem dX11_wait_82 : decode cX11_wait 82 = .ok (.istore 4, 2) := by decide +kernel
theorem dX11_wait_84 : decode cX11_wait 84 = .ok (.iinc 6 1, 3) := by decide +kernel
theorem dX11_wait_87 : decode cX11_wait 87 = .ok (.goto (-41), 3) := by decide +kernel
theorem dX11_wait_90 : decode cX11_wait 90 = .ok (.iload_n 2, 1) := by decide +kernel
theorem dX11_wait_91 : decode cX11_wait 91 = .ok (.ifCond .eq 8, 3) := by decide +kernel
theorem dX11_wait_94 : decode cX11_wait 94 = .ok (.iload_n 2, 1) := by decide +kernel
theorem dX11_wait_95 : decode cX11_wait 95 = .ok (.iconst 2, 1) := by decide +kernel
theorem dX11_wait_96 : decode cX11_wait 96 = .ok (.if_icmp .ne 8, 3) := by decide +kernel
theorem dX11_wait_99 : decode cX11_wait 99 = .ok (.iload 4, 2) := by decide +kernel
theorem dX11_wait_101 : decode cX11_wait 101 = .ok (.goto 5, 3) := by decide +kernel
theorem dX11_wait_104 : decode cX11_wait 104 = .ok (.iload 5, 2) := by decide +kernel
theorem dX11_wait_106 : decode cX11_wait 106 = .ok (.ireturn, 1) := by decide +kernel
theorem dX11_cost_0 : decode cX11_cost 0 = .ok (.aload_n 0, 1) := by decide +kernel
theorem dX11_cost_1 : decode cX11_cost 1 = .ok (.iload_n 1, 1) := by decide +kernel
theorem dX11_cost_2 : decode cX11_cost 2 = .ok (.invokevirtual 167, 3) := by decide +kernel
theorem dX11_cost_5 : decode cX11_cost 5 = .ok (.ifCond .eq 10, 3) := by decide +kernel
theorem dX11_cost_8 : decode cX11_cost 8 = .ok (.iload_n 2, 1) := by decide +kernel
theorem dX11_cost_9 : decode cX11_cost 9 = .ok (.invokestatic 203, 3) := by decide +kernel
theorem dX11_cost_12 : decode cX11_cost 12 = .ok (.ifCond .ne 7, 3) := by decide +kernel
theorem dX11_cost_15 : decode cX11_cost 15 = .ok (.sipush (-10000), 3) := by decide +kernel
theorem dX11_cost_18 : decode cX11_cost 18 = .ok (.ireturn, 1) := by decide +kernel
theorem dX11_cost_19 : decode cX11_cost 19 = .ok (.aload_n 0, 1) := by decide +kernel
theorem dX11_cost_20 : decode cX11_cost 20 = .ok (.iload_n 1, 1) := by decide +kernel
theorem dX11_cost_21 : decode cX11_cost 21 = .ok (.iconst 0, 1) := by decide +kernel
theorem dX11_cost_22 : decode cX11_cost 22 = .ok (.iconst 0, 1) := by decide +kernel
theorem dX11_cost_23 : decode cX11_cost 23 = .ok (.iload_n 3, 1) := by decide +kernel
theorem dX11_cost_24 : decode cX11_cost 24 = .ok (.invokevirtual 206, 3) := by decide +kernel
theorem dX11_cost_27 : decode cX11_cost 27 = .ok (.aload_n 0, 1) := by decide +kernel
theorem dX11_cost_28 : decode cX11_cost 28 = .ok (.iload_n 1, 1) := by decide +kernel
theorem dX11_cost_29 : decode cX11_cost 29 = .ok (.iconst 0, 1) := by decide +kernel
theorem dX11_cost_30 : decode cX11_cost 30 = .ok (.iload_n 2, 1) := by decide +kernel
theorem dX11_cost_31 : decode cX11_cost 31 = .ok (.iload_n 3, 1) := by decide +kernel
theorem dX11_cost_32 : decode cX11_cost 32 = .ok (.invokevirtual 206, 3) := by decide +kernel
theorem dX11_cost_35 : decode cX11_cost 35 = .ok (.isub, 1) := by decide +kernel
theorem dX11_cost_36 : decode cX11_cost 36 = .ok (.ireturn, 1) := by decide +kernel
theorem dX11_pound_0 : decode cX11_pound 0 = .ok (.aload_n 0, 1) := by decide +kernel
theorem dX11_pound_1 : decode cX11_pound 1 = .ok (.iload_n 1, 1) := by decide +kernel
theorem dX11_pound_2 : decode cX11_pound 2 = .ok (.invokevirtual 167, 3) := by decide +kernel
theorem dX11_pound_5 : decode cX11_pound 5 = .ok (.ifCond .eq 23, 3) := by decide +kernel
theorem dX11_pound_8 : decode cX11_pound 8 = .ok (.iload_n 2, 1) := by decide +kernel
theorem dX11_pound_9 : decode cX11_pound 9 = .ok (.iconst 0, 1) := by decide +kernel
theorem dX11_pound_10 : decode cX11_pound 10 = .ok (.bipush 30, 2) := by decide +kernel
theorem dX11_pound_12 : decode cX11_pound 12 = .ok (.invokestatic 112, 3) := by decide +kernel
theorem dX11_pound_15 : decode cX11_pound 15 = .ok (.ifCond .eq 13, 3) := by decide +kernel
theorem dX11_pound_18 : decode cX11_pound 18 = .ok (.iload_n 3, 1) := by decide +kernel
theorem dX11_pound_19 : decode cX11_pound 19 = .ok (.iconst 0, 1) := by decide +kernel
theorem dX11_pound_20 : decode cX11_pound 20 = .ok (.bipush 60, 2) := by decide +kernel
theorem dX11_pound_22 : decode cX11_pound 22 = .ok (.invokestatic 112, 3) := by decide +kernel
theorem dX11_pound_25 : decode cX11_pound 25 = .ok (.ifCond .ne 7, 3) := by decide +kernel
theorem dX11_pound_28 : decode cX11_pound 28 = .ok (.sipush (-10000), 3) := by decide +kernel
theorem dX11_pound_31 : decode cX11_pound 31 = .ok (.ireturn, 1) := by decide +kernel
theorem dX11_pound_32 : decode cX11_pound 32 = .ok (.aload_n 0, 1) := by decide +kernel
theorem dX11_pound_33 : decode cX11_pound 33 = .ok (.getfield 41, 3) := by decide +kernel
theorem dX11_pound_36 : decode cX11_pound 36 = .ok (.getfield 216, 3) := by decide +kernel
theorem dX11_pound_39 : decode cX11_pound 39 = .ok (.getfield 220, 3) := by decide +kernel
theorem dX11_pound_42 : decode cX11_pound 42 = .ok (.iload_n 1, 1) := by decide +kernel
theorem dX11_pound_43 : decode cX11_pound 43 = .ok (.iaload, 1) := by decide +kernel
theorem dX11_pound_44 : decode cX11_pound 44 = .ok (.istore 4, 2) := by decide +kernel
theorem dX11_pound_46 : decode cX11_pound 46 = .ok (.aload_n 0, 1) := by decide +kernel
theorem dX11_pound_47 : decode cX11_pound 47 = .ok (.getfield 41, 3) := by decide +kernel
theorem dX11_pound_50 : decode cX11_pound 50 = .ok (.getfield 216, 3) := by decide +kernel
theorem dX11_pound_53 : decode cX11_pound 53 = .ok (.getfield 225, 3) := by decide +kernel
theorem dX11_pound_56 : decode cX11_pound 56 = .ok (.iload_n 1, 1) := by decide +kernel
theorem dX11_pound_57 : decode cX11_pound 57 = .ok (.iaload, 1) := by decide +kernel
theorem dX11_pound_58 : decode cX11_pound 58 = .ok (.istore 5, 2) := by decide +kernel
theorem dX11_pound_60 : decode cX11_pound 60 = .ok (.aload_n 0, 1) := by decide +kernel
theorem dX11_pound_61 : decode cX11_pound 61 = .ok (.getfield 49, 3) := by decide +kernel
theorem dX11_pound_64 : decode cX11_pound 64 = .ok (.aload_n 0, 1) := by decide +kernel
theorem dX11_pound_65 : decode cX11_pound 65 = .ok (.getfield 56, 3) := by decide +kernel
theorem dX11_pound_68 : decode cX11_pound 68 = .ok (.getfield 126, 3) := by decide +kernel
theorem dX11_pound_71 : decode cX11_pound 71 = .ok (.invokevirtual 142, 3) := by decide +kernel
theorem dX11_pound_74 : decode cX11_pound 74 = .ok (.aload_n 0, 1) := by decide +kernel
theorem dX11_pound_75 : decode cX11_pound 75 = .ok (.getfield 49, 3) := by decide +kernel
theorem dX11_pound_78 : decode cX11_pound 78 = .ok (.iload 4, 2) := by decide +kernel
theorem dX11_pound_80 : decode cX11_pound 80 = .ok (.iload_n 2, 1) := by decide +kernel
theorem dX11_pound_81 : decode cX11_pound 81 = .ok (.isub, 1) := by decide +kernel
theorem dX11_pound_82 : decode cX11_pound 82 = .ok (.iload 5, 2) := by decide +kernel
theorem dX11_pound_84 : decode cX11_pound 84 = .ok (.iload_n 3, 1) := by decide +kernel
theorem dX11_pound_85 : decode cX11_pound 85 = .ok (.isub, 1) := by decide +kernel
theorem dX11_pound_86 : decode cX11_pound 86 = .ok (.iconst 0, 1) := by decide +kernel
theorem dX11_pound_87 : decode cX11_pound 87 = .ok (.aload_n 0, 1) := by decide +kernel
theorem dX11_pound_88 : decode cX11_pound 88 = .ok (.getfield 56, 3) := by decide +kernel
theorem dX11_pound_91 : decode cX11_pound 91 = .ok (.getfield 132, 3) := by decide +kernel
theorem dX11_pound_94 : decode cX11_pound 94 = .ok (.aload_n 0, 1) := by decide +kernel
theorem dX11_pound_95 : decode cX11_pound 95 = .ok (.getfield 56, 3) := by decide +kernel
theorem dX11_pound_98 : decode cX11_pound 98 = .ok (.getfield 139, 3) := by decide +kernel
theorem dX11_pound_101 : decode cX11_pound 101 = .ok (.invokevirtual 228, 3) := by decide +kernel
theorem dX11_pound_104 : decode cX11_pound 104 = .ok (.istore 6, 2) := by decide +kernel
theorem dX11_pound_106 : decode cX11_pound 106 = .ok (.iload 6, 2) := by decide +kernel
theorem dX11_pound_108 : decode cX11_pound 108 = .ok (.aload_n 0, 1) := by decide +kernel
theorem dX11_pound_109 : decode cX11_pound 109 = .ok (.getfield 49, 3) := by decide +kernel
theorem dX11_pound_112 : decode cX11_pound 112 = .ok (.iload 4, 2) := by decide +kernel
theorem dX11_pound_114 : decode cX11_pound 114 = .ok (.iload 5, 2) := by decide +kernel
theorem dX11_pound_116 : decode cX11_pound 116 = .ok (.iconst 0, 1) := by decide +kernel
theorem dX11_pound_117 : decode cX11_pound 117 = .ok (.aload_n 0, 1) := by decide +kernel
theorem dX11_pound_118 : decode cX11_pound 118 = .ok (.getfield 56, 3) := by decide +kernel
theorem dX11_pound_121 : decode cX11_pound 121 = .ok (.getfield 132, 3) := by decide +kernel
theorem dX11_pound_124 : decode cX11_pound 124 = .ok (.aload_n 0, 1) := by decide +kernel
theorem dX11_pound_125 : decode cX11_pound 125 = .ok (.getfield 56, 3) := by decide +kernel
theorem dX11_pound_128 : decode cX11_pound 128 = .ok (.getfield 139, 3) := by decide +kernel
theorem dX11_pound_131 : decode cX11_pound 131 = .ok (.invokevirtual 228, 3) := by decide +kernel
theorem dX11_pound_134 : decode cX11_pound 134 = .ok (.isub, 1) := by decide +kernel
theorem dX11_pound_135 : decode cX11_pound 135 = .ok (.ireturn, 1) := by decide +kernel
theorem dX11_gain_0 : decode cX11_gain 0 = .ok (.aload_n 0, 1) := by decide +kernel
theorem dX11_gain_1 : decode cX11_gain 1 = .ok (.iload_n 1, 1) := by decide +kernel
theorem dX11_gain_2 : decode cX11_gain 2 = .ok (.invokevirtual 167, 3) := by decide +kernel
theorem dX11_gain_5 : decode cX11_gain 5 = .ok (.ifCond .ne 7, 3) := by decide +kernel
theorem dX11_gain_8 : decode cX11_gain 8 = .ok (.sipush (-10000), 3) := by decide +kernel
theorem dX11_gain_11 : decode cX11_gain 11 = .ok (.ireturn, 1) := by decide +kernel
theorem dX11_gain_12 : decode cX11_gain 12 = .ok (.aload_n 0, 1) := by decide +kernel
theorem dX11_gain_13 : decode cX11_gain 13 = .ok (.iload_n 1, 1) := by decide +kernel
theorem dX11_gain_14 : decode cX11_gain 14 = .ok (.iconst 0, 1) := by decide +kernel
theorem dX11_gain_15 : decode cX11_gain 15 = .ok (.iconst 0, 1) := by decide +kernel
theorem dX11_gain_16 : decode cX11_gain 16 = .ok (.iconst 1, 1) := by decide +kernel
theorem dX11_gain_17 : decode cX11_gain 17 = .ok (.invokevirtual 206, 3) := by decide +kernel
theorem dX11_gain_20 : decode cX11_gain 20 = .ok (.istore_n 2, 1) := by decide +kernel
theorem dX11_gain_21 : decode cX11_gain 21 = .ok (.aload_n 0, 1) := by decide +kernel
theorem dX11_gain_22 : decode cX11_gain 22 = .ok (.getfield 49, 3) := by decide +kernel
theorem dX11_gain_25 : decode cX11_gain 25 = .ok (.invokevirtual 232, 3) := by decide +kernel
theorem dX11_gain_28 : decode cX11_gain 28 = .ok (.iload_n 2, 1) := by decide +kernel
theorem dX11_gain_29 : decode cX11_gain 29 = .ok (.aload_n 0, 1) := by decide +kernel
theorem dX11_gain_30 : decode cX11_gain 30 = .ok (.iload_n 1, 1) := by decide +kernel
theorem dX11_gain_31 : decode cX11_gain 31 = .ok (.iconst 0, 1) := by decide +kernel
theorem dX11_gain_32 : decode cX11_gain 32 = .ok (.aload_n 0, 1) := by decide +kernel
theorem dX11_gain_33 : decode cX11_gain 33 = .ok (.getfield 56, 3) := by decide +kernel
theorem dX11_gain_36 : decode cX11_gain 36 = .ok (.getfield 132, 3) := by decide +kernel
theorem dX11_gain_39 : decode cX11_gain 39 = .ok (.aload_n 0, 1) := by decide +kernel
theorem dX11_gain_40 : decode cX11_gain 40 = .ok (.getfield 56, 3) := by decide +kernel
theorem dX11_gain_43 : decode cX11_gain 43 = .ok (.getfield 139, 3) := by decide +kernel
theorem dX11_gain_46 : decode cX11_gain 46 = .ok (.iconst 1, 1) := by decide +kernel
theorem dX11_gain_47 : decode cX11_gain 47 = .ok (.invokevirtual 235, 3) := by decide +kernel
theorem dX11_gain_50 : decode cX11_gain 50 = .ok (.isub, 1) := by decide +kernel
theorem dX11_gain_51 : decode cX11_gain 51 = .ok (.ireturn, 1) := by decide +kernel
theorem dX11_number_0 : decode cX11_number 0 = .ok (.aload_n 0, 1) := by decide +kernel
theorem dX11_number_1 : decode cX11_number 1 = .ok (.iload_n 1, 1) := by decide +kernel
theorem dX11_number_2 : decode cX11_number 2 = .ok (.invokevirtual 167, 3) := by decide +kernel
theorem dX11_number_5 : decode cX11_number 5 = .ok (.ifCond .ne 7, 3) := by decide +kernel
theorem dX11_number_8 : decode cX11_number 8 = .ok (.sipush (-10000), 3) := by decide +kernel
theorem dX11_number_11 : decode cX11_number 11 = .ok (.ireturn, 1) := by decide +kernel
theorem dX11_number_12 : decode cX11_number 12 = .ok (.aload_n 0, 1) := by decide +kernel
theorem dX11_number_13 : decode cX11_number 13 = .ok (.getfield 49, 3) := by decide +kernel
theorem dX11_number_16 : decode cX11_number 16 = .ok (.aload_n 0, 1) := by decide +kernel
theorem dX11_number_17 : decode cX11_number 17 = .ok (.getfield 56, 3) := by decide +kernel
theorem dX11_number_20 : decode cX11_number 20 = .ok (.getfield 126, 3) := by decide +kernel
theorem dX11_number_23 : decode cX11_number 23 = .ok (.invokevirtual 142, 3) := by decide +kernel
theorem dX11_number_26 : decode cX11_number 26 = .ok (.aload_n 0, 1) := by decide +kernel
theorem dX11_number_27 : decode cX11_number 27 = .ok (.iload_n 1, 1) := by decide +kernel
theorem dX11_number_28 : decode cX11_number 28 = .ok (.iconst 0, 1) := by decide +kernel
theorem dX11_number_29 : decode cX11_number 29 = .ok (.aload_n 0, 1) := by decide +kernel
theorem dX11_number_30 : decode cX11_number 30 = .ok (.getfield 56, 3) := by decide +kernel
theorem dX11_number_33 : decode cX11_number 33 = .ok (.getfield 132, 3) := by decide +kernel
theorem dX11_number_36 : decode cX11_number 36 = .ok (.iconst 0, 1) := by decide +kernel
theorem dX11_number_37 : decode cX11_number 37 = .ok (.iconst 1, 1) := by decide +kernel
theorem dX11_number_38 : decode cX11_number 38 = .ok (.invokevirtual 235, 3) := by decide +kernel
theorem dX11_number_41 : decode cX11_number 41 = .ok (.istore_n 2, 1) := by decide +kernel
theorem dX11_number_42 : decode cX11_number 42 = .ok (.iload_n 2, 1) := by decide +kernel
theorem dX11_number_43 : decode cX11_number 43 = .ok (.aload_n 0, 1) := by decide +kernel
theorem dX11_number_44 : decode cX11_number 44 = .ok (.iload_n 1, 1) := by decide +kernel
theorem dX11_number_45 : decode cX11_number 45 = .ok (.iconst 0, 1) := by decide +kernel
theorem dX11_number_46 : decode cX11_number 46 = .ok (.aload_n 0, 1) := by decide +kernel
theorem dX11_number_47 : decode cX11_number 47 = .ok (.getfield 56, 3) := by decide +kernel
theorem dX11_number_50 : decode cX11_number 50 = .ok (.getfield 132, 3) := by decide +kernel
theorem dX11_number_53 : decode cX11_number 53 = .ok (.aload_n 0, 1) := by decide +kernel
theorem dX11_number_54 : decode cX11_number 54 = .ok (.getfield 41, 3) := by decide +kernel
theorem dX11_number_57 : decode cX11_number 57 = .ok (.getfield 216, 3) := by decide +kernel
theorem dX11_number_60 : decode cX11_number 60 = .ok (.getfield 239, 3) := by decide +kernel
theorem dX11_number_63 : decode cX11_number 63 = .ok (.iconst 1, 1) := by decide +kernel
theorem dX11_number_64 : decode cX11_number 64 = .ok (.isub, 1) := by decide +kernel
theorem dX11_number_65 : decode cX11_number 65 = .ok (.iconst 1, 1) := by decide +kernel
theorem dX11_number_66 : decode cX11_number 66 = .ok (.invokevirtual 235, 3) := by decide +kernel
theorem dX11_number_69 : decode cX11_number 69 = .ok (.isub, 1) := by decide +kernel
theorem dX11_number_70 : decode cX11_number 70 = .ok (.ireturn, 1) := by decide +kernel
theorem dX11_gates_0 : decode cX11_gates 0 = .ok (.iload_n 1, 1) := by decide +kernel
theorem dX11_gates_1 : decode cX11_gates 1 = .ok (.iconst 0, 1) := by decide +kernel
theorem dX11_gates_2 : decode cX11_gates 2 = .ok (.iconst 1, 1) := by decide +kernel
theorem dX11_gates_3 : decode cX11_gates 3 = .ok (.invokestatic 112, 3) := by decide +kernel
theorem dX11_gates_6 : decode cX11_gates 6 = .ok (.ifCond .ne 5, 3) := by decide +kernel
theorem dX11_gates_9 : decode cX11_gates 9 = .ok (.iconst (-1), 1) := by decide +kernel
theorem dX11_gates_10 : decode cX11_gates 10 = .ok (.ireturn, 1) := by decide +kernel
theorem dX11_gates_11 : decode cX11_gates 11 = .ok (.aload_n 0, 1) := by decide +kernel
theorem dX11_gates_12 : decode cX11_gates 12 = .ok (.invokevirtual 242, 3) := by decide +kernel
theorem dX11_gates_15 : decode cX11_gates 15 = .ok (.istore_n 2, 1) := by decide +kernel
theorem dX11_gates_16 : decode cX11_gates 16 = .ok (.iload_n 1, 1) := by decide +kernel
theorem dX11_gates_17 : decode cX11_gates 17 = .ok (.ifCond .eq 9, 3) := by decide +kernel
theorem dX11_gates_20 : decode cX11_gates 20 = .ok (.iload_n 2, 1) := by decide +kernel
theorem dX11_gates_21 : decode cX11_gates 21 = .ok (.bipush (-2), 2) := by decide +kernel
theorem dX11_gates_23 : decode cX11_gates 23 = .ok (.if_icmp .ne 5, 3) := by decide +kernel
theorem dX11_gates_26 : decode cX11_gates 26 = .ok (.iload_n 2, 1) := by decide +kernel
theorem dX11_gates_27 : decode cX11_gates 27 = .ok (.ireturn, 1) := by decide +kernel
theorem dX11_gates_28 : decode cX11_gates 28 = .ok (.aload_n 0, 1) := by decide +kernel
theorem dX11_gates_29 : decode cX11_gates 29 = .ok (.getfield 49, 3) := by decide +kernel
theorem dX11_gates_32 : decode cX11_gates 32 = .ok (.aload_n 0, 1) := by decide +kernel
theorem dX11_gates_33 : decode cX11_gates 33 = .ok (.getfield 56, 3) := by decide +kernel
theorem dX11_gates_36 : decode cX11_gates 36 = .ok (.getfield 126, 3) := by decide +kernel
theorem dX11_gates_39 : decode cX11_gates 39 = .ok (.invokevirtual 142, 3) := by decide +kernel
theorem dX11_gates_42 : decode cX11_gates 42 = .ok (.iconst 0, 1) := by decide +kernel
theorem dX11_gates_43 : decode cX11_gates 43 = .ok (.istore_n 3, 1) := by decide +kernel
theorem dX11_gates_44 : decode cX11_gates 44 = .ok (.iconst 0, 1) := by decide +kernel
theorem dX11_gates_45 : decode cX11_gates 45 = .ok (.istore 4, 2) := by decide +kernel
theorem dX11_gates_47 : decode cX11_gates 47 = .ok (.iload 4, 2) := by decide +kernel
theorem dX11_gates_49 : decode cX11_gates 49 = .ok (.aload_n 0, 1) := by decide +kernel
theorem dX11_gates_50 : decode cX11_gates 50 = .ok (.getfield 41, 3) := by decide +kernel
theorem dX11_gates_53 : decode cX11_gates 53 = .ok (.getfield 216, 3) := by decide +kernel
theorem dX11_gates_56 : decode cX11_gates 56 = .ok (.getfield 239, 3) := by decide +kernel
theorem dX11_gates_59 : decode cX11_gates 59 = .ok (.if_icmp .ge 30, 3) := by decide +kernel
theorem dX11_gates_62 : decode cX11_gates 62 = .ok (.iload_n 3, 1) := by decide +kernel
theorem dX11_gates_63 : decode cX11_gates 63 = .ok (.aload_n 0, 1) := by decide +kernel
theorem dX11_gates_64 : decode cX11_gates 64 = .ok (.getfield 49, 3) := by decide +kernel
theorem dX11_gates_67 : decode cX11_gates 67 = .ok (.iload 4, 2) := by decide +kernel
theorem dX11_gates_69 : decode cX11_gates 69 = .ok (.iconst 0, 1) := by decide +kernel
theorem dX11_gates_70 : decode cX11_gates 70 = .ok (.iload_n 2, 1) := by decide +kernel
theorem dX11_gates_71 : decode cX11_gates 71 = .ok (.aload_n 0, 1) := by decide +kernel
theorem dX11_gates_72 : decode cX11_gates 72 = .ok (.getfield 56, 3) := by decide +kernel
theorem dX11_gates_75 : decode cX11_gates 75 = .ok (.getfield 139, 3) := by decide +kernel
theorem dX11_gates_78 : decode cX11_gates 78 = .ok (.invokevirtual 245, 3) := by decide +kernel
theorem dX11_gates_81 : decode cX11_gates 81 = .ok (.iadd, 1) := by decide +kernel
theorem dX11_gates_82 : decode cX11_gates 82 = .ok (.istore_n 3, 1) := by decide +kernel
theorem dX11_gates_83 : decode cX11_gates 83 = .ok (.iinc 4 1, 3) := by decide +kernel
theorem dX11_gates_86 : decode cX11_gates 86 = .ok (.goto (-39), 3) := by decide +kernel
theorem dX11_gates_89 : decode cX11_gates 89 = .ok (.iload_n 3, 1) := by decide +kernel
theorem dX11_gates_90 : decode cX11_gates 90 = .ok (.ireturn, 1) := by decide +kernel
theorem dX11_crown_0 : decode cX11_crown 0 = .ok (.aload_n 0, 1) := by decide +kernel
theorem dX11_crown_1 : decode cX11_crown 1 = .ok (.iload_n 1, 1) := by decide +kernel
theorem dX11_crown_2 : decode cX11_crown 2 = .ok (.invokevirtual 167, 3) := by decide +kernel
theorem dX11_crown_5 : decode cX11_crown 5 = .ok (.ifCond .eq 13, 3) := by decide +kernel
theorem dX11_crown_8 : decode cX11_crown 8 = .ok (.iload_n 2, 1) := by decide +kernel
theorem dX11_crown_9 : decode cX11_crown 9 = .ok (.iconst 1, 1) := by decide +kernel
theorem dX11_crown_10 : decode cX11_crown 10 = .ok (.bipush 10, 2) := by decide +kernel
theorem dX11_crown_12 : decode cX11_crown 12 = .ok (.invokestatic 112, 3) := by decide +kernel
theorem dX11_crown_15 : decode cX11_crown 15 = .ok (.ifCond .ne 5, 3) := by decide +kernel
theorem dX11_crown_18 : decode cX11_crown 18 = .ok (.iconst (-1), 1) := by decide +kernel
theorem dX11_crown_19 : decode cX11_crown 19 = .ok (.ireturn, 1) := by decide +kernel
theorem dX11_crown_20 : decode cX11_crown 20 = .ok (.iconst 0, 1) := by decide +kernel
theorem dX11_crown_21 : decode cX11_crown 21 = .ok (.istore_n 3, 1) := by decide +kernel
theorem dX11_crown_22 : decode cX11_crown 22 = .ok (.iconst 0, 1) := by decide +kernel
theorem dX11_crown_23 : decode cX11_crown 23 = .ok (.istore 4, 2) := by decide +kernel
theorem dX11_crown_25 : decode cX11_crown 25 = .ok (.iload 4, 2) := by decide +kernel
theorem dX11_crown_27 : decode cX11_crown 27 = .ok (.iload_n 2, 1) := by decide +kernel
theorem dX11_crown_28 : decode cX11_crown 28 = .ok (.if_icmp .ge 62, 3) := by decide +kernel
theorem dX11_crown_31 : decode cX11_crown 31 = .ok (.aload_n 0, 1) := by decide +kernel
theorem dX11_crown_32 : decode cX11_crown 32 = .ok (.getfield 49, 3) := by decide +kernel
theorem dX11_crown_35 : decode cX11_crown 35 = .ok (.aload_n 0, 1) := by decide +kernel
theorem dX11_crown_36 : decode cX11_crown 36 = .ok (.getfield 41, 3) := by decide +kernel
theorem dX11_crown_39 : decode cX11_crown 39 = .ok (.getfield 249, 3) := by decide +kernel
theorem dX11_crown_42 : decode cX11_crown 42 = .ok (.iload 4, 2) := by decide +kernel
theorem dX11_crown_44 : decode cX11_crown 44 = .ok (.iadd, 1) := by decide +kernel
theorem dX11_crown_45 : decode cX11_crown 45 = .ok (.putfield 252, 3) := by decide +kernel
theorem dX11_crown_48 : decode cX11_crown 48 = .ok (.aload_n 0, 1) := by decide +kernel
theorem dX11_crown_49 : decode cX11_crown 49 = .ok (.getfield 60, 3) := by decide +kernel
theorem dX11_crown_52 : decode cX11_crown 52 = .ok (.aload_n 0, 1) := by decide +kernel
theorem dX11_crown_53 : decode cX11_crown 53 = .ok (.getfield 56, 3) := by decide +kernel
theorem dX11_crown_56 : decode cX11_crown 56 = .ok (.invokevirtual 253, 3) := by decide +kernel
theorem dX11_crown_59 : decode cX11_crown 59 = .ok (.aload_n 0, 1) := by decide +kernel
theorem dX11_crown_60 : decode cX11_crown 60 = .ok (.aload_n 0, 1) := by decide +kernel
theorem dX11_crown_61 : decode cX11_crown 61 = .ok (.getfield 60, 3) := by decide +kernel
theorem dX11_crown_64 : decode cX11_crown 64 = .ok (.bipush 16, 2) := by decide +kernel
theorem dX11_crown_66 : decode cX11_crown 66 = .ok (.invokevirtual 184, 3) := by decide +kernel
theorem dX11_crown_69 : decode cX11_crown 69 = .ok (.pop, 1) := by decide +kernel
theorem dX11_crown_70 : decode cX11_crown 70 = .ok (.aload_n 0, 1) := by decide +kernel
theorem dX11_crown_71 : decode cX11_crown 71 = .ok (.getfield 60, 3) := by decide +kernel
theorem dX11_crown_74 : decode cX11_crown 74 = .ok (.iload_n 1, 1) := by decide +kernel
theorem dX11_crown_75 : decode cX11_crown 75 = .ok (.invokevirtual 173, 3) := by decide +kernel
theorem dX11_crown_78 : decode cX11_crown 78 = .ok (.ifCond .ne 6, 3) := by decide +kernel
theorem dX11_crown_81 : decode cX11_crown 81 = .ok (.iinc 3 1, 3) := by decide +kernel
theorem dX11_crown_84 : decode cX11_crown 84 = .ok (.iinc 4 1, 3) := by decide +kernel
theorem dX11_crown_87 : decode cX11_crown 87 = .ok (.goto (-62), 3) := by decide +kernel
theorem dX11_crown_90 : decode cX11_crown 90 = .ok (.aload_n 0, 1) := by decide +kernel
theorem dX11_crown_91 : decode cX11_crown 91 = .ok (.getfield 49, 3) := by decide +kernel
theorem dX11_crown_94 : decode cX11_crown 94 = .ok (.aload_n 0, 1) := by decide +kernel
theorem dX11_crown_95 : decode cX11_crown 95 = .ok (.getfield 41, 3) := by decide +kernel
theorem dX11_crown_98 : decode cX11_crown 98 = .ok (.getfield 249, 3) := by decide +kernel
theorem dX11_crown_101 : decode cX11_crown 101 = .ok (.putfield 252, 3) := by decide +kernel
theorem dX11_crown_104 : decode cX11_crown 104 = .ok (.iload_n 3, 1) := by decide +kernel
theorem dX11_crown_105 : decode cX11_crown 105 = .ok (.ireturn, 1) := by decide +kernel
theorem dX11_without_0 : decode cX11_without 0 = .ok (.aload_n 0, 1) := by decide +kernel
theorem dX11_without_1 : decode cX11_without 1 = .ok (.iload_n 1, 1) := by decide +kernel
theorem dX11_without_2 : decode cX11_without 2 = .ok (.invokevirtual 167, 3) := by decide +kernel
theorem dX11_without_5 : decode cX11_without 5 = .ok (.ifCond .eq 11, 3) := by decide +kernel
theorem dX11_without_8 : decode cX11_without 8 = .ok (.aload_n 0, 1) := by decide +kernel
theorem dX11_without_9 : decode cX11_without 9 = .ok (.iload_n 2, 1) := by decide +kernel
theorem dX11_without_10 : decode cX11_without 10 = .ok (.invokevirtual 164, 3) := by decide +kernel
theorem dX11_without_13 : decode cX11_without 13 = .ok (.ifCond .ne 5, 3) := by decide +kernel
theorem dX11_without_16 : decode cX11_without 16 = .ok (.iconst (-1), 1) := by decide +kernel
theorem dX11_without_17 : decode cX11_without 17 = .ok (.ireturn, 1) := by decide +kernel
theorem dX11_without_18 : decode cX11_without 18 = .ok (.iconst 0, 1) := by decide +kernel
theorem dX11_without_19 : decode cX11_without 19 = .ok (.istore_n 3, 1) := by decide +kernel
theorem dX11_without_20 : decode cX11_without 20 = .ok (.iload_n 3, 1) := by decide +kernel
theorem dX11_without_21 : decode cX11_without 21 = .ok (.aload_n 0, 1) := by decide +kernel
theorem dX11_without_22 : decode cX11_without 22 = .ok (.getfield 41, 3) := by decide +kernel
theorem dX11_without_25 : decode cX11_without 25 = .ok (.getfield 216, 3) := by decide +kernel
theorem dX11_without_28 : decode cX11_without 28 = .ok (.getfield 239, 3) := by decide +kernel
theorem dX11_without_31 : decode cX11_without 31 = .ok (.if_icmp .ge 30, 3) := by decide +kernel
theorem dX11_without_34 : decode cX11_without 34 = .ok (.aload_n 0, 1) := by decide +kernel
theorem dX11_without_35 : decode cX11_without 35 = .ok (.getfield 84, 3) := by decide +kernel
theorem dX11_without_38 : decode cX11_without 38 = .ok (.iload_n 3, 1) := by decide +kernel
theorem dX11_without_39 : decode cX11_without 39 = .ok (.aload_n 0, 1) := by decide +kernel
theorem dX11_without_40 : decode cX11_without 40 = .ok (.iload_n 3, 1) := by decide +kernel
theorem dX11_without_41 : decode cX11_without 41 = .ok (.iconst 1, 1) := by decide +kernel
theorem dX11_without_42 : decode cX11_without 42 = .ok (.iload_n 2, 1) := by decide +kernel
theorem dX11_without_43 : decode cX11_without 43 = .ok (.invokevirtual 256, 3) := by decide +kernel
theorem dX11_without_46 : decode cX11_without 46 = .ok (.aload_n 0, 1) := by decide +kernel
theorem dX11_without_47 : decode cX11_without 47 = .ok (.iload_n 3, 1) := by decide +kernel
theorem dX11_without_48 : decode cX11_without 48 = .ok (.iconst 2, 1) := by decide +kernel
theorem dX11_without_49 : decode cX11_without 49 = .ok (.iload_n 2, 1) := by decide +kernel
theorem dX11_without_50 : decode cX11_without 50 = .ok (.invokevirtual 256, 3) := by decide +kernel
theorem dX11_without_53 : decode cX11_without 53 = .ok (.iadd, 1) := by decide +kernel
theorem dX11_without_54 : decode cX11_without 54 = .ok (.iastore, 1) := by decide +kernel
theorem dX11_without_55 : decode cX11_without 55 = .ok (.iinc 3 1, 3) := by decide +kernel
theorem dX11_without_58 : decode cX11_without 58 = .ok (.goto (-38), 3) := by decide +kernel
theorem dX11_without_61 : decode cX11_without 61 = .ok (.aload_n 0, 1) := by decide +kernel
theorem dX11_without_62 : decode cX11_without 62 = .ok (.getfield 84, 3) := by decide +kernel
theorem dX11_without_65 : decode cX11_without 65 = .ok (.aload_n 0, 1) := by decide +kernel
theorem dX11_without_66 : decode cX11_without 66 = .ok (.getfield 41, 3) := by decide +kernel
theorem dX11_without_69 : decode cX11_without 69 = .ok (.getfield 216, 3) := by decide +kernel
theorem dX11_without_72 : decode cX11_without 72 = .ok (.getfield 239, 3) := by decide +kernel
theorem dX11_without_75 : decode cX11_without 75 = .ok (.iload_n 1, 1) := by decide +kernel
theorem dX11_without_76 : decode cX11_without 76 = .ok (.invokestatic 259, 3) := by decide +kernel
theorem dX11_without_79 : decode cX11_without 79 = .ok (.ireturn, 1) := by decide +kernel
theorem dX11_needs_0 : decode cX11_needs 0 = .ok (.aload_n 0, 1) := by decide +kernel
theorem dX11_needs_1 : decode cX11_needs 1 = .ok (.iload_n 1, 1) := by decide +kernel
theorem dX11_needs_2 : decode cX11_needs 2 = .ok (.invokevirtual 167, 3) := by decide +kernel
theorem dX11_needs_5 : decode cX11_needs 5 = .ok (.ifCond .eq 14, 3) := by decide +kernel
theorem dX11_needs_8 : decode cX11_needs 8 = .ok (.aload_n 0, 1) := by decide +kernel
theorem dX11_needs_9 : decode cX11_needs 9 = .ok (.getfield 56, 3) := by decide +kernel
theorem dX11_needs_12 : decode cX11_needs 12 = .ok (.iload_n 1, 1) := by decide +kernel
theorem dX11_needs_13 : decode cX11_needs 13 = .ok (.invokevirtual 263, 3) := by decide +kernel
theorem dX11_needs_16 : decode cX11_needs 16 = .ok (.ifCond .ne 5, 3) := by decide +kernel
theorem dX11_needs_19 : decode cX11_needs 19 = .ok (.iconst (-1), 1) := by decide +kernel
theorem dX11_needs_20 : decode cX11_needs 20 = .ok (.ireturn, 1) := by decide +kernel
theorem dX11_needs_21 : decode cX11_needs 21 = .ok (.aload_n 0, 1) := by decide +kernel
theorem dX11_needs_22 : decode cX11_needs 22 = .ok (.getfield 56, 3) := by decide +kernel
theorem dX11_needs_25 : decode cX11_needs 25 = .ok (.iload_n 1, 1) := by decide +kernel
theorem dX11_needs_26 : decode cX11_needs 26 = .ok (.invokevirtual 266, 3) := by decide +kernel
theorem dX11_needs_29 : decode cX11_needs 29 = .ok (.aload_n 0, 1) := by decide +kernel
theorem dX11_needs_30 : decode cX11_needs 30 = .ok (.getfield 56, 3) := by decide +kernel
theorem dX11_needs_33 : decode cX11_needs 33 = .ok (.getfield 170, 3) := by decide +kernel
theorem dX11_needs_36 : decode cX11_needs 36 = .ok (.iload_n 1, 1) := by decide +kernel
theorem dX11_needs_37 : decode cX11_needs 37 = .ok (.iaload, 1) := by decide +kernel
theorem dX11_needs_38 : decode cX11_needs 38 = .ok (.isub, 1) := by decide +kernel
theorem dX11_needs_39 : decode cX11_needs 39 = .ok (.istore_n 2, 1) := by decide +kernel
theorem dX11_needs_40 : decode cX11_needs 40 = .ok (.aload_n 0, 1) := by decide +kernel
theorem dX11_needs_41 : decode cX11_needs 41 = .ok (.getfield 49, 3) := by decide +kernel
theorem dX11_needs_44 : decode cX11_needs 44 = .ok (.invokevirtual 269, 3) := by decide +kernel
theorem dX11_needs_47 : decode cX11_needs 47 = .ok (.istore_n 3, 1) := by decide +kernel
theorem dX11_needs_48 : decode cX11_needs 48 = .ok (.aload_n 0, 1) := by decide +kernel
theorem dX11_needs_49 : decode cX11_needs 49 = .ok (.getfield 49, 3) := by decide +kernel
theorem dX11_needs_52 : decode cX11_needs 52 = .ok (.invokevirtual 232, 3) := by decide +kernel
theorem dX11_needs_55 : decode cX11_needs 55 = .ok (.aload_n 0, 1) := by decide +kernel
theorem dX11_needs_56 : decode cX11_needs 56 = .ok (.getfield 49, 3) := by decide +kernel
theorem dX11_needs_59 : decode cX11_needs 59 = .ok (.iconst 0, 1) := by decide +kernel
theorem dX11_needs_60 : decode cX11_needs 60 = .ok (.invokevirtual 272, 3) := by decide +kernel
theorem dX11_needs_63 : decode cX11_needs 63 = .ok (.istore 4, 2) := by decide +kernel
theorem dX11_needs_65 : decode cX11_needs 65 = .ok (.iconst 0, 1) := by decide +kernel
theorem dX11_needs_66 : decode cX11_needs 66 = .ok (.istore 5, 2) := by decide +kernel
theorem dX11_needs_68 : decode cX11_needs 68 = .ok (.iload 5, 2) := by decide +kernel
theorem dX11_needs_70 : decode cX11_needs 70 = .ok (.sipush 9999, 3) := by decide +kernel
theorem dX11_needs_73 : decode cX11_needs 73 = .ok (.if_icmp .gt 74, 3) := by decide +kernel
theorem dX11_needs_76 : decode cX11_needs 76 = .ok (.aload_n 0, 1) := by decide +kernel
theorem dX11_needs_77 : decode cX11_needs 77 = .ok (.getfield 49, 3) := by decide +kernel
theorem dX11_needs_80 : decode cX11_needs 80 = .ok (.iload 5, 2) := by decide +kernel
theorem dX11_needs_82 : decode cX11_needs 82 = .ok (.iload_n 3, 1) := by decide +kernel
theorem dX11_needs_83 : decode cX11_needs 83 = .ok (.iload 4, 2) := by decide +kernel
theorem dX11_needs_85 : decode cX11_needs 85 = .ok (.aload_n 0, 1) := by decide +kernel
theorem dX11_needs_86 : decode cX11_needs 86 = .ok (.getfield 56, 3) := by decide +kernel
theorem dX11_needs_89 : decode cX11_needs 89 = .ok (.getfield 132, 3) := by decide +kernel
theorem dX11_needs_92 : decode cX11_needs 92 = .ok (.invokevirtual 275, 3) := by decide +kernel
theorem dX11_needs_95 : decode cX11_needs 95 = .ok (.iload_n 2, 1) := by decide +kernel
theorem dX11_needs_96 : decode cX11_needs 96 = .ok (.if_icmp .ge 6, 3) := by decide +kernel
theorem dX11_needs_99 : decode cX11_needs 99 = .ok (.goto 42, 3) := by decide +kernel
theorem dX11_needs_102 : decode cX11_needs 102 = .ok (.aload_n 0, 1) := by decide +kernel
theorem dX11_needs_103 : decode cX11_needs 103 = .ok (.getfield 49, 3) := by decide +kernel
theorem dX11_needs_106 : decode cX11_needs 106 = .ok (.iload 5, 2) := by decide +kernel
theorem dX11_needs_108 : decode cX11_needs 108 = .ok (.putfield 195, 3) := by decide +kernel
theorem dX11_needs_111 : decode cX11_needs 111 = .ok (.aload_n 0, 1) := by decide +kernel
theorem dX11_needs_112 : decode cX11_needs 112 = .ok (.getfield 49, 3) := by decide +kernel
theorem dX11_needs_115 : decode cX11_needs 115 = .ok (.iload_n 1, 1) := by decide +kernel
theorem dX11_needs_116 : decode cX11_needs 116 = .ok (.iconst 0, 1) := by decide +kernel
theorem dX11_needs_117 : decode cX11_needs 117 = .ok (.aload_n 0, 1) := by decide +kernel
theorem dX11_needs_118 : decode cX11_needs 118 = .ok (.getfield 56, 3) := by decide +kernel
theorem dX11_needs_121 : decode cX11_needs 121 = .ok (.getfield 132, 3) := by decide +kernel
theorem dX11_needs_124 : decode cX11_needs 124 = .ok (.invokevirtual 278, 3) := by decide +kernel
theorem dX11_needs_127 : decode cX11_needs 127 = .ok (.aload_n 0, 1) := by decide +kernel
theorem dX11_needs_128 : decode cX11_needs 128 = .ok (.getfield 49, 3) := by decide +kernel
theorem dX11_needs_131 : decode cX11_needs 131 = .ok (.getfield 210, 3) := by decide +kernel
theorem dX11_needs_134 : decode cX11_needs 134 = .ok (.iload_n 2, 1) := by decide +kernel
theorem dX11_needs_135 : decode cX11_needs 135 = .ok (.if_icmp .lt 6, 3) := by decide +kernel
theorem dX11_needs_138 : decode cX11_needs 138 = .ok (.iload 5, 2) := by decide +kernel
theorem dX11_needs_140 : decode cX11_needs 140 = .ok (.ireturn, 1) := by decide +kernel
theorem dX11_needs_141 : decode cX11_needs 141 = .ok (.iinc 5 1, 3) := by decide +kernel
theorem dX11_needs_144 : decode cX11_needs 144 = .ok (.goto (-76), 3) := by decide +kernel
theorem dX11_needs_147 : decode cX11_needs 147 = .ok (.bipush (-2), 2) := by decide +kernel
theorem dX11_needs_149 : decode cX11_needs 149 = .ok (.ireturn, 1) := by decide +kernel
theorem dX11_spread_0 : decode cX11_spread 0 = .ok (.aload_n 0, 1) := by decide +kernel
theorem dX11_spread_1 : decode cX11_spread 1 = .ok (.iload_n 1, 1) := by decide +kernel
theorem dX11_spread_2 : decode cX11_spread 2 = .ok (.invokevirtual 167, 3) := by decide +kernel
theorem dX11_spread_5 : decode cX11_spread 5 = .ok (.ifCond .ne 5, 3) := by decide +kernel
theorem dX11_spread_8 : decode cX11_spread 8 = .ok (.iconst (-1), 1) := by decide +kernel
theorem dX11_spread_9 : decode cX11_spread 9 = .ok (.ireturn, 1) := by decide +kernel
theorem dX11_spread_10 : decode cX11_spread 10 = .ok (.aload_n 0, 1) := by decide +kernel
theorem dX11_spread_11 : decode cX11_spread 11 = .ok (.iload_n 1, 1) := by decide +kernel
theorem dX11_spread_12 : decode cX11_spread 12 = .ok (.iconst 0, 1) := by decide +kernel
theorem dX11_spread_13 : decode cX11_spread 13 = .ok (.iconst 0, 1) := by decide +kernel
theorem dX11_spread_14 : decode cX11_spread 14 = .ok (.iconst 0, 1) := by decide +kernel
theorem dX11_spread_15 : decode cX11_spread 15 = .ok (.invokevirtual 206, 3) := by decide +kernel
theorem dX11_spread_18 : decode cX11_spread 18 = .ok (.istore_n 2, 1) := by decide +kernel
theorem dX11_spread_19 : decode cX11_spread 19 = .ok (.iload_n 2, 1) := by decide +kernel
theorem dX11_spread_20 : decode cX11_spread 20 = .ok (.istore_n 3, 1) := by decide +kernel
theorem dX11_spread_21 : decode cX11_spread 21 = .ok (.iconst 1, 1) := by decide +kernel
theorem dX11_spread_22 : decode cX11_spread 22 = .ok (.istore 4, 2) := by decide +kernel
theorem dX11_spread_24 : decode cX11_spread 24 = .ok (.iload 4, 2) := by decide +kernel
theorem dX11_spread_26 : decode cX11_spread 26 = .ok (.aload_n 0, 1) := by decide +kernel
theorem dX11_spread_27 : decode cX11_spread 27 = .ok (.getfield 41, 3) := by decide +kernel
theorem dX11_spread_30 : decode cX11_spread 30 = .ok (.getfield 188, 3) := by decide +kernel
theorem dX11_spread_33 : decode cX11_spread 33 = .ok (.if_icmp .gt 34, 3) := by decide +kernel
theorem dX11_spread_36 : decode cX11_spread 36 = .ok (.aload_n 0, 1) := by decide +kernel
theorem dX11_spread_37 : decode cX11_spread 37 = .ok (.iload_n 1, 1) := by decide +kernel
theorem dX11_spread_38 : decode cX11_spread 38 = .ok (.iload 4, 2) := by decide +kernel
theorem dX11_spread_40 : decode cX11_spread 40 = .ok (.iconst 0, 1) := by decide +kernel
theorem dX11_spread_41 : decode cX11_spread 41 = .ok (.iconst 0, 1) := by decide +kernel
theorem dX11_spread_42 : decode cX11_spread 42 = .ok (.invokevirtual 206, 3) := by decide +kernel
theorem dX11_spread_45 : decode cX11_spread 45 = .ok (.istore 5, 2) := by decide +kernel
theorem dX11_spread_47 : decode cX11_spread 47 = .ok (.iload_n 2, 1) := by decide +kernel
theorem dX11_spread_48 : decode cX11_spread 48 = .ok (.iload 5, 2) := by decide +kernel
theorem dX11_spread_50 : decode cX11_spread 50 = .ok (.invokestatic 282, 3) := by decide +kernel
theorem dX11_spread_53 : decode cX11_spread 53 = .ok (.istore_n 2, 1) := by decide +kernel
theorem dX11_spread_54 : decode cX11_spread 54 = .ok (.iload_n 3, 1) := by decide +kernel
theorem dX11_spread_55 : decode cX11_spread 55 = .ok (.iload 5, 2) := by decide +kernel
theorem dX11_spread_57 : decode cX11_spread 57 = .ok (.invokestatic 287, 3) := by decide +kernel
theorem dX11_spread_60 : decode cX11_spread 60 = .ok (.istore_n 3, 1) := by decide +kernel
theorem dX11_spread_61 : decode cX11_spread 61 = .ok (.iinc 4 1, 3) := by decide +kernel
theorem dX11_spread_64 : decode cX11_spread 64 = .ok (.goto (-40), 3) := by decide +kernel
theorem dX11_spread_67 : decode cX11_spread 67 = .ok (.iload_n 2, 1) := by decide +kernel
theorem dX11_spread_68 : decode cX11_spread 68 = .ok (.iload_n 3, 1) := by decide +kernel
theorem dX11_spread_69 : decode cX11_spread 69 = .ok (.isub, 1) := by decide +kernel
theorem dX11_spread_70 : decode cX11_spread 70 = .ok (.ireturn, 1) := by decide +kernel
theorem dX11_atGate_0 : decode cX11_atGate 0 = .ok (.aload_n 0, 1) := by decide +kernel
theorem dX11_atGate_1 : decode cX11_atGate 1 = .ok (.iload_n 1, 1) := by decide +kernel
theorem dX11_atGate_2 : decode cX11_atGate 2 = .ok (.invokevirtual 167, 3) := by decide +kernel
theorem dX11_atGate_5 : decode cX11_atGate 5 = .ok (.ifCond .eq 10, 3) := by decide +kernel
theorem dX11_atGate_8 : decode cX11_atGate 8 = .ok (.iload_n 2, 1) := by decide +kernel
theorem dX11_atGate_9 : decode cX11_atGate 9 = .ok (.invokestatic 196, 3) := by decide +kernel
theorem dX11_atGate_12 : decode cX11_atGate 12 = .ok (.ifCond .ne 7, 3) := by decide +kernel
theorem dX11_atGate_15 : decode cX11_atGate 15 = .ok (.sipush (-10000), 3) := by decide +kernel
theorem dX11_atGate_18 : decode cX11_atGate 18 = .ok (.ireturn, 1) := by decide +kernel
theorem dX11_atGate_19 : decode cX11_atGate 19 = .ok (.aload_n 0, 1) := by decide +kernel
theorem dX11_atGate_20 : decode cX11_atGate 20 = .ok (.getfield 49, 3) := by decide +kernel
theorem dX11_atGate_23 : decode cX11_atGate 23 = .ok (.aload_n 0, 1) := by decide +kernel
theorem dX11_atGate_24 : decode cX11_atGate 24 = .ok (.getfield 56, 3) := by decide +kernel
theorem dX11_atGate_27 : decode cX11_atGate 27 = .ok (.getfield 126, 3) := by decide +kernel
theorem dX11_atGate_30 : decode cX11_atGate 30 = .ok (.invokevirtual 142, 3) := by decide +kernel
theorem dX11_atGate_33 : decode cX11_atGate 33 = .ok (.aload_n 0, 1) := by decide +kernel
theorem dX11_atGate_34 : decode cX11_atGate 34 = .ok (.iload_n 1, 1) := by decide +kernel
theorem dX11_atGate_35 : decode cX11_atGate 35 = .ok (.iconst 0, 1) := by decide +kernel
theorem dX11_atGate_36 : decode cX11_atGate 36 = .ok (.iload_n 2, 1) := by decide +kernel
theorem dX11_atGate_37 : decode cX11_atGate 37 = .ok (.aload_n 0, 1) := by decide +kernel
theorem dX11_atGate_38 : decode cX11_atGate 38 = .ok (.getfield 56, 3) := by decide +kernel
theorem dX11_atGate_41 : decode cX11_atGate 41 = .ok (.getfield 139, 3) := by decide +kernel
theorem dX11_atGate_44 : decode cX11_atGate 44 = .ok (.iload_n 3, 1) := by decide +kernel
theorem dX11_atGate_45 : decode cX11_atGate 45 = .ok (.invokevirtual 235, 3) := by decide +kernel
theorem dX11_atGate_48 : decode cX11_atGate 48 = .ok (.ireturn, 1) := by decide +kernel
theorem dX11_lead_0 : decode cX11_lead 0 = .ok (.aload_n 0, 1) := by decide +kernel
theorem dX11_lead_1 : decode cX11_lead 1 = .ok (.iload_n 1, 1) := by decide +kernel
theorem dX11_lead_2 : decode cX11_lead 2 = .ok (.invokevirtual 167, 3) := by decide +kernel
theorem dX11_lead_5 : decode cX11_lead 5 = .ok (.ifCond .eq 24, 3) := by decide +kernel
theorem dX11_lead_8 : decode cX11_lead 8 = .ok (.aload_n 0, 1) := by decide +kernel
theorem dX11_lead_9 : decode cX11_lead 9 = .ok (.getfield 56, 3) := by decide +kernel
theorem dX11_lead_12 : decode cX11_lead 12 = .ok (.getfield 170, 3) := by decide +kernel
theorem dX11_lead_15 : decode cX11_lead 15 = .ok (.iload_n 1, 1) := by decide +kernel
theorem dX11_lead_16 : decode cX11_lead 16 = .ok (.iaload, 1) := by decide +kernel
theorem dX11_lead_17 : decode cX11_lead 17 = .ok (.aload_n 0, 1) := by decide +kernel
theorem dX11_lead_18 : decode cX11_lead 18 = .ok (.getfield 56, 3) := by decide +kernel
theorem dX11_lead_21 : decode cX11_lead 21 = .ok (.iload_n 1, 1) := by decide +kernel
theorem dX11_lead_22 : decode cX11_lead 22 = .ok (.invokevirtual 290, 3) := by decide +kernel
theorem dX11_lead_25 : decode cX11_lead 25 = .ok (.isub, 1) := by decide +kernel
theorem dX11_lead_26 : decode cX11_lead 26 = .ok (.goto 6, 3) := by decide +kernel
theorem dX11_lead_29 : decode cX11_lead 29 = .ok (.sipush (-10000), 3) := by decide +kernel
theorem dX11_lead_32 : decode cX11_lead 32 = .ok (.ireturn, 1) := by decide +kernel
theorem dX11_reversed_0 : decode cX11_reversed 0 = .ok (.aload_n 0, 1) := by decide +kernel
theorem dX11_reversed_1 : decode cX11_reversed 1 = .ok (.iload_n 1, 1) := by decide +kernel
theorem dX11_reversed_2 : decode cX11_reversed 2 = .ok (.invokevirtual 167, 3) := by decide +kernel
theorem dX11_reversed_5 : decode cX11_reversed 5 = .ok (.ifCond .ne 5, 3) := by decide +kernel
theorem dX11_reversed_8 : decode cX11_reversed 8 = .ok (.iconst (-1), 1) := by decide +kernel
theorem dX11_reversed_9 : decode cX11_reversed 9 = .ok (.ireturn, 1) := by decide +kernel
theorem dX11_reversed_10 : decode cX11_reversed 10 = .ok (.aload_n 0, 1) := by decide +kernel
theorem dX11_reversed_11 : decode cX11_reversed 11 = .ok (.getfield 60, 3) := by decide +kernel
theorem dX11_reversed_14 : decode cX11_reversed 14 = .ok (.invokevirtual 293, 3) := by decide +kernel
theorem dX11_reversed_17 : decode cX11_reversed 17 = .ok (.aload_n 0, 1) := by decide +kernel
theorem dX11_reversed_18 : decode cX11_reversed 18 = .ok (.getfield 60, 3) := by decide +kernel
theorem dX11_reversed_21 : decode cX11_reversed 21 = .ok (.invokevirtual 296, 3) := by decide +kernel
theorem dX11_reversed_24 : decode cX11_reversed 24 = .ok (.aload_n 0, 1) := by decide +kernel
theorem dX11_reversed_25 : decode cX11_reversed 25 = .ok (.aload_n 0, 1) := by decide +kernel
theorem dX11_reversed_26 : decode cX11_reversed 26 = .ok (.getfield 60, 3) := by decide +kernel
theorem dX11_reversed_29 : decode cX11_reversed 29 = .ok (.bipush 16, 2) := by decide +kernel
theorem dX11_reversed_31 : decode cX11_reversed 31 = .ok (.invokevirtual 184, 3) := by decide +kernel
theorem dX11_reversed_34 : decode cX11_reversed 34 = .ok (.pop, 1) := by decide +kernel
theorem dX11_reversed_35 : decode cX11_reversed 35 = .ok (.aload_n 0, 1) := by decide +kernel
theorem dX11_reversed_36 : decode cX11_reversed 36 = .ok (.getfield 60, 3) := by decide +kernel
theorem dX11_reversed_39 : decode cX11_reversed 39 = .ok (.iload_n 1, 1) := by decide +kernel
theorem dX11_reversed_40 : decode cX11_reversed 40 = .ok (.invokevirtual 173, 3) := by decide +kernel
theorem dX11_reversed_43 : decode cX11_reversed 43 = .ok (.ireturn, 1) := by decide +kernel
theorem dX11_harsh_0 : decode cX11_harsh 0 = .ok (.iload_n 2, 1) := by decide +kernel
theorem dX11_harsh_1 : decode cX11_harsh 1 = .ok (.iconst 0, 1) := by decide +kernel
theorem dX11_harsh_2 : decode cX11_harsh 2 = .ok (.iconst 1, 1) := by decide +kernel
theorem dX11_harsh_3 : decode cX11_harsh 3 = .ok (.invokestatic 112, 3) := by decide +kernel
theorem dX11_harsh_6 : decode cX11_harsh 6 = .ok (.ifCond .ne 5, 3) := by decide +kernel
theorem dX11_harsh_9 : decode cX11_harsh 9 = .ok (.iconst (-1), 1) := by decide +kernel
theorem dX11_harsh_10 : decode cX11_harsh 10 = .ok (.ireturn, 1) := by decide +kernel
theorem dX11_harsh_11 : decode cX11_harsh 11 = .ok (.bipush (-2), 2) := by decide +kernel
theorem dX11_harsh_13 : decode cX11_harsh 13 = .ok (.istore_n 3, 1) := by decide +kernel
theorem dX11_harsh_14 : decode cX11_harsh 14 = .ok (.bipush (-2), 2) := by decide +kernel
theorem dX11_harsh_16 : decode cX11_harsh 16 = .ok (.istore 4, 2) := by decide +kernel
theorem dX11_harsh_18 : decode cX11_harsh 18 = .ok (.iconst 0, 1) := by decide +kernel
theorem dX11_harsh_19 : decode cX11_harsh 19 = .ok (.istore 5, 2) := by decide +kernel
theorem dX11_harsh_21 : decode cX11_harsh 21 = .ok (.iload 5, 2) := by decide +kernel
theorem dX11_harsh_23 : decode cX11_harsh 23 = .ok (.aload_n 0, 1) := by decide +kernel
theorem dX11_harsh_24 : decode cX11_harsh 24 = .ok (.getfield 41, 3) := by decide +kernel
theorem dX11_harsh_27 : decode cX11_harsh 27 = .ok (.getfield 216, 3) := by decide +kernel
theorem dX11_harsh_30 : decode cX11_harsh 30 = .ok (.getfield 299, 3) := by decide +kernel
theorem dX11_harsh_33 : decode cX11_harsh 33 = .ok (.if_icmp .ge 54, 3) := by decide +kernel
theorem dX11_harsh_36 : decode cX11_harsh 36 = .ok (.aload_n 0, 1) := by decide +kernel
theorem dX11_harsh_37 : decode cX11_harsh 37 = .ok (.getfield 56, 3) := by decide +kernel
theorem dX11_harsh_40 : decode cX11_harsh 40 = .ok (.iload 5, 2) := by decide +kernel
theorem dX11_harsh_42 : decode cX11_harsh 42 = .ok (.invokevirtual 302, 3) := by decide +kernel
theorem dX11_harsh_45 : decode cX11_harsh 45 = .ok (.istore 6, 2) := by decide +kernel
theorem dX11_harsh_47 : decode cX11_harsh 47 = .ok (.iload_n 3, 1) := by decide +kernel
theorem dX11_harsh_48 : decode cX11_harsh 48 = .ok (.bipush (-2), 2) := by decide +kernel
theorem dX11_harsh_50 : decode cX11_harsh 50 = .ok (.if_icmp .eq 24, 3) := by decide +kernel
theorem dX11_harsh_53 : decode cX11_harsh 53 = .ok (.iload_n 1, 1) := by decide +kernel
theorem dX11_harsh_54 : decode cX11_harsh 54 = .ok (.ifCond .eq 13, 3) := by decide +kernel
theorem dX11_harsh_57 : decode cX11_harsh 57 = .ok (.iload 6, 2) := by decide +kernel
theorem dX11_harsh_59 : decode cX11_harsh 59 = .ok (.iload 4, 2) := by decide +kernel
theorem dX11_harsh_61 : decode cX11_harsh 61 = .ok (.if_icmp .le 20, 3) := by decide +kernel
theorem dX11_harsh_64 : decode cX11_harsh 64 = .ok (.goto 10, 3) := by decide +kernel
theorem dX11_harsh_67 : decode cX11_harsh 67 = .ok (.iload 6, 2) := by decide +kernel
theorem dX11_harsh_69 : decode cX11_harsh 69 = .ok (.iload 4, 2) := by decide +kernel
theorem dX11_harsh_71 : decode cX11_harsh 71 = .ok (.if_icmp .ge 10, 3) := by decide +kernel
theorem dX11_harsh_74 : decode cX11_harsh 74 = .ok (.iload 5, 2) := by decide +kernel
theorem dX11_harsh_76 : decode cX11_harsh 76 = .ok (.istore_n 3, 1) := by decide +kernel
theorem dX11_harsh_77 : decode cX11_harsh 77 = .ok (.iload 6, 2) := by decide +kernel
theorem dX11_harsh_79 : decode cX11_harsh 79 = .ok (.istore 4, 2) := by decide +kernel
theorem dX11_harsh_81 : decode cX11_harsh 81 = .ok (.iinc 5 1, 3) := by decide +kernel
theorem dX11_harsh_84 : decode cX11_harsh 84 = .ok (.goto (-63), 3) := by decide +kernel
theorem dX11_harsh_87 : decode cX11_harsh 87 = .ok (.iload_n 2, 1) := by decide +kernel
theorem dX11_harsh_88 : decode cX11_harsh 88 = .ok (.ifCond .ne 7, 3) := by decide +kernel
theorem dX11_harsh_91 : decode cX11_harsh 91 = .ok (.iload_n 3, 1) := by decide +kernel
theorem dX11_harsh_92 : decode cX11_harsh 92 = .ok (.goto 5, 3) := by decide +kernel
theorem dX11_harsh_95 : decode cX11_harsh 95 = .ok (.iload 4, 2) := by decide +kernel
theorem dX11_harsh_97 : decode cX11_harsh 97 = .ok (.ireturn, 1) := by decide +kernel
theorem dX11_calm_0 : decode cX11_calm 0 = .ok (.iload_n 1, 1) := by decide +kernel
theorem dX11_calm_1 : decode cX11_calm 1 = .ok (.iconst 0, 1) := by decide +kernel
theorem dX11_calm_2 : decode cX11_calm 2 = .ok (.sipush 999, 3) := by decide +kernel
theorem dX11_calm_5 : decode cX11_calm 5 = .ok (.invokestatic 112, 3) := by decide +kernel
theorem dX11_calm_8 : decode cX11_calm 8 = .ok (.ifCond .eq 12, 3) := by decide +kernel
theorem dX11_calm_11 : decode cX11_calm 11 = .ok (.iload_n 2, 1) := by decide +kernel
theorem dX11_calm_12 : decode cX11_calm 12 = .ok (.iconst 0, 1) := by decide +kernel
theorem dX11_calm_13 : decode cX11_calm 13 = .ok (.iconst 1, 1) := by decide +kernel
theorem dX11_calm_14 : decode cX11_calm 14 = .ok (.invokestatic 112, 3) := by decide +kernel
theorem dX11_calm_17 : decode cX11_calm 17 = .ok (.ifCond .ne 7, 3) := by decide +kernel
theorem dX11_calm_20 : decode cX11_calm 20 = .ok (.sipush (-10000), 3) := by decide +kernel
theorem dX11_calm_23 : decode cX11_calm 23 = .ok (.ireturn, 1) := by decide +kernel
theorem dX11_calm_24 : decode cX11_calm 24 = .ok (.aload_n 0, 1) := by decide +kernel
theorem dX11_calm_25 : decode cX11_calm 25 = .ok (.getfield 49, 3) := by decide +kernel
theorem dX11_calm_28 : decode cX11_calm 28 = .ok (.aload_n 0, 1) := by decide +kernel
theorem dX11_calm_29 : decode cX11_calm 29 = .ok (.getfield 56, 3) := by decide +kernel
theorem dX11_calm_32 : decode cX11_calm 32 = .ok (.getfield 126, 3) := by decide +kernel
theorem dX11_calm_35 : decode cX11_calm 35 = .ok (.invokevirtual 142, 3) := by decide +kernel
theorem dX11_calm_38 : decode cX11_calm 38 = .ok (.iconst 0, 1) := by decide +kernel
theorem dX11_calm_39 : decode cX11_calm 39 = .ok (.istore_n 3, 1) := by decide +kernel
theorem dX11_calm_40 : decode cX11_calm 40 = .ok (.aload_n 0, 1) := by decide +kernel
theorem dX11_calm_41 : decode cX11_calm 41 = .ok (.getfield 49, 3) := by decide +kernel
theorem dX11_calm_44 : decode cX11_calm 44 = .ok (.getfield 145, 3) := by decide +kernel
theorem dX11_calm_47 : decode cX11_calm 47 = .ok (.istore 4, 2) := by decide +kernel
theorem dX11_calm_49 : decode cX11_calm 49 = .ok (.iconst 1, 1) := by decide +kernel
theorem dX11_calm_50 : decode cX11_calm 50 = .ok (.istore 5, 2) := by decide +kernel
theorem dX11_calm_52 : decode cX11_calm 52 = .ok (.iload 5, 2) := by decide +kernel
theorem dX11_calm_54 : decode cX11_calm 54 = .ok (.iload_n 1, 1) := by decide +kernel
theorem dX11_calm_55 : decode cX11_calm 55 = .ok (.if_icmp .gt 56, 3) := by decide +kernel
theorem dX11_calm_58 : decode cX11_calm 58 = .ok (.aload_n 0, 1) := by decide +kernel
theorem dX11_calm_59 : decode cX11_calm 59 = .ok (.getfield 49, 3) := by decide +kernel
theorem dX11_calm_62 : decode cX11_calm 62 = .ok (.aload_n 0, 1) := by decide +kernel
theorem dX11_calm_63 : decode cX11_calm 63 = .ok (.getfield 56, 3) := by decide +kernel
theorem dX11_calm_66 : decode cX11_calm 66 = .ok (.getfield 126, 3) := by decide +kernel
theorem dX11_calm_69 : decode cX11_calm 69 = .ok (.iload 5, 2) := by decide +kernel
theorem dX11_calm_71 : decode cX11_calm 71 = .ok (.iadd, 1) := by decide +kernel
theorem dX11_calm_72 : decode cX11_calm 72 = .ok (.invokevirtual 142, 3) := by decide +kernel
theorem dX11_calm_75 : decode cX11_calm 75 = .ok (.aload_n 0, 1) := by decide +kernel
theorem dX11_calm_76 : decode cX11_calm 76 = .ok (.getfield 49, 3) := by decide +kernel
theorem dX11_calm_79 : decode cX11_calm 79 = .ok (.getfield 145, 3) := by decide +kernel
theorem dX11_calm_82 : decode cX11_calm 82 = .ok (.invokestatic 305, 3) := by decide +kernel
theorem dX11_calm_85 : decode cX11_calm 85 = .ok (.iload 4, 2) := by decide +kernel
theorem dX11_calm_87 : decode cX11_calm 87 = .ok (.invokestatic 305, 3) := by decide +kernel
theorem dX11_calm_90 : decode cX11_calm 90 = .ok (.if_icmp .ge 15, 3) := by decide +kernel
theorem dX11_calm_93 : decode cX11_calm 93 = .ok (.aload_n 0, 1) := by decide +kernel
theorem dX11_calm_94 : decode cX11_calm 94 = .ok (.getfield 49, 3) := by decide +kernel
theorem dX11_calm_97 : decode cX11_calm 97 = .ok (.getfield 145, 3) := by decide +kernel
theorem dX11_calm_100 : decode cX11_calm 100 = .ok (.istore 4, 2) := by decide +kernel
theorem dX11_calm_102 : decode cX11_calm 102 = .ok (.iload 5, 2) := by decide +kernel
theorem dX11_calm_104 : decode cX11_calm 104 = .ok (.istore_n 3, 1) := by decide +kernel
theorem dX11_calm_105 : decode cX11_calm 105 = .ok (.iinc 5 1, 3) := by decide +kernel
theorem dX11_calm_108 : decode cX11_calm 108 = .ok (.goto (-56), 3) := by decide +kernel
theorem dX11_calm_111 : decode cX11_calm 111 = .ok (.iload_n 2, 1) := by decide +kernel
theorem dX11_calm_112 : decode cX11_calm 112 = .ok (.ifCond .ne 7, 3) := by decide +kernel
theorem dX11_calm_115 : decode cX11_calm 115 = .ok (.iload_n 3, 1) := by decide +kernel
theorem dX11_calm_116 : decode cX11_calm 116 = .ok (.goto 5, 3) := by decide +kernel
theorem dX11_calm_119 : decode cX11_calm 119 = .ok (.iload 4, 2) := by decide +kernel
theorem dX11_calm_121 : decode cX11_calm 121 = .ok (.ireturn, 1) := by decide +kernel
theorem dX11_windiest_0 : decode cX11_windiest 0 = .ok (.iload_n 1, 1) := by decide +kernel
theorem dX11_windiest_1 : decode cX11_windiest 1 = .ok (.iconst 0, 1) := by decide +kernel
theorem dX11_windiest_2 : decode cX11_windiest 2 = .ok (.ldc 151, 2) := by decide +kernel
theorem dX11_windiest_4 : decode cX11_windiest 4 = .ok (.invokestatic 112, 3) := by decide +kernel
theorem dX11_windiest_7 : decode cX11_windiest 7 = .ok (.ifCond .ne 5, 3) := by decide +kernel
theorem dX11_windiest_10 : decode cX11_windiest 10 = .ok (.iconst (-1), 1) := by decide +kernel
theorem dX11_windiest_11 : decode cX11_windiest 11 = .ok (.ireturn, 1) := by decide +kernel
theorem dX11_windiest_12 : decode cX11_windiest 12 = .ok (.iconst 0, 1) := by decide +kernel
theorem dX11_windiest_13 : decode cX11_windiest 13 = .ok (.istore_n 2, 1) := by decide +kernel
theorem dX11_windiest_14 : decode cX11_windiest 14 = .ok (.iconst (-1), 1) := by decide +kernel
theorem dX11_windiest_15 : decode cX11_windiest 15 = .ok (.istore_n 3, 1) := by decide +kernel
theorem dX11_windiest_16 : decode cX11_windiest 16 = .ok (.iconst 0, 1) := by decide +kernel
theorem dX11_windiest_17 : decode cX11_windiest 17 = .ok (.istore 4, 2) := by decide +kernel
theorem dX11_windiest_19 : decode cX11_windiest 19 = .ok (.iload 4, 2) := by decide +kernel
theorem dX11_windiest_21 : decode cX11_windiest 21 = .ok (.iconst 5, 1) := by decide +kernel
theorem dX11_windiest_22 : decode cX11_windiest 22 = .ok (.if_icmp .ge 36, 3) := by decide +kernel
theorem dX11_windiest_25 : decode cX11_windiest 25 = .ok (.aload_n 0, 1) := by decide +kernel
theorem dX11_windiest_26 : decode cX11_windiest 26 = .ok (.getfield 49, 3) := by decide +kernel
theorem dX11_windiest_29 : decode cX11_windiest 29 = .ok (.iload 4, 2) := by decide +kernel
theorem dX11_windiest_31 : decode cX11_windiest 31 = .ok (.iload_n 1, 1) := by decide +kernel
theorem dX11_windiest_32 : decode cX11_windiest 32 = .ok (.invokevirtual 152, 3) := by decide +kernel
theorem dX11_windiest_35 : decode cX11_windiest 35 = .ok (.invokestatic 305, 3) := by decide +kernel
theorem dX11_windiest_38 : decode cX11_windiest 38 = .ok (.istore 5, 2) := by decide +kernel
theorem dX11_windiest_40 : decode cX11_windiest 40 = .ok (.iload 5, 2) := by decide +kernel
theorem dX11_windiest_42 : decode cX11_windiest 42 = .ok (.iload_n 3, 1) := by decide +kernel
theorem dX11_windiest_43 : decode cX11_windiest 43 = .ok (.if_icmp .le 9, 3) := by decide +kernel
theorem dX11_windiest_46 : decode cX11_windiest 46 = .ok (.iload 5, 2) := by decide +kernel
theorem dX11_windiest_48 : decode cX11_windiest 48 = .ok (.istore_n 3, 1) := by decide +kernel
theorem dX11_windiest_49 : decode cX11_windiest 49 = .ok (.iload 4, 2) := by decide +kernel
theorem dX11_windiest_51 : decode cX11_windiest 51 = .ok (.istore_n 2, 1) := by decide +kernel
theorem dX11_windiest_52 : decode cX11_windiest 52 = .ok (.iinc 4 1, 3) := by decide +kernel
theorem dX11_windiest_55 : decode cX11_windiest 55 = .ok (.goto (-36), 3) := by decide +kernel
theorem dX11_windiest_58 : decode cX11_windiest 58 = .ok (.iload_n 2, 1) := by decide +kernel
theorem dX11_windiest_59 : decode cX11_windiest 59 = .ok (.ireturn, 1) := by decide +kernel
theorem dX11_progress_0 : decode cX11_progress 0 = .ok (.aload_n 0, 1) := by decide +kernel
theorem dX11_progress_1 : decode cX11_progress 1 = .ok (.getfield 56, 3) := by decide +kernel
theorem dX11_progress_4 : decode cX11_progress 4 = .ok (.iload_n 1, 1) := by decide +kernel
theorem dX11_progress_5 : decode cX11_progress 5 = .ok (.iconst 1, 1) := by decide +kernel
theorem dX11_progress_6 : decode cX11_progress 6 = .ok (.invokevirtual 156, 3) := by decide +kernel
theorem dX11_progress_9 : decode cX11_progress 9 = .ok (.ifCond .eq 15, 3) := by decide +kernel
theorem dX11_progress_12 : decode cX11_progress 12 = .ok (.aload_n 0, 1) := by decide +kernel
theorem dX11_progress_13 : decode cX11_progress 13 = .ok (.getfield 56, 3) := by decide +kernel
theorem dX11_progress_16 : decode cX11_progress 16 = .ok (.iload_n 1, 1) := by decide +kernel
theorem dX11_progress_17 : decode cX11_progress 17 = .ok (.iconst 2, 1) := by decide +kernel
theorem dX11_progress_18 : decode cX11_progress 18 = .ok (.invokevirtual 156, 3) := by decide +kernel
theorem dX11_progress_21 : decode cX11_progress 21 = .ok (.ifCond .ne 7, 3) := by decide +kernel
theorem dX11_progress_24 : decode cX11_progress 24 = .ok (.sipush (-10000), 3) := by decide +kernel
theorem dX11_progress_27 : decode cX11_progress 27 = .ok (.ireturn, 1) := by decide +kernel
theorem dX11_progress_28 : decode cX11_progress 28 = .ok (.aload_n 0, 1) := by decide +kernel
theorem dX11_progress_29 : decode cX11_progress 29 = .ok (.getfield 56, 3) := by decide +kernel
theorem dX11_progress_32 : decode cX11_progress 32 = .ok (.iload_n 1, 1) := by decide +kernel
theorem dX11_progress_33 : decode cX11_progress 33 = .ok (.iconst 2, 1) := by decide +kernel
theorem dX11_progress_34 : decode cX11_progress 34 = .ok (.iconst 0, 1) := by decide +kernel
theorem dX11_progress_35 : decode cX11_progress 35 = .ok (.invokevirtual 160, 3) := by decide +kernel
theorem dX11_progress_38 : decode cX11_progress 38 = .ok (.aload_n 0, 1) := by decide +kernel
theorem dX11_progress_39 : decode cX11_progress 39 = .ok (.getfield 56, 3) := by decide +kernel
theorem dX11_progress_42 : decode cX11_progress 42 = .ok (.iload_n 1, 1) := by decide +kernel
theorem dX11_progress_43 : decode cX11_progress 43 = .ok (.iconst 1, 1) := by decide +kernel
theorem dX11_progress_44 : decode cX11_progress 44 = .ok (.iconst 0, 1) := by decide +kernel
theorem dX11_progress_45 : decode cX11_progress 45 = .ok (.invokevirtual 160, 3) := by decide +kernel
theorem dX11_progress_48 : decode cX11_progress 48 = .ok (.isub, 1) := by decide +kernel
theorem dX11_progress_49 : decode cX11_progress 49 = .ok (.ireturn, 1) := by decide +kernel
theorem dX11_himself_0 : decode cX11_himself 0 = .ok (.iload_n 1, 1) := by decide +kernel
theorem dX11_himself_1 : decode cX11_himself 1 = .ok (.iconst 0, 1) := by decide +kernel
theorem dX11_himself_2 : decode cX11_himself 2 = .ok (.iconst 2, 1) := by decide +kernel
theorem dX11_himself_3 : decode cX11_himself 3 = .ok (.invokestatic 112, 3) := by decide +kernel
theorem dX11_himself_6 : decode cX11_himself 6 = .ok (.ifCond .ne 7, 3) := by decide +kernel
theorem dX11_himself_9 : decode cX11_himself 9 = .ok (.sipush (-10000), 3) := by decide +kernel
theorem dX11_himself_12 : decode cX11_himself 12 = .ok (.ireturn, 1) := by decide +kernel
theorem dX11_himself_13 : decode cX11_himself 13 = .ok (.bipush (-2), 2) := by decide +kernel
theorem dX11_himself_15 : decode cX11_himself 15 = .ok (.istore_n 2, 1) := by decide +kernel
theorem dX11_himself_16 : decode cX11_himself 16 = .ok (.bipush (-2), 2) := by decide +kernel
theorem dX11_himself_18 : decode cX11_himself 18 = .ok (.istore_n 3, 1) := by decide +kernel
theorem dX11_himself_19 : decode cX11_himself 19 = .ok (.bipush (-2), 2) := by decide +kernel
theorem dX11_himself_21 : decode cX11_himself 21 = .ok (.istore 4, 2) := by decide +kernel
theorem dX11_himself_23 : decode cX11_himself 23 = .ok (.iconst 0, 1) := by decide +kernel
theorem dX11_himself_24 : decode cX11_himself 24 = .ok (.istore 5, 2) := by decide +kernel
theorem dX11_himself_26 : decode cX11_himself 26 = .ok (.iload 5, 2) := by decide +kernel
theorem dX11_himself_28 : decode cX11_himself 28 = .ok (.aload_n 0, 1) := by decide +kernel
theorem dX11_himself_29 : decode cX11_himself 29 = .ok (.getfield 41, 3) := by decide +kernel
theorem dX11_himself_32 : decode cX11_himself 32 = .ok (.getfield 216, 3) := by decide +kernel
theorem dX11_himself_35 : decode cX11_himself 35 = .ok (.getfield 239, 3) := by decide +kernel
theorem dX11_himself_38 : decode cX11_himself 38 = .ok (.if_icmp .ge 74, 3) := by decide +kernel
theorem dX11_himself_41 : decode cX11_himself 41 = .ok (.iconst 1, 1) := by decide +kernel
theorem dX11_himself_42 : decode cX11_himself 42 = .ok (.istore 6, 2) := by decide +kernel
theorem dX11_himself_44 : decode cX11_himself 44 = .ok (.iload 6, 2) := by decide +kernel
theorem dX11_himself_46 : decode cX11_himself 46 = .ok (.iconst 2, 1) := by decide +kernel
theorem dX11_himself_47 : decode cX11_himself 47 = .ok (.if_icmp .gt 59, 3) := by decide +kernel
theorem dX11_himself_50 : decode cX11_himself 50 = .ok (.aload_n 0, 1) := by decide +kernel
theorem dX11_himself_51 : decode cX11_himself 51 = .ok (.getfield 56, 3) := by decide +kernel
theorem dX11_himself_54 : decode cX11_himself 54 = .ok (.iload 5, 2) := by decide +kernel
theorem dX11_himself_56 : decode cX11_himself 56 = .ok (.iload 6, 2) := by decide +kernel
theorem dX11_himself_58 : decode cX11_himself 58 = .ok (.invokevirtual 156, 3) := by decide +kernel
theorem dX11_himself_61 : decode cX11_himself 61 = .ok (.ifCond .ne 6, 3) := by decide +kernel
theorem dX11_himself_64 : decode cX11_himself 64 = .ok (.goto 36, 3) := by decide +kernel
theorem dX11_himself_67 : decode cX11_himself 67 = .ok (.aload_n 0, 1) := by decide +kernel
theorem dX11_himself_68 : decode cX11_himself 68 = .ok (.iload 5, 2) := by decide +kernel
theorem dX11_himself_70 : decode cX11_himself 70 = .ok (.iload 6, 2) := by decide +kernel
theorem dX11_himself_72 : decode cX11_himself 72 = .ok (.invokevirtual 308, 3) := by decide +kernel
theorem dX11_himself_75 : decode cX11_himself 75 = .ok (.istore 7, 2) := by decide +kernel
theorem dX11_himself_77 : decode cX11_himself 77 = .ok (.iload_n 2, 1) := by decide +kernel
theorem dX11_himself_78 : decode cX11_himself 78 = .ok (.bipush (-2), 2) := by decide +kernel
theorem dX11_himself_80 : decode cX11_himself 80 = .ok (.if_icmp .eq 10, 3) := by decide +kernel
theorem dX11_himself_83 : decode cX11_himself 83 = .ok (.iload 7, 2) := by decide +kernel
theorem dX11_himself_85 : decode cX11_himself 85 = .ok (.iload 4, 2) := by decide +kernel
theorem dX11_himself_87 : decode cX11_himself 87 = .ok (.if_icmp .le 13, 3) := by decide +kernel
theorem dX11_himself_90 : decode cX11_himself 90 = .ok (.iload 5, 2) := by decide +kernel
theorem dX11_himself_92 : decode cX11_himself 92 = .ok (.istore_n 2, 1) := by decide +kernel
theorem dX11_himself_93 : decode cX11_himself 93 = .ok (.iload 6, 2) := by decide +kernel
theorem dX11_himself_95 : decode cX11_himself 95 = .ok (.istore_n 3, 1) := by decide +kernel
theorem dX11_himself_96 : decode cX11_himself 96 = .ok (.iload 7, 2) := by decide +kernel
theorem dX11_himself_98 : decode cX11_himself 98 = .ok (.istore 4, 2) := by decide +kernel
theorem dX11_himself_100 : decode cX11_himself 100 = .ok (.iinc 6 1, 3) := by decide +kernel
theorem dX11_himself_103 : decode cX11_himself 103 = .ok (.goto (-59), 3) := by decide +kernel
theorem dX11_himself_106 : decode cX11_himself 106 = .ok (.iinc 5 1, 3) := by decide +kernel
theorem dX11_himself_109 : decode cX11_himself 109 = .ok (.goto (-83), 3) := by decide +kernel
theorem dX11_himself_112 : decode cX11_himself 112 = .ok (.iload_n 1, 1) := by decide +kernel
theorem dX11_himself_113 : decode cX11_himself 113 = .ok (.lookupswitch 32 #[(0, 27), (1, 29)], 27) := by decide +kernel
theorem dX11_himself_140 : decode cX11_himself 140 = .ok (.iload_n 2, 1) := by decide +kernel
theorem dX11_himself_141 : decode cX11_himself 141 = .ok (.ireturn, 1) := by decide +kernel
theorem dX11_himself_142 : decode cX11_himself 142 = .ok (.iload 4, 2) := by decide +kernel
theorem dX11_himself_144 : decode cX11_himself 144 = .ok (.ireturn, 1) := by decide +kernel
theorem dX11_himself_145 : decode cX11_himself 145 = .ok (.iload_n 3, 1) := by decide +kernel
theorem dX11_himself_146 : decode cX11_himself 146 = .ok (.ireturn, 1) := by decide +kernel
theorem dX11_tell_0 : decode cX11_tell 0 = .ok (.aload_n 0, 1) := by decide +kernel
theorem dX11_tell_1 : decode cX11_tell 1 = .ok (.iload_n 1, 1) := by decide +kernel
theorem dX11_tell_2 : decode cX11_tell 2 = .ok (.invokevirtual 167, 3) := by decide +kernel
theorem dX11_tell_5 : decode cX11_tell 5 = .ok (.ifCond .eq 25, 3) := by decide +kernel
theorem dX11_tell_8 : decode cX11_tell 8 = .ok (.iload_n 2, 1) := by decide +kernel
theorem dX11_tell_9 : decode cX11_tell 9 = .ok (.iconst 0, 1) := by decide +kernel
theorem dX11_tell_10 : decode cX11_tell 10 = .ok (.sipush 9999, 3) := by decide +kernel
theorem dX11_tell_13 : decode cX11_tell 13 = .ok (.invokestatic 112, 3) := by decide +kernel
theorem dX11_tell_16 : decode cX11_tell 16 = .ok (.ifCond .eq 14, 3) := by decide +kernel
theorem dX11_tell_19 : decode cX11_tell 19 = .ok (.iload_n 3, 1) := by decide +kernel
theorem dX11_tell_20 : decode cX11_tell 20 = .ok (.iconst 0, 1) := by decide +kernel
theorem dX11_tell_21 : decode cX11_tell 21 = .ok (.sipush 9999, 3) := by decide +kernel
theorem dX11_tell_24 : decode cX11_tell 24 = .ok (.invokestatic 112, 3) := by decide +kernel
theorem dX11_tell_27 : decode cX11_tell 27 = .ok (.ifCond .ne 5, 3) := by decide +kernel
theorem dX11_tell_30 : decode cX11_tell 30 = .ok (.iconst (-1), 1) := by decide +kernel
theorem dX11_tell_31 : decode cX11_tell 31 = .ok (.ireturn, 1) := by decide +kernel
theorem dX11_tell_32 : decode cX11_tell 32 = .ok (.aload_n 0, 1) := by decide +kernel
theorem dX11_tell_33 : decode cX11_tell 33 = .ok (.getfield 80, 3) := by decide +kernel
theorem dX11_tell_36 : decode cX11_tell 36 = .ok (.iload_n 1, 1) := by decide +kernel
theorem dX11_tell_37 : decode cX11_tell 37 = .ok (.iload_n 2, 1) := by decide +kernel
theorem dX11_tell_38 : decode cX11_tell 38 = .ok (.iload_n 3, 1) := by decide +kernel
theorem dX11_tell_39 : decode cX11_tell 39 = .ok (.invokevirtual 311, 3) := by decide +kernel
theorem dX11_tell_42 : decode cX11_tell 42 = .ok (.ireturn, 1) := by decide +kernel
theorem dX11_forget_0 : decode cX11_forget 0 = .ok (.aload_n 0, 1) := by decide +kernel
theorem dX11_forget_1 : decode cX11_forget 1 = .ok (.getfield 80, 3) := by decide +kernel
theorem dX11_forget_4 : decode cX11_forget 4 = .ok (.getfield 314, 3) := by decide +kernel
theorem dX11_forget_7 : decode cX11_forget 7 = .ok (.istore_n 1, 1) := by decide +kernel
theorem dX11_forget_8 : decode cX11_forget 8 = .ok (.aload_n 0, 1) := by decide +kernel
theorem dX11_forget_9 : decode cX11_forget 9 = .ok (.getfield 80, 3) := by decide +kernel
theorem dX11_forget_12 : decode cX11_forget 12 = .ok (.iconst 0, 1) := by decide +kernel
theorem dX11_forget_13 : decode cX11_forget 13 = .ok (.putfield 314, 3) := by decide +kernel
theorem dX11_forget_16 : decode cX11_forget 16 = .ok (.iload_n 1, 1) := by decide +kernel
theorem dX11_forget_17 : decode cX11_forget 17 = .ok (.ireturn, 1) := by decide +kernel
theorem dX11_slips_0 : decode cX11_slips 0 = .ok (.aload_n 0, 1) := by decide +kernel
theorem dX11_slips_1 : decode cX11_slips 1 = .ok (.iload_n 1, 1) := by decide +kernel
theorem dX11_slips_2 : decode cX11_slips 2 = .ok (.invokevirtual 167, 3) := by decide +kernel
theorem dX11_slips_5 : decode cX11_slips 5 = .ok (.ifCond .eq 23, 3) := by decide +kernel
theorem dX11_slips_8 : decode cX11_slips 8 = .ok (.iload_n 2, 1) := by decide +kernel
theorem dX11_slips_9 : decode cX11_slips 9 = .ok (.iconst 0, 1) := by decide +kernel
theorem dX11_slips_10 : decode cX11_slips 10 = .ok (.aload_n 0, 1) := by decide +kernel
theorem dX11_slips_11 : decode cX11_slips 11 = .ok (.getfield 80, 3) := by decide +kernel
theorem dX11_slips_14 : decode cX11_slips 14 = .ok (.getfield 314, 3) := by decide +kernel
theorem dX11_slips_17 : decode cX11_slips 17 = .ok (.invokestatic 112, 3) := by decide +kernel
theorem dX11_slips_20 : decode cX11_slips 20 = .ok (.ifCond .eq 8, 3) := by decide +kernel
theorem dX11_slips_23 : decode cX11_slips 23 = .ok (.iload_n 3, 1) := by decide +kernel
theorem dX11_slips_24 : decode cX11_slips 24 = .ok (.iconst (-1), 1) := by decide +kernel
theorem dX11_slips_25 : decode cX11_slips 25 = .ok (.if_icmp .ge 5, 3) := by decide +kernel
theorem dX11_slips_28 : decode cX11_slips 28 = .ok (.iconst (-1), 1) := by decide +kernel
theorem dX11_slips_29 : decode cX11_slips 29 = .ok (.ireturn, 1) := by decide +kernel
theorem dX11_slips_30 : decode cX11_slips 30 = .ok (.iconst 0, 1) := by decide +kernel
theorem dX11_slips_31 : decode cX11_slips 31 = .ok (.istore 4, 2) := by decide +kernel
theorem dX11_slips_33 : decode cX11_slips 33 = .ok (.bipush (-9), 2) := by decide +kernel
theorem dX11_slips_35 : decode cX11_slips 35 = .ok (.istore 5, 2) := by decide +kernel
theorem dX11_slips_37 : decode cX11_slips 37 = .ok (.iload 5, 2) := by decide +kernel
theorem dX11_slips_39 : decode cX11_slips 39 = .ok (.bipush 9, 2) := by decide +kernel
theorem dX11_slips_41 : decode cX11_slips 41 = .ok (.if_icmp .gt 38, 3) := by decide +kernel
theorem dX11_slips_44 : decode cX11_slips 44 = .ok (.aload_n 0, 1) := by decide +kernel
theorem dX11_slips_45 : decode cX11_slips 45 = .ok (.iload_n 1, 1) := by decide +kernel
theorem dX11_slips_46 : decode cX11_slips 46 = .ok (.iload_n 2, 1) := by decide +kernel
theorem dX11_slips_47 : decode cX11_slips 47 = .ok (.iload 5, 2) := by decide +kernel
theorem dX11_slips_49 : decode cX11_slips 49 = .ok (.invokevirtual 317, 3) := by decide +kernel
theorem dX11_slips_52 : decode cX11_slips 52 = .ok (.ifCond .ne 6, 3) := by decide +kernel
theorem dX11_slips_55 : decode cX11_slips 55 = .ok (.goto 18, 3) := by decide +kernel
theorem dX11_slips_58 : decode cX11_slips 58 = .ok (.iload 4, 2) := by decide +kernel
theorem dX11_slips_60 : decode cX11_slips 60 = .ok (.iload_n 3, 1) := by decide +kernel
theorem dX11_slips_61 : decode cX11_slips 61 = .ok (.if_icmp .ne 9, 3) := by decide +kernel
theorem dX11_slips_64 : decode cX11_slips 64 = .ok (.iload 5, 2) := by decide +kernel
theorem dX11_slips_66 : decode cX11_slips 66 = .ok (.bipush 9, 2) := by decide +kernel
theorem dX11_slips_68 : decode cX11_slips 68 = .ok (.iadd, 1) := by decide +kernel
theorem dX11_slips_69 : decode cX11_slips 69 = .ok (.ireturn, 1) := by decide +kernel
theorem dX11_slips_70 : decode cX11_slips 70 = .ok (.iinc 4 1, 3) := by decide +kernel
theorem dX11_slips_73 : decode cX11_slips 73 = .ok (.iinc 5 1, 3) := by decide +kernel
theorem dX11_slips_76 : decode cX11_slips 76 = .ok (.goto (-39), 3) := by decide +kernel
theorem dX11_slips_79 : decode cX11_slips 79 = .ok (.iload_n 3, 1) := by decide +kernel
theorem dX11_slips_80 : decode cX11_slips 80 = .ok (.iconst (-1), 1) := by decide +kernel
theorem dX11_slips_81 : decode cX11_slips 81 = .ok (.if_icmp .ne 8, 3) := by decide +kernel
theorem dX11_slips_84 : decode cX11_slips 84 = .ok (.iload 4, 2) := by decide +kernel
theorem dX11_slips_86 : decode cX11_slips 86 = .ok (.goto 4, 3) := by decide +kernel
theorem dX11_slips_89 : decode cX11_slips 89 = .ok (.iconst (-1), 1) := by decide +kernel
theorem dX11_slips_90 : decode cX11_slips 90 = .ok (.ireturn, 1) := by decide +kernel
theorem dX11_hold_0 : decode cX11_hold 0 = .ok (.aload_n 0, 1) := by decide +kernel
theorem dX11_hold_1 : decode cX11_hold 1 = .ok (.getfield 73, 3) := by decide +kernel
theorem dX11_hold_4 : decode cX11_hold 4 = .ok (.iload_n 1, 1) := by decide +kernel
theorem dX11_hold_5 : decode cX11_hold 5 = .ok (.aload_n 0, 1) := by decide +kernel
theorem dX11_hold_6 : decode cX11_hold 6 = .ok (.getfield 56, 3) := by decide +kernel
theorem dX11_hold_9 : decode cX11_hold 9 = .ok (.invokevirtual 320, 3) := by decide +kernel
theorem dX11_hold_12 : decode cX11_hold 12 = .ok (.ireturn, 1) := by decide +kernel
theorem dX11_restore_0 : decode cX11_restore 0 = .ok (.aload_n 0, 1) := by decide +kernel
theorem dX11_restore_1 : decode cX11_restore 1 = .ok (.getfield 73, 3) := by decide +kernel
theorem dX11_restore_4 : decode cX11_restore 4 = .ok (.iload_n 1, 1) := by decide +kernel
theorem dX11_restore_5 : decode cX11_restore 5 = .ok (.aload_n 0, 1) := by decide +kernel
theorem dX11_restore_6 : decode cX11_restore 6 = .ok (.getfield 56, 3) := by decide +kernel
theorem dX11_restore_9 : decode cX11_restore 9 = .ok (.invokevirtual 324, 3) := by decide +kernel
theorem dX11_restore_12 : decode cX11_restore 12 = .ok (.ifCond .ne 5, 3) := by decide +kernel
theorem dX11_restore_15 : decode cX11_restore 15 = .ok (.iconst 0, 1) := by decide +kernel
theorem dX11_restore_16 : decode cX11_restore 16 = .ok (.ireturn, 1) := by decide +kernel
theorem dX11_restore_17 : decode cX11_restore 17 = .ok (.aload_n 0, 1) := by decide +kernel
theorem dX11_restore_18 : decode cX11_restore 18 = .ok (.getfield 66, 3) := by decide +kernel
theorem dX11_restore_21 : decode cX11_restore 21 = .ok (.invokevirtual 327, 3) := by decide +kernel
theorem dX11_restore_24 : decode cX11_restore 24 = .ok (.iconst 1, 1) := by decide +kernel
theorem dX11_restore_25 : decode cX11_restore 25 = .ok (.ireturn, 1) := by decide +kernel
theorem dX11_count_0 : decode cX11_count 0 = .ok (.iload_n 1, 1) := by decide +kernel
theorem dX11_count_1 : decode cX11_count 1 = .ok (.tableswitch 184 0 12 #[67, 78, 89, 97, 105, 113, 121, 129, 144, 152, 160, 168, 176], 67) := by decide +kernel
theorem dX11_count_68 : decode cX11_count 68 = .ok (.aload_n 0, 1) := by decide +kernel
theorem dX11_count_69 : decode cX11_count 69 = .ok (.getfield 41, 3) := by decide +kernel
theorem dX11_count_72 : decode cX11_count 72 = .ok (.getfield 216, 3) := by decide +kernel
theorem dX11_count_75 : decode cX11_count 75 = .ok (.getfield 239, 3) := by decide +kernel
theorem dX11_count_78 : decode cX11_count 78 = .ok (.ireturn, 1) := by decide +kernel
theorem dX11_count_79 : decode cX11_count 79 = .ok (.aload_n 0, 1) := by decide +kernel
theorem dX11_count_80 : decode cX11_count 80 = .ok (.getfield 41, 3) := by decide +kernel
theorem dX11_count_83 : decode cX11_count 83 = .ok (.getfield 216, 3) := by decide +kernel
theorem dX11_count_86 : decode cX11_count 86 = .ok (.getfield 299, 3) := by decide +kernel
theorem dX11_count_89 : decode cX11_count 89 = .ok (.ireturn, 1) := by decide +kernel
theorem dX11_count_90 : decode cX11_count 90 = .ok (.aload_n 0, 1) := by decide +kernel
theorem dX11_count_91 : decode cX11_count 91 = .ok (.getfield 41, 3) := by decide +kernel
theorem dX11_count_94 : decode cX11_count 94 = .ok (.getfield 328, 3) := by decide +kernel
theorem dX11_count_97 : decode cX11_count 97 = .ok (.ireturn, 1) := by decide +kernel
theorem dX11_count_98 : decode cX11_count 98 = .ok (.aload_n 0, 1) := by decide +kernel
theorem dX11_count_99 : decode cX11_count 99 = .ok (.getfield 41, 3) := by decide +kernel
theorem dX11_count_102 : decode cX11_count 102 = .ok (.getfield 331, 3) := by decide +kernel
theorem dX11_count_105 : decode cX11_count 105 = .ok (.ireturn, 1) := by decide +kernel
theorem dX11_count_106 : decode cX11_count 106 = .ok (.aload_n 0, 1) := by decide +kernel
theorem dX11_count_107 : decode cX11_count 107 = .ok (.getfield 41, 3) := by decide +kernel
theorem dX11_count_110 : decode cX11_count 110 = .ok (.getfield 334, 3) := by decide +kernel
theorem dX11_count_113 : decode cX11_count 113 = .ok (.ireturn, 1) := by decide +kernel
theorem dX11_count_114 : decode cX11_count 114 = .ok (.aload_n 0, 1) := by decide +kernel
theorem dX11_count_115 : decode cX11_count 115 = .ok (.getfield 41, 3) := by decide +kernel
theorem dX11_count_118 : decode cX11_count 118 = .ok (.getfield 188, 3) := by decide +kernel
theorem dX11_count_121 : decode cX11_count 121 = .ok (.ireturn, 1) := by decide +kernel
theorem dX11_count_122 : decode cX11_count 122 = .ok (.aload_n 0, 1) := by decide +kernel
theorem dX11_count_123 : decode cX11_count 123 = .ok (.getfield 41, 3) := by decide +kernel
theorem dX11_count_126 : decode cX11_count 126 = .ok (.getfield 337, 3) := by decide +kernel
theorem dX11_count_129 : decode cX11_count 129 = .ok (.ireturn, 1) := by decide +kernel
theorem dX11_count_130 : decode cX11_count 130 = .ok (.aload_n 0, 1) := by decide +kernel
theorem dX11_count_131 : decode cX11_count 131 = .ok (.getfield 56, 3) := by decide +kernel
theorem dX11_count_134 : decode cX11_count 134 = .ok (.aload_n 0, 1) := by decide +kernel
theorem dX11_count_135 : decode cX11_count 135 = .ok (.getfield 41, 3) := by decide +kernel
theorem dX11_count_138 : decode cX11_count 138 = .ok (.getfield 331, 3) := by decide +kernel
theorem dX11_count_141 : decode cX11_count 141 = .ok (.invokevirtual 340, 3) := by decide +kernel
theorem dX11_count_144 : decode cX11_count 144 = .ok (.ireturn, 1) := by decide +kernel
theorem dX11_count_145 : decode cX11_count 145 = .ok (.aload_n 0, 1) := by decide +kernel
theorem dX11_count_146 : decode cX11_count 146 = .ok (.getfield 10, 3) := by decide +kernel
theorem dX11_count_149 : decode cX11_count 149 = .ok (.getfield 109, 3) := by decide +kernel
theorem dX11_count_152 : decode cX11_count 152 = .ok (.ireturn, 1) := by decide +kernel
theorem dX11_count_153 : decode cX11_count 153 = .ok (.aload_n 0, 1) := by decide +kernel
theorem dX11_count_154 : decode cX11_count 154 = .ok (.getfield 66, 3) := by decide +kernel
theorem dX11_count_157 : decode cX11_count 157 = .ok (.getfield 343, 3) := by decide +kernel
theorem dX11_count_160 : decode cX11_count 160 = .ok (.ireturn, 1) := by decide +kernel
theorem dX11_count_161 : decode cX11_count 161 = .ok (.aload_n 0, 1) := by decide +kernel
theorem dX11_count_162 : decode cX11_count 162 = .ok (.getfield 80, 3) := by decide +kernel
theorem dX11_count_165 : decode cX11_count 165 = .ok (.getfield 314, 3) := by decide +kernel
theorem dX11_count_168 : decode cX11_count 168 = .ok (.ireturn, 1) := by decide +kernel
theorem dX11_count_169 : decode cX11_count 169 = .ok (.aload_n 0, 1) := by decide +kernel
theorem dX11_count_170 : decode cX11_count 170 = .ok (.getfield 73, 3) := by decide +kernel
theorem dX11_count_173 : decode cX11_count 173 = .ok (.invokevirtual 344, 3) := by decide +kernel
theorem dX11_count_176 : decode cX11_count 176 = .ok (.ireturn, 1) := by decide +kernel
theorem dX11_count_177 : decode cX11_count 177 = .ok (.aload_n 0, 1) := by decide +kernel
theorem dX11_count_178 : decode cX11_count 178 = .ok (.getfield 56, 3) := by decide +kernel
theorem dX11_count_181 : decode cX11_count 181 = .ok (.invokevirtual 347, 3) := by decide +kernel
theorem dX11_count_184 : decode cX11_count 184 = .ok (.ireturn, 1) := by decide +kernel
theorem dX11_count_185 : decode cX11_count 185 = .ok (.iconst (-1), 1) := by decide +kernel
theorem dX11_count_186 : decode cX11_count 186 = .ok (.ireturn, 1) := by decide +kernel
theorem dX11_within_0 : decode cX11_within 0 = .ok (.iload_n 0, 1) := by decide +kernel
theorem dX11_within_1 : decode cX11_within 1 = .ok (.iload_n 1, 1) := by decide +kernel
theorem dX11_within_2 : decode cX11_within 2 = .ok (.if_icmp .lt 12, 3) := by decide +kernel
theorem dX11_within_5 : decode cX11_within 5 = .ok (.iload_n 0, 1) := by decide +kernel
theorem dX11_within_6 : decode cX11_within 6 = .ok (.iload_n 2, 1) := by decide +kernel
theorem dX11_within_7 : decode cX11_within 7 = .ok (.if_icmp .gt 7, 3) := by decide +kernel
theorem dX11_within_10 : decode cX11_within 10 = .ok (.iconst 1, 1) := by decide +kernel
theorem dX11_within_11 : decode cX11_within 11 = .ok (.goto 4, 3) := by decide +kernel
theorem dX11_within_14 : decode cX11_within 14 = .ok (.iconst 0, 1) := by decide +kernel
theorem dX11_within_15 : decode cX11_within 15 = .ok (.ireturn, 1) := by decide +kernel
theorem dX11_held_0 : decode cX11_held 0 = .ok (.iload_n 1, 1) := by decide +kernel
theorem dX11_held_1 : decode cX11_held 1 = .ok (.iload_n 2, 1) := by decide +kernel
theorem dX11_held_2 : decode cX11_held 2 = .ok (.iload_n 0, 1) := by decide +kernel
theorem dX11_held_3 : decode cX11_held 3 = .ok (.invokestatic 287, 3) := by decide +kernel
theorem dX11_held_6 : decode cX11_held 6 = .ok (.invokestatic 282, 3) := by decide +kernel
theorem dX11_held_9 : decode cX11_held 9 = .ok (.ireturn, 1) := by decide +kernel
theorem dX11_rankAmong_0 : decode cX11_rankAmong 0 = .ok (.iconst 0, 1) := by decide +kernel
theorem dX11_rankAmong_1 : decode cX11_rankAmong 1 = .ok (.istore_n 3, 1) := by decide +kernel
theorem dX11_rankAmong_2 : decode cX11_rankAmong 2 = .ok (.iconst 0, 1) := by decide +kernel
theorem dX11_rankAmong_3 : decode cX11_rankAmong 3 = .ok (.istore 4, 2) := by decide +kernel
theorem dX11_rankAmong_5 : decode cX11_rankAmong 5 = .ok (.iload 4, 2) := by decide +kernel
theorem dX11_rankAmong_7 : decode cX11_rankAmong 7 = .ok (.iload_n 1, 1) := by decide +kernel
theorem dX11_rankAmong_8 : decode cX11_rankAmong 8 = .ok (.if_icmp .ge 50, 3) := by decide +kernel
theorem dX11_rankAmong_11 : decode cX11_rankAmong 11 = .ok (.aload_n 0, 1) := by decide +kernel
theorem dX11_rankAmong_12 : decode cX11_rankAmong 12 = .ok (.iload 4, 2) := by decide +kernel
theorem dX11_rankAmong_14 : decode cX11_rankAmong 14 = .ok (.iaload, 1) := by decide +kernel
theorem dX11_rankAmong_15 : decode cX11_rankAmong 15 = .ok (.aload_n 0, 1) := by decide +kernel
theorem dX11_rankAmong_16 : decode cX11_rankAmong 16 = .ok (.iload_n 2, 1) := by decide +kernel
theorem dX11_rankAmong_17 : decode cX11_rankAmong 17 = .ok (.iaload, 1) := by decide +kernel
theorem dX11_rankAmong_18 : decode cX11_rankAmong 18 = .ok (.if_icmp .gt 19, 3) := by decide +kernel
theorem dX11_rankAmong_21 : decode cX11_rankAmong 21 = .ok (.aload_n 0, 1) := by decide +kernel
theorem dX11_rankAmong_22 : decode cX11_rankAmong 22 = .ok (.iload 4, 2) := by decide +kernel
theorem dX11_rankAmong_24 : decode cX11_rankAmong 24 = .ok (.iaload, 1) := by decide +kernel
theorem dX11_rankAmong_25 : decode cX11_rankAmong 25 = .ok (.aload_n 0, 1) := by decide +kernel
theorem dX11_rankAmong_26 : decode cX11_rankAmong 26 = .ok (.iload_n 2, 1) := by decide +kernel
theorem dX11_rankAmong_27 : decode cX11_rankAmong 27 = .ok (.iaload, 1) := by decide +kernel
theorem dX11_rankAmong_28 : decode cX11_rankAmong 28 = .ok (.if_icmp .ne 13, 3) := by decide +kernel
theorem dX11_rankAmong_31 : decode cX11_rankAmong 31 = .ok (.iload 4, 2) := by decide +kernel
theorem dX11_rankAmong_33 : decode cX11_rankAmong 33 = .ok (.iload_n 2, 1) := by decide +kernel
theorem dX11_rankAmong_34 : decode cX11_rankAmong 34 = .ok (.if_icmp .ge 7, 3) := by decide +kernel
theorem dX11_rankAmong_37 : decode cX11_rankAmong 37 = .ok (.iconst 1, 1) := by decide +kernel
theorem dX11_rankAmong_38 : decode cX11_rankAmong 38 = .ok (.goto 4, 3) := by decide +kernel
theorem dX11_rankAmong_41 : decode cX11_rankAmong 41 = .ok (.iconst 0, 1) := by decide +kernel
theorem dX11_rankAmong_42 : decode cX11_rankAmong 42 = .ok (.istore 5, 2) := by decide +kernel
theorem dX11_rankAmong_44 : decode cX11_rankAmong 44 = .ok (.iload 5, 2) := by decide +kernel
theorem dX11_rankAmong_46 : decode cX11_rankAmong 46 = .ok (.ifCond .eq 6, 3) := by decide +kernel
theorem dX11_rankAmong_49 : decode cX11_rankAmong 49 = .ok (.iinc 3 1, 3) := by decide +kernel
theorem dX11_rankAmong_52 : decode cX11_rankAmong 52 = .ok (.iinc 4 1, 3) := by decide +kernel
theorem dX11_rankAmong_55 : decode cX11_rankAmong 55 = .ok (.goto (-50), 3) := by decide +kernel
theorem dX11_rankAmong_58 : decode cX11_rankAmong 58 = .ok (.iload_n 3, 1) := by decide +kernel
theorem dX11_rankAmong_59 : decode cX11_rankAmong 59 = .ok (.ireturn, 1) := by decide +kernel
theorem dX11_styleOf_0 : decode cX11_styleOf 0 = .ok (.iconst 0, 1) := by decide +kernel
theorem dX11_styleOf_1 : decode cX11_styleOf 1 = .ok (.istore 4, 2) := by decide +kernel
theorem dX11_styleOf_3 : decode cX11_styleOf 3 = .ok (.iconst 0, 1) := by decide +kernel
theorem dX11_styleOf_4 : decode cX11_styleOf 4 = .ok (.istore 5, 2) := by decide +kernel
theorem dX11_styleOf_6 : decode cX11_styleOf 6 = .ok (.iconst 0, 1) := by decide +kernel
theorem dX11_styleOf_7 : decode cX11_styleOf 7 = .ok (.istore 6, 2) := by decide +kernel
theorem dX11_styleOf_9 : decode cX11_styleOf 9 = .ok (.iconst 0, 1) := by decide +kernel
theorem dX11_styleOf_10 : decode cX11_styleOf 10 = .ok (.istore 7, 2) := by decide +kernel
theorem dX11_styleOf_12 : decode cX11_styleOf 12 = .ok (.iconst 0, 1) := by decide +kernel
theorem dX11_styleOf_13 : decode cX11_styleOf 13 = .ok (.istore 8, 2) := by decide +kernel
theorem dX11_styleOf_15 : decode cX11_styleOf 15 = .ok (.iload 8, 2) := by decide +kernel
theorem dX11_styleOf_17 : decode cX11_styleOf 17 = .ok (.iload_n 2, 1) := by decide +kernel
theorem dX11_styleOf_18 : decode cX11_styleOf 18 = .ok (.if_icmp .ge 83, 3) := by decide +kernel
theorem dX11_styleOf_21 : decode cX11_styleOf 21 = .ok (.iload_n 1, 1) := by decide +kernel
theorem dX11_styleOf_22 : decode cX11_styleOf 22 = .ok (.iload 8, 2) := by decide +kernel
theorem dX11_styleOf_24 : decode cX11_styleOf 24 = .ok (.iadd, 1) := by decide +kernel
theorem dX11_styleOf_25 : decode cX11_styleOf 25 = .ok (.aload_n 0, 1) := by decide +kernel
theorem dX11_styleOf_26 : decode cX11_styleOf 26 = .ok (.arraylength, 1) := by decide +kernel
theorem dX11_styleOf_27 : decode cX11_styleOf 27 = .ok (.if_icmp .ge 74, 3) := by decide +kernel
theorem dX11_styleOf_30 : decode cX11_styleOf 30 = .ok (.iload 8, 2) := by decide +kernel
theorem dX11_styleOf_32 : decode cX11_styleOf 32 = .ok (.iload_n 3, 1) := by decide +kernel
theorem dX11_styleOf_33 : decode cX11_styleOf 33 = .ok (.if_icmp .ne 6, 3) := by decide +kernel
theorem dX11_styleOf_36 : decode cX11_styleOf 36 = .ok (.goto 59, 3) := by decide +kernel
theorem dX11_styleOf_39 : decode cX11_styleOf 39 = .ok (.aload_n 0, 1) := by decide +kernel
theorem dX11_styleOf_40 : decode cX11_styleOf 40 = .ok (.iload_n 1, 1) := by decide +kernel
theorem dX11_styleOf_41 : decode cX11_styleOf 41 = .ok (.iload 8, 2) := by decide +kernel
theorem dX11_styleOf_43 : decode cX11_styleOf 43 = .ok (.iadd, 1) := by decide +kernel
theorem dX11_styleOf_44 : decode cX11_styleOf 44 = .ok (.iaload, 1) := by decide +kernel
theorem dX11_styleOf_45 : decode cX11_styleOf 45 = .ok (.istore 9, 2) := by decide +kernel
theorem dX11_styleOf_47 : decode cX11_styleOf 47 = .ok (.iload 5, 2) := by decide +kernel
theorem dX11_styleOf_49 : decode cX11_styleOf 49 = .ok (.ifCond .ne 8, 3) := by decide +kernel
theorem dX11_styleOf_52 : decode cX11_styleOf 52 = .ok (.iload 9, 2) := by decide +kernel
theorem dX11_styleOf_54 : decode cX11_styleOf 54 = .ok (.goto 10, 3) := by decide +kernel
theorem dX11_styleOf_57 : decode cX11_styleOf 57 = .ok (.iload 6, 2) := by decide +kernel
theorem dX11_styleOf_59 : decode cX11_styleOf 59 = .ok (.iload 9, 2) := by decide +kernel
theorem dX11_styleOf_61 : decode cX11_styleOf 61 = .ok (.invokestatic 282, 3) := by decide +kernel
theorem dX11_styleOf_64 : decode cX11_styleOf 64 = .ok (.istore 6, 2) := by decide +kernel
theorem dX11_styleOf_66 : decode cX11_styleOf 66 = .ok (.iload 5, 2) := by decide +kernel
theorem dX11_styleOf_68 : decode cX11_styleOf 68 = .ok (.ifCond .ne 8, 3) := by decide +kernel
theorem dX11_styleOf_71 : decode cX11_styleOf 71 = .ok (.iload 9, 2) := by decide +kernel
theorem dX11_styleOf_73 : decode cX11_styleOf 73 = .ok (.goto 10, 3) := by decide +kernel
theorem dX11_styleOf_76 : decode cX11_styleOf 76 = .ok (.iload 7, 2) := by decide +kernel
theorem dX11_styleOf_78 : decode cX11_styleOf 78 = .ok (.iload 9, 2) := by decide +kernel
theorem dX11_styleOf_80 : decode cX11_styleOf 80 = .ok (.invokestatic 287, 3) := by decide +kernel
theorem dX11_styleOf_83 : decode cX11_styleOf 83 = .ok (.istore 7, 2) := by decide +kernel
theorem dX11_styleOf_85 : decode cX11_styleOf 85 = .ok (.iload 4, 2) := by decide +kernel
theorem dX11_styleOf_87 : decode cX11_styleOf 87 = .ok (.iload 9, 2) := by decide +kernel
theorem dX11_styleOf_89 : decode cX11_styleOf 89 = .ok (.iadd, 1) := by decide +kernel
theorem dX11_styleOf_90 : decode cX11_styleOf 90 = .ok (.istore 4, 2) := by decide +kernel
theorem dX11_styleOf_92 : decode cX11_styleOf 92 = .ok (.iinc 5 1, 3) := by decide +kernel
theorem dX11_styleOf_95 : decode cX11_styleOf 95 = .ok (.iinc 8 1, 3) := by decide +kernel
theorem dX11_styleOf_98 : decode cX11_styleOf 98 = .ok (.goto (-83), 3) := by decide +kernel
theorem dX11_styleOf_101 : decode cX11_styleOf 101 = .ok (.iload 5, 2) := by decide +kernel
theorem dX11_styleOf_103 : decode cX11_styleOf 103 = .ok (.iconst 3, 1) := by decide +kernel
theorem dX11_styleOf_104 : decode cX11_styleOf 104 = .ok (.if_icmp .lt 14, 3) := by decide +kernel
theorem dX11_styleOf_107 : decode cX11_styleOf 107 = .ok (.iload 4, 2) := by decide +kernel
theorem dX11_styleOf_109 : decode cX11_styleOf 109 = .ok (.iload 6, 2) := by decide +kernel
theorem dX11_styleOf_111 : decode cX11_styleOf 111 = .ok (.isub, 1) := by decide +kernel
theorem dX11_styleOf_112 : decode cX11_styleOf 112 = .ok (.iload 7, 2) := by decide +kernel
theorem dX11_styleOf_114 : decode cX11_styleOf 114 = .ok (.isub, 1) := by decide +kernel
theorem dX11_styleOf_115 : decode cX11_styleOf 115 = .ok (.goto 5, 3) := by decide +kernel
theorem dX11_styleOf_118 : decode cX11_styleOf 118 = .ok (.iload 4, 2) := by decide +kernel
theorem dX11_styleOf_120 : decode cX11_styleOf 120 = .ok (.ireturn, 1) := by decide +kernel
theorem dX11_isMan_0 : decode cX11_isMan 0 = .ok (.iload_n 1, 1) := by decide +kernel
theorem dX11_isMan_1 : decode cX11_isMan 1 = .ok (.iconst 0, 1) := by decide +kernel
theorem dX11_isMan_2 : decode cX11_isMan 2 = .ok (.aload_n 0, 1) := by decide +kernel
theorem dX11_isMan_3 : decode cX11_isMan 3 = .ok (.getfield 41, 3) := by decide +kernel
theorem dX11_isMan_6 : decode cX11_isMan 6 = .ok (.getfield 216, 3) := by decide +kernel
theorem dX11_isMan_9 : decode cX11_isMan 9 = .ok (.getfield 239, 3) := by decide +kernel
theorem dX11_isMan_12 : decode cX11_isMan 12 = .ok (.iconst 1, 1) := by decide +kernel
theorem dX11_isMan_13 : decode cX11_isMan 13 = .ok (.isub, 1) := by decide +kernel
theorem dX11_isMan_14 : decode cX11_isMan 14 = .ok (.invokestatic 112, 3) := by decide +kernel
theorem dX11_isMan_17 : decode cX11_isMan 17 = .ok (.ireturn, 1) := by decide +kernel
theorem dX11_isJudge_0 : decode cX11_isJudge 0 = .ok (.iload_n 1, 1) := by decide +kernel
theorem dX11_isJudge_1 : decode cX11_isJudge 1 = .ok (.iconst 0, 1) := by decide +kernel
theorem dX11_isJudge_2 : decode cX11_isJudge 2 = .ok (.aload_n 0, 1) := by decide +kernel
theorem dX11_isJudge_3 : decode cX11_isJudge 3 = .ok (.getfield 41, 3) := by decide +kernel
theorem dX11_isJudge_6 : decode cX11_isJudge 6 = .ok (.getfield 216, 3) := by decide +kernel
theorem dX11_isJudge_9 : decode cX11_isJudge 9 = .ok (.getfield 299, 3) := by decide +kernel
theorem dX11_isJudge_12 : decode cX11_isJudge 12 = .ok (.iconst 1, 1) := by decide +kernel
theorem dX11_isJudge_13 : decode cX11_isJudge 13 = .ok (.isub, 1) := by decide +kernel
theorem dX11_isJudge_14 : decode cX11_isJudge 14 = .ok (.invokestatic 112, 3) := by decide +kernel
theorem dX11_isJudge_17 : decode cX11_isJudge 17 = .ok (.ireturn, 1) := by decide +kernel
theorem dX11_isGate_0 : decode cX11_isGate 0 = .ok (.iload_n 0, 1) := by decide +kernel
theorem dX11_isGate_1 : decode cX11_isGate 1 = .ok (.iconst 0, 1) := by decide +kernel
theorem dX11_isGate_2 : decode cX11_isGate 2 = .ok (.bipush 40, 2) := by decide +kernel
theorem dX11_isGate_4 : decode cX11_isGate 4 = .ok (.invokestatic 112, 3) := by decide +kernel
theorem dX11_isGate_7 : decode cX11_isGate 7 = .ok (.ireturn, 1) := by decide +kernel
theorem dX11_isLate_0 : decode cX11_isLate 0 = .ok (.iload_n 0, 1) := by decide +kernel
theorem dX11_isLate_1 : decode cX11_isLate 1 = .ok (.bipush (-9), 2) := by decide +kernel
theorem dX11_isLate_3 : decode cX11_isLate 3 = .ok (.bipush 9, 2) := by decide +kernel
theorem dX11_isLate_5 : decode cX11_isLate 5 = .ok (.invokestatic 112, 3) := by decide +kernel
theorem dX11_isLate_8 : decode cX11_isLate 8 = .ok (.ireturn, 1) := by decide +kernel
theorem dX11_beginAnew_0 : decode cX11_beginAnew 0 = .ok (.aload_n 0, 1) := by decide +kernel
theorem dX11_beginAnew_1 : decode cX11_beginAnew 1 = .ok (.getfield 49, 3) := by decide +kernel
theorem dX11_beginAnew_4 : decode cX11_beginAnew 4 = .ok (.aload_n 0, 1) := by decide +kernel
theorem dX11_beginAnew_5 : decode cX11_beginAnew 5 = .ok (.getfield 41, 3) := by decide +kernel
theorem dX11_beginAnew_8 : decode cX11_beginAnew 8 = .ok (.getfield 249, 3) := by decide +kernel
theorem dX11_beginAnew_11 : decode cX11_beginAnew 11 = .ok (.putfield 252, 3) := by decide +kernel
theorem dX11_beginAnew_14 : decode cX11_beginAnew 14 = .ok (.aload_n 0, 1) := by decide +kernel
theorem dX11_beginAnew_15 : decode cX11_beginAnew 15 = .ok (.getfield 56, 3) := by decide +kernel
theorem dX11_beginAnew_18 : decode cX11_beginAnew 18 = .ok (.invokevirtual 293, 3) := by decide +kernel
theorem dX11_beginAnew_21 : decode cX11_beginAnew 21 = .ok (.aload_n 0, 1) := by decide +kernel
theorem dX11_beginAnew_22 : decode cX11_beginAnew 22 = .ok (.getfield 66, 3) := by decide +kernel
theorem dX11_beginAnew_25 : decode cX11_beginAnew 25 = .ok (.invokevirtual 327, 3) := by decide +kernel
theorem dX11_beginAnew_28 : decode cX11_beginAnew 28 = .ok (.aload_n 0, 1) := by decide +kernel
theorem dX11_beginAnew_29 : decode cX11_beginAnew 29 = .ok (.getfield 73, 3) := by decide +kernel
theorem dX11_beginAnew_32 : decode cX11_beginAnew 32 = .ok (.invokevirtual 350, 3) := by decide +kernel
theorem dX11_beginAnew_35 : decode cX11_beginAnew 35 = .ok (.aload_n 0, 1) := by decide +kernel
theorem dX11_beginAnew_36 : decode cX11_beginAnew 36 = .ok (.getfield 80, 3) := by decide +kernel
theorem dX11_beginAnew_39 : decode cX11_beginAnew 39 = .ok (.iconst 0, 1) := by decide +kernel
theorem dX11_beginAnew_40 : decode cX11_beginAnew 40 = .ok (.putfield 314, 3) := by decide +kernel
theorem dX11_beginAnew_43 : decode cX11_beginAnew 43 = .ok (.return_, 1) := by decide +kernel
theorem dX11_startByGoes_0 : decode cX11_startByGoes 0 = .ok (.iconst 0, 1) := by decide +kernel
theorem dX11_startByGoes_1 : decode cX11_startByGoes 1 = .ok (.istore_n 3, 1) := by decide +kernel
theorem dX11_startByGoes_2 : decode cX11_startByGoes 2 = .ok (.iconst 0, 1) := by decide +kernel
theorem dX11_startByGoes_3 : decode cX11_startByGoes 3 = .ok (.istore 4, 2) := by decide +kernel
theorem dX11_startByGoes_5 : decode cX11_startByGoes 5 = .ok (.iload 4, 2) := by decide +kernel
theorem dX11_startByGoes_7 : decode cX11_startByGoes 7 = .ok (.iload_n 2, 1) := by decide +kernel
theorem dX11_startByGoes_8 : decode cX11_startByGoes 8 = .ok (.if_icmp .ge 43, 3) := by decide +kernel
theorem dX11_startByGoes_11 : decode cX11_startByGoes 11 = .ok (.aload_n 1, 1) := by decide +kernel
theorem dX11_startByGoes_12 : decode cX11_startByGoes 12 = .ok (.invokevirtual 135, 3) := by decide +kernel
theorem dX11_startByGoes_15 : decode cX11_startByGoes 15 = .ok (.bipush (-2), 2) := by decide +kernel
theorem dX11_startByGoes_17 : decode cX11_startByGoes 17 = .ok (.if_icmp .eq 34, 3) := by decide +kernel
theorem dX11_startByGoes_20 : decode cX11_startByGoes 20 = .ok (.aload_n 0, 1) := by decide +kernel
theorem dX11_startByGoes_21 : decode cX11_startByGoes 21 = .ok (.aload_n 1, 1) := by decide +kernel
theorem dX11_startByGoes_22 : decode cX11_startByGoes 22 = .ok (.aload_n 1, 1) := by decide +kernel
theorem dX11_startByGoes_23 : decode cX11_startByGoes 23 = .ok (.getfield 126, 3) := by decide +kernel
theorem dX11_startByGoes_26 : decode cX11_startByGoes 26 = .ok (.aload_n 0, 1) := by decide +kernel
theorem dX11_startByGoes_27 : decode cX11_startByGoes 27 = .ok (.aload_n 1, 1) := by decide +kernel
theorem dX11_startByGoes_28 : decode cX11_startByGoes 28 = .ok (.invokevirtual 135, 3) := by decide +kernel
theorem dX11_startByGoes_31 : decode cX11_startByGoes 31 = .ok (.aload_n 1, 1) := by decide +kernel
theorem dX11_startByGoes_32 : decode cX11_startByGoes 32 = .ok (.getfield 126, 3) := by decide +kernel
theorem dX11_startByGoes_35 : decode cX11_startByGoes 35 = .ok (.invokevirtual 351, 3) := by decide +kernel
theorem dX11_startByGoes_38 : decode cX11_startByGoes 38 = .ok (.iadd, 1) := by decide +kernel
theorem dX11_startByGoes_39 : decode cX11_startByGoes 39 = .ok (.invokevirtual 191, 3) := by decide +kernel
theorem dX11_startByGoes_42 : decode cX11_startByGoes 42 = .ok (.iinc 3 1, 3) := by decide +kernel
theorem dX11_startByGoes_45 : decode cX11_startByGoes 45 = .ok (.iinc 4 1, 3) := by decide +kernel
theorem dX11_startByGoes_48 : decode cX11_startByGoes 48 = .ok (.goto (-43), 3) := by decide +kernel
theorem dX11_startByGoes_51 : decode cX11_startByGoes 51 = .ok (.iload_n 3, 1) := by decide +kernel
theorem dX11_startByGoes_52 : decode cX11_startByGoes 52 = .ok (.ireturn, 1) := by decide +kernel
theorem dX11_waitByGoes_0 : decode cX11_waitByGoes 0 = .ok (.iconst 0, 1) := by decide +kernel
theorem dX11_waitByGoes_1 : decode cX11_waitByGoes 1 = .ok (.istore_n 3, 1) := by decide +kernel
theorem dX11_waitByGoes_2 : decode cX11_waitByGoes 2 = .ok (.iload_n 3, 1) := by decide +kernel
theorem dX11_waitByGoes_3 : decode cX11_waitByGoes 3 = .ok (.aload_n 0, 1) := by decide +kernel
theorem dX11_waitByGoes_4 : decode cX11_waitByGoes 4 = .ok (.getfield 41, 3) := by decide +kernel
theorem dX11_waitByGoes_7 : decode cX11_waitByGoes 7 = .ok (.getfield 188, 3) := by decide +kernel
theorem dX11_waitByGoes_10 : decode cX11_waitByGoes 10 = .ok (.if_icmp .ge 33, 3) := by decide +kernel
theorem dX11_waitByGoes_13 : decode cX11_waitByGoes 13 = .ok (.aload_n 0, 1) := by decide +kernel
theorem dX11_waitByGoes_14 : decode cX11_waitByGoes 14 = .ok (.getfield 49, 3) := by decide +kernel
theorem dX11_waitByGoes_17 : decode cX11_waitByGoes 17 = .ok (.iload_n 2, 1) := by decide +kernel
theorem dX11_waitByGoes_18 : decode cX11_waitByGoes 18 = .ok (.iload_n 3, 1) := by decide +kernel
theorem dX11_waitByGoes_19 : decode cX11_waitByGoes 19 = .ok (.iadd, 1) := by decide +kernel
theorem dX11_waitByGoes_20 : decode cX11_waitByGoes 20 = .ok (.invokevirtual 142, 3) := by decide +kernel
theorem dX11_waitByGoes_23 : decode cX11_waitByGoes 23 = .ok (.aload_n 0, 1) := by decide +kernel
theorem dX11_waitByGoes_24 : decode cX11_waitByGoes 24 = .ok (.getfield 49, 3) := by decide +kernel
theorem dX11_waitByGoes_27 : decode cX11_waitByGoes 27 = .ok (.iload_n 1, 1) := by decide +kernel
theorem dX11_waitByGoes_28 : decode cX11_waitByGoes 28 = .ok (.iload_n 3, 1) := by decide +kernel
theorem dX11_waitByGoes_29 : decode cX11_waitByGoes 29 = .ok (.invokevirtual 354, 3) := by decide +kernel
theorem dX11_waitByGoes_32 : decode cX11_waitByGoes 32 = .ok (.ifCond .eq 5, 3) := by decide +kernel
theorem dX11_waitByGoes_35 : decode cX11_waitByGoes 35 = .ok (.iload_n 3, 1) := by decide +kernel
theorem dX11_waitByGoes_36 : decode cX11_waitByGoes 36 = .ok (.ireturn, 1) := by decide +kernel
theorem dX11_waitByGoes_37 : decode cX11_waitByGoes 37 = .ok (.iinc 3 1, 3) := by decide +kernel
theorem dX11_waitByGoes_40 : decode cX11_waitByGoes 40 = .ok (.goto (-38), 3) := by decide +kernel
theorem dX11_waitByGoes_43 : decode cX11_waitByGoes 43 = .ok (.aload_n 0, 1) := by decide +kernel
theorem dX11_waitByGoes_44 : decode cX11_waitByGoes 44 = .ok (.getfield 41, 3) := by decide +kernel
theorem dX11_waitByGoes_47 : decode cX11_waitByGoes 47 = .ok (.getfield 188, 3) := by decide +kernel
theorem dX11_waitByGoes_50 : decode cX11_waitByGoes 50 = .ok (.ireturn, 1) := by decide +kernel
theorem dX11_launch_0 : decode cX11_launch 0 = .ok (.aload_n 1, 1) := by decide +kernel
theorem dX11_launch_1 : decode cX11_launch 1 = .ok (.invokevirtual 135, 3) := by decide +kernel
theorem dX11_launch_4 : decode cX11_launch 4 = .ok (.istore_n 3, 1) := by decide +kernel
theorem dX11_launch_5 : decode cX11_launch 5 = .ok (.aload_n 0, 1) := by decide +kernel
theorem dX11_launch_6 : decode cX11_launch 6 = .ok (.getfield 49, 3) := by decide +kernel
theorem dX11_launch_9 : decode cX11_launch 9 = .ok (.iload_n 3, 1) := by decide +kernel
theorem dX11_launch_10 : decode cX11_launch 10 = .ok (.iload_n 2, 1) := by decide +kernel
theorem dX11_launch_11 : decode cX11_launch 11 = .ok (.invokevirtual 357, 3) := by decide +kernel
theorem dX11_launch_14 : decode cX11_launch 14 = .ok (.istore 4, 2) := by decide +kernel
theorem dX11_launch_16 : decode cX11_launch 16 = .ok (.aload_n 0, 1) := by decide +kernel
theorem dX11_launch_17 : decode cX11_launch 17 = .ok (.getfield 49, 3) := by decide +kernel
theorem dX11_launch_20 : decode cX11_launch 20 = .ok (.iload_n 2, 1) := by decide +kernel
theorem dX11_launch_21 : decode cX11_launch 21 = .ok (.invokevirtual 142, 3) := by decide +kernel
theorem dX11_launch_24 : decode cX11_launch 24 = .ok (.aload_n 0, 1) := by decide +kernel
theorem dX11_launch_25 : decode cX11_launch 25 = .ok (.getfield 49, 3) := by decide +kernel
theorem dX11_launch_28 : decode cX11_launch 28 = .ok (.iload_n 3, 1) := by decide +kernel
theorem dX11_launch_29 : decode cX11_launch 29 = .ok (.iload 4, 2) := by decide +kernel
theorem dX11_launch_31 : decode cX11_launch 31 = .ok (.aload_n 1, 1) := by decide +kernel
theorem dX11_launch_32 : decode cX11_launch 32 = .ok (.getfield 132, 3) := by decide +kernel
theorem dX11_launch_35 : decode cX11_launch 35 = .ok (.aload_n 1, 1) := by decide +kernel
theorem dX11_launch_36 : decode cX11_launch 36 = .ok (.getfield 139, 3) := by decide +kernel
theorem dX11_launch_39 : decode cX11_launch 39 = .ok (.invokevirtual 245, 3) := by decide +kernel
theorem dX11_launch_42 : decode cX11_launch 42 = .ok (.pop, 1) := by decide +kernel
theorem dX11_launch_43 : decode cX11_launch 43 = .ok (.aload_n 0, 1) := by decide +kernel
theorem dX11_launch_44 : decode cX11_launch 44 = .ok (.getfield 49, 3) := by decide +kernel
theorem dX11_launch_47 : decode cX11_launch 47 = .ok (.iload_n 3, 1) := by decide +kernel
theorem dX11_launch_48 : decode cX11_launch 48 = .ok (.iload 4, 2) := by decide +kernel
theorem dX11_launch_50 : decode cX11_launch 50 = .ok (.aload_n 1, 1) := by decide +kernel
theorem dX11_launch_51 : decode cX11_launch 51 = .ok (.getfield 132, 3) := by decide +kernel
theorem dX11_launch_54 : decode cX11_launch 54 = .ok (.invokevirtual 278, 3) := by decide +kernel
theorem dX11_launch_57 : decode cX11_launch 57 = .ok (.aload_n 1, 1) := by decide +kernel
theorem dX11_launch_58 : decode cX11_launch 58 = .ok (.iload_n 3, 1) := by decide +kernel
theorem dX11_launch_59 : decode cX11_launch 59 = .ok (.iload 4, 2) := by decide +kernel
theorem dX11_launch_61 : decode cX11_launch 61 = .ok (.iload_n 2, 1) := by decide +kernel
theorem dX11_launch_62 : decode cX11_launch 62 = .ok (.aload_n 0, 1) := by decide +kernel
theorem dX11_launch_63 : decode cX11_launch 63 = .ok (.getfield 49, 3) := by decide +kernel
theorem dX11_launch_66 : decode cX11_launch 66 = .ok (.invokevirtual 360, 3) := by decide +kernel
theorem dX11_launch_69 : decode cX11_launch 69 = .ok (.return_, 1) := by decide +kernel
theorem dX11_tryOut_0 : decode cX11_tryOut 0 = .ok (.aload_n 0, 1) := by decide +kernel
theorem dX11_tryOut_1 : decode cX11_tryOut 1 = .ok (.getfield 49, 3) := by decide +kernel
theorem dX11_tryOut_4 : decode cX11_tryOut 4 = .ok (.aload_n 0, 1) := by decide +kernel
theorem dX11_tryOut_5 : decode cX11_tryOut 5 = .ok (.getfield 56, 3) := by decide +kernel
theorem dX11_tryOut_8 : decode cX11_tryOut 8 = .ok (.getfield 126, 3) := by decide +kernel
theorem dX11_tryOut_11 : decode cX11_tryOut 11 = .ok (.iload_n 2, 1) := by decide +kernel
theorem dX11_tryOut_12 : decode cX11_tryOut 12 = .ok (.iadd, 1) := by decide +kernel
theorem dX11_tryOut_13 : decode cX11_tryOut 13 = .ok (.invokevirtual 142, 3) := by decide +kernel
theorem dX11_tryOut_16 : decode cX11_tryOut 16 = .ok (.aload_n 0, 1) := by decide +kernel
theorem dX11_tryOut_17 : decode cX11_tryOut 17 = .ok (.iload_n 1, 1) := by decide +kernel
theorem dX11_tryOut_18 : decode cX11_tryOut 18 = .ok (.iload_n 3, 1) := by decide +kernel
theorem dX11_tryOut_19 : decode cX11_tryOut 19 = .ok (.aload_n 0, 1) := by decide +kernel
theorem dX11_tryOut_20 : decode cX11_tryOut 20 = .ok (.getfield 56, 3) := by decide +kernel
theorem dX11_tryOut_23 : decode cX11_tryOut 23 = .ok (.getfield 132, 3) := by decide +kernel
theorem dX11_tryOut_26 : decode cX11_tryOut 26 = .ok (.aload_n 0, 1) := by decide +kernel
theorem dX11_tryOut_27 : decode cX11_tryOut 27 = .ok (.getfield 56, 3) := by decide +kernel
theorem dX11_tryOut_30 : decode cX11_tryOut 30 = .ok (.getfield 139, 3) := by decide +kernel
theorem dX11_tryOut_33 : decode cX11_tryOut 33 = .ok (.iload 4, 2) := by decide +kernel
theorem dX11_tryOut_35 : decode cX11_tryOut 35 = .ok (.invokevirtual 235, 3) := by decide +kernel
theorem dX11_tryOut_38 : decode cX11_tryOut 38 = .ok (.ireturn, 1) := by decide +kernel
theorem dX11_jumpNow_0 : decode cX11_jumpNow 0 = .ok (.aload_n 0, 1) := by decide +kernel
theorem dX11_jumpNow_1 : decode cX11_jumpNow 1 = .ok (.getfield 49, 3) := by decide +kernel
theorem dX11_jumpNow_4 : decode cX11_jumpNow 4 = .ok (.iload_n 1, 1) := by decide +kernel
theorem dX11_jumpNow_5 : decode cX11_jumpNow 5 = .ok (.iload_n 2, 1) := by decide +kernel
theorem dX11_jumpNow_6 : decode cX11_jumpNow 6 = .ok (.iload_n 3, 1) := by decide +kernel
theorem dX11_jumpNow_7 : decode cX11_jumpNow 7 = .ok (.iload 4, 2) := by decide +kernel
theorem dX11_jumpNow_9 : decode cX11_jumpNow 9 = .ok (.invokevirtual 245, 3) := by decide +kernel
theorem dX11_jumpNow_12 : decode cX11_jumpNow 12 = .ok (.pop, 1) := by decide +kernel
theorem dX11_jumpNow_13 : decode cX11_jumpNow 13 = .ok (.iload 5, 2) := by decide +kernel
theorem dX11_jumpNow_15 : decode cX11_jumpNow 15 = .ok (.ifCond .eq 13, 3) := by decide +kernel
theorem dX11_jumpNow_18 : decode cX11_jumpNow 18 = .ok (.aload_n 0, 1) := by decide +kernel
theorem dX11_jumpNow_19 : decode cX11_jumpNow 19 = .ok (.getfield 49, 3) := by decide +kernel
theorem dX11_jumpNow_22 : decode cX11_jumpNow 22 = .ok (.iload_n 1, 1) := by decide +kernel
theorem dX11_jumpNow_23 : decode cX11_jumpNow 23 = .ok (.iload_n 2, 1) := by decide +kernel
theorem dX11_jumpNow_24 : decode cX11_jumpNow 24 = .ok (.iload_n 3, 1) := by decide +kernel
theorem dX11_jumpNow_25 : decode cX11_jumpNow 25 = .ok (.invokevirtual 278, 3) := by decide +kernel
theorem dX11_jumpNow_28 : decode cX11_jumpNow 28 = .ok (.iload 5, 2) := by decide +kernel
theorem dX11_jumpNow_30 : decode cX11_jumpNow 30 = .ok (.ifCond .eq 13, 3) := by decide +kernel
theorem dX11_jumpNow_33 : decode cX11_jumpNow 33 = .ok (.aload_n 0, 1) := by decide +kernel
theorem dX11_jumpNow_34 : decode cX11_jumpNow 34 = .ok (.getfield 49, 3) := by decide +kernel
theorem dX11_jumpNow_37 : decode cX11_jumpNow 37 = .ok (.getfield 210, 3) := by decide +kernel
theorem dX11_jumpNow_40 : decode cX11_jumpNow 40 = .ok (.goto 10, 3) := by decide +kernel
theorem dX11_jumpNow_43 : decode cX11_jumpNow 43 = .ok (.aload_n 0, 1) := by decide +kernel
theorem dX11_jumpNow_44 : decode cX11_jumpNow 44 = .ok (.getfield 49, 3) := by decide +kernel
theorem dX11_jumpNow_47 : decode cX11_jumpNow 47 = .ok (.getfield 195, 3) := by decide +kernel
theorem dX11_jumpNow_50 : decode cX11_jumpNow 50 = .ok (.ireturn, 1) := by decide +kernel
