theorem dX1_init_0 : decode cX1_init 0 = .ok (.aload_n 0, 1) := by decide +kernel
theorem dX1_init_1 : decode cX1_init 1 = .ok (.invokespecial 3, 3) := by decide +kernel
theorem dX1_init_4 : decode cX1_init 4 = .ok (.aload_n 0, 1) := by decide +kernel
theorem dX1_init_5 : decode cX1_init 5 = .ok (.bipush 40, 2) := by decide +kernel
theorem dX1_init_7 : decode cX1_init 7 = .ok (.newarray .int, 2) := by decide +kernel
theorem dX1_init_9 : decode cX1_init 9 = .ok (.putfield 9, 3) := by decide +kernel
theorem dX1_init_12 : decode cX1_init 12 = .ok (.aload_n 0, 1) := by decide +kernel
theorem dX1_init_13 : decode cX1_init 13 = .ok (.iconst 0, 1) := by decide +kernel
theorem dX1_init_14 : decode cX1_init 14 = .ok (.putfield 15, 3) := by decide +kernel
theorem dX1_init_17 : decode cX1_init 17 = .ok (.aload_n 0, 1) := by decide +kernel
theorem dX1_init_18 : decode cX1_init 18 = .ok (.iconst (-1), 1) := by decide +kernel
theorem dX1_init_19 : decode cX1_init 19 = .ok (.putfield 19, 3) := by decide +kernel
theorem dX1_init_22 : decode cX1_init 22 = .ok (.return_, 1) := by decide +kernel
theorem dX1_isNothing_0 : decode cX1_isNothing 0 = .ok (.aload_n 0, 1) := by decide +kernel
theorem dX1_isNothing_1 : decode cX1_isNothing 1 = .ok (.getfield 19, 3) := by decide +kernel
theorem dX1_isNothing_4 : decode cX1_isNothing 4 = .ok (.ifCond .ge 7, 3) := by decide +kernel
theorem dX1_isNothing_7 : decode cX1_isNothing 7 = .ok (.iconst 1, 1) := by decide +kernel
theorem dX1_isNothing_8 : decode cX1_isNothing 8 = .ok (.goto 4, 3) := by decide +kernel
theorem dX1_isNothing_11 : decode cX1_isNothing 11 = .ok (.iconst 0, 1) := by decide +kernel
theorem dX1_isNothing_12 : decode cX1_isNothing 12 = .ok (.ireturn, 1) := by decide +kernel
theorem dX1_renew_0 : decode cX1_renew 0 = .ok (.aload_n 0, 1) := by decide +kernel
theorem dX1_renew_1 : decode cX1_renew 1 = .ok (.iload_n 1, 1) := by decide +kernel
theorem dX1_renew_2 : decode cX1_renew 2 = .ok (.putfield 15, 3) := by decide +kernel
theorem dX1_renew_5 : decode cX1_renew 5 = .ok (.aload_n 0, 1) := by decide +kernel
theorem dX1_renew_6 : decode cX1_renew 6 = .ok (.iload_n 2, 1) := by decide +kernel
theorem dX1_renew_7 : decode cX1_renew 7 = .ok (.putfield 19, 3) := by decide +kernel
theorem dX1_renew_10 : decode cX1_renew 10 = .ok (.iconst 0, 1) := by decide +kernel
theorem dX1_renew_11 : decode cX1_renew 11 = .ok (.istore_n 3, 1) := by decide +kernel
theorem dX1_renew_12 : decode cX1_renew 12 = .ok (.iload_n 3, 1) := by decide +kernel
theorem dX1_renew_13 : decode cX1_renew 13 = .ok (.bipush 40, 2) := by decide +kernel
theorem dX1_renew_15 : decode cX1_renew 15 = .ok (.if_icmp .ge 16, 3) := by decide +kernel
theorem dX1_renew_18 : decode cX1_renew 18 = .ok (.aload_n 0, 1) := by decide +kernel
theorem dX1_renew_19 : decode cX1_renew 19 = .ok (.getfield 9, 3) := by decide +kernel
theorem dX1_renew_22 : decode cX1_renew 22 = .ok (.iload_n 3, 1) := by decide +kernel
theorem dX1_renew_23 : decode cX1_renew 23 = .ok (.iconst 0, 1) := by decide +kernel
theorem dX1_renew_24 : decode cX1_renew 24 = .ok (.iastore, 1) := by decide +kernel
theorem dX1_renew_25 : decode cX1_renew 25 = .ok (.iinc 3 1, 3) := by decide +kernel
theorem dX1_renew_28 : decode cX1_renew 28 = .ok (.goto (-16), 3) := by decide +kernel
theorem dX1_renew_31 : decode cX1_renew 31 = .ok (.return_, 1) := by decide +kernel
theorem dX1_faultAt_0 : decode cX1_faultAt 0 = .ok (.aload_n 0, 1) := by decide +kernel
theorem dX1_faultAt_1 : decode cX1_faultAt 1 = .ok (.invokevirtual 22, 3) := by decide +kernel
theorem dX1_faultAt_4 : decode cX1_faultAt 4 = .ok (.ifCond .eq 5, 3) := by decide +kernel
theorem dX1_faultAt_7 : decode cX1_faultAt 7 = .ok (.iconst 1, 1) := by decide +kernel
theorem dX1_faultAt_8 : decode cX1_faultAt 8 = .ok (.ireturn, 1) := by decide +kernel
theorem dX1_faultAt_9 : decode cX1_faultAt 9 = .ok (.iload_n 1, 1) := by decide +kernel
theorem dX1_faultAt_10 : decode cX1_faultAt 10 = .ok (.iconst 0, 1) := by decide +kernel
theorem dX1_faultAt_11 : decode cX1_faultAt 11 = .ok (.aload_n 0, 1) := by decide +kernel
theorem dX1_faultAt_12 : decode cX1_faultAt 12 = .ok (.getfield 19, 3) := by decide +kernel
theorem dX1_faultAt_15 : decode cX1_faultAt 15 = .ok (.iconst 1, 1) := by decide +kernel
theorem dX1_faultAt_16 : decode cX1_faultAt 16 = .ok (.isub, 1) := by decide +kernel
theorem dX1_faultAt_17 : decode cX1_faultAt 17 = .ok (.invokestatic 26, 3) := by decide +kernel
theorem dX1_faultAt_20 : decode cX1_faultAt 20 = .ok (.ifCond .eq 7, 3) := by decide +kernel
theorem dX1_faultAt_23 : decode cX1_faultAt 23 = .ok (.iconst 0, 1) := by decide +kernel
theorem dX1_faultAt_24 : decode cX1_faultAt 24 = .ok (.goto 4, 3) := by decide +kernel
theorem dX1_faultAt_27 : decode cX1_faultAt 27 = .ok (.iconst 2, 1) := by decide +kernel
theorem dX1_faultAt_28 : decode cX1_faultAt 28 = .ok (.ireturn, 1) := by decide +kernel
theorem dX1_faultOfPair_0 : decode cX1_faultOfPair 0 = .ok (.aload_n 0, 1) := by decide +kernel
theorem dX1_faultOfPair_1 : decode cX1_faultOfPair 1 = .ok (.invokevirtual 22, 3) := by decide +kernel
theorem dX1_faultOfPair_4 : decode cX1_faultOfPair 4 = .ok (.ifCond .ne 13, 3) := by decide +kernel
theorem dX1_faultOfPair_7 : decode cX1_faultOfPair 7 = .ok (.aload_n 0, 1) := by decide +kernel
theorem dX1_faultOfPair_8 : decode cX1_faultOfPair 8 = .ok (.getfield 15, 3) := by decide +kernel
theorem dX1_faultOfPair_11 : decode cX1_faultOfPair 11 = .ok (.iload_n 1, 1) := by decide +kernel
theorem dX1_faultOfPair_12 : decode cX1_faultOfPair 12 = .ok (.if_icmp .eq 5, 3) := by decide +kernel
theorem dX1_faultOfPair_15 : decode cX1_faultOfPair 15 = .ok (.iconst 3, 1) := by decide +kernel
theorem dX1_faultOfPair_16 : decode cX1_faultOfPair 16 = .ok (.ireturn, 1) := by decide +kernel
theorem dX1_faultOfPair_17 : decode cX1_faultOfPair 17 = .ok (.aload_n 0, 1) := by decide +kernel
theorem dX1_faultOfPair_18 : decode cX1_faultOfPair 18 = .ok (.iload_n 2, 1) := by decide +kernel
theorem dX1_faultOfPair_19 : decode cX1_faultOfPair 19 = .ok (.invokevirtual 30, 3) := by decide +kernel
theorem dX1_faultOfPair_22 : decode cX1_faultOfPair 22 = .ok (.istore_n 3, 1) := by decide +kernel
theorem dX1_faultOfPair_23 : decode cX1_faultOfPair 23 = .ok (.iload_n 3, 1) := by decide +kernel
theorem dX1_faultOfPair_24 : decode cX1_faultOfPair 24 = .ok (.ifCond .eq 7, 3) := by decide +kernel
theorem dX1_faultOfPair_27 : decode cX1_faultOfPair 27 = .ok (.iload_n 3, 1) := by decide +kernel
theorem dX1_faultOfPair_28 : decode cX1_faultOfPair 28 = .ok (.goto 10, 3) := by decide +kernel
theorem dX1_faultOfPair_31 : decode cX1_faultOfPair 31 = .ok (.aload_n 0, 1) := by decide +kernel
theorem dX1_faultOfPair_32 : decode cX1_faultOfPair 32 = .ok (.iload_n 2, 1) := by decide +kernel
theorem dX1_faultOfPair_33 : decode cX1_faultOfPair 33 = .ok (.iconst 1, 1) := by decide +kernel
theorem dX1_faultOfPair_34 : decode cX1_faultOfPair 34 = .ok (.iadd, 1) := by decide +kernel
theorem dX1_faultOfPair_35 : decode cX1_faultOfPair 35 = .ok (.invokevirtual 30, 3) := by decide +kernel
theorem dX1_faultOfPair_38 : decode cX1_faultOfPair 38 = .ok (.ireturn, 1) := by decide +kernel
theorem dX1_write_0 : decode cX1_write 0 = .ok (.aload_n 0, 1) := by decide +kernel
theorem dX1_write_1 : decode cX1_write 1 = .ok (.getfield 15, 3) := by decide +kernel
theorem dX1_write_4 : decode cX1_write 4 = .ok (.lookupswitch 50 #[(0, 28), (1, 39)], 28) := by decide +kernel
theorem dX1_write_32 : decode cX1_write 32 = .ok (.aload_n 0, 1) := by decide +kernel
theorem dX1_write_33 : decode cX1_write 33 = .ok (.getfield 9, 3) := by decide +kernel
theorem dX1_write_36 : decode cX1_write 36 = .ok (.iload_n 1, 1) := by decide +kernel
theorem dX1_write_37 : decode cX1_write 37 = .ok (.iload_n 2, 1) := by decide +kernel
theorem dX1_write_38 : decode cX1_write 38 = .ok (.i2b, 1) := by decide +kernel
theorem dX1_write_39 : decode cX1_write 39 = .ok (.iastore, 1) := by decide +kernel
theorem dX1_write_40 : decode cX1_write 40 = .ok (.goto 21, 3) := by decide +kernel
theorem dX1_write_43 : decode cX1_write 43 = .ok (.aload_n 0, 1) := by decide +kernel
theorem dX1_write_44 : decode cX1_write 44 = .ok (.getfield 9, 3) := by decide +kernel
theorem dX1_write_47 : decode cX1_write 47 = .ok (.iload_n 1, 1) := by decide +kernel
theorem dX1_write_48 : decode cX1_write 48 = .ok (.iload_n 2, 1) := by decide +kernel
theorem dX1_write_49 : decode cX1_write 49 = .ok (.i2s, 1) := by decide +kernel
theorem dX1_write_50 : decode cX1_write 50 = .ok (.iastore, 1) := by decide +kernel
theorem dX1_write_51 : decode cX1_write 51 = .ok (.goto 10, 3) := by decide +kernel
theorem dX1_write_54 : decode cX1_write 54 = .ok (.aload_n 0, 1) := by decide +kernel
theorem dX1_write_55 : decode cX1_write 55 = .ok (.getfield 9, 3) := by decide +kernel
theorem dX1_write_58 : decode cX1_write 58 = .ok (.iload_n 1, 1) := by decide +kernel
theorem dX1_write_59 : decode cX1_write 59 = .ok (.iload_n 2, 1) := by decide +kernel
theorem dX1_write_60 : decode cX1_write 60 = .ok (.iastore, 1) := by decide +kernel
theorem dX1_write_61 : decode cX1_write 61 = .ok (.return_, 1) := by decide +kernel
