theorem dX0_init_0 : decode cX0_init 0 = .ok (.aload_n 0, 1) := by decide +kernel
theorem dX0_init_1 : decode cX0_init 1 = .ok (.invokespecial 3, 3) := by decide +kernel
theorem dX0_init_4 : decode cX0_init 4 = .ok (.aload_n 0, 1) := by decide +kernel
theorem dX0_init_5 : decode cX0_init 5 = .ok (.iconst 0, 1) := by decide +kernel
theorem dX0_init_6 : decode cX0_init 6 = .ok (.putfield 9, 3) := by decide +kernel
theorem dX0_init_9 : decode cX0_init 9 = .ok (.aload_n 0, 1) := by decide +kernel
theorem dX0_init_10 : decode cX0_init 10 = .ok (.iconst 0, 1) := by decide +kernel
theorem dX0_init_11 : decode cX0_init 11 = .ok (.putfield 15, 3) := by decide +kernel
theorem dX0_init_14 : decode cX0_init 14 = .ok (.aload_n 0, 1) := by decide +kernel
theorem dX0_init_15 : decode cX0_init 15 = .ok (.iconst 0, 1) := by decide +kernel
theorem dX0_init_16 : decode cX0_init 16 = .ok (.putfield 18, 3) := by decide +kernel
theorem dX0_init_19 : decode cX0_init 19 = .ok (.aload_n 0, 1) := by decide +kernel
theorem dX0_init_20 : decode cX0_init 20 = .ok (.iconst 0, 1) := by decide +kernel
theorem dX0_init_21 : decode cX0_init 21 = .ok (.putfield 21, 3) := by decide +kernel
theorem dX0_init_24 : decode cX0_init 24 = .ok (.return_, 1) := by decide +kernel
theorem dX0_ofTenant_0 : decode cX0_ofTenant 0 = .ok (.aload_n 0, 1) := by decide +kernel
theorem dX0_ofTenant_1 : decode cX0_ofTenant 1 = .ok (.getfield 9, 3) := by decide +kernel
theorem dX0_ofTenant_4 : decode cX0_ofTenant 4 = .ok (.aload_n 0, 1) := by decide +kernel
theorem dX0_ofTenant_5 : decode cX0_ofTenant 5 = .ok (.getfield 15, 3) := by decide +kernel
theorem dX0_ofTenant_8 : decode cX0_ofTenant 8 = .ok (.isub, 1) := by decide +kernel
theorem dX0_ofTenant_9 : decode cX0_ofTenant 9 = .ok (.aload_n 0, 1) := by decide +kernel
theorem dX0_ofTenant_10 : decode cX0_ofTenant 10 = .ok (.getfield 18, 3) := by decide +kernel
theorem dX0_ofTenant_13 : decode cX0_ofTenant 13 = .ok (.isub, 1) := by decide +kernel
theorem dX0_ofTenant_14 : decode cX0_ofTenant 14 = .ok (.aload_n 0, 1) := by decide +kernel
theorem dX0_ofTenant_15 : decode cX0_ofTenant 15 = .ok (.getfield 21, 3) := by decide +kernel
theorem dX0_ofTenant_18 : decode cX0_ofTenant 18 = .ok (.iadd, 1) := by decide +kernel
theorem dX0_ofTenant_19 : decode cX0_ofTenant 19 = .ok (.ireturn, 1) := by decide +kernel
theorem dX0_amount_0 : decode cX0_amount 0 = .ok (.iload_n 1, 1) := by decide +kernel
theorem dX0_amount_1 : decode cX0_amount 1 = .ok (.tableswitch 42 0 2 #[27, 32, 37], 27) := by decide +kernel
theorem dX0_amount_28 : decode cX0_amount 28 = .ok (.aload_n 0, 1) := by decide +kernel
theorem dX0_amount_29 : decode cX0_amount 29 = .ok (.getfield 9, 3) := by decide +kernel
theorem dX0_amount_32 : decode cX0_amount 32 = .ok (.ireturn, 1) := by decide +kernel
theorem dX0_amount_33 : decode cX0_amount 33 = .ok (.aload_n 0, 1) := by decide +kernel
theorem dX0_amount_34 : decode cX0_amount 34 = .ok (.getfield 15, 3) := by decide +kernel
theorem dX0_amount_37 : decode cX0_amount 37 = .ok (.ireturn, 1) := by decide +kernel
theorem dX0_amount_38 : decode cX0_amount 38 = .ok (.aload_n 0, 1) := by decide +kernel
theorem dX0_amount_39 : decode cX0_amount 39 = .ok (.getfield 18, 3) := by decide +kernel
theorem dX0_amount_42 : decode cX0_amount 42 = .ok (.ireturn, 1) := by decide +kernel
theorem dX0_amount_43 : decode cX0_amount 43 = .ok (.aload_n 0, 1) := by decide +kernel
theorem dX0_amount_44 : decode cX0_amount 44 = .ok (.getfield 21, 3) := by decide +kernel
theorem dX0_amount_47 : decode cX0_amount 47 = .ok (.ireturn, 1) := by decide +kernel
theorem dX1_init_0 : decode cX1_init 0 = .ok (.aload_n 0, 1) := by decide +kernel
theorem dX1_init_1 : decode cX1_init 1 = .ok (.invokespecial 3, 3) := by decide +kernel
theorem dX1_init_4 : decode cX1_init 4 = .ok (.aload_n 0, 1) := by decide +kernel
theorem dX1_init_5 : decode cX1_init 5 = .ok (.new 9, 3) := by decide +kernel
theorem dX1_init_8 : decode cX1_init 8 = .ok (.dup, 1) := by decide +kernel
theorem dX1_init_9 : decode cX1_init 9 = .ok (.iconst (-1), 1) := by decide +kernel
theorem dX1_init_10 : decode cX1_init 10 = .ok (.invokespecial 11, 3) := by decide +kernel
theorem dX1_init_13 : decode cX1_init 13 = .ok (.putfield 14, 3) := by decide +kernel
theorem dX1_init_16 : decode cX1_init 16 = .ok (.aload_n 0, 1) := by decide +kernel
theorem dX1_init_17 : decode cX1_init 17 = .ok (.new 9, 3) := by decide +kernel
theorem dX1_init_20 : decode cX1_init 20 = .ok (.dup, 1) := by decide +kernel
theorem dX1_init_21 : decode cX1_init 21 = .ok (.iconst 0, 1) := by decide +kernel
theorem dX1_init_22 : decode cX1_init 22 = .ok (.invokespecial 11, 3) := by decide +kernel
theorem dX1_init_25 : decode cX1_init 25 = .ok (.putfield 20, 3) := by decide +kernel
theorem dX1_init_28 : decode cX1_init 28 = .ok (.aload_n 0, 1) := by decide +kernel
theorem dX1_init_29 : decode cX1_init 29 = .ok (.iconst 0, 1) := by decide +kernel
theorem dX1_init_30 : decode cX1_init 30 = .ok (.putfield 23, 3) := by decide +kernel
theorem dX1_init_33 : decode cX1_init 33 = .ok (.aload_n 0, 1) := by decide +kernel
theorem dX1_init_34 : decode cX1_init 34 = .ok (.iconst 0, 1) := by decide +kernel
theorem dX1_init_35 : decode cX1_init 35 = .ok (.putfield 27, 3) := by decide +kernel
theorem dX1_init_38 : decode cX1_init 38 = .ok (.aload_n 0, 1) := by decide +kernel
theorem dX1_init_39 : decode cX1_init 39 = .ok (.iconst (-1), 1) := by decide +kernel
theorem dX1_init_40 : decode cX1_init 40 = .ok (.putfield 30, 3) := by decide +kernel
theorem dX1_init_43 : decode cX1_init 43 = .ok (.aload_n 0, 1) := by decide +kernel
theorem dX1_init_44 : decode cX1_init 44 = .ok (.iload_n 1, 1) := by decide +kernel
theorem dX1_init_45 : decode cX1_init 45 = .ok (.putfield 33, 3) := by decide +kernel
theorem dX1_init_48 : decode cX1_init 48 = .ok (.return_, 1) := by decide +kernel
theorem dX1_readMeter_0 : decode cX1_readMeter 0 = .ok (.iload_n 1, 1) := by decide +kernel
theorem dX1_readMeter_1 : decode cX1_readMeter 1 = .ok (.aload_n 0, 1) := by decide +kernel
theorem dX1_readMeter_2 : decode cX1_readMeter 2 = .ok (.getfield 23, 3) := by decide +kernel
theorem dX1_readMeter_5 : decode cX1_readMeter 5 = .ok (.isub, 1) := by decide +kernel
theorem dX1_readMeter_6 : decode cX1_readMeter 6 = .ok (.istore_n 3, 1) := by decide +kernel
theorem dX1_readMeter_7 : decode cX1_readMeter 7 = .ok (.aload_n 0, 1) := by decide +kernel
theorem dX1_readMeter_8 : decode cX1_readMeter 8 = .ok (.iload_n 1, 1) := by decide +kernel
theorem dX1_readMeter_9 : decode cX1_readMeter 9 = .ok (.putfield 23, 3) := by decide +kernel
theorem dX1_readMeter_12 : decode cX1_readMeter 12 = .ok (.aload_n 0, 1) := by decide +kernel
theorem dX1_readMeter_13 : decode cX1_readMeter 13 = .ok (.iload_n 2, 1) := by decide +kernel
theorem dX1_readMeter_14 : decode cX1_readMeter 14 = .ok (.putfield 30, 3) := by decide +kernel
theorem dX1_readMeter_17 : decode cX1_readMeter 17 = .ok (.iload_n 3, 1) := by decide +kernel
theorem dX1_readMeter_18 : decode cX1_readMeter 18 = .ok (.ireturn, 1) := by decide +kernel
theorem dX1_findUse_0 : decode cX1_findUse 0 = .ok (.aload_n 0, 1) := by decide +kernel
theorem dX1_findUse_1 : decode cX1_findUse 1 = .ok (.getfield 30, 3) := by decide +kernel
theorem dX1_findUse_4 : decode cX1_findUse 4 = .ok (.iload_n 1, 1) := by decide +kernel
theorem dX1_findUse_5 : decode cX1_findUse 5 = .ok (.if_icmp .ne 19, 3) := by decide +kernel
theorem dX1_findUse_8 : decode cX1_findUse 8 = .ok (.iconst 0, 1) := by decide +kernel
theorem dX1_findUse_9 : decode cX1_findUse 9 = .ok (.aload_n 0, 1) := by decide +kernel
theorem dX1_findUse_10 : decode cX1_findUse 10 = .ok (.getfield 23, 3) := by decide +kernel
theorem dX1_findUse_13 : decode cX1_findUse 13 = .ok (.aload_n 0, 1) := by decide +kernel
theorem dX1_findUse_14 : decode cX1_findUse 14 = .ok (.getfield 27, 3) := by decide +kernel
theorem dX1_findUse_17 : decode cX1_findUse 17 = .ok (.isub, 1) := by decide +kernel
theorem dX1_findUse_18 : decode cX1_findUse 18 = .ok (.invokestatic 36, 3) := by decide +kernel
theorem dX1_findUse_21 : decode cX1_findUse 21 = .ok (.goto 8, 3) := by decide +kernel
theorem dX1_findUse_24 : decode cX1_findUse 24 = .ok (.aload_n 0, 1) := by decide +kernel
theorem dX1_findUse_25 : decode cX1_findUse 25 = .ok (.iload_n 1, 1) := by decide +kernel
theorem dX1_findUse_26 : decode cX1_findUse 26 = .ok (.invokevirtual 42, 3) := by decide +kernel
theorem dX1_findUse_29 : decode cX1_findUse 29 = .ok (.istore_n 2, 1) := by decide +kernel
theorem dX1_findUse_30 : decode cX1_findUse 30 = .ok (.aload_n 0, 1) := by decide +kernel
theorem dX1_findUse_31 : decode cX1_findUse 31 = .ok (.getfield 14, 3) := by decide +kernel
theorem dX1_findUse_34 : decode cX1_findUse 34 = .ok (.iload_n 1, 1) := by decide +kernel
theorem dX1_findUse_35 : decode cX1_findUse 35 = .ok (.iload_n 2, 1) := by decide +kernel
theorem dX1_findUse_36 : decode cX1_findUse 36 = .ok (.invokevirtual 46, 3) := by decide +kernel
theorem dX1_findUse_39 : decode cX1_findUse 39 = .ok (.aload_n 0, 1) := by decide +kernel
theorem dX1_findUse_40 : decode cX1_findUse 40 = .ok (.dup, 1) := by decide +kernel
theorem dX1_findUse_41 : decode cX1_findUse 41 = .ok (.getfield 27, 3) := by decide +kernel
theorem dX1_findUse_44 : decode cX1_findUse 44 = .ok (.iload_n 2, 1) := by decide +kernel
theorem dX1_findUse_45 : decode cX1_findUse 45 = .ok (.iadd, 1) := by decide +kernel
theorem dX1_findUse_46 : decode cX1_findUse 46 = .ok (.putfield 27, 3) := by decide +kernel
theorem dX1_findUse_49 : decode cX1_findUse 49 = .ok (.return_, 1) := by decide +kernel
theorem dX1_guessedUse_0 : decode cX1_guessedUse 0 = .ok (.iconst 0, 1) := by decide +kernel
theorem dX1_guessedUse_1 : decode cX1_guessedUse 1 = .ok (.istore_n 2, 1) := by decide +kernel
theorem dX1_guessedUse_2 : decode cX1_guessedUse 2 = .ok (.iconst 0, 1) := by decide +kernel
theorem dX1_guessedUse_3 : decode cX1_guessedUse 3 = .ok (.istore_n 3, 1) := by decide +kernel
theorem dX1_guessedUse_4 : decode cX1_guessedUse 4 = .ok (.iconst 1, 1) := by decide +kernel
theorem dX1_guessedUse_5 : decode cX1_guessedUse 5 = .ok (.istore 4, 2) := by decide +kernel
theorem dX1_guessedUse_7 : decode cX1_guessedUse 7 = .ok (.iload 4, 2) := by decide +kernel
theorem dX1_guessedUse_9 : decode cX1_guessedUse 9 = .ok (.iconst 3, 1) := by decide +kernel
theorem dX1_guessedUse_10 : decode cX1_guessedUse 10 = .ok (.if_icmp .gt 36, 3) := by decide +kernel
theorem dX1_guessedUse_13 : decode cX1_guessedUse 13 = .ok (.aload_n 0, 1) := by decide +kernel
theorem dX1_guessedUse_14 : decode cX1_guessedUse 14 = .ok (.getfield 14, 3) := by decide +kernel
theorem dX1_guessedUse_17 : decode cX1_guessedUse 17 = .ok (.iload_n 1, 1) := by decide +kernel
theorem dX1_guessedUse_18 : decode cX1_guessedUse 18 = .ok (.iload 4, 2) := by decide +kernel
theorem dX1_guessedUse_20 : decode cX1_guessedUse 20 = .ok (.isub, 1) := by decide +kernel
theorem dX1_guessedUse_21 : decode cX1_guessedUse 21 = .ok (.invokevirtual 50, 3) := by decide +kernel
theorem dX1_guessedUse_24 : decode cX1_guessedUse 24 = .ok (.istore 5, 2) := by decide +kernel
theorem dX1_guessedUse_26 : decode cX1_guessedUse 26 = .ok (.iload 5, 2) := by decide +kernel
theorem dX1_guessedUse_28 : decode cX1_guessedUse 28 = .ok (.iconst (-1), 1) := by decide +kernel
theorem dX1_guessedUse_29 : decode cX1_guessedUse 29 = .ok (.if_icmp .eq 11, 3) := by decide +kernel
theorem dX1_guessedUse_32 : decode cX1_guessedUse 32 = .ok (.iload_n 2, 1) := by decide +kernel
theorem dX1_guessedUse_33 : decode cX1_guessedUse 33 = .ok (.iload 5, 2) := by decide +kernel
theorem dX1_guessedUse_35 : decode cX1_guessedUse 35 = .ok (.iadd, 1) := by decide +kernel
theorem dX1_guessedUse_36 : decode cX1_guessedUse 36 = .ok (.istore_n 2, 1) := by decide +kernel
theorem dX1_guessedUse_37 : decode cX1_guessedUse 37 = .ok (.iinc 3 1, 3) := by decide +kernel
theorem dX1_guessedUse_40 : decode cX1_guessedUse 40 = .ok (.iinc 4 1, 3) := by decide +kernel
theorem dX1_guessedUse_43 : decode cX1_guessedUse 43 = .ok (.goto (-36), 3) := by decide +kernel
theorem dX1_guessedUse_46 : decode cX1_guessedUse 46 = .ok (.iload_n 3, 1) := by decide +kernel
theorem dX1_guessedUse_47 : decode cX1_guessedUse 47 = .ok (.ifCond .ne 7, 3) := by decide +kernel
theorem dX1_guessedUse_50 : decode cX1_guessedUse 50 = .ok (.iconst 0, 1) := by decide +kernel
theorem dX1_guessedUse_51 : decode cX1_guessedUse 51 = .ok (.goto 6, 3) := by decide +kernel
theorem dX1_guessedUse_54 : decode cX1_guessedUse 54 = .ok (.iload_n 2, 1) := by decide +kernel
theorem dX1_guessedUse_55 : decode cX1_guessedUse 55 = .ok (.iload_n 3, 1) := by decide +kernel
theorem dX1_guessedUse_56 : decode cX1_guessedUse 56 = .ok (.idiv, 1) := by decide +kernel
theorem dX1_guessedUse_57 : decode cX1_guessedUse 57 = .ok (.ireturn, 1) := by decide +kernel
theorem dX2_init_0 : decode cX2_init 0 = .ok (.aload_n 0, 1) := by decide +kernel
theorem dX2_init_1 : decode cX2_init 1 = .ok (.invokespecial 1, 3) := by decide +kernel
theorem dX2_init_4 : decode cX2_init 4 = .ok (.aload_n 0, 1) := by decide +kernel
theorem dX2_init_5 : decode cX2_init 5 = .ok (.iconst 0, 1) := by decide +kernel
theorem dX2_init_6 : decode cX2_init 6 = .ok (.putfield 7, 3) := by decide +kernel
theorem dX2_init_9 : decode cX2_init 9 = .ok (.aload_n 0, 1) := by decide +kernel
theorem dX2_init_10 : decode cX2_init 10 = .ok (.iconst 0, 1) := by decide +kernel
theorem dX2_init_11 : decode cX2_init 11 = .ok (.putfield 13, 3) := by decide +kernel
theorem dX2_init_14 : decode cX2_init 14 = .ok (.aload_n 0, 1) := by decide +kernel
theorem dX2_init_15 : decode cX2_init 15 = .ok (.lconst 0, 1) := by decide +kernel
theorem dX2_init_16 : decode cX2_init 16 = .ok (.putfield 16, 3) := by decide +kernel
theorem dX2_init_19 : decode cX2_init 19 = .ok (.return_, 1) := by decide +kernel
theorem dX2_takeWhole_0 : decode cX2_takeWhole 0 = .ok (.lload_n 2, 1) := by decide +kernel
theorem dX2_takeWhole_1 : decode cX2_takeWhole 1 = .ok (.lconst 0, 1) := by decide +kernel
theorem dX2_takeWhole_2 : decode cX2_takeWhole 2 = .ok (.lcmp, 1) := by decide +kernel
theorem dX2_takeWhole_3 : decode cX2_takeWhole 3 = .ok (.ifCond .gt 5, 3) := by decide +kernel
theorem dX2_takeWhole_6 : decode cX2_takeWhole 6 = .ok (.iconst 0, 1) := by decide +kernel
theorem dX2_takeWhole_7 : decode cX2_takeWhole 7 = .ok (.ireturn, 1) := by decide +kernel
theorem dX2_takeWhole_8 : decode cX2_takeWhole 8 = .ok (.iload_n 1, 1) := by decide +kernel
theorem dX2_takeWhole_9 : decode cX2_takeWhole 9 = .ok (.i2l, 1) := by decide +kernel
theorem dX2_takeWhole_10 : decode cX2_takeWhole 10 = .ok (.aload_n 0, 1) := by decide +kernel
theorem dX2_takeWhole_11 : decode cX2_takeWhole 11 = .ok (.getfield 13, 3) := by decide +kernel
theorem dX2_takeWhole_14 : decode cX2_takeWhole 14 = .ok (.i2l, 1) := by decide +kernel
theorem dX2_takeWhole_15 : decode cX2_takeWhole 15 = .ok (.lmul, 1) := by decide +kernel
theorem dX2_takeWhole_16 : decode cX2_takeWhole 16 = .ok (.lstore 4, 2) := by decide +kernel
theorem dX2_takeWhole_18 : decode cX2_takeWhole 18 = .ok (.lload 4, 2) := by decide +kernel
theorem dX2_takeWhole_20 : decode cX2_takeWhole 20 = .ok (.lload_n 2, 1) := by decide +kernel
theorem dX2_takeWhole_21 : decode cX2_takeWhole 21 = .ok (.ldiv, 1) := by decide +kernel
theorem dX2_takeWhole_22 : decode cX2_takeWhole 22 = .ok (.l2i, 1) := by decide +kernel
theorem dX2_takeWhole_23 : decode cX2_takeWhole 23 = .ok (.istore 6, 2) := by decide +kernel
theorem dX2_takeWhole_25 : decode cX2_takeWhole 25 = .ok (.aload_n 0, 1) := by decide +kernel
theorem dX2_takeWhole_26 : decode cX2_takeWhole 26 = .ok (.lload 4, 2) := by decide +kernel
theorem dX2_takeWhole_28 : decode cX2_takeWhole 28 = .ok (.lload_n 2, 1) := by decide +kernel
theorem dX2_takeWhole_29 : decode cX2_takeWhole 29 = .ok (.lrem, 1) := by decide +kernel
theorem dX2_takeWhole_30 : decode cX2_takeWhole 30 = .ok (.putfield 16, 3) := by decide +kernel
theorem dX2_takeWhole_33 : decode cX2_takeWhole 33 = .ok (.aload_n 0, 1) := by decide +kernel
theorem dX2_takeWhole_34 : decode cX2_takeWhole 34 = .ok (.dup, 1) := by decide +kernel
theorem dX2_takeWhole_35 : decode cX2_takeWhole 35 = .ok (.getfield 7, 3) := by decide +kernel
theorem dX2_takeWhole_38 : decode cX2_takeWhole 38 = .ok (.iload 6, 2) := by decide +kernel
theorem dX2_takeWhole_40 : decode cX2_takeWhole 40 = .ok (.iadd, 1) := by decide +kernel
theorem dX2_takeWhole_41 : decode cX2_takeWhole 41 = .ok (.putfield 7, 3) := by decide +kernel
theorem dX2_takeWhole_44 : decode cX2_takeWhole 44 = .ok (.iload 6, 2) := by decide +kernel
theorem dX2_takeWhole_46 : decode cX2_takeWhole 46 = .ok (.ireturn, 1) := by decide +kernel
theorem dX2_isAheadOf_0 : decode cX2_isAheadOf 0 = .ok (.aload_n 0, 1) := by decide +kernel
theorem dX2_isAheadOf_1 : decode cX2_isAheadOf 1 = .ok (.getfield 16, 3) := by decide +kernel
theorem dX2_isAheadOf_4 : decode cX2_isAheadOf 4 = .ok (.aload_n 1, 1) := by decide +kernel
theorem dX2_isAheadOf_5 : decode cX2_isAheadOf 5 = .ok (.getfield 16, 3) := by decide +kernel
theorem dX2_isAheadOf_8 : decode cX2_isAheadOf 8 = .ok (.lcmp, 1) := by decide +kernel
theorem dX2_isAheadOf_9 : decode cX2_isAheadOf 9 = .ok (.ifCond .le 7, 3) := by decide +kernel
theorem dX2_isAheadOf_12 : decode cX2_isAheadOf 12 = .ok (.iconst 1, 1) := by decide +kernel
theorem dX2_isAheadOf_13 : decode cX2_isAheadOf 13 = .ok (.goto 4, 3) := by decide +kernel
theorem dX2_isAheadOf_16 : decode cX2_isAheadOf 16 = .ok (.iconst 0, 1) := by decide +kernel
theorem dX2_isAheadOf_17 : decode cX2_isAheadOf 17 = .ok (.ireturn, 1) := by decide +kernel
theorem dX2_takeOneMore_0 : decode cX2_takeOneMore 0 = .ok (.aload_n 0, 1) := by decide +kernel
theorem dX2_takeOneMore_1 : decode cX2_takeOneMore 1 = .ok (.dup, 1) := by decide +kernel
theorem dX2_takeOneMore_2 : decode cX2_takeOneMore 2 = .ok (.getfield 7, 3) := by decide +kernel
theorem dX2_takeOneMore_5 : decode cX2_takeOneMore 5 = .ok (.iconst 1, 1) := by decide +kernel
theorem dX2_takeOneMore_6 : decode cX2_takeOneMore 6 = .ok (.iadd, 1) := by decide +kernel
theorem dX2_takeOneMore_7 : decode cX2_takeOneMore 7 = .ok (.putfield 7, 3) := by decide +kernel
theorem dX2_takeOneMore_10 : decode cX2_takeOneMore 10 = .ok (.aload_n 0, 1) := by decide +kernel
theorem dX2_takeOneMore_11 : decode cX2_takeOneMore 11 = .ok (.lconst 0, 1) := by decide +kernel
theorem dX2_takeOneMore_12 : decode cX2_takeOneMore 12 = .ok (.putfield 16, 3) := by decide +kernel
theorem dX2_takeOneMore_15 : decode cX2_takeOneMore 15 = .ok (.return_, 1) := by decide +kernel
theorem dX3_init_0 : decode cX3_init 0 = .ok (.aload_n 0, 1) := by decide +kernel
theorem dX3_init_1 : decode cX3_init 1 = .ok (.invokespecial 3, 3) := by decide +kernel
theorem dX3_init_4 : decode cX3_init 4 = .ok (.aload_n 0, 1) := by decide +kernel
theorem dX3_init_5 : decode cX3_init 5 = .ok (.iconst (-1), 1) := by decide +kernel
theorem dX3_init_6 : decode cX3_init 6 = .ok (.putfield 9, 3) := by decide +kernel
theorem dX3_init_9 : decode cX3_init 9 = .ok (.aload_n 0, 1) := by decide +kernel
theorem dX3_init_10 : decode cX3_init 10 = .ok (.new 15, 3) := by decide +kernel
theorem dX3_init_13 : decode cX3_init 13 = .ok (.dup, 1) := by decide +kernel
theorem dX3_init_14 : decode cX3_init 14 = .ok (.iconst (-1), 1) := by decide +kernel
theorem dX3_init_15 : decode cX3_init 15 = .ok (.invokespecial 17, 3) := by decide +kernel
theorem dX3_init_18 : decode cX3_init 18 = .ok (.putfield 20, 3) := by decide +kernel
theorem dX3_init_21 : decode cX3_init 21 = .ok (.aload_n 0, 1) := by decide +kernel
theorem dX3_init_22 : decode cX3_init 22 = .ok (.new 24, 3) := by decide +kernel
theorem dX3_init_25 : decode cX3_init 25 = .ok (.dup, 1) := by decide +kernel
theorem dX3_init_26 : decode cX3_init 26 = .ok (.invokespecial 26, 3) := by decide +kernel
theorem dX3_init_29 : decode cX3_init 29 = .ok (.putfield 27, 3) := by decide +kernel
theorem dX3_init_32 : decode cX3_init 32 = .ok (.aload_n 0, 1) := by decide +kernel
theorem dX3_init_33 : decode cX3_init 33 = .ok (.new 31, 3) := by decide +kernel
theorem dX3_init_36 : decode cX3_init 36 = .ok (.dup, 1) := by decide +kernel
theorem dX3_init_37 : decode cX3_init 37 = .ok (.invokespecial 33, 3) := by decide +kernel
theorem dX3_init_40 : decode cX3_init 40 = .ok (.putfield 34, 3) := by decide +kernel
theorem dX3_init_43 : decode cX3_init 43 = .ok (.aload_n 0, 1) := by decide +kernel
theorem dX3_init_44 : decode cX3_init 44 = .ok (.lconst 0, 1) := by decide +kernel
theorem dX3_init_45 : decode cX3_init 45 = .ok (.putfield 38, 3) := by decide +kernel
theorem dX3_init_48 : decode cX3_init 48 = .ok (.aload_n 0, 1) := by decide +kernel
theorem dX3_init_49 : decode cX3_init 49 = .ok (.lconst 0, 1) := by decide +kernel
theorem dX3_init_50 : decode cX3_init 50 = .ok (.putfield 42, 3) := by decide +kernel
theorem dX3_init_53 : decode cX3_init 53 = .ok (.aload_n 0, 1) := by decide +kernel
theorem dX3_init_54 : decode cX3_init 54 = .ok (.lconst 0, 1) := by decide +kernel
theorem dX3_init_55 : decode cX3_init 55 = .ok (.putfield 45, 3) := by decide +kernel
theorem dX3_init_58 : decode cX3_init 58 = .ok (.aload_n 0, 1) := by decide +kernel
theorem dX3_init_59 : decode cX3_init 59 = .ok (.bipush 121, 2) := by decide +kernel
theorem dX3_init_61 : decode cX3_init 61 = .ok (.anewarray 48, 3) := by decide +kernel
theorem dX3_init_64 : decode cX3_init 64 = .ok (.putfield 50, 3) := by decide +kernel
theorem dX3_init_67 : decode cX3_init 67 = .ok (.aload_n 0, 1) := by decide +kernel
theorem dX3_init_68 : decode cX3_init 68 = .ok (.aload_n 1, 1) := by decide +kernel
theorem dX3_init_69 : decode cX3_init 69 = .ok (.putfield 54, 3) := by decide +kernel
theorem dX3_init_72 : decode cX3_init 72 = .ok (.aload_n 0, 1) := by decide +kernel
theorem dX3_init_73 : decode cX3_init 73 = .ok (.iload_n 2, 1) := by decide +kernel
theorem dX3_init_74 : decode cX3_init 74 = .ok (.putfield 58, 3) := by decide +kernel
theorem dX3_init_77 : decode cX3_init 77 = .ok (.aload_n 0, 1) := by decide +kernel
theorem dX3_init_78 : decode cX3_init 78 = .ok (.iload_n 3, 1) := by decide +kernel
theorem dX3_init_79 : decode cX3_init 79 = .ok (.putfield 61, 3) := by decide +kernel
theorem dX3_init_82 : decode cX3_init 82 = .ok (.return_, 1) := by decide +kernel
theorem dX3_runsIn_0 : decode cX3_runsIn 0 = .ok (.aload_n 0, 1) := by decide +kernel
theorem dX3_runsIn_1 : decode cX3_runsIn 1 = .ok (.getfield 61, 3) := by decide +kernel
theorem dX3_runsIn_4 : decode cX3_runsIn 4 = .ok (.iload_n 1, 1) := by decide +kernel
theorem dX3_runsIn_5 : decode cX3_runsIn 5 = .ok (.if_icmp .gt 23, 3) := by decide +kernel
theorem dX3_runsIn_8 : decode cX3_runsIn 8 = .ok (.aload_n 0, 1) := by decide +kernel
theorem dX3_runsIn_9 : decode cX3_runsIn 9 = .ok (.getfield 9, 3) := by decide +kernel
theorem dX3_runsIn_12 : decode cX3_runsIn 12 = .ok (.iconst (-1), 1) := by decide +kernel
theorem dX3_runsIn_13 : decode cX3_runsIn 13 = .ok (.if_icmp .eq 11, 3) := by decide +kernel
theorem dX3_runsIn_16 : decode cX3_runsIn 16 = .ok (.iload_n 1, 1) := by decide +kernel
theorem dX3_runsIn_17 : decode cX3_runsIn 17 = .ok (.aload_n 0, 1) := by decide +kernel
theorem dX3_runsIn_18 : decode cX3_runsIn 18 = .ok (.getfield 9, 3) := by decide +kernel
theorem dX3_runsIn_21 : decode cX3_runsIn 21 = .ok (.if_icmp .gt 7, 3) := by decide +kernel
theorem dX3_runsIn_24 : decode cX3_runsIn 24 = .ok (.iconst 1, 1) := by decide +kernel
theorem dX3_runsIn_25 : decode cX3_runsIn 25 = .ok (.goto 4, 3) := by decide +kernel
theorem dX3_runsIn_28 : decode cX3_runsIn 28 = .ok (.iconst 0, 1) := by decide +kernel
theorem dX3_runsIn_29 : decode cX3_runsIn 29 = .ok (.ireturn, 1) := by decide +kernel
theorem dX3_useIn_0 : decode cX3_useIn 0 = .ok (.aload_n 0, 1) := by decide +kernel
theorem dX3_useIn_1 : decode cX3_useIn 1 = .ok (.iload_n 1, 1) := by decide +kernel
theorem dX3_useIn_2 : decode cX3_useIn 2 = .ok (.invokevirtual 64, 3) := by decide +kernel
theorem dX3_useIn_5 : decode cX3_useIn 5 = .ok (.ifCond .eq 17, 3) := by decide +kernel
theorem dX3_useIn_8 : decode cX3_useIn 8 = .ok (.aload_n 0, 1) := by decide +kernel
theorem dX3_useIn_9 : decode cX3_useIn 9 = .ok (.getfield 54, 3) := by decide +kernel
theorem dX3_useIn_12 : decode cX3_useIn 12 = .ok (.getfield 68, 3) := by decide +kernel
theorem dX3_useIn_15 : decode cX3_useIn 15 = .ok (.iload_n 1, 1) := by decide +kernel
theorem dX3_useIn_16 : decode cX3_useIn 16 = .ok (.invokevirtual 73, 3) := by decide +kernel
theorem dX3_useIn_19 : decode cX3_useIn 19 = .ok (.goto 4, 3) := by decide +kernel
theorem dX3_useIn_22 : decode cX3_useIn 22 = .ok (.iconst 0, 1) := by decide +kernel
theorem dX3_useIn_23 : decode cX3_useIn 23 = .ok (.ireturn, 1) := by decide +kernel
theorem dX3_rentAt_0 : decode cX3_rentAt 0 = .ok (.aload_n 0, 1) := by decide +kernel
theorem dX3_rentAt_1 : decode cX3_rentAt 1 = .ok (.getfield 58, 3) := by decide +kernel
theorem dX3_rentAt_4 : decode cX3_rentAt 4 = .ok (.iload_n 1, 1) := by decide +kernel
theorem dX3_rentAt_5 : decode cX3_rentAt 5 = .ok (.imul, 1) := by decide +kernel
theorem dX3_rentAt_6 : decode cX3_rentAt 6 = .ok (.bipush 100, 2) := by decide +kernel
theorem dX3_rentAt_8 : decode cX3_rentAt 8 = .ok (.idiv, 1) := by decide +kernel
theorem dX3_rentAt_9 : decode cX3_rentAt 9 = .ok (.ireturn, 1) := by decide +kernel
theorem dX3_incomeIn_0 : decode cX3_incomeIn 0 = .ok (.iload_n 1, 1) := by decide +kernel
theorem dX3_incomeIn_1 : decode cX3_incomeIn 1 = .ok (.istore_n 2, 1) := by decide +kernel
theorem dX3_incomeIn_2 : decode cX3_incomeIn 2 = .ok (.iload_n 2, 1) := by decide +kernel
theorem dX3_incomeIn_3 : decode cX3_incomeIn 3 = .ok (.ifCond .lt 30, 3) := by decide +kernel
theorem dX3_incomeIn_6 : decode cX3_incomeIn 6 = .ok (.aload_n 0, 1) := by decide +kernel
theorem dX3_incomeIn_7 : decode cX3_incomeIn 7 = .ok (.getfield 20, 3) := by decide +kernel
theorem dX3_incomeIn_10 : decode cX3_incomeIn 10 = .ok (.iload_n 2, 1) := by decide +kernel
theorem dX3_incomeIn_11 : decode cX3_incomeIn 11 = .ok (.invokevirtual 73, 3) := by decide +kernel
theorem dX3_incomeIn_14 : decode cX3_incomeIn 14 = .ok (.iconst (-1), 1) := by decide +kernel
theorem dX3_incomeIn_15 : decode cX3_incomeIn 15 = .ok (.if_icmp .eq 12, 3) := by decide +kernel
theorem dX3_incomeIn_18 : decode cX3_incomeIn 18 = .ok (.aload_n 0, 1) := by decide +kernel
theorem dX3_incomeIn_19 : decode cX3_incomeIn 19 = .ok (.getfield 20, 3) := by decide +kernel
theorem dX3_incomeIn_22 : decode cX3_incomeIn 22 = .ok (.iload_n 2, 1) := by decide +kernel
theorem dX3_incomeIn_23 : decode cX3_incomeIn 23 = .ok (.invokevirtual 73, 3) := by decide +kernel
theorem dX3_incomeIn_26 : decode cX3_incomeIn 26 = .ok (.ireturn, 1) := by decide +kernel
theorem dX3_incomeIn_27 : decode cX3_incomeIn 27 = .ok (.iinc 2 (-1), 3) := by decide +kernel
theorem dX3_incomeIn_30 : decode cX3_incomeIn 30 = .ok (.goto (-28), 3) := by decide +kernel
theorem dX3_incomeIn_33 : decode cX3_incomeIn 33 = .ok (.iconst 0, 1) := by decide +kernel
theorem dX3_incomeIn_34 : decode cX3_incomeIn 34 = .ok (.ireturn, 1) := by decide +kernel
theorem dX3_billOf_0 : decode cX3_billOf 0 = .ok (.iload_n 1, 1) := by decide +kernel
theorem dX3_billOf_1 : decode cX3_billOf 1 = .ok (.ifCond .lt 21, 3) := by decide +kernel
theorem dX3_billOf_4 : decode cX3_billOf 4 = .ok (.iload_n 1, 1) := by decide +kernel
theorem dX3_billOf_5 : decode cX3_billOf 5 = .ok (.aload_n 0, 1) := by decide +kernel
theorem dX3_billOf_6 : decode cX3_billOf 6 = .ok (.getfield 50, 3) := by decide +kernel
theorem dX3_billOf_9 : decode cX3_billOf 9 = .ok (.arraylength, 1) := by decide +kernel
theorem dX3_billOf_10 : decode cX3_billOf 10 = .ok (.if_icmp .ge 12, 3) := by decide +kernel
theorem dX3_billOf_13 : decode cX3_billOf 13 = .ok (.aload_n 0, 1) := by decide +kernel
theorem dX3_billOf_14 : decode cX3_billOf 14 = .ok (.getfield 50, 3) := by decide +kernel
theorem dX3_billOf_17 : decode cX3_billOf 17 = .ok (.iload_n 1, 1) := by decide +kernel
theorem dX3_billOf_18 : decode cX3_billOf 18 = .ok (.aaload, 1) := by decide +kernel
theorem dX3_billOf_19 : decode cX3_billOf 19 = .ok (.goto 4, 3) := by decide +kernel
theorem dX3_billOf_22 : decode cX3_billOf 22 = .ok (.aconst_null, 1) := by decide +kernel
theorem dX3_billOf_23 : decode cX3_billOf 23 = .ok (.areturn, 1) := by decide +kernel
theorem dX3_putBill_0 : decode cX3_putBill 0 = .ok (.iload_n 1, 1) := by decide +kernel
theorem dX3_putBill_1 : decode cX3_putBill 1 = .ok (.ifCond .lt 19, 3) := by decide +kernel
theorem dX3_putBill_4 : decode cX3_putBill 4 = .ok (.iload_n 1, 1) := by decide +kernel
theorem dX3_putBill_5 : decode cX3_putBill 5 = .ok (.aload_n 0, 1) := by decide +kernel
theorem dX3_putBill_6 : decode cX3_putBill 6 = .ok (.getfield 50, 3) := by decide +kernel
theorem dX3_putBill_9 : decode cX3_putBill 9 = .ok (.arraylength, 1) := by decide +kernel
theorem dX3_putBill_10 : decode cX3_putBill 10 = .ok (.if_icmp .ge 10, 3) := by decide +kernel
theorem dX3_putBill_13 : decode cX3_putBill 13 = .ok (.aload_n 0, 1) := by decide +kernel
theorem dX3_putBill_14 : decode cX3_putBill 14 = .ok (.getfield 50, 3) := by decide +kernel
theorem dX3_putBill_17 : decode cX3_putBill 17 = .ok (.iload_n 1, 1) := by decide +kernel
theorem dX3_putBill_18 : decode cX3_putBill 18 = .ok (.aload_n 2, 1) := by decide +kernel
theorem dX3_putBill_19 : decode cX3_putBill 19 = .ok (.aastore, 1) := by decide +kernel
theorem dX3_putBill_20 : decode cX3_putBill 20 = .ok (.return_, 1) := by decide +kernel
theorem dX3_benefitsAnew_0 : decode cX3_benefitsAnew 0 = .ok (.lconst 0, 1) := by decide +kernel
theorem dX3_benefitsAnew_1 : decode cX3_benefitsAnew 1 = .ok (.lstore_n 3, 1) := by decide +kernel
theorem dX3_benefitsAnew_2 : decode cX3_benefitsAnew 2 = .ok (.iload_n 1, 1) := by decide +kernel
theorem dX3_benefitsAnew_3 : decode cX3_benefitsAnew 3 = .ok (.istore 5, 2) := by decide +kernel
theorem dX3_benefitsAnew_5 : decode cX3_benefitsAnew 5 = .ok (.iload 5, 2) := by decide +kernel
theorem dX3_benefitsAnew_7 : decode cX3_benefitsAnew 7 = .ok (.iload_n 2, 1) := by decide +kernel
theorem dX3_benefitsAnew_8 : decode cX3_benefitsAnew 8 = .ok (.if_icmp .ge 63, 3) := by decide +kernel
theorem dX3_benefitsAnew_11 : decode cX3_benefitsAnew 11 = .ok (.aload_n 0, 1) := by decide +kernel
theorem dX3_benefitsAnew_12 : decode cX3_benefitsAnew 12 = .ok (.iload 5, 2) := by decide +kernel
theorem dX3_benefitsAnew_14 : decode cX3_benefitsAnew 14 = .ok (.invokevirtual 77, 3) := by decide +kernel
theorem dX3_benefitsAnew_17 : decode cX3_benefitsAnew 17 = .ok (.astore 6, 2) := by decide +kernel
theorem dX3_benefitsAnew_19 : decode cX3_benefitsAnew 19 = .ok (.aload 6, 2) := by decide +kernel
theorem dX3_benefitsAnew_21 : decode cX3_benefitsAnew 21 = .ok (.ifnull 44, 3) := by decide +kernel
theorem dX3_benefitsAnew_24 : decode cX3_benefitsAnew 24 = .ok (.aload 6, 2) := by decide +kernel
theorem dX3_benefitsAnew_26 : decode cX3_benefitsAnew 26 = .ok (.getfield 81, 3) := by decide +kernel
theorem dX3_benefitsAnew_29 : decode cX3_benefitsAnew 29 = .ok (.aload 6, 2) := by decide +kernel
theorem dX3_benefitsAnew_31 : decode cX3_benefitsAnew 31 = .ok (.getfield 82, 3) := by decide +kernel
theorem dX3_benefitsAnew_34 : decode cX3_benefitsAnew 34 = .ok (.isub, 1) := by decide +kernel
theorem dX3_benefitsAnew_35 : decode cX3_benefitsAnew 35 = .ok (.aload_n 0, 1) := by decide +kernel
theorem dX3_benefitsAnew_36 : decode cX3_benefitsAnew 36 = .ok (.iload 5, 2) := by decide +kernel
theorem dX3_benefitsAnew_38 : decode cX3_benefitsAnew 38 = .ok (.invokevirtual 85, 3) := by decide +kernel
theorem dX3_benefitsAnew_41 : decode cX3_benefitsAnew 41 = .ok (.invokestatic 88, 3) := by decide +kernel
theorem dX3_benefitsAnew_44 : decode cX3_benefitsAnew 44 = .ok (.istore 7, 2) := by decide +kernel
theorem dX3_benefitsAnew_46 : decode cX3_benefitsAnew 46 = .ok (.lload_n 3, 1) := by decide +kernel
theorem dX3_benefitsAnew_47 : decode cX3_benefitsAnew 47 = .ok (.aload 6, 2) := by decide +kernel
theorem dX3_benefitsAnew_49 : decode cX3_benefitsAnew 49 = .ok (.getfield 92, 3) := by decide +kernel
theorem dX3_benefitsAnew_52 : decode cX3_benefitsAnew 52 = .ok (.iload 7, 2) := by decide +kernel
theorem dX3_benefitsAnew_54 : decode cX3_benefitsAnew 54 = .ok (.isub, 1) := by decide +kernel
theorem dX3_benefitsAnew_55 : decode cX3_benefitsAnew 55 = .ok (.i2l, 1) := by decide +kernel
theorem dX3_benefitsAnew_56 : decode cX3_benefitsAnew 56 = .ok (.ladd, 1) := by decide +kernel
theorem dX3_benefitsAnew_57 : decode cX3_benefitsAnew 57 = .ok (.lstore_n 3, 1) := by decide +kernel
theorem dX3_benefitsAnew_58 : decode cX3_benefitsAnew 58 = .ok (.aload 6, 2) := by decide +kernel
theorem dX3_benefitsAnew_60 : decode cX3_benefitsAnew 60 = .ok (.iload 7, 2) := by decide +kernel
theorem dX3_benefitsAnew_62 : decode cX3_benefitsAnew 62 = .ok (.putfield 92, 3) := by decide +kernel
theorem dX3_benefitsAnew_65 : decode cX3_benefitsAnew 65 = .ok (.iinc 5 1, 3) := by decide +kernel
theorem dX3_benefitsAnew_68 : decode cX3_benefitsAnew 68 = .ok (.goto (-63), 3) := by decide +kernel
theorem dX3_benefitsAnew_71 : decode cX3_benefitsAnew 71 = .ok (.lload_n 3, 1) := by decide +kernel
theorem dX3_benefitsAnew_72 : decode cX3_benefitsAnew 72 = .ok (.lreturn, 1) := by decide +kernel
theorem dX4_init_0 : decode cX4_init 0 = .ok (.aload_n 0, 1) := by decide +kernel
theorem dX4_init_1 : decode cX4_init 1 = .ok (.invokespecial 3, 3) := by decide +kernel
theorem dX4_init_4 : decode cX4_init 4 = .ok (.aload_n 0, 1) := by decide +kernel
theorem dX4_init_5 : decode cX4_init 5 = .ok (.bipush 121, 2) := by decide +kernel
theorem dX4_init_7 : decode cX4_init 7 = .ok (.newarray .int, 2) := by decide +kernel
theorem dX4_init_9 : decode cX4_init 9 = .ok (.putfield 9, 3) := by decide +kernel
theorem dX4_init_12 : decode cX4_init 12 = .ok (.iconst 0, 1) := by decide +kernel
theorem dX4_init_13 : decode cX4_init 13 = .ok (.istore_n 2, 1) := by decide +kernel
theorem dX4_init_14 : decode cX4_init 14 = .ok (.iload_n 2, 1) := by decide +kernel
theorem dX4_init_15 : decode cX4_init 15 = .ok (.aload_n 0, 1) := by decide +kernel
theorem dX4_init_16 : decode cX4_init 16 = .ok (.getfield 9, 3) := by decide +kernel
theorem dX4_init_19 : decode cX4_init 19 = .ok (.arraylength, 1) := by decide +kernel
theorem dX4_init_20 : decode cX4_init 20 = .ok (.if_icmp .ge 16, 3) := by decide +kernel
theorem dX4_init_23 : decode cX4_init 23 = .ok (.aload_n 0, 1) := by decide +kernel
theorem dX4_init_24 : decode cX4_init 24 = .ok (.getfield 9, 3) := by decide +kernel
theorem dX4_init_27 : decode cX4_init 27 = .ok (.iload_n 2, 1) := by decide +kernel
theorem dX4_init_28 : decode cX4_init 28 = .ok (.iload_n 1, 1) := by decide +kernel
theorem dX4_init_29 : decode cX4_init 29 = .ok (.iastore, 1) := by decide +kernel
theorem dX4_init_30 : decode cX4_init 30 = .ok (.iinc 2 1, 3) := by decide +kernel
theorem dX4_init_33 : decode cX4_init 33 = .ok (.goto (-19), 3) := by decide +kernel
theorem dX4_init_36 : decode cX4_init 36 = .ok (.return_, 1) := by decide +kernel
theorem dX4_in_0 : decode cX4_in 0 = .ok (.iload_n 1, 1) := by decide +kernel
theorem dX4_in_1 : decode cX4_in 1 = .ok (.ifCond .lt 21, 3) := by decide +kernel
theorem dX4_in_4 : decode cX4_in 4 = .ok (.iload_n 1, 1) := by decide +kernel
theorem dX4_in_5 : decode cX4_in 5 = .ok (.aload_n 0, 1) := by decide +kernel
theorem dX4_in_6 : decode cX4_in 6 = .ok (.getfield 9, 3) := by decide +kernel
theorem dX4_in_9 : decode cX4_in 9 = .ok (.arraylength, 1) := by decide +kernel
theorem dX4_in_10 : decode cX4_in 10 = .ok (.if_icmp .ge 12, 3) := by decide +kernel
theorem dX4_in_13 : decode cX4_in 13 = .ok (.aload_n 0, 1) := by decide +kernel
theorem dX4_in_14 : decode cX4_in 14 = .ok (.getfield 9, 3) := by decide +kernel
theorem dX4_in_17 : decode cX4_in 17 = .ok (.iload_n 1, 1) := by decide +kernel
theorem dX4_in_18 : decode cX4_in 18 = .ok (.iaload, 1) := by decide +kernel
theorem dX4_in_19 : decode cX4_in 19 = .ok (.goto 4, 3) := by decide +kernel
theorem dX4_in_22 : decode cX4_in 22 = .ok (.iconst (-1), 1) := by decide +kernel
theorem dX4_in_23 : decode cX4_in 23 = .ok (.ireturn, 1) := by decide +kernel
theorem dX4_put_0 : decode cX4_put 0 = .ok (.iload_n 1, 1) := by decide +kernel
theorem dX4_put_1 : decode cX4_put 1 = .ok (.ifCond .lt 19, 3) := by decide +kernel
theorem dX4_put_4 : decode cX4_put 4 = .ok (.iload_n 1, 1) := by decide +kernel
theorem dX4_put_5 : decode cX4_put 5 = .ok (.aload_n 0, 1) := by decide +kernel
theorem dX4_put_6 : decode cX4_put 6 = .ok (.getfield 9, 3) := by decide +kernel
theorem dX4_put_9 : decode cX4_put 9 = .ok (.arraylength, 1) := by decide +kernel
theorem dX4_put_10 : decode cX4_put 10 = .ok (.if_icmp .ge 10, 3) := by decide +kernel
theorem dX4_put_13 : decode cX4_put 13 = .ok (.aload_n 0, 1) := by decide +kernel
theorem dX4_put_14 : decode cX4_put 14 = .ok (.getfield 9, 3) := by decide +kernel
theorem dX4_put_17 : decode cX4_put 17 = .ok (.iload_n 1, 1) := by decide +kernel
theorem dX4_put_18 : decode cX4_put 18 = .ok (.iload_n 2, 1) := by decide +kernel
theorem dX4_put_19 : decode cX4_put 19 = .ok (.iastore, 1) := by decide +kernel
theorem dX4_put_20 : decode cX4_put 20 = .ok (.return_, 1) := by decide +kernel
theorem dX5_init_0 : decode cX5_init 0 = .ok (.aload_n 0, 1) := by decide +kernel
theorem dX5_init_1 : decode cX5_init 1 = .ok (.invokespecial 3, 3) := by decide +kernel
theorem dX5_init_4 : decode cX5_init 4 = .ok (.aload_n 0, 1) := by decide +kernel
theorem dX5_init_5 : decode cX5_init 5 = .ok (.iconst 0, 1) := by decide +kernel
theorem dX5_init_6 : decode cX5_init 6 = .ok (.putfield 9, 3) := by decide +kernel
theorem dX5_init_9 : decode cX5_init 9 = .ok (.aload_n 0, 1) := by decide +kernel
theorem dX5_init_10 : decode cX5_init 10 = .ok (.lconst 0, 1) := by decide +kernel
theorem dX5_init_11 : decode cX5_init 11 = .ok (.putfield 15, 3) := by decide +kernel
theorem dX5_init_14 : decode cX5_init 14 = .ok (.aload_n 0, 1) := by decide +kernel
theorem dX5_init_15 : decode cX5_init 15 = .ok (.lconst 0, 1) := by decide +kernel
theorem dX5_init_16 : decode cX5_init 16 = .ok (.putfield 19, 3) := by decide +kernel
theorem dX5_init_19 : decode cX5_init 19 = .ok (.aload_n 0, 1) := by decide +kernel
theorem dX5_init_20 : decode cX5_init 20 = .ok (.iconst 0, 1) := by decide +kernel
theorem dX5_init_21 : decode cX5_init 21 = .ok (.putfield 22, 3) := by decide +kernel
theorem dX5_init_24 : decode cX5_init 24 = .ok (.return_, 1) := by decide +kernel
theorem dX5_begin_0 : decode cX5_begin 0 = .ok (.aload_n 0, 1) := by decide +kernel
theorem dX5_begin_1 : decode cX5_begin 1 = .ok (.iconst 1, 1) := by decide +kernel
theorem dX5_begin_2 : decode cX5_begin 2 = .ok (.putfield 9, 3) := by decide +kernel
theorem dX5_begin_5 : decode cX5_begin 5 = .ok (.aload_n 0, 1) := by decide +kernel
theorem dX5_begin_6 : decode cX5_begin 6 = .ok (.lload_n 1, 1) := by decide +kernel
theorem dX5_begin_7 : decode cX5_begin 7 = .ok (.putfield 15, 3) := by decide +kernel
theorem dX5_begin_10 : decode cX5_begin 10 = .ok (.aload_n 0, 1) := by decide +kernel
theorem dX5_begin_11 : decode cX5_begin 11 = .ok (.lload_n 3, 1) := by decide +kernel
theorem dX5_begin_12 : decode cX5_begin 12 = .ok (.putfield 19, 3) := by decide +kernel
theorem dX5_begin_15 : decode cX5_begin 15 = .ok (.aload_n 0, 1) := by decide +kernel
theorem dX5_begin_16 : decode cX5_begin 16 = .ok (.iconst 0, 1) := by decide +kernel
theorem dX5_begin_17 : decode cX5_begin 17 = .ok (.putfield 22, 3) := by decide +kernel
theorem dX5_begin_20 : decode cX5_begin 20 = .ok (.return_, 1) := by decide +kernel
theorem dX5_endMonth_0 : decode cX5_endMonth 0 = .ok (.aload_n 0, 1) := by decide +kernel
theorem dX5_endMonth_1 : decode cX5_endMonth 1 = .ok (.getfield 9, 3) := by decide +kernel
theorem dX5_endMonth_4 : decode cX5_endMonth 4 = .ok (.iconst 1, 1) := by decide +kernel
theorem dX5_endMonth_5 : decode cX5_endMonth 5 = .ok (.if_icmp .eq 4, 3) := by decide +kernel
theorem dX5_endMonth_8 : decode cX5_endMonth 8 = .ok (.return_, 1) := by decide +kernel
theorem dX5_endMonth_9 : decode cX5_endMonth 9 = .ok (.aload_n 0, 1) := by decide +kernel
theorem dX5_endMonth_10 : decode cX5_endMonth 10 = .ok (.dup, 1) := by decide +kernel
theorem dX5_endMonth_11 : decode cX5_endMonth 11 = .ok (.getfield 22, 3) := by decide +kernel
theorem dX5_endMonth_14 : decode cX5_endMonth 14 = .ok (.iconst 1, 1) := by decide +kernel
theorem dX5_endMonth_15 : decode cX5_endMonth 15 = .ok (.iadd, 1) := by decide +kernel
theorem dX5_endMonth_16 : decode cX5_endMonth 16 = .ok (.putfield 22, 3) := by decide +kernel
theorem dX5_endMonth_19 : decode cX5_endMonth 19 = .ok (.lconst 0, 1) := by decide +kernel
theorem dX5_endMonth_20 : decode cX5_endMonth 20 = .ok (.aload_n 0, 1) := by decide +kernel
theorem dX5_endMonth_21 : decode cX5_endMonth 21 = .ok (.getfield 15, 3) := by decide +kernel
theorem dX5_endMonth_24 : decode cX5_endMonth 24 = .ok (.aload_n 0, 1) := by decide +kernel
theorem dX5_endMonth_25 : decode cX5_endMonth 25 = .ok (.getfield 19, 3) := by decide +kernel
theorem dX5_endMonth_28 : decode cX5_endMonth 28 = .ok (.aload_n 0, 1) := by decide +kernel
theorem dX5_endMonth_29 : decode cX5_endMonth 29 = .ok (.getfield 22, 3) := by decide +kernel
theorem dX5_endMonth_32 : decode cX5_endMonth 32 = .ok (.i2l, 1) := by decide +kernel
theorem dX5_endMonth_33 : decode cX5_endMonth 33 = .ok (.lmul, 1) := by decide +kernel
theorem dX5_endMonth_34 : decode cX5_endMonth 34 = .ok (.lsub, 1) := by decide +kernel
theorem dX5_endMonth_35 : decode cX5_endMonth 35 = .ok (.invokestatic 25, 3) := by decide +kernel
theorem dX5_endMonth_38 : decode cX5_endMonth 38 = .ok (.lstore_n 3, 1) := by decide +kernel
theorem dX5_endMonth_39 : decode cX5_endMonth 39 = .ok (.lload_n 1, 1) := by decide +kernel
theorem dX5_endMonth_40 : decode cX5_endMonth 40 = .ok (.lload_n 3, 1) := by decide +kernel
theorem dX5_endMonth_41 : decode cX5_endMonth 41 = .ok (.lcmp, 1) := by decide +kernel
theorem dX5_endMonth_42 : decode cX5_endMonth 42 = .ok (.ifCond .le 11, 3) := by decide +kernel
theorem dX5_endMonth_45 : decode cX5_endMonth 45 = .ok (.aload_n 0, 1) := by decide +kernel
theorem dX5_endMonth_46 : decode cX5_endMonth 46 = .ok (.iconst 2, 1) := by decide +kernel
theorem dX5_endMonth_47 : decode cX5_endMonth 47 = .ok (.putfield 9, 3) := by decide +kernel
theorem dX5_endMonth_50 : decode cX5_endMonth 50 = .ok (.goto 14, 3) := by decide +kernel
theorem dX5_endMonth_53 : decode cX5_endMonth 53 = .ok (.lload_n 3, 1) := by decide +kernel
theorem dX5_endMonth_54 : decode cX5_endMonth 54 = .ok (.lconst 0, 1) := by decide +kernel
theorem dX5_endMonth_55 : decode cX5_endMonth 55 = .ok (.lcmp, 1) := by decide +kernel
theorem dX5_endMonth_56 : decode cX5_endMonth 56 = .ok (.ifCond .ne 8, 3) := by decide +kernel
theorem dX5_endMonth_59 : decode cX5_endMonth 59 = .ok (.aload_n 0, 1) := by decide +kernel
theorem dX5_endMonth_60 : decode cX5_endMonth 60 = .ok (.iconst 3, 1) := by decide +kernel
theorem dX5_endMonth_61 : decode cX5_endMonth 61 = .ok (.putfield 9, 3) := by decide +kernel
theorem dX5_endMonth_64 : decode cX5_endMonth 64 = .ok (.return_, 1) := by decide +kernel
theorem dX6_init_0 : decode cX6_init 0 = .ok (.aload_n 0, 1) := by decide +kernel
theorem dX6_init_1 : decode cX6_init 1 = .ok (.invokespecial 3, 3) := by decide +kernel
theorem dX6_init_4 : decode cX6_init 4 = .ok (.aload_n 0, 1) := by decide +kernel
theorem dX6_init_5 : decode cX6_init 5 = .ok (.iconst 0, 1) := by decide +kernel
theorem dX6_init_6 : decode cX6_init 6 = .ok (.putfield 9, 3) := by decide +kernel
theorem dX6_init_9 : decode cX6_init 9 = .ok (.aload_n 0, 1) := by decide +kernel
theorem dX6_init_10 : decode cX6_init 10 = .ok (.iconst 0, 1) := by decide +kernel
theorem dX6_init_11 : decode cX6_init 11 = .ok (.putfield 15, 3) := by decide +kernel
theorem dX6_init_14 : decode cX6_init 14 = .ok (.aload_n 0, 1) := by decide +kernel
theorem dX6_init_15 : decode cX6_init 15 = .ok (.aload_n 1, 1) := by decide +kernel
theorem dX6_init_16 : decode cX6_init 16 = .ok (.putfield 19, 3) := by decide +kernel
theorem dX6_init_19 : decode cX6_init 19 = .ok (.aload_n 0, 1) := by decide +kernel
theorem dX6_init_20 : decode cX6_init 20 = .ok (.iload_n 2, 1) := by decide +kernel
theorem dX6_init_21 : decode cX6_init 21 = .ok (.putfield 23, 3) := by decide +kernel
theorem dX6_init_24 : decode cX6_init 24 = .ok (.aload_n 0, 1) := by decide +kernel
theorem dX6_init_25 : decode cX6_init 25 = .ok (.iload_n 3, 1) := by decide +kernel
theorem dX6_init_26 : decode cX6_init 26 = .ok (.putfield 26, 3) := by decide +kernel
theorem dX6_init_29 : decode cX6_init 29 = .ok (.return_, 1) := by decide +kernel
theorem dX6_takePoints_0 : decode cX6_takePoints 0 = .ok (.aload_n 0, 1) := by decide +kernel
theorem dX6_takePoints_1 : decode cX6_takePoints 1 = .ok (.getfield 9, 3) := by decide +kernel
theorem dX6_takePoints_4 : decode cX6_takePoints 4 = .ok (.ifCond .ne 53, 3) := by decide +kernel
theorem dX6_takePoints_7 : decode cX6_takePoints 7 = .ok (.iload_n 1, 1) := by decide +kernel
theorem dX6_takePoints_8 : decode cX6_takePoints 8 = .ok (.aload_n 0, 1) := by decide +kernel
theorem dX6_takePoints_9 : decode cX6_takePoints 9 = .ok (.getfield 26, 3) := by decide +kernel
theorem dX6_takePoints_12 : decode cX6_takePoints 12 = .ok (.isub, 1) := by decide +kernel
theorem dX6_takePoints_13 : decode cX6_takePoints 13 = .ok (.aload_n 0, 1) := by decide +kernel
theorem dX6_takePoints_14 : decode cX6_takePoints 14 = .ok (.invokevirtual 29, 3) := by decide +kernel
theorem dX6_takePoints_17 : decode cX6_takePoints 17 = .ok (.if_icmp .le 40, 3) := by decide +kernel
theorem dX6_takePoints_20 : decode cX6_takePoints 20 = .ok (.aload_n 0, 1) := by decide +kernel
theorem dX6_takePoints_21 : decode cX6_takePoints 21 = .ok (.getfield 19, 3) := by decide +kernel
theorem dX6_takePoints_24 : decode cX6_takePoints 24 = .ok (.getfield 33, 3) := by decide +kernel
theorem dX6_takePoints_27 : decode cX6_takePoints 27 = .ok (.iload_n 2, 1) := by decide +kernel
theorem dX6_takePoints_28 : decode cX6_takePoints 28 = .ok (.aload_n 0, 1) := by decide +kernel
theorem dX6_takePoints_29 : decode cX6_takePoints 29 = .ok (.getfield 19, 3) := by decide +kernel
theorem dX6_takePoints_32 : decode cX6_takePoints 32 = .ok (.getfield 33, 3) := by decide +kernel
theorem dX6_takePoints_35 : decode cX6_takePoints 35 = .ok (.iload_n 2, 1) := by decide +kernel
theorem dX6_takePoints_36 : decode cX6_takePoints 36 = .ok (.invokevirtual 39, 3) := by decide +kernel
theorem dX6_takePoints_39 : decode cX6_takePoints 39 = .ok (.aload_n 0, 1) := by decide +kernel
theorem dX6_takePoints_40 : decode cX6_takePoints 40 = .ok (.invokevirtual 45, 3) := by decide +kernel
theorem dX6_takePoints_43 : decode cX6_takePoints 43 = .ok (.iadd, 1) := by decide +kernel
theorem dX6_takePoints_44 : decode cX6_takePoints 44 = .ok (.invokevirtual 48, 3) := by decide +kernel
theorem dX6_takePoints_47 : decode cX6_takePoints 47 = .ok (.aload_n 0, 1) := by decide +kernel
theorem dX6_takePoints_48 : decode cX6_takePoints 48 = .ok (.dup, 1) := by decide +kernel
theorem dX6_takePoints_49 : decode cX6_takePoints 49 = .ok (.getfield 15, 3) := by decide +kernel
theorem dX6_takePoints_52 : decode cX6_takePoints 52 = .ok (.iconst 1, 1) := by decide +kernel
theorem dX6_takePoints_53 : decode cX6_takePoints 53 = .ok (.iadd, 1) := by decide +kernel
theorem dX6_takePoints_54 : decode cX6_takePoints 54 = .ok (.putfield 15, 3) := by decide +kernel
theorem dX6_takePoints_57 : decode cX6_takePoints 57 = .ok (.return_, 1) := by decide +kernel
theorem dX6_clock_0 : decode cX6_clock 0 = .ok (.aload_n 0, 1) := by decide +kernel
theorem dX6_clock_1 : decode cX6_clock 1 = .ok (.getfield 23, 3) := by decide +kernel
theorem dX6_clock_4 : decode cX6_clock 4 = .ok (.ifCond .ne 7, 3) := by decide +kernel
theorem dX6_clock_7 : decode cX6_clock 7 = .ok (.iconst 2, 1) := by decide +kernel
theorem dX6_clock_8 : decode cX6_clock 8 = .ok (.goto 18, 3) := by decide +kernel
theorem dX6_clock_11 : decode cX6_clock 11 = .ok (.aload_n 0, 1) := by decide +kernel
theorem dX6_clock_12 : decode cX6_clock 12 = .ok (.getfield 23, 3) := by decide +kernel
theorem dX6_clock_15 : decode cX6_clock 15 = .ok (.iconst 1, 1) := by decide +kernel
theorem dX6_clock_16 : decode cX6_clock 16 = .ok (.if_icmp .ne 8, 3) := by decide +kernel
theorem dX6_clock_19 : decode cX6_clock 19 = .ok (.bipush 7, 2) := by decide +kernel
theorem dX6_clock_21 : decode cX6_clock 21 = .ok (.goto 5, 3) := by decide +kernel
theorem dX6_clock_24 : decode cX6_clock 24 = .ok (.bipush 30, 2) := by decide +kernel
theorem dX6_clock_26 : decode cX6_clock 26 = .ok (.ireturn, 1) := by decide +kernel
theorem dX6_pointsADay_0 : decode cX6_pointsADay 0 = .ok (.aload_n 0, 1) := by decide +kernel
theorem dX6_pointsADay_1 : decode cX6_pointsADay 1 = .ok (.getfield 23, 3) := by decide +kernel
theorem dX6_pointsADay_4 : decode cX6_pointsADay 4 = .ok (.ifCond .ne 8, 3) := by decide +kernel
theorem dX6_pointsADay_7 : decode cX6_pointsADay 7 = .ok (.bipush 30, 2) := by decide +kernel
theorem dX6_pointsADay_9 : decode cX6_pointsADay 9 = .ok (.goto 17, 3) := by decide +kernel
theorem dX6_pointsADay_12 : decode cX6_pointsADay 12 = .ok (.aload_n 0, 1) := by decide +kernel
theorem dX6_pointsADay_13 : decode cX6_pointsADay 13 = .ok (.getfield 23, 3) := by decide +kernel
theorem dX6_pointsADay_16 : decode cX6_pointsADay 16 = .ok (.iconst 1, 1) := by decide +kernel
theorem dX6_pointsADay_17 : decode cX6_pointsADay 17 = .ok (.if_icmp .ne 8, 3) := by decide +kernel
theorem dX6_pointsADay_20 : decode cX6_pointsADay 20 = .ok (.bipush 10, 2) := by decide +kernel
theorem dX6_pointsADay_22 : decode cX6_pointsADay 22 = .ok (.goto 4, 3) := by decide +kernel
theorem dX6_pointsADay_25 : decode cX6_pointsADay 25 = .ok (.iconst 5, 1) := by decide +kernel
theorem dX6_pointsADay_26 : decode cX6_pointsADay 26 = .ok (.ireturn, 1) := by decide +kernel
theorem dX7_init_0 : decode cX7_init 0 = .ok (.aload_n 0, 1) := by decide +kernel
theorem dX7_init_1 : decode cX7_init 1 = .ok (.invokespecial 1, 3) := by decide +kernel
theorem dX7_init_4 : decode cX7_init 4 = .ok (.aload_n 0, 1) := by decide +kernel
theorem dX7_init_5 : decode cX7_init 5 = .ok (.new 7, 3) := by decide +kernel
theorem dX7_init_8 : decode cX7_init 8 = .ok (.dup, 1) := by decide +kernel
theorem dX7_init_9 : decode cX7_init 9 = .ok (.invokespecial 9, 3) := by decide +kernel
theorem dX7_init_12 : decode cX7_init 12 = .ok (.putfield 10, 3) := by decide +kernel
theorem dX7_init_15 : decode cX7_init 15 = .ok (.aload_n 0, 1) := by decide +kernel
theorem dX7_init_16 : decode cX7_init 16 = .ok (.new 7, 3) := by decide +kernel
theorem dX7_init_19 : decode cX7_init 19 = .ok (.dup, 1) := by decide +kernel
theorem dX7_init_20 : decode cX7_init 20 = .ok (.invokespecial 9, 3) := by decide +kernel
theorem dX7_init_23 : decode cX7_init 23 = .ok (.putfield 16, 3) := by decide +kernel
theorem dX7_init_26 : decode cX7_init 26 = .ok (.aload_n 0, 1) := by decide +kernel
theorem dX7_init_27 : decode cX7_init 27 = .ok (.new 7, 3) := by decide +kernel
theorem dX7_init_30 : decode cX7_init 30 = .ok (.dup, 1) := by decide +kernel
theorem dX7_init_31 : decode cX7_init 31 = .ok (.invokespecial 9, 3) := by decide +kernel
theorem dX7_init_34 : decode cX7_init 34 = .ok (.putfield 19, 3) := by decide +kernel
theorem dX7_init_37 : decode cX7_init 37 = .ok (.aload_n 0, 1) := by decide +kernel
theorem dX7_init_38 : decode cX7_init 38 = .ok (.new 22, 3) := by decide +kernel
theorem dX7_init_41 : decode cX7_init 41 = .ok (.dup, 1) := by decide +kernel
theorem dX7_init_42 : decode cX7_init 42 = .ok (.bipush 100, 2) := by decide +kernel
theorem dX7_init_44 : decode cX7_init 44 = .ok (.invokespecial 24, 3) := by decide +kernel
theorem dX7_init_47 : decode cX7_init 47 = .ok (.putfield 27, 3) := by decide +kernel
theorem dX7_init_50 : decode cX7_init 50 = .ok (.aload_n 0, 1) := by decide +kernel
theorem dX7_init_51 : decode cX7_init 51 = .ok (.new 22, 3) := by decide +kernel
theorem dX7_init_54 : decode cX7_init 54 = .ok (.dup, 1) := by decide +kernel
theorem dX7_init_55 : decode cX7_init 55 = .ok (.iconst 0, 1) := by decide +kernel
theorem dX7_init_56 : decode cX7_init 56 = .ok (.invokespecial 24, 3) := by decide +kernel
theorem dX7_init_59 : decode cX7_init 59 = .ok (.putfield 31, 3) := by decide +kernel
theorem dX7_init_62 : decode cX7_init 62 = .ok (.aload_n 0, 1) := by decide +kernel
theorem dX7_init_63 : decode cX7_init 63 = .ok (.new 34, 3) := by decide +kernel
theorem dX7_init_66 : decode cX7_init 66 = .ok (.dup, 1) := by decide +kernel
theorem dX7_init_67 : decode cX7_init 67 = .ok (.invokespecial 36, 3) := by decide +kernel
theorem dX7_init_70 : decode cX7_init 70 = .ok (.putfield 37, 3) := by decide +kernel
theorem dX7_init_73 : decode cX7_init 73 = .ok (.aload_n 0, 1) := by decide +kernel
theorem dX7_init_74 : decode cX7_init 74 = .ok (.new 41, 3) := by decide +kernel
theorem dX7_init_77 : decode cX7_init 77 = .ok (.dup, 1) := by decide +kernel
theorem dX7_init_78 : decode cX7_init 78 = .ok (.invokespecial 43, 3) := by decide +kernel
theorem dX7_init_81 : decode cX7_init 81 = .ok (.putfield 44, 3) := by decide +kernel
theorem dX7_init_84 : decode cX7_init 84 = .ok (.aload_n 0, 1) := by decide +kernel
theorem dX7_init_85 : decode cX7_init 85 = .ok (.bipush 100, 2) := by decide +kernel
theorem dX7_init_87 : decode cX7_init 87 = .ok (.putfield 48, 3) := by decide +kernel
theorem dX7_init_90 : decode cX7_init 90 = .ok (.aload_n 0, 1) := by decide +kernel
theorem dX7_init_91 : decode cX7_init 91 = .ok (.iconst 0, 1) := by decide +kernel
theorem dX7_init_92 : decode cX7_init 92 = .ok (.putfield 52, 3) := by decide +kernel
theorem dX7_init_95 : decode cX7_init 95 = .ok (.aload_n 0, 1) := by decide +kernel
theorem dX7_init_96 : decode cX7_init 96 = .ok (.lconst 0, 1) := by decide +kernel
theorem dX7_init_97 : decode cX7_init 97 = .ok (.putfield 55, 3) := by decide +kernel
theorem dX7_init_100 : decode cX7_init 100 = .ok (.return_, 1) := by decide +kernel
theorem dX7_flat_0 : decode cX7_flat 0 = .ok (.iload_n 1, 1) := by decide +kernel
theorem dX7_flat_1 : decode cX7_flat 1 = .ok (.iconst 1, 1) := by decide +kernel
theorem dX7_flat_2 : decode cX7_flat 2 = .ok (.if_icmp .lt 9, 3) := by decide +kernel
theorem dX7_flat_5 : decode cX7_flat 5 = .ok (.iload_n 1, 1) := by decide +kernel
theorem dX7_flat_6 : decode cX7_flat 6 = .ok (.bipush 9, 2) := by decide +kernel
theorem dX7_flat_8 : decode cX7_flat 8 = .ok (.if_icmp .le 13, 3) := by decide +kernel
theorem dX7_flat_11 : decode cX7_flat 11 = .ok (.new 59, 3) := by decide +kernel
theorem dX7_flat_14 : decode cX7_flat 14 = .ok (.dup, 1) := by decide +kernel
theorem dX7_flat_15 : decode cX7_flat 15 = .ok (.ldc 61, 2) := by decide +kernel
theorem dX7_flat_17 : decode cX7_flat 17 = .ok (.invokespecial 63, 3) := by decide +kernel
theorem dX7_flat_20 : decode cX7_flat 20 = .ok (.athrow, 1) := by decide +kernel
theorem dX7_flat_21 : decode cX7_flat 21 = .ok (.aload_n 0, 1) := by decide +kernel
theorem dX7_flat_22 : decode cX7_flat 22 = .ok (.getfield 10, 3) := by decide +kernel
theorem dX7_flat_25 : decode cX7_flat 25 = .ok (.invokevirtual 66, 3) := by decide +kernel
theorem dX7_flat_28 : decode cX7_flat 28 = .ok (.bipush 8, 2) := by decide +kernel
theorem dX7_flat_30 : decode cX7_flat 30 = .ok (.if_icmp .lt 13, 3) := by decide +kernel
theorem dX7_flat_33 : decode cX7_flat 33 = .ok (.new 70, 3) := by decide +kernel
theorem dX7_flat_36 : decode cX7_flat 36 = .ok (.dup, 1) := by decide +kernel
theorem dX7_flat_37 : decode cX7_flat 37 = .ok (.ldc 72, 2) := by decide +kernel
theorem dX7_flat_39 : decode cX7_flat 39 = .ok (.invokespecial 74, 3) := by decide +kernel
theorem dX7_flat_42 : decode cX7_flat 42 = .ok (.athrow, 1) := by decide +kernel
theorem dX7_flat_43 : decode cX7_flat 43 = .ok (.aload_n 0, 1) := by decide +kernel
theorem dX7_flat_44 : decode cX7_flat 44 = .ok (.getfield 10, 3) := by decide +kernel
theorem dX7_flat_47 : decode cX7_flat 47 = .ok (.new 75, 3) := by decide +kernel
theorem dX7_flat_50 : decode cX7_flat 50 = .ok (.dup, 1) := by decide +kernel
theorem dX7_flat_51 : decode cX7_flat 51 = .ok (.iload_n 1, 1) := by decide +kernel
theorem dX7_flat_52 : decode cX7_flat 52 = .ok (.invokespecial 77, 3) := by decide +kernel
theorem dX7_flat_55 : decode cX7_flat 55 = .ok (.invokevirtual 78, 3) := by decide +kernel
theorem dX7_flat_58 : decode cX7_flat 58 = .ok (.pop, 1) := by decide +kernel
theorem dX7_flat_59 : decode cX7_flat 59 = .ok (.aload_n 0, 1) := by decide +kernel
theorem dX7_flat_60 : decode cX7_flat 60 = .ok (.getfield 10, 3) := by decide +kernel
theorem dX7_flat_63 : decode cX7_flat 63 = .ok (.invokevirtual 66, 3) := by decide +kernel
theorem dX7_flat_66 : decode cX7_flat 66 = .ok (.iconst 1, 1) := by decide +kernel
theorem dX7_flat_67 : decode cX7_flat 67 = .ok (.isub, 1) := by decide +kernel
theorem dX7_flat_68 : decode cX7_flat 68 = .ok (.ireturn, 1) := by decide +kernel
theorem dX7_lease_0 : decode cX7_lease 0 = .ok (.aload_n 0, 1) := by decide +kernel
theorem dX7_lease_1 : decode cX7_lease 1 = .ok (.iload_n 1, 1) := by decide +kernel
theorem dX7_lease_2 : decode cX7_lease 2 = .ok (.invokevirtual 82, 3) := by decide +kernel
theorem dX7_lease_5 : decode cX7_lease 5 = .ok (.astore_n 3, 1) := by decide +kernel
theorem dX7_lease_6 : decode cX7_lease 6 = .ok (.iload_n 2, 1) := by decide +kernel
theorem dX7_lease_7 : decode cX7_lease 7 = .ok (.ifCond .lt 9, 3) := by decide +kernel
theorem dX7_lease_10 : decode cX7_lease 10 = .ok (.iload_n 2, 1) := by decide +kernel
theorem dX7_lease_11 : decode cX7_lease 11 = .ok (.ldc 86, 2) := by decide +kernel
theorem dX7_lease_13 : decode cX7_lease 13 = .ok (.if_icmp .le 13, 3) := by decide +kernel
theorem dX7_lease_16 : decode cX7_lease 16 = .ok (.new 59, 3) := by decide +kernel
theorem dX7_lease_19 : decode cX7_lease 19 = .ok (.dup, 1) := by decide +kernel
theorem dX7_lease_20 : decode cX7_lease 20 = .ok (.ldc 87, 2) := by decide +kernel
theorem dX7_lease_22 : decode cX7_lease 22 = .ok (.invokespecial 63, 3) := by decide +kernel
theorem dX7_lease_25 : decode cX7_lease 25 = .ok (.athrow, 1) := by decide +kernel
theorem dX7_lease_26 : decode cX7_lease 26 = .ok (.aload_n 0, 1) := by decide +kernel
theorem dX7_lease_27 : decode cX7_lease 27 = .ok (.getfield 16, 3) := by decide +kernel
theorem dX7_lease_30 : decode cX7_lease 30 = .ok (.invokevirtual 66, 3) := by decide +kernel
theorem dX7_lease_33 : decode cX7_lease 33 = .ok (.bipush 12, 2) := by decide +kernel
theorem dX7_lease_35 : decode cX7_lease 35 = .ok (.if_icmp .ge 11, 3) := by decide +kernel
theorem dX7_lease_38 : decode cX7_lease 38 = .ok (.aload_n 0, 1) := by decide +kernel
theorem dX7_lease_39 : decode cX7_lease 39 = .ok (.aload_n 3, 1) := by decide +kernel
theorem dX7_lease_40 : decode cX7_lease 40 = .ok (.invokevirtual 89, 3) := by decide +kernel
theorem dX7_lease_43 : decode cX7_lease 43 = .ok (.ifCond .eq 13, 3) := by decide +kernel
theorem dX7_lease_46 : decode cX7_lease 46 = .ok (.new 70, 3) := by decide +kernel
theorem dX7_lease_49 : decode cX7_lease 49 = .ok (.dup, 1) := by decide +kernel
theorem dX7_lease_50 : decode cX7_lease 50 = .ok (.ldc 93, 2) := by decide +kernel
theorem dX7_lease_52 : decode cX7_lease 52 = .ok (.invokespecial 74, 3) := by decide +kernel
theorem dX7_lease_55 : decode cX7_lease 55 = .ok (.athrow, 1) := by decide +kernel
theorem dX7_lease_56 : decode cX7_lease 56 = .ok (.aload_n 0, 1) := by decide +kernel
theorem dX7_lease_57 : decode cX7_lease 57 = .ok (.getfield 16, 3) := by decide +kernel
theorem dX7_lease_60 : decode cX7_lease 60 = .ok (.new 95, 3) := by decide +kernel
theorem dX7_lease_63 : decode cX7_lease 63 = .ok (.dup, 1) := by decide +kernel
theorem dX7_lease_64 : decode cX7_lease 64 = .ok (.aload_n 3, 1) := by decide +kernel
theorem dX7_lease_65 : decode cX7_lease 65 = .ok (.iload_n 2, 1) := by decide +kernel
theorem dX7_lease_66 : decode cX7_lease 66 = .ok (.aload_n 0, 1) := by decide +kernel
theorem dX7_lease_67 : decode cX7_lease 67 = .ok (.invokevirtual 97, 3) := by decide +kernel
theorem dX7_lease_70 : decode cX7_lease 70 = .ok (.iconst 1, 1) := by decide +kernel
theorem dX7_lease_71 : decode cX7_lease 71 = .ok (.iadd, 1) := by decide +kernel
theorem dX7_lease_72 : decode cX7_lease 72 = .ok (.invokespecial 100, 3) := by decide +kernel
theorem dX7_lease_75 : decode cX7_lease 75 = .ok (.invokevirtual 78, 3) := by decide +kernel
theorem dX7_lease_78 : decode cX7_lease 78 = .ok (.pop, 1) := by decide +kernel
theorem dX7_lease_79 : decode cX7_lease 79 = .ok (.aload_n 0, 1) := by decide +kernel
theorem dX7_lease_80 : decode cX7_lease 80 = .ok (.getfield 16, 3) := by decide +kernel
theorem dX7_lease_83 : decode cX7_lease 83 = .ok (.invokevirtual 66, 3) := by decide +kernel
theorem dX7_lease_86 : decode cX7_lease 86 = .ok (.iconst 1, 1) := by decide +kernel
theorem dX7_lease_87 : decode cX7_lease 87 = .ok (.isub, 1) := by decide +kernel
theorem dX7_lease_88 : decode cX7_lease 88 = .ok (.ireturn, 1) := by decide +kernel
theorem dX7_end_0 : decode cX7_end 0 = .ok (.aload_n 0, 1) := by decide +kernel
theorem dX7_end_1 : decode cX7_end 1 = .ok (.iload_n 1, 1) := by decide +kernel
theorem dX7_end_2 : decode cX7_end 2 = .ok (.invokevirtual 103, 3) := by decide +kernel
theorem dX7_end_5 : decode cX7_end 5 = .ok (.astore_n 2, 1) := by decide +kernel
theorem dX7_end_6 : decode cX7_end 6 = .ok (.aload_n 2, 1) := by decide +kernel
theorem dX7_end_7 : decode cX7_end 7 = .ok (.getfield 107, 3) := by decide +kernel
theorem dX7_end_10 : decode cX7_end 10 = .ok (.iconst (-1), 1) := by decide +kernel
theorem dX7_end_11 : decode cX7_end 11 = .ok (.if_icmp .eq 13, 3) := by decide +kernel
theorem dX7_end_14 : decode cX7_end 14 = .ok (.new 70, 3) := by decide +kernel
theorem dX7_end_17 : decode cX7_end 17 = .ok (.dup, 1) := by decide +kernel
theorem dX7_end_18 : decode cX7_end 18 = .ok (.ldc 110, 2) := by decide +kernel
theorem dX7_end_20 : decode cX7_end 20 = .ok (.invokespecial 74, 3) := by decide +kernel
theorem dX7_end_23 : decode cX7_end 23 = .ok (.athrow, 1) := by decide +kernel
theorem dX7_end_24 : decode cX7_end 24 = .ok (.aload_n 2, 1) := by decide +kernel
theorem dX7_end_25 : decode cX7_end 25 = .ok (.aload_n 0, 1) := by decide +kernel
theorem dX7_end_26 : decode cX7_end 26 = .ok (.invokevirtual 97, 3) := by decide +kernel
theorem dX7_end_29 : decode cX7_end 29 = .ok (.putfield 107, 3) := by decide +kernel
theorem dX7_end_32 : decode cX7_end 32 = .ok (.aload_n 2, 1) := by decide +kernel
theorem dX7_end_33 : decode cX7_end 33 = .ok (.getfield 107, 3) := by decide +kernel
theorem dX7_end_36 : decode cX7_end 36 = .ok (.ireturn, 1) := by decide +kernel
theorem dX7_index_0 : decode cX7_index 0 = .ok (.iload_n 1, 1) := by decide +kernel
theorem dX7_index_1 : decode cX7_index 1 = .ok (.bipush 50, 2) := by decide +kernel
theorem dX7_index_3 : decode cX7_index 3 = .ok (.if_icmp .lt 10, 3) := by decide +kernel
theorem dX7_index_6 : decode cX7_index 6 = .ok (.iload_n 1, 1) := by decide +kernel
theorem dX7_index_7 : decode cX7_index 7 = .ok (.sipush 200, 3) := by decide +kernel
theorem dX7_index_10 : decode cX7_index 10 = .ok (.if_icmp .le 13, 3) := by decide +kernel
theorem dX7_index_13 : decode cX7_index 13 = .ok (.new 59, 3) := by decide +kernel
theorem dX7_index_16 : decode cX7_index 16 = .ok (.dup, 1) := by decide +kernel
theorem dX7_index_17 : decode cX7_index 17 = .ok (.ldc 112, 2) := by decide +kernel
theorem dX7_index_19 : decode cX7_index 19 = .ok (.invokespecial 63, 3) := by decide +kernel
theorem dX7_index_22 : decode cX7_index 22 = .ok (.athrow, 1) := by decide +kernel
theorem dX7_index_23 : decode cX7_index 23 = .ok (.aload_n 0, 1) := by decide +kernel
theorem dX7_index_24 : decode cX7_index 24 = .ok (.iload_n 1, 1) := by decide +kernel
theorem dX7_index_25 : decode cX7_index 25 = .ok (.putfield 48, 3) := by decide +kernel
theorem dX7_index_28 : decode cX7_index 28 = .ok (.aload_n 0, 1) := by decide +kernel
theorem dX7_index_29 : decode cX7_index 29 = .ok (.getfield 27, 3) := by decide +kernel
theorem dX7_index_32 : decode cX7_index 32 = .ok (.aload_n 0, 1) := by decide +kernel
theorem dX7_index_33 : decode cX7_index 33 = .ok (.invokevirtual 97, 3) := by decide +kernel
theorem dX7_index_36 : decode cX7_index 36 = .ok (.invokevirtual 114, 3) := by decide +kernel
theorem dX7_index_39 : decode cX7_index 39 = .ok (.ireturn, 1) := by decide +kernel
theorem dX7_read_0 : decode cX7_read 0 = .ok (.aload_n 0, 1) := by decide +kernel
theorem dX7_read_1 : decode cX7_read 1 = .ok (.iload_n 1, 1) := by decide +kernel
theorem dX7_read_2 : decode cX7_read 2 = .ok (.invokevirtual 82, 3) := by decide +kernel
theorem dX7_read_5 : decode cX7_read 5 = .ok (.astore_n 3, 1) := by decide +kernel
theorem dX7_read_6 : decode cX7_read 6 = .ok (.iload_n 2, 1) := by decide +kernel
theorem dX7_read_7 : decode cX7_read 7 = .ok (.aload_n 3, 1) := by decide +kernel
theorem dX7_read_8 : decode cX7_read 8 = .ok (.getfield 118, 3) := by decide +kernel
theorem dX7_read_11 : decode cX7_read 11 = .ok (.if_icmp .lt 9, 3) := by decide +kernel
theorem dX7_read_14 : decode cX7_read 14 = .ok (.iload_n 2, 1) := by decide +kernel
theorem dX7_read_15 : decode cX7_read 15 = .ok (.ldc 121, 2) := by decide +kernel
theorem dX7_read_17 : decode cX7_read 17 = .ok (.if_icmp .le 13, 3) := by decide +kernel
theorem dX7_read_20 : decode cX7_read 20 = .ok (.new 59, 3) := by decide +kernel
theorem dX7_read_23 : decode cX7_read 23 = .ok (.dup, 1) := by decide +kernel
theorem dX7_read_24 : decode cX7_read 24 = .ok (.ldc 122, 2) := by decide +kernel
theorem dX7_read_26 : decode cX7_read 26 = .ok (.invokespecial 63, 3) := by decide +kernel
theorem dX7_read_29 : decode cX7_read 29 = .ok (.athrow, 1) := by decide +kernel
theorem dX7_read_30 : decode cX7_read 30 = .ok (.aload_n 3, 1) := by decide +kernel
theorem dX7_read_31 : decode cX7_read 31 = .ok (.iload_n 2, 1) := by decide +kernel
theorem dX7_read_32 : decode cX7_read 32 = .ok (.aload_n 0, 1) := by decide +kernel
theorem dX7_read_33 : decode cX7_read 33 = .ok (.invokevirtual 97, 3) := by decide +kernel
theorem dX7_read_36 : decode cX7_read 36 = .ok (.invokevirtual 124, 3) := by decide +kernel
theorem dX7_read_39 : decode cX7_read 39 = .ok (.ireturn, 1) := by decide +kernel
theorem dX7_heat_0 : decode cX7_heat 0 = .ok (.iload_n 1, 1) := by decide +kernel
theorem dX7_heat_1 : decode cX7_heat 1 = .ok (.iconst 1, 1) := by decide +kernel
theorem dX7_heat_2 : decode cX7_heat 2 = .ok (.if_icmp .lt 9, 3) := by decide +kernel
theorem dX7_heat_5 : decode cX7_heat 5 = .ok (.iload_n 1, 1) := by decide +kernel
theorem dX7_heat_6 : decode cX7_heat 6 = .ok (.ldc 121, 2) := by decide +kernel
theorem dX7_heat_8 : decode cX7_heat 8 = .ok (.if_icmp .le 13, 3) := by decide +kernel
theorem dX7_heat_11 : decode cX7_heat 11 = .ok (.new 59, 3) := by decide +kernel
theorem dX7_heat_14 : decode cX7_heat 14 = .ok (.dup, 1) := by decide +kernel
theorem dX7_heat_15 : decode cX7_heat 15 = .ok (.ldc 128, 2) := by decide +kernel
theorem dX7_heat_17 : decode cX7_heat 17 = .ok (.invokespecial 63, 3) := by decide +kernel
theorem dX7_heat_20 : decode cX7_heat 20 = .ok (.athrow, 1) := by decide +kernel
theorem dX7_heat_21 : decode cX7_heat 21 = .ok (.aload_n 0, 1) := by decide +kernel
theorem dX7_heat_22 : decode cX7_heat 22 = .ok (.invokevirtual 97, 3) := by decide +kernel
theorem dX7_heat_25 : decode cX7_heat 25 = .ok (.istore_n 2, 1) := by decide +kernel
theorem dX7_heat_26 : decode cX7_heat 26 = .ok (.aload_n 0, 1) := by decide +kernel
theorem dX7_heat_27 : decode cX7_heat 27 = .ok (.getfield 31, 3) := by decide +kernel
theorem dX7_heat_30 : decode cX7_heat 30 = .ok (.iload_n 2, 1) := by decide +kernel
theorem dX7_heat_31 : decode cX7_heat 31 = .ok (.invokevirtual 114, 3) := by decide +kernel
theorem dX7_heat_34 : decode cX7_heat 34 = .ok (.iload_n 1, 1) := by decide +kernel
theorem dX7_heat_35 : decode cX7_heat 35 = .ok (.iadd, 1) := by decide +kernel
theorem dX7_heat_36 : decode cX7_heat 36 = .ok (.istore_n 3, 1) := by decide +kernel
theorem dX7_heat_37 : decode cX7_heat 37 = .ok (.iload_n 3, 1) := by decide +kernel
theorem dX7_heat_38 : decode cX7_heat 38 = .ok (.ldc 130, 2) := by decide +kernel
theorem dX7_heat_40 : decode cX7_heat 40 = .ok (.if_icmp .le 13, 3) := by decide +kernel
theorem dX7_heat_43 : decode cX7_heat 43 = .ok (.new 70, 3) := by decide +kernel
theorem dX7_heat_46 : decode cX7_heat 46 = .ok (.dup, 1) := by decide +kernel
theorem dX7_heat_47 : decode cX7_heat 47 = .ok (.ldc 131, 2) := by decide +kernel
theorem dX7_heat_49 : decode cX7_heat 49 = .ok (.invokespecial 74, 3) := by decide +kernel
theorem dX7_heat_52 : decode cX7_heat 52 = .ok (.athrow, 1) := by decide +kernel
theorem dX7_heat_53 : decode cX7_heat 53 = .ok (.aload_n 0, 1) := by decide +kernel
theorem dX7_heat_54 : decode cX7_heat 54 = .ok (.getfield 31, 3) := by decide +kernel
theorem dX7_heat_57 : decode cX7_heat 57 = .ok (.iload_n 2, 1) := by decide +kernel
theorem dX7_heat_58 : decode cX7_heat 58 = .ok (.iload_n 3, 1) := by decide +kernel
theorem dX7_heat_59 : decode cX7_heat 59 = .ok (.invokevirtual 133, 3) := by decide +kernel
theorem dX7_heat_62 : decode cX7_heat 62 = .ok (.iload_n 3, 1) := by decide +kernel
theorem dX7_heat_63 : decode cX7_heat 63 = .ok (.ireturn, 1) := by decide +kernel
theorem dX7_report_0 : decode cX7_report 0 = .ok (.aload_n 0, 1) := by decide +kernel
theorem dX7_report_1 : decode cX7_report 1 = .ok (.iload_n 1, 1) := by decide +kernel
theorem dX7_report_2 : decode cX7_report 2 = .ok (.invokevirtual 82, 3) := by decide +kernel
theorem dX7_report_5 : decode cX7_report 5 = .ok (.astore_n 3, 1) := by decide +kernel
theorem dX7_report_6 : decode cX7_report 6 = .ok (.iload_n 2, 1) := by decide +kernel
theorem dX7_report_7 : decode cX7_report 7 = .ok (.ifCond .lt 8, 3) := by decide +kernel
theorem dX7_report_10 : decode cX7_report 10 = .ok (.iload_n 2, 1) := by decide +kernel
theorem dX7_report_11 : decode cX7_report 11 = .ok (.iconst 2, 1) := by decide +kernel
theorem dX7_report_12 : decode cX7_report 12 = .ok (.if_icmp .le 13, 3) := by decide +kernel
theorem dX7_report_15 : decode cX7_report 15 = .ok (.new 59, 3) := by decide +kernel
theorem dX7_report_18 : decode cX7_report 18 = .ok (.dup, 1) := by decide +kernel
theorem dX7_report_19 : decode cX7_report 19 = .ok (.ldc 137, 2) := by decide +kernel
theorem dX7_report_21 : decode cX7_report 21 = .ok (.invokespecial 63, 3) := by decide +kernel
theorem dX7_report_24 : decode cX7_report 24 = .ok (.athrow, 1) := by decide +kernel
theorem dX7_report_25 : decode cX7_report 25 = .ok (.aload_n 0, 1) := by decide +kernel
theorem dX7_report_26 : decode cX7_report 26 = .ok (.getfield 19, 3) := by decide +kernel
theorem dX7_report_29 : decode cX7_report 29 = .ok (.invokevirtual 66, 3) := by decide +kernel
theorem dX7_report_32 : decode cX7_report 32 = .ok (.bipush 60, 2) := by decide +kernel
theorem dX7_report_34 : decode cX7_report 34 = .ok (.if_icmp .lt 13, 3) := by decide +kernel
theorem dX7_report_37 : decode cX7_report 37 = .ok (.new 70, 3) := by decide +kernel
theorem dX7_report_40 : decode cX7_report 40 = .ok (.dup, 1) := by decide +kernel
theorem dX7_report_41 : decode cX7_report 41 = .ok (.ldc 139, 2) := by decide +kernel
theorem dX7_report_43 : decode cX7_report 43 = .ok (.invokespecial 74, 3) := by decide +kernel
theorem dX7_report_46 : decode cX7_report 46 = .ok (.athrow, 1) := by decide +kernel
theorem dX7_report_47 : decode cX7_report 47 = .ok (.aload_n 0, 1) := by decide +kernel
theorem dX7_report_48 : decode cX7_report 48 = .ok (.getfield 19, 3) := by decide +kernel
theorem dX7_report_51 : decode cX7_report 51 = .ok (.new 141, 3) := by decide +kernel
theorem dX7_report_54 : decode cX7_report 54 = .ok (.dup, 1) := by decide +kernel
theorem dX7_report_55 : decode cX7_report 55 = .ok (.aload_n 3, 1) := by decide +kernel
theorem dX7_report_56 : decode cX7_report 56 = .ok (.iload_n 2, 1) := by decide +kernel
theorem dX7_report_57 : decode cX7_report 57 = .ok (.aload_n 0, 1) := by decide +kernel
theorem dX7_report_58 : decode cX7_report 58 = .ok (.getfield 52, 3) := by decide +kernel
theorem dX7_report_61 : decode cX7_report 61 = .ok (.invokespecial 143, 3) := by decide +kernel
theorem dX7_report_64 : decode cX7_report 64 = .ok (.invokevirtual 78, 3) := by decide +kernel
theorem dX7_report_67 : decode cX7_report 67 = .ok (.pop, 1) := by decide +kernel
theorem dX7_report_68 : decode cX7_report 68 = .ok (.aload_n 0, 1) := by decide +kernel
theorem dX7_report_69 : decode cX7_report 69 = .ok (.getfield 19, 3) := by decide +kernel
theorem dX7_report_72 : decode cX7_report 72 = .ok (.invokevirtual 66, 3) := by decide +kernel
theorem dX7_report_75 : decode cX7_report 75 = .ok (.iconst 1, 1) := by decide +kernel
theorem dX7_report_76 : decode cX7_report 76 = .ok (.isub, 1) := by decide +kernel
theorem dX7_report_77 : decode cX7_report 77 = .ok (.ireturn, 1) := by decide +kernel
theorem dX7_mend_0 : decode cX7_mend 0 = .ok (.iload_n 1, 1) := by decide +kernel
theorem dX7_mend_1 : decode cX7_mend 1 = .ok (.ifCond .lt 14, 3) := by decide +kernel
theorem dX7_mend_4 : decode cX7_mend 4 = .ok (.iload_n 1, 1) := by decide +kernel
theorem dX7_mend_5 : decode cX7_mend 5 = .ok (.aload_n 0, 1) := by decide +kernel
theorem dX7_mend_6 : decode cX7_mend 6 = .ok (.getfield 19, 3) := by decide +kernel
theorem dX7_mend_9 : decode cX7_mend 9 = .ok (.invokevirtual 66, 3) := by decide +kernel
theorem dX7_mend_12 : decode cX7_mend 12 = .ok (.if_icmp .lt 13, 3) := by decide +kernel
theorem dX7_mend_15 : decode cX7_mend 15 = .ok (.new 144, 3) := by decide +kernel
theorem dX7_mend_18 : decode cX7_mend 18 = .ok (.dup, 1) := by decide +kernel
theorem dX7_mend_19 : decode cX7_mend 19 = .ok (.ldc 146, 2) := by decide +kernel
theorem dX7_mend_21 : decode cX7_mend 21 = .ok (.invokespecial 148, 3) := by decide +kernel
theorem dX7_mend_24 : decode cX7_mend 24 = .ok (.athrow, 1) := by decide +kernel
theorem dX7_mend_25 : decode cX7_mend 25 = .ok (.aload_n 0, 1) := by decide +kernel
theorem dX7_mend_26 : decode cX7_mend 26 = .ok (.getfield 19, 3) := by decide +kernel
theorem dX7_mend_29 : decode cX7_mend 29 = .ok (.iload_n 1, 1) := by decide +kernel
theorem dX7_mend_30 : decode cX7_mend 30 = .ok (.invokevirtual 149, 3) := by decide +kernel
theorem dX7_mend_33 : decode cX7_mend 33 = .ok (.checkcast 141, 3) := by decide +kernel
theorem dX7_mend_36 : decode cX7_mend 36 = .ok (.astore_n 2, 1) := by decide +kernel
theorem dX7_mend_37 : decode cX7_mend 37 = .ok (.aload_n 2, 1) := by decide +kernel
theorem dX7_mend_38 : decode cX7_mend 38 = .ok (.getfield 153, 3) := by decide +kernel
theorem dX7_mend_41 : decode cX7_mend 41 = .ok (.ifCond .eq 13, 3) := by decide +kernel
theorem dX7_mend_44 : decode cX7_mend 44 = .ok (.new 70, 3) := by decide +kernel
theorem dX7_mend_47 : decode cX7_mend 47 = .ok (.dup, 1) := by decide +kernel
theorem dX7_mend_48 : decode cX7_mend 48 = .ok (.ldc 157, 2) := by decide +kernel
theorem dX7_mend_50 : decode cX7_mend 50 = .ok (.invokespecial 74, 3) := by decide +kernel
theorem dX7_mend_53 : decode cX7_mend 53 = .ok (.athrow, 1) := by decide +kernel
theorem dX7_mend_54 : decode cX7_mend 54 = .ok (.aload_n 2, 1) := by decide +kernel
theorem dX7_mend_55 : decode cX7_mend 55 = .ok (.iconst 1, 1) := by decide +kernel
theorem dX7_mend_56 : decode cX7_mend 56 = .ok (.putfield 153, 3) := by decide +kernel
theorem dX7_mend_59 : decode cX7_mend 59 = .ok (.aload_n 2, 1) := by decide +kernel
theorem dX7_mend_60 : decode cX7_mend 60 = .ok (.getfield 159, 3) := by decide +kernel
theorem dX7_mend_63 : decode cX7_mend 63 = .ok (.ireturn, 1) := by decide +kernel
theorem dX7_income_0 : decode cX7_income 0 = .ok (.aload_n 0, 1) := by decide +kernel
theorem dX7_income_1 : decode cX7_income 1 = .ok (.iload_n 1, 1) := by decide +kernel
theorem dX7_income_2 : decode cX7_income 2 = .ok (.invokevirtual 103, 3) := by decide +kernel
theorem dX7_income_5 : decode cX7_income 5 = .ok (.astore 4, 2) := by decide +kernel
theorem dX7_income_7 : decode cX7_income 7 = .ok (.aload_n 0, 1) := by decide +kernel
theorem dX7_income_8 : decode cX7_income 8 = .ok (.iload_n 2, 1) := by decide +kernel
theorem dX7_income_9 : decode cX7_income 9 = .ok (.invokevirtual 162, 3) := by decide +kernel
theorem dX7_income_12 : decode cX7_income 12 = .ok (.iload_n 3, 1) := by decide +kernel
theorem dX7_income_13 : decode cX7_income 13 = .ok (.ifCond .lt 9, 3) := by decide +kernel
theorem dX7_income_16 : decode cX7_income 16 = .ok (.iload_n 3, 1) := by decide +kernel
theorem dX7_income_17 : decode cX7_income 17 = .ok (.ldc 121, 2) := by decide +kernel
theorem dX7_income_19 : decode cX7_income 19 = .ok (.if_icmp .le 13, 3) := by decide +kernel
theorem dX7_income_22 : decode cX7_income 22 = .ok (.new 59, 3) := by decide +kernel
theorem dX7_income_25 : decode cX7_income 25 = .ok (.dup, 1) := by decide +kernel
theorem dX7_income_26 : decode cX7_income 26 = .ok (.ldc 128, 2) := by decide +kernel
theorem dX7_income_28 : decode cX7_income 28 = .ok (.invokespecial 63, 3) := by decide +kernel
theorem dX7_income_31 : decode cX7_income 31 = .ok (.athrow, 1) := by decide +kernel
theorem dX7_income_32 : decode cX7_income 32 = .ok (.aload 4, 2) := by decide +kernel
theorem dX7_income_34 : decode cX7_income 34 = .ok (.getfield 165, 3) := by decide +kernel
theorem dX7_income_37 : decode cX7_income 37 = .ok (.iload_n 2, 1) := by decide +kernel
theorem dX7_income_38 : decode cX7_income 38 = .ok (.iload_n 3, 1) := by decide +kernel
theorem dX7_income_39 : decode cX7_income 39 = .ok (.invokevirtual 133, 3) := by decide +kernel
theorem dX7_income_42 : decode cX7_income 42 = .ok (.aload 4, 2) := by decide +kernel
theorem dX7_income_44 : decode cX7_income 44 = .ok (.iload_n 2, 1) := by decide +kernel
theorem dX7_income_45 : decode cX7_income 45 = .ok (.aload_n 0, 1) := by decide +kernel
theorem dX7_income_46 : decode cX7_income 46 = .ok (.invokevirtual 97, 3) := by decide +kernel
theorem dX7_income_49 : decode cX7_income 49 = .ok (.invokevirtual 168, 3) := by decide +kernel
theorem dX7_income_52 : decode cX7_income 52 = .ok (.lstore 5, 2) := by decide +kernel
theorem dX7_income_54 : decode cX7_income 54 = .ok (.aload_n 0, 1) := by decide +kernel
theorem dX7_income_55 : decode cX7_income 55 = .ok (.aload 4, 2) := by decide +kernel
theorem dX7_income_57 : decode cX7_income 57 = .ok (.lload 5, 2) := by decide +kernel
theorem dX7_income_59 : decode cX7_income 59 = .ok (.invokevirtual 172, 3) := by decide +kernel
theorem dX7_income_62 : decode cX7_income 62 = .ok (.aload_n 0, 1) := by decide +kernel
theorem dX7_income_63 : decode cX7_income 63 = .ok (.aload 4, 2) := by decide +kernel
theorem dX7_income_65 : decode cX7_income 65 = .ok (.lload 5, 2) := by decide +kernel
theorem dX7_income_67 : decode cX7_income 67 = .ok (.lneg, 1) := by decide +kernel
theorem dX7_income_68 : decode cX7_income 68 = .ok (.invokevirtual 176, 3) := by decide +kernel
theorem dX7_income_71 : decode cX7_income 71 = .ok (.lload 5, 2) := by decide +kernel
theorem dX7_income_73 : decode cX7_income 73 = .ok (.lreturn, 1) := by decide +kernel
theorem dX7_pay_0 : decode cX7_pay 0 = .ok (.aload_n 0, 1) := by decide +kernel
theorem dX7_pay_1 : decode cX7_pay 1 = .ok (.iload_n 1, 1) := by decide +kernel
theorem dX7_pay_2 : decode cX7_pay 2 = .ok (.invokevirtual 103, 3) := by decide +kernel
theorem dX7_pay_5 : decode cX7_pay 5 = .ok (.astore_n 3, 1) := by decide +kernel
theorem dX7_pay_6 : decode cX7_pay 6 = .ok (.iload_n 2, 1) := by decide +kernel
theorem dX7_pay_7 : decode cX7_pay 7 = .ok (.iconst 1, 1) := by decide +kernel
theorem dX7_pay_8 : decode cX7_pay 8 = .ok (.if_icmp .lt 9, 3) := by decide +kernel
theorem dX7_pay_11 : decode cX7_pay 11 = .ok (.iload_n 2, 1) := by decide +kernel
theorem dX7_pay_12 : decode cX7_pay 12 = .ok (.ldc 121, 2) := by decide +kernel
theorem dX7_pay_14 : decode cX7_pay 14 = .ok (.if_icmp .le 13, 3) := by decide +kernel
theorem dX7_pay_17 : decode cX7_pay 17 = .ok (.new 59, 3) := by decide +kernel
theorem dX7_pay_20 : decode cX7_pay 20 = .ok (.dup, 1) := by decide +kernel
theorem dX7_pay_21 : decode cX7_pay 21 = .ok (.ldc 128, 2) := by decide +kernel
theorem dX7_pay_23 : decode cX7_pay 23 = .ok (.invokespecial 63, 3) := by decide +kernel
theorem dX7_pay_26 : decode cX7_pay 26 = .ok (.athrow, 1) := by decide +kernel
theorem dX7_pay_27 : decode cX7_pay 27 = .ok (.aload_n 3, 1) := by decide +kernel
theorem dX7_pay_28 : decode cX7_pay 28 = .ok (.dup, 1) := by decide +kernel
theorem dX7_pay_29 : decode cX7_pay 29 = .ok (.getfield 179, 3) := by decide +kernel
theorem dX7_pay_32 : decode cX7_pay 32 = .ok (.iload_n 2, 1) := by decide +kernel
theorem dX7_pay_33 : decode cX7_pay 33 = .ok (.i2l, 1) := by decide +kernel
theorem dX7_pay_34 : decode cX7_pay 34 = .ok (.ladd, 1) := by decide +kernel
theorem dX7_pay_35 : decode cX7_pay 35 = .ok (.putfield 179, 3) := by decide +kernel
theorem dX7_pay_38 : decode cX7_pay 38 = .ok (.aload_n 0, 1) := by decide +kernel
theorem dX7_pay_39 : decode cX7_pay 39 = .ok (.aload_n 3, 1) := by decide +kernel
theorem dX7_pay_40 : decode cX7_pay 40 = .ok (.iload_n 2, 1) := by decide +kernel
theorem dX7_pay_41 : decode cX7_pay 41 = .ok (.ineg, 1) := by decide +kernel
theorem dX7_pay_42 : decode cX7_pay 42 = .ok (.i2l, 1) := by decide +kernel
theorem dX7_pay_43 : decode cX7_pay 43 = .ok (.invokevirtual 172, 3) := by decide +kernel
theorem dX7_pay_46 : decode cX7_pay 46 = .ok (.aload_n 3, 1) := by decide +kernel
theorem dX7_pay_47 : decode cX7_pay 47 = .ok (.getfield 182, 3) := by decide +kernel
theorem dX7_pay_50 : decode cX7_pay 50 = .ok (.lreturn, 1) := by decide +kernel
theorem dX7_plan_0 : decode cX7_plan 0 = .ok (.aload_n 0, 1) := by decide +kernel
theorem dX7_plan_1 : decode cX7_plan 1 = .ok (.iload_n 1, 1) := by decide +kernel
theorem dX7_plan_2 : decode cX7_plan 2 = .ok (.invokevirtual 103, 3) := by decide +kernel
theorem dX7_plan_5 : decode cX7_plan 5 = .ok (.astore_n 3, 1) := by decide +kernel
theorem dX7_plan_6 : decode cX7_plan 6 = .ok (.iload_n 2, 1) := by decide +kernel
theorem dX7_plan_7 : decode cX7_plan 7 = .ok (.iconst 1, 1) := by decide +kernel
theorem dX7_plan_8 : decode cX7_plan 8 = .ok (.if_icmp .lt 9, 3) := by decide +kernel
theorem dX7_plan_11 : decode cX7_plan 11 = .ok (.iload_n 2, 1) := by decide +kernel
theorem dX7_plan_12 : decode cX7_plan 12 = .ok (.bipush 12, 2) := by decide +kernel
theorem dX7_plan_14 : decode cX7_plan 14 = .ok (.if_icmp .le 13, 3) := by decide +kernel
theorem dX7_plan_17 : decode cX7_plan 17 = .ok (.new 59, 3) := by decide +kernel
theorem dX7_plan_20 : decode cX7_plan 20 = .ok (.dup, 1) := by decide +kernel
theorem dX7_plan_21 : decode cX7_plan 21 = .ok (.ldc 185, 2) := by decide +kernel
theorem dX7_plan_23 : decode cX7_plan 23 = .ok (.invokespecial 63, 3) := by decide +kernel
theorem dX7_plan_26 : decode cX7_plan 26 = .ok (.athrow, 1) := by decide +kernel
theorem dX7_plan_27 : decode cX7_plan 27 = .ok (.aload_n 3, 1) := by decide +kernel
theorem dX7_plan_28 : decode cX7_plan 28 = .ok (.getfield 187, 3) := by decide +kernel
theorem dX7_plan_31 : decode cX7_plan 31 = .ok (.getfield 191, 3) := by decide +kernel
theorem dX7_plan_34 : decode cX7_plan 34 = .ok (.iconst 1, 1) := by decide +kernel
theorem dX7_plan_35 : decode cX7_plan 35 = .ok (.if_icmp .eq 12, 3) := by decide +kernel
theorem dX7_plan_38 : decode cX7_plan 38 = .ok (.aload_n 3, 1) := by decide +kernel
theorem dX7_plan_39 : decode cX7_plan 39 = .ok (.getfield 182, 3) := by decide +kernel
theorem dX7_plan_42 : decode cX7_plan 42 = .ok (.lconst 0, 1) := by decide +kernel
theorem dX7_plan_43 : decode cX7_plan 43 = .ok (.lcmp, 1) := by decide +kernel
theorem dX7_plan_44 : decode cX7_plan 44 = .ok (.ifCond .gt 13, 3) := by decide +kernel
theorem dX7_plan_47 : decode cX7_plan 47 = .ok (.new 70, 3) := by decide +kernel
theorem dX7_plan_50 : decode cX7_plan 50 = .ok (.dup, 1) := by decide +kernel
theorem dX7_plan_51 : decode cX7_plan 51 = .ok (.ldc 196, 2) := by decide +kernel
theorem dX7_plan_53 : decode cX7_plan 53 = .ok (.invokespecial 74, 3) := by decide +kernel
theorem dX7_plan_56 : decode cX7_plan 56 = .ok (.athrow, 1) := by decide +kernel
theorem dX7_plan_57 : decode cX7_plan 57 = .ok (.aload_n 3, 1) := by decide +kernel
theorem dX7_plan_58 : decode cX7_plan 58 = .ok (.getfield 182, 3) := by decide +kernel
theorem dX7_plan_61 : decode cX7_plan 61 = .ok (.iload_n 2, 1) := by decide +kernel
theorem dX7_plan_62 : decode cX7_plan 62 = .ok (.i2l, 1) := by decide +kernel
theorem dX7_plan_63 : decode cX7_plan 63 = .ok (.ladd, 1) := by decide +kernel
theorem dX7_plan_64 : decode cX7_plan 64 = .ok (.lconst 1, 1) := by decide +kernel
theorem dX7_plan_65 : decode cX7_plan 65 = .ok (.lsub, 1) := by decide +kernel
theorem dX7_plan_66 : decode cX7_plan 66 = .ok (.iload_n 2, 1) := by decide +kernel
theorem dX7_plan_67 : decode cX7_plan 67 = .ok (.i2l, 1) := by decide +kernel
theorem dX7_plan_68 : decode cX7_plan 68 = .ok (.ldiv, 1) := by decide +kernel
theorem dX7_plan_69 : decode cX7_plan 69 = .ok (.lstore 4, 2) := by decide +kernel
theorem dX7_plan_71 : decode cX7_plan 71 = .ok (.aload_n 3, 1) := by decide +kernel
theorem dX7_plan_72 : decode cX7_plan 72 = .ok (.getfield 187, 3) := by decide +kernel
theorem dX7_plan_75 : decode cX7_plan 75 = .ok (.aload_n 3, 1) := by decide +kernel
theorem dX7_plan_76 : decode cX7_plan 76 = .ok (.getfield 182, 3) := by decide +kernel
theorem dX7_plan_79 : decode cX7_plan 79 = .ok (.lload 4, 2) := by decide +kernel
theorem dX7_plan_81 : decode cX7_plan 81 = .ok (.invokevirtual 198, 3) := by decide +kernel
theorem dX7_plan_84 : decode cX7_plan 84 = .ok (.lload 4, 2) := by decide +kernel
theorem dX7_plan_86 : decode cX7_plan 86 = .ok (.lreturn, 1) := by decide +kernel
theorem dX7_pass_0 : decode cX7_pass 0 = .ok (.iload_n 1, 1) := by decide +kernel
theorem dX7_pass_1 : decode cX7_pass 1 = .ok (.iconst 1, 1) := by decide +kernel
theorem dX7_pass_2 : decode cX7_pass 2 = .ok (.if_icmp .lt 9, 3) := by decide +kernel
theorem dX7_pass_5 : decode cX7_pass 5 = .ok (.iload_n 1, 1) := by decide +kernel
theorem dX7_pass_6 : decode cX7_pass 6 = .ok (.bipush 60, 2) := by decide +kernel
theorem dX7_pass_8 : decode cX7_pass 8 = .ok (.if_icmp .le 13, 3) := by decide +kernel
theorem dX7_pass_11 : decode cX7_pass 11 = .ok (.new 59, 3) := by decide +kernel
theorem dX7_pass_14 : decode cX7_pass 14 = .ok (.dup, 1) := by decide +kernel
theorem dX7_pass_15 : decode cX7_pass 15 = .ok (.ldc 202, 2) := by decide +kernel
theorem dX7_pass_17 : decode cX7_pass 17 = .ok (.invokespecial 63, 3) := by decide +kernel
theorem dX7_pass_20 : decode cX7_pass 20 = .ok (.athrow, 1) := by decide +kernel
theorem dX7_pass_21 : decode cX7_pass 21 = .ok (.aload_n 0, 1) := by decide +kernel
theorem dX7_pass_22 : decode cX7_pass 22 = .ok (.getfield 52, 3) := by decide +kernel
theorem dX7_pass_25 : decode cX7_pass 25 = .ok (.iload_n 1, 1) := by decide +kernel
theorem dX7_pass_26 : decode cX7_pass 26 = .ok (.iadd, 1) := by decide +kernel
theorem dX7_pass_27 : decode cX7_pass 27 = .ok (.sipush 3600, 3) := by decide +kernel
theorem dX7_pass_30 : decode cX7_pass 30 = .ok (.if_icmp .le 13, 3) := by decide +kernel
theorem dX7_pass_33 : decode cX7_pass 33 = .ok (.new 70, 3) := by decide +kernel
theorem dX7_pass_36 : decode cX7_pass 36 = .ok (.dup, 1) := by decide +kernel
theorem dX7_pass_37 : decode cX7_pass 37 = .ok (.ldc 204, 2) := by decide +kernel
theorem dX7_pass_39 : decode cX7_pass 39 = .ok (.invokespecial 74, 3) := by decide +kernel
theorem dX7_pass_42 : decode cX7_pass 42 = .ok (.athrow, 1) := by decide +kernel
theorem dX7_pass_43 : decode cX7_pass 43 = .ok (.iconst 0, 1) := by decide +kernel
theorem dX7_pass_44 : decode cX7_pass 44 = .ok (.istore_n 2, 1) := by decide +kernel
theorem dX7_pass_45 : decode cX7_pass 45 = .ok (.iload_n 2, 1) := by decide +kernel
theorem dX7_pass_46 : decode cX7_pass 46 = .ok (.iload_n 1, 1) := by decide +kernel
theorem dX7_pass_47 : decode cX7_pass 47 = .ok (.if_icmp .ge 13, 3) := by decide +kernel
theorem dX7_pass_50 : decode cX7_pass 50 = .ok (.aload_n 0, 1) := by decide +kernel
theorem dX7_pass_51 : decode cX7_pass 51 = .ok (.invokevirtual 206, 3) := by decide +kernel
theorem dX7_pass_54 : decode cX7_pass 54 = .ok (.iinc 2 1, 3) := by decide +kernel
theorem dX7_pass_57 : decode cX7_pass 57 = .ok (.goto (-12), 3) := by decide +kernel
theorem dX7_pass_60 : decode cX7_pass 60 = .ok (.aload_n 0, 1) := by decide +kernel
theorem dX7_pass_61 : decode cX7_pass 61 = .ok (.getfield 52, 3) := by decide +kernel
theorem dX7_pass_64 : decode cX7_pass 64 = .ok (.ireturn, 1) := by decide +kernel
theorem dX7_owes_0 : decode cX7_owes 0 = .ok (.aload_n 0, 1) := by decide +kernel
theorem dX7_owes_1 : decode cX7_owes 1 = .ok (.iload_n 1, 1) := by decide +kernel
theorem dX7_owes_2 : decode cX7_owes 2 = .ok (.invokevirtual 103, 3) := by decide +kernel
theorem dX7_owes_5 : decode cX7_owes 5 = .ok (.getfield 182, 3) := by decide +kernel
theorem dX7_owes_8 : decode cX7_owes 8 = .ok (.lreturn, 1) := by decide +kernel
theorem dX7_owesAnew_0 : decode cX7_owesAnew 0 = .ok (.aload_n 0, 1) := by decide +kernel
theorem dX7_owesAnew_1 : decode cX7_owesAnew 1 = .ok (.iload_n 1, 1) := by decide +kernel
theorem dX7_owesAnew_2 : decode cX7_owesAnew 2 = .ok (.invokevirtual 103, 3) := by decide +kernel
theorem dX7_owesAnew_5 : decode cX7_owesAnew 5 = .ok (.astore_n 2, 1) := by decide +kernel
theorem dX7_owesAnew_6 : decode cX7_owesAnew 6 = .ok (.aload_n 2, 1) := by decide +kernel
theorem dX7_owesAnew_7 : decode cX7_owesAnew 7 = .ok (.getfield 179, 3) := by decide +kernel
theorem dX7_owesAnew_10 : decode cX7_owesAnew 10 = .ok (.lneg, 1) := by decide +kernel
theorem dX7_owesAnew_11 : decode cX7_owesAnew 11 = .ok (.lstore_n 3, 1) := by decide +kernel
theorem dX7_owesAnew_12 : decode cX7_owesAnew 12 = .ok (.aload_n 0, 1) := by decide +kernel
theorem dX7_owesAnew_13 : decode cX7_owesAnew 13 = .ok (.invokevirtual 97, 3) := by decide +kernel
theorem dX7_owesAnew_16 : decode cX7_owesAnew 16 = .ok (.istore 5, 2) := by decide +kernel
theorem dX7_owesAnew_18 : decode cX7_owesAnew 18 = .ok (.iconst 0, 1) := by decide +kernel
theorem dX7_owesAnew_19 : decode cX7_owesAnew 19 = .ok (.istore 6, 2) := by decide +kernel
theorem dX7_owesAnew_21 : decode cX7_owesAnew 21 = .ok (.iload 6, 2) := by decide +kernel
theorem dX7_owesAnew_23 : decode cX7_owesAnew 23 = .ok (.iload 5, 2) := by decide +kernel
theorem dX7_owesAnew_25 : decode cX7_owesAnew 25 = .ok (.if_icmp .ge 46, 3) := by decide +kernel
theorem dX7_owesAnew_28 : decode cX7_owesAnew 28 = .ok (.aload_n 2, 1) := by decide +kernel
theorem dX7_owesAnew_29 : decode cX7_owesAnew 29 = .ok (.iload 6, 2) := by decide +kernel
theorem dX7_owesAnew_31 : decode cX7_owesAnew 31 = .ok (.invokevirtual 209, 3) := by decide +kernel
theorem dX7_owesAnew_34 : decode cX7_owesAnew 34 = .ok (.ifCond .eq 31, 3) := by decide +kernel
theorem dX7_owesAnew_37 : decode cX7_owesAnew 37 = .ok (.aload_n 0, 1) := by decide +kernel
theorem dX7_owesAnew_38 : decode cX7_owesAnew 38 = .ok (.iload 6, 2) := by decide +kernel
theorem dX7_owesAnew_40 : decode cX7_owesAnew 40 = .ok (.invokevirtual 213, 3) := by decide +kernel
theorem dX7_owesAnew_43 : decode cX7_owesAnew 43 = .ok (.aload_n 0, 1) := by decide +kernel
theorem dX7_owesAnew_44 : decode cX7_owesAnew 44 = .ok (.aload_n 2, 1) := by decide +kernel
theorem dX7_owesAnew_45 : decode cX7_owesAnew 45 = .ok (.iload 6, 2) := by decide +kernel
theorem dX7_owesAnew_47 : decode cX7_owesAnew 47 = .ok (.aload_n 0, 1) := by decide +kernel
theorem dX7_owesAnew_48 : decode cX7_owesAnew 48 = .ok (.getfield 44, 3) := by decide +kernel
theorem dX7_owesAnew_51 : decode cX7_owesAnew 51 = .ok (.invokevirtual 216, 3) := by decide +kernel
theorem dX7_owesAnew_54 : decode cX7_owesAnew 54 = .ok (.lload_n 3, 1) := by decide +kernel
theorem dX7_owesAnew_55 : decode cX7_owesAnew 55 = .ok (.aload_n 0, 1) := by decide +kernel
theorem dX7_owesAnew_56 : decode cX7_owesAnew 56 = .ok (.getfield 44, 3) := by decide +kernel
theorem dX7_owesAnew_59 : decode cX7_owesAnew 59 = .ok (.invokevirtual 220, 3) := by decide +kernel
theorem dX7_owesAnew_62 : decode cX7_owesAnew 62 = .ok (.i2l, 1) := by decide +kernel
theorem dX7_owesAnew_63 : decode cX7_owesAnew 63 = .ok (.ladd, 1) := by decide +kernel
theorem dX7_owesAnew_64 : decode cX7_owesAnew 64 = .ok (.lstore_n 3, 1) := by decide +kernel
theorem dX7_owesAnew_65 : decode cX7_owesAnew 65 = .ok (.iinc 6 1, 3) := by decide +kernel
theorem dX7_owesAnew_68 : decode cX7_owesAnew 68 = .ok (.goto (-47), 3) := by decide +kernel
theorem dX7_owesAnew_71 : decode cX7_owesAnew 71 = .ok (.lload_n 3, 1) := by decide +kernel
theorem dX7_owesAnew_72 : decode cX7_owesAnew 72 = .ok (.lreturn, 1) := by decide +kernel
theorem dX7_desk_0 : decode cX7_desk 0 = .ok (.aload_n 0, 1) := by decide +kernel
theorem dX7_desk_1 : decode cX7_desk 1 = .ok (.iload_n 1, 1) := by decide +kernel
theorem dX7_desk_2 : decode cX7_desk 2 = .ok (.invokevirtual 103, 3) := by decide +kernel
theorem dX7_desk_5 : decode cX7_desk 5 = .ok (.getfield 223, 3) := by decide +kernel
theorem dX7_desk_8 : decode cX7_desk 8 = .ok (.lreturn, 1) := by decide +kernel
theorem dX7_owner_0 : decode cX7_owner 0 = .ok (.aload_n 0, 1) := by decide +kernel
theorem dX7_owner_1 : decode cX7_owner 1 = .ok (.getfield 55, 3) := by decide +kernel
theorem dX7_owner_4 : decode cX7_owner 4 = .ok (.lreturn, 1) := by decide +kernel
theorem dX7_bill_0 : decode cX7_bill 0 = .ok (.aload_n 0, 1) := by decide +kernel
theorem dX7_bill_1 : decode cX7_bill 1 = .ok (.iload_n 1, 1) := by decide +kernel
theorem dX7_bill_2 : decode cX7_bill 2 = .ok (.invokevirtual 103, 3) := by decide +kernel
theorem dX7_bill_5 : decode cX7_bill 5 = .ok (.astore 4, 2) := by decide +kernel
theorem dX7_bill_7 : decode cX7_bill 7 = .ok (.aload_n 0, 1) := by decide +kernel
theorem dX7_bill_8 : decode cX7_bill 8 = .ok (.iload_n 2, 1) := by decide +kernel
theorem dX7_bill_9 : decode cX7_bill 9 = .ok (.invokevirtual 162, 3) := by decide +kernel
theorem dX7_bill_12 : decode cX7_bill 12 = .ok (.iload_n 3, 1) := by decide +kernel
theorem dX7_bill_13 : decode cX7_bill 13 = .ok (.ifCond .lt 8, 3) := by decide +kernel
theorem dX7_bill_16 : decode cX7_bill 16 = .ok (.iload_n 3, 1) := by decide +kernel
theorem dX7_bill_17 : decode cX7_bill 17 = .ok (.iconst 3, 1) := by decide +kernel
theorem dX7_bill_18 : decode cX7_bill 18 = .ok (.if_icmp .le 13, 3) := by decide +kernel
theorem dX7_bill_21 : decode cX7_bill 21 = .ok (.new 59, 3) := by decide +kernel
theorem dX7_bill_24 : decode cX7_bill 24 = .ok (.dup, 1) := by decide +kernel
theorem dX7_bill_25 : decode cX7_bill 25 = .ok (.ldc 226, 2) := by decide +kernel
theorem dX7_bill_27 : decode cX7_bill 27 = .ok (.invokespecial 63, 3) := by decide +kernel
theorem dX7_bill_30 : decode cX7_bill 30 = .ok (.athrow, 1) := by decide +kernel
theorem dX7_bill_31 : decode cX7_bill 31 = .ok (.aload 4, 2) := by decide +kernel
theorem dX7_bill_33 : decode cX7_bill 33 = .ok (.iload_n 2, 1) := by decide +kernel
theorem dX7_bill_34 : decode cX7_bill 34 = .ok (.invokevirtual 228, 3) := by decide +kernel
theorem dX7_bill_37 : decode cX7_bill 37 = .ok (.astore 5, 2) := by decide +kernel
theorem dX7_bill_39 : decode cX7_bill 39 = .ok (.aload 5, 2) := by decide +kernel
theorem dX7_bill_41 : decode cX7_bill 41 = .ok (.ifnonnull 9, 3) := by decide +kernel
theorem dX7_bill_44 : decode cX7_bill 44 = .ok (.ldc2_w 232, 3) := by decide +kernel
theorem dX7_bill_47 : decode cX7_bill 47 = .ok (.goto 10, 3) := by decide +kernel
theorem dX7_bill_50 : decode cX7_bill 50 = .ok (.aload 5, 2) := by decide +kernel
theorem dX7_bill_52 : decode cX7_bill 52 = .ok (.iload_n 3, 1) := by decide +kernel
theorem dX7_bill_53 : decode cX7_bill 53 = .ok (.invokevirtual 234, 3) := by decide +kernel
theorem dX7_bill_56 : decode cX7_bill 56 = .ok (.i2l, 1) := by decide +kernel
theorem dX7_bill_57 : decode cX7_bill 57 = .ok (.lreturn, 1) := by decide +kernel
theorem dX7_line_0 : decode cX7_line 0 = .ok (.aload_n 0, 1) := by decide +kernel
theorem dX7_line_1 : decode cX7_line 1 = .ok (.iload_n 1, 1) := by decide +kernel
theorem dX7_line_2 : decode cX7_line 2 = .ok (.invokevirtual 103, 3) := by decide +kernel
theorem dX7_line_5 : decode cX7_line 5 = .ok (.astore 4, 2) := by decide +kernel
theorem dX7_line_7 : decode cX7_line 7 = .ok (.aload_n 0, 1) := by decide +kernel
theorem dX7_line_8 : decode cX7_line 8 = .ok (.iload_n 2, 1) := by decide +kernel
theorem dX7_line_9 : decode cX7_line 9 = .ok (.invokevirtual 162, 3) := by decide +kernel
theorem dX7_line_12 : decode cX7_line 12 = .ok (.iload_n 3, 1) := by decide +kernel
theorem dX7_line_13 : decode cX7_line 13 = .ok (.ifCond .ge 13, 3) := by decide +kernel
theorem dX7_line_16 : decode cX7_line 16 = .ok (.new 144, 3) := by decide +kernel
theorem dX7_line_19 : decode cX7_line 19 = .ok (.dup, 1) := by decide +kernel
theorem dX7_line_20 : decode cX7_line 20 = .ok (.ldc 237, 2) := by decide +kernel
theorem dX7_line_22 : decode cX7_line 22 = .ok (.invokespecial 148, 3) := by decide +kernel
theorem dX7_line_25 : decode cX7_line 25 = .ok (.athrow, 1) := by decide +kernel
theorem dX7_line_26 : decode cX7_line 26 = .ok (.aload 4, 2) := by decide +kernel
theorem dX7_line_28 : decode cX7_line 28 = .ok (.iload_n 2, 1) := by decide +kernel
theorem dX7_line_29 : decode cX7_line 29 = .ok (.invokevirtual 228, 3) := by decide +kernel
theorem dX7_line_32 : decode cX7_line 32 = .ok (.astore 5, 2) := by decide +kernel
theorem dX7_line_34 : decode cX7_line 34 = .ok (.aload 5, 2) := by decide +kernel
theorem dX7_line_36 : decode cX7_line 36 = .ok (.ifnonnull 6, 3) := by decide +kernel
theorem dX7_line_39 : decode cX7_line 39 = .ok (.bipush 32, 2) := by decide +kernel
theorem dX7_line_41 : decode cX7_line 41 = .ok (.ireturn, 1) := by decide +kernel
theorem dX7_line_42 : decode cX7_line 42 = .ok (.aload_n 0, 1) := by decide +kernel
theorem dX7_line_43 : decode cX7_line 43 = .ok (.getfield 37, 3) := by decide +kernel
theorem dX7_line_46 : decode cX7_line 46 = .ok (.iconst 0, 1) := by decide +kernel
theorem dX7_line_47 : decode cX7_line 47 = .ok (.invokevirtual 239, 3) := by decide +kernel
theorem dX7_line_50 : decode cX7_line 50 = .ok (.aload_n 0, 1) := by decide +kernel
theorem dX7_line_51 : decode cX7_line 51 = .ok (.getfield 37, 3) := by decide +kernel
theorem dX7_line_54 : decode cX7_line 54 = .ok (.iload_n 1, 1) := by decide +kernel
theorem dX7_line_55 : decode cX7_line 55 = .ok (.iload_n 2, 1) := by decide +kernel
theorem dX7_line_56 : decode cX7_line 56 = .ok (.aload 5, 2) := by decide +kernel
theorem dX7_line_58 : decode cX7_line 58 = .ok (.invokestatic 242, 3) := by decide +kernel
theorem dX7_line_61 : decode cX7_line 61 = .ok (.iload_n 3, 1) := by decide +kernel
theorem dX7_line_62 : decode cX7_line 62 = .ok (.aload_n 0, 1) := by decide +kernel
theorem dX7_line_63 : decode cX7_line 63 = .ok (.getfield 37, 3) := by decide +kernel
theorem dX7_line_66 : decode cX7_line 66 = .ok (.invokevirtual 246, 3) := by decide +kernel
theorem dX7_line_69 : decode cX7_line 69 = .ok (.if_icmp .ge 14, 3) := by decide +kernel
theorem dX7_line_72 : decode cX7_line 72 = .ok (.aload_n 0, 1) := by decide +kernel
theorem dX7_line_73 : decode cX7_line 73 = .ok (.getfield 37, 3) := by decide +kernel
theorem dX7_line_76 : decode cX7_line 76 = .ok (.iload_n 3, 1) := by decide +kernel
theorem dX7_line_77 : decode cX7_line 77 = .ok (.invokevirtual 249, 3) := by decide +kernel
theorem dX7_line_80 : decode cX7_line 80 = .ok (.goto 5, 3) := by decide +kernel
theorem dX7_line_83 : decode cX7_line 83 = .ok (.bipush 32, 2) := by decide +kernel
theorem dX7_line_85 : decode cX7_line 85 = .ok (.ireturn, 1) := by decide +kernel
theorem dX7_use_0 : decode cX7_use 0 = .ok (.aload_n 0, 1) := by decide +kernel
theorem dX7_use_1 : decode cX7_use 1 = .ok (.iload_n 1, 1) := by decide +kernel
theorem dX7_use_2 : decode cX7_use 2 = .ok (.invokevirtual 82, 3) := by decide +kernel
theorem dX7_use_5 : decode cX7_use 5 = .ok (.astore_n 3, 1) := by decide +kernel
theorem dX7_use_6 : decode cX7_use 6 = .ok (.aload_n 0, 1) := by decide +kernel
theorem dX7_use_7 : decode cX7_use 7 = .ok (.iload_n 2, 1) := by decide +kernel
theorem dX7_use_8 : decode cX7_use 8 = .ok (.invokevirtual 162, 3) := by decide +kernel
theorem dX7_use_11 : decode cX7_use 11 = .ok (.aload_n 3, 1) := by decide +kernel
theorem dX7_use_12 : decode cX7_use 12 = .ok (.getfield 253, 3) := by decide +kernel
theorem dX7_use_15 : decode cX7_use 15 = .ok (.iload_n 2, 1) := by decide +kernel
theorem dX7_use_16 : decode cX7_use 16 = .ok (.invokevirtual 114, 3) := by decide +kernel
theorem dX7_use_19 : decode cX7_use 19 = .ok (.ireturn, 1) := by decide +kernel
theorem dX7_points_0 : decode cX7_points 0 = .ok (.aload_n 0, 1) := by decide +kernel
theorem dX7_points_1 : decode cX7_points 1 = .ok (.iload_n 1, 1) := by decide +kernel
theorem dX7_points_2 : decode cX7_points 2 = .ok (.invokevirtual 82, 3) := by decide +kernel
theorem dX7_points_5 : decode cX7_points 5 = .ok (.getfield 256, 3) := by decide +kernel
theorem dX7_points_8 : decode cX7_points 8 = .ok (.aload_n 0, 1) := by decide +kernel
theorem dX7_points_9 : decode cX7_points 9 = .ok (.invokevirtual 97, 3) := by decide +kernel
theorem dX7_points_12 : decode cX7_points 12 = .ok (.invokevirtual 114, 3) := by decide +kernel
theorem dX7_points_15 : decode cX7_points 15 = .ok (.ireturn, 1) := by decide +kernel
theorem dX7_planOf_0 : decode cX7_planOf 0 = .ok (.aload_n 0, 1) := by decide +kernel
theorem dX7_planOf_1 : decode cX7_planOf 1 = .ok (.iload_n 1, 1) := by decide +kernel
theorem dX7_planOf_2 : decode cX7_planOf 2 = .ok (.invokevirtual 103, 3) := by decide +kernel
theorem dX7_planOf_5 : decode cX7_planOf 5 = .ok (.getfield 187, 3) := by decide +kernel
theorem dX7_planOf_8 : decode cX7_planOf 8 = .ok (.getfield 191, 3) := by decide +kernel
theorem dX7_planOf_11 : decode cX7_planOf 11 = .ok (.ireturn, 1) := by decide +kernel
theorem dX7_flatAt_0 : decode cX7_flatAt 0 = .ok (.iload_n 1, 1) := by decide +kernel
theorem dX7_flatAt_1 : decode cX7_flatAt 1 = .ok (.ifCond .lt 14, 3) := by decide +kernel
theorem dX7_flatAt_4 : decode cX7_flatAt 4 = .ok (.iload_n 1, 1) := by decide +kernel
theorem dX7_flatAt_5 : decode cX7_flatAt 5 = .ok (.aload_n 0, 1) := by decide +kernel
theorem dX7_flatAt_6 : decode cX7_flatAt 6 = .ok (.getfield 10, 3) := by decide +kernel
theorem dX7_flatAt_9 : decode cX7_flatAt 9 = .ok (.invokevirtual 66, 3) := by decide +kernel
theorem dX7_flatAt_12 : decode cX7_flatAt 12 = .ok (.if_icmp .lt 14, 3) := by decide +kernel
theorem dX7_flatAt_15 : decode cX7_flatAt 15 = .ok (.new 144, 3) := by decide +kernel
theorem dX7_flatAt_18 : decode cX7_flatAt 18 = .ok (.dup, 1) := by decide +kernel
theorem dX7_flatAt_19 : decode cX7_flatAt 19 = .ok (.ldc_w 259, 3) := by decide +kernel
theorem dX7_flatAt_22 : decode cX7_flatAt 22 = .ok (.invokespecial 148, 3) := by decide +kernel
theorem dX7_flatAt_25 : decode cX7_flatAt 25 = .ok (.athrow, 1) := by decide +kernel
theorem dX7_flatAt_26 : decode cX7_flatAt 26 = .ok (.aload_n 0, 1) := by decide +kernel
theorem dX7_flatAt_27 : decode cX7_flatAt 27 = .ok (.getfield 10, 3) := by decide +kernel
theorem dX7_flatAt_30 : decode cX7_flatAt 30 = .ok (.iload_n 1, 1) := by decide +kernel
theorem dX7_flatAt_31 : decode cX7_flatAt 31 = .ok (.invokevirtual 149, 3) := by decide +kernel
theorem dX7_flatAt_34 : decode cX7_flatAt 34 = .ok (.checkcast 75, 3) := by decide +kernel
theorem dX7_flatAt_37 : decode cX7_flatAt 37 = .ok (.areturn, 1) := by decide +kernel
theorem dX7_leaseAt_0 : decode cX7_leaseAt 0 = .ok (.iload_n 1, 1) := by decide +kernel
theorem dX7_leaseAt_1 : decode cX7_leaseAt 1 = .ok (.ifCond .lt 14, 3) := by decide +kernel
theorem dX7_leaseAt_4 : decode cX7_leaseAt 4 = .ok (.iload_n 1, 1) := by decide +kernel
theorem dX7_leaseAt_5 : decode cX7_leaseAt 5 = .ok (.aload_n 0, 1) := by decide +kernel
theorem dX7_leaseAt_6 : decode cX7_leaseAt 6 = .ok (.getfield 16, 3) := by decide +kernel
theorem dX7_leaseAt_9 : decode cX7_leaseAt 9 = .ok (.invokevirtual 66, 3) := by decide +kernel
theorem dX7_leaseAt_12 : decode cX7_leaseAt 12 = .ok (.if_icmp .lt 14, 3) := by decide +kernel
theorem dX7_leaseAt_15 : decode cX7_leaseAt 15 = .ok (.new 144, 3) := by decide +kernel
theorem dX7_leaseAt_18 : decode cX7_leaseAt 18 = .ok (.dup, 1) := by decide +kernel
theorem dX7_leaseAt_19 : decode cX7_leaseAt 19 = .ok (.ldc_w 261, 3) := by decide +kernel
theorem dX7_leaseAt_22 : decode cX7_leaseAt 22 = .ok (.invokespecial 148, 3) := by decide +kernel
theorem dX7_leaseAt_25 : decode cX7_leaseAt 25 = .ok (.athrow, 1) := by decide +kernel
theorem dX7_leaseAt_26 : decode cX7_leaseAt 26 = .ok (.aload_n 0, 1) := by decide +kernel
theorem dX7_leaseAt_27 : decode cX7_leaseAt 27 = .ok (.getfield 16, 3) := by decide +kernel
theorem dX7_leaseAt_30 : decode cX7_leaseAt 30 = .ok (.iload_n 1, 1) := by decide +kernel
theorem dX7_leaseAt_31 : decode cX7_leaseAt 31 = .ok (.invokevirtual 149, 3) := by decide +kernel
theorem dX7_leaseAt_34 : decode cX7_leaseAt 34 = .ok (.checkcast 95, 3) := by decide +kernel
theorem dX7_leaseAt_37 : decode cX7_leaseAt 37 = .ok (.areturn, 1) := by decide +kernel
theorem dX7_needMonth_0 : decode cX7_needMonth 0 = .ok (.iload_n 1, 1) := by decide +kernel
theorem dX7_needMonth_1 : decode cX7_needMonth 1 = .ok (.ifCond .lt 11, 3) := by decide +kernel
theorem dX7_needMonth_4 : decode cX7_needMonth 4 = .ok (.iload_n 1, 1) := by decide +kernel
theorem dX7_needMonth_5 : decode cX7_needMonth 5 = .ok (.aload_n 0, 1) := by decide +kernel
theorem dX7_needMonth_6 : decode cX7_needMonth 6 = .ok (.invokevirtual 97, 3) := by decide +kernel
theorem dX7_needMonth_9 : decode cX7_needMonth 9 = .ok (.if_icmp .le 14, 3) := by decide +kernel
theorem dX7_needMonth_12 : decode cX7_needMonth 12 = .ok (.new 144, 3) := by decide +kernel
theorem dX7_needMonth_15 : decode cX7_needMonth 15 = .ok (.dup, 1) := by decide +kernel
theorem dX7_needMonth_16 : decode cX7_needMonth 16 = .ok (.ldc_w 263, 3) := by decide +kernel
theorem dX7_needMonth_19 : decode cX7_needMonth 19 = .ok (.invokespecial 148, 3) := by decide +kernel
theorem dX7_needMonth_22 : decode cX7_needMonth 22 = .ok (.athrow, 1) := by decide +kernel
theorem dX7_needMonth_23 : decode cX7_needMonth 23 = .ok (.return_, 1) := by decide +kernel
theorem dX7_monthNow_0 : decode cX7_monthNow 0 = .ok (.aload_n 0, 1) := by decide +kernel
theorem dX7_monthNow_1 : decode cX7_monthNow 1 = .ok (.getfield 52, 3) := by decide +kernel
theorem dX7_monthNow_4 : decode cX7_monthNow 4 = .ok (.bipush 30, 2) := by decide +kernel
theorem dX7_monthNow_6 : decode cX7_monthNow 6 = .ok (.idiv, 1) := by decide +kernel
theorem dX7_monthNow_7 : decode cX7_monthNow 7 = .ok (.ireturn, 1) := by decide +kernel
theorem dX7_isLetOn_0 : decode cX7_isLetOn 0 = .ok (.iconst 0, 1) := by decide +kernel
theorem dX7_isLetOn_1 : decode cX7_isLetOn 1 = .ok (.istore_n 2, 1) := by decide +kernel
theorem dX7_isLetOn_2 : decode cX7_isLetOn 2 = .ok (.iload_n 2, 1) := by decide +kernel
theorem dX7_isLetOn_3 : decode cX7_isLetOn 3 = .ok (.aload_n 0, 1) := by decide +kernel
theorem dX7_isLetOn_4 : decode cX7_isLetOn 4 = .ok (.getfield 16, 3) := by decide +kernel
theorem dX7_isLetOn_7 : decode cX7_isLetOn 7 = .ok (.invokevirtual 66, 3) := by decide +kernel
theorem dX7_isLetOn_10 : decode cX7_isLetOn 10 = .ok (.if_icmp .ge 39, 3) := by decide +kernel
theorem dX7_isLetOn_13 : decode cX7_isLetOn 13 = .ok (.aload_n 0, 1) := by decide +kernel
theorem dX7_isLetOn_14 : decode cX7_isLetOn 14 = .ok (.getfield 16, 3) := by decide +kernel
theorem dX7_isLetOn_17 : decode cX7_isLetOn 17 = .ok (.iload_n 2, 1) := by decide +kernel
theorem dX7_isLetOn_18 : decode cX7_isLetOn 18 = .ok (.invokevirtual 149, 3) := by decide +kernel
theorem dX7_isLetOn_21 : decode cX7_isLetOn 21 = .ok (.checkcast 95, 3) := by decide +kernel
theorem dX7_isLetOn_24 : decode cX7_isLetOn 24 = .ok (.astore_n 3, 1) := by decide +kernel
theorem dX7_isLetOn_25 : decode cX7_isLetOn 25 = .ok (.aload_n 3, 1) := by decide +kernel
theorem dX7_isLetOn_26 : decode cX7_isLetOn 26 = .ok (.getfield 265, 3) := by decide +kernel
theorem dX7_isLetOn_29 : decode cX7_isLetOn 29 = .ok (.aload_n 1, 1) := by decide +kernel
theorem dX7_isLetOn_30 : decode cX7_isLetOn 30 = .ok (.if_acmp .ne 13, 3) := by decide +kernel
theorem dX7_isLetOn_33 : decode cX7_isLetOn 33 = .ok (.aload_n 3, 1) := by decide +kernel
theorem dX7_isLetOn_34 : decode cX7_isLetOn 34 = .ok (.getfield 107, 3) := by decide +kernel
theorem dX7_isLetOn_37 : decode cX7_isLetOn 37 = .ok (.iconst (-1), 1) := by decide +kernel
theorem dX7_isLetOn_38 : decode cX7_isLetOn 38 = .ok (.if_icmp .ne 5, 3) := by decide +kernel
theorem dX7_isLetOn_41 : decode cX7_isLetOn 41 = .ok (.iconst 1, 1) := by decide +kernel
theorem dX7_isLetOn_42 : decode cX7_isLetOn 42 = .ok (.ireturn, 1) := by decide +kernel
theorem dX7_isLetOn_43 : decode cX7_isLetOn 43 = .ok (.iinc 2 1, 3) := by decide +kernel
theorem dX7_isLetOn_46 : decode cX7_isLetOn 46 = .ok (.goto (-44), 3) := by decide +kernel
theorem dX7_isLetOn_49 : decode cX7_isLetOn 49 = .ok (.iconst 0, 1) := by decide +kernel
theorem dX7_isLetOn_50 : decode cX7_isLetOn 50 = .ok (.ireturn, 1) := by decide +kernel
theorem dX7_postToTenant_0 : decode cX7_postToTenant 0 = .ok (.aload_n 1, 1) := by decide +kernel
theorem dX7_postToTenant_1 : decode cX7_postToTenant 1 = .ok (.dup, 1) := by decide +kernel
theorem dX7_postToTenant_2 : decode cX7_postToTenant 2 = .ok (.getfield 182, 3) := by decide +kernel
theorem dX7_postToTenant_5 : decode cX7_postToTenant 5 = .ok (.lload_n 2, 1) := by decide +kernel
theorem dX7_postToTenant_6 : decode cX7_postToTenant 6 = .ok (.ladd, 1) := by decide +kernel
theorem dX7_postToTenant_7 : decode cX7_postToTenant 7 = .ok (.putfield 182, 3) := by decide +kernel
theorem dX7_postToTenant_10 : decode cX7_postToTenant 10 = .ok (.aload_n 0, 1) := by decide +kernel
theorem dX7_postToTenant_11 : decode cX7_postToTenant 11 = .ok (.dup, 1) := by decide +kernel
theorem dX7_postToTenant_12 : decode cX7_postToTenant 12 = .ok (.getfield 55, 3) := by decide +kernel
theorem dX7_postToTenant_15 : decode cX7_postToTenant 15 = .ok (.lload_n 2, 1) := by decide +kernel
theorem dX7_postToTenant_16 : decode cX7_postToTenant 16 = .ok (.lsub, 1) := by decide +kernel
theorem dX7_postToTenant_17 : decode cX7_postToTenant 17 = .ok (.putfield 55, 3) := by decide +kernel
theorem dX7_postToTenant_20 : decode cX7_postToTenant 20 = .ok (.return_, 1) := by decide +kernel
theorem dX7_postToDesk_0 : decode cX7_postToDesk 0 = .ok (.aload_n 1, 1) := by decide +kernel
theorem dX7_postToDesk_1 : decode cX7_postToDesk 1 = .ok (.dup, 1) := by decide +kernel
theorem dX7_postToDesk_2 : decode cX7_postToDesk 2 = .ok (.getfield 223, 3) := by decide +kernel
theorem dX7_postToDesk_5 : decode cX7_postToDesk 5 = .ok (.lload_n 2, 1) := by decide +kernel
theorem dX7_postToDesk_6 : decode cX7_postToDesk 6 = .ok (.ladd, 1) := by decide +kernel
theorem dX7_postToDesk_7 : decode cX7_postToDesk 7 = .ok (.putfield 223, 3) := by decide +kernel
theorem dX7_postToDesk_10 : decode cX7_postToDesk 10 = .ok (.aload_n 0, 1) := by decide +kernel
theorem dX7_postToDesk_11 : decode cX7_postToDesk 11 = .ok (.dup, 1) := by decide +kernel
theorem dX7_postToDesk_12 : decode cX7_postToDesk 12 = .ok (.getfield 55, 3) := by decide +kernel
theorem dX7_postToDesk_15 : decode cX7_postToDesk 15 = .ok (.lload_n 2, 1) := by decide +kernel
theorem dX7_postToDesk_16 : decode cX7_postToDesk 16 = .ok (.lsub, 1) := by decide +kernel
theorem dX7_postToDesk_17 : decode cX7_postToDesk 17 = .ok (.putfield 55, 3) := by decide +kernel
theorem dX7_postToDesk_20 : decode cX7_postToDesk 20 = .ok (.return_, 1) := by decide +kernel
theorem dX7_endDay_0 : decode cX7_endDay 0 = .ok (.aload_n 0, 1) := by decide +kernel
theorem dX7_endDay_1 : decode cX7_endDay 1 = .ok (.invokevirtual 97, 3) := by decide +kernel
theorem dX7_endDay_4 : decode cX7_endDay 4 = .ok (.istore_n 1, 1) := by decide +kernel
theorem dX7_endDay_5 : decode cX7_endDay 5 = .ok (.iconst 0, 1) := by decide +kernel
theorem dX7_endDay_6 : decode cX7_endDay 6 = .ok (.istore_n 2, 1) := by decide +kernel
theorem dX7_endDay_7 : decode cX7_endDay 7 = .ok (.iload_n 2, 1) := by decide +kernel
theorem dX7_endDay_8 : decode cX7_endDay 8 = .ok (.aload_n 0, 1) := by decide +kernel
theorem dX7_endDay_9 : decode cX7_endDay 9 = .ok (.getfield 19, 3) := by decide +kernel
theorem dX7_endDay_12 : decode cX7_endDay 12 = .ok (.invokevirtual 66, 3) := by decide +kernel
theorem dX7_endDay_15 : decode cX7_endDay 15 = .ok (.if_icmp .ge 28, 3) := by decide +kernel
theorem dX7_endDay_18 : decode cX7_endDay 18 = .ok (.aload_n 0, 1) := by decide +kernel
theorem dX7_endDay_19 : decode cX7_endDay 19 = .ok (.getfield 19, 3) := by decide +kernel
theorem dX7_endDay_22 : decode cX7_endDay 22 = .ok (.iload_n 2, 1) := by decide +kernel
theorem dX7_endDay_23 : decode cX7_endDay 23 = .ok (.invokevirtual 149, 3) := by decide +kernel
theorem dX7_endDay_26 : decode cX7_endDay 26 = .ok (.checkcast 141, 3) := by decide +kernel
theorem dX7_endDay_29 : decode cX7_endDay 29 = .ok (.aload_n 0, 1) := by decide +kernel
theorem dX7_endDay_30 : decode cX7_endDay 30 = .ok (.getfield 52, 3) := by decide +kernel
theorem dX7_endDay_33 : decode cX7_endDay 33 = .ok (.iload_n 1, 1) := by decide +kernel
theorem dX7_endDay_34 : decode cX7_endDay 34 = .ok (.invokevirtual 269, 3) := by decide +kernel
theorem dX7_endDay_37 : decode cX7_endDay 37 = .ok (.iinc 2 1, 3) := by decide +kernel
theorem dX7_endDay_40 : decode cX7_endDay 40 = .ok (.goto (-33), 3) := by decide +kernel
theorem dX7_endDay_43 : decode cX7_endDay 43 = .ok (.aload_n 0, 1) := by decide +kernel
theorem dX7_endDay_44 : decode cX7_endDay 44 = .ok (.dup, 1) := by decide +kernel
theorem dX7_endDay_45 : decode cX7_endDay 45 = .ok (.getfield 52, 3) := by decide +kernel
theorem dX7_endDay_48 : decode cX7_endDay 48 = .ok (.iconst 1, 1) := by decide +kernel
theorem dX7_endDay_49 : decode cX7_endDay 49 = .ok (.iadd, 1) := by decide +kernel
theorem dX7_endDay_50 : decode cX7_endDay 50 = .ok (.putfield 52, 3) := by decide +kernel
theorem dX7_endDay_53 : decode cX7_endDay 53 = .ok (.aload_n 0, 1) := by decide +kernel
theorem dX7_endDay_54 : decode cX7_endDay 54 = .ok (.invokevirtual 97, 3) := by decide +kernel
theorem dX7_endDay_57 : decode cX7_endDay 57 = .ok (.iload_n 1, 1) := by decide +kernel
theorem dX7_endDay_58 : decode cX7_endDay 58 = .ok (.if_icmp .le 15, 3) := by decide +kernel
theorem dX7_endDay_61 : decode cX7_endDay 61 = .ok (.aload_n 0, 1) := by decide +kernel
theorem dX7_endDay_62 : decode cX7_endDay 62 = .ok (.iload_n 1, 1) := by decide +kernel
theorem dX7_endDay_63 : decode cX7_endDay 63 = .ok (.invokevirtual 272, 3) := by decide +kernel
theorem dX7_endDay_66 : decode cX7_endDay 66 = .ok (.aload_n 0, 1) := by decide +kernel
theorem dX7_endDay_67 : decode cX7_endDay 67 = .ok (.iload_n 1, 1) := by decide +kernel
theorem dX7_endDay_68 : decode cX7_endDay 68 = .ok (.iconst 1, 1) := by decide +kernel
theorem dX7_endDay_69 : decode cX7_endDay 69 = .ok (.iadd, 1) := by decide +kernel
theorem dX7_endDay_70 : decode cX7_endDay 70 = .ok (.invokevirtual 275, 3) := by decide +kernel
theorem dX7_endDay_73 : decode cX7_endDay 73 = .ok (.return_, 1) := by decide +kernel
theorem dX7_endMonth_0 : decode cX7_endMonth 0 = .ok (.iconst 0, 1) := by decide +kernel
theorem dX7_endMonth_1 : decode cX7_endMonth 1 = .ok (.istore_n 2, 1) := by decide +kernel
theorem dX7_endMonth_2 : decode cX7_endMonth 2 = .ok (.iload_n 2, 1) := by decide +kernel
theorem dX7_endMonth_3 : decode cX7_endMonth 3 = .ok (.aload_n 0, 1) := by decide +kernel
theorem dX7_endMonth_4 : decode cX7_endMonth 4 = .ok (.getfield 10, 3) := by decide +kernel
theorem dX7_endMonth_7 : decode cX7_endMonth 7 = .ok (.invokevirtual 66, 3) := by decide +kernel
theorem dX7_endMonth_10 : decode cX7_endMonth 10 = .ok (.if_icmp .ge 24, 3) := by decide +kernel
theorem dX7_endMonth_13 : decode cX7_endMonth 13 = .ok (.aload_n 0, 1) := by decide +kernel
theorem dX7_endMonth_14 : decode cX7_endMonth 14 = .ok (.getfield 10, 3) := by decide +kernel
theorem dX7_endMonth_17 : decode cX7_endMonth 17 = .ok (.iload_n 2, 1) := by decide +kernel
theorem dX7_endMonth_18 : decode cX7_endMonth 18 = .ok (.invokevirtual 149, 3) := by decide +kernel
theorem dX7_endMonth_21 : decode cX7_endMonth 21 = .ok (.checkcast 75, 3) := by decide +kernel
theorem dX7_endMonth_24 : decode cX7_endMonth 24 = .ok (.iload_n 1, 1) := by decide +kernel
theorem dX7_endMonth_25 : decode cX7_endMonth 25 = .ok (.invokevirtual 278, 3) := by decide +kernel
theorem dX7_endMonth_28 : decode cX7_endMonth 28 = .ok (.iinc 2 1, 3) := by decide +kernel
theorem dX7_endMonth_31 : decode cX7_endMonth 31 = .ok (.goto (-29), 3) := by decide +kernel
theorem dX7_endMonth_34 : decode cX7_endMonth 34 = .ok (.aload_n 0, 1) := by decide +kernel
theorem dX7_endMonth_35 : decode cX7_endMonth 35 = .ok (.iload_n 1, 1) := by decide +kernel
theorem dX7_endMonth_36 : decode cX7_endMonth 36 = .ok (.invokevirtual 213, 3) := by decide +kernel
theorem dX7_endMonth_39 : decode cX7_endMonth 39 = .ok (.iconst 0, 1) := by decide +kernel
theorem dX7_endMonth_40 : decode cX7_endMonth 40 = .ok (.istore_n 2, 1) := by decide +kernel
theorem dX7_endMonth_41 : decode cX7_endMonth 41 = .ok (.iload_n 2, 1) := by decide +kernel
theorem dX7_endMonth_42 : decode cX7_endMonth 42 = .ok (.aload_n 0, 1) := by decide +kernel
theorem dX7_endMonth_43 : decode cX7_endMonth 43 = .ok (.getfield 16, 3) := by decide +kernel
theorem dX7_endMonth_46 : decode cX7_endMonth 46 = .ok (.invokevirtual 66, 3) := by decide +kernel
theorem dX7_endMonth_49 : decode cX7_endMonth 49 = .ok (.if_icmp .ge 46, 3) := by decide +kernel
theorem dX7_endMonth_52 : decode cX7_endMonth 52 = .ok (.aload_n 0, 1) := by decide +kernel
theorem dX7_endMonth_53 : decode cX7_endMonth 53 = .ok (.getfield 16, 3) := by decide +kernel
theorem dX7_endMonth_56 : decode cX7_endMonth 56 = .ok (.iload_n 2, 1) := by decide +kernel
theorem dX7_endMonth_57 : decode cX7_endMonth 57 = .ok (.invokevirtual 149, 3) := by decide +kernel
theorem dX7_endMonth_60 : decode cX7_endMonth 60 = .ok (.checkcast 95, 3) := by decide +kernel
theorem dX7_endMonth_63 : decode cX7_endMonth 63 = .ok (.astore_n 3, 1) := by decide +kernel
theorem dX7_endMonth_64 : decode cX7_endMonth 64 = .ok (.aload_n 3, 1) := by decide +kernel
theorem dX7_endMonth_65 : decode cX7_endMonth 65 = .ok (.getfield 187, 3) := by decide +kernel
theorem dX7_endMonth_68 : decode cX7_endMonth 68 = .ok (.aload_n 3, 1) := by decide +kernel
theorem dX7_endMonth_69 : decode cX7_endMonth 69 = .ok (.getfield 182, 3) := by decide +kernel
theorem dX7_endMonth_72 : decode cX7_endMonth 72 = .ok (.invokevirtual 281, 3) := by decide +kernel
theorem dX7_endMonth_75 : decode cX7_endMonth 75 = .ok (.aload_n 3, 1) := by decide +kernel
theorem dX7_endMonth_76 : decode cX7_endMonth 76 = .ok (.iload_n 1, 1) := by decide +kernel
theorem dX7_endMonth_77 : decode cX7_endMonth 77 = .ok (.invokevirtual 209, 3) := by decide +kernel
theorem dX7_endMonth_80 : decode cX7_endMonth 80 = .ok (.ifCond .eq 9, 3) := by decide +kernel
theorem dX7_endMonth_83 : decode cX7_endMonth 83 = .ok (.aload_n 0, 1) := by decide +kernel
theorem dX7_endMonth_84 : decode cX7_endMonth 84 = .ok (.aload_n 3, 1) := by decide +kernel
theorem dX7_endMonth_85 : decode cX7_endMonth 85 = .ok (.iload_n 1, 1) := by decide +kernel
theorem dX7_endMonth_86 : decode cX7_endMonth 86 = .ok (.invokevirtual 284, 3) := by decide +kernel
theorem dX7_endMonth_89 : decode cX7_endMonth 89 = .ok (.iinc 2 1, 3) := by decide +kernel
theorem dX7_endMonth_92 : decode cX7_endMonth 92 = .ok (.goto (-51), 3) := by decide +kernel
theorem dX7_endMonth_95 : decode cX7_endMonth 95 = .ok (.return_, 1) := by decide +kernel
theorem dX7_makeBill_0 : decode cX7_makeBill 0 = .ok (.new 41, 3) := by decide +kernel
theorem dX7_makeBill_3 : decode cX7_makeBill 3 = .ok (.dup, 1) := by decide +kernel
theorem dX7_makeBill_4 : decode cX7_makeBill 4 = .ok (.invokespecial 43, 3) := by decide +kernel
theorem dX7_makeBill_7 : decode cX7_makeBill 7 = .ok (.astore_n 3, 1) := by decide +kernel
theorem dX7_makeBill_8 : decode cX7_makeBill 8 = .ok (.aload_n 0, 1) := by decide +kernel
theorem dX7_makeBill_9 : decode cX7_makeBill 9 = .ok (.aload_n 1, 1) := by decide +kernel
theorem dX7_makeBill_10 : decode cX7_makeBill 10 = .ok (.iload_n 2, 1) := by decide +kernel
theorem dX7_makeBill_11 : decode cX7_makeBill 11 = .ok (.aload_n 3, 1) := by decide +kernel
theorem dX7_makeBill_12 : decode cX7_makeBill 12 = .ok (.invokevirtual 216, 3) := by decide +kernel
theorem dX7_makeBill_15 : decode cX7_makeBill 15 = .ok (.aload_n 1, 1) := by decide +kernel
theorem dX7_makeBill_16 : decode cX7_makeBill 16 = .ok (.iload_n 2, 1) := by decide +kernel
theorem dX7_makeBill_17 : decode cX7_makeBill 17 = .ok (.aload_n 3, 1) := by decide +kernel
theorem dX7_makeBill_18 : decode cX7_makeBill 18 = .ok (.invokevirtual 288, 3) := by decide +kernel
theorem dX7_makeBill_21 : decode cX7_makeBill 21 = .ok (.aload_n 0, 1) := by decide +kernel
theorem dX7_makeBill_22 : decode cX7_makeBill 22 = .ok (.aload_n 1, 1) := by decide +kernel
theorem dX7_makeBill_23 : decode cX7_makeBill 23 = .ok (.aload_n 3, 1) := by decide +kernel
theorem dX7_makeBill_24 : decode cX7_makeBill 24 = .ok (.invokevirtual 220, 3) := by decide +kernel
theorem dX7_makeBill_27 : decode cX7_makeBill 27 = .ok (.i2l, 1) := by decide +kernel
theorem dX7_makeBill_28 : decode cX7_makeBill 28 = .ok (.invokevirtual 172, 3) := by decide +kernel
theorem dX7_makeBill_31 : decode cX7_makeBill 31 = .ok (.aload_n 0, 1) := by decide +kernel
theorem dX7_makeBill_32 : decode cX7_makeBill 32 = .ok (.aload_n 1, 1) := by decide +kernel
theorem dX7_makeBill_33 : decode cX7_makeBill 33 = .ok (.aload_n 3, 1) := by decide +kernel
theorem dX7_makeBill_34 : decode cX7_makeBill 34 = .ok (.getfield 292, 3) := by decide +kernel
theorem dX7_makeBill_37 : decode cX7_makeBill 37 = .ok (.i2l, 1) := by decide +kernel
theorem dX7_makeBill_38 : decode cX7_makeBill 38 = .ok (.invokevirtual 176, 3) := by decide +kernel
theorem dX7_makeBill_41 : decode cX7_makeBill 41 = .ok (.return_, 1) := by decide +kernel
theorem dX7_beginMonth_0 : decode cX7_beginMonth 0 = .ok (.aload_n 0, 1) := by decide +kernel
theorem dX7_beginMonth_1 : decode cX7_beginMonth 1 = .ok (.getfield 27, 3) := by decide +kernel
theorem dX7_beginMonth_4 : decode cX7_beginMonth 4 = .ok (.iload_n 1, 1) := by decide +kernel
theorem dX7_beginMonth_5 : decode cX7_beginMonth 5 = .ok (.aload_n 0, 1) := by decide +kernel
theorem dX7_beginMonth_6 : decode cX7_beginMonth 6 = .ok (.getfield 48, 3) := by decide +kernel
theorem dX7_beginMonth_9 : decode cX7_beginMonth 9 = .ok (.invokevirtual 133, 3) := by decide +kernel
theorem dX7_beginMonth_12 : decode cX7_beginMonth 12 = .ok (.iconst 0, 1) := by decide +kernel
theorem dX7_beginMonth_13 : decode cX7_beginMonth 13 = .ok (.istore_n 2, 1) := by decide +kernel
theorem dX7_beginMonth_14 : decode cX7_beginMonth 14 = .ok (.iload_n 2, 1) := by decide +kernel
theorem dX7_beginMonth_15 : decode cX7_beginMonth 15 = .ok (.aload_n 0, 1) := by decide +kernel
theorem dX7_beginMonth_16 : decode cX7_beginMonth 16 = .ok (.getfield 16, 3) := by decide +kernel
theorem dX7_beginMonth_19 : decode cX7_beginMonth 19 = .ok (.invokevirtual 66, 3) := by decide +kernel
theorem dX7_beginMonth_22 : decode cX7_beginMonth 22 = .ok (.if_icmp .ge 35, 3) := by decide +kernel
theorem dX7_beginMonth_25 : decode cX7_beginMonth 25 = .ok (.aload_n 0, 1) := by decide +kernel
theorem dX7_beginMonth_26 : decode cX7_beginMonth 26 = .ok (.getfield 16, 3) := by decide +kernel
theorem dX7_beginMonth_29 : decode cX7_beginMonth 29 = .ok (.iload_n 2, 1) := by decide +kernel
theorem dX7_beginMonth_30 : decode cX7_beginMonth 30 = .ok (.invokevirtual 149, 3) := by decide +kernel
theorem dX7_beginMonth_33 : decode cX7_beginMonth 33 = .ok (.checkcast 95, 3) := by decide +kernel
theorem dX7_beginMonth_36 : decode cX7_beginMonth 36 = .ok (.astore_n 3, 1) := by decide +kernel
theorem dX7_beginMonth_37 : decode cX7_beginMonth 37 = .ok (.aload_n 3, 1) := by decide +kernel
theorem dX7_beginMonth_38 : decode cX7_beginMonth 38 = .ok (.iload_n 1, 1) := by decide +kernel
theorem dX7_beginMonth_39 : decode cX7_beginMonth 39 = .ok (.invokevirtual 209, 3) := by decide +kernel
theorem dX7_beginMonth_42 : decode cX7_beginMonth 42 = .ok (.ifCond .eq 9, 3) := by decide +kernel
theorem dX7_beginMonth_45 : decode cX7_beginMonth 45 = .ok (.aload_n 0, 1) := by decide +kernel
theorem dX7_beginMonth_46 : decode cX7_beginMonth 46 = .ok (.aload_n 3, 1) := by decide +kernel
theorem dX7_beginMonth_47 : decode cX7_beginMonth 47 = .ok (.iload_n 1, 1) := by decide +kernel
theorem dX7_beginMonth_48 : decode cX7_beginMonth 48 = .ok (.invokevirtual 295, 3) := by decide +kernel
theorem dX7_beginMonth_51 : decode cX7_beginMonth 51 = .ok (.iinc 2 1, 3) := by decide +kernel
theorem dX7_beginMonth_54 : decode cX7_beginMonth 54 = .ok (.goto (-40), 3) := by decide +kernel
theorem dX7_beginMonth_57 : decode cX7_beginMonth 57 = .ok (.return_, 1) := by decide +kernel
theorem dX7_payAhead_0 : decode cX7_payAhead 0 = .ok (.aload_n 1, 1) := by decide +kernel
theorem dX7_payAhead_1 : decode cX7_payAhead 1 = .ok (.aload_n 0, 1) := by decide +kernel
theorem dX7_payAhead_2 : decode cX7_payAhead 2 = .ok (.getfield 27, 3) := by decide +kernel
theorem dX7_payAhead_5 : decode cX7_payAhead 5 = .ok (.iload_n 2, 1) := by decide +kernel
theorem dX7_payAhead_6 : decode cX7_payAhead 6 = .ok (.invokevirtual 114, 3) := by decide +kernel
theorem dX7_payAhead_9 : decode cX7_payAhead 9 = .ok (.invokevirtual 298, 3) := by decide +kernel
theorem dX7_payAhead_12 : decode cX7_payAhead 12 = .ok (.istore_n 3, 1) := by decide +kernel
theorem dX7_payAhead_13 : decode cX7_payAhead 13 = .ok (.iload_n 3, 1) := by decide +kernel
theorem dX7_payAhead_14 : decode cX7_payAhead 14 = .ok (.aload_n 1, 1) := by decide +kernel
theorem dX7_payAhead_15 : decode cX7_payAhead 15 = .ok (.iload_n 2, 1) := by decide +kernel
theorem dX7_payAhead_16 : decode cX7_payAhead 16 = .ok (.invokevirtual 301, 3) := by decide +kernel
theorem dX7_payAhead_19 : decode cX7_payAhead 19 = .ok (.invokestatic 304, 3) := by decide +kernel
theorem dX7_payAhead_22 : decode cX7_payAhead 22 = .ok (.i2l, 1) := by decide +kernel
theorem dX7_payAhead_23 : decode cX7_payAhead 23 = .ok (.aload_n 1, 1) := by decide +kernel
theorem dX7_payAhead_24 : decode cX7_payAhead 24 = .ok (.getfield 223, 3) := by decide +kernel
theorem dX7_payAhead_27 : decode cX7_payAhead 27 = .ok (.ladd, 1) := by decide +kernel
theorem dX7_payAhead_28 : decode cX7_payAhead 28 = .ok (.lstore 4, 2) := by decide +kernel
theorem dX7_payAhead_30 : decode cX7_payAhead 30 = .ok (.lload 4, 2) := by decide +kernel
theorem dX7_payAhead_32 : decode cX7_payAhead 32 = .ok (.lconst 0, 1) := by decide +kernel
theorem dX7_payAhead_33 : decode cX7_payAhead 33 = .ok (.lcmp, 1) := by decide +kernel
theorem dX7_payAhead_34 : decode cX7_payAhead 34 = .ok (.ifCond .le 11, 3) := by decide +kernel
theorem dX7_payAhead_37 : decode cX7_payAhead 37 = .ok (.aload_n 0, 1) := by decide +kernel
theorem dX7_payAhead_38 : decode cX7_payAhead 38 = .ok (.aload_n 1, 1) := by decide +kernel
theorem dX7_payAhead_39 : decode cX7_payAhead 39 = .ok (.lload 4, 2) := by decide +kernel
theorem dX7_payAhead_41 : decode cX7_payAhead 41 = .ok (.lneg, 1) := by decide +kernel
theorem dX7_payAhead_42 : decode cX7_payAhead 42 = .ok (.invokevirtual 176, 3) := by decide +kernel
theorem dX7_payAhead_45 : decode cX7_payAhead 45 = .ok (.return_, 1) := by decide +kernel
theorem dX7_shareHeat_0 : decode cX7_shareHeat 0 = .ok (.aload_n 0, 1) := by decide +kernel
theorem dX7_shareHeat_1 : decode cX7_shareHeat 1 = .ok (.getfield 31, 3) := by decide +kernel
theorem dX7_shareHeat_4 : decode cX7_shareHeat 4 = .ok (.iload_n 1, 1) := by decide +kernel
theorem dX7_shareHeat_5 : decode cX7_shareHeat 5 = .ok (.invokevirtual 114, 3) := by decide +kernel
theorem dX7_shareHeat_8 : decode cX7_shareHeat 8 = .ok (.istore_n 2, 1) := by decide +kernel
theorem dX7_shareHeat_9 : decode cX7_shareHeat 9 = .ok (.aload_n 0, 1) := by decide +kernel
theorem dX7_shareHeat_10 : decode cX7_shareHeat 10 = .ok (.iload_n 1, 1) := by decide +kernel
theorem dX7_shareHeat_11 : decode cX7_shareHeat 11 = .ok (.invokevirtual 307, 3) := by decide +kernel
theorem dX7_shareHeat_14 : decode cX7_shareHeat 14 = .ok (.lconst 0, 1) := by decide +kernel
theorem dX7_shareHeat_15 : decode cX7_shareHeat 15 = .ok (.lcmp, 1) := by decide +kernel
theorem dX7_shareHeat_16 : decode cX7_shareHeat 16 = .ok (.ifCond .ne 7, 3) := by decide +kernel
theorem dX7_shareHeat_19 : decode cX7_shareHeat 19 = .ok (.iload_n 2, 1) := by decide +kernel
theorem dX7_shareHeat_20 : decode cX7_shareHeat 20 = .ok (.goto 9, 3) := by decide +kernel
theorem dX7_shareHeat_23 : decode cX7_shareHeat 23 = .ok (.iload_n 2, 1) := by decide +kernel
theorem dX7_shareHeat_24 : decode cX7_shareHeat 24 = .ok (.iconst 3, 1) := by decide +kernel
theorem dX7_shareHeat_25 : decode cX7_shareHeat 25 = .ok (.imul, 1) := by decide +kernel
theorem dX7_shareHeat_26 : decode cX7_shareHeat 26 = .ok (.bipush 10, 2) := by decide +kernel
theorem dX7_shareHeat_28 : decode cX7_shareHeat 28 = .ok (.idiv, 1) := by decide +kernel
theorem dX7_shareHeat_29 : decode cX7_shareHeat 29 = .ok (.istore_n 3, 1) := by decide +kernel
theorem dX7_shareHeat_30 : decode cX7_shareHeat 30 = .ok (.iconst 0, 1) := by decide +kernel
theorem dX7_shareHeat_31 : decode cX7_shareHeat 31 = .ok (.istore 4, 2) := by decide +kernel
theorem dX7_shareHeat_33 : decode cX7_shareHeat 33 = .ok (.iload 4, 2) := by decide +kernel
theorem dX7_shareHeat_35 : decode cX7_shareHeat 35 = .ok (.aload_n 0, 1) := by decide +kernel
theorem dX7_shareHeat_36 : decode cX7_shareHeat 36 = .ok (.getfield 16, 3) := by decide +kernel
theorem dX7_shareHeat_39 : decode cX7_shareHeat 39 = .ok (.invokevirtual 66, 3) := by decide +kernel
theorem dX7_shareHeat_42 : decode cX7_shareHeat 42 = .ok (.if_icmp .ge 61, 3) := by decide +kernel
theorem dX7_shareHeat_45 : decode cX7_shareHeat 45 = .ok (.aload_n 0, 1) := by decide +kernel
theorem dX7_shareHeat_46 : decode cX7_shareHeat 46 = .ok (.getfield 16, 3) := by decide +kernel
theorem dX7_shareHeat_49 : decode cX7_shareHeat 49 = .ok (.iload 4, 2) := by decide +kernel
theorem dX7_shareHeat_51 : decode cX7_shareHeat 51 = .ok (.invokevirtual 149, 3) := by decide +kernel
theorem dX7_shareHeat_54 : decode cX7_shareHeat 54 = .ok (.checkcast 95, 3) := by decide +kernel
theorem dX7_shareHeat_57 : decode cX7_shareHeat 57 = .ok (.astore 5, 2) := by decide +kernel
theorem dX7_shareHeat_59 : decode cX7_shareHeat 59 = .ok (.aload 5, 2) := by decide +kernel
theorem dX7_shareHeat_61 : decode cX7_shareHeat 61 = .ok (.getfield 311, 3) := by decide +kernel
theorem dX7_shareHeat_64 : decode cX7_shareHeat 64 = .ok (.iconst 0, 1) := by decide +kernel
theorem dX7_shareHeat_65 : decode cX7_shareHeat 65 = .ok (.putfield 315, 3) := by decide +kernel
theorem dX7_shareHeat_68 : decode cX7_shareHeat 68 = .ok (.aload 5, 2) := by decide +kernel
theorem dX7_shareHeat_70 : decode cX7_shareHeat 70 = .ok (.getfield 311, 3) := by decide +kernel
theorem dX7_shareHeat_73 : decode cX7_shareHeat 73 = .ok (.aload 5, 2) := by decide +kernel
theorem dX7_shareHeat_75 : decode cX7_shareHeat 75 = .ok (.iload_n 1, 1) := by decide +kernel
theorem dX7_shareHeat_76 : decode cX7_shareHeat 76 = .ok (.invokevirtual 209, 3) := by decide +kernel
theorem dX7_shareHeat_79 : decode cX7_shareHeat 79 = .ok (.ifCond .eq 14, 3) := by decide +kernel
theorem dX7_shareHeat_82 : decode cX7_shareHeat 82 = .ok (.aload 5, 2) := by decide +kernel
theorem dX7_shareHeat_84 : decode cX7_shareHeat 84 = .ok (.getfield 265, 3) := by decide +kernel
theorem dX7_shareHeat_87 : decode cX7_shareHeat 87 = .ok (.getfield 320, 3) := by decide +kernel
theorem dX7_shareHeat_90 : decode cX7_shareHeat 90 = .ok (.goto 4, 3) := by decide +kernel
theorem dX7_shareHeat_93 : decode cX7_shareHeat 93 = .ok (.iconst 0, 1) := by decide +kernel
theorem dX7_shareHeat_94 : decode cX7_shareHeat 94 = .ok (.putfield 323, 3) := by decide +kernel
theorem dX7_shareHeat_97 : decode cX7_shareHeat 97 = .ok (.iinc 4 1, 3) := by decide +kernel
theorem dX7_shareHeat_100 : decode cX7_shareHeat 100 = .ok (.goto (-67), 3) := by decide +kernel
theorem dX7_shareHeat_103 : decode cX7_shareHeat 103 = .ok (.aload_n 0, 1) := by decide +kernel
theorem dX7_shareHeat_104 : decode cX7_shareHeat 104 = .ok (.iload_n 3, 1) := by decide +kernel
theorem dX7_shareHeat_105 : decode cX7_shareHeat 105 = .ok (.invokevirtual 326, 3) := by decide +kernel
theorem dX7_shareHeat_108 : decode cX7_shareHeat 108 = .ok (.iconst 0, 1) := by decide +kernel
theorem dX7_shareHeat_109 : decode cX7_shareHeat 109 = .ok (.istore 4, 2) := by decide +kernel
theorem dX7_shareHeat_111 : decode cX7_shareHeat 111 = .ok (.iload 4, 2) := by decide +kernel
theorem dX7_shareHeat_113 : decode cX7_shareHeat 113 = .ok (.aload_n 0, 1) := by decide +kernel
theorem dX7_shareHeat_114 : decode cX7_shareHeat 114 = .ok (.getfield 16, 3) := by decide +kernel
theorem dX7_shareHeat_117 : decode cX7_shareHeat 117 = .ok (.invokevirtual 66, 3) := by decide +kernel
theorem dX7_shareHeat_120 : decode cX7_shareHeat 120 = .ok (.if_icmp .ge 37, 3) := by decide +kernel
theorem dX7_shareHeat_123 : decode cX7_shareHeat 123 = .ok (.aload_n 0, 1) := by decide +kernel
theorem dX7_shareHeat_124 : decode cX7_shareHeat 124 = .ok (.getfield 16, 3) := by decide +kernel
theorem dX7_shareHeat_127 : decode cX7_shareHeat 127 = .ok (.iload 4, 2) := by decide +kernel
theorem dX7_shareHeat_129 : decode cX7_shareHeat 129 = .ok (.invokevirtual 149, 3) := by decide +kernel
theorem dX7_shareHeat_132 : decode cX7_shareHeat 132 = .ok (.checkcast 95, 3) := by decide +kernel
theorem dX7_shareHeat_135 : decode cX7_shareHeat 135 = .ok (.astore 5, 2) := by decide +kernel
theorem dX7_shareHeat_137 : decode cX7_shareHeat 137 = .ok (.aload 5, 2) := by decide +kernel
theorem dX7_shareHeat_139 : decode cX7_shareHeat 139 = .ok (.getfield 311, 3) := by decide +kernel
theorem dX7_shareHeat_142 : decode cX7_shareHeat 142 = .ok (.aload 5, 2) := by decide +kernel
theorem dX7_shareHeat_144 : decode cX7_shareHeat 144 = .ok (.iload_n 1, 1) := by decide +kernel
theorem dX7_shareHeat_145 : decode cX7_shareHeat 145 = .ok (.invokevirtual 329, 3) := by decide +kernel
theorem dX7_shareHeat_148 : decode cX7_shareHeat 148 = .ok (.putfield 323, 3) := by decide +kernel
theorem dX7_shareHeat_151 : decode cX7_shareHeat 151 = .ok (.iinc 4 1, 3) := by decide +kernel
theorem dX7_shareHeat_154 : decode cX7_shareHeat 154 = .ok (.goto (-43), 3) := by decide +kernel
theorem dX7_shareHeat_157 : decode cX7_shareHeat 157 = .ok (.aload_n 0, 1) := by decide +kernel
theorem dX7_shareHeat_158 : decode cX7_shareHeat 158 = .ok (.iload_n 2, 1) := by decide +kernel
theorem dX7_shareHeat_159 : decode cX7_shareHeat 159 = .ok (.iload_n 3, 1) := by decide +kernel
theorem dX7_shareHeat_160 : decode cX7_shareHeat 160 = .ok (.isub, 1) := by decide +kernel
theorem dX7_shareHeat_161 : decode cX7_shareHeat 161 = .ok (.invokevirtual 326, 3) := by decide +kernel
theorem dX7_shareHeat_164 : decode cX7_shareHeat 164 = .ok (.return_, 1) := by decide +kernel
theorem dX7_usesOfAll_0 : decode cX7_usesOfAll 0 = .ok (.lconst 0, 1) := by decide +kernel
theorem dX7_usesOfAll_1 : decode cX7_usesOfAll 1 = .ok (.lstore_n 2, 1) := by decide +kernel
theorem dX7_usesOfAll_2 : decode cX7_usesOfAll 2 = .ok (.iconst 0, 1) := by decide +kernel
theorem dX7_usesOfAll_3 : decode cX7_usesOfAll 3 = .ok (.istore 4, 2) := by decide +kernel
theorem dX7_usesOfAll_5 : decode cX7_usesOfAll 5 = .ok (.iload 4, 2) := by decide +kernel
theorem dX7_usesOfAll_7 : decode cX7_usesOfAll 7 = .ok (.aload_n 0, 1) := by decide +kernel
theorem dX7_usesOfAll_8 : decode cX7_usesOfAll 8 = .ok (.getfield 16, 3) := by decide +kernel
theorem dX7_usesOfAll_11 : decode cX7_usesOfAll 11 = .ok (.invokevirtual 66, 3) := by decide +kernel
theorem dX7_usesOfAll_14 : decode cX7_usesOfAll 14 = .ok (.if_icmp .ge 29, 3) := by decide +kernel
theorem dX7_usesOfAll_17 : decode cX7_usesOfAll 17 = .ok (.lload_n 2, 1) := by decide +kernel
theorem dX7_usesOfAll_18 : decode cX7_usesOfAll 18 = .ok (.aload_n 0, 1) := by decide +kernel
theorem dX7_usesOfAll_19 : decode cX7_usesOfAll 19 = .ok (.getfield 16, 3) := by decide +kernel
theorem dX7_usesOfAll_22 : decode cX7_usesOfAll 22 = .ok (.iload 4, 2) := by decide +kernel
theorem dX7_usesOfAll_24 : decode cX7_usesOfAll 24 = .ok (.invokevirtual 149, 3) := by decide +kernel
theorem dX7_usesOfAll_27 : decode cX7_usesOfAll 27 = .ok (.checkcast 95, 3) := by decide +kernel
theorem dX7_usesOfAll_30 : decode cX7_usesOfAll 30 = .ok (.iload_n 1, 1) := by decide +kernel
theorem dX7_usesOfAll_31 : decode cX7_usesOfAll 31 = .ok (.invokevirtual 329, 3) := by decide +kernel
theorem dX7_usesOfAll_34 : decode cX7_usesOfAll 34 = .ok (.i2l, 1) := by decide +kernel
theorem dX7_usesOfAll_35 : decode cX7_usesOfAll 35 = .ok (.ladd, 1) := by decide +kernel
theorem dX7_usesOfAll_36 : decode cX7_usesOfAll 36 = .ok (.lstore_n 2, 1) := by decide +kernel
theorem dX7_usesOfAll_37 : decode cX7_usesOfAll 37 = .ok (.iinc 4 1, 3) := by decide +kernel
theorem dX7_usesOfAll_40 : decode cX7_usesOfAll 40 = .ok (.goto (-35), 3) := by decide +kernel
theorem dX7_usesOfAll_43 : decode cX7_usesOfAll 43 = .ok (.lload_n 2, 1) := by decide +kernel
theorem dX7_usesOfAll_44 : decode cX7_usesOfAll 44 = .ok (.lreturn, 1) := by decide +kernel
theorem dX7_shareByWeights_0 : decode cX7_shareByWeights 0 = .ok (.lconst 0, 1) := by decide +kernel
theorem dX7_shareByWeights_1 : decode cX7_shareByWeights 1 = .ok (.lstore_n 2, 1) := by decide +kernel
theorem dX7_shareByWeights_2 : decode cX7_shareByWeights 2 = .ok (.iconst 0, 1) := by decide +kernel
theorem dX7_shareByWeights_3 : decode cX7_shareByWeights 3 = .ok (.istore 4, 2) := by decide +kernel
theorem dX7_shareByWeights_5 : decode cX7_shareByWeights 5 = .ok (.iload 4, 2) := by decide +kernel
theorem dX7_shareByWeights_7 : decode cX7_shareByWeights 7 = .ok (.aload_n 0, 1) := by decide +kernel
theorem dX7_shareByWeights_8 : decode cX7_shareByWeights 8 = .ok (.getfield 16, 3) := by decide +kernel
theorem dX7_shareByWeights_11 : decode cX7_shareByWeights 11 = .ok (.invokevirtual 66, 3) := by decide +kernel
theorem dX7_shareByWeights_14 : decode cX7_shareByWeights 14 = .ok (.if_icmp .ge 31, 3) := by decide +kernel
theorem dX7_shareByWeights_17 : decode cX7_shareByWeights 17 = .ok (.lload_n 2, 1) := by decide +kernel
theorem dX7_shareByWeights_18 : decode cX7_shareByWeights 18 = .ok (.aload_n 0, 1) := by decide +kernel
theorem dX7_shareByWeights_19 : decode cX7_shareByWeights 19 = .ok (.getfield 16, 3) := by decide +kernel
theorem dX7_shareByWeights_22 : decode cX7_shareByWeights 22 = .ok (.iload 4, 2) := by decide +kernel
theorem dX7_shareByWeights_24 : decode cX7_shareByWeights 24 = .ok (.invokevirtual 149, 3) := by decide +kernel
theorem dX7_shareByWeights_27 : decode cX7_shareByWeights 27 = .ok (.checkcast 95, 3) := by decide +kernel
theorem dX7_shareByWeights_30 : decode cX7_shareByWeights 30 = .ok (.getfield 311, 3) := by decide +kernel
theorem dX7_shareByWeights_33 : decode cX7_shareByWeights 33 = .ok (.getfield 323, 3) := by decide +kernel
theorem dX7_shareByWeights_36 : decode cX7_shareByWeights 36 = .ok (.i2l, 1) := by decide +kernel
theorem dX7_shareByWeights_37 : decode cX7_shareByWeights 37 = .ok (.ladd, 1) := by decide +kernel
theorem dX7_shareByWeights_38 : decode cX7_shareByWeights 38 = .ok (.lstore_n 2, 1) := by decide +kernel
theorem dX7_shareByWeights_39 : decode cX7_shareByWeights 39 = .ok (.iinc 4 1, 3) := by decide +kernel
theorem dX7_shareByWeights_42 : decode cX7_shareByWeights 42 = .ok (.goto (-37), 3) := by decide +kernel
theorem dX7_shareByWeights_45 : decode cX7_shareByWeights 45 = .ok (.lload_n 2, 1) := by decide +kernel
theorem dX7_shareByWeights_46 : decode cX7_shareByWeights 46 = .ok (.lconst 0, 1) := by decide +kernel
theorem dX7_shareByWeights_47 : decode cX7_shareByWeights 47 = .ok (.lcmp, 1) := by decide +kernel
theorem dX7_shareByWeights_48 : decode cX7_shareByWeights 48 = .ok (.ifCond .gt 4, 3) := by decide +kernel
theorem dX7_shareByWeights_51 : decode cX7_shareByWeights 51 = .ok (.return_, 1) := by decide +kernel
theorem dX7_shareByWeights_52 : decode cX7_shareByWeights 52 = .ok (.iload_n 1, 1) := by decide +kernel
theorem dX7_shareByWeights_53 : decode cX7_shareByWeights 53 = .ok (.istore 4, 2) := by decide +kernel
theorem dX7_shareByWeights_55 : decode cX7_shareByWeights 55 = .ok (.iconst 0, 1) := by decide +kernel
theorem dX7_shareByWeights_56 : decode cX7_shareByWeights 56 = .ok (.istore 5, 2) := by decide +kernel
theorem dX7_shareByWeights_58 : decode cX7_shareByWeights 58 = .ok (.iload 5, 2) := by decide +kernel
theorem dX7_shareByWeights_60 : decode cX7_shareByWeights 60 = .ok (.aload_n 0, 1) := by decide +kernel
theorem dX7_shareByWeights_61 : decode cX7_shareByWeights 61 = .ok (.getfield 16, 3) := by decide +kernel
theorem dX7_shareByWeights_64 : decode cX7_shareByWeights 64 = .ok (.invokevirtual 66, 3) := by decide +kernel
theorem dX7_shareByWeights_67 : decode cX7_shareByWeights 67 = .ok (.if_icmp .ge 34, 3) := by decide +kernel
theorem dX7_shareByWeights_70 : decode cX7_shareByWeights 70 = .ok (.iload 4, 2) := by decide +kernel
theorem dX7_shareByWeights_72 : decode cX7_shareByWeights 72 = .ok (.aload_n 0, 1) := by decide +kernel
theorem dX7_shareByWeights_73 : decode cX7_shareByWeights 73 = .ok (.getfield 16, 3) := by decide +kernel
theorem dX7_shareByWeights_76 : decode cX7_shareByWeights 76 = .ok (.iload 5, 2) := by decide +kernel
theorem dX7_shareByWeights_78 : decode cX7_shareByWeights 78 = .ok (.invokevirtual 149, 3) := by decide +kernel
theorem dX7_shareByWeights_81 : decode cX7_shareByWeights 81 = .ok (.checkcast 95, 3) := by decide +kernel
theorem dX7_shareByWeights_84 : decode cX7_shareByWeights 84 = .ok (.getfield 311, 3) := by decide +kernel
theorem dX7_shareByWeights_87 : decode cX7_shareByWeights 87 = .ok (.iload_n 1, 1) := by decide +kernel
theorem dX7_shareByWeights_88 : decode cX7_shareByWeights 88 = .ok (.lload_n 2, 1) := by decide +kernel
theorem dX7_shareByWeights_89 : decode cX7_shareByWeights 89 = .ok (.invokevirtual 332, 3) := by decide +kernel
theorem dX7_shareByWeights_92 : decode cX7_shareByWeights 92 = .ok (.isub, 1) := by decide +kernel
theorem dX7_shareByWeights_93 : decode cX7_shareByWeights 93 = .ok (.istore 4, 2) := by decide +kernel
theorem dX7_shareByWeights_95 : decode cX7_shareByWeights 95 = .ok (.iinc 5 1, 3) := by decide +kernel
theorem dX7_shareByWeights_98 : decode cX7_shareByWeights 98 = .ok (.goto (-40), 3) := by decide +kernel
theorem dX7_shareByWeights_101 : decode cX7_shareByWeights 101 = .ok (.iconst 0, 1) := by decide +kernel
theorem dX7_shareByWeights_102 : decode cX7_shareByWeights 102 = .ok (.istore 5, 2) := by decide +kernel
theorem dX7_shareByWeights_104 : decode cX7_shareByWeights 104 = .ok (.iload 5, 2) := by decide +kernel
theorem dX7_shareByWeights_106 : decode cX7_shareByWeights 106 = .ok (.iload 4, 2) := by decide +kernel
theorem dX7_shareByWeights_108 : decode cX7_shareByWeights 108 = .ok (.if_icmp .ge 13, 3) := by decide +kernel
theorem dX7_shareByWeights_111 : decode cX7_shareByWeights 111 = .ok (.aload_n 0, 1) := by decide +kernel
theorem dX7_shareByWeights_112 : decode cX7_shareByWeights 112 = .ok (.invokevirtual 336, 3) := by decide +kernel
theorem dX7_shareByWeights_115 : decode cX7_shareByWeights 115 = .ok (.iinc 5 1, 3) := by decide +kernel
theorem dX7_shareByWeights_118 : decode cX7_shareByWeights 118 = .ok (.goto (-14), 3) := by decide +kernel
theorem dX7_shareByWeights_121 : decode cX7_shareByWeights 121 = .ok (.return_, 1) := by decide +kernel
theorem dX7_giveOneMore_0 : decode cX7_giveOneMore 0 = .ok (.aload_n 0, 1) := by decide +kernel
theorem dX7_giveOneMore_1 : decode cX7_giveOneMore 1 = .ok (.getfield 16, 3) := by decide +kernel
theorem dX7_giveOneMore_4 : decode cX7_giveOneMore 4 = .ok (.invokevirtual 339, 3) := by decide +kernel
theorem dX7_giveOneMore_7 : decode cX7_giveOneMore 7 = .ok (.ifCond .eq 4, 3) := by decide +kernel
theorem dX7_giveOneMore_10 : decode cX7_giveOneMore 10 = .ok (.return_, 1) := by decide +kernel
theorem dX7_giveOneMore_11 : decode cX7_giveOneMore 11 = .ok (.aload_n 0, 1) := by decide +kernel
theorem dX7_giveOneMore_12 : decode cX7_giveOneMore 12 = .ok (.getfield 16, 3) := by decide +kernel
theorem dX7_giveOneMore_15 : decode cX7_giveOneMore 15 = .ok (.iconst 0, 1) := by decide +kernel
theorem dX7_giveOneMore_16 : decode cX7_giveOneMore 16 = .ok (.invokevirtual 149, 3) := by decide +kernel
theorem dX7_giveOneMore_19 : decode cX7_giveOneMore 19 = .ok (.checkcast 95, 3) := by decide +kernel
theorem dX7_giveOneMore_22 : decode cX7_giveOneMore 22 = .ok (.getfield 311, 3) := by decide +kernel
theorem dX7_giveOneMore_25 : decode cX7_giveOneMore 25 = .ok (.astore_n 1, 1) := by decide +kernel
theorem dX7_giveOneMore_26 : decode cX7_giveOneMore 26 = .ok (.iconst 1, 1) := by decide +kernel
theorem dX7_giveOneMore_27 : decode cX7_giveOneMore 27 = .ok (.istore_n 2, 1) := by decide +kernel
theorem dX7_giveOneMore_28 : decode cX7_giveOneMore 28 = .ok (.iload_n 2, 1) := by decide +kernel
theorem dX7_giveOneMore_29 : decode cX7_giveOneMore 29 = .ok (.aload_n 0, 1) := by decide +kernel
theorem dX7_giveOneMore_30 : decode cX7_giveOneMore 30 = .ok (.getfield 16, 3) := by decide +kernel
theorem dX7_giveOneMore_33 : decode cX7_giveOneMore 33 = .ok (.invokevirtual 66, 3) := by decide +kernel
theorem dX7_giveOneMore_36 : decode cX7_giveOneMore 36 = .ok (.if_icmp .ge 34, 3) := by decide +kernel
theorem dX7_giveOneMore_39 : decode cX7_giveOneMore 39 = .ok (.aload_n 0, 1) := by decide +kernel
theorem dX7_giveOneMore_40 : decode cX7_giveOneMore 40 = .ok (.getfield 16, 3) := by decide +kernel
theorem dX7_giveOneMore_43 : decode cX7_giveOneMore 43 = .ok (.iload_n 2, 1) := by decide +kernel
theorem dX7_giveOneMore_44 : decode cX7_giveOneMore 44 = .ok (.invokevirtual 149, 3) := by decide +kernel
theorem dX7_giveOneMore_47 : decode cX7_giveOneMore 47 = .ok (.checkcast 95, 3) := by decide +kernel
theorem dX7_giveOneMore_50 : decode cX7_giveOneMore 50 = .ok (.getfield 311, 3) := by decide +kernel
theorem dX7_giveOneMore_53 : decode cX7_giveOneMore 53 = .ok (.astore_n 3, 1) := by decide +kernel
theorem dX7_giveOneMore_54 : decode cX7_giveOneMore 54 = .ok (.aload_n 3, 1) := by decide +kernel
theorem dX7_giveOneMore_55 : decode cX7_giveOneMore 55 = .ok (.aload_n 1, 1) := by decide +kernel
theorem dX7_giveOneMore_56 : decode cX7_giveOneMore 56 = .ok (.invokevirtual 343, 3) := by decide +kernel
theorem dX7_giveOneMore_59 : decode cX7_giveOneMore 59 = .ok (.ifCond .eq 5, 3) := by decide +kernel
theorem dX7_giveOneMore_62 : decode cX7_giveOneMore 62 = .ok (.aload_n 3, 1) := by decide +kernel
theorem dX7_giveOneMore_63 : decode cX7_giveOneMore 63 = .ok (.astore_n 1, 1) := by decide +kernel
theorem dX7_giveOneMore_64 : decode cX7_giveOneMore 64 = .ok (.iinc 2 1, 3) := by decide +kernel
theorem dX7_giveOneMore_67 : decode cX7_giveOneMore 67 = .ok (.goto (-39), 3) := by decide +kernel
theorem dX7_giveOneMore_70 : decode cX7_giveOneMore 70 = .ok (.aload_n 1, 1) := by decide +kernel
theorem dX7_giveOneMore_71 : decode cX7_giveOneMore 71 = .ok (.invokevirtual 347, 3) := by decide +kernel
theorem dX7_giveOneMore_74 : decode cX7_giveOneMore 74 = .ok (.return_, 1) := by decide +kernel
theorem dX7_settle_0 : decode cX7_settle 0 = .ok (.aload_n 3, 1) := by decide +kernel
theorem dX7_settle_1 : decode cX7_settle 1 = .ok (.aload_n 1, 1) := by decide +kernel
theorem dX7_settle_2 : decode cX7_settle 2 = .ok (.aload_n 0, 1) := by decide +kernel
theorem dX7_settle_3 : decode cX7_settle 3 = .ok (.getfield 27, 3) := by decide +kernel
theorem dX7_settle_6 : decode cX7_settle 6 = .ok (.iload_n 2, 1) := by decide +kernel
theorem dX7_settle_7 : decode cX7_settle 7 = .ok (.invokevirtual 114, 3) := by decide +kernel
theorem dX7_settle_10 : decode cX7_settle 10 = .ok (.invokevirtual 298, 3) := by decide +kernel
theorem dX7_settle_13 : decode cX7_settle 13 = .ok (.putfield 350, 3) := by decide +kernel
theorem dX7_settle_16 : decode cX7_settle 16 = .ok (.aload_n 3, 1) := by decide +kernel
theorem dX7_settle_17 : decode cX7_settle 17 = .ok (.aload_n 3, 1) := by decide +kernel
theorem dX7_settle_18 : decode cX7_settle 18 = .ok (.getfield 350, 3) := by decide +kernel
theorem dX7_settle_21 : decode cX7_settle 21 = .ok (.aload_n 1, 1) := by decide +kernel
theorem dX7_settle_22 : decode cX7_settle 22 = .ok (.getfield 265, 3) := by decide +kernel
theorem dX7_settle_25 : decode cX7_settle 25 = .ok (.getfield 256, 3) := by decide +kernel
theorem dX7_settle_28 : decode cX7_settle 28 = .ok (.iload_n 2, 1) := by decide +kernel
theorem dX7_settle_29 : decode cX7_settle 29 = .ok (.invokevirtual 114, 3) := by decide +kernel
theorem dX7_settle_32 : decode cX7_settle 32 = .ok (.invokestatic 353, 3) := by decide +kernel
theorem dX7_settle_35 : decode cX7_settle 35 = .ok (.putfield 356, 3) := by decide +kernel
theorem dX7_settle_38 : decode cX7_settle 38 = .ok (.aload_n 3, 1) := by decide +kernel
theorem dX7_settle_39 : decode cX7_settle 39 = .ok (.aload_n 3, 1) := by decide +kernel
theorem dX7_settle_40 : decode cX7_settle 40 = .ok (.getfield 350, 3) := by decide +kernel
theorem dX7_settle_43 : decode cX7_settle 43 = .ok (.aload_n 3, 1) := by decide +kernel
theorem dX7_settle_44 : decode cX7_settle 44 = .ok (.getfield 356, 3) := by decide +kernel
theorem dX7_settle_47 : decode cX7_settle 47 = .ok (.isub, 1) := by decide +kernel
theorem dX7_settle_48 : decode cX7_settle 48 = .ok (.aload_n 1, 1) := by decide +kernel
theorem dX7_settle_49 : decode cX7_settle 49 = .ok (.iload_n 2, 1) := by decide +kernel
theorem dX7_settle_50 : decode cX7_settle 50 = .ok (.invokevirtual 301, 3) := by decide +kernel
theorem dX7_settle_53 : decode cX7_settle 53 = .ok (.invokestatic 304, 3) := by decide +kernel
theorem dX7_settle_56 : decode cX7_settle 56 = .ok (.putfield 292, 3) := by decide +kernel
theorem dX7_settle_59 : decode cX7_settle 59 = .ok (.aload_n 3, 1) := by decide +kernel
theorem dX7_settle_60 : decode cX7_settle 60 = .ok (.aload_n 1, 1) := by decide +kernel
theorem dX7_settle_61 : decode cX7_settle 61 = .ok (.getfield 311, 3) := by decide +kernel
theorem dX7_settle_64 : decode cX7_settle 64 = .ok (.getfield 315, 3) := by decide +kernel
theorem dX7_settle_67 : decode cX7_settle 67 = .ok (.putfield 359, 3) := by decide +kernel
theorem dX7_settle_70 : decode cX7_settle 70 = .ok (.return_, 1) := by decide +kernel
theorem dX7_loweredBy_0 : decode cX7_loweredBy 0 = .ok (.iload_n 0, 1) := by decide +kernel
theorem dX7_loweredBy_1 : decode cX7_loweredBy 1 = .ok (.i2l, 1) := by decide +kernel
theorem dX7_loweredBy_2 : decode cX7_loweredBy 2 = .ok (.iload_n 1, 1) := by decide +kernel
theorem dX7_loweredBy_3 : decode cX7_loweredBy 3 = .ok (.i2l, 1) := by decide +kernel
theorem dX7_loweredBy_4 : decode cX7_loweredBy 4 = .ok (.lmul, 1) := by decide +kernel
theorem dX7_loweredBy_5 : decode cX7_loweredBy 5 = .ok (.ldc2_w 362, 3) := by decide +kernel
theorem dX7_loweredBy_8 : decode cX7_loweredBy 8 = .ok (.ldiv, 1) := by decide +kernel
theorem dX7_loweredBy_9 : decode cX7_loweredBy 9 = .ok (.lstore_n 2, 1) := by decide +kernel
theorem dX7_loweredBy_10 : decode cX7_loweredBy 10 = .ok (.lload_n 2, 1) := by decide +kernel
theorem dX7_loweredBy_11 : decode cX7_loweredBy 11 = .ok (.iload_n 0, 1) := by decide +kernel
theorem dX7_loweredBy_12 : decode cX7_loweredBy 12 = .ok (.i2l, 1) := by decide +kernel
theorem dX7_loweredBy_13 : decode cX7_loweredBy 13 = .ok (.invokestatic 364, 3) := by decide +kernel
theorem dX7_loweredBy_16 : decode cX7_loweredBy 16 = .ok (.l2i, 1) := by decide +kernel
theorem dX7_loweredBy_17 : decode cX7_loweredBy 17 = .ok (.ireturn, 1) := by decide +kernel
theorem dX7_benefitFor_0 : decode cX7_benefitFor 0 = .ok (.iload_n 0, 1) := by decide +kernel
theorem dX7_benefitFor_1 : decode cX7_benefitFor 1 = .ok (.iload_n 1, 1) := by decide +kernel
theorem dX7_benefitFor_2 : decode cX7_benefitFor 2 = .ok (.iconst 3, 1) := by decide +kernel
theorem dX7_benefitFor_3 : decode cX7_benefitFor 3 = .ok (.imul, 1) := by decide +kernel
theorem dX7_benefitFor_4 : decode cX7_benefitFor 4 = .ok (.bipush 10, 2) := by decide +kernel
theorem dX7_benefitFor_6 : decode cX7_benefitFor 6 = .ok (.idiv, 1) := by decide +kernel
theorem dX7_benefitFor_7 : decode cX7_benefitFor 7 = .ok (.isub, 1) := by decide +kernel
theorem dX7_benefitFor_8 : decode cX7_benefitFor 8 = .ok (.istore_n 2, 1) := by decide +kernel
theorem dX7_benefitFor_9 : decode cX7_benefitFor 9 = .ok (.iload_n 0, 1) := by decide +kernel
theorem dX7_benefitFor_10 : decode cX7_benefitFor 10 = .ok (.bipush 8, 2) := by decide +kernel
theorem dX7_benefitFor_12 : decode cX7_benefitFor 12 = .ok (.imul, 1) := by decide +kernel
theorem dX7_benefitFor_13 : decode cX7_benefitFor 13 = .ok (.bipush 10, 2) := by decide +kernel
theorem dX7_benefitFor_15 : decode cX7_benefitFor 15 = .ok (.idiv, 1) := by decide +kernel
theorem dX7_benefitFor_16 : decode cX7_benefitFor 16 = .ok (.istore_n 3, 1) := by decide +kernel
theorem dX7_benefitFor_17 : decode cX7_benefitFor 17 = .ok (.iconst 0, 1) := by decide +kernel
theorem dX7_benefitFor_18 : decode cX7_benefitFor 18 = .ok (.iload_n 2, 1) := by decide +kernel
theorem dX7_benefitFor_19 : decode cX7_benefitFor 19 = .ok (.iload_n 3, 1) := by decide +kernel
theorem dX7_benefitFor_20 : decode cX7_benefitFor 20 = .ok (.invokestatic 370, 3) := by decide +kernel
theorem dX7_benefitFor_23 : decode cX7_benefitFor 23 = .ok (.invokestatic 372, 3) := by decide +kernel
theorem dX7_benefitFor_26 : decode cX7_benefitFor 26 = .ok (.ireturn, 1) := by decide +kernel
theorem dX7_writeLine_0 : decode cX7_writeLine 0 = .ok (.aload_n 0, 1) := by decide +kernel
theorem dX7_writeLine_1 : decode cX7_writeLine 1 = .ok (.bipush 76, 2) := by decide +kernel
theorem dX7_writeLine_3 : decode cX7_writeLine 3 = .ok (.invokevirtual 375, 3) := by decide +kernel
theorem dX7_writeLine_6 : decode cX7_writeLine 6 = .ok (.pop, 1) := by decide +kernel
theorem dX7_writeLine_7 : decode cX7_writeLine 7 = .ok (.aload_n 0, 1) := by decide +kernel
theorem dX7_writeLine_8 : decode cX7_writeLine 8 = .ok (.iload_n 1, 1) := by decide +kernel
theorem dX7_writeLine_9 : decode cX7_writeLine 9 = .ok (.invokevirtual 379, 3) := by decide +kernel
theorem dX7_writeLine_12 : decode cX7_writeLine 12 = .ok (.pop, 1) := by decide +kernel
theorem dX7_writeLine_13 : decode cX7_writeLine 13 = .ok (.aload_n 0, 1) := by decide +kernel
theorem dX7_writeLine_14 : decode cX7_writeLine 14 = .ok (.ldc_w 382, 3) := by decide +kernel
theorem dX7_writeLine_17 : decode cX7_writeLine 17 = .ok (.invokevirtual 384, 3) := by decide +kernel
theorem dX7_writeLine_20 : decode cX7_writeLine 20 = .ok (.pop, 1) := by decide +kernel
theorem dX7_writeLine_21 : decode cX7_writeLine 21 = .ok (.aload_n 0, 1) := by decide +kernel
theorem dX7_writeLine_22 : decode cX7_writeLine 22 = .ok (.iload_n 2, 1) := by decide +kernel
theorem dX7_writeLine_23 : decode cX7_writeLine 23 = .ok (.invokevirtual 379, 3) := by decide +kernel
theorem dX7_writeLine_26 : decode cX7_writeLine 26 = .ok (.pop, 1) := by decide +kernel
theorem dX7_writeLine_27 : decode cX7_writeLine 27 = .ok (.aload_n 0, 1) := by decide +kernel
theorem dX7_writeLine_28 : decode cX7_writeLine 28 = .ok (.bipush 82, 2) := by decide +kernel
theorem dX7_writeLine_30 : decode cX7_writeLine 30 = .ok (.aload_n 3, 1) := by decide +kernel
theorem dX7_writeLine_31 : decode cX7_writeLine 31 = .ok (.getfield 350, 3) := by decide +kernel
theorem dX7_writeLine_34 : decode cX7_writeLine 34 = .ok (.invokestatic 387, 3) := by decide +kernel
theorem dX7_writeLine_37 : decode cX7_writeLine 37 = .ok (.aload_n 0, 1) := by decide +kernel
theorem dX7_writeLine_38 : decode cX7_writeLine 38 = .ok (.bipush 88, 2) := by decide +kernel
theorem dX7_writeLine_40 : decode cX7_writeLine 40 = .ok (.aload_n 3, 1) := by decide +kernel
theorem dX7_writeLine_41 : decode cX7_writeLine 41 = .ok (.getfield 356, 3) := by decide +kernel
theorem dX7_writeLine_44 : decode cX7_writeLine 44 = .ok (.invokestatic 387, 3) := by decide +kernel
theorem dX7_writeLine_47 : decode cX7_writeLine 47 = .ok (.aload_n 0, 1) := by decide +kernel
theorem dX7_writeLine_48 : decode cX7_writeLine 48 = .ok (.bipush 66, 2) := by decide +kernel
theorem dX7_writeLine_50 : decode cX7_writeLine 50 = .ok (.aload_n 3, 1) := by decide +kernel
theorem dX7_writeLine_51 : decode cX7_writeLine 51 = .ok (.getfield 292, 3) := by decide +kernel
theorem dX7_writeLine_54 : decode cX7_writeLine 54 = .ok (.invokestatic 387, 3) := by decide +kernel
theorem dX7_writeLine_57 : decode cX7_writeLine 57 = .ok (.aload_n 0, 1) := by decide +kernel
theorem dX7_writeLine_58 : decode cX7_writeLine 58 = .ok (.bipush 72, 2) := by decide +kernel
theorem dX7_writeLine_60 : decode cX7_writeLine 60 = .ok (.aload_n 3, 1) := by decide +kernel
theorem dX7_writeLine_61 : decode cX7_writeLine 61 = .ok (.getfield 359, 3) := by decide +kernel
theorem dX7_writeLine_64 : decode cX7_writeLine 64 = .ok (.invokestatic 387, 3) := by decide +kernel
theorem dX7_writeLine_67 : decode cX7_writeLine 67 = .ok (.aload_n 0, 1) := by decide +kernel
theorem dX7_writeLine_68 : decode cX7_writeLine 68 = .ok (.bipush 84, 2) := by decide +kernel
theorem dX7_writeLine_70 : decode cX7_writeLine 70 = .ok (.aload_n 3, 1) := by decide +kernel
theorem dX7_writeLine_71 : decode cX7_writeLine 71 = .ok (.invokevirtual 220, 3) := by decide +kernel
theorem dX7_writeLine_74 : decode cX7_writeLine 74 = .ok (.invokestatic 387, 3) := by decide +kernel
theorem dX7_writeLine_77 : decode cX7_writeLine 77 = .ok (.return_, 1) := by decide +kernel
theorem dX7_writeAmount_0 : decode cX7_writeAmount 0 = .ok (.aload_n 0, 1) := by decide +kernel
theorem dX7_writeAmount_1 : decode cX7_writeAmount 1 = .ok (.bipush 32, 2) := by decide +kernel
theorem dX7_writeAmount_3 : decode cX7_writeAmount 3 = .ok (.invokevirtual 375, 3) := by decide +kernel
theorem dX7_writeAmount_6 : decode cX7_writeAmount 6 = .ok (.pop, 1) := by decide +kernel
theorem dX7_writeAmount_7 : decode cX7_writeAmount 7 = .ok (.aload_n 0, 1) := by decide +kernel
theorem dX7_writeAmount_8 : decode cX7_writeAmount 8 = .ok (.iload_n 1, 1) := by decide +kernel
theorem dX7_writeAmount_9 : decode cX7_writeAmount 9 = .ok (.invokevirtual 375, 3) := by decide +kernel
theorem dX7_writeAmount_12 : decode cX7_writeAmount 12 = .ok (.pop, 1) := by decide +kernel
theorem dX7_writeAmount_13 : decode cX7_writeAmount 13 = .ok (.aload_n 0, 1) := by decide +kernel
theorem dX7_writeAmount_14 : decode cX7_writeAmount 14 = .ok (.iload_n 2, 1) := by decide +kernel
theorem dX7_writeAmount_15 : decode cX7_writeAmount 15 = .ok (.bipush 100, 2) := by decide +kernel
theorem dX7_writeAmount_17 : decode cX7_writeAmount 17 = .ok (.idiv, 1) := by decide +kernel
theorem dX7_writeAmount_18 : decode cX7_writeAmount 18 = .ok (.invokestatic 391, 3) := by decide +kernel
theorem dX7_writeAmount_21 : decode cX7_writeAmount 21 = .ok (.aload_n 0, 1) := by decide +kernel
theorem dX7_writeAmount_22 : decode cX7_writeAmount 22 = .ok (.bipush 44, 2) := by decide +kernel
theorem dX7_writeAmount_24 : decode cX7_writeAmount 24 = .ok (.invokevirtual 375, 3) := by decide +kernel
theorem dX7_writeAmount_27 : decode cX7_writeAmount 27 = .ok (.pop, 1) := by decide +kernel
theorem dX7_writeAmount_28 : decode cX7_writeAmount 28 = .ok (.aload_n 0, 1) := by decide +kernel
theorem dX7_writeAmount_29 : decode cX7_writeAmount 29 = .ok (.iload_n 2, 1) := by decide +kernel
theorem dX7_writeAmount_30 : decode cX7_writeAmount 30 = .ok (.bipush 100, 2) := by decide +kernel
theorem dX7_writeAmount_32 : decode cX7_writeAmount 32 = .ok (.irem, 1) := by decide +kernel
theorem dX7_writeAmount_33 : decode cX7_writeAmount 33 = .ok (.bipush 10, 2) := by decide +kernel
theorem dX7_writeAmount_35 : decode cX7_writeAmount 35 = .ok (.invokestatic 395, 3) := by decide +kernel
theorem dX7_writeAmount_38 : decode cX7_writeAmount 38 = .ok (.return_, 1) := by decide +kernel
theorem dX7_writeWhole_0 : decode cX7_writeWhole 0 = .ok (.iconst 0, 1) := by decide +kernel
theorem dX7_writeWhole_1 : decode cX7_writeWhole 1 = .ok (.istore_n 2, 1) := by decide +kernel
theorem dX7_writeWhole_2 : decode cX7_writeWhole 2 = .ok (.ldc 121, 2) := by decide +kernel
theorem dX7_writeWhole_4 : decode cX7_writeWhole 4 = .ok (.istore_n 3, 1) := by decide +kernel
theorem dX7_writeWhole_5 : decode cX7_writeWhole 5 = .ok (.iload_n 3, 1) := by decide +kernel
theorem dX7_writeWhole_6 : decode cX7_writeWhole 6 = .ok (.ifCond .le 62, 3) := by decide +kernel
theorem dX7_writeWhole_9 : decode cX7_writeWhole 9 = .ok (.iload_n 1, 1) := by decide +kernel
theorem dX7_writeWhole_10 : decode cX7_writeWhole 10 = .ok (.iload_n 3, 1) := by decide +kernel
theorem dX7_writeWhole_11 : decode cX7_writeWhole 11 = .ok (.idiv, 1) := by decide +kernel
theorem dX7_writeWhole_12 : decode cX7_writeWhole 12 = .ok (.sipush 1000, 3) := by decide +kernel
theorem dX7_writeWhole_15 : decode cX7_writeWhole 15 = .ok (.irem, 1) := by decide +kernel
theorem dX7_writeWhole_16 : decode cX7_writeWhole 16 = .ok (.istore 4, 2) := by decide +kernel
theorem dX7_writeWhole_18 : decode cX7_writeWhole 18 = .ok (.iload_n 2, 1) := by decide +kernel
theorem dX7_writeWhole_19 : decode cX7_writeWhole 19 = .ok (.ifCond .eq 21, 3) := by decide +kernel
theorem dX7_writeWhole_22 : decode cX7_writeWhole 22 = .ok (.aload_n 0, 1) := by decide +kernel
theorem dX7_writeWhole_23 : decode cX7_writeWhole 23 = .ok (.bipush 46, 2) := by decide +kernel
theorem dX7_writeWhole_25 : decode cX7_writeWhole 25 = .ok (.invokevirtual 375, 3) := by decide +kernel
theorem dX7_writeWhole_28 : decode cX7_writeWhole 28 = .ok (.pop, 1) := by decide +kernel
theorem dX7_writeWhole_29 : decode cX7_writeWhole 29 = .ok (.aload_n 0, 1) := by decide +kernel
theorem dX7_writeWhole_30 : decode cX7_writeWhole 30 = .ok (.iload 4, 2) := by decide +kernel
theorem dX7_writeWhole_32 : decode cX7_writeWhole 32 = .ok (.bipush 100, 2) := by decide +kernel
theorem dX7_writeWhole_34 : decode cX7_writeWhole 34 = .ok (.invokestatic 395, 3) := by decide +kernel
theorem dX7_writeWhole_37 : decode cX7_writeWhole 37 = .ok (.goto 22, 3) := by decide +kernel
theorem dX7_writeWhole_40 : decode cX7_writeWhole 40 = .ok (.iload 4, 2) := by decide +kernel
theorem dX7_writeWhole_42 : decode cX7_writeWhole 42 = .ok (.ifCond .gt 8, 3) := by decide +kernel
theorem dX7_writeWhole_45 : decode cX7_writeWhole 45 = .ok (.iload_n 3, 1) := by decide +kernel
theorem dX7_writeWhole_46 : decode cX7_writeWhole 46 = .ok (.iconst 1, 1) := by decide +kernel
theorem dX7_writeWhole_47 : decode cX7_writeWhole 47 = .ok (.if_icmp .ne 12, 3) := by decide +kernel
theorem dX7_writeWhole_50 : decode cX7_writeWhole 50 = .ok (.aload_n 0, 1) := by decide +kernel
theorem dX7_writeWhole_51 : decode cX7_writeWhole 51 = .ok (.iload 4, 2) := by decide +kernel
theorem dX7_writeWhole_53 : decode cX7_writeWhole 53 = .ok (.invokevirtual 379, 3) := by decide +kernel
theorem dX7_writeWhole_56 : decode cX7_writeWhole 56 = .ok (.pop, 1) := by decide +kernel
theorem dX7_writeWhole_57 : decode cX7_writeWhole 57 = .ok (.iconst 1, 1) := by decide +kernel
theorem dX7_writeWhole_58 : decode cX7_writeWhole 58 = .ok (.istore_n 2, 1) := by decide +kernel
theorem dX7_writeWhole_59 : decode cX7_writeWhole 59 = .ok (.iload_n 3, 1) := by decide +kernel
theorem dX7_writeWhole_60 : decode cX7_writeWhole 60 = .ok (.sipush 1000, 3) := by decide +kernel
theorem dX7_writeWhole_63 : decode cX7_writeWhole 63 = .ok (.idiv, 1) := by decide +kernel
theorem dX7_writeWhole_64 : decode cX7_writeWhole 64 = .ok (.istore_n 3, 1) := by decide +kernel
theorem dX7_writeWhole_65 : decode cX7_writeWhole 65 = .ok (.goto (-60), 3) := by decide +kernel
theorem dX7_writeWhole_68 : decode cX7_writeWhole 68 = .ok (.return_, 1) := by decide +kernel
theorem dX7_writeDigits_0 : decode cX7_writeDigits 0 = .ok (.iload_n 2, 1) := by decide +kernel
theorem dX7_writeDigits_1 : decode cX7_writeDigits 1 = .ok (.istore_n 3, 1) := by decide +kernel
theorem dX7_writeDigits_2 : decode cX7_writeDigits 2 = .ok (.iload_n 3, 1) := by decide +kernel
theorem dX7_writeDigits_3 : decode cX7_writeDigits 3 = .ok (.ifCond .le 26, 3) := by decide +kernel
theorem dX7_writeDigits_6 : decode cX7_writeDigits 6 = .ok (.aload_n 0, 1) := by decide +kernel
theorem dX7_writeDigits_7 : decode cX7_writeDigits 7 = .ok (.bipush 48, 2) := by decide +kernel
theorem dX7_writeDigits_9 : decode cX7_writeDigits 9 = .ok (.iload_n 1, 1) := by decide +kernel
theorem dX7_writeDigits_10 : decode cX7_writeDigits 10 = .ok (.iload_n 3, 1) := by decide +kernel
theorem dX7_writeDigits_11 : decode cX7_writeDigits 11 = .ok (.idiv, 1) := by decide +kernel
theorem dX7_writeDigits_12 : decode cX7_writeDigits 12 = .ok (.bipush 10, 2) := by decide +kernel
theorem dX7_writeDigits_14 : decode cX7_writeDigits 14 = .ok (.irem, 1) := by decide +kernel
theorem dX7_writeDigits_15 : decode cX7_writeDigits 15 = .ok (.iadd, 1) := by decide +kernel
theorem dX7_writeDigits_16 : decode cX7_writeDigits 16 = .ok (.i2c, 1) := by decide +kernel
theorem dX7_writeDigits_17 : decode cX7_writeDigits 17 = .ok (.invokevirtual 375, 3) := by decide +kernel
theorem dX7_writeDigits_20 : decode cX7_writeDigits 20 = .ok (.pop, 1) := by decide +kernel
theorem dX7_writeDigits_21 : decode cX7_writeDigits 21 = .ok (.iload_n 3, 1) := by decide +kernel
theorem dX7_writeDigits_22 : decode cX7_writeDigits 22 = .ok (.bipush 10, 2) := by decide +kernel
theorem dX7_writeDigits_24 : decode cX7_writeDigits 24 = .ok (.idiv, 1) := by decide +kernel
theorem dX7_writeDigits_25 : decode cX7_writeDigits 25 = .ok (.istore_n 3, 1) := by decide +kernel
theorem dX7_writeDigits_26 : decode cX7_writeDigits 26 = .ok (.goto (-24), 3) := by decide +kernel
theorem dX7_writeDigits_29 : decode cX7_writeDigits 29 = .ok (.return_, 1) := by decide +kernel
theorem dJ5_init_d00df_0 : decode cJ5_init_d00df 0 = .ok (.aload_n 0, 1) := by decide +kernel
theorem dJ5_init_d00df_1 : decode cJ5_init_d00df 1 = .ok (.invokespecial 3, 3) := by decide +kernel
theorem dJ5_init_d00df_4 : decode cJ5_init_d00df 4 = .ok (.getstatic 18, 3) := by decide +kernel
theorem dJ5_init_d00df_7 : decode cJ5_init_d00df 7 = .ok (.ifCond .eq 18, 3) := by decide +kernel
theorem dJ5_init_d00df_10 : decode cJ5_init_d00df 10 = .ok (.aload_n 0, 1) := by decide +kernel
theorem dJ5_init_d00df_11 : decode cJ5_init_d00df 11 = .ok (.iload_n 1, 1) := by decide +kernel
theorem dJ5_init_d00df_12 : decode cJ5_init_d00df 12 = .ok (.newarray .byte, 2) := by decide +kernel
theorem dJ5_init_d00df_14 : decode cJ5_init_d00df 14 = .ok (.putfield 15, 3) := by decide +kernel
theorem dJ5_init_d00df_17 : decode cJ5_init_d00df 17 = .ok (.aload_n 0, 1) := by decide +kernel
theorem dJ5_init_d00df_18 : decode cJ5_init_d00df 18 = .ok (.iconst 0, 1) := by decide +kernel
theorem dJ5_init_d00df_19 : decode cJ5_init_d00df 19 = .ok (.putfield 22, 3) := by decide +kernel
theorem dJ5_init_d00df_22 : decode cJ5_init_d00df 22 = .ok (.goto 16, 3) := by decide +kernel
theorem dJ5_init_d00df_25 : decode cJ5_init_d00df 25 = .ok (.aload_n 0, 1) := by decide +kernel
theorem dJ5_init_d00df_26 : decode cJ5_init_d00df 26 = .ok (.iload_n 1, 1) := by decide +kernel
theorem dJ5_init_d00df_38 : decode cJ5_init_d00df 38 = .ok (.return_, 1) := by decide +kernel
theorem dJ5_length_8abf5_0 : decode cJ5_length_8abf5 0 = .ok (.aload_n 0, 1) := by decide +kernel
theorem dJ5_length_8abf5_1 : decode cJ5_length_8abf5 1 = .ok (.getfield 79, 3) := by decide +kernel
theorem dJ5_length_8abf5_4 : decode cJ5_length_8abf5 4 = .ok (.ireturn, 1) := by decide +kernel
theorem dJ5_ensureCapacityInternal_d00df_0 : decode cJ5_ensureCapacityInternal_d00df 0 = .ok (.aload_n 0, 1) := by decide +kernel
theorem dJ5_ensureCapacityInternal_d00df_1 : decode cJ5_ensureCapacityInternal_d00df 1 = .ok (.getfield 15, 3) := by decide +kernel
theorem dJ5_ensureCapacityInternal_d00df_4 : decode cJ5_ensureCapacityInternal_d00df 4 = .ok (.arraylength, 1) := by decide +kernel
theorem dJ5_ensureCapacityInternal_d00df_5 : decode cJ5_ensureCapacityInternal_d00df 5 = .ok (.aload_n 0, 1) := by decide +kernel
theorem dJ5_ensureCapacityInternal_d00df_6 : decode cJ5_ensureCapacityInternal_d00df 6 = .ok (.getfield 22, 3) := by decide +kernel
theorem dJ5_ensureCapacityInternal_d00df_9 : decode cJ5_ensureCapacityInternal_d00df 9 = .ok (.ishr, 1) := by decide +kernel
theorem dJ5_ensureCapacityInternal_d00df_10 : decode cJ5_ensureCapacityInternal_d00df 10 = .ok (.istore_n 2, 1) := by decide +kernel
theorem dJ5_ensureCapacityInternal_d00df_11 : decode cJ5_ensureCapacityInternal_d00df 11 = .ok (.iload_n 1, 1) := by decide +kernel
theorem dJ5_ensureCapacityInternal_d00df_12 : decode cJ5_ensureCapacityInternal_d00df 12 = .ok (.iload_n 2, 1) := by decide +kernel
theorem dJ5_ensureCapacityInternal_d00df_13 : decode cJ5_ensureCapacityInternal_d00df 13 = .ok (.isub, 1) := by decide +kernel
theorem dJ5_ensureCapacityInternal_d00df_14 : decode cJ5_ensureCapacityInternal_d00df 14 = .ok (.ifCond .le 24, 3) := by decide +kernel
theorem dJ5_ensureCapacityInternal_d00df_17 : decode cJ5_ensureCapacityInternal_d00df 17 = .ok (.aload_n 0, 1) := by decide +kernel
theorem dJ5_ensureCapacityInternal_d00df_18 : decode cJ5_ensureCapacityInternal_d00df 18 = .ok (.aload_n 0, 1) := by decide +kernel
theorem dJ5_ensureCapacityInternal_d00df_19 : decode cJ5_ensureCapacityInternal_d00df 19 = .ok (.getfield 15, 3) := by decide +kernel
theorem dJ5_ensureCapacityInternal_d00df_22 : decode cJ5_ensureCapacityInternal_d00df 22 = .ok (.aload_n 0, 1) := by decide +kernel
theorem dJ5_ensureCapacityInternal_d00df_23 : decode cJ5_ensureCapacityInternal_d00df 23 = .ok (.iload_n 1, 1) := by decide +kernel
theorem dJ5_ensureCapacityInternal_d00df_24 : decode cJ5_ensureCapacityInternal_d00df 24 = .ok (.invokevirtual 104, 3) := by decide +kernel
theorem dJ5_ensureCapacityInternal_d00df_27 : decode cJ5_ensureCapacityInternal_d00df 27 = .ok (.aload_n 0, 1) := by decide +kernel
theorem dJ5_ensureCapacityInternal_d00df_28 : decode cJ5_ensureCapacityInternal_d00df 28 = .ok (.getfield 22, 3) := by decide +kernel
theorem dJ5_ensureCapacityInternal_d00df_31 : decode cJ5_ensureCapacityInternal_d00df 31 = .ok (.ishl, 1) := by decide +kernel
theorem dJ5_ensureCapacityInternal_d00df_32 : decode cJ5_ensureCapacityInternal_d00df 32 = .ok (.invokestatic 108, 3) := by decide +kernel
theorem dJ5_ensureCapacityInternal_d00df_35 : decode cJ5_ensureCapacityInternal_d00df 35 = .ok (.putfield 15, 3) := by decide +kernel
theorem dJ5_ensureCapacityInternal_d00df_38 : decode cJ5_ensureCapacityInternal_d00df 38 = .ok (.return_, 1) := by decide +kernel
theorem dJ5_newCapacity_0f7a4_0 : decode cJ5_newCapacity_0f7a4 0 = .ok (.aload_n 0, 1) := by decide +kernel
theorem dJ5_newCapacity_0f7a4_1 : decode cJ5_newCapacity_0f7a4 1 = .ok (.getfield 15, 3) := by decide +kernel
theorem dJ5_newCapacity_0f7a4_4 : decode cJ5_newCapacity_0f7a4 4 = .ok (.arraylength, 1) := by decide +kernel
theorem dJ5_newCapacity_0f7a4_5 : decode cJ5_newCapacity_0f7a4 5 = .ok (.istore_n 2, 1) := by decide +kernel
theorem dJ5_newCapacity_0f7a4_6 : decode cJ5_newCapacity_0f7a4 6 = .ok (.iload_n 1, 1) := by decide +kernel
theorem dJ5_newCapacity_0f7a4_7 : decode cJ5_newCapacity_0f7a4 7 = .ok (.aload_n 0, 1) := by decide +kernel
theorem dJ5_newCapacity_0f7a4_8 : decode cJ5_newCapacity_0f7a4 8 = .ok (.getfield 22, 3) := by decide +kernel
theorem dJ5_newCapacity_0f7a4_11 : decode cJ5_newCapacity_0f7a4 11 = .ok (.ishl, 1) := by decide +kernel
theorem dJ5_newCapacity_0f7a4_12 : decode cJ5_newCapacity_0f7a4 12 = .ok (.istore_n 3, 1) := by decide +kernel
theorem dJ5_newCapacity_0f7a4_13 : decode cJ5_newCapacity_0f7a4 13 = .ok (.iload_n 3, 1) := by decide +kernel
theorem dJ5_newCapacity_0f7a4_14 : decode cJ5_newCapacity_0f7a4 14 = .ok (.iload_n 2, 1) := by decide +kernel
theorem dJ5_newCapacity_0f7a4_15 : decode cJ5_newCapacity_0f7a4 15 = .ok (.isub, 1) := by decide +kernel
theorem dJ5_newCapacity_0f7a4_16 : decode cJ5_newCapacity_0f7a4 16 = .ok (.istore 4, 2) := by decide +kernel
theorem dJ5_newCapacity_0f7a4_18 : decode cJ5_newCapacity_0f7a4 18 = .ok (.iload_n 2, 1) := by decide +kernel
theorem dJ5_newCapacity_0f7a4_19 : decode cJ5_newCapacity_0f7a4 19 = .ok (.iload 4, 2) := by decide +kernel
theorem dJ5_newCapacity_0f7a4_21 : decode cJ5_newCapacity_0f7a4 21 = .ok (.iload_n 2, 1) := by decide +kernel
theorem dJ5_newCapacity_0f7a4_22 : decode cJ5_newCapacity_0f7a4 22 = .ok (.iconst 2, 1) := by decide +kernel
theorem dJ5_newCapacity_0f7a4_23 : decode cJ5_newCapacity_0f7a4 23 = .ok (.aload_n 0, 1) := by decide +kernel
theorem dJ5_newCapacity_0f7a4_24 : decode cJ5_newCapacity_0f7a4 24 = .ok (.getfield 22, 3) := by decide +kernel
theorem dJ5_newCapacity_0f7a4_27 : decode cJ5_newCapacity_0f7a4 27 = .ok (.ishl, 1) := by decide +kernel
theorem dJ5_newCapacity_0f7a4_28 : decode cJ5_newCapacity_0f7a4 28 = .ok (.iadd, 1) := by decide +kernel
theorem dJ5_newCapacity_0f7a4_29 : decode cJ5_newCapacity_0f7a4 29 = .ok (.invokestatic 114, 3) := by decide +kernel
theorem dJ5_newCapacity_0f7a4_32 : decode cJ5_newCapacity_0f7a4 32 = .ok (.istore 5, 2) := by decide +kernel
theorem dJ5_newCapacity_0f7a4_34 : decode cJ5_newCapacity_0f7a4 34 = .ok (.iload 5, 2) := by decide +kernel
theorem dJ5_newCapacity_0f7a4_36 : decode cJ5_newCapacity_0f7a4 36 = .ok (.ldc 39, 2) := by decide +kernel
theorem dJ5_newCapacity_0f7a4_38 : decode cJ5_newCapacity_0f7a4 38 = .ok (.if_icmp .ne 13, 3) := by decide +kernel
theorem dJ5_newCapacity_0f7a4_51 : decode cJ5_newCapacity_0f7a4 51 = .ok (.iload 5, 2) := by decide +kernel
theorem dJ5_newCapacity_0f7a4_53 : decode cJ5_newCapacity_0f7a4 53 = .ok (.aload_n 0, 1) := by decide +kernel
theorem dJ5_newCapacity_0f7a4_54 : decode cJ5_newCapacity_0f7a4 54 = .ok (.getfield 22, 3) := by decide +kernel
theorem dJ5_newCapacity_0f7a4_57 : decode cJ5_newCapacity_0f7a4 57 = .ok (.ishr, 1) := by decide +kernel
theorem dJ5_newCapacity_0f7a4_58 : decode cJ5_newCapacity_0f7a4 58 = .ok (.ireturn, 1) := by decide +kernel
theorem dJ5_setLength_d00df_0 : decode cJ5_setLength_d00df 0 = .ok (.iload_n 1, 1) := by decide +kernel
theorem dJ5_setLength_d00df_1 : decode cJ5_setLength_d00df 1 = .ok (.ifCond .ge 12, 3) := by decide +kernel
theorem dJ5_setLength_d00df_13 : decode cJ5_setLength_d00df 13 = .ok (.aload_n 0, 1) := by decide +kernel
theorem dJ5_setLength_d00df_14 : decode cJ5_setLength_d00df 14 = .ok (.iload_n 1, 1) := by decide +kernel
theorem dJ5_setLength_d00df_15 : decode cJ5_setLength_d00df 15 = .ok (.invokevirtual 100, 3) := by decide +kernel
theorem dJ5_setLength_d00df_18 : decode cJ5_setLength_d00df 18 = .ok (.aload_n 0, 1) := by decide +kernel
theorem dJ5_setLength_d00df_19 : decode cJ5_setLength_d00df 19 = .ok (.getfield 79, 3) := by decide +kernel
theorem dJ5_setLength_d00df_22 : decode cJ5_setLength_d00df 22 = .ok (.iload_n 1, 1) := by decide +kernel
theorem dJ5_setLength_d00df_23 : decode cJ5_setLength_d00df 23 = .ok (.if_icmp .ge 40, 3) := by decide +kernel
theorem dJ5_setLength_d00df_26 : decode cJ5_setLength_d00df 26 = .ok (.aload_n 0, 1) := by decide +kernel
theorem dJ5_setLength_d00df_27 : decode cJ5_setLength_d00df 27 = .ok (.invokevirtual 83, 3) := by decide +kernel
theorem dJ5_setLength_d00df_30 : decode cJ5_setLength_d00df 30 = .ok (.ifCond .eq 18, 3) := by decide +kernel
theorem dJ5_setLength_d00df_33 : decode cJ5_setLength_d00df 33 = .ok (.aload_n 0, 1) := by decide +kernel
theorem dJ5_setLength_d00df_34 : decode cJ5_setLength_d00df 34 = .ok (.getfield 15, 3) := by decide +kernel
theorem dJ5_setLength_d00df_37 : decode cJ5_setLength_d00df 37 = .ok (.aload_n 0, 1) := by decide +kernel
theorem dJ5_setLength_d00df_38 : decode cJ5_setLength_d00df 38 = .ok (.getfield 79, 3) := by decide +kernel
theorem dJ5_setLength_d00df_41 : decode cJ5_setLength_d00df 41 = .ok (.iload_n 1, 1) := by decide +kernel
theorem dJ5_setLength_d00df_48 : decode cJ5_setLength_d00df 48 = .ok (.aload_n 0, 1) := by decide +kernel
theorem dJ5_setLength_d00df_49 : decode cJ5_setLength_d00df 49 = .ok (.getfield 15, 3) := by decide +kernel
theorem dJ5_setLength_d00df_52 : decode cJ5_setLength_d00df 52 = .ok (.aload_n 0, 1) := by decide +kernel
theorem dJ5_setLength_d00df_53 : decode cJ5_setLength_d00df 53 = .ok (.getfield 79, 3) := by decide +kernel
theorem dJ5_setLength_d00df_56 : decode cJ5_setLength_d00df 56 = .ok (.iload_n 1, 1) := by decide +kernel
theorem dJ5_setLength_d00df_63 : decode cJ5_setLength_d00df 63 = .ok (.aload_n 0, 1) := by decide +kernel
theorem dJ5_setLength_d00df_64 : decode cJ5_setLength_d00df 64 = .ok (.getfield 79, 3) := by decide +kernel
theorem dJ5_setLength_d00df_67 : decode cJ5_setLength_d00df 67 = .ok (.iload_n 1, 1) := by decide +kernel
theorem dJ5_setLength_d00df_68 : decode cJ5_setLength_d00df 68 = .ok (.if_icmp .le 8, 3) := by decide +kernel
theorem dJ5_setLength_d00df_71 : decode cJ5_setLength_d00df 71 = .ok (.aload_n 0, 1) := by decide +kernel
theorem dJ5_setLength_d00df_72 : decode cJ5_setLength_d00df 72 = .ok (.iconst 1, 1) := by decide +kernel
theorem dJ5_setLength_d00df_73 : decode cJ5_setLength_d00df 73 = .ok (.putfield 73, 3) := by decide +kernel
theorem dJ5_setLength_d00df_76 : decode cJ5_setLength_d00df 76 = .ok (.aload_n 0, 1) := by decide +kernel
theorem dJ5_setLength_d00df_77 : decode cJ5_setLength_d00df 77 = .ok (.iload_n 1, 1) := by decide +kernel
theorem dJ5_setLength_d00df_78 : decode cJ5_setLength_d00df 78 = .ok (.putfield 79, 3) := by decide +kernel
theorem dJ5_setLength_d00df_81 : decode cJ5_setLength_d00df 81 = .ok (.return_, 1) := by decide +kernel
theorem dJ5_charAt_5068e_0 : decode cJ5_charAt_5068e 0 = .ok (.aload_n 0, 1) := by decide +kernel
theorem dJ5_charAt_5068e_1 : decode cJ5_charAt_5068e 1 = .ok (.getfield 22, 3) := by decide +kernel
theorem dJ5_charAt_5068e_4 : decode cJ5_charAt_5068e 4 = .ok (.istore_n 2, 1) := by decide +kernel
theorem dJ5_charAt_5068e_5 : decode cJ5_charAt_5068e 5 = .ok (.aload_n 0, 1) := by decide +kernel
theorem dJ5_charAt_5068e_6 : decode cJ5_charAt_5068e 6 = .ok (.getfield 15, 3) := by decide +kernel
theorem dJ5_charAt_5068e_9 : decode cJ5_charAt_5068e 9 = .ok (.astore_n 3, 1) := by decide +kernel
theorem dJ5_charAt_5068e_10 : decode cJ5_charAt_5068e 10 = .ok (.aload_n 0, 1) := by decide +kernel
theorem dJ5_charAt_5068e_11 : decode cJ5_charAt_5068e 11 = .ok (.getfield 79, 3) := by decide +kernel
theorem dJ5_charAt_5068e_14 : decode cJ5_charAt_5068e 14 = .ok (.aload_n 3, 1) := by decide +kernel
theorem dJ5_charAt_5068e_15 : decode cJ5_charAt_5068e 15 = .ok (.arraylength, 1) := by decide +kernel
theorem dJ5_charAt_5068e_16 : decode cJ5_charAt_5068e 16 = .ok (.iload_n 2, 1) := by decide +kernel
theorem dJ5_charAt_5068e_17 : decode cJ5_charAt_5068e 17 = .ok (.ishr, 1) := by decide +kernel
theorem dJ5_charAt_5068e_18 : decode cJ5_charAt_5068e 18 = .ok (.invokestatic 138, 3) := by decide +kernel
theorem dJ5_charAt_5068e_21 : decode cJ5_charAt_5068e 21 = .ok (.istore 4, 2) := by decide +kernel
theorem dJ5_charAt_5068e_23 : decode cJ5_charAt_5068e 23 = .ok (.iload_n 1, 1) := by decide +kernel
theorem dJ5_charAt_5068e_24 : decode cJ5_charAt_5068e 24 = .ok (.iload 4, 2) := by decide +kernel
theorem dJ5_charAt_5068e_26 : decode cJ5_charAt_5068e 26 = .ok (.invokestatic 144, 3) := by decide +kernel
theorem dJ5_charAt_5068e_29 : decode cJ5_charAt_5068e 29 = .ok (.iload_n 2, 1) := by decide +kernel
theorem dJ5_charAt_5068e_30 : decode cJ5_charAt_5068e 30 = .ok (.ifCond .ne 12, 3) := by decide +kernel
theorem dJ5_charAt_5068e_33 : decode cJ5_charAt_5068e 33 = .ok (.aload_n 3, 1) := by decide +kernel
theorem dJ5_charAt_5068e_34 : decode cJ5_charAt_5068e 34 = .ok (.iload_n 1, 1) := by decide +kernel
theorem dJ5_charAt_5068e_35 : decode cJ5_charAt_5068e 35 = .ok (.baload, 1) := by decide +kernel
theorem dJ5_charAt_5068e_36 : decode cJ5_charAt_5068e 36 = .ok (.sipush 255, 3) := by decide +kernel
theorem dJ5_charAt_5068e_39 : decode cJ5_charAt_5068e 39 = .ok (.iand, 1) := by decide +kernel
theorem dJ5_charAt_5068e_40 : decode cJ5_charAt_5068e 40 = .ok (.i2c, 1) := by decide +kernel
theorem dJ5_charAt_5068e_41 : decode cJ5_charAt_5068e 41 = .ok (.ireturn, 1) := by decide +kernel
theorem dJ5_charAt_5068e_42 : decode cJ5_charAt_5068e 42 = .ok (.aload_n 3, 1) := by decide +kernel
theorem dJ5_charAt_5068e_43 : decode cJ5_charAt_5068e 43 = .ok (.iload_n 1, 1) := by decide +kernel
theorem dJ5_append_cf1ce_0 : decode cJ5_append_cf1ce 0 = .ok (.aload_n 1, 1) := by decide +kernel
theorem dJ5_append_cf1ce_1 : decode cJ5_append_cf1ce 1 = .ok (.ifnonnull 8, 3) := by decide +kernel
theorem dJ5_append_cf1ce_9 : decode cJ5_append_cf1ce 9 = .ok (.aload_n 1, 1) := by decide +kernel
theorem dJ5_append_cf1ce_10 : decode cJ5_append_cf1ce 10 = .ok (.invokevirtual 32, 3) := by decide +kernel
theorem dJ5_append_cf1ce_13 : decode cJ5_append_cf1ce 13 = .ok (.istore_n 2, 1) := by decide +kernel
theorem dJ5_append_cf1ce_14 : decode cJ5_append_cf1ce 14 = .ok (.aload_n 0, 1) := by decide +kernel
theorem dJ5_append_cf1ce_15 : decode cJ5_append_cf1ce 15 = .ok (.aload_n 0, 1) := by decide +kernel
theorem dJ5_append_cf1ce_16 : decode cJ5_append_cf1ce 16 = .ok (.getfield 79, 3) := by decide +kernel
theorem dJ5_append_cf1ce_19 : decode cJ5_append_cf1ce 19 = .ok (.iload_n 2, 1) := by decide +kernel
theorem dJ5_append_cf1ce_20 : decode cJ5_append_cf1ce 20 = .ok (.iadd, 1) := by decide +kernel
theorem dJ5_append_cf1ce_21 : decode cJ5_append_cf1ce 21 = .ok (.invokevirtual 100, 3) := by decide +kernel
theorem dJ5_append_cf1ce_24 : decode cJ5_append_cf1ce 24 = .ok (.aload_n 0, 1) := by decide +kernel
theorem dJ5_append_cf1ce_25 : decode cJ5_append_cf1ce 25 = .ok (.aload_n 0, 1) := by decide +kernel
theorem dJ5_append_cf1ce_26 : decode cJ5_append_cf1ce 26 = .ok (.getfield 79, 3) := by decide +kernel
theorem dJ5_append_cf1ce_29 : decode cJ5_append_cf1ce 29 = .ok (.aload_n 1, 1) := by decide +kernel
theorem dJ5_append_cf1ce_30 : decode cJ5_append_cf1ce 30 = .ok (.invokevirtual 208, 3) := by decide +kernel
theorem dJ5_append_cf1ce_33 : decode cJ5_append_cf1ce 33 = .ok (.aload_n 0, 1) := by decide +kernel
theorem dJ5_append_cf1ce_34 : decode cJ5_append_cf1ce 34 = .ok (.dup, 1) := by decide +kernel
theorem dJ5_append_cf1ce_35 : decode cJ5_append_cf1ce 35 = .ok (.getfield 79, 3) := by decide +kernel
theorem dJ5_append_cf1ce_38 : decode cJ5_append_cf1ce 38 = .ok (.iload_n 2, 1) := by decide +kernel
theorem dJ5_append_cf1ce_39 : decode cJ5_append_cf1ce 39 = .ok (.iadd, 1) := by decide +kernel
theorem dJ5_append_cf1ce_40 : decode cJ5_append_cf1ce 40 = .ok (.putfield 79, 3) := by decide +kernel
theorem dJ5_append_cf1ce_43 : decode cJ5_append_cf1ce 43 = .ok (.aload_n 0, 1) := by decide +kernel
theorem dJ5_append_cf1ce_44 : decode cJ5_append_cf1ce 44 = .ok (.areturn, 1) := by decide +kernel
theorem dJ5_append_3fe6f_0 : decode cJ5_append_3fe6f 0 = .ok (.aload_n 0, 1) := by decide +kernel
theorem dJ5_append_3fe6f_1 : decode cJ5_append_3fe6f 1 = .ok (.aload_n 0, 1) := by decide +kernel
theorem dJ5_append_3fe6f_2 : decode cJ5_append_3fe6f 2 = .ok (.getfield 79, 3) := by decide +kernel
theorem dJ5_append_3fe6f_5 : decode cJ5_append_3fe6f 5 = .ok (.iconst 1, 1) := by decide +kernel
theorem dJ5_append_3fe6f_6 : decode cJ5_append_3fe6f 6 = .ok (.iadd, 1) := by decide +kernel
theorem dJ5_append_3fe6f_7 : decode cJ5_append_3fe6f 7 = .ok (.invokevirtual 100, 3) := by decide +kernel
theorem dJ5_append_3fe6f_10 : decode cJ5_append_3fe6f 10 = .ok (.aload_n 0, 1) := by decide +kernel
theorem dJ5_append_3fe6f_11 : decode cJ5_append_3fe6f 11 = .ok (.invokevirtual 83, 3) := by decide +kernel
theorem dJ5_append_3fe6f_14 : decode cJ5_append_3fe6f 14 = .ok (.ifCond .eq 31, 3) := by decide +kernel
theorem dJ5_append_3fe6f_17 : decode cJ5_append_3fe6f 17 = .ok (.iload_n 1, 1) := by decide +kernel
theorem dJ5_append_3fe6f_18 : decode cJ5_append_3fe6f 18 = .ok (.invokestatic 191, 3) := by decide +kernel
theorem dJ5_append_3fe6f_21 : decode cJ5_append_3fe6f 21 = .ok (.ifCond .eq 24, 3) := by decide +kernel
theorem dJ5_append_3fe6f_24 : decode cJ5_append_3fe6f 24 = .ok (.aload_n 0, 1) := by decide +kernel
theorem dJ5_append_3fe6f_25 : decode cJ5_append_3fe6f 25 = .ok (.getfield 15, 3) := by decide +kernel
theorem dJ5_append_3fe6f_28 : decode cJ5_append_3fe6f 28 = .ok (.aload_n 0, 1) := by decide +kernel
theorem dJ5_append_3fe6f_29 : decode cJ5_append_3fe6f 29 = .ok (.dup, 1) := by decide +kernel
theorem dJ5_append_3fe6f_30 : decode cJ5_append_3fe6f 30 = .ok (.getfield 79, 3) := by decide +kernel
theorem dJ5_append_3fe6f_33 : decode cJ5_append_3fe6f 33 = .ok (.dup_x1, 1) := by decide +kernel
theorem dJ5_append_3fe6f_34 : decode cJ5_append_3fe6f 34 = .ok (.iconst 1, 1) := by decide +kernel
theorem dJ5_append_3fe6f_35 : decode cJ5_append_3fe6f 35 = .ok (.iadd, 1) := by decide +kernel
theorem dJ5_append_3fe6f_36 : decode cJ5_append_3fe6f 36 = .ok (.putfield 79, 3) := by decide +kernel
theorem dJ5_append_3fe6f_39 : decode cJ5_append_3fe6f 39 = .ok (.iload_n 1, 1) := by decide +kernel
theorem dJ5_append_3fe6f_40 : decode cJ5_append_3fe6f 40 = .ok (.i2b, 1) := by decide +kernel
theorem dJ5_append_3fe6f_41 : decode cJ5_append_3fe6f 41 = .ok (.bastore, 1) := by decide +kernel
theorem dJ5_append_3fe6f_42 : decode cJ5_append_3fe6f 42 = .ok (.goto 33, 3) := by decide +kernel
theorem dJ5_append_3fe6f_45 : decode cJ5_append_3fe6f 45 = .ok (.aload_n 0, 1) := by decide +kernel
theorem dJ5_append_3fe6f_46 : decode cJ5_append_3fe6f 46 = .ok (.invokevirtual 83, 3) := by decide +kernel
theorem dJ5_append_3fe6f_49 : decode cJ5_append_3fe6f 49 = .ok (.ifCond .eq 7, 3) := by decide +kernel
theorem dJ5_append_3fe6f_52 : decode cJ5_append_3fe6f 52 = .ok (.aload_n 0, 1) := by decide +kernel
theorem dJ5_append_3fe6f_56 : decode cJ5_append_3fe6f 56 = .ok (.aload_n 0, 1) := by decide +kernel
theorem dJ5_append_3fe6f_57 : decode cJ5_append_3fe6f 57 = .ok (.getfield 15, 3) := by decide +kernel
theorem dJ5_append_3fe6f_60 : decode cJ5_append_3fe6f 60 = .ok (.aload_n 0, 1) := by decide +kernel
theorem dJ5_append_3fe6f_61 : decode cJ5_append_3fe6f 61 = .ok (.dup, 1) := by decide +kernel
theorem dJ5_append_3fe6f_62 : decode cJ5_append_3fe6f 62 = .ok (.getfield 79, 3) := by decide +kernel
theorem dJ5_append_3fe6f_65 : decode cJ5_append_3fe6f 65 = .ok (.dup_x1, 1) := by decide +kernel
theorem dJ5_append_3fe6f_66 : decode cJ5_append_3fe6f 66 = .ok (.iconst 1, 1) := by decide +kernel
theorem dJ5_append_3fe6f_67 : decode cJ5_append_3fe6f 67 = .ok (.iadd, 1) := by decide +kernel
theorem dJ5_append_3fe6f_68 : decode cJ5_append_3fe6f 68 = .ok (.putfield 79, 3) := by decide +kernel
theorem dJ5_append_3fe6f_71 : decode cJ5_append_3fe6f 71 = .ok (.iload_n 1, 1) := by decide +kernel
theorem dJ5_append_3fe6f_75 : decode cJ5_append_3fe6f 75 = .ok (.aload_n 0, 1) := by decide +kernel
theorem dJ5_append_3fe6f_76 : decode cJ5_append_3fe6f 76 = .ok (.areturn, 1) := by decide +kernel
theorem dJ5_append_c97b9_0 : decode cJ5_append_c97b9 0 = .ok (.aload_n 0, 1) := by decide +kernel
theorem dJ5_append_c97b9_1 : decode cJ5_append_c97b9 1 = .ok (.getfield 79, 3) := by decide +kernel
theorem dJ5_append_c97b9_4 : decode cJ5_append_c97b9 4 = .ok (.istore_n 2, 1) := by decide +kernel
theorem dJ5_append_c97b9_5 : decode cJ5_append_c97b9 5 = .ok (.iload_n 2, 1) := by decide +kernel
theorem dJ5_append_c97b9_6 : decode cJ5_append_c97b9 6 = .ok (.iload_n 1, 1) := by decide +kernel
theorem dJ5_append_c97b9_7 : decode cJ5_append_c97b9 7 = .ok (.invokestatic 245, 3) := by decide +kernel
theorem dJ5_append_c97b9_10 : decode cJ5_append_c97b9 10 = .ok (.iadd, 1) := by decide +kernel
theorem dJ5_append_c97b9_11 : decode cJ5_append_c97b9 11 = .ok (.istore_n 3, 1) := by decide +kernel
theorem dJ5_append_c97b9_12 : decode cJ5_append_c97b9 12 = .ok (.aload_n 0, 1) := by decide +kernel
theorem dJ5_append_c97b9_13 : decode cJ5_append_c97b9 13 = .ok (.iload_n 3, 1) := by decide +kernel
theorem dJ5_append_c97b9_14 : decode cJ5_append_c97b9 14 = .ok (.invokevirtual 100, 3) := by decide +kernel
theorem dJ5_append_c97b9_17 : decode cJ5_append_c97b9 17 = .ok (.aload_n 0, 1) := by decide +kernel
theorem dJ5_append_c97b9_18 : decode cJ5_append_c97b9 18 = .ok (.invokevirtual 83, 3) := by decide +kernel
theorem dJ5_append_c97b9_21 : decode cJ5_append_c97b9 21 = .ok (.ifCond .eq 16, 3) := by decide +kernel
theorem dJ5_append_c97b9_24 : decode cJ5_append_c97b9 24 = .ok (.iload_n 1, 1) := by decide +kernel
theorem dJ5_append_c97b9_25 : decode cJ5_append_c97b9 25 = .ok (.iload_n 3, 1) := by decide +kernel
theorem dJ5_append_c97b9_26 : decode cJ5_append_c97b9 26 = .ok (.aload_n 0, 1) := by decide +kernel
theorem dJ5_append_c97b9_27 : decode cJ5_append_c97b9 27 = .ok (.getfield 15, 3) := by decide +kernel
theorem dJ5_append_c97b9_30 : decode cJ5_append_c97b9 30 = .ok (.invokestatic 248, 3) := by decide +kernel
theorem dJ5_append_c97b9_33 : decode cJ5_append_c97b9 33 = .ok (.pop, 1) := by decide +kernel
theorem dJ5_append_c97b9_34 : decode cJ5_append_c97b9 34 = .ok (.goto 14, 3) := by decide +kernel
theorem dJ5_append_c97b9_37 : decode cJ5_append_c97b9 37 = .ok (.iload_n 1, 1) := by decide +kernel
theorem dJ5_append_c97b9_38 : decode cJ5_append_c97b9 38 = .ok (.iload_n 2, 1) := by decide +kernel
theorem dJ5_append_c97b9_39 : decode cJ5_append_c97b9 39 = .ok (.iload_n 3, 1) := by decide +kernel
theorem dJ5_append_c97b9_40 : decode cJ5_append_c97b9 40 = .ok (.aload_n 0, 1) := by decide +kernel
theorem dJ5_append_c97b9_41 : decode cJ5_append_c97b9 41 = .ok (.getfield 15, 3) := by decide +kernel
theorem dJ5_append_c97b9_48 : decode cJ5_append_c97b9 48 = .ok (.aload_n 0, 1) := by decide +kernel
theorem dJ5_append_c97b9_49 : decode cJ5_append_c97b9 49 = .ok (.iload_n 3, 1) := by decide +kernel
theorem dJ5_append_c97b9_50 : decode cJ5_append_c97b9 50 = .ok (.putfield 79, 3) := by decide +kernel
theorem dJ5_append_c97b9_53 : decode cJ5_append_c97b9 53 = .ok (.aload_n 0, 1) := by decide +kernel
theorem dJ5_append_c97b9_54 : decode cJ5_append_c97b9 54 = .ok (.areturn, 1) := by decide +kernel
theorem dJ5_isLatin1_aae02_0 : decode cJ5_isLatin1_aae02 0 = .ok (.getstatic 18, 3) := by decide +kernel
theorem dJ5_isLatin1_aae02_3 : decode cJ5_isLatin1_aae02 3 = .ok (.ifCond .eq 14, 3) := by decide +kernel
theorem dJ5_isLatin1_aae02_6 : decode cJ5_isLatin1_aae02 6 = .ok (.aload_n 0, 1) := by decide +kernel
theorem dJ5_isLatin1_aae02_7 : decode cJ5_isLatin1_aae02 7 = .ok (.getfield 22, 3) := by decide +kernel
theorem dJ5_isLatin1_aae02_10 : decode cJ5_isLatin1_aae02 10 = .ok (.ifCond .ne 7, 3) := by decide +kernel
theorem dJ5_isLatin1_aae02_13 : decode cJ5_isLatin1_aae02 13 = .ok (.iconst 1, 1) := by decide +kernel
theorem dJ5_isLatin1_aae02_14 : decode cJ5_isLatin1_aae02 14 = .ok (.goto 4, 3) := by decide +kernel
theorem dJ5_isLatin1_aae02_17 : decode cJ5_isLatin1_aae02 17 = .ok (.iconst 0, 1) := by decide +kernel
theorem dJ5_isLatin1_aae02_18 : decode cJ5_isLatin1_aae02 18 = .ok (.ireturn, 1) := by decide +kernel
theorem dJ5_inflateIfNeededFor_a7421_0 : decode cJ5_inflateIfNeededFor_a7421 0 = .ok (.getstatic 18, 3) := by decide +kernel
theorem dJ5_inflateIfNeededFor_a7421_3 : decode cJ5_inflateIfNeededFor_a7421 3 = .ok (.ifCond .eq 18, 3) := by decide +kernel
theorem dJ5_inflateIfNeededFor_a7421_6 : decode cJ5_inflateIfNeededFor_a7421 6 = .ok (.aload_n 0, 1) := by decide +kernel
theorem dJ5_inflateIfNeededFor_a7421_7 : decode cJ5_inflateIfNeededFor_a7421 7 = .ok (.getfield 22, 3) := by decide +kernel
theorem dJ5_inflateIfNeededFor_a7421_10 : decode cJ5_inflateIfNeededFor_a7421 10 = .ok (.aload_n 1, 1) := by decide +kernel
theorem dJ5_inflateIfNeededFor_a7421_11 : decode cJ5_inflateIfNeededFor_a7421 11 = .ok (.invokevirtual 40, 3) := by decide +kernel
theorem dJ5_inflateIfNeededFor_a7421_14 : decode cJ5_inflateIfNeededFor_a7421 14 = .ok (.if_icmp .eq 7, 3) := by decide +kernel
theorem dJ5_inflateIfNeededFor_a7421_17 : decode cJ5_inflateIfNeededFor_a7421 17 = .ok (.aload_n 0, 1) := by decide +kernel
theorem dJ5_inflateIfNeededFor_a7421_21 : decode cJ5_inflateIfNeededFor_a7421 21 = .ok (.return_, 1) := by decide +kernel
theorem dJ5_putStringAt_47b60_0 : decode cJ5_putStringAt_47b60 0 = .ok (.aload_n 0, 1) := by decide +kernel
theorem dJ5_putStringAt_47b60_1 : decode cJ5_putStringAt_47b60 1 = .ok (.aload_n 2, 1) := by decide +kernel
theorem dJ5_putStringAt_47b60_2 : decode cJ5_putStringAt_47b60 2 = .ok (.invokevirtual 397, 3) := by decide +kernel
theorem dJ5_putStringAt_47b60_5 : decode cJ5_putStringAt_47b60 5 = .ok (.aload_n 2, 1) := by decide +kernel
theorem dJ5_putStringAt_47b60_6 : decode cJ5_putStringAt_47b60 6 = .ok (.aload_n 0, 1) := by decide +kernel
theorem dJ5_putStringAt_47b60_7 : decode cJ5_putStringAt_47b60 7 = .ok (.getfield 15, 3) := by decide +kernel
theorem dJ5_putStringAt_47b60_10 : decode cJ5_putStringAt_47b60 10 = .ok (.iload_n 1, 1) := by decide +kernel
theorem dJ5_putStringAt_47b60_11 : decode cJ5_putStringAt_47b60 11 = .ok (.aload_n 0, 1) := by decide +kernel
theorem dJ5_putStringAt_47b60_12 : decode cJ5_putStringAt_47b60 12 = .ok (.getfield 22, 3) := by decide +kernel
theorem dJ5_putStringAt_47b60_15 : decode cJ5_putStringAt_47b60 15 = .ok (.invokevirtual 399, 3) := by decide +kernel
theorem dJ5_putStringAt_47b60_18 : decode cJ5_putStringAt_47b60 18 = .ok (.return_, 1) := by decide +kernel
theorem dJ6_getChars_ba4f3_0 : decode cJ6_getChars_ba4f3 0 = .ok (.iload_n 1, 1) := by decide +kernel
theorem dJ6_getChars_ba4f3_1 : decode cJ6_getChars_ba4f3 1 = .ok (.istore 5, 2) := by decide +kernel
theorem dJ6_getChars_ba4f3_3 : decode cJ6_getChars_ba4f3 3 = .ok (.iload_n 0, 1) := by decide +kernel
theorem dJ6_getChars_ba4f3_4 : decode cJ6_getChars_ba4f3 4 = .ok (.ifCond .ge 7, 3) := by decide +kernel
theorem dJ6_getChars_ba4f3_7 : decode cJ6_getChars_ba4f3 7 = .ok (.iconst 1, 1) := by decide +kernel
theorem dJ6_getChars_ba4f3_8 : decode cJ6_getChars_ba4f3 8 = .ok (.goto 4, 3) := by decide +kernel
theorem dJ6_getChars_ba4f3_11 : decode cJ6_getChars_ba4f3 11 = .ok (.iconst 0, 1) := by decide +kernel
theorem dJ6_getChars_ba4f3_12 : decode cJ6_getChars_ba4f3 12 = .ok (.istore 6, 2) := by decide +kernel
theorem dJ6_getChars_ba4f3_14 : decode cJ6_getChars_ba4f3 14 = .ok (.iload 6, 2) := by decide +kernel
theorem dJ6_getChars_ba4f3_16 : decode cJ6_getChars_ba4f3 16 = .ok (.ifCond .ne 6, 3) := by decide +kernel
theorem dJ6_getChars_ba4f3_19 : decode cJ6_getChars_ba4f3 19 = .ok (.iload_n 0, 1) := by decide +kernel
theorem dJ6_getChars_ba4f3_20 : decode cJ6_getChars_ba4f3 20 = .ok (.ineg, 1) := by decide +kernel
theorem dJ6_getChars_ba4f3_21 : decode cJ6_getChars_ba4f3 21 = .ok (.istore_n 0, 1) := by decide +kernel
theorem dJ6_getChars_ba4f3_22 : decode cJ6_getChars_ba4f3 22 = .ok (.iload_n 0, 1) := by decide +kernel
theorem dJ6_getChars_ba4f3_23 : decode cJ6_getChars_ba4f3 23 = .ok (.bipush (-100), 2) := by decide +kernel
theorem dJ6_getChars_ba4f3_25 : decode cJ6_getChars_ba4f3 25 = .ok (.if_icmp .gt 47, 3) := by decide +kernel
theorem dJ6_getChars_ba4f3_28 : decode cJ6_getChars_ba4f3 28 = .ok (.iload_n 0, 1) := by decide +kernel
theorem dJ6_getChars_ba4f3_29 : decode cJ6_getChars_ba4f3 29 = .ok (.bipush 100, 2) := by decide +kernel
theorem dJ6_getChars_ba4f3_31 : decode cJ6_getChars_ba4f3 31 = .ok (.idiv, 1) := by decide +kernel
theorem dJ6_getChars_ba4f3_32 : decode cJ6_getChars_ba4f3 32 = .ok (.istore_n 3, 1) := by decide +kernel
theorem dJ6_getChars_ba4f3_33 : decode cJ6_getChars_ba4f3 33 = .ok (.iload_n 3, 1) := by decide +kernel
theorem dJ6_getChars_ba4f3_34 : decode cJ6_getChars_ba4f3 34 = .ok (.bipush 100, 2) := by decide +kernel
theorem dJ6_getChars_ba4f3_36 : decode cJ6_getChars_ba4f3 36 = .ok (.imul, 1) := by decide +kernel
theorem dJ6_getChars_ba4f3_37 : decode cJ6_getChars_ba4f3 37 = .ok (.iload_n 0, 1) := by decide +kernel
theorem dJ6_getChars_ba4f3_38 : decode cJ6_getChars_ba4f3 38 = .ok (.isub, 1) := by decide +kernel
theorem dJ6_getChars_ba4f3_39 : decode cJ6_getChars_ba4f3 39 = .ok (.istore 4, 2) := by decide +kernel
theorem dJ6_getChars_ba4f3_41 : decode cJ6_getChars_ba4f3 41 = .ok (.iload_n 3, 1) := by decide +kernel
theorem dJ6_getChars_ba4f3_42 : decode cJ6_getChars_ba4f3 42 = .ok (.istore_n 0, 1) := by decide +kernel
theorem dJ6_getChars_ba4f3_43 : decode cJ6_getChars_ba4f3 43 = .ok (.aload_n 2, 1) := by decide +kernel
theorem dJ6_getChars_ba4f3_44 : decode cJ6_getChars_ba4f3 44 = .ok (.iinc 5 (-1), 3) := by decide +kernel
theorem dJ6_getChars_ba4f3_47 : decode cJ6_getChars_ba4f3 47 = .ok (.iload 5, 2) := by decide +kernel
theorem dJ6_getChars_ba4f3_49 : decode cJ6_getChars_ba4f3 49 = .ok (.getstatic 83, 3) := by decide +kernel
theorem dJ6_getChars_ba4f3_52 : decode cJ6_getChars_ba4f3 52 = .ok (.iload 4, 2) := by decide +kernel
theorem dJ6_getChars_ba4f3_54 : decode cJ6_getChars_ba4f3 54 = .ok (.baload, 1) := by decide +kernel
theorem dJ6_getChars_ba4f3_55 : decode cJ6_getChars_ba4f3 55 = .ok (.bastore, 1) := by decide +kernel
theorem dJ6_getChars_ba4f3_56 : decode cJ6_getChars_ba4f3 56 = .ok (.aload_n 2, 1) := by decide +kernel
theorem dJ6_getChars_ba4f3_57 : decode cJ6_getChars_ba4f3 57 = .ok (.iinc 5 (-1), 3) := by decide +kernel
theorem dJ6_getChars_ba4f3_60 : decode cJ6_getChars_ba4f3 60 = .ok (.iload 5, 2) := by decide +kernel
theorem dJ6_getChars_ba4f3_62 : decode cJ6_getChars_ba4f3 62 = .ok (.getstatic 87, 3) := by decide +kernel
theorem dJ6_getChars_ba4f3_65 : decode cJ6_getChars_ba4f3 65 = .ok (.iload 4, 2) := by decide +kernel
theorem dJ6_getChars_ba4f3_67 : decode cJ6_getChars_ba4f3 67 = .ok (.baload, 1) := by decide +kernel
theorem dJ6_getChars_ba4f3_68 : decode cJ6_getChars_ba4f3 68 = .ok (.bastore, 1) := by decide +kernel
theorem dJ6_getChars_ba4f3_69 : decode cJ6_getChars_ba4f3 69 = .ok (.goto (-47), 3) := by decide +kernel
theorem dJ6_getChars_ba4f3_72 : decode cJ6_getChars_ba4f3 72 = .ok (.aload_n 2, 1) := by decide +kernel
theorem dJ6_getChars_ba4f3_73 : decode cJ6_getChars_ba4f3 73 = .ok (.iinc 5 (-1), 3) := by decide +kernel
theorem dJ6_getChars_ba4f3_76 : decode cJ6_getChars_ba4f3 76 = .ok (.iload 5, 2) := by decide +kernel
theorem dJ6_getChars_ba4f3_78 : decode cJ6_getChars_ba4f3 78 = .ok (.getstatic 83, 3) := by decide +kernel
theorem dJ6_getChars_ba4f3_81 : decode cJ6_getChars_ba4f3 81 = .ok (.iload_n 0, 1) := by decide +kernel
theorem dJ6_getChars_ba4f3_82 : decode cJ6_getChars_ba4f3 82 = .ok (.ineg, 1) := by decide +kernel
theorem dJ6_getChars_ba4f3_83 : decode cJ6_getChars_ba4f3 83 = .ok (.baload, 1) := by decide +kernel
theorem dJ6_getChars_ba4f3_84 : decode cJ6_getChars_ba4f3 84 = .ok (.bastore, 1) := by decide +kernel
theorem dJ6_getChars_ba4f3_85 : decode cJ6_getChars_ba4f3 85 = .ok (.iload_n 0, 1) := by decide +kernel
theorem dJ6_getChars_ba4f3_86 : decode cJ6_getChars_ba4f3 86 = .ok (.bipush (-9), 2) := by decide +kernel
theorem dJ6_getChars_ba4f3_88 : decode cJ6_getChars_ba4f3 88 = .ok (.if_icmp .ge 16, 3) := by decide +kernel
theorem dJ6_getChars_ba4f3_91 : decode cJ6_getChars_ba4f3 91 = .ok (.aload_n 2, 1) := by decide +kernel
theorem dJ6_getChars_ba4f3_92 : decode cJ6_getChars_ba4f3 92 = .ok (.iinc 5 (-1), 3) := by decide +kernel
theorem dJ6_getChars_ba4f3_95 : decode cJ6_getChars_ba4f3 95 = .ok (.iload 5, 2) := by decide +kernel
theorem dJ6_getChars_ba4f3_97 : decode cJ6_getChars_ba4f3 97 = .ok (.getstatic 87, 3) := by decide +kernel
theorem dJ6_getChars_ba4f3_100 : decode cJ6_getChars_ba4f3 100 = .ok (.iload_n 0, 1) := by decide +kernel
theorem dJ6_getChars_ba4f3_101 : decode cJ6_getChars_ba4f3 101 = .ok (.ineg, 1) := by decide +kernel
theorem dJ6_getChars_ba4f3_102 : decode cJ6_getChars_ba4f3 102 = .ok (.baload, 1) := by decide +kernel
theorem dJ6_getChars_ba4f3_103 : decode cJ6_getChars_ba4f3 103 = .ok (.bastore, 1) := by decide +kernel
theorem dJ6_getChars_ba4f3_104 : decode cJ6_getChars_ba4f3 104 = .ok (.iload 6, 2) := by decide +kernel
theorem dJ6_getChars_ba4f3_106 : decode cJ6_getChars_ba4f3 106 = .ok (.ifCond .eq 12, 3) := by decide +kernel
theorem dJ6_getChars_ba4f3_109 : decode cJ6_getChars_ba4f3 109 = .ok (.aload_n 2, 1) := by decide +kernel
theorem dJ6_getChars_ba4f3_110 : decode cJ6_getChars_ba4f3 110 = .ok (.iinc 5 (-1), 3) := by decide +kernel
theorem dJ6_getChars_ba4f3_113 : decode cJ6_getChars_ba4f3 113 = .ok (.iload 5, 2) := by decide +kernel
theorem dJ6_getChars_ba4f3_115 : decode cJ6_getChars_ba4f3 115 = .ok (.bipush 45, 2) := by decide +kernel
theorem dJ6_getChars_ba4f3_117 : decode cJ6_getChars_ba4f3 117 = .ok (.bastore, 1) := by decide +kernel
theorem dJ6_getChars_ba4f3_118 : decode cJ6_getChars_ba4f3 118 = .ok (.iload 5, 2) := by decide +kernel
theorem dJ6_getChars_ba4f3_120 : decode cJ6_getChars_ba4f3 120 = .ok (.ireturn, 1) := by decide +kernel
theorem dJ6_stringSize_0f7a4_0 : decode cJ6_stringSize_0f7a4 0 = .ok (.iconst 1, 1) := by decide +kernel
theorem dJ6_stringSize_0f7a4_1 : decode cJ6_stringSize_0f7a4 1 = .ok (.istore_n 1, 1) := by decide +kernel
theorem dJ6_stringSize_0f7a4_2 : decode cJ6_stringSize_0f7a4 2 = .ok (.iload_n 0, 1) := by decide +kernel
theorem dJ6_stringSize_0f7a4_3 : decode cJ6_stringSize_0f7a4 3 = .ok (.ifCond .lt 8, 3) := by decide +kernel
theorem dJ6_stringSize_0f7a4_6 : decode cJ6_stringSize_0f7a4 6 = .ok (.iconst 0, 1) := by decide +kernel
theorem dJ6_stringSize_0f7a4_7 : decode cJ6_stringSize_0f7a4 7 = .ok (.istore_n 1, 1) := by decide +kernel
theorem dJ6_stringSize_0f7a4_8 : decode cJ6_stringSize_0f7a4 8 = .ok (.iload_n 0, 1) := by decide +kernel
theorem dJ6_stringSize_0f7a4_9 : decode cJ6_stringSize_0f7a4 9 = .ok (.ineg, 1) := by decide +kernel
theorem dJ6_stringSize_0f7a4_10 : decode cJ6_stringSize_0f7a4 10 = .ok (.istore_n 0, 1) := by decide +kernel
theorem dJ6_stringSize_0f7a4_11 : decode cJ6_stringSize_0f7a4 11 = .ok (.bipush (-10), 2) := by decide +kernel
theorem dJ6_stringSize_0f7a4_13 : decode cJ6_stringSize_0f7a4 13 = .ok (.istore_n 2, 1) := by decide +kernel
theorem dJ6_stringSize_0f7a4_14 : decode cJ6_stringSize_0f7a4 14 = .ok (.iconst 1, 1) := by decide +kernel
theorem dJ6_stringSize_0f7a4_15 : decode cJ6_stringSize_0f7a4 15 = .ok (.istore_n 3, 1) := by decide +kernel
theorem dJ6_stringSize_0f7a4_16 : decode cJ6_stringSize_0f7a4 16 = .ok (.iload_n 3, 1) := by decide +kernel
theorem dJ6_stringSize_0f7a4_17 : decode cJ6_stringSize_0f7a4 17 = .ok (.bipush 10, 2) := by decide +kernel
theorem dJ6_stringSize_0f7a4_19 : decode cJ6_stringSize_0f7a4 19 = .ok (.if_icmp .ge 23, 3) := by decide +kernel
theorem dJ6_stringSize_0f7a4_22 : decode cJ6_stringSize_0f7a4 22 = .ok (.iload_n 0, 1) := by decide +kernel
theorem dJ6_stringSize_0f7a4_23 : decode cJ6_stringSize_0f7a4 23 = .ok (.iload_n 2, 1) := by decide +kernel
theorem dJ6_stringSize_0f7a4_24 : decode cJ6_stringSize_0f7a4 24 = .ok (.if_icmp .le 7, 3) := by decide +kernel
theorem dJ6_stringSize_0f7a4_27 : decode cJ6_stringSize_0f7a4 27 = .ok (.iload_n 3, 1) := by decide +kernel
theorem dJ6_stringSize_0f7a4_28 : decode cJ6_stringSize_0f7a4 28 = .ok (.iload_n 1, 1) := by decide +kernel
theorem dJ6_stringSize_0f7a4_29 : decode cJ6_stringSize_0f7a4 29 = .ok (.iadd, 1) := by decide +kernel
theorem dJ6_stringSize_0f7a4_30 : decode cJ6_stringSize_0f7a4 30 = .ok (.ireturn, 1) := by decide +kernel
theorem dJ6_stringSize_0f7a4_31 : decode cJ6_stringSize_0f7a4 31 = .ok (.bipush 10, 2) := by decide +kernel
theorem dJ6_stringSize_0f7a4_33 : decode cJ6_stringSize_0f7a4 33 = .ok (.iload_n 2, 1) := by decide +kernel
theorem dJ6_stringSize_0f7a4_34 : decode cJ6_stringSize_0f7a4 34 = .ok (.imul, 1) := by decide +kernel
theorem dJ6_stringSize_0f7a4_35 : decode cJ6_stringSize_0f7a4 35 = .ok (.istore_n 2, 1) := by decide +kernel
theorem dJ6_stringSize_0f7a4_36 : decode cJ6_stringSize_0f7a4 36 = .ok (.iinc 3 1, 3) := by decide +kernel
theorem dJ6_stringSize_0f7a4_39 : decode cJ6_stringSize_0f7a4 39 = .ok (.goto (-23), 3) := by decide +kernel
theorem dJ6_stringSize_0f7a4_42 : decode cJ6_stringSize_0f7a4 42 = .ok (.bipush 10, 2) := by decide +kernel
theorem dJ6_stringSize_0f7a4_44 : decode cJ6_stringSize_0f7a4 44 = .ok (.iload_n 1, 1) := by decide +kernel
theorem dJ6_stringSize_0f7a4_45 : decode cJ6_stringSize_0f7a4 45 = .ok (.iadd, 1) := by decide +kernel
theorem dJ6_stringSize_0f7a4_46 : decode cJ6_stringSize_0f7a4 46 = .ok (.ireturn, 1) := by decide +kernel
theorem dJ0_length_8abf5_0 : decode cJ0_length_8abf5 0 = .ok (.aload_n 0, 1) := by decide +kernel
theorem dJ0_length_8abf5_1 : decode cJ0_length_8abf5 1 = .ok (.getfield 9, 3) := by decide +kernel
theorem dJ0_length_8abf5_4 : decode cJ0_length_8abf5 4 = .ok (.arraylength, 1) := by decide +kernel
theorem dJ0_length_8abf5_5 : decode cJ0_length_8abf5 5 = .ok (.aload_n 0, 1) := by decide +kernel
theorem dJ0_length_8abf5_6 : decode cJ0_length_8abf5 6 = .ok (.invokevirtual 335, 3) := by decide +kernel
theorem dJ0_length_8abf5_9 : decode cJ0_length_8abf5 9 = .ok (.ishr, 1) := by decide +kernel
theorem dJ0_length_8abf5_10 : decode cJ0_length_8abf5 10 = .ok (.ireturn, 1) := by decide +kernel
theorem dJ0_getBytes_840e7_0 : decode cJ0_getBytes_840e7 0 = .ok (.aload_n 0, 1) := by decide +kernel
theorem dJ0_getBytes_840e7_1 : decode cJ0_getBytes_840e7 1 = .ok (.invokevirtual 335, 3) := by decide +kernel
theorem dJ0_getBytes_840e7_4 : decode cJ0_getBytes_840e7 4 = .ok (.iload_n 3, 1) := by decide +kernel
theorem dJ0_getBytes_840e7_5 : decode cJ0_getBytes_840e7 5 = .ok (.if_icmp .ne 23, 3) := by decide +kernel
theorem dJ0_getBytes_840e7_8 : decode cJ0_getBytes_840e7 8 = .ok (.aload_n 0, 1) := by decide +kernel
theorem dJ0_getBytes_840e7_9 : decode cJ0_getBytes_840e7 9 = .ok (.getfield 9, 3) := by decide +kernel
theorem dJ0_getBytes_840e7_12 : decode cJ0_getBytes_840e7 12 = .ok (.iconst 0, 1) := by decide +kernel
theorem dJ0_getBytes_840e7_13 : decode cJ0_getBytes_840e7 13 = .ok (.aload_n 1, 1) := by decide +kernel
theorem dJ0_getBytes_840e7_14 : decode cJ0_getBytes_840e7 14 = .ok (.iload_n 2, 1) := by decide +kernel
theorem dJ0_getBytes_840e7_15 : decode cJ0_getBytes_840e7 15 = .ok (.iload_n 3, 1) := by decide +kernel
theorem dJ0_getBytes_840e7_16 : decode cJ0_getBytes_840e7 16 = .ok (.ishl, 1) := by decide +kernel
theorem dJ0_getBytes_840e7_17 : decode cJ0_getBytes_840e7 17 = .ok (.aload_n 0, 1) := by decide +kernel
theorem dJ0_getBytes_840e7_18 : decode cJ0_getBytes_840e7 18 = .ok (.getfield 9, 3) := by decide +kernel
theorem dJ0_getBytes_840e7_21 : decode cJ0_getBytes_840e7 21 = .ok (.arraylength, 1) := by decide +kernel
theorem dJ0_getBytes_840e7_22 : decode cJ0_getBytes_840e7 22 = .ok (.invokestatic 212, 3) := by decide +kernel
theorem dJ0_getBytes_840e7_25 : decode cJ0_getBytes_840e7 25 = .ok (.goto 18, 3) := by decide +kernel
theorem dJ0_getBytes_840e7_28 : decode cJ0_getBytes_840e7 28 = .ok (.aload_n 0, 1) := by decide +kernel
theorem dJ0_getBytes_840e7_29 : decode cJ0_getBytes_840e7 29 = .ok (.getfield 9, 3) := by decide +kernel
theorem dJ0_getBytes_840e7_32 : decode cJ0_getBytes_840e7 32 = .ok (.iconst 0, 1) := by decide +kernel
theorem dJ0_getBytes_840e7_33 : decode cJ0_getBytes_840e7 33 = .ok (.aload_n 1, 1) := by decide +kernel
theorem dJ0_getBytes_840e7_34 : decode cJ0_getBytes_840e7 34 = .ok (.iload_n 2, 1) := by decide +kernel
theorem dJ0_getBytes_840e7_35 : decode cJ0_getBytes_840e7 35 = .ok (.aload_n 0, 1) := by decide +kernel
theorem dJ0_getBytes_840e7_36 : decode cJ0_getBytes_840e7 36 = .ok (.getfield 9, 3) := by decide +kernel
theorem dJ0_getBytes_840e7_39 : decode cJ0_getBytes_840e7 39 = .ok (.arraylength, 1) := by decide +kernel
theorem dJ0_getBytes_840e7_43 : decode cJ0_getBytes_840e7 43 = .ok (.return_, 1) := by decide +kernel
theorem dJ0_coder_7d493_0 : decode cJ0_coder_7d493 0 = .ok (.getstatic 38, 3) := by decide +kernel
theorem dJ0_coder_7d493_3 : decode cJ0_coder_7d493 3 = .ok (.ifCond .eq 10, 3) := by decide +kernel
theorem dJ0_coder_7d493_6 : decode cJ0_coder_7d493 6 = .ok (.aload_n 0, 1) := by decide +kernel
theorem dJ0_coder_7d493_7 : decode cJ0_coder_7d493 7 = .ok (.getfield 15, 3) := by decide +kernel
theorem dJ0_coder_7d493_10 : decode cJ0_coder_7d493 10 = .ok (.goto 4, 3) := by decide +kernel
theorem dJ0_coder_7d493_13 : decode cJ0_coder_7d493 13 = .ok (.iconst 1, 1) := by decide +kernel
theorem dJ0_coder_7d493_14 : decode cJ0_coder_7d493 14 = .ok (.ireturn, 1) := by decide +kernel
theorem dJ0_checkIndex_df160_0 : decode cJ0_checkIndex_df160 0 = .ok (.iload_n 0, 1) := by decide +kernel
theorem dJ0_checkIndex_df160_1 : decode cJ0_checkIndex_df160 1 = .ok (.iload_n 1, 1) := by decide +kernel
theorem dJ0_checkIndex_df160_2 : decode cJ0_checkIndex_df160 2 = .ok (.getstatic 1053, 3) := by decide +kernel
theorem dJ0_checkIndex_df160_5 : decode cJ0_checkIndex_df160 5 = .ok (.invokestatic 1059, 3) := by decide +kernel
theorem dJ0_checkIndex_df160_8 : decode cJ0_checkIndex_df160 8 = .ok (.pop, 1) := by decide +kernel
theorem dJ0_checkIndex_df160_9 : decode cJ0_checkIndex_df160 9 = .ok (.return_, 1) := by decide +kernel
theorem dJ4_init_da8c8_0 : decode cJ4_init_da8c8 0 = .ok (.aload_n 0, 1) := by decide +kernel
theorem dJ4_init_da8c8_1 : decode cJ4_init_da8c8 1 = .ok (.bipush 16, 2) := by decide +kernel
theorem dJ4_init_da8c8_3 : decode cJ4_init_da8c8 3 = .ok (.invokespecial 1, 3) := by decide +kernel
theorem dJ4_init_da8c8_6 : decode cJ4_init_da8c8 6 = .ok (.return_, 1) := by decide +kernel
theorem dJ4_append_15ec4_0 : decode cJ4_append_15ec4 0 = .ok (.aload_n 0, 1) := by decide +kernel
theorem dJ4_append_15ec4_1 : decode cJ4_append_15ec4 1 = .ok (.aload_n 1, 1) := by decide +kernel
theorem dJ4_append_15ec4_2 : decode cJ4_append_15ec4 2 = .ok (.invokespecial 29, 3) := by decide +kernel
theorem dJ4_append_15ec4_5 : decode cJ4_append_15ec4 5 = .ok (.pop, 1) := by decide +kernel
theorem dJ4_append_15ec4_6 : decode cJ4_append_15ec4 6 = .ok (.aload_n 0, 1) := by decide +kernel
theorem dJ4_append_15ec4_7 : decode cJ4_append_15ec4 7 = .ok (.areturn, 1) := by decide +kernel
theorem dJ4_append_cf468_0 : decode cJ4_append_cf468 0 = .ok (.aload_n 0, 1) := by decide +kernel
theorem dJ4_append_cf468_1 : decode cJ4_append_cf468 1 = .ok (.iload_n 1, 1) := by decide +kernel
theorem dJ4_append_cf468_2 : decode cJ4_append_cf468 2 = .ok (.invokespecial 50, 3) := by decide +kernel
theorem dJ4_append_cf468_5 : decode cJ4_append_cf468 5 = .ok (.pop, 1) := by decide +kernel
theorem dJ4_append_cf468_6 : decode cJ4_append_cf468 6 = .ok (.aload_n 0, 1) := by decide +kernel
theorem dJ4_append_cf468_7 : decode cJ4_append_cf468 7 = .ok (.areturn, 1) := by decide +kernel
theorem dJ4_append_bf812_0 : decode cJ4_append_bf812 0 = .ok (.aload_n 0, 1) := by decide +kernel
theorem dJ4_append_bf812_1 : decode cJ4_append_bf812 1 = .ok (.iload_n 1, 1) := by decide +kernel
theorem dJ4_append_bf812_2 : decode cJ4_append_bf812 2 = .ok (.invokespecial 53, 3) := by decide +kernel
theorem dJ4_append_bf812_5 : decode cJ4_append_bf812 5 = .ok (.pop, 1) := by decide +kernel
theorem dJ4_append_bf812_6 : decode cJ4_append_bf812 6 = .ok (.aload_n 0, 1) := by decide +kernel
theorem dJ4_append_bf812_7 : decode cJ4_append_bf812 7 = .ok (.areturn, 1) := by decide +kernel
theorem dJ4_charAt_5068e_0 : decode cJ4_charAt_5068e 0 = .ok (.aload_n 0, 1) := by decide +kernel
theorem dJ4_charAt_5068e_1 : decode cJ4_charAt_5068e 1 = .ok (.iload_n 1, 1) := by decide +kernel
theorem dJ4_charAt_5068e_2 : decode cJ4_charAt_5068e 2 = .ok (.invokespecial 329, 3) := by decide +kernel
theorem dJ4_charAt_5068e_5 : decode cJ4_charAt_5068e 5 = .ok (.ireturn, 1) := by decide +kernel
theorem dJ4_setLength_d00df_0 : decode cJ4_setLength_d00df 0 = .ok (.aload_n 0, 1) := by decide +kernel
theorem dJ4_setLength_d00df_1 : decode cJ4_setLength_d00df 1 = .ok (.iload_n 1, 1) := by decide +kernel
theorem dJ4_setLength_d00df_2 : decode cJ4_setLength_d00df 2 = .ok (.invokespecial 333, 3) := by decide +kernel
theorem dJ4_setLength_d00df_5 : decode cJ4_setLength_d00df 5 = .ok (.return_, 1) := by decide +kernel
theorem dJ4_length_8abf5_0 : decode cJ4_length_8abf5 0 = .ok (.aload_n 0, 1) := by decide +kernel
theorem dJ4_length_8abf5_1 : decode cJ4_length_8abf5 1 = .ok (.invokespecial 343, 3) := by decide +kernel
theorem dJ4_length_8abf5_4 : decode cJ4_length_8abf5 4 = .ok (.ireturn, 1) := by decide +kernel
theorem dJ1_canEncode_fc78d_0 : decode cJ1_canEncode_fc78d 0 = .ok (.iload_n 0, 1) := by decide +kernel
theorem dJ1_canEncode_fc78d_1 : decode cJ1_canEncode_fc78d 1 = .ok (.sipush 255, 3) := by decide +kernel
theorem dJ1_canEncode_fc78d_4 : decode cJ1_canEncode_fc78d 4 = .ok (.if_icmp .gt 7, 3) := by decide +kernel
theorem dJ1_canEncode_fc78d_7 : decode cJ1_canEncode_fc78d 7 = .ok (.iconst 1, 1) := by decide +kernel
theorem dJ1_canEncode_fc78d_8 : decode cJ1_canEncode_fc78d 8 = .ok (.goto 4, 3) := by decide +kernel
theorem dJ1_canEncode_fc78d_11 : decode cJ1_canEncode_fc78d 11 = .ok (.iconst 0, 1) := by decide +kernel
theorem dJ1_canEncode_fc78d_12 : decode cJ1_canEncode_fc78d 12 = .ok (.ireturn, 1) := by decide +kernel
theorem dJxa1e45_init_da8c8_0 : decode cJxa1e45_init_da8c8 0 = .ok (.aload_n 0, 1) := by decide +kernel
theorem dJxa1e45_init_da8c8_1 : decode cJxa1e45_init_da8c8 1 = .ok (.invokespecial 1, 3) := by decide +kernel
theorem dJxa1e45_init_da8c8_4 : decode cJxa1e45_init_da8c8 4 = .ok (.return_, 1) := by decide +kernel
theorem dJxc12de_init_da8c8_0 : decode cJxc12de_init_da8c8 0 = .ok (.aload_n 0, 1) := by decide +kernel
theorem dJxc12de_init_da8c8_1 : decode cJxc12de_init_da8c8 1 = .ok (.invokespecial 1, 3) := by decide +kernel
theorem dJxc12de_init_da8c8_4 : decode cJxc12de_init_da8c8 4 = .ok (.aload_n 0, 1) := by decide +kernel
theorem dJxc12de_init_da8c8_5 : decode cJxc12de_init_da8c8 5 = .ok (.iconst 0, 1) := by decide +kernel
theorem dJxc12de_init_da8c8_6 : decode cJxc12de_init_da8c8 6 = .ok (.putfield 7, 3) := by decide +kernel
theorem dJxc12de_init_da8c8_9 : decode cJxc12de_init_da8c8 9 = .ok (.return_, 1) := by decide +kernel
theorem dJx4a65c_init_da8c8_0 : decode cJx4a65c_init_da8c8 0 = .ok (.aload_n 0, 1) := by decide +kernel
theorem dJx4a65c_init_da8c8_1 : decode cJx4a65c_init_da8c8 1 = .ok (.invokespecial 1, 3) := by decide +kernel
theorem dJx4a65c_init_da8c8_4 : decode cJx4a65c_init_da8c8 4 = .ok (.aload_n 0, 1) := by decide +kernel
theorem dJx4a65c_init_da8c8_5 : decode cJx4a65c_init_da8c8 5 = .ok (.getstatic 39, 3) := by decide +kernel
theorem dJx4a65c_init_da8c8_8 : decode cJx4a65c_init_da8c8 8 = .ok (.putfield 9, 3) := by decide +kernel
theorem dJx4a65c_init_da8c8_11 : decode cJx4a65c_init_da8c8 11 = .ok (.return_, 1) := by decide +kernel
theorem dJx4a65c_grow_92f84_0 : decode cJx4a65c_grow_92f84 0 = .ok (.aload_n 0, 1) := by decide +kernel
theorem dJx4a65c_grow_92f84_1 : decode cJx4a65c_grow_92f84 1 = .ok (.getfield 9, 3) := by decide +kernel
theorem dJx4a65c_grow_92f84_4 : decode cJx4a65c_grow_92f84 4 = .ok (.arraylength, 1) := by decide +kernel
theorem dJx4a65c_grow_92f84_5 : decode cJx4a65c_grow_92f84 5 = .ok (.istore_n 2, 1) := by decide +kernel
theorem dJx4a65c_grow_92f84_6 : decode cJx4a65c_grow_92f84 6 = .ok (.iload_n 2, 1) := by decide +kernel
theorem dJx4a65c_grow_92f84_7 : decode cJx4a65c_grow_92f84 7 = .ok (.ifCond .gt 13, 3) := by decide +kernel
theorem dJx4a65c_grow_92f84_10 : decode cJx4a65c_grow_92f84 10 = .ok (.aload_n 0, 1) := by decide +kernel
theorem dJx4a65c_grow_92f84_11 : decode cJx4a65c_grow_92f84 11 = .ok (.getfield 9, 3) := by decide +kernel
theorem dJx4a65c_grow_92f84_14 : decode cJx4a65c_grow_92f84 14 = .ok (.getstatic 39, 3) := by decide +kernel
theorem dJx4a65c_grow_92f84_17 : decode cJx4a65c_grow_92f84 17 = .ok (.if_acmp .eq 28, 3) := by decide +kernel
theorem dJx4a65c_grow_92f84_20 : decode cJx4a65c_grow_92f84 20 = .ok (.iload_n 2, 1) := by decide +kernel
theorem dJx4a65c_grow_92f84_21 : decode cJx4a65c_grow_92f84 21 = .ok (.iload_n 1, 1) := by decide +kernel
theorem dJx4a65c_grow_92f84_22 : decode cJx4a65c_grow_92f84 22 = .ok (.iload_n 2, 1) := by decide +kernel
theorem dJx4a65c_grow_92f84_23 : decode cJx4a65c_grow_92f84 23 = .ok (.isub, 1) := by decide +kernel
theorem dJx4a65c_grow_92f84_24 : decode cJx4a65c_grow_92f84 24 = .ok (.iload_n 2, 1) := by decide +kernel
theorem dJx4a65c_grow_92f84_25 : decode cJx4a65c_grow_92f84 25 = .ok (.iconst 1, 1) := by decide +kernel
theorem dJx4a65c_grow_92f84_26 : decode cJx4a65c_grow_92f84 26 = .ok (.ishr, 1) := by decide +kernel
theorem dJx4a65c_grow_92f84_27 : decode cJx4a65c_grow_92f84 27 = .ok (.invokestatic 73, 3) := by decide +kernel
theorem dJx4a65c_grow_92f84_30 : decode cJx4a65c_grow_92f84 30 = .ok (.istore_n 3, 1) := by decide +kernel
theorem dJx4a65c_grow_92f84_31 : decode cJx4a65c_grow_92f84 31 = .ok (.aload_n 0, 1) := by decide +kernel
theorem dJx4a65c_grow_92f84_32 : decode cJx4a65c_grow_92f84 32 = .ok (.aload_n 0, 1) := by decide +kernel
theorem dJx4a65c_grow_92f84_33 : decode cJx4a65c_grow_92f84 33 = .ok (.getfield 9, 3) := by decide +kernel
theorem dJx4a65c_grow_92f84_36 : decode cJx4a65c_grow_92f84 36 = .ok (.iload_n 3, 1) := by decide +kernel
theorem dJx4a65c_grow_92f84_37 : decode cJx4a65c_grow_92f84 37 = .ok (.invokestatic 66, 3) := by decide +kernel
theorem dJx4a65c_grow_92f84_40 : decode cJx4a65c_grow_92f84 40 = .ok (.dup_x1, 1) := by decide +kernel
theorem dJx4a65c_grow_92f84_41 : decode cJx4a65c_grow_92f84 41 = .ok (.putfield 9, 3) := by decide +kernel
theorem dJx4a65c_grow_92f84_44 : decode cJx4a65c_grow_92f84 44 = .ok (.areturn, 1) := by decide +kernel
theorem dJx4a65c_grow_92f84_45 : decode cJx4a65c_grow_92f84 45 = .ok (.aload_n 0, 1) := by decide +kernel
theorem dJx4a65c_grow_92f84_46 : decode cJx4a65c_grow_92f84 46 = .ok (.bipush 10, 2) := by decide +kernel
theorem dJx4a65c_grow_92f84_48 : decode cJx4a65c_grow_92f84 48 = .ok (.iload_n 1, 1) := by decide +kernel
theorem dJx4a65c_grow_92f84_49 : decode cJx4a65c_grow_92f84 49 = .ok (.invokestatic 79, 3) := by decide +kernel
theorem dJx4a65c_grow_92f84_52 : decode cJx4a65c_grow_92f84 52 = .ok (.anewarray 7, 3) := by decide +kernel
theorem dJx4a65c_grow_92f84_55 : decode cJx4a65c_grow_92f84 55 = .ok (.dup_x1, 1) := by decide +kernel
theorem dJx4a65c_grow_92f84_56 : decode cJx4a65c_grow_92f84 56 = .ok (.putfield 9, 3) := by decide +kernel
theorem dJx4a65c_grow_92f84_59 : decode cJx4a65c_grow_92f84 59 = .ok (.areturn, 1) := by decide +kernel
theorem dJx4a65c_grow_d5877_0 : decode cJx4a65c_grow_d5877 0 = .ok (.aload_n 0, 1) := by decide +kernel
theorem dJx4a65c_grow_d5877_1 : decode cJx4a65c_grow_d5877 1 = .ok (.aload_n 0, 1) := by decide +kernel
theorem dJx4a65c_grow_d5877_2 : decode cJx4a65c_grow_d5877 2 = .ok (.getfield 48, 3) := by decide +kernel
theorem dJx4a65c_grow_d5877_5 : decode cJx4a65c_grow_d5877 5 = .ok (.iconst 1, 1) := by decide +kernel
theorem dJx4a65c_grow_d5877_6 : decode cJx4a65c_grow_d5877 6 = .ok (.iadd, 1) := by decide +kernel
theorem dJx4a65c_grow_d5877_7 : decode cJx4a65c_grow_d5877 7 = .ok (.invokevirtual 69, 3) := by decide +kernel
theorem dJx4a65c_grow_d5877_10 : decode cJx4a65c_grow_d5877 10 = .ok (.areturn, 1) := by decide +kernel
theorem dJx4a65c_size_8abf5_0 : decode cJx4a65c_size_8abf5 0 = .ok (.aload_n 0, 1) := by decide +kernel
theorem dJx4a65c_size_8abf5_1 : decode cJx4a65c_size_8abf5 1 = .ok (.getfield 48, 3) := by decide +kernel
theorem dJx4a65c_size_8abf5_4 : decode cJx4a65c_size_8abf5 4 = .ok (.ireturn, 1) := by decide +kernel
theorem dJx4a65c_isEmpty_aae02_0 : decode cJx4a65c_isEmpty_aae02 0 = .ok (.aload_n 0, 1) := by decide +kernel
theorem dJx4a65c_isEmpty_aae02_1 : decode cJx4a65c_isEmpty_aae02 1 = .ok (.getfield 48, 3) := by decide +kernel
theorem dJx4a65c_isEmpty_aae02_4 : decode cJx4a65c_isEmpty_aae02 4 = .ok (.ifCond .ne 7, 3) := by decide +kernel
theorem dJx4a65c_isEmpty_aae02_7 : decode cJx4a65c_isEmpty_aae02 7 = .ok (.iconst 1, 1) := by decide +kernel
theorem dJx4a65c_isEmpty_aae02_8 : decode cJx4a65c_isEmpty_aae02 8 = .ok (.goto 4, 3) := by decide +kernel
theorem dJx4a65c_isEmpty_aae02_11 : decode cJx4a65c_isEmpty_aae02 11 = .ok (.iconst 0, 1) := by decide +kernel
theorem dJx4a65c_isEmpty_aae02_12 : decode cJx4a65c_isEmpty_aae02 12 = .ok (.ireturn, 1) := by decide +kernel
theorem dJx4a65c_elementData_915e3_0 : decode cJx4a65c_elementData_915e3 0 = .ok (.aload_n 0, 1) := by decide +kernel
theorem dJx4a65c_elementData_915e3_1 : decode cJx4a65c_elementData_915e3 1 = .ok (.getfield 9, 3) := by decide +kernel
theorem dJx4a65c_elementData_915e3_4 : decode cJx4a65c_elementData_915e3 4 = .ok (.iload_n 1, 1) := by decide +kernel
theorem dJx4a65c_elementData_915e3_5 : decode cJx4a65c_elementData_915e3 5 = .ok (.aaload, 1) := by decide +kernel
theorem dJx4a65c_elementData_915e3_6 : decode cJx4a65c_elementData_915e3 6 = .ok (.areturn, 1) := by decide +kernel
theorem dJx4a65c_get_915e3_0 : decode cJx4a65c_get_915e3 0 = .ok (.iload_n 1, 1) := by decide +kernel
theorem dJx4a65c_get_915e3_1 : decode cJx4a65c_get_915e3 1 = .ok (.aload_n 0, 1) := by decide +kernel
theorem dJx4a65c_get_915e3_2 : decode cJx4a65c_get_915e3 2 = .ok (.getfield 48, 3) := by decide +kernel
theorem dJx4a65c_get_915e3_5 : decode cJx4a65c_get_915e3 5 = .ok (.invokestatic 118, 3) := by decide +kernel
theorem dJx4a65c_get_915e3_8 : decode cJx4a65c_get_915e3 8 = .ok (.pop, 1) := by decide +kernel
theorem dJx4a65c_get_915e3_9 : decode cJx4a65c_get_915e3 9 = .ok (.aload_n 0, 1) := by decide +kernel
theorem dJx4a65c_get_915e3_10 : decode cJx4a65c_get_915e3 10 = .ok (.iload_n 1, 1) := by decide +kernel
theorem dJx4a65c_get_915e3_11 : decode cJx4a65c_get_915e3 11 = .ok (.invokevirtual 123, 3) := by decide +kernel
theorem dJx4a65c_get_915e3_14 : decode cJx4a65c_get_915e3 14 = .ok (.areturn, 1) := by decide +kernel
theorem dJx4a65c_add_72be8_0 : decode cJx4a65c_add_72be8 0 = .ok (.iload_n 3, 1) := by decide +kernel
theorem dJx4a65c_add_72be8_1 : decode cJx4a65c_add_72be8 1 = .ok (.aload_n 2, 1) := by decide +kernel
theorem dJx4a65c_add_72be8_2 : decode cJx4a65c_add_72be8 2 = .ok (.arraylength, 1) := by decide +kernel
theorem dJx4a65c_add_72be8_3 : decode cJx4a65c_add_72be8 3 = .ok (.if_icmp .ne 8, 3) := by decide +kernel
theorem dJx4a65c_add_72be8_6 : decode cJx4a65c_add_72be8 6 = .ok (.aload_n 0, 1) := by decide +kernel
theorem dJx4a65c_add_72be8_7 : decode cJx4a65c_add_72be8 7 = .ok (.invokevirtual 129, 3) := by decide +kernel
theorem dJx4a65c_add_72be8_10 : decode cJx4a65c_add_72be8 10 = .ok (.astore_n 2, 1) := by decide +kernel
theorem dJx4a65c_add_72be8_11 : decode cJx4a65c_add_72be8 11 = .ok (.aload_n 2, 1) := by decide +kernel
theorem dJx4a65c_add_72be8_12 : decode cJx4a65c_add_72be8 12 = .ok (.iload_n 3, 1) := by decide +kernel
theorem dJx4a65c_add_72be8_13 : decode cJx4a65c_add_72be8 13 = .ok (.aload_n 1, 1) := by decide +kernel
theorem dJx4a65c_add_72be8_14 : decode cJx4a65c_add_72be8 14 = .ok (.aastore, 1) := by decide +kernel
theorem dJx4a65c_add_72be8_15 : decode cJx4a65c_add_72be8 15 = .ok (.aload_n 0, 1) := by decide +kernel
theorem dJx4a65c_add_72be8_16 : decode cJx4a65c_add_72be8 16 = .ok (.iload_n 3, 1) := by decide +kernel
theorem dJx4a65c_add_72be8_17 : decode cJx4a65c_add_72be8 17 = .ok (.iconst 1, 1) := by decide +kernel
theorem dJx4a65c_add_72be8_18 : decode cJx4a65c_add_72be8 18 = .ok (.iadd, 1) := by decide +kernel
theorem dJx4a65c_add_72be8_19 : decode cJx4a65c_add_72be8 19 = .ok (.putfield 48, 3) := by decide +kernel
theorem dJx4a65c_add_72be8_22 : decode cJx4a65c_add_72be8 22 = .ok (.return_, 1) := by decide +kernel
theorem dJx4a65c_add_9ea2d_0 : decode cJx4a65c_add_9ea2d 0 = .ok (.aload_n 0, 1) := by decide +kernel
theorem dJx4a65c_add_9ea2d_1 : decode cJx4a65c_add_9ea2d 1 = .ok (.dup, 1) := by decide +kernel
theorem dJx4a65c_add_9ea2d_2 : decode cJx4a65c_add_9ea2d 2 = .ok (.getfield 63, 3) := by decide +kernel
theorem dJx4a65c_add_9ea2d_5 : decode cJx4a65c_add_9ea2d 5 = .ok (.iconst 1, 1) := by decide +kernel
theorem dJx4a65c_add_9ea2d_6 : decode cJx4a65c_add_9ea2d 6 = .ok (.iadd, 1) := by decide +kernel
theorem dJx4a65c_add_9ea2d_7 : decode cJx4a65c_add_9ea2d 7 = .ok (.putfield 63, 3) := by decide +kernel
theorem dJx4a65c_add_9ea2d_10 : decode cJx4a65c_add_9ea2d 10 = .ok (.aload_n 0, 1) := by decide +kernel
theorem dJx4a65c_add_9ea2d_11 : decode cJx4a65c_add_9ea2d 11 = .ok (.aload_n 1, 1) := by decide +kernel
theorem dJx4a65c_add_9ea2d_12 : decode cJx4a65c_add_9ea2d 12 = .ok (.aload_n 0, 1) := by decide +kernel
theorem dJx4a65c_add_9ea2d_13 : decode cJx4a65c_add_9ea2d 13 = .ok (.getfield 9, 3) := by decide +kernel
theorem dJx4a65c_add_9ea2d_16 : decode cJx4a65c_add_9ea2d 16 = .ok (.aload_n 0, 1) := by decide +kernel
theorem dJx4a65c_add_9ea2d_17 : decode cJx4a65c_add_9ea2d 17 = .ok (.getfield 48, 3) := by decide +kernel
theorem dJx4a65c_add_9ea2d_20 : decode cJx4a65c_add_9ea2d 20 = .ok (.invokevirtual 131, 3) := by decide +kernel
theorem dJx4a65c_add_9ea2d_23 : decode cJx4a65c_add_9ea2d 23 = .ok (.iconst 1, 1) := by decide +kernel
theorem dJx4a65c_add_9ea2d_24 : decode cJx4a65c_add_9ea2d 24 = .ok (.ireturn, 1) := by decide +kernel
theorem dJ7_copyOf_1904c_0 : decode cJ7_copyOf_1904c 0 = .ok (.aload_n 0, 1) := by decide +kernel
theorem dJ7_copyOf_1904c_1 : decode cJ7_copyOf_1904c 1 = .ok (.iload_n 1, 1) := by decide +kernel
theorem dJ7_copyOf_1904c_2 : decode cJ7_copyOf_1904c 2 = .ok (.aload_n 0, 1) := by decide +kernel
theorem dJ7_copyOf_1904c_3 : decode cJ7_copyOf_1904c 3 = .ok (.invokevirtual 86, 3) := by decide +kernel
theorem dJ7_copyOf_1904c_6 : decode cJ7_copyOf_1904c 6 = .ok (.invokestatic 300, 3) := by decide +kernel
theorem dJ7_copyOf_1904c_9 : decode cJ7_copyOf_1904c 9 = .ok (.areturn, 1) := by decide +kernel
theorem dJ7_copyOf_6403c_0 : decode cJ7_copyOf_6403c 0 = .ok (.aload_n 2, 1) := by decide +kernel
theorem dJ7_copyOf_6403c_1 : decode cJ7_copyOf_6403c 1 = .ok (.ldc 110, 2) := by decide +kernel
theorem dJ7_copyOf_6403c_3 : decode cJ7_copyOf_6403c 3 = .ok (.if_acmp .ne 10, 3) := by decide +kernel
theorem dJ7_copyOf_6403c_6 : decode cJ7_copyOf_6403c 6 = .ok (.iload_n 1, 1) := by decide +kernel
theorem dJ7_copyOf_6403c_7 : decode cJ7_copyOf_6403c 7 = .ok (.anewarray 2, 3) := by decide +kernel
theorem dJ7_copyOf_6403c_10 : decode cJ7_copyOf_6403c 10 = .ok (.goto 14, 3) := by decide +kernel
theorem dJ7_copyOf_6403c_13 : decode cJ7_copyOf_6403c 13 = .ok (.aload_n 2, 1) := by decide +kernel
theorem dJ7_copyOf_6403c_24 : decode cJ7_copyOf_6403c 24 = .ok (.astore_n 3, 1) := by decide +kernel
theorem dJ7_copyOf_6403c_25 : decode cJ7_copyOf_6403c 25 = .ok (.aload_n 0, 1) := by decide +kernel
theorem dJ7_copyOf_6403c_26 : decode cJ7_copyOf_6403c 26 = .ok (.iconst 0, 1) := by decide +kernel
theorem dJ7_copyOf_6403c_27 : decode cJ7_copyOf_6403c 27 = .ok (.aload_n 3, 1) := by decide +kernel
theorem dJ7_copyOf_6403c_28 : decode cJ7_copyOf_6403c 28 = .ok (.iconst 0, 1) := by decide +kernel
theorem dJ7_copyOf_6403c_29 : decode cJ7_copyOf_6403c 29 = .ok (.aload_n 0, 1) := by decide +kernel
theorem dJ7_copyOf_6403c_30 : decode cJ7_copyOf_6403c 30 = .ok (.arraylength, 1) := by decide +kernel
theorem dJ7_copyOf_6403c_31 : decode cJ7_copyOf_6403c 31 = .ok (.iload_n 1, 1) := by decide +kernel
theorem dJ7_copyOf_6403c_32 : decode cJ7_copyOf_6403c 32 = .ok (.invokestatic 304, 3) := by decide +kernel
theorem dJ7_copyOf_6403c_35 : decode cJ7_copyOf_6403c 35 = .ok (.invokestatic 150, 3) := by decide +kernel
theorem dJ7_copyOf_6403c_38 : decode cJ7_copyOf_6403c 38 = .ok (.aload_n 3, 1) := by decide +kernel
theorem dJ7_copyOf_6403c_39 : decode cJ7_copyOf_6403c 39 = .ok (.areturn, 1) := by decide +kernel
theorem dJ7_copyOf_9075b_0 : decode cJ7_copyOf_9075b 0 = .ok (.iload_n 1, 1) := by decide +kernel
theorem dJ7_copyOf_9075b_1 : decode cJ7_copyOf_9075b 1 = .ok (.aload_n 0, 1) := by decide +kernel
theorem dJ7_copyOf_9075b_2 : decode cJ7_copyOf_9075b 2 = .ok (.arraylength, 1) := by decide +kernel
theorem dJ7_copyOf_9075b_3 : decode cJ7_copyOf_9075b 3 = .ok (.if_icmp .ne 11, 3) := by decide +kernel
theorem dJ7_copyOf_9075b_6 : decode cJ7_copyOf_9075b 6 = .ok (.aload_n 0, 1) := by decide +kernel
theorem dJ7_copyOf_9075b_14 : decode cJ7_copyOf_9075b 14 = .ok (.iload_n 1, 1) := by decide +kernel
theorem dJ7_copyOf_9075b_15 : decode cJ7_copyOf_9075b 15 = .ok (.newarray .byte, 2) := by decide +kernel
theorem dJ7_copyOf_9075b_17 : decode cJ7_copyOf_9075b 17 = .ok (.astore_n 2, 1) := by decide +kernel
theorem dJ7_copyOf_9075b_18 : decode cJ7_copyOf_9075b 18 = .ok (.aload_n 0, 1) := by decide +kernel
theorem dJ7_copyOf_9075b_19 : decode cJ7_copyOf_9075b 19 = .ok (.iconst 0, 1) := by decide +kernel
theorem dJ7_copyOf_9075b_20 : decode cJ7_copyOf_9075b 20 = .ok (.aload_n 2, 1) := by decide +kernel
theorem dJ7_copyOf_9075b_21 : decode cJ7_copyOf_9075b 21 = .ok (.iconst 0, 1) := by decide +kernel
theorem dJ7_copyOf_9075b_22 : decode cJ7_copyOf_9075b 22 = .ok (.aload_n 0, 1) := by decide +kernel
theorem dJ7_copyOf_9075b_23 : decode cJ7_copyOf_9075b 23 = .ok (.arraylength, 1) := by decide +kernel
theorem dJ7_copyOf_9075b_24 : decode cJ7_copyOf_9075b 24 = .ok (.iload_n 1, 1) := by decide +kernel
theorem dJ7_copyOf_9075b_25 : decode cJ7_copyOf_9075b 25 = .ok (.invokestatic 304, 3) := by decide +kernel
theorem dJ7_copyOf_9075b_28 : decode cJ7_copyOf_9075b 28 = .ok (.invokestatic 150, 3) := by decide +kernel
theorem dJ7_copyOf_9075b_31 : decode cJ7_copyOf_9075b 31 = .ok (.aload_n 2, 1) := by decide +kernel
theorem dJ7_copyOf_9075b_32 : decode cJ7_copyOf_9075b 32 = .ok (.areturn, 1) := by decide +kernel
theorem dJ15_checkIndex_7cf53_0 : decode cJ15_checkIndex_7cf53 0 = .ok (.iload_n 0, 1) := by decide +kernel
theorem dJ15_checkIndex_7cf53_1 : decode cJ15_checkIndex_7cf53 1 = .ok (.iload_n 1, 1) := by decide +kernel
theorem dJ15_checkIndex_7cf53_2 : decode cJ15_checkIndex_7cf53 2 = .ok (.aconst_null, 1) := by decide +kernel
theorem dJ15_checkIndex_7cf53_3 : decode cJ15_checkIndex_7cf53 3 = .ok (.invokestatic 105, 3) := by decide +kernel
theorem dJ15_checkIndex_7cf53_6 : decode cJ15_checkIndex_7cf53 6 = .ok (.ireturn, 1) := by decide +kernel
theorem dJ8_newLength_cabcc_0 : decode cJ8_newLength_cabcc 0 = .ok (.iload_n 0, 1) := by decide +kernel
theorem dJ8_newLength_cabcc_1 : decode cJ8_newLength_cabcc 1 = .ok (.iload_n 1, 1) := by decide +kernel
theorem dJ8_newLength_cabcc_2 : decode cJ8_newLength_cabcc 2 = .ok (.iload_n 2, 1) := by decide +kernel
theorem dJ8_newLength_cabcc_3 : decode cJ8_newLength_cabcc 3 = .ok (.invokestatic 194, 3) := by decide +kernel
theorem dJ8_newLength_cabcc_6 : decode cJ8_newLength_cabcc 6 = .ok (.iadd, 1) := by decide +kernel
theorem dJ8_newLength_cabcc_7 : decode cJ8_newLength_cabcc 7 = .ok (.istore_n 3, 1) := by decide +kernel
theorem dJ8_newLength_cabcc_8 : decode cJ8_newLength_cabcc 8 = .ok (.iconst 0, 1) := by decide +kernel
theorem dJ8_newLength_cabcc_9 : decode cJ8_newLength_cabcc 9 = .ok (.iload_n 3, 1) := by decide +kernel
theorem dJ8_newLength_cabcc_10 : decode cJ8_newLength_cabcc 10 = .ok (.if_icmp .ge 11, 3) := by decide +kernel
theorem dJ8_newLength_cabcc_13 : decode cJ8_newLength_cabcc 13 = .ok (.iload_n 3, 1) := by decide +kernel
theorem dJ8_newLength_cabcc_14 : decode cJ8_newLength_cabcc 14 = .ok (.ldc 200, 2) := by decide +kernel
theorem dJ8_newLength_cabcc_16 : decode cJ8_newLength_cabcc 16 = .ok (.if_icmp .gt 5, 3) := by decide +kernel
theorem dJ8_newLength_cabcc_19 : decode cJ8_newLength_cabcc 19 = .ok (.iload_n 3, 1) := by decide +kernel
theorem dJ8_newLength_cabcc_20 : decode cJ8_newLength_cabcc 20 = .ok (.ireturn, 1) := by decide +kernel
theorem dJ8_newLength_cabcc_21 : decode cJ8_newLength_cabcc 21 = .ok (.iload_n 0, 1) := by decide +kernel
theorem dJ8_newLength_cabcc_22 : decode cJ8_newLength_cabcc 22 = .ok (.iload_n 1, 1) := by decide +kernel
theorem dJ3_checkIndex_8e157_0 : decode cJ3_checkIndex_8e157 0 = .ok (.iload_n 0, 1) := by decide +kernel
theorem dJ3_checkIndex_8e157_1 : decode cJ3_checkIndex_8e157 1 = .ok (.ifCond .lt 8, 3) := by decide +kernel
theorem dJ3_checkIndex_8e157_4 : decode cJ3_checkIndex_8e157 4 = .ok (.iload_n 0, 1) := by decide +kernel
theorem dJ3_checkIndex_8e157_5 : decode cJ3_checkIndex_8e157 5 = .ok (.iload_n 1, 1) := by decide +kernel
theorem dJ3_checkIndex_8e157_6 : decode cJ3_checkIndex_8e157 6 = .ok (.if_icmp .lt 10, 3) := by decide +kernel
theorem dJ3_checkIndex_8e157_9 : decode cJ3_checkIndex_8e157 9 = .ok (.aload_n 2, 1) := by decide +kernel
theorem dJ3_checkIndex_8e157_10 : decode cJ3_checkIndex_8e157 10 = .ok (.iload_n 0, 1) := by decide +kernel
theorem dJ3_checkIndex_8e157_11 : decode cJ3_checkIndex_8e157 11 = .ok (.iload_n 1, 1) := by decide +kernel
theorem dJ3_checkIndex_8e157_16 : decode cJ3_checkIndex_8e157 16 = .ok (.iload_n 0, 1) := by decide +kernel
theorem dJ3_checkIndex_8e157_17 : decode cJ3_checkIndex_8e157 17 = .ok (.ireturn, 1) := by decide +kernel
