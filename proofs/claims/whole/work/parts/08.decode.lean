theorem dX0_init_0 : decode cX0_init 0 = .ok (.aload_n 0, 1) := by decide +kernel
theorem dX0_init_1 : decode cX0_init 1 = .ok (.invokespecial 3, 3) := by decide +kernel
theorem dX0_init_4 : decode cX0_init 4 = .ok (.aload_n 0, 1) := by decide +kernel
theorem dX0_init_5 : decode cX0_init 5 = .ok (.iconst 0, 1) := by decide +kernel
theorem dX0_init_6 : decode cX0_init 6 = .ok (.putfield 9, 3) := by decide +kernel
theorem dX0_init_9 : decode cX0_init 9 = .ok (.aload_n 0, 1) := by decide +kernel
theorem dX0_init_10 : decode cX0_init 10 = .ok (.iconst 0, 1) := by decide +kernel
theorem dX0_init_11 : decode cX0_init 11 = .ok (.putfield 15, 3) := by decide +kernel
theorem dX0_init_14 : decode cX0_init 14 = .ok (.aload_n 0, 1) := by decide +kernel
theorem dX0_init_15 : decode cX0_init 15 = .ok (.iconst 0, 1) := by decide +kernel
theorem dX0_init_16 : decode cX0_init 16 = .ok (.putfield 18, 3) := by decide +kernel
theorem dX0_init_19 : decode cX0_init 19 = .ok (.aload_n 0, 1) := by decide +kernel
theorem dX0_init_20 : decode cX0_init 20 = .ok (.iconst 0, 1) := by decide +kernel
theorem dX0_init_21 : decode cX0_init 21 = .ok (.putfield 21, 3) := by decide +kernel
theorem dX0_init_24 : decode cX0_init 24 = .ok (.return_, 1) := by decide +kernel
theorem dX0_ofTenant_0 : decode cX0_ofTenant 0 = .ok (.aload_n 0, 1) := by decide +kernel
theorem dX0_ofTenant_1 : decode cX0_ofTenant 1 = .ok (.getfield 9, 3) := by decide +kernel
theorem dX0_ofTenant_4 : decode cX0_ofTenant 4 = .ok (.aload_n 0, 1) := by decide +kernel
theorem dX0_ofTenant_5 : decode cX0_ofTenant 5 = .ok (.getfield 15, 3) := by decide +kernel
theorem dX0_ofTenant_8 : decode cX0_ofTenant 8 = .ok (.isub, 1) := by decide +kernel
theorem dX0_ofTenant_9 : decode cX0_ofTenant 9 = .ok (.aload_n 0, 1) := by decide +kernel
theorem dX0_ofTenant_10 : decode cX0_ofTenant 10 = .ok (.getfield 18, 3) := by decide +kernel
theorem dX0_ofTenant_13 : decode cX0_ofTenant 13 = .ok (.isub, 1) := by decide +kernel
theorem dX0_ofTenant_14 : decode cX0_ofTenant 14 = .ok (.aload_n 0, 1) := by decide +kernel
theorem dX0_ofTenant_15 : decode cX0_ofTenant 15 = .ok (.getfield 21, 3) := by decide +kernel
theorem dX0_ofTenant_18 : decode cX0_ofTenant 18 = .ok (.iadd, 1) := by decide +kernel
theorem dX0_ofTenant_19 : decode cX0_ofTenant 19 = .ok (.ireturn, 1) := by decide +kernel
theorem dX0_amount_0 : decode cX0_amount 0 = .ok (.iload_n 1, 1) := by decide +kernel
theorem dX0_amount_1 : decode cX0_amount 1 = .ok (.tableswitch 42 0 2 #[27, 32, 37], 27) := by decide +kernel
theorem dX0_amount_28 : decode cX0_amount 28 = .ok (.aload_n 0, 1) := by decide +kernel
theorem dX0_amount_29 : decode cX0_amount 29 = .ok (.getfield 9, 3) := by decide +kernel
theorem dX0_amount_32 : decode cX0_amount 32 = .ok (.ireturn, 1) := by decide +kernel
theorem dX0_amount_33 : decode cX0_amount 33 = .ok (.aload_n 0, 1) := by decide +kernel
theorem dX0_amount_34 : decode cX0_amount 34 = .ok (.getfield 15, 3) := by decide +kernel
theorem dX0_amount_37 : decode cX0_amount 37 = .ok (.ireturn, 1) := by decide +kernel
theorem dX0_amount_38 : decode cX0_amount 38 = .ok (.aload_n 0, 1) := by decide +kernel
theorem dX0_amount_39 : decode cX0_amount 39 = .ok (.getfield 18, 3) := by decide +kernel
theorem dX0_amount_42 : decode cX0_amount 42 = .ok (.ireturn, 1) := by decide +kernel
theorem dX0_amount_43 : decode cX0_amount 43 = .ok (.aload_n 0, 1) := by decide +kernel
theorem dX0_amount_44 : decode cX0_amount 44 = .ok (.getfield 21, 3) := by decide +kernel
theorem dX0_amount_47 : decode cX0_amount 47 = .ok (.ireturn, 1) := by decide +kernel
theorem dX1_init_0 : decode cX1_init 0 = .ok (.aload_n 0, 1) := by decide +kernel
theorem dX1_init_1 : decode cX1_init 1 = .ok (.invokespecial 3, 3) := by decide +kernel
theorem dX1_init_4 : decode cX1_init 4 = .ok (.aload_n 0, 1) := by decide +kernel
theorem dX1_init_5 : decode cX1_init 5 = .ok (.new 9, 3) := by decide +kernel
theorem dX1_init_8 : decode cX1_init 8 = .ok (.dup, 1) := by decide +kernel
theorem dX1_init_9 : decode cX1_init 9 = .ok (.iconst (-1), 1) := by decide +kernel
theorem dX1_init_10 : decode cX1_init 10 = .ok (.invokespecial 11, 3) := by decide +kernel
theorem dX1_init_13 : decode cX1_init 13 = .ok (.putfield 14, 3) := by decide +kernel
theorem dX1_init_16 : decode cX1_init 16 = .ok (.aload_n 0, 1) := by decide +kernel
theorem dX1_init_17 : decode cX1_init 17 = .ok (.new 9, 3) := by decide +kernel
theorem dX1_init_20 : decode cX1_init 20 = .ok (.dup, 1) := by decide +kernel
theorem dX1_init_21 : decode cX1_init 21 = .ok (.iconst 0, 1) := by decide +kernel
theorem dX1_init_22 : decode cX1_init 22 = .ok (.invokespecial 11, 3) := by decide +kernel
theorem dX1_init_25 : decode cX1_init 25 = .ok (.putfield 20, 3) := by decide +kernel
theorem dX1_init_28 : decode cX1_init 28 = .ok (.aload_n 0, 1) := by decide +kernel
theorem dX1_init_29 : decode cX1_init 29 = .ok (.iconst 0, 1) := by decide +kernel
theorem dX1_init_30 : decode cX1_init 30 = .ok (.putfield 23, 3) := by decide +kernel
theorem dX1_init_33 : decode cX1_init 33 = .ok (.aload_n 0, 1) := by decide +kernel
theorem dX1_init_34 : decode cX1_init 34 = .ok (.iconst 0, 1) := by decide +kernel
theorem dX1_init_35 : decode cX1_init 35 = .ok (.putfield 27, 3) := by decide +kernel
theorem dX1_init_38 : decode cX1_init 38 = .ok (.aload_n 0, 1) := by decide +kernel
theorem dX1_init_39 : decode cX1_init 39 = .ok (.iconst (-1), 1) := by decide +kernel
theorem dX1_init_40 : decode cX1_init 40 = .ok (.putfield 30, 3) := by decide +kernel
theorem dX1_init_43 : decode cX1_init 43 = .ok (.aload_n 0, 1) := by decide +kernel
theorem dX1_init_44 : decode cX1_init 44 = .ok (.iload_n 1, 1) := by decide +kernel
theorem dX1_init_45 : decode cX1_init 45 = .ok (.putfield 33, 3) := by decide +kernel
theorem dX1_init_48 : decode cX1_init 48 = .ok (.return_, 1) := by decide +kernel
theorem dX1_readMeter_0 : decode cX1_readMeter 0 = .ok (.iload_n 1, 1) := by decide +kernel
theorem dX1_readMeter_1 : decode cX1_readMeter 1 = .ok (.aload_n 0, 1) := by decide +kernel
theorem dX1_readMeter_2 : decode cX1_readMeter 2 = .ok (.getfield 23, 3) := by decide +kernel
theorem dX1_readMeter_5 : decode cX1_readMeter 5 = .ok (.isub, 1) := by decide +kernel
theorem dX1_readMeter_6 : decode cX1_readMeter 6 = .ok (.istore_n 3, 1) := by decide +kernel
theorem dX1_readMeter_7 : decode cX1_readMeter 7 = .ok (.aload_n 0, 1) := by decide +kernel
theorem dX1_readMeter_8 : decode cX1_readMeter 8 = .ok (.iload_n 1, 1) := by decide +kernel
theorem dX1_readMeter_9 : decode cX1_readMeter 9 = .ok (.putfield 23, 3) := by decide +kernel
theorem dX1_readMeter_12 : decode cX1_readMeter 12 = .ok (.aload_n 0, 1) := by decide +kernel
theorem dX1_readMeter_13 : decode cX1_readMeter 13 = .ok (.iload_n 2, 1) := by decide +kernel
theorem dX1_readMeter_14 : decode cX1_readMeter 14 = .ok (.putfield 30, 3) := by decide +kernel
theorem dX1_readMeter_17 : decode cX1_readMeter 17 = .ok (.iload_n 3, 1) := by decide +kernel
theorem dX1_readMeter_18 : decode cX1_readMeter 18 = .ok (.ireturn, 1) := by decide +kernel
theorem dX1_findUse_0 : decode cX1_findUse 0 = .ok (.aload_n 0, 1) := by decide +kernel
theorem dX1_findUse_1 : decode cX1_findUse 1 = .ok (.getfield 30, 3) := by decide +kernel
theorem dX1_findUse_4 : decode cX1_findUse 4 = .ok (.iload_n 1, 1) := by decide +kernel
theorem dX1_findUse_5 : decode cX1_findUse 5 = .ok (.if_icmp .ne 19, 3) := by decide +kernel
theorem dX1_findUse_8 : decode cX1_findUse 8 = .ok (.iconst 0, 1) := by decide +kernel
theorem dX1_findUse_9 : decode cX1_findUse 9 = .ok (.aload_n 0, 1) := by decide +kernel
theorem dX1_findUse_10 : decode cX1_findUse 10 = .ok (.getfield 23, 3) := by decide +kernel
theorem dX1_findUse_13 : decode cX1_findUse 13 = .ok (.aload_n 0, 1) := by decide +kernel
theorem dX1_findUse_14 : decode cX1_findUse 14 = .ok (.getfield 27, 3) := by decide +kernel
theorem dX1_findUse_17 : decode cX1_findUse 17 = .ok (.isub, 1) := by decide +kernel
theorem dX1_findUse_18 : decode cX1_findUse 18 = .ok (.invokestatic 36, 3) := by decide +kernel
theorem dX1_findUse_21 : decode cX1_findUse 21 = .ok (.goto 8, 3) := by decide +kernel
theorem dX1_findUse_24 : decode cX1_findUse 24 = .ok (.aload_n 0, 1) := by decide +kernel
theorem dX1_findUse_25 : decode cX1_findUse 25 = .ok (.iload_n 1, 1) := by decide +kernel
theorem dX1_findUse_26 : decode cX1_findUse 26 = .ok (.invokevirtual 42, 3) := by decide +kernel
theorem dX1_findUse_29 : decode cX1_findUse 29 = .ok (.istore_n 2, 1) := by decide +kernel
theorem dX1_findUse_30 : decode cX1_findUse 30 = .ok (.aload_n 0, 1) := by decide +kernel
theorem dX1_findUse_31 : decode cX1_findUse 31 = .ok (.getfield 14, 3) := by decide +kernel
theorem dX1_findUse_34 : decode cX1_findUse 34 = .ok (.iload_n 1, 1) := by decide +kernel
theorem dX1_findUse_35 : decode cX1_findUse 35 = .ok (.iload_n 2, 1) := by decide +kernel
theorem dX1_findUse_36 : decode cX1_findUse 36 = .ok (.invokevirtual 46, 3) := by decide +kernel
theorem dX1_findUse_39 : decode cX1_findUse 39 = .ok (.aload_n 0, 1) := by decide +kernel
theorem dX1_findUse_40 : decode cX1_findUse 40 = .ok (.dup, 1) := by decide +kernel
theorem dX1_findUse_41 : decode cX1_findUse 41 = .ok (.getfield 27, 3) := by decide +kernel
theorem dX1_findUse_44 : decode cX1_findUse 44 = .ok (.iload_n 2, 1) := by decide +kernel
theorem dX1_findUse_45 : decode cX1_findUse 45 = .ok (.iadd, 1) := by decide +kernel
theorem dX1_findUse_46 : decode cX1_findUse 46 = .ok (.putfield 27, 3) := by decide +kernel
theorem dX1_findUse_49 : decode cX1_findUse 49 = .ok (.return_, 1) := by decide +kernel
theorem dX1_guessedUse_0 : decode cX1_guessedUse 0 = .ok (.iconst 0, 1) := by decide +kernel
theorem dX1_guessedUse_1 : decode cX1_guessedUse 1 = .ok (.istore_n 2, 1) := by decide +kernel
theorem dX1_guessedUse_2 : decode cX1_guessedUse 2 = .ok (.iconst 0, 1) := by decide +kernel
theorem dX1_guessedUse_3 : decode cX1_guessedUse 3 = .ok (.istore_n 3, 1) := by decide +kernel
theorem dX1_guessedUse_4 : decode cX1_guessedUse 4 = .ok (.iconst 1, 1) := by decide +kernel
theorem dX1_guessedUse_5 : decode cX1_guessedUse 5 = .ok (.istore 4, 2) := by decide +kernel
theorem dX1_guessedUse_7 : decode cX1_guessedUse 7 = .ok (.iload 4, 2) := by decide +kernel
theorem dX1_guessedUse_9 : decode cX1_guessedUse 9 = .ok (.iconst 3, 1) := by decide +kernel
theorem dX1_guessedUse_10 : decode cX1_guessedUse 10 = .ok (.if_icmp .gt 36, 3) := by decide +kernel
theorem dX1_guessedUse_13 : decode cX1_guessedUse 13 = .ok (.aload_n 0, 1) := by decide +kernel
theorem dX1_guessedUse_14 : decode cX1_guessedUse 14 = .ok (.getfield 14, 3) := by decide +kernel
theorem dX1_guessedUse_17 : decode cX1_guessedUse 17 = .ok (.iload_n 1, 1) := by decide +kernel
theorem dX1_guessedUse_18 : decode cX1_guessedUse 18 = .ok (.iload 4, 2) := by decide +kernel
theorem dX1_guessedUse_20 : decode cX1_guessedUse 20 = .ok (.isub, 1) := by decide +kernel
theorem dX1_guessedUse_21 : decode cX1_guessedUse 21 = .ok (.invokevirtual 50, 3) := by decide +kernel
theorem dX1_guessedUse_24 : decode cX1_guessedUse 24 = .ok (.istore 5, 2) := by decide +kernel
theorem dX1_guessedUse_26 : decode cX1_guessedUse 26 = .ok (.iload 5, 2) := by decide +kernel
theorem dX1_guessedUse_28 : decode cX1_guessedUse 28 = .ok (.iconst (-1), 1) := by decide +kernel
theorem dX1_guessedUse_29 : decode cX1_guessedUse 29 = .ok (.if_icmp .eq 11, 3) := by decide +kernel
theorem dX1_guessedUse_32 : decode cX1_guessedUse 32 = .ok (.iload_n 2, 1) := by decide +kernel
theorem dX1_guessedUse_33 : decode cX1_guessedUse 33 = .ok (.iload 5, 2) := by decide +kernel
theorem dX1_guessedUse_35 : decode cX1_guessedUse 35 = .ok (.iadd, 1) := by decide +kernel
theorem dX1_guessedUse_36 : decode cX1_guessedUse 36 = .ok (.istore_n 2, 1) := by decide +kernel
theorem dX1_guessedUse_37 : decode cX1_guessedUse 37 = .ok (.iinc 3 1, 3) := by decide +kernel
theorem dX1_guessedUse_40 : decode cX1_guessedUse 40 = .ok (.iinc 4 1, 3) := by decide +kernel
theorem dX1_guessedUse_43 : decode cX1_guessedUse 43 = .ok (.goto (-36), 3) := by decide +kernel
theorem dX1_guessedUse_46 : decode cX1_guessedUse 46 = .ok (.iload_n 3, 1) := by decide +kernel
theorem dX1_guessedUse_47 : decode cX1_guessedUse 47 = .ok (.ifCond .ne 7, 3) := by decide +kernel
theorem dX1_guessedUse_50 : decode cX1_guessedUse 50 = .ok (.iconst 0, 1) := by decide +kernel
theorem dX1_guessedUse_51 : decode cX1_guessedUse 51 = .ok (.goto 6, 3) := by decide +kernel
theorem dX1_guessedUse_54 : decode cX1_guessedUse 54 = .ok (.iload_n 2, 1) := by decide +kernel
theorem dX1_guessedUse_55 : decode cX1_guessedUse 55 = .ok (.iload_n 3, 1) := by decide +kernel
theorem dX1_guessedUse_56 : decode cX1_guessedUse 56 = .ok (.idiv, 1) := by decide +kernel
theorem dX1_guessedUse_57 : decode cX1_guessedUse 57 = .ok (.ireturn, 1) := by decide +kernel
theorem dX2_init_0 : decode cX2_init 0 = .ok (.aload_n 0, 1) := by decide +kernel
theorem dX2_init_1 : decode cX2_init 1 = .ok (.invokespecial 1, 3) := by decide +kernel
theorem dX2_init_4 : decode cX2_init 4 = .ok (.aload_n 0, 1) := by decide +kernel
theorem dX2_init_5 : decode cX2_init 5 = .ok (.iconst 0, 1) := by decide +kernel
theorem dX2_init_6 : decode cX2_init 6 = .ok (.putfield 7, 3) := by decide +kernel
theorem dX2_init_9 : decode cX2_init 9 = .ok (.aload_n 0, 1) := by decide +kernel
theorem dX2_init_10 : decode cX2_init 10 = .ok (.iconst 0, 1) := by decide +kernel
theorem dX2_init_11 : decode cX2_init 11 = .ok (.putfield 13, 3) := by decide +kernel
theorem dX2_init_14 : decode cX2_init 14 = .ok (.aload_n 0, 1) := by decide +kernel
theorem dX2_init_15 : decode cX2_init 15 = .ok (.lconst 0, 1) := by decide +kernel
theorem dX2_init_16 : decode cX2_init 16 = .ok (.putfield 16, 3) := by decide +kernel
theorem dX2_init_19 : decode cX2_init 19 = .ok (.return_, 1) := by decide +kernel
theorem dX2_takeWhole_0 : decode cX2_takeWhole 0 = .ok (.lload_n 2, 1) := by decide +kernel
theorem dX2_takeWhole_1 : decode cX2_takeWhole 1 = .ok (.lconst 0, 1) := by decide +kernel
theorem dX2_takeWhole_2 : decode cX2_takeWhole 2 = .ok (.lcmp, 1) := by decide +kernel
theorem dX2_takeWhole_3 : decode cX2_takeWhole 3 = .ok (.ifCond .gt 5, 3) := by decide +kernel
theorem dX2_takeWhole_6 : decode cX2_takeWhole 6 = .ok (.iconst 0, 1) := by decide +kernel
theorem dX2_takeWhole_7 : decode cX2_takeWhole 7 = .ok (.ireturn, 1) := by decide +kernel
theorem dX2_takeWhole_8 : decode cX2_takeWhole 8 = .ok (.iload_n 1, 1) := by decide +kernel
theorem dX2_takeWhole_9 : decode cX2_takeWhole 9 = .ok (.i2l, 1) := by decide +kernel
theorem dX2_takeWhole_10 : decode cX2_takeWhole 10 = .ok (.aload_n 0, 1) := by decide +kernel
theorem dX2_takeWhole_11 : decode cX2_takeWhole 11 = .ok (.getfield 13, 3) := by decide +kernel
theorem dX2_takeWhole_14 : decode cX2_takeWhole 14 = .ok (.i2l, 1) := by decide +kernel
theorem dX2_takeWhole_15 : decode cX2_takeWhole 15 = .ok (.lmul, 1) := by decide +kernel
theorem dX2_takeWhole_16 : decode cX2_takeWhole 16 = .ok (.lstore 4, 2) := by decide +kernel
theorem dX2_takeWhole_18 : decode cX2_takeWhole 18 = .ok (.lload 4, 2) := by decide +kernel
theorem dX2_takeWhole_20 : decode cX2_takeWhole 20 = .ok (.lload_n 2, 1) := by decide +kernel
theorem dX2_takeWhole_21 : decode cX2_takeWhole 21 = .ok (.ldiv, 1) := by decide +kernel
theorem dX2_takeWhole_22 : decode cX2_takeWhole 22 = .ok (.l2i, 1) := by decide +kernel
theorem dX2_takeWhole_23 : decode cX2_takeWhole 23 = .ok (.istore 6, 2) := by decide +kernel
theorem dX2_takeWhole_25 : decode cX2_takeWhole 25 = .ok (.aload_n 0, 1) := by decide +kernel
theorem dX2_takeWhole_26 : decode cX2_takeWhole 26 = .ok (.lload 4, 2) := by decide +kernel
theorem dX2_takeWhole_28 : decode cX2_takeWhole 28 = .ok (.lload_n 2, 1) := by decide +kernel
theorem dX2_takeWhole_29 : decode cX2_takeWhole 29 = .ok (.lrem, 1) := by decide +kernel
theorem dX2_takeWhole_30 : decode cX2_takeWhole 30 = .ok (.putfield 16, 3) := by decide +kernel
theorem dX2_takeWhole_33 : decode cX2_takeWhole 33 = .ok (.aload_n 0, 1) := by decide +kernel
theorem dX2_takeWhole_34 : decode cX2_takeWhole 34 = .ok (.dup, 1) := by decide +kernel
theorem dX2_takeWhole_35 : decode cX2_takeWhole 35 = .ok (.getfield 7, 3) := by decide +kernel
theorem dX2_takeWhole_38 : decode cX2_takeWhole 38 = .ok (.iload 6, 2) := by decide +kernel
theorem dX2_takeWhole_40 : decode cX2_takeWhole 40 = .ok (.iadd, 1) := by decide +kernel
theorem dX2_takeWhole_41 : decode cX2_takeWhole 41 = .ok (.putfield 7, 3) := by decide +kernel
theorem dX2_takeWhole_44 : decode cX2_takeWhole 44 = .ok (.iload 6, 2) := by decide +kernel
theorem dX2_takeWhole_46 : decode cX2_takeWhole 46 = .ok (.ireturn, 1) := by decide +kernel
theorem dX2_isAheadOf_0 : decode cX2_isAheadOf 0 = .ok (.aload_n 0, 1) := by decide +kernel
theorem dX2_isAheadOf_1 : decode cX2_isAheadOf 1 = .ok (.getfield 16, 3) := by decide +kernel
theorem dX2_isAheadOf_4 : decode cX2_isAheadOf 4 = .ok (.aload_n 1, 1) := by decide +kernel
theorem dX2_isAheadOf_5 : decode cX2_isAheadOf 5 = .ok (.getfield 16, 3) := by decide +kernel
theorem dX2_isAheadOf_8 : decode cX2_isAheadOf 8 = .ok (.lcmp, 1) := by decide +kernel
theorem dX2_isAheadOf_9 : decode cX2_isAheadOf 9 = .ok (.ifCond .le 7, 3) := by decide +kernel
theorem dX2_isAheadOf_12 : decode cX2_isAheadOf 12 = .ok (.iconst 1, 1) := by decide +kernel
theorem dX2_isAheadOf_13 : decode cX2_isAheadOf 13 = .ok (.goto 4, 3) := by decide +kernel
theorem dX2_isAheadOf_16 : decode cX2_isAheadOf 16 = .ok (.iconst 0, 1) := by decide +kernel
theorem dX2_isAheadOf_17 : decode cX2_isAheadOf 17 = .ok (.ireturn, 1) := by decide +kernel
theorem dX2_takeOneMore_0 : decode cX2_takeOneMore 0 = .ok (.aload_n 0, 1) := by decide +kernel
theorem dX2_takeOneMore_1 : decode cX2_takeOneMore 1 = .ok (.dup, 1) := by decide +kernel
theorem dX2_takeOneMore_2 : decode cX2_takeOneMore 2 = .ok (.getfield 7, 3) := by decide +kernel
theorem dX2_takeOneMore_5 : decode cX2_takeOneMore 5 = .ok (.iconst 1, 1) := by decide +kernel
theorem dX2_takeOneMore_6 : decode cX2_takeOneMore 6 = .ok (.iadd, 1) := by decide +kernel
theorem dX2_takeOneMore_7 : decode cX2_takeOneMore 7 = .ok (.putfield 7, 3) := by decide +kernel
theorem dX2_takeOneMore_10 : decode cX2_takeOneMore 10 = .ok (.aload_n 0, 1) := by decide +kernel
theorem dX2_takeOneMore_11 : decode cX2_takeOneMore 11 = .ok (.lconst 0, 1) := by decide +kernel
theorem dX2_takeOneMore_12 : decode cX2_takeOneMore 12 = .ok (.putfield 16, 3) := by decide +kernel
theorem dX2_takeOneMore_15 : decode cX2_takeOneMore 15 = .ok (.return_, 1) := by decide +kernel
theorem dX3_init_0 : decode cX3_init 0 = .ok (.aload_n 0, 1) := by decide +kernel
theorem dX3_init_1 : decode cX3_init 1 = .ok (.invokespecial 3, 3) := by decide +kernel
theorem dX3_init_4 : decode cX3_init 4 = .ok (.aload_n 0, 1) := by decide +kernel
theorem dX3_init_5 : decode cX3_init 5 = .ok (.iconst (-1), 1) := by decide +kernel
theorem dX3_init_6 : decode cX3_init 6 = .ok (.putfield 9, 3) := by decide +kernel
theorem dX3_init_9 : decode cX3_init 9 = .ok (.aload_n 0, 1) := by decide +kernel
theorem dX3_init_10 : decode cX3_init 10 = .ok (.new 15, 3) := by decide +kernel
theorem dX3_init_13 : decode cX3_init 13 = .ok (.dup, 1) := by decide +kernel
theorem dX3_init_14 : decode cX3_init 14 = .ok (.iconst (-1), 1) := by decide +kernel
theorem dX3_init_15 : decode cX3_init 15 = .ok (.invokespecial 17, 3) := by decide +kernel
theorem dX3_init_18 : decode cX3_init 18 = .ok (.putfield 20, 3) := by decide +kernel
theorem dX3_init_21 : decode cX3_init 21 = .ok (.aload_n 0, 1) := by decide +kernel
theorem dX3_init_22 : decode cX3_init 22 = .ok (.new 24, 3) := by decide +kernel
theorem dX3_init_25 : decode cX3_init 25 = .ok (.dup, 1) := by decide +kernel
theorem dX3_init_26 : decode cX3_init 26 = .ok (.invokespecial 26, 3) := by decide +kernel
theorem dX3_init_29 : decode cX3_init 29 = .ok (.putfield 27, 3) := by decide +kernel
theorem dX3_init_32 : decode cX3_init 32 = .ok (.aload_n 0, 1) := by decide +kernel
theorem dX3_init_33 : decode cX3_init 33 = .ok (.new 31, 3) := by decide +kernel
theorem dX3_init_36 : decode cX3_init 36 = .ok (.dup, 1) := by decide +kernel
theorem dX3_init_37 : decode cX3_init 37 = .ok (.invokespecial 33, 3) := by decide +kernel
theorem dX3_init_40 : decode cX3_init 40 = .ok (.putfield 34, 3) := by decide +kernel
theorem dX3_init_43 : decode cX3_init 43 = .ok (.aload_n 0, 1) := by decide +kernel
theorem dX3_init_44 : decode cX3_init 44 = .ok (.lconst 0, 1) := by decide +kernel
theorem dX3_init_45 : decode cX3_init 45 = .ok (.putfield 38, 3) := by decide +kernel
theorem dX3_init_48 : decode cX3_init 48 = .ok (.aload_n 0, 1) := by decide +kernel
theorem dX3_init_49 : decode cX3_init 49 = .ok (.lconst 0, 1) := by decide +kernel
theorem dX3_init_50 : decode cX3_init 50 = .ok (.putfield 42, 3) := by decide +kernel
theorem dX3_init_53 : decode cX3_init 53 = .ok (.aload_n 0, 1) := by decide +kernel
theorem dX3_init_54 : decode cX3_init 54 = .ok (.lconst 0, 1) := by decide +kernel
theorem dX3_init_55 : decode cX3_init 55 = .ok (.putfield 45, 3) := by decide +kernel
theorem dX3_init_58 : decode cX3_init 58 = .ok (.aload_n 0, 1) := by decide +kernel
theorem dX3_init_59 : decode cX3_init 59 = .ok (.bipush 121, 2) := by decide +kernel
theorem dX3_init_61 : decode cX3_init 61 = .ok (.anewarray 48, 3) := by decide +kernel
theorem dX3_init_64 : decode cX3_init 64 = .ok (.putfield 50, 3) := by decide +kernel
theorem dX3_init_67 : decode cX3_init 67 = .ok (.aload_n 0, 1) := by decide +kernel
theorem dX3_init_68 : decode cX3_init 68 = .ok (.aload_n 1, 1) := by decide +kernel
theorem dX3_init_69 : decode cX3_init 69 = .ok (.putfield 54, 3) := by decide +kernel
theorem dX3_init_72 : decode cX3_init 72 = .ok (.aload_n 0, 1) := by decide +kernel
theorem dX3_init_73 : decode cX3_init 73 = .ok (.iload_n 2, 1) := by decide +kernel
theorem dX3_init_74 : decode cX3_init 74 = .ok (.putfield 58, 3) := by decide +kernel
theorem dX3_init_77 : decode cX3_init 77 = .ok (.aload_n 0, 1) := by decide +kernel
theorem dX3_init_78 : decode cX3_init 78 = .ok (.iload_n 3, 1) := by decide +kernel
theorem dX3_init_79 : decode cX3_init 79 = .ok (.putfield 61, 3) := by decide +kernel
theorem dX3_init_82 : decode cX3_init 82 = .ok (.return_, 1) := by decide +kernel
theorem dX3_runsIn_0 : decode cX3_runsIn 0 = .ok (.aload_n 0, 1) := by decide +kernel
theorem dX3_runsIn_1 : decode cX3_runsIn 1 = .ok (.getfield 61, 3) := by decide +kernel
theorem dX3_runsIn_4 : decode cX3_runsIn 4 = .ok (.iload_n 1, 1) := by decide +kernel
theorem dX3_runsIn_5 : decode cX3_runsIn 5 = .ok (.if_icmp .gt 23, 3) := by decide +kernel
theorem dX3_runsIn_8 : decode cX3_runsIn 8 = .ok (.aload_n 0, 1) := by decide +kernel
theorem dX3_runsIn_9 : decode cX3_runsIn 9 = .ok (.getfield 9, 3) := by decide +kernel
theorem dX3_runsIn_12 : decode cX3_runsIn 12 = .ok (.iconst (-1), 1) := by decide +kernel
theorem dX3_runsIn_13 : decode cX3_runsIn 13 = .ok (.if_icmp .eq 11, 3) := by decide +kernel
theorem dX3_runsIn_16 : decode cX3_runsIn 16 = .ok (.iload_n 1, 1) := by decide +kernel
theorem dX3_runsIn_17 : decode cX3_runsIn 17 = .ok (.aload_n 0, 1) := by decide +kernel
theorem dX3_runsIn_18 : decode cX3_runsIn 18 = .ok (.getfield 9, 3) := by decide +kernel
theorem dX3_runsIn_21 : decode cX3_runsIn 21 = .ok (.if_icmp .gt 7, 3) := by decide +kernel
theorem dX3_runsIn_24 : decode cX3_runsIn 24 = .ok (.iconst 1, 1) := by decide +kernel
theorem dX3_runsIn_25 : decode cX3_runsIn 25 = .ok (.goto 4, 3) := by decide +kernel
theorem dX3_runsIn_28 : decode cX3_runsIn 28 = .ok (.iconst 0, 1) := by decide +kernel
theorem dX3_runsIn_29 : decode cX3_runsIn 29 = .ok (.ireturn, 1) := by decide +kernel
theorem dX3_useIn_0 : decode cX3_useIn 0 = .ok (.aload_n 0, 1) := by decide +kernel
theorem dX3_useIn_1 : decode cX3_useIn 1 = .ok (.iload_n 1, 1) := by decide +kernel
theorem dX3_useIn_2 : decode cX3_useIn 2 = .ok (.invokevirtual 64, 3) := by decide +kernel
theorem dX3_useIn_5 : decode cX3_useIn 5 = .ok (.ifCond .eq 17, 3) := by decide +kernel
theorem dX3_useIn_8 : decode cX3_useIn 8 = .ok (.aload_n 0, 1) := by decide +kernel
theorem dX3_useIn_9 : decode cX3_useIn 9 = .ok (.getfield 54, 3) := by decide +kernel
theorem dX3_useIn_12 : decode cX3_useIn 12 = .ok (.getfield 68, 3) := by decide +kernel
theorem dX3_useIn_15 : decode cX3_useIn 15 = .ok (.iload_n 1, 1) := by decide +kernel
theorem dX3_useIn_16 : decode cX3_useIn 16 = .ok (.invokevirtual 73, 3) := by decide +kernel
theorem dX3_useIn_19 : decode cX3_useIn 19 = .ok (.goto 4, 3) := by decide +kernel
theorem dX3_useIn_22 : decode cX3_useIn 22 = .ok (.iconst 0, 1) := by decide +kernel
theorem dX3_useIn_23 : decode cX3_useIn 23 = .ok (.ireturn, 1) := by decide +kernel
theorem dX3_rentAt_0 : decode cX3_rentAt 0 = .ok (.aload_n 0, 1) := by decide +kernel
theorem dX3_rentAt_1 : decode cX3_rentAt 1 = .ok (.getfield 58, 3) := by decide +kernel
theorem dX3_rentAt_4 : decode cX3_rentAt 4 = .ok (.iload_n 1, 1) := by decide +kernel
theorem dX3_rentAt_5 : decode cX3_rentAt 5 = .ok (.imul, 1) := by decide +kernel
theorem dX3_rentAt_6 : decode cX3_rentAt 6 = .ok (.bipush 100, 2) := by decide +kernel
theorem dX3_rentAt_8 : decode cX3_rentAt 8 = .ok (.idiv, 1) := by decide +kernel
theorem dX3_rentAt_9 : decode cX3_rentAt 9 = .ok (.ireturn, 1) := by decide +kernel
theorem dX3_incomeIn_0 : decode cX3_incomeIn 0 = .ok (.iload_n 1, 1) := by decide +kernel
theorem dX3_incomeIn_1 : decode cX3_incomeIn 1 = .ok (.istore_n 2, 1) := by decide +kernel
theorem dX3_incomeIn_2 : decode cX3_incomeIn 2 = .ok (.iload_n 2, 1) := by decide +kernel
theorem dX3_incomeIn_3 : decode cX3_incomeIn 3 = .ok (.ifCond .lt 30, 3) := by decide +kernel
theorem dX3_incomeIn_6 : decode cX3_incomeIn 6 = .ok (.aload_n 0, 1) := by decide +kernel
theorem dX3_incomeIn_7 : decode cX3_incomeIn 7 = .ok (.getfield 20, 3) := by decide +kernel
theorem dX3_incomeIn_10 : decode cX3_incomeIn 10 = .ok (.iload_n 2, 1) := by decide +kernel
theorem dX3_incomeIn_11 : decode cX3_incomeIn 11 = .ok (.invokevirtual 73, 3) := by decide +kernel
theorem dX3_incomeIn_14 : decode cX3_incomeIn 14 = .ok (.iconst (-1), 1) := by decide +kernel
theorem dX3_incomeIn_15 : decode cX3_incomeIn 15 = .ok (.if_icmp .eq 12, 3) := by decide +kernel
theorem dX3_incomeIn_18 : decode cX3_incomeIn 18 = .ok (.aload_n 0, 1) := by decide +kernel
theorem dX3_incomeIn_19 : decode cX3_incomeIn 19 = .ok (.getfield 20, 3) := by decide +kernel
theorem dX3_incomeIn_22 : decode cX3_incomeIn 22 = .ok (.iload_n 2, 1) := by decide +kernel
theorem dX3_incomeIn_23 : decode cX3_incomeIn 23 = .ok (.invokevirtual 73, 3) := by decide +kernel
theorem dX3_incomeIn_26 : decode cX3_incomeIn 26 = .ok (.ireturn, 1) := by decide +kernel
theorem dX3_incomeIn_27 : decode cX3_incomeIn 27 = .ok (.iinc 2 (-1), 3) := by decide +kernel
theorem dX3_incomeIn_30 : decode cX3_incomeIn 30 = .ok (.goto (-28), 3) := by decide +kernel
theorem dX3_incomeIn_33 : decode cX3_incomeIn 33 = .ok (.iconst 0, 1) := by decide +kernel
theorem dX3_incomeIn_34 : decode cX3_incomeIn 34 = .ok (.ireturn, 1) := by decide +kernel
theorem dX3_billOf_0 : decode cX3_billOf 0 = .ok (.iload_n 1, 1) := by decide +kernel
theorem dX3_billOf_1 : decode cX3_billOf 1 = .ok (.ifCond .lt 21, 3) := by decide +kernel
theorem dX3_billOf_4 : decode cX3_billOf 4 = .ok (.iload_n 1, 1) := by decide +kernel
theorem dX3_billOf_5 : decode cX3_billOf 5 = .ok (.aload_n 0, 1) := by decide +kernel
theorem dX3_billOf_6 : decode cX3_billOf 6 = .ok (.getfield 50, 3) := by decide +kernel
theorem dX3_billOf_9 : decode cX3_billOf 9 = .ok (.arraylength, 1) := by decide +kernel
theorem dX3_billOf_10 : decode cX3_billOf 10 = .ok (.if_icmp .ge 12, 3) := by decide +kernel
theorem dX3_billOf_13 : decode cX3_billOf 13 = .ok (.aload_n 0, 1) := by decide +kernel
theorem dX3_billOf_14 : decode cX3_billOf 14 = .ok (.getfield 50, 3) := by decide +kernel
theorem dX3_billOf_17 : decode cX3_billOf 17 = .ok (.iload_n 1, 1) := by decide +kernel
theorem dX3_billOf_18 : decode cX3_billOf 18 = .ok (.aaload, 1) := by decide +kernel
theorem dX3_billOf_19 : decode cX3_billOf 19 = .ok (.goto 4, 3) := by decide +kernel
theorem dX3_billOf_22 : decode cX3_billOf 22 = .ok (.aconst_null, 1) := by decide +kernel
theorem dX3_billOf_23 : decode cX3_billOf 23 = .ok (.areturn, 1) := by decide +kernel
theorem dX3_putBill_0 : decode cX3_putBill 0 = .ok (.iload_n 1, 1) := by decide +kernel
theorem dX3_putBill_1 : decode cX3_putBill 1 = .ok (.ifCond .lt 19, 3) := by decide +kernel
theorem dX3_putBill_4 : decode cX3_putBill 4 = .ok (.iload_n 1, 1) := by decide +kernel
theorem dX3_putBill_5 : decode cX3_putBill 5 = .ok (.aload_n 0, 1) := by decide +kernel
theorem dX3_putBill_6 : decode cX3_putBill 6 = .ok (.getfield 50, 3) := by decide +kernel
theorem dX3_putBill_9 : decode cX3_putBill 9 = .ok (.arraylength, 1) := by decide +kernel
theorem dX3_putBill_10 : decode cX3_putBill 10 = .ok (.if_icmp .ge 10, 3) := by decide +kernel
theorem dX3_putBill_13 : decode cX3_putBill 13 = .ok (.aload_n 0, 1) := by decide +kernel
theorem dX3_putBill_14 : decode cX3_putBill 14 = .ok (.getfield 50, 3) := by decide +kernel
theorem dX3_putBill_17 : decode cX3_putBill 17 = .ok (.iload_n 1, 1) := by decide +kernel
theorem dX3_putBill_18 : decode cX3_putBill 18 = .ok (.aload_n 2, 1) := by decide +kernel
theorem dX3_putBill_19 : decode cX3_putBill 19 = .ok (.aastore, 1) := by decide +kernel
theorem dX3_putBill_20 : decode cX3_putBill 20 = .ok (.return_, 1) := by decide +kernel
theorem dX3_benefitsAnew_0 : decode cX3_benefitsAnew 0 = .ok (.lconst 0, 1) := by decide +kernel
theorem dX3_benefitsAnew_1 : decode cX3_benefitsAnew 1 = .ok (.lstore_n 3, 1) := by decide +kernel
theorem dX3_benefitsAnew_2 : decode cX3_benefitsAnew 2 = .ok (.iload_n 1, 1) := by decide +kernel
theorem dX3_benefitsAnew_3 : decode cX3_benefitsAnew 3 = .ok (.istore 5, 2) := by decide +kernel
theorem dX3_benefitsAnew_5 : decode cX3_benefitsAnew 5 = .ok (.iload 5, 2) := by decide +kernel
theorem dX3_benefitsAnew_7 : decode cX3_benefitsAnew 7 = .ok (.iload_n 2, 1) := by decide +kernel
theorem dX3_benefitsAnew_8 : decode cX3_benefitsAnew 8 = .ok (.if_icmp .ge 63, 3) := by decide +kernel
theorem dX3_benefitsAnew_11 : decode cX3_benefitsAnew 11 = .ok (.aload_n 0, 1) := by decide +kernel
theorem dX3_benefitsAnew_12 : decode cX3_benefitsAnew 12 = .ok (.iload 5, 2) := by decide +kernel
theorem dX3_benefitsAnew_14 : decode cX3_benefitsAnew 14 = .ok (.invokevirtual 77, 3) := by decide +kernel
theorem dX3_benefitsAnew_17 : decode cX3_benefitsAnew 17 = .ok (.astore 6, 2) := by decide +kernel
theorem dX3_benefitsAnew_19 : decode cX3_benefitsAnew 19 = .ok (.aload 6, 2) := by decide +kernel
theorem dX3_benefitsAnew_21 : decode cX3_benefitsAnew 21 = .ok (.ifnull 44, 3) := by decide +kernel
theorem dX3_benefitsAnew_24 : decode cX3_benefitsAnew 24 = .ok (.aload 6, 2) := by decide +kernel
theorem dX3_benefitsAnew_26 : decode cX3_benefitsAnew 26 = .ok (.getfield 81, 3) := by decide +kernel
theorem dX3_benefitsAnew_29 : decode cX3_benefitsAnew 29 = .ok (.aload 6, 2) := by decide +kernel
theorem dX3_benefitsAnew_31 : decode cX3_benefitsAnew 31 = .ok (.getfield 82, 3) := by decide +kernel
theorem dX3_benefitsAnew_34 : decode cX3_benefitsAnew 34 = .ok (.isub, 1) := by decide +kernel
theorem dX3_benefitsAnew_35 : decode cX3_benefitsAnew 35 = .ok (.aload_n 0, 1) := by decide +kernel
theorem dX3_benefitsAnew_36 : decode cX3_benefitsAnew 36 = .ok (.iload 5, 2) := by decide +kernel
theorem dX3_benefitsAnew_38 : decode cX3_benefitsAnew 38 = .ok (.invokevirtual 85, 3) := by decide +kernel
theorem dX3_benefitsAnew_41 : decode cX3_benefitsAnew 41 = .ok (.invokestatic 88, 3) := by decide +kernel
theorem dX3_benefitsAnew_44 : decode cX3_benefitsAnew 44 = .ok (.istore 7, 2) := by decide +kernel
theorem dX3_benefitsAnew_46 : decode cX3_benefitsAnew 46 = .ok (.lload_n 3, 1) := by decide +kernel
theorem dX3_benefitsAnew_47 : decode cX3_benefitsAnew 47 = .ok (.aload 6, 2) := by decide +kernel
theorem dX3_benefitsAnew_49 : decode cX3_benefitsAnew 49 = .ok (.getfield 92, 3) := by decide +kernel
theorem dX3_benefitsAnew_52 : decode cX3_benefitsAnew 52 = .ok (.iload 7, 2) := by decide +kernel
theorem dX3_benefitsAnew_54 : decode cX3_benefitsAnew 54 = .ok (.isub, 1) := by decide +kernel
theorem dX3_benefitsAnew_55 : decode cX3_benefitsAnew 55 = .ok (.i2l, 1) := by decide +kernel
theorem dX3_benefitsAnew_56 : decode cX3_benefitsAnew 56 = .ok (.ladd, 1) := by decide +kernel
theorem dX3_benefitsAnew_57 : decode cX3_benefitsAnew 57 = .ok (.lstore_n 3, 1) := by decide +kernel
theorem dX3_benefitsAnew_58 : decode cX3_benefitsAnew 58 = .ok (.aload 6, 2) := by decide +kernel
theorem dX3_benefitsAnew_60 : decode cX3_benefitsAnew 60 = .ok (.iload 7, 2) := by decide +kernel
theorem dX3_benefitsAnew_62 : decode cX3_benefitsAnew 62 = .ok (.putfield 92, 3) := by decide +kernel
theorem dX3_benefitsAnew_65 : decode cX3_benefitsAnew 65 = .ok (.iinc 5 1, 3) := by decide +kernel
theorem dX3_benefitsAnew_68 : decode cX3_benefitsAnew 68 = .ok (.goto (-63), 3) := by decide +kernel
theorem dX3_benefitsAnew_71 : decode cX3_benefitsAnew 71 = .ok (.lload_n 3, 1) := by decide +kernel
theorem dX3_benefitsAnew_72 : decode cX3_benefitsAnew 72 = .ok (.lreturn, 1) := by decide +kernel
theorem dX4_init_0 : decode cX4_init 0 = .ok (.aload_n 0, 1) := by decide +kernel
theorem dX4_init_1 : decode cX4_init 1 = .ok (.invokespecial 3, 3) := by decide +kernel
theorem dX4_init_4 : decode cX4_init 4 = .ok (.aload_n 0, 1) := by decide +kernel
theorem dX4_init_5 : decode cX4_init 5 = .ok (.bipush 121, 2) := by decide +kernel
theorem dX4_init_7 : decode cX4_init 7 = .ok (.newarray .int, 2) := by decide +kernel
theorem dX4_init_9 : decode cX4_init 9 = .ok (.putfield 9, 3) := by decide +kernel
theorem dX4_init_12 : decode cX4_init 12 = .ok (.iconst 0, 1) := by decide +kernel
theorem dX4_init_13 : decode cX4_init 13 = .ok (.istore_n 2, 1) := by decide +kernel
theorem dX4_init_14 : decode cX4_init 14 = .ok (.iload_n 2, 1) := by decide +kernel
theorem dX4_init_15 : decode cX4_init 15 = .ok (.aload_n 0, 1) := by decide +kernel
theorem dX4_init_16 : decode cX4_init 16 = .ok (.getfield 9, 3) := by decide +kernel
theorem dX4_init_19 : decode cX4_init 19 = .ok (.arraylength, 1) := by decide +kernel
theorem dX4_init_20 : decode cX4_init 20 = .ok (.if_icmp .ge 16, 3) := by decide +kernel
theorem dX4_init_23 : decode cX4_init 23 = .ok (.aload_n 0, 1) := by decide +kernel
theorem dX4_init_24 : decode cX4_init 24 = .ok (.getfield 9, 3) := by decide +kernel
theorem dX4_init_27 : decode cX4_init 27 = .ok (.iload_n 2, 1) := by decide +kernel
theorem dX4_init_28 : decode cX4_init 28 = .ok (.iload_n 1, 1) := by decide +kernel
theorem dX4_init_29 : decode cX4_init 29 = .ok (.iastore, 1) := by decide +kernel
theorem dX4_init_30 : decode cX4_init 30 = .ok (.iinc 2 1, 3) := by decide +kernel
theorem dX4_init_33 : decode cX4_init 33 = .ok (.goto (-19), 3) := by decide +kernel
theorem dX4_init_36 : decode cX4_init 36 = .ok (.return_, 1) := by decide +kernel
theorem dX4_in_0 : decode cX4_in 0 = .ok (.iload_n 1, 1) := by decide +kernel
theorem dX4_in_1 : decode cX4_in 1 = .ok (.ifCond .lt 21, 3) := by decide +kernel
theorem dX4_in_4 : decode cX4_in 4 = .ok (.iload_n 1, 1) := by decide +kernel
theorem dX4_in_5 : decode cX4_in 5 = .ok (.aload_n 0, 1) := by decide +kernel
theorem dX4_in_6 : decode cX4_in 6 = .ok (.getfield 9, 3) := by decide +kernel
theorem dX4_in_9 : decode cX4_in 9 = .ok (.arraylength, 1) := by decide +kernel
theorem dX4_in_10 : decode cX4_in 10 = .ok (.if_icmp .ge 12, 3) := by decide +kernel
theorem dX4_in_13 : decode cX4_in 13 = .ok (.aload_n 0, 1) := by decide +kernel
theorem dX4_in_14 : decode cX4_in 14 = .ok (.getfield 9, 3) := by decide +kernel
theorem dX4_in_17 : decode cX4_in 17 = .ok (.iload_n 1, 1) := by decide +kernel
theorem dX4_in_18 : decode cX4_in 18 = .ok (.iaload, 1) := by decide +kernel
theorem dX4_in_19 : decode cX4_in 19 = .ok (.goto 4, 3) := by decide +kernel
theorem dX4_in_22 : decode cX4_in 22 = .ok (.iconst (-1), 1) := by decide +kernel
theorem dX4_in_23 : decode cX4_in 23 = .ok (.ireturn, 1) := by decide +kernel
theorem dX4_put_0 : decode cX4_put 0 = .ok (.iload_n 1, 1) := by decide +kernel
theorem dX4_put_1 : decode cX4_put 1 = .ok (.ifCond .lt 19, 3) := by decide +kernel
theorem dX4_put_4 : decode cX4_put 4 = .ok (.iload_n 1, 1) := by decide +kernel
theorem dX4_put_5 : decode cX4_put 5 = .ok (.aload_n 0, 1) := by decide +kernel
theorem dX4_put_6 : decode cX4_put 6 = .ok (.getfield 9, 3) := by decide +kernel
theorem dX4_put_9 : decode cX4_put 9 = .ok (.arraylength, 1) := by decide +kernel
theorem dX4_put_10 : decode cX4_put 10 = .ok (.if_icmp .ge 10, 3) := by decide +kernel
theorem dX4_put_13 : decode cX4_put 13 = .ok (.aload_n 0, 1) := by decide +kernel
theorem dX4_put_14 : decode cX4_put 14 = .ok (.getfield 9, 3) := by decide +kernel
theorem dX4_put_17 : decode cX4_put 17 = .ok (.iload_n 1, 1) := by decide +kernel
theorem dX4_put_18 : decode cX4_put 18 = .ok (.iload_n 2, 1) := by decide +kernel
theorem dX4_put_19 : decode cX4_put 19 = .ok (.iastore, 1) := by decide +kernel
theorem dX4_put_20 : decode cX4_put 20 = .ok (.return_, 1) := by decide +kernel
theorem dX5_init_0 : decode cX5_init 0 = .ok (.aload_n 0, 1) := by decide +kernel
theorem dX5_init_1 : decode cX5_init 1 = .ok (.invokespecial 3, 3) := by decide +kernel
theorem dX5_init_4 : decode cX5_init 4 = .ok (.aload_n 0, 1) := by decide +kernel
theorem dX5_init_5 : decode cX5_init 5 = .ok (.iconst 0, 1) := by decide +kernel
theorem dX5_init_6 : decode cX5_init 6 = .ok (.putfield 9, 3) := by decide +kernel
theorem dX5_init_9 : decode cX5_init 9 = .ok (.aload_n 0, 1) := by decide +kernel
theorem dX5_init_10 : decode cX5_init 10 = .ok (.lconst 0, 1) := by decide +kernel
theorem dX5_init_11 : decode cX5_init 11 = .ok (.putfield 15, 3) := by decide +kernel
theorem dX5_init_14 : decode cX5_init 14 = .ok (.aload_n 0, 1) := by decide +kernel
theorem dX5_init_15 : decode cX5_init 15 = .ok (.lconst 0, 1) := by decide +kernel
theorem dX5_init_16 : decode cX5_init 16 = .ok (.putfield 19, 3) := by decide +kernel
theorem dX5_init_19 : decode cX5_init 19 = .ok (.aload_n 0, 1) := by decide +kernel
theorem dX5_init_20 : decode cX5_init 20 = .ok (.iconst 0, 1) := by decide +kernel
theorem dX5_init_21 : decode cX5_init 21 = .ok (.putfield 22, 3) := by decide +kernel
theorem dX5_init_24 : decode cX5_init 24 = .ok (.return_, 1) := by decide +kernel
theorem dX5_begin_0 : decode cX5_begin 0 = .ok (.aload_n 0, 1) := by decide +kernel
theorem dX5_begin_1 : decode cX5_begin 1 = .ok (.iconst 1, 1) := by decide +kernel
theorem dX5_begin_2 : decode cX5_begin 2 = .ok (.putfield 9, 3) := by decide +kernel
theorem dX5_begin_5 : decode cX5_begin 5 = .ok (.aload_n 0, 1) := by decide +kernel
theorem dX5_begin_6 : decode cX5_begin 6 = .ok (.lload_n 1, 1) := by decide +kernel
theorem dX5_begin_7 : decode cX5_begin 7 = .ok (.putfield 15, 3) := by decide +kernel
theorem dX5_begin_10 : decode cX5_begin 10 = .ok (.aload_n 0, 1) := by decide +kernel
theorem dX5_begin_11 : decode cX5_begin 11 = .ok (.lload_n 3, 1) := by decide +kernel
theorem dX5_begin_12 : decode cX5_begin 12 = .ok (.putfield 19, 3) := by decide +kernel
theorem dX5_begin_15 : decode cX5_begin 15 = .ok (.aload_n 0, 1) := by decide +kernel
theorem dX5_begin_16 : decode cX5_begin 16 = .ok (.iconst 0, 1) := by decide +kernel
theorem dX5_begin_17 : decode cX5_begin 17 = .ok (.putfield 22, 3) := by decide +kernel
theorem dX5_begin_20 : decode cX5_begin 20 = .ok (.return_, 1) := by decide +kernel
theorem dX5_endMonth_0 : decode cX5_endMonth 0 = .ok (.aload_n 0, 1) := by decide +kernel
theorem dX5_endMonth_1 : decode cX5_endMonth 1 = .ok (.getfield 9, 3) := by decide +kernel
theorem dX5_endMonth_4 : decode cX5_endMonth 4 = .ok (.iconst 1, 1) := by decide +kernel
theorem dX5_endMonth_5 : decode cX5_endMonth 5 = .ok (.if_icmp .eq 4, 3) := by decide +kernel
theorem dX5_endMonth_8 : decode cX5_endMonth 8 = .ok (.return_, 1) := by decide +kernel
theorem dX5_endMonth_9 : decode cX5_endMonth 9 = .ok (.aload_n 0, 1) := by decide +kernel
theorem dX5_endMonth_10 : decode cX5_endMonth 10 = .ok (.dup, 1) := by decide +kernel
theorem dX5_endMonth_11 : decode cX5_endMonth 11 = .ok (.getfield 22, 3) := by decide +kernel
theorem dX5_endMonth_14 : decode cX5_endMonth 14 = .ok (.iconst 1, 1) := by decide +kernel
theorem dX5_endMonth_15 : decode cX5_endMonth 15 = .ok (.iadd, 1) := by decide +kernel
theorem dX5_endMonth_16 : decode cX5_endMonth 16 = .ok (.putfield 22, 3) := by decide +kernel
theorem dX5_endMonth_19 : decode cX5_endMonth 19 = .ok (.lconst 0, 1) := by decide +kernel
theorem dX5_endMonth_20 : decode cX5_endMonth 20 = .ok (.aload_n 0, 1) := by decide +kernel
theorem dX5_endMonth_21 : decode cX5_endMonth 21 = .ok (.getfield 15, 3) := by decide +kernel
theorem dX5_endMonth_24 : decode cX5_endMonth 24 = .ok (.aload_n 0, 1) := by decide +kernel
theorem dX5_endMonth_25 : decode cX5_endMonth 25 = .ok (.getfield 19, 3) := by decide +kernel
theorem dX5_endMonth_28 : decode cX5_endMonth 28 = .ok (.aload_n 0, 1) := by decide +kernel
theorem dX5_endMonth_29 : decode cX5_endMonth 29 = .ok (.getfield 22, 3) := by decide +kernel
theorem dX5_endMonth_32 : decode cX5_endMonth 32 = .ok (.i2l, 1) := by decide +kernel
theorem dX5_endMonth_33 : decode cX5_endMonth 33 = .ok (.lmul, 1) := by decide +kernel
theorem dX5_endMonth_34 : decode cX5_endMonth 34 = .ok (.lsub, 1) := by decide +kernel
theorem dX5_endMonth_35 : decode cX5_endMonth 35 = .ok (.invokestatic 25, 3) := by decide +kernel
theorem dX5_endMonth_38 : decode cX5_endMonth 38 = .ok (.lstore_n 3, 1) := by decide +kernel
theorem dX5_endMonth_39 : decode cX5_endMonth 39 = .ok (.lload_n 1, 1) := by decide +kernel
theorem dX5_endMonth_40 : decode cX5_endMonth 40 = .ok (.lload_n 3, 1) := by decide +kernel
theorem dX5_endMonth_41 : decode cX5_endMonth 41 = .ok (.lcmp, 1) := by decide +kernel
theorem dX5_endMonth_42 : decode cX5_endMonth 42 = .ok (.ifCond .le 11, 3) := by decide +kernel
theorem dX5_endMonth_45 : decode cX5_endMonth 45 = .ok (.aload_n 0, 1) := by decide +kernel
theorem dX5_endMonth_46 : decode cX5_endMonth 46 = .ok (.iconst 2, 1) := by decide +kernel
theorem dX5_endMonth_47 : decode cX5_endMonth 47 = .ok (.putfield 9, 3) := by decide +kernel
theorem dX5_endMonth_50 : decode cX5_endMonth 50 = .ok (.goto 14, 3) := by decide +kernel
theorem dX5_endMonth_53 : decode cX5_endMonth 53 = .ok (.lload_n 3, 1) := by decide +kernel
theorem dX5_endMonth_54 : decode cX5_endMonth 54 = .ok (.lconst 0, 1) := by decide +kernel
theorem dX5_endMonth_55 : decode cX5_endMonth 55 = .ok (.lcmp, 1) := by decide +kernel
theorem dX5_endMonth_56 : decode cX5_endMonth 56 = .ok (.ifCond .ne 8, 3) := by decide +kernel
theorem dX5_endMonth_59 : decode cX5_endMonth 59 = .ok (.aload_n 0, 1) := by decide +kernel
theorem dX5_endMonth_60 : decode cX5_endMonth 60 = .ok (.iconst 3, 1) := by decide +kernel
theorem dX5_endMonth_61 : decode cX5_endMonth 61 = .ok (.putfield 9, 3) := by decide +kernel
theorem dX5_endMonth_64 : decode cX5_endMonth 64 = .ok (.return_, 1) := by decide +kernel
theorem dX6_init_0 : decode cX6_init 0 = .ok (.aload_n 0, 1) := by decide +kernel
theorem dX6_init_1 : decode cX6_init 1 = .ok (.invokespecial 3, 3) := by decide +kernel
theorem dX6_init_4 : decode cX6_init 4 = .ok (.aload_n 0, 1) := by decide +kernel
theorem dX6_init_5 : decode cX6_init 5 = .ok (.iconst 0, 1) := by decide +kernel
theorem dX6_init_6 : decode cX6_init 6 = .ok (.putfield 9, 3) := by decide +kernel
theorem dX6_init_9 : decode cX6_init 9 = .ok (.aload_n 0, 1) := by decide +kernel
theorem dX6_init_10 : decode cX6_init 10 = .ok (.iconst 0, 1) := by decide +kernel
theorem dX6_init_11 : decode cX6_init 11 = .ok (.putfield 15, 3) := by decide +kernel
theorem dX6_init_14 : decode cX6_init 14 = .ok (.aload_n 0, 1) := by decide +kernel
theorem dX6_init_15 : decode cX6_init 15 = .ok (.aload_n 1, 1) := by decide +kernel
theorem dX6_init_16 : decode cX6_init 16 = .ok (.putfield 19, 3) := by decide +kernel
theorem dX6_init_19 : decode cX6_init 19 = .ok (.aload_n 0, 1) := by decide +kernel
theorem dX6_init_20 : decode cX6_init 20 = .ok (.iload_n 2, 1) := by decide +kernel
theorem dX6_init_21 : decode cX6_init 21 = .ok (.putfield 23, 3) := by decide +kernel
theorem dX6_init_24 : decode cX6_init 24 = .ok (.aload_n 0, 1) := by decide +kernel
theorem dX6_init_25 : decode cX6_init 25 = .ok (.iload_n 3, 1) := by decide +kernel
theorem dX6_init_26 : decode cX6_init 26 = .ok (.putfield 26, 3) := by decide +kernel
theorem dX6_init_29 : decode cX6_init 29 = .ok (.return_, 1) := by decide +kernel
theorem dX6_takePoints_0 : decode cX6_takePoints 0 = .ok (.aload_n 0, 1) := by decide +kernel
theorem dX6_takePoints_1 : decode cX6_takePoints 1 = .ok (.getfield 9, 3) := by decide +kernel
theorem dX6_takePoints_4 : decode cX6_takePoints 4 = .ok (.ifCond .ne 53, 3) := by decide +kernel
theorem dX6_takePoints_7 : decode cX6_takePoints 7 = .ok (.iload_n 1, 1) := by decide +kernel
theorem dX6_takePoints_8 : decode cX6_takePoints 8 = .ok (.aload_n 0, 1) := by decide +kernel
theorem dX6_takePoints_9 : decode cX6_takePoints 9 = .ok (.getfield 26, 3) := by decide +kernel
theorem dX6_takePoints_12 : decode cX6_takePoints 12 = .ok (.isub, 1) := by decide +kernel
theorem dX6_takePoints_13 : decode cX6_takePoints 13 = .ok (.aload_n 0, 1) := by decide +kernel
theorem dX6_takePoints_14 : decode cX6_takePoints 14 = .ok (.invokevirtual 29, 3) := by decide +kernel
theorem dX6_takePoints_17 : decode cX6_takePoints 17 = .ok (.if_icmp .le 40, 3) := by decide +kernel
theorem dX6_takePoints_20 : decode cX6_takePoints 20 = .ok (.aload_n 0, 1) := by decide +kernel
theorem dX6_takePoints_21 : decode cX6_takePoints 21 = .ok (.getfield 19, 3) := by decide +kernel
theorem dX6_takePoints_24 : decode cX6_takePoints 24 = .ok (.getfield 33, 3) := by decide +kernel
theorem dX6_takePoints_27 : decode cX6_takePoints 27 = .ok (.iload_n 2, 1) := by decide +kernel
theorem dX6_takePoints_28 : decode cX6_takePoints 28 = .ok (.aload_n 0, 1) := by decide +kernel
theorem dX6_takePoints_29 : decode cX6_takePoints 29 = .ok (.getfield 19, 3) := by decide +kernel
theorem dX6_takePoints_32 : decode cX6_takePoints 32 = .ok (.getfield 33, 3) := by decide +kernel
theorem dX6_takePoints_35 : decode cX6_takePoints 35 = .ok (.iload_n 2, 1) := by decide +kernel
theorem dX6_takePoints_36 : decode cX6_takePoints 36 = .ok (.invokevirtual 39, 3) := by decide +kernel
theorem dX6_takePoints_39 : decode cX6_takePoints 39 = .ok (.aload_n 0, 1) := by decide +kernel
theorem dX6_takePoints_40 : decode cX6_takePoints 40 = .ok (.invokevirtual 45, 3) := by decide +kernel
theorem dX6_takePoints_43 : decode cX6_takePoints 43 = .ok (.iadd, 1) := by decide +kernel
theorem dX6_takePoints_44 : decode cX6_takePoints 44 = .ok (.invokevirtual 48, 3) := by decide +kernel
theorem dX6_takePoints_47 : decode cX6_takePoints 47 = .ok (.aload_n 0, 1) := by decide +kernel
theorem dX6_takePoints_48 : decode cX6_takePoints 48 = .ok (.dup, 1) := by decide +kernel
theorem dX6_takePoints_49 : decode cX6_takePoints 49 = .ok (.getfield 15, 3) := by decide +kernel
theorem dX6_takePoints_52 : decode cX6_takePoints 52 = .ok (.iconst 1, 1) := by decide +kernel
theorem dX6_takePoints_53 : decode cX6_takePoints 53 = .ok (.iadd, 1) := by decide +kernel
theorem dX6_takePoints_54 : decode cX6_takePoints 54 = .ok (.putfield 15, 3) := by decide +kernel
theorem dX6_takePoints_57 : decode cX6_takePoints 57 = .ok (.return_, 1) := by decide +kernel
theorem dX6_clock_0 : decode cX6_clock 0 = .ok (.aload_n 0, 1) := by decide +kernel
theorem dX6_clock_1 : decode cX6_clock 1 = .ok (.getfield 23, 3) := by decide +kernel
theorem dX6_clock_4 : decode cX6_clock 4 = .ok (.ifCond .ne 7, 3) := by decide +kernel
theorem dX6_clock_7 : decode cX6_clock 7 = .ok (.iconst 2, 1) := by decide +kernel
theorem dX6_clock_8 : decode cX6_clock 8 = .ok (.goto 18, 3) := by decide +kernel
theorem dX6_clock_11 : decode cX6_clock 11 = .ok (.aload_n 0, 1) := by decide +kernel
theorem dX6_clock_12 : decode cX6_clock 12 = .ok (.getfield 23, 3) := by decide +kernel
theorem dX6_clock_15 : decode cX6_clock 15 = .ok (.iconst 1, 1) := by decide +kernel
theorem dX6_clock_16 : decode cX6_clock 16 = .ok (.if_icmp .ne 8, 3) := by decide +kernel
theorem dX6_clock_19 : decode cX6_clock 19 = .ok (.bipush 7, 2) := by decide +kernel
theorem dX6_clock_21 : decode cX6_clock 21 = .ok (.goto 5, 3) := by decide +kernel
theorem dX6_clock_24 : decode cX6_clock 24 = .ok (.bipush 30, 2) := by decide +kernel
theorem dX6_clock_26 : decode cX6_clock 26 = .ok (.ireturn, 1) := by decide +kernel
theorem dX6_pointsADay_0 : decode cX6_pointsADay 0 = .ok (.aload_n 0, 1) := by decide +kernel
theorem dX6_pointsADay_1 : decode cX6_pointsADay 1 = .ok (.getfield 23, 3) := by decide +kernel
theorem dX6_pointsADay_4 : decode cX6_pointsADay 4 = .ok (.ifCond .ne 8, 3) := by decide +kernel
theorem dX6_pointsADay_7 : decode cX6_pointsADay 7 = .ok (.bipush 30, 2) := by decide +kernel
theorem dX6_pointsADay_9 : decode cX6_pointsADay 9 = .ok (.goto 17, 3) := by decide +kernel
theorem dX6_pointsADay_12 : decode cX6_pointsADay 12 = .ok (.aload_n 0, 1) := by decide +kernel
theorem dX6_pointsADay_13 : decode cX6_pointsADay 13 = .ok (.getfield 23, 3) := by decide +kernel
theorem dX6_pointsADay_16 : decode cX6_pointsADay 16 = .ok (.iconst 1, 1) := by decide +kernel
theorem dX6_pointsADay_17 : decode cX6_pointsADay 17 = .ok (.if_icmp .ne 8, 3) := by decide +kernel
theorem dX6_pointsADay_20 : decode cX6_pointsADay 20 = .ok (.bipush 10, 2) := by decide +kernel
theorem dX6_pointsADay_22 : decode cX6_pointsADay 22 = .ok (.goto 4, 3) := by decide +kernel
theorem dX6_pointsADay_25 : decode cX6_pointsADay 25 = .ok (.iconst 5, 1) := by decide +kernel
theorem dX6_pointsADay_26 : decode cX6_pointsADay 26 = .ok (.ireturn, 1) := by decide +kernel
theorem dX7_init_0 : decode cX7_init 0 = .ok (.aload_n 0, 1) := by decide +kernel
theorem dX7_init_1 : decode cX7_init 1 = .ok (.invokespecial 1, 3) := by decide +kernel
theorem dX7_init_4 : decode cX7_init 4 = .ok (.aload_n 0, 1) := by decide +kernel
theorem dX7_init_5 : decode cX7_init 5 = .ok (.new 7, 3) := by decide +kernel
theorem dX7_init_8 : decode cX7_init 8 = .ok (.dup, 1) := by decide +kernel
theorem dX7_init_9 : decode cX7_init 9 = .ok (.invokespecial 9, 3) := by decide +kernel
theorem dX7_init_12 : decode cX7_init 12 = .ok (.putfield 10, 3) := by decide +kernel
theorem dX7_init_15 : decode cX7_init 15 = .ok (.aload_n 0, 1) := by decide +kernel
theorem dX7_init_16 : decode cX7_init 16 = .ok (.new 7, 3) := by decide +kernel
theorem dX7_init_19 : decode cX7_init 19 = .ok (.dup, 1) := by decide +kernel
theorem dX7_init_20 : decode cX7_init 20 = .ok (.invokespecial 9, 3) := by decide +kernel
theorem dX7_init_23 : decode cX7_init 23 = .ok (.putfield 16, 3) := by decide +kernel
theorem dX7_init_26 : decode cX7_init 26 = .ok (.aload_n 0, 1) := by decide +kernel
theorem dX7_init_27 : decode cX7_init 27 = .ok (.new 7, 3) := by decide +kernel
theorem dX7_init_30 : decode cX7_init 30 = .ok (.dup, 1) := by decide +kernel
theorem dX7_init_31 : decode cX7_init 31 = .ok (.invokespecial 9, 3) := by decide +kernel
theorem dX7_init_34 : decode cX7_init 34 = .ok (.putfield 19, 3) := by decide +kernel
theorem dX7_init_37 : decode cX7_init 37 = .ok (.aload_n 0, 1) := by decide +kernel
theorem dX7_init_38 : decode cX7_init 38 = .ok (.new 22, 3) := by decide +kernel
theorem dX7_init_41 : decode cX7_init 41 = .ok (.dup, 1) := by decide +kernel
theorem dX7_init_42 : decode cX7_init 42 = .ok (.bipush 100, 2) := by decide +kernel
theorem dX7_init_44 : decode cX7_init 44 = .ok (.invokespecial 24, 3) := by decide +kernel
theorem dX7_init_47 : decode cX7_init 47 = .ok (.putfield 27, 3) := by decide +kernel
theorem dX7_init_50 : decode cX7_init 50 = .ok (.aload_n 0, 1) := by decide +kernel
theorem dX7_init_51 : decode cX7_init 51 = .ok (.new 22, 3) := by decide +kernel
theorem dX7_init_54 : decode cX7_init 54 = .ok (.dup, 1) := by decide +kernel
theorem dX7_init_55 : decode cX7_init 55 = .ok (.iconst 0, 1) := by decide +kernel
theorem dX7_init_56 : decode cX7_init 56 = .ok (.invokespecial 24, 3) := by decide +kernel
theorem dX7_init_59 : decode cX7_init 59 = .ok (.putfield 31, 3) := by decide +kernel
theorem dX7_init_62 : decode cX7_init 62 = .ok (.aload_n 0, 1) := by decide +kernel
theorem dX7_init_63 : decode cX7_init 63 = .ok (.new 34, 3) := by decide +kernel
theorem dX7_init_66 : decode cX7_init 66 = .ok (.dup, 1) := by decide +kernel
theorem dX7_init_67 : decode cX7_init 67 = .ok (.invokespecial 36, 3) := by decide +kernel
theorem dX7_init_70 : decode cX7_init 70 = .ok (.putfield 37, 3) := by decide +kernel
theorem dX7_init_73 : decode cX7_init 73 = .ok (.aload_n 0, 1) := by decide +kernel
theorem dX7_init_74 : decode cX7_init 74 = .ok (.new 41, 3) := by decide +kernel
theorem dX7_init_77 : decode cX7_init 77 = .ok (.dup, 1) := by decide +kernel
theorem dX7_init_78 : decode cX7_init 78 = .ok (.invokespecial 43, 3) := by decide +kernel
theorem dX7_init_81 : decode cX7_init 81 = .ok (.putfield 44, 3) := by decide +kernel
theorem dX7_init_84 : decode cX7_init 84 = .ok (.aload_n 0, 1) := by decide +kernel
theorem dX7_init_85 : decode cX7_init 85 = .ok (.bipush 100, 2) := by decide +kernel
theorem dX7_init_87 : decode cX7_init 87 = .ok (.putfield 48, 3) := by decide +kernel
theorem dX7_init_90 : decode cX7_init 90 = .ok (.aload_n 0, 1) := by decide +kernel
theorem dX7_init_91 : decode cX7_init 91 = .ok (.iconst 0, 1) := by decide +kernel
theorem dX7_init_92 : decode cX7_init 92 = .ok (.putfield 52, 3) := by decide +kernel
theorem dX7_init_95 : decode cX7_init 95 = .ok (.aload_n 0, 1) := by decide +kernel
theorem dX7_init_96 : decode cX7_init 96 = .ok (.lconst 0, 1) := by decide +kernel
theorem dX7_init_97 : decode cX7_init 97 = .ok (.putfield 55, 3) := by decide +kernel
theorem dX7_init_100 : decode cX7_init 100 = .ok (.return_, 1) := by decide +kernel
theorem dX7_flat_0 : decode cX7_flat 0 = .ok (.iload_n 1, 1) := by decide +kernel
theorem dX7_flat_1 : decode cX7_flat 1 = .ok (.iconst 1, 1) := by decide +kernel
theorem dX7_flat_2 : decode cX7_flat 2 = .ok (.if_icmp .lt 9, 3) := by decide +kernel
theorem dX7_flat_5 : decode cX7_flat 5 = .ok (.iload_n 1, 1) := by decide +kernel
theorem dX7_flat_6 : decode cX7_flat 6 = .ok (.bipush 9, 2) := by decide +kernel
theorem dX7_flat_8 : decode cX7_flat 8 = .ok (.if_icmp .le 13, 3) := by decide +kernel
theorem dX7_flat_11 : decode cX7_flat 11 = .ok (.new 59, 3) := by decide +kernel
theorem dX7_flat_14 : decode cX7_flat 14 = .ok (.dup, 1) := by decide +kernel
theorem dX7_flat_15 : decode cX7_flat 15 = .ok (.ldc 61, 2) := by decide +kernel
theorem dX7_flat_17 : decode cX7_flat 17 = .ok (.invokespecial 63, 3) := by decide +kernel
theorem dX7_flat_20 : decode cX7_flat 20 = .ok (.athrow, 1) := by decide +kernel
theorem dX7_flat_21 : decode cX7_flat 21 = .ok (.aload_n 0, 1) := by decide +kernel
theorem dX7_flat_22 : decode cX7_flat 22 = .ok (.getfield 10, 3) := by decide +kernel
theorem dX7_flat_25 : decode cX7_flat 25 = .ok (.invokevirtual 66, 3) := by decide +kernel
theorem dX7_flat_28 : decode cX7_flat 28 = .ok (.bipush 8, 2) := by decide +kernel
theorem dX7_flat_30 : decode cX7_flat 30 = .ok (.if_icmp .lt 13, 3) := by decide +kernel
theorem dX7_flat_33 : decode cX7_flat 33 = .ok (.new 70, 3) := by decide +kernel
theorem dX7_flat_36 : decode cX7_flat 36 = .ok (.dup, 1) := by decide +kernel
theorem dX7_flat_37 : decode cX7_flat 37 = .ok (.ldc 72, 2) := by decide +kernel
theorem dX7_flat_39 : decode cX7_flat 39 = .ok (.invokespecial 74, 3) := by decide +kernel
theorem dX7_flat_42 : decode cX7_flat 42 = .ok (.athrow, 1) := by decide +kernel
theorem dX7_flat_43 : decode cX7_flat 43 = .ok (.aload_n 0, 1) := by decide +kernel
theorem dX7_flat_44 : decode cX7_flat 44 = .ok (.getfield 10, 3) := by decide +kernel
theorem dX7_flat_47 : decode cX7_flat 47 = .ok (.new 75, 3) := by decide +kernel
theorem dX7_flat_50 : decode cX7_flat 50 = .ok (.dup, 1) := by decide +kernel
theorem dX7_flat_51 : decode cX7_flat 51 = .ok (.iload_n 1, 1) := by decide +kernel
theorem dX7_flat_52 : decode cX7_flat 52 = .ok (.invokespecial 77, 3) := by decide +kernel
theorem dX7_flat_55 : decode cX7_flat 55 = .ok (.invokevirtual 78, 3) := by decide +kernel
theorem dX7_flat_58 : decode cX7_flat 58 = .ok (.pop, 1) := by decide +kernel
theorem dX7_flat_59 : decode cX7_flat 59 = .ok (.aload_n 0, 1) := by decide +kernel
theorem dX7_flat_60 : decode cX7_flat 60 = .ok (.getfield 10, 3) := by decide +kernel
theorem dX7_flat_63 : decode cX7_flat 63 = .ok (.invokevirtual 66, 3) := by decide +kernel
theorem dX7_flat_66 : decode cX7_flat 66 = .ok (.iconst 1, 1) := by decide +kernel
theorem dX7_flat_67 : decode cX7_flat 67 = .ok (.isub, 1) := by decide +kernel
theorem dX7_flat_68 : decode cX7_flat 68 = .ok (.ireturn, 1) := by decide +kernel
theorem dX7_lease_0 : decode cX7_lease 0 = .ok (.aload_n 0, 1) := by decide +kernel
theorem dX7_lease_1 : decode cX7_lease 1 = .ok (.iload_n 1, 1) := by decide +kernel
theorem dX7_lease_2 : decode cX7_lease 2 = .ok (.invokevirtual 82, 3) := by decide +kernel
theorem dX7_lease_5 : decode cX7_lease 5 = .ok (.astore_n 3, 1) := by decide +kernel
theorem dX7_lease_6 : decode cX7_lease 6 = .ok (.iload_n 2, 1) := by decide +kernel
theorem dX7_lease_7 : decode cX7_lease 7 = .ok (.ifCond .lt 9, 3) := by decide +kernel
theorem dX7_lease_10 : decode cX7_lease 10 = .ok (.iload_n 2, 1) := by decide +kernel
theorem dX7_lease_11 : decode cX7_lease 11 = .ok (.ldc 86, 2) := by decide +kernel
theorem dX7_lease_13 : decode cX7_lease 13 = .ok (.if_icmp .le 13, 3) := by decide +kernel
theorem dX7_lease_16 : decode cX7_lease 16 = .ok (.new 59, 3) := by decide +kernel
theorem dX7_lease_19 : decode cX7_lease 19 = .ok (.dup, 1) := by decide +kernel
theorem dX7_lease_20 : decode cX7_lease 20 = .ok (.ldc 87, 2) := by decide +kernel
theorem dX7_lease_22 : decode cX7_lease 22 = .ok (.invokespecial 63, 3) := by decide +kernel
theorem dX7_lease_25 : decode cX7_lease 25 = .ok (.athrow, 1) := by decide +kernel
theorem dX7_lease_26 : decode cX7_lease 26 = .ok (.aload_n 0, 1) := by decide +kernel
theorem dX7_lease_27 : decode cX7_lease 27 = .ok (.getfield 16, 3) := by decide +kernel
theorem dX7_lease_30 : decode cX7_lease 30 = .ok (.invokevirtual 66, 3) := by decide +kernel
theorem dX7_lease_33 : decode cX7_lease 33 = .ok (.bipush 12, 2) := by decide +kernel
theorem dX7_lease_35 : decode cX7_lease 35 = .ok (.if_icmp .ge 11, 3) := by decide +kernel
theorem dX7_lease_38 : decode cX7_lease 38 = .ok (.aload_n 0, 1) := by decide +kernel
theorem dX7_lease_39 : decode cX7_lease 39 = .ok (.aload_n 3, 1) := by decide +kernel
theorem dX7_lease_40 : decode cX7_lease 40 = .ok (.invokevirtual 89, 3) := by decide +kernel
theorem dX7_lease_43 : decode cX7_lease 43 = .ok (.ifCond .eq 13, 3) := by decide +kernel
theorem dX7_lease_46 : decode cX7_lease 46 = .ok (.new 70, 3) := by decide +kernel
theorem dX7_lease_49 : decode cX7_lease 49 = .ok (.dup, 1) := by decide +kernel
theorem dX7_lease_50 : decode cX7_lease 50 = .ok (.ldc 93, 2) := by decide +kernel
theorem dX7_lease_52 : decode cX7_lease 52 = .ok (.invokespecial 74, 3) := by decide +kernel
theorem dX7_lease_55 : decode cX7_lease 55 = .ok (.athrow, 1) := by decide +kernel
theorem dX7_lease_56 : decode cX7_lease 56 = .ok (.aload_n 0, 1) := by decide +kernel
theorem dX7_lease_57 : decode cX7_lease 57 = .ok (.getfield 16, 3) := by decide +kernel
theorem dX7_lease_60 : decode cX7_lease 60 = .ok (.new 95, 3) := by decide +kernel
theorem dX7_lease_63 : decode cX7_lease 63 = .ok (.dup, 1) := by decide +kernel
theorem dX7_lease_64 : decode cX7_lease 64 = .ok (.aload_n 3, 1) := by decide +kernel
theorem dX7_lease_65 : decode cX7_lease 65 = .ok (.iload_n 2, 1) := by decide +kernel
theorem dX7_lease_66 : decode cX7_lease 66 = .ok (.aload_n 0, 1) := by decide +kernel
theorem dX7_lease_67 : decode cX7_lease 67 = .ok (.invokevirtual 97, 3) := by decide +kernel
theorem dX7_lease_70 : decode cX7_lease 70 = .ok (.iconst 1, 1) := by decide +kernel
theorem dX7_lease_71 : decode cX7_lease 71 = .ok (.iadd, 1) := by decide +kernel
theorem dX7_lease_72 : decode cX7_lease 72 = .ok (.invokespecial 100, 3) := by decide +kernel
theorem dX7_lease_75 : decode cX7_lease 75 = .ok (.invokevirtual 78, 3) := by decide +kernel
theorem dX7_lease_78 : decode cX7_lease 78 = .ok (.pop, 1) := by decide +kernel
theorem dX7_lease_79 : decode cX7_lease 79 = .ok (.aload_n 0, 1) := by decide +kernel
theorem dX7_lease_80 : decode cX7_lease 80 = .ok (.getfield 16, 3) := by decide +kernel
theorem dX7_lease_83 : decode cX7_lease 83 = .ok (.invokevirtual 66, 3) := by decide +kernel
theorem dX7_lease_86 : decode cX7_lease 86 = .ok (.iconst 1, 1) := by decide +kernel
theorem dX7_lease_87 : decode cX7_lease 87 = .ok (.isub, 1) := by decide +kernel
theorem dX7_lease_88 : decode cX7_lease 88 = .ok (.ireturn, 1) := by decide +kernel
theorem dX7_end_0 : decode cX7_end 0 = .ok (.aload_n 0, 1) := by decide +kernel
theorem dX7_end_1 : decode cX7_end 1 = .ok (.iload_n 1, 1) := by decide +kernel
theorem dX7_end_2 : decode cX7_end 2 = .ok (.invokevirtual 103, 3) := by decide +kernel
theorem dX7_end_5 : decode cX7_end 5 = .ok (.astore_n 2, 1) := by decide +kernel
theorem dX7_end_6 : decode cX7_end 6 = .ok (.aload_n 2, 1) := by decide +kernel
theorem dX7_end_7 : decode cX7_end 7 = .ok (.getfield 107, 3) := by decide +kernel
theorem dX7_end_10 : decode cX7_end 10 = .ok (.iconst (-1), 1) := by decide +kernel
theorem dX7_end_11 : decode cX7_end 11 = .ok (.if_icmp .eq 13, 3) := by decide +kernel
theorem dX7_end_14 : decode cX7_end 14 = .ok (.new 70, 3) := by decide +kernel
theorem dX7_end_17 : decode cX7_end 17 = .ok (.dup, 1) := by decide +kernel
theorem dX7_end_18 : decode cX7_end 18 = .ok (.ldc 110, 2) := by decide +kernel
theorem dX7_end_20 : decode cX7_end 20 = .ok (.invokespecial 74, 3) := by decide +kernel
theorem dX7_end_23 : decode cX7_end 23 = .ok (.athrow, 1) := by decide +kernel
theorem dX7_end_24 : decode cX7_end 24 = .ok (.aload_n 2, 1) := by decide +kernel
theorem dX7_end_25 : decode cX7_end 25 = .ok (.aload_n 0, 1) := by decide +kernel
theorem dX7_end_26 : decode cX7_end 26 = .ok (.invokevirtual 97, 3) := by decide +kernel
theorem dX7_end_29 : decode cX7_end 29 = .ok (.putfield 107, 3) := by decide +kernel
theorem dX7_end_32 : decode cX7_end 32 = .ok (.aload_n 2, 1) := by decide +kernel
theorem dX7_end_33 : decode cX7_end 33 = .ok (.getfield 107, 3) := by decide +kernel
theorem dX7_end_36 : decode cX7_end 36 = .ok (.ireturn, 1) := by decide +kernel
theorem dX7_index_0 : decode cX7_index 0 = .ok (.iload_n 1, 1) := by decide +kernel
theorem dX7_index_1 : decode cX7_index 1 = .ok (.bipush 50, 2) := by decide +kernel
theorem dX7_index_3 : decode cX7_index 3 = .ok (.if_icmp .lt 10, 3) := by decide +kernel
theorem dX7_index_6 : decode cX7_index 6 = .ok (.iload_n 1, 1) := by decide +kernel
theorem dX7_index_7 : decode cX7_index 7 = .ok (.sipush 200, 3) := by decide +kernel
theorem dX7_index_10 : decode cX7_index 10 = .ok (.if_icmp .le 13, 3) := by decide +kernel
theorem dX7_index_13 : decode cX7_index 13 = .ok (.new 59, 3) := by decide +kernel
theorem dX7_index_16 : decode cX7_index 16 = .ok (.dup, 1) := by decide +kernel
theorem dX7_index_17 : decode cX7_index 17 = .ok (.ldc 112, 2) := by decide +kernel
theorem dX7_index_19 : decode cX7_index 19 = .ok (.invokespecial 63, 3) := by decide +kernel
theorem dX7_index_22 : decode cX7_index 22 = .ok (.athrow, 1) := by decide +kernel
theorem dX7_index_23 : decode cX7_index 23 = .ok (.aload_n 0, 1) := by decide +kernel
theorem dX7_index_24 : decode cX7_index 24 = .ok (.iload_n 1, 1) := by decide +kernel
theorem dX7_index_25 : decode cX7_index 25 = .ok (.putfield 48, 3) := by decide +kernel
theorem dX7_index_28 : decode cX7_index 28 = .ok (.aload_n 0, 1) := by decide +kernel
theorem dX7_index_29 : decode cX7_index 29 = .ok (.getfield 27, 3) := by decide +kernel
theorem dX7_index_32 : decode cX7_index 32 = .ok (.aload_n 0, 1) := by decide +kernel
theorem dX7_index_33 : decode cX7_index 33 = .ok (.invokevirtual 97, 3) := by decide +kernel
theorem dX7_index_36 : decode cX7_index 36 = .ok (.invokevirtual 114, 3) := by decide +kernel
theorem dX7_index_39 : decode cX7_index 39 = .ok (.ireturn, 1) := by decide +kernel
theorem dX7_read_0 : decode cX7_read 0 = .ok (.aload_n 0, 1) := by decide +kernel
theorem dX7_read_1 : decode cX7_read 1 = .ok (.iload_n 1, 1) := by decide +kernel
theorem dX7_read_2 : decode cX7_read 2 = .ok (.invokevirtual 82, 3) := by decide +kernel
theorem dX7_read_5 : decode cX7_read 5 = .ok (.astore_n 3, 1) := by decide +kernel
theorem dX7_read_6 : decode cX7_read 6 = .ok (.iload_n 2, 1) := by decide +kernel
theorem dX7_read_7 : decode cX7_read 7 = .ok (.aload_n 3, 1) := by decide +kernel
theorem dX7_read_8 : decode cX7_read 8 = .ok (.getfield 118, 3) := by decide +kernel
theorem dX7_read_11 : decode cX7_read 11 = .ok (.if_icmp .lt 9, 3) := by decide +kernel
theorem dX7_read_14 : decode cX7_read 14 = .ok (.iload_n 2, 1) := by decide +kernel
theorem dX7_read_15 : decode cX7_read 15 = .ok (.ldc 121, 2) := by decide +kernel
theorem dX7_read_17 : decode cX7_read 17 = .ok (.if_icmp .le 13, 3) := by decide +kernel
theorem dX7_read_20 : decode cX7_read 20 = .ok (.new 59, 3) := by decide +kernel
theorem dX7_read_23 : decode cX7_read 23 = .ok (.dup, 1) := by decide +kernel
theorem dX7_read_24 : decode cX7_read 24 = .ok (.ldc 122, 2) := by decide +kernel
theorem dX7_read_26 : decode cX7_read 26 = .ok (.invokespecial 63, 3) := by decide +kernel
theorem dX7_read_29 : decode cX7_read 29 = .ok (.athrow, 1) := by decide +kernel
theorem dX7_read_30 : decode cX7_read 30 = .ok (.aload_n 3, 1) := by decide +kernel
theorem dX7_read_31 : decode cX7_read 31 = .ok (.iload_n 2, 1) := by decide +kernel
theorem dX7_read_32 : decode cX7_read 32 = .ok (.aload_n 0, 1) := by decide +kernel
theorem dX7_read_33 : decode cX7_read 33 = .ok (.invokevirtual 97, 3) := by decide +kernel
theorem dX7_read_36 : decode cX7_read 36 = .ok (.invokevirtual 124, 3) := by decide +kernel
theorem dX7_read_39 : decode cX7_read 39 = .ok (.ireturn, 1) := by decide +kernel
theorem dX7_heat_0 : decode cX7_heat 0 = .ok (.iload_n 1, 1) := by decide +kernel
theorem dX7_heat_1 : decode cX7_heat 1 = .ok (.iconst 1, 1) := by decide +kernel
theorem dX7_heat_2 : decode cX7_heat 2 = .ok (.if_icmp .lt 9, 3) := by decide +kernel
theorem dX7_heat_5 : decode cX7_heat 5 = .ok (.iload_n 1, 1) := by decide +kernel
theorem dX7_heat_6 : decode cX7_heat 6 = .ok (.ldc 121, 2) := by decide +kernel
theorem dX7_heat_8 : decode cX7_heat 8 = .ok (.if_icmp .le 13, 3) := by decide +kernel
theorem dX7_heat_11 : decode cX7_heat 11 = .ok (.new 59, 3) := by decide +kernel
theorem dX7_heat_14 : decode cX7_heat 14 = .ok (.dup, 1) := by decide +kernel
theorem dX7_heat_15 : decode cX7_heat 15 = .ok (.ldc 128, 2) := by decide +kernel
theorem dX7_heat_17 : decode cX7_heat 17 = .ok (.invokespecial 63, 3) := by decide +kernel
theorem dX7_heat_20 : decode cX7_heat 20 = .ok (.athrow, 1) := by decide +kernel
theorem dX7_heat_21 : decode cX7_heat 21 = .ok (.aload_n 0, 1) := by decide +kernel
theorem dX7_heat_22 : decode cX7_heat 22 = .ok (.invokevirtual 97, 3) := by decide +kernel
theorem dX7_heat_25 : decode cX7_heat 25 = .ok (.istore_n 2, 1) := by decide +kernel
theorem dX7_heat_26 : decode cX7_heat 26 = .ok (.aload_n 0, 1) := by decide +kernel
theorem dX7_heat_27 : decode cX7_heat 27 = .ok (.getfield 31, 3) := by decide +kernel
theorem dX7_heat_30 : decode cX7_heat 30 = .ok (.iload_n 2, 1) := by decide +kernel
theorem dX7_heat_31 : decode cX7_heat 31 = .ok (.invokevirtual 114, 3) := by decide +kernel
theorem dX7_heat_34 : decode cX7_heat 34 = .ok (.iload_n 1, 1) := by decide +kernel
theorem dX7_heat_35 : decode cX7_heat 35 = .ok (.iadd, 1) := by decide +kernel
theorem dX7_heat_36 : decode cX7_heat 36 = .ok (.istore_n 3, 1) := by decide +kernel
theorem dX7_heat_37 : decode cX7_heat 37 = .ok (.iload_n 3, 1) := by decide +kernel
theorem dX7_heat_38 : decode cX7_heat 38 = .ok (.ldc 130, 2) := by decide +kernel
theorem dX7_heat_40 : decode cX7_heat 40 = .ok (.if_icmp .le 13, 3) := by decide +kernel
theorem dX7_heat_43 : decode cX7_heat 43 = .ok (.new 70, 3) := by decide +kernel
theorem dX7_heat_46 : decode cX7_heat 46 = .ok (.dup, 1) := by decide +kernel
theorem dX7_heat_47 : decode cX7_heat 47 = .ok (.ldc 131, 2) := by decide +kernel
theorem dX7_heat_49 : decode cX7_heat 49 = .ok (.invokespecial 74, 3) := by decide +kernel
theorem dX7_heat_52 : decode cX7_heat 52 = .ok (.athrow, 1) := by decide +kernel
theorem dX7_heat_53 : decode cX7_heat 53 = .ok (.aload_n 0, 1) := by decide +kernel
theorem dX7_heat_54 : decode cX7_heat 54 = .ok (.getfield 31, 3) := by decide +kernel
theorem dX7_heat_57 : decode cX7_heat 57 = .ok (.iload_n 2, 1) := by decide +kernel
theorem dX7_heat_58 : decode cX7_heat 58 = .ok (.iload_n 3, 1) := by decide +kernel
theorem dX7_heat_59 : decode cX7_heat 59 = .ok (.invokevirtual 133, 3) := by decide +kernel
theorem dX7_heat_62 : decode cX7_heat 62 = .ok (.iload_n 3, 1) := by decide +kernel
theorem dX7_heat_63 : decode cX7_heat 63 = .ok (.ireturn, 1) := by decide +kernel
theorem dX7_report_0 : decode cX7_report 0 = .ok (.aload_n 0, 1) := by decide +kernel
theorem dX7_report_1 : decode cX7_report 1 = .ok (.iload_n 1, 1) := by decide +kernel
theorem dX7_report_2 : decode cX7_report 2 = .ok (.invokevirtual 82, 3) := by decide +kernel
theorem dX7_report_5 : decode cX7_report 5 = .ok (.astore_n 3, 1) := by decide +kernel
theorem dX7_report_6 : decode cX7_report 6 = .ok (.iload_n 2, 1) := by decide +kernel
theorem dX7_report_7 : decode cX7_report 7 = .ok (.ifCond .lt 8, 3) := by decide +kernel
theorem dX7_report_10 : decode cX7_report 10 = .ok (.iload_n 2, 1) := by decide +kernel
theorem dX7_report_11 : decode cX7_report 11 = .ok (.iconst 2, 1) := by decide +kernel
theorem dX7_report_12 : decode cX7_report 12 = .ok (.if_icmp .le 13, 3) := by decide +kernel
theorem dX7_report_15 : decode cX7_report 15 = .ok (.new 59, 3) := by decide +kernel
theorem dX7_report_18 : decode cX7_report 18 = .ok (.dup, 1) := by decide +kernel
theorem dX7_report_19 : decode cX7_report 19 = .ok (.ldc 137, 2) := by decide +kernel
theorem dX7_report_21 : decode cX7_report 21 = .ok (.invokespecial 63, 3) := by decide +kernel
theorem dX7_report_24 : decode cX7_report 24 = .ok (.athrow, 1) := by decide +kernel
theorem dX7_report_25 : decode cX7_report 25 = .ok (.aload_n 0, 1) := by decide +kernel
theorem dX7_report_26 : decode cX7_report 26 = .ok (.getfield 19, 3) := by decide +kernel
theorem dX7_report_29 : decode cX7_report 29 = .ok (.invokevirtual 66, 3) := by decide +kernel
theorem dX7_report_32 : decode cX7_report 32 = .ok (.bipush 60, 2) := by decide +kernel
theorem dX7_report_34 : decode cX7_report 34 = .ok (.if_icmp .lt 13, 3) := by decide +kernel
theorem dX7_report_37 : decode cX7_report 37 = .ok (.new 70, 3) := by decide +kernel
theorem dX7_report_40 : decode cX7_report 40 = .ok (.dup, 1) := by decide +kernel
theorem dX7_report_41 : decode cX7_report 41 = .ok (.ldc 139, 2) := by decide +kernel
theorem dX7_report_43 : decode cX7_report 43 = .ok (.invokespecial 74, 3) := by decide +kernel
theorem dX7_report_46 : decode cX7_report 46 = .ok (.athrow, 1) := by decide +kernel
theorem dX7_report_47 : decode cX7_report 47 = .ok (.aload_n 0, 1) := by decide +kernel
theorem dX7_report_48 : decode cX7_report 48 = .ok (.getfield 19, 3) := by decide +kernel
theorem dX7_report_51 : decode cX7_report 51 = .ok (.new 141, 3) := by decide +kernel
theorem dX7_report_54 : decode cX7_report 54 = .ok (.dup, 1) := by decide +kernel
theorem dX7_report_55 : decode cX7_report 55 = .ok (.aload_n 3, 1) := by decide +kernel
theorem dX7_report_56 : decode cX7_report 56 = .ok (.iload_n 2, 1) := by decide +kernel
theorem dX7_report_57 : decode cX7_report 57 = .ok (.aload_n 0, 1) := by decide +kernel
theorem dX7_report_58 : decode cX7_report 58 = .ok (.getfield 52, 3) := by decide +kernel
theorem dX7_report_61 : decode cX7_report 61 = .ok (.invokespecial 143, 3) := by decide +kernel
theorem dX7_report_64 : decode cX7_report 64 = .ok (.invokevirtual 78, 3) := by decide +kernel
theorem dX7_report_67 : decode cX7_report 67 = .ok (.pop, 1) := by decide +kernel
theorem dX7_report_68 : decode cX7_report 68 = .ok (.aload_n 0, 1) := by decide +kernel
theorem dX7_report_69 : decode cX7_report 69 = .ok (.getfield 19, 3) := by decide +kernel
theorem dX7_report_72 : decode cX7_report 72 = .ok (.invokevirtual 66, 3) := by decide +kernel
theorem dX7_report_75 : decode cX7_report 75 = .ok (.iconst 1, 1) := by decide +kernel
theorem dX7_report_76 : decode cX7_report 76 = .ok (.isub, 1) := by decide +kernel
theorem dX7_report_77 : decode cX7_report 77 = .ok (.ireturn, 1) := by decide +kernel
theorem dX7_mend_0 : decode cX7_mend 0 = .ok (.iload_n 1, 1) := by decide +kernel
theorem dX7_mend_1 : decode cX7_mend 1 = .ok (.ifCond .lt 14, 3) := by decide +kernel
theorem dX7_mend_4 : decode cX7_mend 4 = .ok (.iload_n 1, 1) := by decide +kernel
theorem dX7_mend_5 : decode cX7_mend 5 = .ok (.aload_n 0, 1) := by decide +kernel
theorem dX7_mend_6 : decode cX7_mend 6 = .ok (.getfield 19, 3) := by decide +kernel
theorem dX7_mend_9 : decode cX7_mend 9 = .ok (.invokevirtual 66, 3) := by decide +kernel
theorem dX7_mend_12 : decode cX7_mend 12 = .ok (.if_icmp .lt 13, 3) := by decide +kernel
theorem dX7_mend_15 : decode cX7_mend 15 = .ok (.new 144, 3) := by decide +kernel
theorem dX7_mend_18 : decode cX7_mend 18 = .ok (.dup, 1) := by decide +kernel
theorem dX7_mend_19 : decode cX7_mend 19 = .ok (.ldc 146, 2) := by decide +kernel
theorem dX7_mend_21 : decode cX7_mend 21 = .ok (.invokespecial 148, 3) := by decide +kernel
theorem dX7_mend_24 : decode cX7_mend 24 = .ok (.athrow, 1) := by decide +kernel
theorem dX7_mend_25 : decode cX7_mend 25 = .ok (.aload_n 0, 1) := by decide +kernel
theorem dX7_mend_26 : decode cX7_mend 26 = .ok (.getfield 19, 3) := by decide +kernel
theorem dX7_mend_29 : decode cX7_mend 29 = .ok (.iload_n 1, 1) := by decide +kernel
theorem dX7_mend_30 : decode cX7_mend 30 = .ok (.invokevirtual 149, 3) := by decide +kernel
theorem dX7_mend_33 : decode cX7_mend 33 = .ok (.checkcast 141, 3) := by decide +kernel
theorem dX7_mend_36 : decode cX7_mend 36 = .ok (.astore_n 2, 1) := by decide +kernel
theorem dX7_mend_37 : decode cX7_mend 37 = .ok (.aload_n 2, 1) := by decide +kernel
theorem dX7_mend_38 : decode cX7_mend 38 = .ok (.getfield 153, 3) := by decide +kernel
theorem dX7_mend_41 : decode cX7_mend 41 = .ok (.ifCond .eq 13, 3) := by decide +kernel
theorem dX7_mend_44 : decode cX7_mend 44 = .ok (.new 70, 3) := by decide +kernel
theorem dX7_mend_47 : decode cX7_mend 47 = .ok (.dup, 1) := by decide +kernel
theorem dX7_mend_48 : decode cX7_mend 48 = .ok (.ldc 157, 2) := by decide +kernel
theorem dX7_mend_50 : decode cX7_mend 50 = .ok (.invokespecial 74, 3) := by decide +kernel
theorem dX7_mend_53 : decode cX7_mend 53 = .ok (.athrow, 1) := by decide +kernel
theorem dX7_mend_54 : decode cX7_mend 54 = .ok (.aload_n 2, 1) := by decide +kernel
theorem dX7_mend_55 : decode cX7_mend 55 = .ok (.iconst 1, 1) := by decide +kernel
theorem dX7_mend_56 : decode cX7_mend 56 = .ok (.putfield 153, 3) := by decide +kernel
theorem dX7_mend_59 : decode cX7_mend 59 = .ok (.aload_n 2, 1) := by decide +kernel
theorem dX7_mend_60 : decode cX7_mend 60 = .ok (.getfield 159, 3) := by decide +kernel
theorem dX7_mend_63 : decode cX7_mend 63 = .ok (.ireturn, 1) := by decide +kernel
theorem dX7_income_0 : decode cX7_income 0 = .ok (.aload_n 0, 1) := by decide +kernel
theorem dX7_income_1 : decode cX7_income 1 = .ok (.iload_n 1, 1) := by decide +kernel
theorem dX7_income_2 : decode cX7_income 2 = .ok (.invokevirtual 103, 3) := by decide +kernel
theorem dX7_income_5 : decode cX7_income 5 = .ok (.astore 4, 2) := by decide +kernel
theorem dX7_income_7 : decode cX7_income 7 = .ok (.aload_n 0, 1) := by decide +kernel
theorem dX7_income_8 : decode cX7_income 8 = .ok (.iload_n 2, 1) := by decide +kernel
theorem dX7_income_9 : decode cX7_income 9 = .ok (.invokevirtual 162, 3) := by decide +kernel
theorem dX7_income_12 : decode cX7_income 12 = .ok (.iload_n 3, 1) := by decide +kernel
theorem dX7_income_13 : decode cX7_income 13 = .ok (.ifCond .lt 9, 3) := by decide +kernel
theorem dX7_income_16 : decode cX7_income 16 = .ok (.iload_n 3, 1) := by decide +kernel
theorem dX7_income_17 : decode cX7_income 17 = .ok (.ldc 121, 2) := by decide +kernel
theorem dX7_income_19 : decode cX7_income 19 = .ok (.if_icmp .le 13, 3) := by decide +kernel
theorem dX7_income_22 : decode cX7_income 22 = .ok (.new 59, 3) := by decide +kernel
theorem dX7_income_25 : decode cX7_income 25 = .ok (.dup, 1) := by decide +kernel
theorem dX7_income_26 : decode cX7_income 26 = .ok (.ldc 128, 2) := by decide +kernel
theorem dX7_income_28 : decode cX7_income 28 = .ok (.invokespecial 63, 3) := by decide +kernel
theorem dX7_income_31 : decode cX7_income 31 = .ok (.athrow, 1) := by decide +kernel
theorem dX7_income_32 : decode cX7_income 32 = .ok (.aload 4, 2) := by decide +kernel
theorem dX7_income_34 : decode cX7_income 34 = .ok (.getfield 165, 3) := by decide +kernel
theorem dX7_income_37 : decode cX7_income 37 = .ok (.iload_n 2, 1) := by decide +kernel
theorem dX7_income_38 : decode cX7_income 38 = .ok (.iload_n 3, 1) := by decide +kernel
theorem dX7_income_39 : decode cX7_income 39 = .ok (.invokevirtual 133, 3) := by decide +kernel
theorem dX7_income_42 : decode cX7_income 42 = .ok (.aload 4, 2) := by decide +kernel
theorem dX7_income_44 : decode cX7_income 44 = .ok (.iload_n 2, 1) := by decide +kernel
theorem dX7_income_45 : decode cX7_income 45 = .ok (.aload_n 0, 1) := by decide +kernel
theorem dX7_income_46 : decode cX7_income 46 = .ok (.invokevirtual 97, 3) := by decide +kernel
theorem dX7_income_49 : decode cX7_income 49 = .ok (.invokevirtual 168, 3) := by decide +kernel
theorem dX7_income_52 : decode cX7_income 52 = .ok (.lstore 5, 2) := by decide +kernel
theorem dX7_income_54 : decode cX7_income 54 = .ok (.aload_n 0, 1) := by decide +kernel
theorem dX7_income_55 : decode cX7_income 55 = .ok (.aload 4, 2) := by decide +kernel
theorem dX7_income_57 : decode cX7_income 57 = .ok (.lload 5, 2) := by decide +kernel
theorem dX7_income_59 : decode cX7_income 59 = .ok (.invokevirtual 172, 3) := by decide +kernel
theorem dX7_income_62 : decode cX7_income 62 = .ok (.aload_n 0, 1) := by decide +kernel
theorem dX7_income_63 : decode cX7_income 63 = .ok (.aload 4, 2) := by decide +kernel
theorem dX7_income_65 : decode cX7_income 65 = .ok (.lload 5, 2) := by decide +kernel
theorem dX7_income_67 : decode cX7_income 67 = .ok (.lneg, 1) := by decide +kernel
theorem dX7_income_68 : decode cX7_income 68 = .ok (.invokevirtual 176, 3) := by decide +kernel
theorem dX7_income_71 : decode cX7_income 71 = .ok (.lload 5, 2) := by decide +kernel
theorem dX7_income_73 : decode cX7_income 73 = .ok (.lreturn, 1) := by decide +kernel
theorem dX7_pay_0 : decode cX7_pay 0 = .ok (.aload_n 0, 1) := by decide +kernel
theorem dX7_pay_1 : decode cX7_pay 1 = .ok (.iload_n 1, 1) := by decide +kernel
theorem dX7_pay_2 : decode cX7_pay 2 = .ok (.invokevirtual 103, 3) := by decide +kernel
theorem dX7_pay_5 : decode cX7_pay 5 = .ok (.astore_n 3, 1) := by decide +kernel
theorem dX7_pay_6 : decode cX7_pay 6 = .ok (.iload_n 2, 1) := by decide +kernel
theorem dX7_pay_7 : decode cX7_pay 7 = .ok (.iconst 1, 1) := by decide +kernel
theorem dX7_pay_8 : decode cX7_pay 8 = .ok (.if_icmp .lt 9, 3) := by decide +kernel
theorem dX7_pay_11 : decode cX7_pay 11 = .ok (.iload_n 2, 1) := by decide +kernel
theorem dX7_pay_12 : decode cX7_pay 12 = .ok (.ldc 121, 2) := by decide +kernel
theorem dX7_pay_14 : decode cX7_pay 14 = .ok (.if_icmp .le 13, 3) := by decide +kernel
theorem dX7_pay_17 : decode cX7_pay 17 = .ok (.new 59, 3) := by decide +kernel
theorem dX7_pay_20 : decode cX7_pay 20 = .ok (.dup, 1) := by decide +kernel
theorem dX7_pay_21 : decode cX7_pay 21 = .ok (.ldc 128, 2) := by decide +kernel
theorem dX7_pay_23 : decode cX7_pay 23 = .ok (.invokespecial 63, 3) := by decide +kernel
theorem dX7_pay_26 : decode cX7_pay 26 = .ok (.athrow, 1) := by decide +kernel
theorem dX7_pay_27 : decode cX7_pay 27 = .ok (.aload_n 3, 1) := by decide +kernel
theorem dX7_pay_28 : decode cX7_pay 28 = .ok (.dup, 1) := by decide +kernel
theorem dX7_pay_29 : decode cX7_pay 29 = .ok (.getfield 179, 3) := by decide +kernel
theorem dX7_pay_32 : decode cX7_pay 32 = .ok (.iload_n 2, 1) := by decide +kernel
theorem dX7_pay_33 : decode cX7_pay 33 = .ok (.i2l, 1) := by decide +kernel
theorem dX7_pay_34 : decode cX7_pay 34 = .ok (.ladd, 1) := by decide +kernel
theorem dX7_pay_35 : decode cX7_pay 35 = .ok (.putfield 179, 3) := by decide +kernel
theorem dX7_pay_38 : decode cX7_pay 38 = .ok (.aload_n 0, 1) := by decide +kernel
theorem dX7_pay_39 : decode cX7_pay 39 = .ok (.aload_n 3, 1) := by decide +kernel
theorem dX7_pay_40 : decode cX7_pay 40 = .ok (.iload_n 2, 1) := by decide +kernel
theorem dX7_pay_41 : decode cX7_pay 41 = .ok (.ineg, 1) := by decide +kernel
theorem dX7_pay_42 : decode cX7_pay 42 = .ok (.i2l, 1) := by decide +kernel
theorem dX7_pay_43 : decode cX7_pay 43 = .ok (.invokevirtual 172, 3) := by decide +kernel
theorem dX7_pay_46 : decode cX7_pay 46 = .ok (.aload_n 3, 1) := by decide +kernel
theorem dX7_pay_47 : decode cX7_pay 47 = .ok (.getfield 182, 3) := by decide +kernel
theorem dX7_pay_50 : decode cX7_pay 50 = .ok (.lreturn, 1) := by decide +kernel
theorem dX7_plan_0 : decode cX7_plan 0 = .ok (.aload_n 0, 1) := by decide +kernel
theorem dX7_plan_1 : decode cX7_plan 1 = .ok (.iload_n 1, 1) := by decide +kernel
theorem dX7_plan_2 : decode cX7_plan 2 = .ok (.invokevirtual 103, 3) := by decide +kernel
theorem dX7_plan_5 : decode cX7_plan 5 = .ok (.astore_n 3, 1) := by decide +kernel
theorem dX7_plan_6 : decode cX7_plan 6 = .ok (.iload_n 2, 1) := by decide +kernel
theorem dX7_plan_7 : decode cX7_plan 7 = .ok (.iconst 1, 1) := by decide +kernel
theorem dX7_plan_8 : decode cX7_plan 8 = .ok (.if_icmp .lt 9, 3) := by decide +kernel
theorem dX7_plan_11 : decode cX7_plan 11 = .ok (.iload_n 2, 1) := by decide +kernel
theorem dX7_plan_12 : decode cX7_plan 12 = .ok (.bipush 12, 2) := by decide +kernel
theorem dX7_plan_14 : decode cX7_plan 14 = .ok (.if_icmp .le 13, 3) := by decide +kernel
theorem dX7_plan_17 : decode cX7_plan 17 = .ok (.new 59, 3) := by decide +kernel
theorem dX7_plan_20 : decode cX7_plan 20 = .ok (.dup, 1) := by decide +kernel
theorem dX7_plan_21 : decode cX7_plan 21 = .ok (.ldc 185, 2) := by decide +kernel
theorem dX7_plan_23 : decode cX7_plan 23 = .ok (.invokespecial 63, 3) := by decide +kernel
theorem dX7_plan_26 : decode cX7_plan 26 = .ok (.athrow, 1) := by decide +kernel
theorem dX7_plan_27 : decode cX7_plan 27 = .ok (.aload_n 3, 1) := by decide +kernel
theorem dX7_plan_28 : decode cX7_plan 28 = .ok (.getfield 187, 3) := by decide +kernel
theorem dX7_plan_31 : decode cX7_plan 31 = .ok (.getfield 191, 3) := by decide +kernel
theorem dX7_plan_34 : decode cX7_plan 34 = .ok (.iconst 1, 1) := by decide +kernel
theorem dX7_plan_35 : decode cX7_plan 35 = .ok (.if_icmp .eq 12, 3) := by decide +kernel
theorem dX7_plan_38 : decode cX7_plan 38 = .ok (.aload_n 3, 1) := by decide +kernel
theorem dX7_plan_39 : decode cX7_plan 39 = .ok (.getfield 182, 3) := by decide +kernel
theorem dX7_plan_42 : decode cX7_plan 42 = .ok (.lconst 0, 1) := by decide +kernel
theorem dX7_plan_43 : decode cX7_plan 43 = .ok (.lcmp, 1) := by decide +kernel
theorem dX7_plan_44 : decode cX7_plan 44 = .ok (.ifCond .gt 13, 3) := by decide +kernel
theorem dX7_plan_47 : decode cX7_plan 47 = .ok (.new 70, 3) := by decide +kernel
theorem dX7_plan_50 : decode cX7_plan 50 = .ok (.dup, 1) := by decide +kernel
theorem dX7_plan_51 : decode cX7_plan 51 = .ok (.ldc 196, 2) := by decide +kernel
theorem dX7_plan_53 : decode cX7_plan 53 = .ok (.invokespecial 74, 3) := by decide +kernel
theorem dX7_plan_56 : decode cX7_plan 56 = .ok (.athrow, 1) := by decide +kernel
theorem dX7_plan_57 : decode cX7_plan 57 = .ok (.aload_n 3, 1) := by decide +kernel
theorem dX7_plan_58 : decode cX7_plan 58 = .ok (.getfield 182, 3) := by decide +kernel
theorem dX7_plan_61 : decode cX7_plan 61 = .ok (.iload_n 2, 1) := by decide +kernel
theorem dX7_plan_62 : decode cX7_plan 62 = .ok (.i2l, 1) := by decide +kernel
theorem dX7_plan_63 : decode cX7_plan 63 = .ok (.ladd, 1) := by decide +kernel
theorem dX7_plan_64 : decode cX7_plan 64 = .ok (.lconst 1, 1) := by decide +kernel
theorem dX7_plan_65 : decode cX7_plan 65 = .ok (.lsub, 1) := by decide +kernel
theorem dX7_plan_66 : decode cX7_plan 66 = .ok (.iload_n 2, 1) := by decide +kernel
theorem dX7_plan_67 : decode cX7_plan 67 = .ok (.i2l, 1) := by decide +kernel
theorem dX7_plan_68 : decode cX7_plan 68 = .ok (.ldiv, 1) := by decide +kernel
theorem dX7_plan_69 : decode cX7_plan 69 = .ok (.lstore 4, 2) := by decide +kernel
theorem dX7_plan_71 : decode cX7_plan 71 = .ok (.aload_n 3, 1) := by decide +kernel
theorem dX7_plan_72 : decode cX7_plan 72 = .ok (.getfield 187, 3) := by decide +kernel
theorem dX7_plan_75 : decode cX7_plan 75 = .ok (.aload_n 3, 1) := by decide +kernel
theorem dX7_plan_76 : decode cX7_plan 76 = .ok (.getfield 182, 3) := by decide +kernel
theorem dX7_plan_79 : decode cX7_plan 79 = .ok (.lload 4, 2) := by decide +kernel
theorem dX7_plan_81 : decode cX7_plan 81 = .ok (.invokevirtual 198, 3) := by decide +kernel
theorem dX7_plan_84 : decode cX7_plan 84 = .ok (.lload 4, 2) := by decide +kernel
theorem dX7_plan_86 : decode cX7_plan 86 = .ok (.lreturn, 1) := by decide +kernel
theorem dX7_pass_0 : decode cX7_pass 0 = .ok (.iload_n 1, 1) := by decide +kernel
theorem dX7_pass_1 : decode cX7_pass 1 = .ok (.iconst 1, 1) := by decide +kernel
theorem dX7_pass_2 : decode cX7_pass 2 = .ok (.if_icmp .lt 9, 3) := by decide +kernel
theorem dX7_pass_5 : decode cX7_pass 5 = .ok (.iload_n 1, 1) := by decide +kernel
theorem dX7_pass_6 : decode cX7_pass 6 = .ok (.bipush 60, 2) := by decide +kernel
theorem dX7_pass_8 : decode cX7_pass 8 = .ok (.if_icmp .le 13, 3) := by decide +kernel
theorem dX7_pass_11 : decode cX7_pass 11 = .ok (.new 59, 3) := by decide +kernel
theorem dX7_pass_14 : decode cX7_pass 14 = .ok (.dup, 1) := by decide +kernel
theorem dX7_pass_15 : decode cX7_pass 15 = .ok (.ldc 202, 2) := by decide +kernel
theorem dX7_pass_17 : decode cX7_pass 17 = .ok (.invokespecial 63, 3) := by decide +kernel
theorem dX7_pass_20 : decode cX7_pass 20 = .ok (.athrow, 1) := by decide +kernel
theorem dX7_pass_21 : decode cX7_pass 21 = .ok (.aload_n 0, 1) := by decide +kernel
theorem dX7_pass_22 : decode cX7_pass 22 = .ok (.getfield 52, 3) := by decide +kernel
theorem dX7_pass_25 : decode cX7_pass 25 = .ok (.iload_n 1, 1) := by decide +kernel
theorem dX7_pass_26 : decode cX7_pass 26 = .ok (.iadd, 1) := by decide +kernel
theorem dX7_pass_27 : decode cX7_pass 27 = .ok (.sipush 3600, 3) := by decide +kernel
theorem dX7_pass_30 : decode cX7_pass 30 = .ok (.if_icmp .le 13, 3) := by decide +kernel
theorem dX7_pass_33 : decode cX7_pass 33 = .ok (.new 70, 3) := by decide +kernel
theorem dX7_pass_36 : decode cX7_pass 36 = .ok (.dup, 1) := by decide +kernel
theorem dX7_pass_37 : decode cX7_pass 37 = .ok (.ldc 204, 2) := by decide +kernel
theorem dX7_pass_39 : decode cX7_pass 39 = .ok (.invokespecial 74, 3) := by decide +kernel
theorem dX7_pass_42 : decode cX7_pass 42 = .ok (.athrow, 1) := by decide +kernel
theorem dX7_pass_43 : decode cX7_pass 43 = .ok (.iconst 0, 1) := by decide +kernel
theorem dX7_pass_44 : decode cX7_pass 44 = .ok (.istore_n 2, 1) := by decide +kernel
theorem dX7_pass_45 : decode cX7_pass 45 = .ok (.iload_n 2, 1) := by decide +kernel
theorem dX7_pass_46 : decode cX7_pass 46 = .ok (.iload_n 1, 1) := by decide +kernel
theorem dX7_pass_47 : decode cX7_pass 47 = .ok (.if_icmp .ge 13, 3) := by decide +kernel
theorem dX7_pass_50 : decode cX7_pass 50 = .ok (.aload_n 0, 1) := by decide +kernel
theorem dX7_pass_51 : decode cX7_pass 51 = .ok (.invokevirtual 206, 3) := by decide +kernel
theorem dX7_pass_54 : decode cX7_pass 54 = .ok (.iinc 2 1, 3) := by decide +kernel
theorem dX7_pass_57 : decode cX7_pass 57 = .ok (.goto (-12), 3) := by decide +kernel
theorem dX7_pass_60 : decode cX7_pass 60 = .ok (.aload_n 0, 1) := by decide +kernel
theorem dX7_pass_61 : decode cX7_pass 61 = .ok (.getfield 52, 3) := by decide +kernel
theorem dX7_pass_64 : decode cX7_pass 64 = .ok (.ireturn, 1) := by decide +kernel
theorem dX7_owes_0 : decode cX7_owes 0 = .ok (.aload_n 0, 1) := by decide +kernel
theorem dX7_owes_1 : decode cX7_owes 1 = .ok (.iload_n 1, 1) := by decide +kernel
theorem dX7_owes_2 : decode cX7_owes 2 = .ok (.invokevirtual 103, 3) := by decide +kernel
theorem dX7_owes_5 : decode cX7_owes 5 = .ok (.getfield 182, 3) := by decide +kernel
theorem dX7_owes_8 : decode cX7_owes 8 = .ok (.lreturn, 1) := by decide +kernel
theorem dX7_owesAnew_0 : decode cX7_owesAnew 0 = .ok (.aload_n 0, 1) := by decide +kernel
theorem dX7_owesAnew_1 : decode cX7_owesAnew 1 = .ok (.iload_n 1, 1) := by decide +kernel
theorem dX7_owesAnew_2 : decode cX7_owesAnew 2 = .ok (.invokevirtual 103, 3) := by decide +kernel
theorem dX7_owesAnew_5 : decode cX7_owesAnew 5 = .ok (.astore_n 2, 1) := by decide +kernel
theorem dX7_owesAnew_6 : decode cX7_owesAnew 6 = .ok (.aload_n 2, 1) := by decide +kernel
theorem dX7_owesAnew_7 : decode cX7_owesAnew 7 = .ok (.getfield 179, 3) := by decide +kernel
theorem dX7_owesAnew_10 : decode cX7_owesAnew 10 = .ok (.lneg, 1) := by decide +kernel
theorem dX7_owesAnew_11 : decode cX7_owesAnew 11 = .ok (.lstore_n 3, 1) := by decide +kernel
theorem dX7_owesAnew_12 : decode cX7_owesAnew 12 = .ok (.aload_n 0, 1) := by decide +kernel
theorem dX7_owesAnew_13 : decode cX7_owesAnew 13 = .ok (.invokevirtual 97, 3) := by decide +kernel
theorem dX7_owesAnew_16 : decode cX7_owesAnew 16 = .ok (.istore 5, 2) := by decide +kernel
theorem dX7_owesAnew_18 : decode cX7_owesAnew 18 = .ok (.iconst 0, 1) := by decide +kernel
theorem dX7_owesAnew_19 : decode cX7_owesAnew 19 = .ok (.istore 6, 2) := by decide +kernel
theorem dX7_owesAnew_21 : decode cX7_owesAnew 21 = .ok (.iload 6, 2) := by decide +kernel
theorem dX7_owesAnew_23 : decode cX7_owesAnew 23 = .ok (.iload 5, 2) := by decide +kernel
theorem dX7_owesAnew_25 : decode cX7_owesAnew 25 = .ok (.if_icmp .ge 46, 3) := by decide +kernel
theorem dX7_owesAnew_28 : decode cX7_owesAnew 28 = .ok (.aload_n 2, 1) := by decide +kernel
theorem dX7_owesAnew_29 : decode cX7_owesAnew 29 = .ok (.iload 6, 2) := by decide +kernel
theorem dX7_owesAnew_31 : decode cX7_owesAnew 31 = .ok (.invokevirtual 209, 3) := by decide +kernel
theorem dX7_owesAnew_34 : decode cX7_owesAnew 34 = .ok (.ifCond .eq 31, 3) := by decide +kernel
theorem dX7_owesAnew_37 : decode cX7_owesAnew 37 = .ok (.aload_n 0, 1) := by decide +kernel
theorem dX7_owesAnew_38 : decode cX7_owesAnew 38 = .ok (.iload 6, 2) := by decide +kernel
theorem dX7_owesAnew_40 : decode cX7_owesAnew 40 = .ok (.invokevirtual 213, 3) := by decide +kernel
theorem dX7_owesAnew_43 : decode cX7_owesAnew 43 = .ok (.aload_n 0, 1) := by decide +kernel
theorem dX7_owesAnew_44 : decode cX7_owesAnew 44 = .ok (.aload_n 2, 1) := by decide +kernel
theorem dX7_owesAnew_45 : decode cX7_owesAnew 45 = .ok (.iload 6, 2) := by decide +kernel
theorem dX7_owesAnew_47 : decode cX7_owesAnew 47 = .ok (.aload_n 0, 1) := by decide +kernel
theorem dX7_owesAnew_48 : decode cX7_owesAnew 48 = .ok (.getfield 44, 3) := by decide +kernel
theorem dX7_owesAnew_51 : decode cX7_owesAnew 51 = .ok (.invokevirtual 216, 3) := by decide +kernel
theorem dX7_owesAnew_54 : decode cX7_owesAnew 54 = .ok (.lload_n 3, 1) := by decide +kernel
theorem dX7_owesAnew_55 : decode cX7_owesAnew 55 = .ok (.aload_n 0, 1) := by decide +kernel
theorem dX7_owesAnew_56 : decode cX7_owesAnew 56 = .ok (.getfield 44, 3) := by decide +kernel
theorem dX7_owesAnew_59 : decode cX7_owesAnew 59 = .ok (.invokevirtual 220, 3) := by decide +kernel
theorem dX7_owesAnew_62 : decode cX7_owesAnew 62 = .ok (.i2l, 1) := by decide +kernel
theorem dX7_owesAnew_63 : decode cX7_owesAnew 63 = .ok (.ladd, 1) := by decide +kernel
theorem dX7_owesAnew_64 : decode cX7_owesAnew 64 = .ok (.lstore_n 3, 1) := by decide +kernel
theorem dX7_owesAnew_65 : decode cX7_owesAnew 65 = .ok (.iinc 6 1, 3) := by decide +kernel
theorem dX7_owesAnew_68 : decode cX7_owesAnew 68 = .ok (.goto (-47), 3) := by decide +kernel
theorem dX7_owesAnew_71 : decode cX7_owesAnew 71 = .ok (.lload_n 3, 1) := by decide +kernel
theorem dX7_owesAnew_72 : decode cX7_owesAnew 72 = .ok (.lreturn, 1) := by decide +kernel
theorem dX7_desk_0 : decode cX7_desk 0 = .ok (.aload_n 0, 1) := by decide +kernel
theorem dX7_desk_1 : decode cX7_desk 1 = .ok (.iload_n 1, 1) := by decide +kernel
theorem dX7_desk_2 : decode cX7_desk 2 = .ok (.invokevirtual 103, 3) := by decide +kernel
theorem dX7_desk_5 : decode cX7_desk 5 = .ok (.getfield 223, 3) := by decide +kernel
theorem dX7_desk_8 : decode cX7_desk 8 = .ok (.lreturn, 1) := by decide +kernel
theorem dX7_owner_0 : decode cX7_owner 0 = .ok (.aload_n 0, 1) := by decide +kernel
theorem dX7_owner_1 : decode cX7_owner 1 = .ok (.getfield 55, 3) := by decide +kernel
theorem dX7_owner_4 : decode cX7_owner 4 = .ok (.lreturn, 1) := by decide +kernel
theorem dX7_bill_0 : decode cX7_bill 0 = .ok (.aload_n 0, 1) := by decide +kernel
theorem dX7_bill_1 : decode cX7_bill 1 = .ok (.iload_n 1, 1) := by decide +kernel
theorem dX7_bill_2 : decode cX7_bill 2 = .ok (.invokevirtual 103, 3) := by decide +kernel
theorem dX7_bill_5 : decode cX7_bill 5 = .ok (.astore 4, 2) := by decide +kernel
theorem dX7_bill_7 : decode cX7_bill 7 = .ok (.aload_n 0, 1) := by decide +kernel
theorem dX7_bill_8 : decode cX7_bill 8 = .ok (.iload_n 2, 1) := by decide +kernel
theorem dX7_bill_9 : decode cX7_bill 9 = .ok (.invokevirtual 162, 3) := by decide +kernel
theorem dX7_bill_12 : decode cX7_bill 12 = .ok (.iload_n 3, 1) := by decide +kernel
theorem dX7_bill_13 : decode cX7_bill 13 = .ok (.ifCond .lt 8, 3) := by decide +kernel
theorem dX7_bill_16 : decode cX7_bill 16 = .ok (.iload_n 3, 1) := by decide +kernel
theorem dX7_bill_17 : decode cX7_bill 17 = .ok (.iconst 3, 1) := by decide +kernel
theorem dX7_bill_18 : decode cX7_bill 18 = .ok (.if_icmp .le 13, 3) := by decide +kernel
theorem dX7_bill_21 : decode cX7_bill 21 = .ok (.new 59, 3) := by decide +kernel
theorem dX7_bill_24 : decode cX7_bill 24 = .ok (.dup, 1) := by decide +kernel
theorem dX7_bill_25 : decode cX7_bill 25 = .ok (.ldc 226, 2) := by decide +kernel
theorem dX7_bill_27 : decode cX7_bill 27 = .ok (.invokespecial 63, 3) := by decide +kernel
theorem dX7_bill_30 : decode cX7_bill 30 = .ok (.athrow, 1) := by decide +kernel
theorem dX7_bill_31 : decode cX7_bill 31 = .ok (.aload 4, 2) := by decide +kernel
theorem dX7_bill_33 : decode cX7_bill 33 = .ok (.iload_n 2, 1) := by decide +kernel
theorem dX7_bill_34 : decode cX7_bill 34 = .ok (.invokevirtual 228, 3) := by decide +kernel
theorem dX7_bill_37 : decode cX7_bill 37 = .ok (.astore 5, 2) := by decide +kernel
theorem dX7_bill_39 : decode cX7_bill 39 = .ok (.aload 5, 2) := by decide +kernel
theorem dX7_bill_41 : decode cX7_bill 41 = .ok (.ifnonnull 9, 3) := by decide +kernel
theorem dX7_bill_44 : decode cX7_bill 44 = .ok (.ldc2_w 232, 3) := by decide +kernel
theorem dX7_bill_47 : decode cX7_bill 47 = .ok (.goto 10, 3) := by decide +kernel
theorem dX7_bill_50 : decode cX7_bill 50 = .ok (.aload 5, 2) := by decide +kernel
theorem dX7_bill_52 : decode cX7_bill 52 = .ok (.iload_n 3, 1) := by decide +kernel
theorem dX7_bill_53 : decode cX7_bill 53 = .ok (.invokevirtual 234, 3) := by decide +kernel
theorem dX7_bill_56 : decode cX7_bill 56 = .ok (.i2l, 1) := by decide +kernel
theorem dX7_bill_57 : decode cX7_bill 57 = .ok (.lreturn, 1) := by decide +kernel
theorem dX7_line_0 : decode cX7_line 0 = .ok (.aload_n 0, 1) := by decide +kernel
theorem dX7_line_1 : decode cX7_line 1 = .ok (.iload_n 1, 1) := by decide +kernel
theorem dX7_line_2 : decode cX7_line 2 = .ok (.invokevirtual 103, 3) := by decide +kernel
theorem dX7_line_5 : decode cX7_line 5 = .ok (.astore 4, 2) := by decide +kernel
theorem dX7_line_7 : decode cX7_line 7 = .ok (.aload_n 0, 1) := by decide +kernel
theorem dX7_line_8 : decode cX7_line 8 = .ok (.iload_n 2, 1) := by decide +kernel
theorem dX7_line_9 : decode cX7_line 9 = .ok (.invokevirtual 162, 3) := by decide +kernel
theorem dX7_line_12 : decode cX7_line 12 = .ok (.iload_n 3, 1) := by decide +kernel
theorem dX7_line_13 : decode cX7_line 13 = .ok (.ifCond .ge 13, 3) := by decide +kernel
theorem dX7_line_16 : decode cX7_line 16 = .ok (.new 144, 3) := by decide +kernel
theorem dX7_line_19 : decode cX7_line 19 = .ok (.dup, 1) := by decide +kernel
theorem dX7_line_20 : decode cX7_line 20 = .ok (.ldc 237, 2) := by decide +kernel
theorem dX7_line_22 : decode cX7_line 22 = .ok (.invokespecial 148, 3) := by decide +kernel
theorem dX7_line_25 : decode cX7_line 25 = .ok (.athrow, 1) := by decide +kernel
theorem dX7_line_26 : decode cX7_line 26 = .ok (.aload 4, 2) := by decide +kernel
theorem dX7_line_28 : decode cX7_line 28 = .ok (.iload_n 2, 1) := by decide +kernel
theorem dX7_line_29 : decode cX7_line 29 = .ok (.invokevirtual 228, 3) := by decide +kernel
theorem dX7_line_32 : decode cX7_line 32 = .ok (.astore 5, 2) := by decide +kernel
theorem dX7_line_34 : decode cX7_line 34 = .ok (.aload 5, 2) := by decide +kernel
theorem dX7_line_36 : decode cX7_line 36 = .ok (.ifnonnull 6, 3) := by decide +kernel
theorem dX7_line_39 : decode cX7_line 39 = .ok (.bipush 32, 2) := by decide +kernel
theorem dX7_line_41 : decode cX7_line 41 = .ok (.ireturn, 1) := by decide +kernel
theorem dX7_line_42 : decode cX7_line 42 = .ok (.aload_n 0, 1) := by decide +kernel
theorem dX7_line_43 : decode cX7_line 43 = .ok (.getfield 37, 3) := by decide +kernel
theorem dX7_line_46 : decode cX7_line 46 = .ok (.iconst 0, 1) := by decide +kernel
theorem dX7_line_47 : decode cX7_line 47 = .ok (.invokevirtual 239, 3) := by decide +kernel
theorem dX7_line_50 : decode cX7_line 50 = .ok (.aload_n 0, 1) := by decide +kernel
theorem dX7_line_51 : decode cX7_line 51 = .ok (.getfield 37, 3) := by decide +kernel
theorem dX7_line_54 : decode cX7_line 54 = .ok (.iload_n 1, 1) := by decide +kernel
theorem dX7_line_55 : decode cX7_line 55 = .ok (.iload_n 2, 1) := by decide +kernel
theorem dX7_line_56 : decode cX7_line 56 = .ok (.aload 5, 2) := by decide +kernel
theorem dX7_line_58 : decode cX7_line 58 = .ok (.invokestatic 242, 3) := by decide +kernel
theorem dX7_line_61 : decode cX7_line 61 = .ok (.iload_n 3, 1) := by decide +kernel
theorem dX7_line_62 : decode cX7_line 62 = .ok (.aload_n 0, 1) := by decide +kernel
theorem dX7_line_63 : decode cX7_line 63 = .ok (.getfield 37, 3) := by decide +kernel
theorem dX7_line_66 : decode cX7_line 66 = .ok (.invokevirtual 246, 3) := by decide +kernel
theorem dX7_line_69 : decode cX7_line 69 = .ok (.if_icmp .ge 14, 3) := by decide +kernel
theorem dX7_line_72 : decode cX7_line 72 = .ok (.aload_n 0, 1) := by decide +kernel
theorem dX7_line_73 : decode cX7_line 73 = .ok (.getfield 37, 3) := by decide +kernel
theorem dX7_line_76 : decode cX7_line 76 = .ok (.iload_n 3, 1) := by decide +kernel
theorem dX7_line_77 : decode cX7_line 77 = .ok (.invokevirtual 249, 3) := by decide +kernel
theorem dX7_line_80 : decode cX7_line 80 = .ok (.goto 5, 3) := by decide +kernel
theorem dX7_line_83 : decode cX7_line 83 = .ok (.bipush 32, 2) := by decide +kernel
theorem dX7_line_85 : decode cX7_line 85 = .ok (.ireturn, 1) := by decide +kernel
theorem dX7_use_0 : decode cX7_use 0 = .ok (.aload_n 0, 1) := by decide +kernel
theorem dX7_use_1 : decode cX7_use 1 = .ok (.iload_n 1, 1) := by decide +kernel
theorem dX7_use_2 : decode cX7_use 2 = .ok (.invokevirtual 82, 3) := by decide +kernel
theorem dX7_use_5 : decode cX7_use 5 = .ok (.astore_n 3, 1) := by decide +kernel
theorem dX7_use_6 : decode cX7_use 6 = .ok (.aload_n 0, 1) := by decide +kernel
theorem dX7_use_7 : decode cX7_use 7 = .ok (.iload_n 2, 1) := by decide +kernel
theorem dX7_use_8 : decode cX7_use 8 = .ok (.invokevirtual 162, 3) := by decide +kernel
theorem dX7_use_11 : decode cX7_use 11 = .ok (.aload_n 3, 1) := by decide +kernel
theorem dX7_use_12 : decode cX7_use 12 = .ok (.getfield 253, 3) := by decide +kernel
theorem dX7_use_15 : decode cX7_use 15 = .ok (.iload_n 2, 1) := by decide +kernel
theorem dX7_use_16 : decode cX7_use 16 = .ok (.invokevirtual 114, 3) := by decide +kernel
theorem dX7_use_19 : decode cX7_use 19 = .ok (.ireturn, 1) := by decide +kernel
theorem dX7_points_0 : decode cX7_points 0 = .ok (.aload_n 0, 1) := by decide +kernel
theorem dX7_points_1 : decode cX7_points 1 = .ok (.iload_n 1, 1) := by decide +kernel
theorem dX7_points_2 : decode cX7_points 2 = .ok (.invokevirtual 82, 3) := by decide +kernel
theorem dX7_points_5 : decode cX7_points 5 = .ok (.getfield 256, 3) := by decide +kernel
theorem dX7_points_8 : decode cX7_points 8 = .ok (.aload_n 0, 1) := by decide +kernel
theorem dX7_points_9 : decode cX7_points 9 = .ok (.invokevirtual 97, 3) := by decide +kernel
theorem dX7_points_12 : decode cX7_points 12 = .ok (.invokevirtual 114, 3) := by decide +kernel
theorem dX7_points_15 : decode cX7_points 15 = .ok (.ireturn, 1) := by decide +kernel
theorem dX7_planOf_0 : decode cX7_planOf 0 = .ok (.aload_n 0, 1) := by decide +kernel
theorem dX7_planOf_1 : decode cX7_planOf 1 = .ok (.iload_n 1, 1) := by decide +kernel
theorem dX7_planOf_2 : decode cX7_planOf 2 = .ok (.invokevirtual 103, 3) := by decide +kernel
theorem dX7_planOf_5 : decode cX7_planOf 5 = .ok (.getfield 187, 3) := by decide +kernel
theorem dX7_planOf_8 : decode cX7_planOf 8 = .ok (.getfield 191, 3) := by decide +kernel
theorem dX7_planOf_11 : decode cX7_planOf 11 = .ok (.ireturn, 1) := by decide +kernel
theorem dX7_flatAt_0 : decode cX7_flatAt 0 = .ok (.iload_n 1, 1) := by decide +kernel
theorem dX7_flatAt_1 : decode cX7_flatAt 1 = .ok (.ifCond .lt 14, 3) := by decide +kernel
theorem dX7_flatAt_4 : decode cX7_flatAt 4 = .ok (.iload_n 1, 1) := by decide +kernel
theorem dX7_flatAt_5 : decode cX7_flatAt 5 = .ok (.aload_n 0, 1) := by decide +kernel
theorem dX7_flatAt_6 : decode cX7_flatAt 6 = .ok (.getfield 10, 3) := by decide +kernel
theorem dX7_flatAt_9 : decode cX7_flatAt 9 = .ok (.invokevirtual 66, 3) := by decide +kernel
theorem dX7_flatAt_12 : decode cX7_flatAt 12 = .ok (.if_icmp .lt 14, 3) := by decide +kernel
theorem dX7_flatAt_15 : decode cX7_flatAt 15 = .ok (.new 144, 3) := by decide +kernel
theorem dX7_flatAt_18 : decode cX7_flatAt 18 = .ok (.dup, 1) := by decide +kernel
theorem dX7_flatAt_19 : decode cX7_flatAt 19 = .ok (.ldc_w 259, 3) := by decide +kernel
theorem dX7_flatAt_22 : decode cX7_flatAt 22 = .ok (.invokespecial 148, 3) := by decide +kernel
theorem dX7_flatAt_25 : decode cX7_flatAt 25 = .ok (.athrow, 1) := by decide +kernel
theorem dX7_flatAt_26 : decode cX7_flatAt 26 = .ok (.aload_n 0, 1) := by decide +kernel
theorem dX7_flatAt_27 : decode cX7_flatAt 27 = .ok (.getfield 10, 3) := by decide +kernel
theorem dX7_flatAt_30 : decode cX7_flatAt 30 = .ok (.iload_n 1, 1) := by decide +kernel
theorem dX7_flatAt_31 : decode cX7_flatAt 31 = .ok (.invokevirtual 149, 3) := by decide +kernel
theorem dX7_flatAt_34 : decode cX7_flatAt 34 = .ok (.checkcast 75, 3) := by decide +kernel
theorem dX7_flatAt_37 : decode cX7_flatAt 37 = .ok (.areturn, 1) := by decide +kernel
theorem dX7_leaseAt_0 : decode cX7_leaseAt 0 = .ok (.iload_n 1, 1) := by decide +kernel
theorem dX7_leaseAt_1 : decode cX7_leaseAt 1 = .ok (.ifCond .lt 14, 3) := by decide +kernel
theorem dX7_leaseAt_4 : decode cX7_leaseAt 4 = .ok (.iload_n 1, 1) := by decide +kernel
theorem dX7_leaseAt_5 : decode cX7_leaseAt 5 = .ok (.aload_n 0, 1) := by decide +kernel
theorem dX7_leaseAt_6 : decode cX7_leaseAt 6 = .ok (.getfield 16, 3) := by decide +kernel
theorem dX7_leaseAt_9 : decode cX7_leaseAt 9 = .ok (.invokevirtual 66, 3) := by decide +kernel
theorem dX7_leaseAt_12 : decode cX7_leaseAt 12 = .ok (.if_icmp .lt 14, 3) := by decide +kernel
theorem dX7_leaseAt_15 : decode cX7_leaseAt 15 = .ok (.new 144, 3) := by decide +kernel
theorem dX7_leaseAt_18 : decode cX7_leaseAt 18 = .ok (.dup, 1) := by decide +kernel
theorem dX7_leaseAt_19 : decode cX7_leaseAt 19 = .ok (.ldc_w 261, 3) := by decide +kernel
theorem dX7_leaseAt_22 : decode cX7_leaseAt 22 = .ok (.invokespecial 148, 3) := by decide +kernel
theorem dX7_leaseAt_25 : decode cX7_leaseAt 25 = .ok (.athrow, 1) := by decide +kernel
theorem dX7_leaseAt_26 : decode cX7_leaseAt 26 = .ok (.aload_n 0, 1) := by decide +kernel
theorem dX7_leaseAt_27 : decode cX7_leaseAt 27 = .ok (.getfield 16, 3) := by decide +kernel
theorem dX7_leaseAt_30 : decode cX7_leaseAt 30 = .ok (.iload_n 1, 1) := by decide +kernel
theorem dX7_leaseAt_31 : decode cX7_leaseAt 31 = .ok (.invokevirtual 149, 3) := by decide +kernel
theorem dX7_leaseAt_34 : decode cX7_leaseAt 34 = .ok (.checkcast 95, 3) := by decide +kernel
theorem dX7_leaseAt_37 : decode cX7_leaseAt 37 = .ok (.areturn, 1) := by decide +kernel
theorem dX7_needMonth_0 : decode cX7_needMonth 0 = .ok (.iload_n 1, 1) := by decide +kernel
theorem dX7_needMonth_1 : decode cX7_needMonth 1 = .ok (.ifCond .lt 11, 3) := by decide +kernel
theorem dX7_needMonth_4 : decode cX7_needMonth 4 = .ok (.iload_n 1, 1) := by decide +kernel
theorem dX7_needMonth_5 : decode cX7_needMonth 5 = .ok (.aload_n 0, 1) := by decide +kernel
theorem dX7_needMonth_6 : decode cX7_needMonth 6 = .ok (.invokevirtual 97, 3) := by decide +kernel
theorem dX7_needMonth_9 : decode cX7_needMonth 9 = .ok (.if_icmp .le 14, 3) := by decide +kernel
theorem dX7_needMonth_12 : decode cX7_needMonth 12 = .ok (.new 144, 3) := by decide +kernel
theorem dX7_needMonth_15 : decode cX7_needMonth 15 = .ok (.dup, 1) := by decide +kernel
theorem dX7_needMonth_16 : decode cX7_needMonth 16 = .ok (.ldc_w 263, 3) := by decide +kernel
theorem dX7_needMonth_19 : decode cX7_needMonth 19 = .ok (.invokespecial 148, 3) := by decide +kernel
theorem dX7_needMonth_22 : decode cX7_needMonth 22 = .ok (.athrow, 1) := by decide +kernel
theorem dX7_needMonth_23 : decode cX7_needMonth 23 = .ok (.return_, 1) := by decide +kernel
theorem dX7_monthNow_0 : decode cX7_monthNow 0 = .ok (.aload_n 0, 1) := by decide +kernel
theorem dX7_monthNow_1 : decode cX7_monthNow 1 = .ok (.getfield 52, 3) := by decide +kernel
theorem dX7_monthNow_4 : decode cX7_monthNow 4 = .ok (.bipush 30, 2) := by decide +kernel
theorem dX7_monthNow_6 : decode cX7_monthNow 6 = .ok (.idiv, 1) := by decide +kernel
theorem dX7_monthNow_7 : decode cX7_monthNow 7 = .ok (.ireturn, 1) := by decide +kernel
theorem dX7_isLetOn_0 : decode cX7_isLetOn 0 = .ok (.iconst 0, 1) := by decide +kernel
theorem dX7_isLetOn_1 : decode cX7_isLetOn 1 = .ok (.istore_n 2, 1) := by decide +kernel
theorem dX7_isLetOn_2 : decode cX7_isLetOn 2 = .ok (.iload_n 2, 1) := by decide +kernel
theorem dX7_isLetOn_3 : decode cX7_isLetOn 3 = .ok (.aload_n 0, 1) := by decide +kernel
theorem dX7_isLetOn_4 : decode cX7_isLetOn 4 = .ok (.getfield 16, 3) := by decide +kernel
theorem dX7_isLetOn_7 : decode cX7_isLetOn 7 = .ok (.invokevirtual 66, 3) := by decide +kernel
theorem dX7_isLetOn_10 : decode cX7_isLetOn 10 = .ok (.if_icmp .ge 39, 3) := by decide +kernel
theorem dX7_isLetOn_13 : decode cX7_isLetOn 13 = .ok (.aload_n 0, 1) := by decide +kernel
theorem dX7_isLetOn_14 : decode cX7_isLetOn 14 = .ok (.getfield 16, 3) := by decide +kernel
theorem dX7_isLetOn_17 : decode cX7_isLetOn 17 = .ok (.iload_n 2, 1) := by decide +kernel
theorem dX7_isLetOn_18 : decode cX7_isLetOn 18 = .ok (.invokevirtual 149, 3) := by decide +kernel
theorem dX7_isLetOn_21 : decode cX7_isLetOn 21 = .ok (.checkcast 95, 3) := by decide +kernel
theorem dX7_isLetOn_24 : decode cX7_isLetOn 24 = .ok (.astore_n 3, 1) := by decide +kernel
theorem dX7_isLetOn_25 : decode cX7_isLetOn 25 = .ok (.aload_n 3, 1) := by decide +kernel
theorem dX7_isLetOn_26 : decode cX7_isLetOn 26 = .ok (.getfield 265, 3) := by decide +kernel
theorem dX7_isLetOn_29 : decode cX7_isLetOn 29 = .ok (.aload_n 1, 1) := by decide +kernel
theorem dX7_isLetOn_30 : decode cX7_isLetOn 30 = .ok (.if_acmp .ne 13, 3) := by decide +kernel
theorem dX7_isLetOn_33 : decode cX7_isLetOn 33 = .ok (.aload_n 3, 1) := by decide +kernel
theorem dX7_isLetOn_34 : decode cX7_isLetOn 34 = .ok (.getfield 107, 3) := by decide +kernel
theorem dX7_isLetOn_37 : decode cX7_isLetOn 37 = .ok (.iconst (-1), 1) := by decide +kernel
theorem dX7_isLetOn_38 : decode cX7_isLetOn 38 = .ok (.if_icmp .ne 5, 3) := by decide +kernel
theorem dX7_isLetOn_41 : decode cX7_isLetOn 41 = .ok (.iconst 1, 1) := by decide +kernel
theorem dX7_isLetOn_42 : decode cX7_isLetOn 42 = .ok (.ireturn, 1) := by decide +kernel
theorem dX7_isLetOn_43 : decode cX7_isLetOn 43 = .ok (.iinc 2 1, 3) := by decide +kernel
theorem dX7_isLetOn_46 : decode cX7_isLetOn 46 = .ok (.goto (-44), 3) := by decide +kernel
theorem dX7_isLetOn_49 : decode cX7_isLetOn 49 = .ok (.iconst 0, 1) := by decide +kernel
theorem dX7_isLetOn_50 : decode cX7_isLetOn 50 = .ok (.ireturn, 1) := by decide +kernel
theorem dX7_postToTenant_0 : decode cX7_postToTenant 0 = .ok (.aload_n 1, 1) := by decide +kernel
theorem dX7_postToTenant_1 : decode cX7_postToTenant 1 = .ok (.dup, 1) := by decide +kernel
theorem dX7_postToTenant_2 : decode cX7_postToTenant 2 = .ok (.getfield 182, 3) := by decide +kernel
theorem dX7_postToTenant_5 : decode cX7_postToTenant 5 = .ok (.lload_n 2, 1) := by decide +kernel
theorem dX7_postToTenant_6 : decode cX7_postToTenant 6 = .ok (.ladd, 1) := by decide +kernel
theorem dX7_postToTenant_7 : decode cX7_postToTenant 7 = .ok (.putfield 182, 3) := by decide +kernel
theorem dX7_postToTenant_10 : decode cX7_postToTenant 10 = .ok (.aload_n 0, 1) := by decide +kernel
theorem dX7_postToTenant_11 : decode cX7_postToTenant 11 = .ok (.dup, 1) := by decide +kernel
theorem dX7_postToTenant_12 : decode cX7_postToTenant 12 = .ok (.getfield 55, 3) := by decide +kernel
theorem dX7_postToTenant_15 : decode cX7_postToTenant 15 = .ok (.lload_n 2, 1) := by decide +kernel
theorem dX7_postToTenant_16 : decode cX7_postToTenant 16 = .ok (.lsub, 1) := by decide +kernel
theorem dX7_postToTenant_17 : decode cX7_postToTenant 17 = .ok (.putfield 55, 3) := by decide +kernel
theorem dX7_postToTenant_20 : decode cX7_postToTenant 20 = .ok (.return_, 1) := by decide +kernel
theorem dX7_postToDesk_0 : decode cX7_postToDesk 0 = .ok (.aload_n 1, 1) := by decide +kernel
theorem dX7_postToDesk_1 : decode cX7_postToDesk 1 = .ok (.dup, 1) := by decide +kernel
theorem dX7_postToDesk_2 : decode cX7_postToDesk 2 = .ok (.getfield 223, 3) := by decide +kernel
theorem dX7_postToDesk_5 : decode cX7_postToDesk 5 = .ok (.lload_n 2, 1) := by decide +kernel
theorem dX7_postToDesk_6 : decode cX7_postToDesk 6 = .ok (.ladd, 1) := by decide +kernel
theorem dX7_postToDesk_7 : decode cX7_postToDesk 7 = .ok (.putfield 223, 3) := by decide +kernel
theorem dX7_postToDesk_10 : decode cX7_postToDesk 10 = .ok (.aload_n 0, 1) := by decide +kernel
theorem dX7_postToDesk_11 : decode cX7_postToDesk 11 = .ok (.dup, 1) := by decide +kernel
theorem dX7_postToDesk_12 : decode cX7_postToDesk 12 = .ok (.getfield 55, 3) := by decide +kernel
theorem dX7_postToDesk_15 : decode cX7_postToDesk 15 = .ok (.lload_n 2, 1) := by decide +kernel
theorem dX7_postToDesk_16 : decode cX7_postToDesk 16 = .ok (.lsub, 1) := by decide +kernel
theorem dX7_postToDesk_17 : decode cX7_postToDesk 17 = .ok (.putfield 55, 3) := by decide +kernel
theorem dX7_postToDesk_20 : decode cX7_postToDesk 20 = .ok (.return_, 1) := by decide +kernel
theorem dX7_endDay_0 : decode cX7_endDay 0 = .ok (.aload_n 0, 1) := by decide +kernel
theorem dX7_endDay_1 : decode cX7_endDay 1 = .ok (.invokevirtual 97, 3) := by decide +kernel
theorem dX7_endDay_4 : decode cX7_endDay 4 = .ok (.istore_n 1, 1) := by decide +kernel
theorem dX7_endDay_5 : decode cX7_endDay 5 = .ok (.iconst 0, 1) := by decide +kernel
theorem dX7_endDay_6 : decode cX7_endDay 6 = .ok (.istore_n 2, 1) := by decide +kernel
theorem dX7_endDay_7 : decode cX7_endDay 7 = .ok (.iload_n 2, 1) := by decide +kernel
theorem dX7_endDay_8 : decode cX7_endDay 8 = .ok (.aload_n 0, 1) := by decide +kernel
theorem dX7_endDay_9 : decode cX7_endDay 9 = .ok (.getfield 19, 3) := by decide +kernel
theorem dX7_endDay_12 : decode cX7_endDay 12 = .ok (.invokevirtual 66, 3) := by decide +kernel
theorem dX7_endDay_15 : decode cX7_endDay 15 = .ok (.if_icmp .ge 28, 3) := by decide +kernel
theorem dX7_endDay_18 : decode cX7_endDay 18 = .ok (.aload_n 0, 1) := by decide +kernel
theorem dX7_endDay_19 : decode cX7_endDay 19 = .ok (.getfield 19, 3) := by decide +kernel
theorem dX7_endDay_22 : decode cX7_endDay 22 = .ok (.iload_n 2, 1) := by decide +kernel
theorem dX7_endDay_23 : decode cX7_endDay 23 = .ok (.invokevirtual 149, 3) := by decide +kernel
theorem dX7_endDay_26 : decode cX7_endDay 26 = .ok (.checkcast 141, 3) := by decide +kernel
theorem dX7_endDay_29 : decode cX7_endDay 29 = .ok (.aload_n 0, 1) := by decide +kernel
theorem dX7_endDay_30 : decode cX7_endDay 30 = .ok (.getfield 52, 3) := by decide +kernel
theorem dX7_endDay_33 : decode cX7_endDay 33 = .ok (.iload_n 1, 1) := by decide +kernel
theorem dX7_endDay_34 : decode cX7_endDay 34 = .ok (.invokevirtual 269, 3) := by decide +kernel
theorem dX7_endDay_37 : decode cX7_endDay 37 = .ok (.iinc 2 1, 3) := by decide +kernel
theorem dX7_endDay_40 : decode cX7_endDay 40 = .ok (.goto (-33), 3) := by decide +kernel
theorem dX7_endDay_43 : decode cX7_endDay 43 = .ok (.aload_n 0, 1) := by decide +kernel
theorem dX7_endDay_44 : decode cX7_endDay 44 = .ok (.dup, 1) := by decide +kernel
theorem dX7_endDay_45 : decode cX7_endDay 45 = .ok (.getfield 52, 3) := by decide +kernel
theorem dX7_endDay_48 : decode cX7_endDay 48 = .ok (.iconst 1, 1) := by decide +kernel
theorem dX7_endDay_49 : decode cX7_endDay 49 = .ok (.iadd, 1) := by decide +kernel
theorem dX7_endDay_50 : decode cX7_endDay 50 = .ok (.putfield 52, 3) := by decide +kernel
theorem dX7_endDay_53 : decode cX7_endDay 53 = .ok (.aload_n 0, 1) := by decide +kernel
theorem dX7_endDay_54 : decode cX7_endDay 54 = .ok (.invokevirtual 97, 3) := by decide +kernel
theorem dX7_endDay_57 : decode cX7_endDay 57 = .ok (.iload_n 1, 1) := by decide +kernel
theorem dX7_endDay_58 : decode cX7_endDay 58 = .ok (.if_icmp .le 15, 3) := by decide +kernel
theorem dX7_endDay_61 : decode cX7_endDay 61 = .ok (.aload_n 0, 1) := by decide +kernel
theorem dX7_endDay_62 : decode cX7_endDay 62 = .ok (.iload_n 1, 1) := by decide +kernel
theorem dX7_endDay_63 : decode cX7_endDay 63 = .ok (.invokevirtual 272, 3) := by decide +kernel
theorem dX7_endDay_66 : decode cX7_endDay 66 = .ok (.aload_n 0, 1) := by decide +kernel
theorem dX7_endDay_67 : decode cX7_endDay 67 = .ok (.iload_n 1, 1) := by decide +kernel
theorem dX7_endDay_68 : decode cX7_endDay 68 = .ok (.iconst 1, 1) := by decide +kernel
theorem dX7_endDay_69 : decode cX7_endDay 69 = .ok (.iadd, 1) := by decide +kernel
theorem dX7_endDay_70 : decode cX7_endDay 70 = .ok (.invokevirtual 275, 3) := by decide +kernel
theorem dX7_endDay_73 : decode cX7_endDay 73 = .ok (.return_, 1) := by decide +kernel
theorem dX7_endMonth_0 : decode cX7_endMonth 0 = .ok (.iconst 0, 1) := by decide +kernel
theorem dX7_endMonth_1 : decode cX7_endMonth 1 = .ok (.istore_n 2, 1) := by decide +kernel
theorem dX7_endMonth_2 : decode cX7_endMonth 2 = .ok (.iload_n 2, 1) := by decide +kernel
theorem dX7_endMonth_3 : decode cX7_endMonth 3 = .ok (.aload_n 0, 1) := by decide +kernel
theorem dX7_endMonth_4 : decode cX7_endMonth 4 = .ok (.getfield 10, 3) := by decide +kernel
theorem dX7_endMonth_7 : decode cX7_endMonth 7 = .ok (.invokevirtual 66, 3) := by decide +kernel
theorem dX7_endMonth_10 : decode cX7_endMonth 10 = .ok (.if_icmp .ge 24, 3) := by decide +kernel
theorem dX7_endMonth_13 : decode cX7_endMonth 13 = .ok (.aload_n 0, 1) := by decide +kernel
theorem dX7_endMonth_14 : decode cX7_endMonth 14 = .ok (.getfield 10, 3) := by decide +kernel
theorem dX7_endMonth_17 : decode cX7_endMonth 17 = .ok (.iload_n 2, 1) := by decide +kernel
theorem dX7_endMonth_18 : decode cX7_endMonth 18 = .ok (.invokevirtual 149, 3) := by decide +kernel
theorem dX7_endMonth_21 : decode cX7_endMonth 21 = .ok (.checkcast 75, 3) := by decide +kernel
theorem dX7_endMonth_24 : decode cX7_endMonth 24 = .ok (.iload_n 1, 1) := by decide +kernel
theorem dX7_endMonth_25 : decode cX7_endMonth 25 = .ok (.invokevirtual 278, 3) := by decide +kernel
theorem dX7_endMonth_28 : decode cX7_endMonth 28 = .ok (.iinc 2 1, 3) := by decide +kernel
theorem dX7_endMonth_31 : decode cX7_endMonth 31 = .ok (.goto (-29), 3) := by decide +kernel
theorem dX7_endMonth_34 : decode cX7_endMonth 34 = .ok (.aload_n 0, 1) := by decide +kernel
theorem dX7_endMonth_35 : decode cX7_endMonth 35 = .ok (.iload_n 1, 1) := by decide +kernel
theorem dX7_endMonth_36 : decode cX7_endMonth 36 = .ok (.invokevirtual 213, 3) := by decide +kernel
theorem dX7_endMonth_39 : decode cX7_endMonth 39 = .ok (.iconst 0, 1) := by decide +kernel
theorem dX7_endMonth_40 : decode cX7_endMonth 40 = .ok (.istore_n 2, 1) := by decide +kernel
theorem dX7_endMonth_41 : decode cX7_endMonth 41 = .ok (.iload_n 2, 1) := by decide +kernel
theorem dX7_endMonth_42 : decode cX7_endMonth 42 = .ok (.aload_n 0, 1) := by decide +kernel
theorem dX7_endMonth_43 : decode cX7_endMonth 43 = .ok (.getfield 16, 3) := by decide +kernel
theorem dX7_endMonth_46 : decode cX7_endMonth 46 = .ok (.invokevirtual 66, 3) := by decide +kernel
theorem dX7_endMonth_49 : decode cX7_endMonth 49 = .ok (.if_icmp .ge 46, 3) := by decide +kernel
theorem dX7_endMonth_52 : decode cX7_endMonth 52 = .ok (.aload_n 0, 1) := by decide +kernel
theorem dX7_endMonth_53 : decode cX7_endMonth 53 = .ok (.getfield 16, 3) := by decide +kernel
theorem dX7_endMonth_56 : decode cX7_endMonth 56 = .ok (.iload_n 2, 1) := by decide +kernel
theorem dX7_endMonth_57 : decode cX7_endMonth 57 = .ok (.invokevirtual 149, 3) := by decide +kernel
theorem dX7_endMonth_60 : decode cX7_endMonth 60 = .ok (.checkcast 95, 3) := by decide +kernel
theorem dX7_endMonth_63 : decode cX7_endMonth 63 = .ok (.astore_n 3, 1) := by decide +kernel
theorem dX7_endMonth_64 : decode cX7_endMonth 64 = .ok (.aload_n 3, 1) := by decide +kernel
theorem dX7_endMonth_65 : decode cX7_endMonth 65 = .ok (.getfield 187, 3) := by decide +kernel
theorem dX7_endMonth_68 : decode cX7_endMonth 68 = .ok (.aload_n 3, 1) := by decide +kernel
theorem dX7_endMonth_69 : decode cX7_endMonth 69 = .ok (.getfield 182, 3) := by decide +kernel
theorem dX7_endMonth_72 : decode cX7_endMonth 72 = .ok (.invokevirtual 281, 3) := by decide +kernel
theorem dX7_endMonth_75 : decode cX7_endMonth 75 = .ok (.aload_n 3, 1) := by decide +kernel
theorem dX7_endMonth_76 : decode cX7_endMonth 76 = .ok (.iload_n 1, 1) := by decide +kernel
theorem dX7_endMonth_77 : decode cX7_endMonth 77 = .ok (.invokevirtual 209, 3) := by decide +kernel
theorem dX7_endMonth_80 : decode cX7_endMonth 80 = .ok (.ifCond .eq 9, 3) := by decide +kernel
theorem dX7_endMonth_83 : decode cX7_endMonth 83 = .ok (.aload_n 0, 1) := by decide +kernel
theorem dX7_endMonth_84 : decode cX7_endMonth 84 = .ok (.aload_n 3, 1) := by decide +kernel
theorem dX7_endMonth_85 : decode cX7_endMonth 85 = .ok (.iload_n 1, 1) := by decide +kernel
theorem dX7_endMonth_86 : decode cX7_endMonth 86 = .ok (.invokevirtual 284, 3) := by decide +kernel
theorem dX7_endMonth_89 : decode cX7_endMonth 89 = .ok (.iinc 2 1, 3) := by decide +kernel
theorem dX7_endMonth_92 : decode cX7_endMonth 92 = .ok (.goto (-51), 3) := by decide +kernel
theorem dX7_endMonth_95 : decode cX7_endMonth 95 = .ok (.return_, 1) := by decide +kernel
theorem dX7_makeBill_0 : decode cX7_makeBill 0 = .ok (.new 41, 3) := by decide +kernel
theorem dX7_makeBill_3 : decode cX7_makeBill 3 = .ok (.dup, 1) := by decide +kernel
theorem dX7_makeBill_4 : decode cX7_makeBill 4 = .ok (.invokespecial 43, 3) := by decide +kernel
theorem dX7_makeBill_7 : decode cX7_makeBill 7 = .ok (.astore_n 3, 1) := by decide +kernel
theorem dX7_makeBill_8 : decode cX7_makeBill 8 = .ok (.aload_n 0, 1) := by decide +kernel
theorem dX7_makeBill_9 : decode cX7_makeBill 9 = .ok (.aload_n 1, 1) := by decide +kernel
theorem dX7_makeBill_10 : decode cX7_makeBill 10 = .ok (.iload_n 2, 1) := by decide +kernel
theorem dX7_makeBill_11 : decode cX7_makeBill 11 = .ok (.aload_n 3, 1) := by decide +kernel
theorem dX7_makeBill_12 : decode cX7_makeBill 12 = .ok (.invokevirtual 216, 3) := by decide +kernel
theorem dX7_makeBill_15 : decode cX7_makeBill 15 = .ok (.aload_n 1, 1) := by decide +kernel
theorem dX7_makeBill_16 : decode cX7_makeBill 16 = .ok (.iload_n 2, 1) := by decide +kernel
theorem dX7_makeBill_17 : decode cX7_makeBill 17 = .ok (.aload_n 3, 1) := by decide +kernel
theorem dX7_makeBill_18 : decode cX7_makeBill 18 = .ok (.invokevirtual 288, 3) := by decide +kernel
theorem dX7_makeBill_21 : decode cX7_makeBill 21 = .ok (.aload_n 0, 1) := by decide +kernel
theorem dX7_makeBill_22 : decode cX7_makeBill 22 = .ok (.aload_n 1, 1) := by decide +kernel
theorem dX7_makeBill_23 : decode cX7_makeBill 23 = .ok (.aload_n 3, 1) := by decide +kernel
theorem dX7_makeBill_24 : decode cX7_makeBill 24 = .ok (.invokevirtual 220, 3) := by decide +kernel
theorem dX7_makeBill_27 : decode cX7_makeBill 27 = .ok (.i2l, 1) := by decide +kernel
theorem dX7_makeBill_28 : decode cX7_makeBill 28 = .ok (.invokevirtual 172, 3) := by decide +kernel
theorem dX7_makeBill_31 : decode cX7_makeBill 31 = .ok (.aload_n 0, 1) := by decide +kernel
theorem dX7_makeBill_32 : decode cX7_makeBill 32 = .ok (.aload_n 1, 1) := by decide +kernel
theorem dX7_makeBill_33 : decode cX7_makeBill 33 = .ok (.aload_n 3, 1) := by decide +kernel
theorem dX7_makeBill_34 : decode cX7_makeBill 34 = .ok (.getfield 292, 3) := by decide +kernel
theorem dX7_makeBill_37 : decode cX7_makeBill 37 = .ok (.i2l, 1) := by decide +kernel
theorem dX7_makeBill_38 : decode cX7_makeBill 38 = .ok (.invokevirtual 176, 3) := by decide +kernel
theorem dX7_makeBill_41 : decode cX7_makeBill 41 = .ok (.return_, 1) := by decide +kernel
theorem dX7_beginMonth_0 : decode cX7_beginMonth 0 = .ok (.aload_n 0, 1) := by decide +kernel
theorem dX7_beginMonth_1 : decode cX7_beginMonth 1 = .ok (.getfield 27, 3) := by decide +kernel
theorem dX7_beginMonth_4 : decode cX7_beginMonth 4 = .ok (.iload_n 1, 1) := by decide +kernel
theorem dX7_beginMonth_5 : decode cX7_beginMonth 5 = .ok (.aload_n 0, 1) := by decide +kernel
theorem dX7_beginMonth_6 : decode cX7_beginMonth 6 = .ok (.getfield 48, 3) := by decide +kernel
theorem dX7_beginMonth_9 : decode cX7_beginMonth 9 = .ok (.invokevirtual 133, 3) := by decide +kernel
theorem dX7_beginMonth_12 : decode cX7_beginMonth 12 = .ok (.iconst 0, 1) := by decide +kernel
theorem dX7_beginMonth_13 : decode cX7_beginMonth 13 = .ok (.istore_n 2, 1) := by decide +kernel
theorem dX7_beginMonth_14 : decode cX7_beginMonth 14 = .ok (.iload_n 2, 1) := by decide +kernel
theorem dX7_beginMonth_15 : decode cX7_beginMonth 15 = .ok (.aload_n 0, 1) := by decide +kernel
theorem dX7_beginMonth_16 : decode cX7_beginMonth 16 = .ok (.getfield 16, 3) := by decide +kernel
theorem dX7_beginMonth_19 : decode cX7_beginMonth 19 = .ok (.invokevirtual 66, 3) := by decide +kernel
theorem dX7_beginMonth_22 : decode cX7_beginMonth 22 = .ok (.if_icmp .ge 35, 3) := by decide +kernel
theorem dX7_beginMonth_25 : decode cX7_beginMonth 25 = .ok (.aload_n 0, 1) := by decide +kernel
theorem dX7_beginMonth_26 : decode cX7_beginMonth 26 = .ok (.getfield 16, 3) := by decide +kernel
theorem dX7_beginMonth_29 : decode cX7_beginMonth 29 = .ok (.iload_n 2, 1) := by decide +kernel
theorem dX7_beginMonth_30 : decode cX7_beginMonth 30 = .ok (.invokevirtual 149, 3) := by decide +kernel
theorem dX7_beginMonth_33 : decode cX7_beginMonth 33 = .ok (.checkcast 95, 3) := by decide +kernel
theorem dX7_beginMonth_36 : decode cX7_beginMonth 36 = .ok (.astore_n 3, 1) := by decide +kernel
theorem dX7_beginMonth_37 : decode cX7_beginMonth 37 = .ok (.aload_n 3, 1) := by decide +kernel
theorem dX7_beginMonth_38 : decode cX7_beginMonth 38 = .ok (.iload_n 1, 1) := by decide +kernel
theorem dX7_beginMonth_39 : decode cX7_beginMonth 39 = .ok (.invokevirtual 209, 3) := by decide +kernel
theorem dX7_beginMonth_42 : decode cX7_beginMonth 42 = .ok (.ifCond .eq 9, 3) := by decide +kernel
theorem dX7_beginMonth_45 : decode cX7_beginMonth 45 = .ok (.aload_n 0, 1) := by decide +kernel
theorem dX7_beginMonth_46 : decode cX7_beginMonth 46 = .ok (.aload_n 3, 1) := by decide +kernel
theorem dX7_beginMonth_47 : decode cX7_beginMonth 47 = .ok (.iload_n 1, 1) := by decide +kernel
theorem dX7_beginMonth_48 : decode cX7_beginMonth 48 = .ok (.invokevirtual 295, 3) := by decide +kernel
theorem dX7_beginMonth_51 : decode cX7_beginMonth 51 = .ok (.iinc 2 1, 3) := by decide +kernel
theorem dX7_beginMonth_54 : decode cX7_beginMonth 54 = .ok (.goto (-40), 3) := by decide +kernel
theorem dX7_beginMonth_57 : decode cX7_beginMonth 57 = .ok (.return_, 1) := by decide +kernel
theorem dX7_payAhead_0 : decode cX7_payAhead 0 = .ok (.aload_n 1, 1) := by decide +kernel
theorem dX7_payAhead_1 : decode cX7_payAhead 1 = .ok (.aload_n 0, 1) := by decide +kernel
theorem dX7_payAhead_2 : decode cX7_payAhead 2 = .ok (.getfield 27, 3) := by decide +kernel
theorem dX7_payAhead_5 : decode cX7_payAhead 5 = .ok (.iload_n 2, 1) := by decide +kernel
theorem dX7_payAhead_6 : decode cX7_payAhead 6 = .ok (.invokevirtual 114, 3) := by decide +kernel
theorem dX7_payAhead_9 : decode cX7_payAhead 9 = .ok (.invokevirtual 298, 3) := by decide +kernel
theorem dX7_payAhead_12 : decode cX7_payAhead 12 = .ok (.istore_n 3, 1) := by decide +kernel
theorem dX7_payAhead_13 : decode cX7_payAhead 13 = .ok (.iload_n 3, 1) := by decide +kernel
theorem dX7_payAhead_14 : decode cX7_payAhead 14 = .ok (.aload_n 1, 1) := by decide +kernel
theorem dX7_payAhead_15 : decode cX7_payAhead 15 = .ok (.iload_n 2, 1) := by decide +kernel
theorem dX7_payAhead_16 : decode cX7_payAhead 16 = .ok (.invokevirtual 301, 3) := by decide +kernel
theorem dX7_payAhead_19 : decode cX7_payAhead 19 = .ok (.invokestatic 304, 3) := by decide +kernel
theorem dX7_payAhead_22 : decode cX7_payAhead 22 = .ok (.i2l, 1) := by decide +kernel
theorem dX7_payAhead_23 : decode cX7_payAhead 23 = .ok (.aload_n 1, 1) := by decide +kernel
theorem dX7_payAhead_24 : decode cX7_payAhead 24 = .ok (.getfield 223, 3) := by decide +kernel
theorem dX7_payAhead_27 : decode cX7_payAhead 27 = .ok (.ladd, 1) := by decide +kernel
theorem dX7_payAhead_28 : decode cX7_payAhead 28 = .ok (.lstore 4, 2) := by decide +kernel
theorem dX7_payAhead_30 : decode cX7_payAhead 30 = .ok (.lload 4, 2) := by decide +kernel
theorem dX7_payAhead_32 : decode cX7_payAhead 32 = .ok (.lconst 0, 1) := by decide +kernel
theorem dX7_payAhead_33 : decode cX7_payAhead 33 = .ok (.lcmp, 1) := by decide +kernel
theorem dX7_payAhead_34 : decode cX7_payAhead 34 = .ok (.ifCond .le 11, 3) := by decide +kernel
theorem dX7_payAhead_37 : decode cX7_payAhead 37 = .ok (.aload_n 0, 1) := by decide +kernel
theorem dX7_payAhead_38 : decode cX7_payAhead 38 = .ok (.aload_n 1, 1) := by decide +kernel
theorem dX7_payAhead_39 : decode cX7_payAhead 39 = .ok (.lload 4, 2) := by decide +kernel
theorem dX7_payAhead_41 : decode cX7_payAhead 41 = .ok (.lneg, 1) := by decide +kernel
theorem dX7_payAhead_42 : decode cX7_payAhead 42 = .ok (.invokevirtual 176, 3) := by decide +kernel
theorem dX7_payAhead_45 : decode cX7_payAhead 45 = .ok (.return_, 1) := by decide +kernel
theorem dX7_shareHeat_0 : decode cX7_shareHeat 0 = .ok (.aload_n 0, 1) := by decide +kernel
theorem dX7_shareHeat_1 : decode cX7_shareHeat 1 = .ok (.getfield 31, 3) := by decide +kernel
theorem dX7_shareHeat_4 : decode cX7_shareHeat 4 = .ok (.iload_n 1, 1) := by decide +kernel
theorem dX7_shareHeat_5 : decode cX7_shareHeat 5 = .ok (.invokevirtual 114, 3) := by decide +kernel
theorem dX7_shareHeat_8 : decode cX7_shareHeat 8 = .ok (.istore_n 2, 1) := by decide +kernel
theorem dX7_shareHeat_9 : decode cX7_shareHeat 9 = .ok (.aload_n 0, 1) := by decide +kernel
theorem dX7_shareHeat_10 : decode cX7_shareHeat 10 = .ok (.iload_n 1, 1) := by decide +kernel
theorem dX7_shareHeat_11 : decode cX7_shareHeat 11 = .ok (.invokevirtual 307, 3) := by decide +kernel
theorem dX7_shareHeat_14 : decode cX7_shareHeat 14 = .ok (.lconst 0, 1) := by decide +kernel
theorem dX7_shareHeat_15 : decode cX7_shareHeat 15 = .ok (.lcmp, 1) := by decide +kernel
theorem dX7_shareHeat_16 : decode cX7_shareHeat 16 = .ok (.ifCond .ne 7, 3) := by decide +kernel
theorem dX7_shareHeat_19 : decode cX7_shareHeat 19 = .ok (.iload_n 2, 1) := by decide +kernel
theorem dX7_shareHeat_20 : decode cX7_shareHeat 20 = .ok (.goto 9, 3) := by decide +kernel
theorem dX7_shareHeat_23 : decode cX7_shareHeat 23 = .ok (.iload_n 2, 1) := by decide +kernel
theorem dX7_shareHeat_24 : decode cX7_shareHeat 24 = .ok (.iconst 3, 1) := by decide +kernel
theorem dX7_shareHeat_25 : decode cX7_shareHeat 25 = .ok (.imul, 1) := by decide +kernel
theorem dX7_shareHeat_26 : decode cX7_shareHeat 26 = .ok (.bipush 10, 2) := by decide +kernel
theorem dX7_shareHeat_28 : decode cX7_shareHeat 28 = .ok (.idiv, 1) := by decide +kernel
theorem dX7_shareHeat_29 : decode cX7_shareHeat 29 = .ok (.istore_n 3, 1) := by decide +kernel
theorem dX7_shareHeat_30 : decode cX7_shareHeat 30 = .ok (.iconst 0, 1) := by decide +kernel
theorem dX7_shareHeat_31 : decode cX7_shareHeat 31 = .ok (.istore 4, 2) := by decide +kernel
theorem dX7_shareHeat_33 : decode cX7_shareHeat 33 = .ok (.iload 4, 2) := by decide +kernel
theorem dX7_shareHeat_35 : decode cX7_shareHeat 35 = .ok (.aload_n 0, 1) := by decide +kernel
theorem dX7_shareHeat_36 : decode cX7_shareHeat 36 = .ok (.getfield 16, 3) := by decide +kernel
theorem dX7_shareHeat_39 : decode cX7_shareHeat 39 = .ok (.invokevirtual 66, 3) := by decide +kernel
theorem dX7_shareHeat_42 : decode cX7_shareHeat 42 = .ok (.if_icmp .ge 61, 3) := by decide +kernel
theorem dX7_shareHeat_45 : decode cX7_shareHeat 45 = .ok (.aload_n 0, 1) := by decide +kernel
theorem dX7_shareHeat_46 : decode cX7_shareHeat 46 = .ok (.getfield 16, 3) := by decide +kernel
theorem dX7_shareHeat_49 : decode cX7_shareHeat 49 = .ok (.iload 4, 2) := by decide +kernel
theorem dX7_shareHeat_51 : decode cX7_shareHeat 51 = .ok (.invokevirtual 149, 3) := by decide +kernel
theorem dX7_shareHeat_54 : decode cX7_shareHeat 54 = .ok (.checkcast 95, 3) := by decide +kernel
theorem dX7_shareHeat_57 : decode cX7_shareHeat 57 = .ok (.astore 5, 2) := by decide +kernel
theorem dX7_shareHeat_59 : decode cX7_shareHeat 59 = .ok (.aload 5, 2) := by decide +kernel
theorem dX7_shareHeat_61 : decode cX7_shareHeat 61 = .ok (.getfield 311, 3) := by decide +kernel
theorem dX7_shareHeat_64 : decode cX7_shareHeat 64 = .ok (.iconst 0, 1) := by decide +kernel
theorem dX7_shareHeat_65 : decode cX7_shareHeat 65 = .ok (.putfield 315, 3) := by decide +kernel
theorem dX7_shareHeat_68 : decode cX7_shareHeat 68 = .ok (.aload 5, 2) := by decide +kernel
theorem dX7_shareHeat_70 : decode cX7_shareHeat 70 = .ok (.getfield 311, 3) := by decide +kernel
theorem dX7_shareHeat_73 : decode cX7_shareHeat 73 = .ok (.aload 5, 2) := by decide +kernel
theorem dX7_shareHeat_75 : decode cX7_shareHeat 75 = .ok (.iload_n 1, 1) := by decide +kernel
theorem dX7_shareHeat_76 : decode cX7_shareHeat 76 = .ok (.invokevirtual 209, 3) := by decide +kernel
theorem dX7_shareHeat_79 : decode cX7_shareHeat 79 = .ok (.ifCond .eq 14, 3) := by decide +kernel
theorem dX7_shareHeat_82 : decode cX7_shareHeat 82 = .ok (.aload 5, 2) := by decide +kernel
theorem dX7_shareHeat_84 : decode cX7_shareHeat 84 = .ok (.getfield 265, 3) := by decide +kernel
theorem dX7_shareHeat_87 : decode cX7_shareHeat 87 = .ok (.getfield 320, 3) := by decide +kernel
theorem dX7_shareHeat_90 : decode cX7_shareHeat 90 = .ok (.goto 4, 3) := by decide +kernel
theorem dX7_shareHeat_93 : decode cX7_shareHeat 93 = .ok (.iconst 0, 1) := by decide +kernel
theorem dX7_shareHeat_94 : decode cX7_shareHeat 94 = .ok (.putfield 323, 3) := by decide +kernel
theorem dX7_shareHeat_97 : decode cX7_shareHeat 97 = .ok (.iinc 4 1, 3) := by decide +kernel
theorem dX7_shareHeat_100 : decode cX7_shareHeat 100 = .ok (.goto (-67), 3) := by decide +kernel
theorem dX7_shareHeat_103 : decode cX7_shareHeat 103 = .ok (.aload_n 0, 1) := by decide +kernel
theorem dX7_shareHeat_104 : decode cX7_shareHeat 104 = .ok (.iload_n 3, 1) := by decide +kernel
theorem dX7_shareHeat_105 : decode cX7_shareHeat 105 = .ok (.invokevirtual 326, 3) := by decide +kernel
theorem dX7_shareHeat_108 : decode cX7_shareHeat 108 = .ok (.iconst 0, 1) := by decide +kernel
theorem dX7_shareHeat_109 : decode cX7_shareHeat 109 = .ok (.istore 4, 2) := by decide +kernel
theorem dX7_shareHeat_111 : decode cX7_shareHeat 111 = .ok (.iload 4, 2) := by decide +kernel
theorem dX7_shareHeat_113 : decode cX7_shareHeat 113 = .ok (.aload_n 0, 1) := by decide +kernel
theorem dX7_shareHeat_114 : decode cX7_shareHeat 114 = .ok (.getfield 16, 3) := by decide +kernel
theorem dX7_shareHeat_117 : decode cX7_shareHeat 117 = .ok (.invokevirtual 66, 3) := by decide +kernel
theorem dX7_shareHeat_120 : decode cX7_shareHeat 120 = .ok (.if_icmp .ge 37, 3) := by decide +kernel
theorem dX7_shareHeat_123 : decode cX7_shareHeat 123 = .ok (.aload_n 0, 1) := by decide +kernel
theorem dX7_shareHeat_124 : decode cX7_shareHeat 124 = .ok (.getfield 16, 3) := by decide +kernel
theorem dX7_shareHeat_127 : decode cX7_shareHeat 127 = .ok (.iload 4, 2) := by decide +kernel
theorem dX7_shareHeat_129 : decode cX7_shareHeat 129 = .ok (.invokevirtual 149, 3) := by decide +kernel
theorem dX7_shareHeat_132 : decode cX7_shareHeat 132 = .ok (.checkcast 95, 3) := by decide +kernel
theorem dX7_shareHeat_135 : decode cX7_shareHeat 135 = .ok (.astore 5, 2) := by decide +kernel
theorem dX7_shareHeat_137 : decode cX7_shareHeat 137 = .ok (.aload 5, 2) := by decide +kernel
theorem dX7_shareHeat_139 : decode cX7_shareHeat 139 = .ok (.getfield 311, 3) := by decide +kernel
theorem dX7_shareHeat_142 : decode cX7_shareHeat 142 = .ok (.aload 5, 2) := by decide +kernel
theorem dX7_shareHeat_144 : decode cX7_shareHeat 144 = .ok (.iload_n 1, 1) := by decide +kernel
theorem dX7_shareHeat_145 : decode cX7_shareHeat 145 = .ok (.invokevirtual 329, 3) := by decide +kernel
theorem dX7_shareHeat_148 : decode cX7_shareHeat 148 = .ok (.putfield 323, 3) := by decide +kernel
theorem dX7_shareHeat_151 : decode cX7_shareHeat 151 = .ok (.iinc 4 1, 3) := by decide +kernel
theorem dX7_shareHeat_154 : decode cX7_shareHeat 154 = .ok (.goto (-43), 3) := by decide +kernel
theorem dX7_shareHeat_157 : decode cX7_shareHeat 157 = .ok (.aload_n 0, 1) := by decide +kernel
theorem dX7_shareHeat_158 : decode cX7_shareHeat 158 = .ok (.iload_n 2, 1) := by decide +kernel
theorem dX7_shareHeat_159 : decode cX7_shareHeat 159 = .ok (.iload_n 3, 1) := by decide +kernel
theorem dX7_shareHeat_160 : decode cX7_shareHeat 160 = .ok (.isub, 1) := by decide +kernel
theorem dX7_shareHeat_161 : decode cX7_shareHeat 161 = .ok (.invokevirtual 326, 3) := by decide +kernel
theorem dX7_shareHeat_164 : decode cX7_shareHeat 164 = .ok (.return_, 1) := by decide +kernel
theorem dX7_usesOfAll_0 : decode cX7_usesOfAll 0 = .ok (.lconst 0, 1) := by decide +kernel
theorem dX7_usesOfAll_1 : decode cX7_usesOfAll 1 = .ok (.lstore_n 2, 1) := by decide +kernel
theorem dX7_usesOfAll_2 : decode cX7_usesOfAll 2 = .ok (.iconst 0, 1) := by decide +kernel
theorem dX7_usesOfAll_3 : decode cX7_usesOfAll 3 = .ok (.istore 4, 2) := by decide +kernel
theorem dX7_usesOfAll_5 : decode cX7_usesOfAll 5 = .ok (.iload 4, 2) := by decide +kernel
theorem dX7_usesOfAll_7 : decode cX7_usesOfAll 7 = .ok (.aload_n 0, 1) := by decide +kernel
theorem dX7_usesOfAll_8 : decode cX7_usesOfAll 8 = .ok (.getfield 16, 3) := by decide +kernel
theorem dX7_usesOfAll_11 : decode cX7_usesOfAll 11 = .ok (.invokevirtual 66, 3) := by decide +kernel
theorem dX7_usesOfAll_14 : decode cX7_usesOfAll 14 = .ok (.if_icmp .ge 29, 3) := by decide +kernel
theorem dX7_usesOfAll_17 : decode cX7_usesOfAll 17 = .ok (.lload_n 2, 1) := by decide +kernel
theorem dX7_usesOfAll_18 : decode cX7_usesOfAll 18 = .ok (.aload_n 0, 1) := by decide +kernel
theorem dX7_usesOfAll_19 : decode cX7_usesOfAll 19 = .ok (.getfield 16, 3) := by decide +kernel
theorem dX7_usesOfAll_22 : decode cX7_usesOfAll 22 = .ok (.iload 4, 2) := by decide +kernel
theorem dX7_usesOfAll_24 : decode cX7_usesOfAll 24 = .ok (.invokevirtual 149, 3) := by decide +kernel
theorem dX7_usesOfAll_27 : decode cX7_usesOfAll 27 = .ok (.checkcast 95, 3) := by decide +kernel
theorem dX7_usesOfAll_30 : decode cX7_usesOfAll 30 = .ok (.iload_n 1, 1) := by decide +kernel
theorem dX7_usesOfAll_31 : decode cX7_usesOfAll 31 = .ok (.invokevirtual 329, 3) := by decide +kernel
theorem dX7_usesOfAll_34 : decode cX7_usesOfAll 34 = .ok (.i2l, 1) := by decide +kernel
theorem dX7_usesOfAll_35 : decode cX7_usesOfAll 35 = .ok (.ladd, 1) := by decide +kernel
theorem dX7_usesOfAll_36 : decode cX7_usesOfAll 36 = .ok (.lstore_n 2, 1) := by decide +kernel
theorem dX7_usesOfAll_37 : decode cX7_usesOfAll 37 = .ok (.iinc 4 1, 3) := by decide +kernel
theorem dX7_usesOfAll_40 : decode cX7_usesOfAll 40 = .ok (.goto (-35), 3) := by decide +kernel
theorem dX7_usesOfAll_43 : decode cX7_usesOfAll 43 = .ok (.lload_n 2, 1) := by decide +kernel
theorem dX7_usesOfAll_44 : decode cX7_usesOfAll 44 = .ok (.lreturn, 1) := by decide +kernel
theorem dX7_shareByWeights_0 : decode cX7_shareByWeights 0 = .ok (.lconst 0, 1) := by decide +kernel
theorem dX7_shareByWeights_1 : decode cX7_shareByWeights 1 = .ok (.lstore_n 2, 1) := by decide +kernel
theorem dX7_shareByWeights_2 : decode cX7_shareByWeights 2 = .ok (.iconst 0, 1) := by decide +kernel
theorem dX7_shareByWeights_3 : decode cX7_shareByWeights 3 = .ok (.istore 4, 2) := by decide +kernel
theorem dX7_shareByWeights_5 : decode cX7_shareByWeights 5 = .ok (.iload 4, 2) := by decide +kernel
theorem dX7_shareByWeights_7 : decode cX7_shareByWeights 7 = .ok (.aload_n 0, 1) := by decide +kernel
theorem dX7_shareByWeights_8 : decode cX7_shareByWeights 8 = .ok (.getfield 16, 3) := by decide +kernel
theorem dX7_shareByWeights_11 : decode cX7_shareByWeights 11 = .ok (.invokevirtual 66, 3) := by decide +kernel
theorem dX7_shareByWeights_14 : decode cX7_shareByWeights 14 = .ok (.if_icmp .ge 31, 3) := by decide +kernel
theorem dX7_shareByWeights_17 : decode cX7_shareByWeights 17 = .ok (.lload_n 2, 1) := by decide +kernel
theorem dX7_shareByWeights_18 : decode cX7_shareByWeights 18 = .ok (.aload_n 0, 1) := by decide +kernel
theorem dX7_shareByWeights_19 : decode cX7_shareByWeights 19 = .ok (.getfield 16, 3) := by decide +kernel
theorem dX7_shareByWeights_22 : decode cX7_shareByWeights 22 = .ok (.iload 4, 2) := by decide +kernel
theorem dX7_shareByWeights_24 : decode cX7_shareByWeights 24 = .ok (.invokevirtual 149, 3) := by decide +kernel
theorem dX7_shareByWeights_27 : decode cX7_shareByWeights 27 = .ok (.checkcast 95, 3) := by decide +kernel
theorem dX7_shareByWeights_30 : decode cX7_shareByWeights 30 = .ok (.getfield 311, 3) := by decide +kernel
theorem dX7_shareByWeights_33 : decode cX7_shareByWeights 33 = .ok (.getfield 323, 3) := by decide +kernel
theorem dX7_shareByWeights_36 : decode cX7_shareByWeights 36 = .ok (.i2l, 1) := by decide +kernel
theorem dX7_shareByWeights_37 : decode cX7_shareByWeights 37 = .ok (.ladd, 1) := by decide +kernel
theorem dX7_shareByWeights_38 : decode cX7_shareByWeights 38 = .ok (.lstore_n 2, 1) := by decide +kernel
theorem dX7_shareByWeights_39 : decode cX7_shareByWeights 39 = .ok (.iinc 4 1, 3) := by decide +kernel
theorem dX7_shareByWeights_42 : decode cX7_shareByWeights 42 = .ok (.goto (-37), 3) := by decide +kernel
theorem dX7_shareByWeights_45 : decode cX7_shareByWeights 45 = .ok (.lload_n 2, 1) := by decide +kernel
theorem dX7_shareByWeights_46 : decode cX7_shareByWeights 46 = .ok (.lconst 0, 1) := by decide +kernel
theorem dX7_shareByWeights_47 : decode cX7_shareByWeights 47 = .ok (.lcmp, 1) := by decide +kernel
theorem dX7_shareByWeights_48 : decode cX7_shareByWeights 48 = .ok (.ifCond .gt 4, 3) := by decide +kernel
theorem dX7_shareByWeights_51 : decode cX7_shareByWeights 51 = .ok (.return_, 1) := by decide +kernel
theorem dX7_shareByWeights_52 : decode cX7_shareByWeights 52 = .ok (.iload_n 1, 1) := by decide +kernel
theorem dX7_shareByWeights_53 : decode cX7_shareByWeights 53 = .ok (.istore 4, 2) := by decide +kernel
theorem dX7_shareByWeights_55 : decode cX7_shareByWeights 55 = .ok (.iconst 0, 1) := by decide +kernel
theorem dX7_shareByWeights_56 : decode cX7_shareByWeights 56 = .ok (.istore 5, 2) := by decide +kernel
theorem dX7_shareByWeights_58 : decode cX7_shareByWeights 58 = .ok (.iload 5, 2) := by decide +kernel
theorem dX7_shareByWeights_60 : decode cX7_shareByWeights 60 = .ok (.aload_n 0, 1) := by decide +kernel
theorem dX7_shareByWeights_61 : decode cX7_shareByWeights 61 = .ok (.getfield 16, 3) := by decide +kernel
theorem dX7_shareByWeights_64 : decode cX7_shareByWeights 64 = .ok (.invokevirtual 66, 3) := by decide +kernel
theorem dX7_shareByWeights_67 : decode cX7_shareByWeights 67 = .ok (.if_icmp .ge 34, 3) := by decide +kernel
theorem dX7_shareByWeights_70 : decode cX7_shareByWeights 70 = .ok (.iload 4, 2) := by decide +kernel
theorem dX7_shareByWeights_72 : decode cX7_shareByWeights 72 = .ok (.aload_n 0, 1) := by decide +kernel
theorem dX7_shareByWeights_73 : decode cX7_shareByWeights 73 = .ok (.getfield 16, 3) := by decide +kernel
theorem dX7_shareByWeights_76 : decode cX7_shareByWeights 76 = .ok (.iload 5, 2) := by decide +kernel
theorem dX7_shareByWeights_78 : decode cX7_shareByWeights 78 = .ok (.invokevirtual 149, 3) := by decide +kernel
theorem dX7_shareByWeights_81 : decode cX7_shareByWeights 81 = .ok (.checkcast 95, 3) := by decide +kernel
theorem dX7_shareByWeights_84 : decode cX7_shareByWeights 84 = .ok (.getfield 311, 3) := by decide +kernel
theorem dX7_shareByWeights_87 : decode cX7_shareByWeights 87 = .ok (.iload_n 1, 1) := by decide +kernel
theorem dX7_shareByWeights_88 : decode cX7_shareByWeights 88 = .ok (.lload_n 2, 1) := by decide +kernel
theorem dX7_shareByWeights_89 : decode cX7_shareByWeights 89 = .ok (.invokevirtual 332, 3) := by decide +kernel
theorem dX7_shareByWeights_92 : decode cX7_shareByWeights 92 = .ok (.isub, 1) := by decide +kernel
theorem dX7_shareByWeights_93 : decode cX7_shareByWeights 93 = .ok (.istore 4, 2) := by decide +kernel
theorem dX7_shareByWeights_95 : decode cX7_shareByWeights 95 = .ok (.iinc 5 1, 3) := by decide +kernel
theorem dX7_shareByWeights_98 : decode cX7_shareByWeights 98 = .ok (.goto (-40), 3) := by decide +kernel
theorem dX7_shareByWeights_101 : decode cX7_shareByWeights 101 = .ok (.iconst 0, 1) := by decide +kernel
theorem dX7_shareByWeights_102 : decode cX7_shareByWeights 102 = .ok (.istore 5, 2) := by decide +kernel
theorem dX7_shareByWeights_104 : decode cX7_shareByWeights 104 = .ok (.iload 5, 2) := by decide +kernel
theorem dX7_shareByWeights_106 : decode cX7_shareByWeights 106 = .ok (.iload 4, 2) := by decide +kernel
theorem dX7_shareByWeights_108 : decode cX7_shareByWeights 108 = .ok (.if_icmp .ge 13, 3) := by decide +kernel
theorem dX7_shareByWeights_111 : decode cX7_shareByWeights 111 = .ok (.aload_n 0, 1) := by decide +kernel
theorem dX7_shareByWeights_112 : decode cX7_shareByWeights 112 = .ok (.invokevirtual 336, 3) := by decide +kernel
theorem dX7_shareByWeights_115 : decode cX7_shareByWeights 115 = .ok (.iinc 5 1, 3) := by decide +kernel
theorem dX7_shareByWeights_118 : decode cX7_shareByWeights 118 = .ok (.goto (-14), 3) := by decide +kernel
theorem dX7_shareByWeights_121 : decode cX7_shareByWeights 121 = .ok (.return_, 1) := by decide +kernel
theorem dX7_giveOneMore_0 : decode cX7_giveOneMore 0 = .ok (.aload_n 0, 1) := by decide +kernel
theorem dX7_giveOneMore_1 : decode cX7_giveOneMore 1 = .ok (.getfield 16, 3) := by decide +kernel
theorem dX7_giveOneMore_4 : decode cX7_giveOneMore 4 = .ok (.invokevirtual 339, 3) := by decide +kernel
theorem dX7_giveOneMore_7 : decode cX7_giveOneMore 7 = .ok (.ifCond .eq 4, 3) := by decide +kernel
theorem dX7_giveOneMore_10 : decode cX7_giveOneMore 10 = .ok (.return_, 1) := by decide +kernel
theorem dX7_giveOneMore_11 : decode cX7_giveOneMore 11 = .ok (.aload_n 0, 1) := by decide +kernel
theorem dX7_giveOneMore_12 : decode cX7_giveOneMore 12 = .ok (.getfield 16, 3) := by decide +kernel
theorem dX7_giveOneMore_15 : decode cX7_giveOneMore 15 = .ok (.iconst 0, 1) := by decide +kernel
theorem dX7_giveOneMore_16 : decode cX7_giveOneMore 16 = .ok (.invokevirtual 149, 3) := by decide +kernel
theorem dX7_giveOneMore_19 : decode cX7_giveOneMore 19 = .ok (.checkcast 95, 3) := by decide +kernel
theorem dX7_giveOneMore_22 : decode cX7_giveOneMore 22 = .ok (.getfield 311, 3) := by decide +kernel
theorem dX7_giveOneMore_25 : decode cX7_giveOneMore 25 = .ok (.astore_n 1, 1) := by decide +kernel
theorem dX7_giveOneMore_26 : decode cX7_giveOneMore 26 = .ok (.iconst 1, 1) := by decide +kernel
theorem dX7_giveOneMore_27 : decode cX7_giveOneMore 27 = .ok (.istore_n 2, 1) := by decide +kernel
theorem dX7_giveOneMore_28 : decode cX7_giveOneMore 28 = .ok (.iload_n 2, 1) := by decide +kernel
theorem dX7_giveOneMore_29 : decode cX7_giveOneMore 29 = .ok (.aload_n 0, 1) := by decide +kernel
theorem dX7_giveOneMore_30 : decode cX7_giveOneMore 30 = .ok (.getfield 16, 3) := by decide +kernel
theorem dX7_giveOneMore_33 : decode cX7_giveOneMore 33 = .ok (.invokevirtual 66, 3) := by decide +kernel
theorem dX7_giveOneMore_36 : decode cX7_giveOneMore 36 = .ok (.if_icmp .ge 34, 3) := by decide +kernel
theorem dX7_giveOneMore_39 : decode cX7_giveOneMore 39 = .ok (.aload_n 0, 1) := by decide +kernel
theorem dX7_giveOneMore_40 : decode cX7_giveOneMore 40 = .ok (.getfield 16, 3) := by decide +kernel
theorem dX7_giveOneMore_43 : decode cX7_giveOneMore 43 = .ok (.iload_n 2, 1) := by decide +kernel
theorem dX7_giveOneMore_44 : decode cX7_giveOneMore 44 = .ok (.invokevirtual 149, 3) := by decide +kernel
theorem dX7_giveOneMore_47 : decode cX7_giveOneMore 47 = .ok (.checkcast 95, 3) := by decide +kernel
theorem dX7_giveOneMore_50 : decode cX7_giveOneMore 50 = .ok (.getfield 311, 3) := by decide +kernel
theorem dX7_giveOneMore_53 : decode cX7_giveOneMore 53 = .ok (.astore_n 3, 1) := by decide +kernel
theorem dX7_giveOneMore_54 : decode cX7_giveOneMore 54 = .ok (.aload_n 3, 1) := by decide +kernel
theorem dX7_giveOneMore_55 : decode cX7_giveOneMore 55 = .ok (.aload_n 1, 1) := by decide +kernel
theorem dX7_giveOneMore_56 : decode cX7_giveOneMore 56 = .ok (.invokevirtual 343, 3) := by decide +kernel
theorem dX7_giveOneMore_59 : decode cX7_giveOneMore 59 = .ok (.ifCond .eq 5, 3) := by decide +kernel
theorem dX7_giveOneMore_62 : decode cX7_giveOneMore 62 = .ok (.aload_n 3, 1) := by decide +kernel
theorem dX7_giveOneMore_63 : decode cX7_giveOneMore 63 = .ok (.astore_n 1, 1) := by decide +kernel
theorem dX7_giveOneMore_64 : decode cX7_giveOneMore 64 = .ok (.iinc 2 1, 3) := by decide +kernel
theorem dX7_giveOneMore_67 : decode cX7_giveOneMore 67 = .ok (.goto (-39), 3) := by decide +kernel
theorem dX7_giveOneMore_70 : decode cX7_giveOneMore 70 = .ok (.aload_n 1, 1) := by decide +kernel
theorem dX7_giveOneMore_71 : decode cX7_giveOneMore 71 = .ok (.invokevirtual 347, 3) := by decide +kernel
theorem dX7_giveOneMore_74 : decode cX7_giveOneMore 74 = .ok (.return_, 1) := by decide +kernel
theorem dX7_settle_0 : decode cX7_settle 0 = .ok (.aload_n 3, 1) := by decide +kernel
theorem dX7_settle_1 : decode cX7_settle 1 = .ok (.aload_n 1, 1) := by decide +kernel
theorem dX7_settle_2 : decode cX7_settle 2 = .ok (.aload_n 0, 1) := by decide +kernel
theorem dX7_settle_3 : decode cX7_settle 3 = .ok (.getfield 27, 3) := by decide +kernel
theorem dX7_settle_6 : decode cX7_settle 6 = .ok (.iload_n 2, 1) := by decide +kernel
theorem dX7_settle_7 : decode cX7_settle 7 = .ok (.invokevirtual 114, 3) := by decide +kernel
theorem dX7_settle_10 : decode cX7_settle 10 = .ok (.invokevirtual 298, 3) := by decide +kernel
theorem dX7_settle_13 : decode cX7_settle 13 = .ok (.putfield 350, 3) := by decide +kernel
theorem dX7_settle_16 : decode cX7_settle 16 = .ok (.aload_n 3, 1) := by decide +kernel
theorem dX7_settle_17 : decode cX7_settle 17 = .ok (.aload_n 3, 1) := by decide +kernel
theorem dX7_settle_18 : decode cX7_settle 18 = .ok (.getfield 350, 3) := by decide +kernel
theorem dX7_settle_21 : decode cX7_settle 21 = .ok (.aload_n 1, 1) := by decide +kernel
theorem dX7_settle_22 : decode cX7_settle 22 = .ok (.getfield 265, 3) := by decide +kernel
theorem dX7_settle_25 : decode cX7_settle 25 = .ok (.getfield 256, 3) := by decide +kernel
theorem dX7_settle_28 : decode cX7_settle 28 = .ok (.iload_n 2, 1) := by decide +kernel
theorem dX7_settle_29 : decode cX7_settle 29 = .ok (.invokevirtual 114, 3) := by decide +kernel
theorem dX7_settle_32 : decode cX7_settle 32 = .ok (.invokestatic 353, 3) := by decide +kernel
theorem dX7_settle_35 : decode cX7_settle 35 = .ok (.putfield 356, 3) := by decide +kernel
theorem dX7_settle_38 : decode cX7_settle 38 = .ok (.aload_n 3, 1) := by decide +kernel
theorem dX7_settle_39 : decode cX7_settle 39 = .ok (.aload_n 3, 1) := by decide +kernel
theorem dX7_settle_40 : decode cX7_settle 40 = .ok (.getfield 350, 3) := by decide +kernel
theorem dX7_settle_43 : decode cX7_settle 43 = .ok (.aload_n 3, 1) := by decide +kernel
theorem dX7_settle_44 : decode cX7_settle 44 = .ok (.getfield 356, 3) := by decide +kernel
theorem dX7_settle_47 : decode cX7_settle 47 = .ok (.isub, 1) := by decide +kernel
theorem dX7_settle_48 : decode cX7_settle 48 = .ok (.aload_n 1, 1) := by decide +kernel
theorem dX7_settle_49 : decode cX7_settle 49 = .ok (.iload_n 2, 1) := by decide +kernel
theorem dX7_settle_50 : decode cX7_settle 50 = .ok (.invokevirtual 301, 3) := by decide +kernel
theorem dX7_settle_53 : decode cX7_settle 53 = .ok (.invokestatic 304, 3) := by decide +kernel
theorem dX7_settle_56 : decode cX7_settle 56 = .ok (.putfield 292, 3) := by decide +kernel
theorem dX7_settle_59 : decode cX7_settle 59 = .ok (.aload_n 3, 1) := by decide +kernel
theorem dX7_settle_60 : decode cX7_settle 60 = .ok (.aload_n 1, 1) := by decide +kernel
theorem dX7_settle_61 : decode cX7_settle 61 = .ok (.getfield 311, 3) := by decide +kernel
theorem dX7_settle_64 : decode cX7_settle 64 = .ok (.getfield 315, 3) := by decide +kernel
theorem dX7_settle_67 : decode cX7_settle 67 = .ok (.putfield 359, 3) := by decide +kernel
theorem dX7_settle_70 : decode cX7_settle 70 = .ok (.return_, 1) := by decide +kernel
theorem dX7_loweredBy_0 : decode cX7_loweredBy 0 = .ok (.iload_n 0, 1) := by decide +kernel
theorem dX7_loweredBy_1 : decode cX7_loweredBy 1 = .ok (.i2l, 1) := by decide +kernel
theorem dX7_loweredBy_2 : decode cX7_loweredBy 2 = .ok (.iload_n 1, 1) := by decide +kernel
theorem dX7_loweredBy_3 : decode cX7_loweredBy 3 = .ok (.i2l, 1) := by decide +kernel
theorem dX7_loweredBy_4 : decode cX7_loweredBy 4 = .ok (.lmul, 1) := by decide +kernel
theorem dX7_loweredBy_5 : decode cX7_loweredBy 5 = .ok (.ldc2_w 362, 3) := by decide +kernel
theorem dX7_loweredBy_8 : decode cX7_loweredBy 8 = .ok (.ldiv, 1) := by decide +kernel
theorem dX7_loweredBy_9 : decode cX7_loweredBy 9 = .ok (.lstore_n 2, 1) := by decide +kernel
theorem dX7_loweredBy_10 : decode cX7_loweredBy 10 = .ok (.lload_n 2, 1) := by decide +kernel
theorem dX7_loweredBy_11 : decode cX7_loweredBy 11 = .ok (.iload_n 0, 1) := by decide +kernel
theorem dX7_loweredBy_12 : decode cX7_loweredBy 12 = .ok (.i2l, 1) := by decide +kernel
theorem dX7_loweredBy_13 : decode cX7_loweredBy 13 = .ok (.invokestatic 364, 3) := by decide +kernel
theorem dX7_loweredBy_16 : decode cX7_loweredBy 16 = .ok (.l2i, 1) := by decide +kernel
theorem dX7_loweredBy_17 : decode cX7_loweredBy 17 = .ok (.ireturn, 1) := by decide +kernel
theorem dX7_benefitFor_0 : decode cX7_benefitFor 0 = .ok (.iload_n 0, 1) := by decide +kernel
theorem dX7_benefitFor_1 : decode cX7_benefitFor 1 = .ok (.iload_n 1, 1) := by decide +kernel
theorem dX7_benefitFor_2 : decode cX7_benefitFor 2 = .ok (.iconst 3, 1) := by decide +kernel
theorem dX7_benefitFor_3 : decode cX7_benefitFor 3 = .ok (.imul, 1) := by decide +kernel
theorem dX7_benefitFor_4 : decode cX7_benefitFor 4 = .ok (.bipush 10, 2) := by decide +kernel
theorem dX7_benefitFor_6 : decode cX7_benefitFor 6 = .ok (.idiv, 1) := by decide +kernel
theorem dX7_benefitFor_7 : decode cX7_benefitFor 7 = .ok (.isub, 1) := by decide +kernel
theorem dX7_benefitFor_8 : decode cX7_benefitFor 8 = .ok (.istore_n 2, 1) := by decide +kernel
theorem dX7_benefitFor_9 : decode cX7_benefitFor 9 = .ok (.iload_n 0, 1) := by decide +kernel
theorem dX7_benefitFor_10 : decode cX7_benefitFor 10 = .ok (.bipush 8, 2) := by decide +kernel
theorem dX7_benefitFor_12 : decode cX7_benefitFor 12 = .ok (.imul, 1) := by decide +kernel
theorem dX7_benefitFor_13 : decode cX7_benefitFor 13 = .ok (.bipush 10, 2) := by decide +kernel
theorem dX7_benefitFor_15 : decode cX7_benefitFor 15 = .ok (.idiv, 1) := by decide +kernel
theorem dX7_benefitFor_16 : decode cX7_benefitFor 16 = .ok (.istore_n 3, 1) := by decide +kernel
theorem dX7_benefitFor_17 : decode cX7_benefitFor 17 = .ok (.iconst 0, 1) := by decide +kernel
theorem dX7_benefitFor_18 : decode cX7_benefitFor 18 = .ok (.iload_n 2, 1) := by decide +kernel
theorem dX7_benefitFor_19 : decode cX7_benefitFor 19 = .ok (.iload_n 3, 1) := by decide +kernel
theorem dX7_benefitFor_20 : decode cX7_benefitFor 20 = .ok (.invokestatic 370, 3) := by decide +kernel
theorem dX7_benefitFor_23 : decode cX7_benefitFor 23 = .ok (.invokestatic 372, 3) := by decide +kernel
theorem dX7_benefitFor_26 : decode cX7_benefitFor 26 = .ok (.ireturn, 1) := by decide +kernel
theorem dX7_writeLine_0 : decode cX7_writeLine 0 = .ok (.aload_n 0, 1) := by decide +kernel
theorem dX7_writeLine_1 : decode cX7_writeLine 1 = .ok (.bipush 76, 2) := by decide +kernel
theorem dX7_writeLine_3 : decode cX7_writeLine 3 = .ok (.invokevirtual 375, 3) := by decide +kernel
theorem dX7_writeLine_6 : decode cX7_writeLine 6 = .ok (.pop, 1) := by decide +kernel
theorem dX7_writeLine_7 : decode cX7_writeLine 7 = .ok (.aload_n 0, 1) := by decide +kernel
theorem dX7_writeLine_8 : decode cX7_writeLine 8 = .ok (.iload_n 1, 1) := by decide +kernel
theorem dX7_writeLine_9 : decode cX7_writeLine 9 = .ok (.invokevirtual 379, 3) := by decide +kernel
theorem dX7_writeLine_12 : decode cX7_writeLine 12 = .ok (.pop, 1) := by decide +kernel
theorem dX7_writeLine_13 : decode cX7_writeLine 13 = .ok (.aload_n 0, 1) := by decide +kernel
theorem dX7_writeLine_14 : decode cX7_writeLine 14 = .ok (.ldc_w 382, 3) := by decide +kernel
theorem dX7_writeLine_17 : decode cX7_writeLine 17 = .ok (.invokevirtual 384, 3) := by decide +kernel
theorem dX7_writeLine_20 : decode cX7_writeLine 20 = .ok (.pop, 1) := by decide +kernel
theorem dX7_writeLine_21 : decode cX7_writeLine 21 = .ok (.aload_n 0, 1) := by decide +kernel
theorem dX7_writeLine_22 : decode cX7_writeLine 22 = .ok (.iload_n 2, 1) := by decide +kernel
theorem dX7_writeLine_23 : decode cX7_writeLine 23 = .ok (.invokevirtual 379, 3) := by decide +kernel
theorem dX7_writeLine_26 : decode cX7_writeLine 26 = .ok (.pop, 1) := by decide +kernel
theorem dX7_writeLine_27 : decode cX7_writeLine 27 = .ok (.aload_n 0, 1) := by decide +kernel
theorem dX7_writeLine_28 : decode cX7_writeLine 28 = .ok (.bipush 82, 2) := by decide +kernel
theorem dX7_writeLine_30 : decode cX7_writeLine 30 = .ok (.aload_n 3, 1) := by decide +kernel
theorem dX7_writeLine_31 : decode cX7_writeLine 31 = .ok (.getfield 350, 3) := by decide +kernel
theorem dX7_writeLine_34 : decode cX7_writeLine 34 = .ok (.invokestatic 387, 3) := by decide +kernel
theorem dX7_writeLine_37 : decode cX7_writeLine 37 = .ok (.aload_n 0, 1) := by decide +kernel
theorem dX7_writeLine_38 : decode cX7_writeLine 38 = .ok (.bipush 88, 2) := by decide +kernel
theorem dX7_writeLine_40 : decode cX7_writeLine 40 = .ok (.aload_n 3, 1) := by decide +kernel
theorem dX7_writeLine_41 : decode cX7_writeLine 41 = .ok (.getfield 356, 3) := by decide +kernel
theorem dX7_writeLine_44 : decode cX7_writeLine 44 = .ok (.invokestatic 387, 3) := by decide +kernel
theorem dX7_writeLine_47 : decode cX7_writeLine 47 = .ok (.aload_n 0, 1) := by decide +kernel
theorem dX7_writeLine_48 : decode cX7_writeLine 48 = .ok (.bipush 66, 2) := by decide +kernel
theorem dX7_writeLine_50 : decode cX7_writeLine 50 = .ok (.aload_n 3, 1) := by decide +kernel
theorem dX7_writeLine_51 : decode cX7_writeLine 51 = .ok (.getfield 292, 3) := by decide +kernel
theorem dX7_writeLine_54 : decode cX7_writeLine 54 = .ok (.invokestatic 387, 3) := by decide +kernel
theorem dX7_writeLine_57 : decode cX7_writeLine 57 = .ok (.aload_n 0, 1) := by decide +kernel
theorem dX7_writeLine_58 : decode cX7_writeLine 58 = .ok (.bipush 72, 2) := by decide +kernel
theorem dX7_writeLine_60 : decode cX7_writeLine 60 = .ok (.aload_n 3, 1) := by decide +kernel
theorem dX7_writeLine_61 : decode cX7_writeLine 61 = .ok (.getfield 359, 3) := by decide +kernel
theorem dX7_writeLine_64 : decode cX7_writeLine 64 = .ok (.invokestatic 387, 3) := by decide +kernel
theorem dX7_writeLine_67 : decode cX7_writeLine 67 = .ok (.aload_n 0, 1) := by decide +kernel
theorem dX7_writeLine_68 : decode cX7_writeLine 68 = .ok (.bipush 84, 2) := by decide +kernel
theorem dX7_writeLine_70 : decode cX7_writeLine 70 = .ok (.aload_n 3, 1) := by decide +kernel
theorem dX7_writeLine_71 : decode cX7_writeLine 71 = .ok (.invokevirtual 220, 3) := by decide +kernel
theorem dX7_writeLine_74 : decode cX7_writeLine 74 = .ok (.invokestatic 387, 3) := by decide +kernel
theorem dX7_writeLine_77 : decode cX7_writeLine 77 = .ok (.return_, 1) := by decide +kernel
theorem dX7_writeAmount_0 : decode cX7_writeAmount 0 = .ok (.aload_n 0, 1) := by decide +kernel
theorem dX7_writeAmount_1 : decode cX7_writeAmount 1 = .ok (.bipush 32, 2) := by decide +kernel
theorem dX7_writeAmount_3 : decode cX7_writeAmount 3 = .ok (.invokevirtual 375, 3) := by decide +kernel
theorem dX7_writeAmount_6 : decode cX7_writeAmount 6 = .ok (.pop, 1) := by decide +kernel
theorem dX7_writeAmount_7 : decode cX7_writeAmount 7 = .ok (.aload_n 0, 1) := by decide +kernel
theorem dX7_writeAmount_8 : decode cX7_writeAmount 8 = .ok (.iload_n 1, 1) := by decide +kernel
theorem dX7_writeAmount_9 : decode cX7_writeAmount 9 = .ok (.invokevirtual 375, 3) := by decide +kernel
theorem dX7_writeAmount_12 : decode cX7_writeAmount 12 = .ok (.pop, 1) := by decide +kernel
theorem dX7_writeAmount_13 : decode cX7_writeAmount 13 = .ok (.aload_n 0, 1) := by decide +kernel
theorem dX7_writeAmount_14 : decode cX7_writeAmount 14 = .ok (.iload_n 2, 1) := by decide +kernel
theorem dX7_writeAmount_15 : decode cX7_writeAmount 15 = .ok (.bipush 100, 2) := by decide +kernel
theorem dX7_writeAmount_17 : decode cX7_writeAmount 17 = .ok (.idiv, 1) := by decide +kernel
theorem dX7_writeAmount_18 : decode cX7_writeAmount 18 = .ok (.invokestatic 391, 3) := by decide +kernel
theorem dX7_writeAmount_21 : decode cX7_writeAmount 21 = .ok (.aload_n 0, 1) := by decide +kernel
theorem dX7_writeAmount_22 : decode cX7_writeAmount 22 = .ok (.bipush 44, 2) := by decide +kernel
theorem dX7_writeAmount_24 : decode cX7_writeAmount 24 = .ok (.invokevirtual 375, 3) := by decide +kernel
theorem dX7_writeAmount_27 : decode cX7_writeAmount 27 = .ok (.pop, 1) := by decide +kernel
theorem dX7_writeAmount_28 : decode cX7_writeAmount 28 = .ok (.aload_n 0, 1) := by decide +kernel
theorem dX7_writeAmount_29 : decode cX7_writeAmount 29 = .ok (.iload_n 2, 1) := by decide +kernel
theorem dX7_writeAmount_30 : decode cX7_writeAmount 30 = .ok (.bipush 100, 2) := by decide +kernel
theorem dX7_writeAmount_32 : decode cX7_writeAmount 32 = .ok (.irem, 1) := by decide +kernel
theorem dX7_writeAmount_33 : decode cX7_writeAmount 33 = .ok (.bipush 10, 2) := by decide +kernel
theorem dX7_writeAmount_35 : decode cX7_writeAmount 35 = .ok (.invokestatic 395, 3) := by decide +kernel
theorem dX7_writeAmount_38 : decode cX7_writeAmount 38 = .ok (.return_, 1) := by decide +kernel
theorem dX7_writeWhole_0 : decode cX7_writeWhole 0 = .ok (.iconst 0, 1) := by decide +kernel
theorem dX7_writeWhole_1 : decode cX7_writeWhole 1 = .ok (.istore_n 2, 1) := by decide +kernel
theorem dX7_writeWhole_2 : decode cX7_writeWhole 2 = .ok (.ldc 121, 2) := by decide +kernel
theorem dX7_writeWhole_4 : decode cX7_writeWhole 4 = .ok (.istore_n 3, 1) := by decide +kernel
theorem dX7_writeWhole_5 : decode cX7_writeWhole 5 = .ok (.iload_n 3, 1) := by decide +kernel
theorem dX7_writeWhole_6 : decode cX7_writeWhole 6 = .ok (.ifCond .le 62, 3) := by decide +kernel
theorem dX7_writeWhole_9 : decode cX7_writeWhole 9 = .ok (.iload_n 1, 1) := by decide +kernel
theorem dX7_writeWhole_10 : decode cX7_writeWhole 10 = .ok (.iload_n 3, 1) := by decide +kernel
theorem dX7_writeWhole_11 : decode cX7_writeWhole 11 = .ok (.idiv, 1) := by decide +kernel
theorem dX7_writeWhole_12 : decode cX7_writeWhole 12 = .ok (.sipush 1000, 3) := by decide +kernel
theorem dX7_writeWhole_15 : decode cX7_writeWhole 15 = .ok (.irem, 1) := by decide +kernel
theorem dX7_writeWhole_16 : decode cX7_writeWhole 16 = .ok (.istore 4, 2) := by decide +kernel
theorem dX7_writeWhole_18 : decode cX7_writeWhole 18 = .ok (.iload_n 2, 1) := by decide +kernel
theorem dX7_writeWhole_19 : decode cX7_writeWhole 19 = .ok (.ifCond .eq 21, 3) := by decide +kernel
theorem dX7_writeWhole_22 : decode cX7_writeWhole 22 = .ok (.aload_n 0, 1) := by decide +kernel
theorem dX7_writeWhole_23 : decode cX7_writeWhole 23 = .ok (.bipush 46, 2) := by decide +kernel
theorem dX7_writeWhole_25 : decode cX7_writeWhole 25 = .ok (.invokevirtual 375, 3) := by decide +kernel
theorem dX7_writeWhole_28 : decode cX7_writeWhole 28 = .ok (.pop, 1) := by decide +kernel
theorem dX7_writeWhole_29 : decode cX7_writeWhole 29 = .ok (.aload_n 0, 1) := by decide +kernel
theorem dX7_writeWhole_30 : decode cX7_writeWhole 30 = .ok (.iload 4, 2) := by decide +kernel
theorem dX7_writeWhole_32 : decode cX7_writeWhole 32 = .ok (.bipush 100, 2) := by decide +kernel
theorem dX7_writeWhole_34 : decode cX7_writeWhole 34 = .ok (.invokestatic 395, 3) := by decide +kernel
theorem dX7_writeWhole_37 : decode cX7_writeWhole 37 = .ok (.goto 22, 3) := by decide +kernel
theorem dX7_writeWhole_40 : decode cX7_writeWhole 40 = .ok (.iload 4, 2) := by decide +kernel
theorem dX7_writeWhole_42 : decode cX7_writeWhole 42 = .ok (.ifCond .gt 8, 3) := by decide +kernel
theorem dX7_writeWhole_45 : decode cX7_writeWhole 45 = .ok (.iload_n 3, 1) := by decide +kernel
theorem dX7_writeWhole_46 : decode cX7_writeWhole 46 = .ok (.iconst 1, 1) := by decide +kernel
theorem dX7_writeWhole_47 : decode cX7_writeWhole 47 = .ok (.if_icmp .ne 12, 3) := by decide +kernel
theorem dX7_writeWhole_50 : decode cX7_writeWhole 50 = .ok (.aload_n 0, 1) := by decide +kernel
theorem dX7_writeWhole_51 : decode cX7_writeWhole 51 = .ok (.iload 4, 2) := by decide +kernel
theorem dX7_writeWhole_53 : decode cX7_writeWhole 53 = .ok (.invokevirtual 379, 3) := by decide +kernel
theorem dX7_writeWhole_56 : decode cX7_writeWhole 56 = .ok (.pop, 1) := by decide +kernel
theorem dX7_writeWhole_57 : decode cX7_writeWhole 57 = .ok (.iconst 1, 1) := by decide +kernel
theorem dX7_writeWhole_58 : decode cX7_writeWhole 58 = .ok (.istore_n 2, 1) := by decide +kernel
theorem dX7_writeWhole_59 : decode cX7_writeWhole 59 = .ok (.iload_n 3, 1) := by decide +kernel
theorem dX7_writeWhole_60 : decode cX7_writeWhole 60 = .ok (.sipush 1000, 3) := by decide +kernel
theorem dX7_writeWhole_63 : decode cX7_writeWhole 63 = .ok (.idiv, 1) := by decide +kernel
theorem dX7_writeWhole_64 : decode cX7_writeWhole 64 = .ok (.istore_n 3, 1) := by decide +kernel
theorem dX7_writeWhole_65 : decode cX7_writeWhole 65 = .ok (.goto (-60), 3) := by decide +kernel
theorem dX7_writeWhole_68 : decode cX7_writeWhole 68 = .ok (.return_, 1) := by decide +kernel
theorem dX7_writeDigits_0 : decode cX7_writeDigits 0 = .ok (.iload_n 2, 1) := by decide +kernel
theorem dX7_writeDigits_1 : decode cX7_writeDigits 1 = .ok (.istore_n 3, 1) := by decide +kernel
theorem dX7_writeDigits_2 : decode cX7_writeDigits 2 = .ok (.iload_n 3, 1) := by decide +kernel
theorem dX7_writeDigits_3 : decode cX7_writeDigits 3 = .ok (.ifCond .le 26, 3) := by decide +kernel
theorem dX7_writeDigits_6 : decode cX7_writeDigits 6 = .ok (.aload_n 0, 1) := by decide +kernel
theorem dX7_writeDigits_7 : decode cX7_writeDigits 7 = .ok (.bipush 48, 2) := by decide +kernel
theorem dX7_writeDigits_9 : decode cX7_writeDigits 9 = .ok (.iload_n 1, 1) := by decide +kernel
theorem dX7_writeDigits_10 : decode cX7_writeDigits 10 = .ok (.iload_n 3, 1) := by decide +kernel
theorem dX7_writeDigits_11 : decode cX7_writeDigits 11 = .ok (.idiv, 1) := by decide +kernel
theorem dX7_writeDigits_12 : decode cX7_writeDigits 12 = .ok (.bipush 10, 2) := by decide +kernel
theorem dX7_writeDigits_14 : decode cX7_writeDigits 14 = .ok (.irem, 1) := by decide +kernel
theorem dX7_writeDigits_15 : decode cX7_writeDigits 15 = .ok (.iadd, 1) := by decide +kernel
theorem dX7_writeDigits_16 : decode cX7_writeDigits 16 = .ok (.i2c, 1) := by decide +kernel
theorem dX7_writeDigits_17 : decode cX7_writeDigits 17 = .ok (.invokevirtual 375, 3) := by decide +kernel
theorem dX7_writeDigits_20 : decode cX7_writeDigits 20 = .ok (.pop, 1) := by decide +kernel
theorem dX7_writeDigits_21 : decode cX7_writeDigits 21 = .ok (.iload_n 3, 1) := by decide +kernel
theorem dX7_writeDigits_22 : decode cX7_writeDigits 22 = .ok (.bipush 10, 2) := by decide +kernel
theorem dX7_writeDigits_24 : decode cX7_writeDigits 24 = .ok (.idiv, 1) := by decide +kernel
theorem dX7_writeDigits_25 : decode cX7_writeDigits 25 = .ok (.istore_n 3, 1) := by decide +kernel
theorem dX7_writeDigits_26 : decode cX7_writeDigits 26 = .ok (.goto (-24), 3) := by decide +kernel
theorem dX7_writeDigits_29 : decode cX7_writeDigits 29 = .ok (.return_, 1) := by decide +kernel
theorem dX8_init_0 : decode cX8_init 0 = .ok (.aload_n 0, 1) := by decide +kernel
theorem dX8_init_1 : decode cX8_init 1 = .ok (.invokespecial 1, 3) := by decide +kernel
theorem dX8_init_4 : decode cX8_init 4 = .ok (.aload_n 0, 1) := by decide +kernel
theorem dX8_init_5 : decode cX8_init 5 = .ok (.bipush 8, 2) := by decide +kernel
theorem dX8_init_7 : decode cX8_init 7 = .ok (.newarray .int, 2) := by decide +kernel
theorem dX8_init_9 : decode cX8_init 9 = .ok (.putfield 7, 3) := by decide +kernel
theorem dX8_init_12 : decode cX8_init 12 = .ok (.aload_n 0, 1) := by decide +kernel
theorem dX8_init_13 : decode cX8_init 13 = .ok (.bipush 8, 2) := by decide +kernel
theorem dX8_init_15 : decode cX8_init 15 = .ok (.newarray .int, 2) := by decide +kernel
theorem dX8_init_17 : decode cX8_init 17 = .ok (.putfield 13, 3) := by decide +kernel
theorem dX8_init_20 : decode cX8_init 20 = .ok (.aload_n 0, 1) := by decide +kernel
theorem dX8_init_21 : decode cX8_init 21 = .ok (.bipush 8, 2) := by decide +kernel
theorem dX8_init_23 : decode cX8_init 23 = .ok (.newarray .int, 2) := by decide +kernel
theorem dX8_init_25 : decode cX8_init 25 = .ok (.putfield 16, 3) := by decide +kernel
theorem dX8_init_28 : decode cX8_init 28 = .ok (.aload_n 0, 1) := by decide +kernel
theorem dX8_init_29 : decode cX8_init 29 = .ok (.bipush 8, 2) := by decide +kernel
theorem dX8_init_31 : decode cX8_init 31 = .ok (.newarray .int, 2) := by decide +kernel
theorem dX8_init_33 : decode cX8_init 33 = .ok (.putfield 19, 3) := by decide +kernel
theorem dX8_init_36 : decode cX8_init 36 = .ok (.aload_n 0, 1) := by decide +kernel
theorem dX8_init_37 : decode cX8_init 37 = .ok (.bipush 8, 2) := by decide +kernel
theorem dX8_init_39 : decode cX8_init 39 = .ok (.newarray .int, 2) := by decide +kernel
theorem dX8_init_41 : decode cX8_init 41 = .ok (.putfield 22, 3) := by decide +kernel
theorem dX8_init_44 : decode cX8_init 44 = .ok (.aload_n 0, 1) := by decide +kernel
theorem dX8_init_45 : decode cX8_init 45 = .ok (.bipush 8, 2) := by decide +kernel
theorem dX8_init_47 : decode cX8_init 47 = .ok (.newarray .int, 2) := by decide +kernel
theorem dX8_init_49 : decode cX8_init 49 = .ok (.putfield 25, 3) := by decide +kernel
theorem dX8_init_52 : decode cX8_init 52 = .ok (.aload_n 0, 1) := by decide +kernel
theorem dX8_init_53 : decode cX8_init 53 = .ok (.sipush 968, 3) := by decide +kernel
theorem dX8_init_56 : decode cX8_init 56 = .ok (.newarray .int, 2) := by decide +kernel
theorem dX8_init_58 : decode cX8_init 58 = .ok (.putfield 28, 3) := by decide +kernel
theorem dX8_init_61 : decode cX8_init 61 = .ok (.aload_n 0, 1) := by decide +kernel
theorem dX8_init_62 : decode cX8_init 62 = .ok (.bipush 122, 2) := by decide +kernel
theorem dX8_init_64 : decode cX8_init 64 = .ok (.newarray .int, 2) := by decide +kernel
theorem dX8_init_66 : decode cX8_init 66 = .ok (.putfield 31, 3) := by decide +kernel
theorem dX8_init_69 : decode cX8_init 69 = .ok (.aload_n 0, 1) := by decide +kernel
theorem dX8_init_70 : decode cX8_init 70 = .ok (.bipush 60, 2) := by decide +kernel
theorem dX8_init_72 : decode cX8_init 72 = .ok (.newarray .int, 2) := by decide +kernel
theorem dX8_init_74 : decode cX8_init 74 = .ok (.putfield 34, 3) := by decide +kernel
theorem dX8_init_77 : decode cX8_init 77 = .ok (.aload_n 0, 1) := by decide +kernel
theorem dX8_init_78 : decode cX8_init 78 = .ok (.bipush 60, 2) := by decide +kernel
theorem dX8_init_80 : decode cX8_init 80 = .ok (.newarray .int, 2) := by decide +kernel
theorem dX8_init_82 : decode cX8_init 82 = .ok (.putfield 37, 3) := by decide +kernel
theorem dX8_init_85 : decode cX8_init 85 = .ok (.aload_n 0, 1) := by decide +kernel
theorem dX8_init_86 : decode cX8_init 86 = .ok (.bipush 60, 2) := by decide +kernel
theorem dX8_init_88 : decode cX8_init 88 = .ok (.newarray .int, 2) := by decide +kernel
theorem dX8_init_90 : decode cX8_init 90 = .ok (.putfield 40, 3) := by decide +kernel
theorem dX8_init_93 : decode cX8_init 93 = .ok (.aload_n 0, 1) := by decide +kernel
theorem dX8_init_94 : decode cX8_init 94 = .ok (.bipush 60, 2) := by decide +kernel
theorem dX8_init_96 : decode cX8_init 96 = .ok (.newarray .int, 2) := by decide +kernel
theorem dX8_init_98 : decode cX8_init 98 = .ok (.putfield 43, 3) := by decide +kernel
theorem dX8_init_101 : decode cX8_init 101 = .ok (.aload_n 0, 1) := by decide +kernel
theorem dX8_init_102 : decode cX8_init 102 = .ok (.bipush 60, 2) := by decide +kernel
theorem dX8_init_104 : decode cX8_init 104 = .ok (.newarray .boolean, 2) := by decide +kernel
theorem dX8_init_106 : decode cX8_init 106 = .ok (.putfield 46, 3) := by decide +kernel
theorem dX8_init_109 : decode cX8_init 109 = .ok (.aload_n 0, 1) := by decide +kernel
theorem dX8_init_110 : decode cX8_init 110 = .ok (.bipush 12, 2) := by decide +kernel
theorem dX8_init_112 : decode cX8_init 112 = .ok (.newarray .int, 2) := by decide +kernel
theorem dX8_init_114 : decode cX8_init 114 = .ok (.putfield 50, 3) := by decide +kernel
theorem dX8_init_117 : decode cX8_init 117 = .ok (.aload_n 0, 1) := by decide +kernel
theorem dX8_init_118 : decode cX8_init 118 = .ok (.bipush 12, 2) := by decide +kernel
theorem dX8_init_120 : decode cX8_init 120 = .ok (.newarray .int, 2) := by decide +kernel
theorem dX8_init_122 : decode cX8_init 122 = .ok (.putfield 53, 3) := by decide +kernel
theorem dX8_init_125 : decode cX8_init 125 = .ok (.aload_n 0, 1) := by decide +kernel
theorem dX8_init_126 : decode cX8_init 126 = .ok (.bipush 12, 2) := by decide +kernel
theorem dX8_init_128 : decode cX8_init 128 = .ok (.newarray .int, 2) := by decide +kernel
theorem dX8_init_130 : decode cX8_init 130 = .ok (.putfield 56, 3) := by decide +kernel
theorem dX8_init_133 : decode cX8_init 133 = .ok (.aload_n 0, 1) := by decide +kernel
theorem dX8_init_134 : decode cX8_init 134 = .ok (.bipush 12, 2) := by decide +kernel
theorem dX8_init_136 : decode cX8_init 136 = .ok (.newarray .int, 2) := by decide +kernel
theorem dX8_init_138 : decode cX8_init 138 = .ok (.putfield 59, 3) := by decide +kernel
theorem dX8_init_141 : decode cX8_init 141 = .ok (.aload_n 0, 1) := by decide +kernel
theorem dX8_init_142 : decode cX8_init 142 = .ok (.bipush 12, 2) := by decide +kernel
theorem dX8_init_144 : decode cX8_init 144 = .ok (.newarray .long, 2) := by decide +kernel
theorem dX8_init_146 : decode cX8_init 146 = .ok (.putfield 62, 3) := by decide +kernel
theorem dX8_init_149 : decode cX8_init 149 = .ok (.aload_n 0, 1) := by decide +kernel
theorem dX8_init_150 : decode cX8_init 150 = .ok (.bipush 12, 2) := by decide +kernel
theorem dX8_init_152 : decode cX8_init 152 = .ok (.newarray .long, 2) := by decide +kernel
theorem dX8_init_154 : decode cX8_init 154 = .ok (.putfield 66, 3) := by decide +kernel
theorem dX8_init_157 : decode cX8_init 157 = .ok (.aload_n 0, 1) := by decide +kernel
theorem dX8_init_158 : decode cX8_init 158 = .ok (.sipush 1452, 3) := by decide +kernel
theorem dX8_init_161 : decode cX8_init 161 = .ok (.newarray .int, 2) := by decide +kernel
theorem dX8_init_163 : decode cX8_init 163 = .ok (.putfield 69, 3) := by decide +kernel
theorem dX8_init_166 : decode cX8_init 166 = .ok (.aload_n 0, 1) := by decide +kernel
theorem dX8_init_167 : decode cX8_init 167 = .ok (.sipush 1452, 3) := by decide +kernel
theorem dX8_init_170 : decode cX8_init 170 = .ok (.newarray .boolean, 2) := by decide +kernel
theorem dX8_init_172 : decode cX8_init 172 = .ok (.putfield 72, 3) := by decide +kernel
theorem dX8_init_175 : decode cX8_init 175 = .ok (.aload_n 0, 1) := by decide +kernel
theorem dX8_init_176 : decode cX8_init 176 = .ok (.sipush 1452, 3) := by decide +kernel
theorem dX8_init_179 : decode cX8_init 179 = .ok (.newarray .int, 2) := by decide +kernel
theorem dX8_init_181 : decode cX8_init 181 = .ok (.putfield 75, 3) := by decide +kernel
theorem dX8_init_184 : decode cX8_init 184 = .ok (.aload_n 0, 1) := by decide +kernel
theorem dX8_init_185 : decode cX8_init 185 = .ok (.sipush 1452, 3) := by decide +kernel
theorem dX8_init_188 : decode cX8_init 188 = .ok (.newarray .int, 2) := by decide +kernel
theorem dX8_init_190 : decode cX8_init 190 = .ok (.putfield 78, 3) := by decide +kernel
theorem dX8_init_193 : decode cX8_init 193 = .ok (.aload_n 0, 1) := by decide +kernel
theorem dX8_init_194 : decode cX8_init 194 = .ok (.sipush 1452, 3) := by decide +kernel
theorem dX8_init_197 : decode cX8_init 197 = .ok (.newarray .int, 2) := by decide +kernel
theorem dX8_init_199 : decode cX8_init 199 = .ok (.putfield 81, 3) := by decide +kernel
theorem dX8_init_202 : decode cX8_init 202 = .ok (.aload_n 0, 1) := by decide +kernel
theorem dX8_init_203 : decode cX8_init 203 = .ok (.sipush 1452, 3) := by decide +kernel
theorem dX8_init_206 : decode cX8_init 206 = .ok (.newarray .int, 2) := by decide +kernel
theorem dX8_init_208 : decode cX8_init 208 = .ok (.putfield 84, 3) := by decide +kernel
theorem dX8_init_211 : decode cX8_init 211 = .ok (.aload_n 0, 1) := by decide +kernel
theorem dX8_init_212 : decode cX8_init 212 = .ok (.bipush 12, 2) := by decide +kernel
theorem dX8_init_214 : decode cX8_init 214 = .ok (.newarray .int, 2) := by decide +kernel
theorem dX8_init_216 : decode cX8_init 216 = .ok (.putfield 87, 3) := by decide +kernel
theorem dX8_init_219 : decode cX8_init 219 = .ok (.aload_n 0, 1) := by decide +kernel
theorem dX8_init_220 : decode cX8_init 220 = .ok (.bipush 12, 2) := by decide +kernel
theorem dX8_init_222 : decode cX8_init 222 = .ok (.newarray .long, 2) := by decide +kernel
theorem dX8_init_224 : decode cX8_init 224 = .ok (.putfield 90, 3) := by decide +kernel
theorem dX8_init_227 : decode cX8_init 227 = .ok (.aload_n 0, 1) := by decide +kernel
theorem dX8_init_228 : decode cX8_init 228 = .ok (.bipush 12, 2) := by decide +kernel
theorem dX8_init_230 : decode cX8_init 230 = .ok (.newarray .long, 2) := by decide +kernel
theorem dX8_init_232 : decode cX8_init 232 = .ok (.putfield 93, 3) := by decide +kernel
theorem dX8_init_235 : decode cX8_init 235 = .ok (.aload_n 0, 1) := by decide +kernel
theorem dX8_init_236 : decode cX8_init 236 = .ok (.bipush 12, 2) := by decide +kernel
theorem dX8_init_238 : decode cX8_init 238 = .ok (.newarray .int, 2) := by decide +kernel
theorem dX8_init_240 : decode cX8_init 240 = .ok (.putfield 96, 3) := by decide +kernel
theorem dX8_init_243 : decode cX8_init 243 = .ok (.aload_n 0, 1) := by decide +kernel
theorem dX8_init_244 : decode cX8_init 244 = .ok (.bipush 12, 2) := by decide +kernel
theorem dX8_init_246 : decode cX8_init 246 = .ok (.newarray .long, 2) := by decide +kernel
theorem dX8_init_248 : decode cX8_init 248 = .ok (.putfield 99, 3) := by decide +kernel
theorem dX8_init_251 : decode cX8_init 251 = .ok (.aload_n 0, 1) := by decide +kernel
theorem dX8_init_252 : decode cX8_init 252 = .ok (.bipush 12, 2) := by decide +kernel
theorem dX8_init_254 : decode cX8_init 254 = .ok (.newarray .long, 2) := by decide +kernel
theorem dX8_init_256 : decode cX8_init 256 = .ok (.putfield 102, 3) := by decide +kernel
theorem dX8_init_259 : decode cX8_init 259 = .ok (.aload_n 0, 1) := by decide +kernel
theorem dX8_init_260 : decode cX8_init 260 = .ok (.bipush 12, 2) := by decide +kernel
theorem dX8_init_262 : decode cX8_init 262 = .ok (.newarray .long, 2) := by decide +kernel
theorem dX8_init_264 : decode cX8_init 264 = .ok (.putfield 105, 3) := by decide +kernel
theorem dX8_init_267 : decode cX8_init 267 = .ok (.aload_n 0, 1) := by decide +kernel
theorem dX8_init_268 : decode cX8_init 268 = .ok (.bipush 100, 2) := by decide +kernel
theorem dX8_init_270 : decode cX8_init 270 = .ok (.newarray .char, 2) := by decide +kernel
theorem dX8_init_272 : decode cX8_init 272 = .ok (.putfield 108, 3) := by decide +kernel
theorem dX8_init_275 : decode cX8_init 275 = .ok (.aload_n 0, 1) := by decide +kernel
theorem dX8_init_276 : decode cX8_init 276 = .ok (.getfield 31, 3) := by decide +kernel
theorem dX8_init_279 : decode cX8_init 279 = .ok (.iconst 0, 1) := by decide +kernel
theorem dX8_init_280 : decode cX8_init 280 = .ok (.bipush 100, 2) := by decide +kernel
theorem dX8_init_282 : decode cX8_init 282 = .ok (.iastore, 1) := by decide +kernel
theorem dX8_init_283 : decode cX8_init 283 = .ok (.aload_n 0, 1) := by decide +kernel
theorem dX8_init_284 : decode cX8_init 284 = .ok (.getfield 31, 3) := by decide +kernel
theorem dX8_init_287 : decode cX8_init 287 = .ok (.iconst 1, 1) := by decide +kernel
theorem dX8_init_288 : decode cX8_init 288 = .ok (.bipush 100, 2) := by decide +kernel
theorem dX8_init_290 : decode cX8_init 290 = .ok (.iastore, 1) := by decide +kernel
theorem dX8_init_291 : decode cX8_init 291 = .ok (.iconst 0, 1) := by decide +kernel
theorem dX8_init_292 : decode cX8_init 292 = .ok (.istore_n 1, 1) := by decide +kernel
theorem dX8_init_293 : decode cX8_init 293 = .ok (.iload_n 1, 1) := by decide +kernel
theorem dX8_init_294 : decode cX8_init 294 = .ok (.sipush 1452, 3) := by decide +kernel
theorem dX8_init_297 : decode cX8_init 297 = .ok (.if_icmp .ge 16, 3) := by decide +kernel
theorem dX8_init_300 : decode cX8_init 300 = .ok (.aload_n 0, 1) := by decide +kernel
theorem dX8_init_301 : decode cX8_init 301 = .ok (.getfield 69, 3) := by decide +kernel
theorem dX8_init_304 : decode cX8_init 304 = .ok (.iload_n 1, 1) := by decide +kernel
theorem dX8_init_305 : decode cX8_init 305 = .ok (.iconst (-1), 1) := by decide +kernel
theorem dX8_init_306 : decode cX8_init 306 = .ok (.iastore, 1) := by decide +kernel
theorem dX8_init_307 : decode cX8_init 307 = .ok (.iinc 1 1, 3) := by decide +kernel
theorem dX8_init_310 : decode cX8_init 310 = .ok (.goto (-17), 3) := by decide +kernel
theorem dX8_init_313 : decode cX8_init 313 = .ok (.iconst 0, 1) := by decide +kernel
theorem dX8_init_314 : decode cX8_init 314 = .ok (.istore_n 1, 1) := by decide +kernel
theorem dX8_init_315 : decode cX8_init 315 = .ok (.iload_n 1, 1) := by decide +kernel
theorem dX8_init_316 : decode cX8_init 316 = .ok (.sipush 968, 3) := by decide +kernel
theorem dX8_init_319 : decode cX8_init 319 = .ok (.if_icmp .ge 16, 3) := by decide +kernel
theorem dX8_init_322 : decode cX8_init 322 = .ok (.aload_n 0, 1) := by decide +kernel
theorem dX8_init_323 : decode cX8_init 323 = .ok (.getfield 28, 3) := by decide +kernel
theorem dX8_init_326 : decode cX8_init 326 = .ok (.iload_n 1, 1) := by decide +kernel
theorem dX8_init_327 : decode cX8_init 327 = .ok (.iconst (-1), 1) := by decide +kernel
theorem dX8_init_328 : decode cX8_init 328 = .ok (.iastore, 1) := by decide +kernel
theorem dX8_init_329 : decode cX8_init 329 = .ok (.iinc 1 1, 3) := by decide +kernel
theorem dX8_init_332 : decode cX8_init 332 = .ok (.goto (-17), 3) := by decide +kernel
theorem dX8_init_335 : decode cX8_init 335 = .ok (.return_, 1) := by decide +kernel
theorem dX8_thrown_0 : decode cX8_thrown 0 = .ok (.aload_n 0, 1) := by decide +kernel
theorem dX8_thrown_1 : decode cX8_thrown 1 = .ok (.getfield 112, 3) := by decide +kernel
theorem dX8_thrown_4 : decode cX8_thrown 4 = .ok (.ireturn, 1) := by decide +kernel
theorem dX8_holds_0 : decode cX8_holds 0 = .ok (.aload_n 0, 1) := by decide +kernel
theorem dX8_holds_1 : decode cX8_holds 1 = .ok (.iload_n 1, 1) := by decide +kernel
theorem dX8_holds_2 : decode cX8_holds 2 = .ok (.putfield 112, 3) := by decide +kernel
theorem dX8_holds_5 : decode cX8_holds 5 = .ok (.iload_n 1, 1) := by decide +kernel
theorem dX8_holds_6 : decode cX8_holds 6 = .ok (.ifCond .ne 7, 3) := by decide +kernel
theorem dX8_holds_9 : decode cX8_holds 9 = .ok (.iconst 1, 1) := by decide +kernel
theorem dX8_holds_10 : decode cX8_holds 10 = .ok (.goto 4, 3) := by decide +kernel
theorem dX8_holds_13 : decode cX8_holds 13 = .ok (.iconst 0, 1) := by decide +kernel
theorem dX8_holds_14 : decode cX8_holds 14 = .ok (.ireturn, 1) := by decide +kernel
theorem dX8_in_0 : decode cX8_in 0 = .ok (.iload_n 0, 1) := by decide +kernel
theorem dX8_in_1 : decode cX8_in 1 = .ok (.iload_n 1, 1) := by decide +kernel
theorem dX8_in_2 : decode cX8_in 2 = .ok (.if_icmp .lt 12, 3) := by decide +kernel
theorem dX8_in_5 : decode cX8_in 5 = .ok (.iload_n 0, 1) := by decide +kernel
theorem dX8_in_6 : decode cX8_in 6 = .ok (.iload_n 2, 1) := by decide +kernel
theorem dX8_in_7 : decode cX8_in 7 = .ok (.if_icmp .gt 7, 3) := by decide +kernel
theorem dX8_in_10 : decode cX8_in 10 = .ok (.iconst 1, 1) := by decide +kernel
theorem dX8_in_11 : decode cX8_in 11 = .ok (.goto 4, 3) := by decide +kernel
theorem dX8_in_14 : decode cX8_in 14 = .ok (.iconst 0, 1) := by decide +kernel
theorem dX8_in_15 : decode cX8_in 15 = .ok (.ireturn, 1) := by decide +kernel
theorem dX8_isFlat_0 : decode cX8_isFlat 0 = .ok (.iload_n 1, 1) := by decide +kernel
theorem dX8_isFlat_1 : decode cX8_isFlat 1 = .ok (.iconst 0, 1) := by decide +kernel
theorem dX8_isFlat_2 : decode cX8_isFlat 2 = .ok (.aload_n 0, 1) := by decide +kernel
theorem dX8_isFlat_3 : decode cX8_isFlat 3 = .ok (.getfield 116, 3) := by decide +kernel
theorem dX8_isFlat_6 : decode cX8_isFlat 6 = .ok (.iconst 1, 1) := by decide +kernel
theorem dX8_isFlat_7 : decode cX8_isFlat 7 = .ok (.isub, 1) := by decide +kernel
theorem dX8_isFlat_8 : decode cX8_isFlat 8 = .ok (.invokestatic 119, 3) := by decide +kernel
theorem dX8_isFlat_11 : decode cX8_isFlat 11 = .ok (.ireturn, 1) := by decide +kernel
theorem dX8_isLease_0 : decode cX8_isLease 0 = .ok (.iload_n 1, 1) := by decide +kernel
theorem dX8_isLease_1 : decode cX8_isLease 1 = .ok (.iconst 0, 1) := by decide +kernel
theorem dX8_isLease_2 : decode cX8_isLease 2 = .ok (.aload_n 0, 1) := by decide +kernel
theorem dX8_isLease_3 : decode cX8_isLease 3 = .ok (.getfield 123, 3) := by decide +kernel
theorem dX8_isLease_6 : decode cX8_isLease 6 = .ok (.iconst 1, 1) := by decide +kernel
theorem dX8_isLease_7 : decode cX8_isLease 7 = .ok (.isub, 1) := by decide +kernel
theorem dX8_isLease_8 : decode cX8_isLease 8 = .ok (.invokestatic 119, 3) := by decide +kernel
theorem dX8_isLease_11 : decode cX8_isLease 11 = .ok (.ireturn, 1) := by decide +kernel
theorem dX8_month_0 : decode cX8_month 0 = .ok (.aload_n 0, 1) := by decide +kernel
theorem dX8_month_1 : decode cX8_month 1 = .ok (.getfield 126, 3) := by decide +kernel
theorem dX8_month_4 : decode cX8_month 4 = .ok (.bipush 30, 2) := by decide +kernel
theorem dX8_month_6 : decode cX8_month 6 = .ok (.idiv, 1) := by decide +kernel
theorem dX8_month_7 : decode cX8_month 7 = .ok (.ireturn, 1) := by decide +kernel
theorem dX8_isMonth_0 : decode cX8_isMonth 0 = .ok (.iload_n 1, 1) := by decide +kernel
theorem dX8_isMonth_1 : decode cX8_isMonth 1 = .ok (.iconst 0, 1) := by decide +kernel
theorem dX8_isMonth_2 : decode cX8_isMonth 2 = .ok (.aload_n 0, 1) := by decide +kernel
theorem dX8_isMonth_3 : decode cX8_isMonth 3 = .ok (.invokevirtual 129, 3) := by decide +kernel
theorem dX8_isMonth_6 : decode cX8_isMonth 6 = .ok (.invokestatic 119, 3) := by decide +kernel
theorem dX8_isMonth_9 : decode cX8_isMonth 9 = .ok (.ireturn, 1) := by decide +kernel
theorem dX8_at_0 : decode cX8_at 0 = .ok (.bipush 121, 2) := by decide +kernel
theorem dX8_at_2 : decode cX8_at 2 = .ok (.iload_n 0, 1) := by decide +kernel
theorem dX8_at_3 : decode cX8_at 3 = .ok (.imul, 1) := by decide +kernel
theorem dX8_at_4 : decode cX8_at 4 = .ok (.iload_n 1, 1) := by decide +kernel
theorem dX8_at_5 : decode cX8_at 5 = .ok (.iadd, 1) := by decide +kernel
theorem dX8_at_6 : decode cX8_at 6 = .ok (.ireturn, 1) := by decide +kernel
theorem dX8_flat_0 : decode cX8_flat 0 = .ok (.aload_n 0, 1) := by decide +kernel
theorem dX8_flat_1 : decode cX8_flat 1 = .ok (.iload_n 1, 1) := by decide +kernel
theorem dX8_flat_2 : decode cX8_flat 2 = .ok (.iconst 1, 1) := by decide +kernel
theorem dX8_flat_3 : decode cX8_flat 3 = .ok (.bipush 9, 2) := by decide +kernel
theorem dX8_flat_5 : decode cX8_flat 5 = .ok (.invokestatic 119, 3) := by decide +kernel
theorem dX8_flat_8 : decode cX8_flat 8 = .ok (.ifCond .ne 7, 3) := by decide +kernel
theorem dX8_flat_11 : decode cX8_flat 11 = .ok (.iconst 1, 1) := by decide +kernel
theorem dX8_flat_12 : decode cX8_flat 12 = .ok (.goto 17, 3) := by decide +kernel
theorem dX8_flat_15 : decode cX8_flat 15 = .ok (.aload_n 0, 1) := by decide +kernel
theorem dX8_flat_16 : decode cX8_flat 16 = .ok (.getfield 116, 3) := by decide +kernel
theorem dX8_flat_19 : decode cX8_flat 19 = .ok (.bipush 8, 2) := by decide +kernel
theorem dX8_flat_21 : decode cX8_flat 21 = .ok (.if_icmp .ne 7, 3) := by decide +kernel
theorem dX8_flat_24 : decode cX8_flat 24 = .ok (.iconst 2, 1) := by decide +kernel
theorem dX8_flat_25 : decode cX8_flat 25 = .ok (.goto 4, 3) := by decide +kernel
theorem dX8_flat_28 : decode cX8_flat 28 = .ok (.iconst 0, 1) := by decide +kernel
theorem dX8_flat_29 : decode cX8_flat 29 = .ok (.invokevirtual 133, 3) := by decide +kernel
theorem dX8_flat_32 : decode cX8_flat 32 = .ok (.ifCond .ne 5, 3) := by decide +kernel
theorem dX8_flat_35 : decode cX8_flat 35 = .ok (.iconst 0, 1) := by decide +kernel
theorem dX8_flat_36 : decode cX8_flat 36 = .ok (.ireturn, 1) := by decide +kernel
theorem dX8_flat_37 : decode cX8_flat 37 = .ok (.aload_n 0, 1) := by decide +kernel
theorem dX8_flat_38 : decode cX8_flat 38 = .ok (.getfield 7, 3) := by decide +kernel
theorem dX8_flat_41 : decode cX8_flat 41 = .ok (.aload_n 0, 1) := by decide +kernel
theorem dX8_flat_42 : decode cX8_flat 42 = .ok (.getfield 116, 3) := by decide +kernel
theorem dX8_flat_45 : decode cX8_flat 45 = .ok (.iload_n 1, 1) := by decide +kernel
theorem dX8_flat_46 : decode cX8_flat 46 = .ok (.iastore, 1) := by decide +kernel
theorem dX8_flat_47 : decode cX8_flat 47 = .ok (.aload_n 0, 1) := by decide +kernel
theorem dX8_flat_48 : decode cX8_flat 48 = .ok (.getfield 13, 3) := by decide +kernel
theorem dX8_flat_51 : decode cX8_flat 51 = .ok (.aload_n 0, 1) := by decide +kernel
theorem dX8_flat_52 : decode cX8_flat 52 = .ok (.getfield 116, 3) := by decide +kernel
theorem dX8_flat_55 : decode cX8_flat 55 = .ok (.aload_n 0, 1) := by decide +kernel
theorem dX8_flat_56 : decode cX8_flat 56 = .ok (.invokevirtual 129, 3) := by decide +kernel
theorem dX8_flat_59 : decode cX8_flat 59 = .ok (.iastore, 1) := by decide +kernel
theorem dX8_flat_60 : decode cX8_flat 60 = .ok (.aload_n 0, 1) := by decide +kernel
theorem dX8_flat_61 : decode cX8_flat 61 = .ok (.getfield 19, 3) := by decide +kernel
theorem dX8_flat_64 : decode cX8_flat 64 = .ok (.aload_n 0, 1) := by decide +kernel
theorem dX8_flat_65 : decode cX8_flat 65 = .ok (.getfield 116, 3) := by decide +kernel
theorem dX8_flat_68 : decode cX8_flat 68 = .ok (.iconst (-1), 1) := by decide +kernel
theorem dX8_flat_69 : decode cX8_flat 69 = .ok (.iastore, 1) := by decide +kernel
theorem dX8_flat_70 : decode cX8_flat 70 = .ok (.aload_n 0, 1) := by decide +kernel
theorem dX8_flat_71 : decode cX8_flat 71 = .ok (.dup, 1) := by decide +kernel
theorem dX8_flat_72 : decode cX8_flat 72 = .ok (.getfield 116, 3) := by decide +kernel
theorem dX8_flat_75 : decode cX8_flat 75 = .ok (.iconst 1, 1) := by decide +kernel
theorem dX8_flat_76 : decode cX8_flat 76 = .ok (.iadd, 1) := by decide +kernel
theorem dX8_flat_77 : decode cX8_flat 77 = .ok (.putfield 116, 3) := by decide +kernel
theorem dX8_flat_80 : decode cX8_flat 80 = .ok (.aload_n 0, 1) := by decide +kernel
theorem dX8_flat_81 : decode cX8_flat 81 = .ok (.getfield 116, 3) := by decide +kernel
theorem dX8_flat_84 : decode cX8_flat 84 = .ok (.iconst 1, 1) := by decide +kernel
theorem dX8_flat_85 : decode cX8_flat 85 = .ok (.isub, 1) := by decide +kernel
theorem dX8_flat_86 : decode cX8_flat 86 = .ok (.ireturn, 1) := by decide +kernel
theorem dX8_runs_0 : decode cX8_runs 0 = .ok (.aload_n 0, 1) := by decide +kernel
theorem dX8_runs_1 : decode cX8_runs 1 = .ok (.getfield 56, 3) := by decide +kernel
theorem dX8_runs_4 : decode cX8_runs 4 = .ok (.iload_n 1, 1) := by decide +kernel
theorem dX8_runs_5 : decode cX8_runs 5 = .ok (.iaload, 1) := by decide +kernel
theorem dX8_runs_6 : decode cX8_runs 6 = .ok (.iload_n 2, 1) := by decide +kernel
theorem dX8_runs_7 : decode cX8_runs 7 = .ok (.if_icmp .gt 17, 3) := by decide +kernel
theorem dX8_runs_10 : decode cX8_runs 10 = .ok (.iload_n 2, 1) := by decide +kernel
theorem dX8_runs_11 : decode cX8_runs 11 = .ok (.aload_n 0, 1) := by decide +kernel
theorem dX8_runs_12 : decode cX8_runs 12 = .ok (.getfield 59, 3) := by decide +kernel
theorem dX8_runs_15 : decode cX8_runs 15 = .ok (.iload_n 1, 1) := by decide +kernel
theorem dX8_runs_16 : decode cX8_runs 16 = .ok (.iaload, 1) := by decide +kernel
theorem dX8_runs_17 : decode cX8_runs 17 = .ok (.if_icmp .gt 7, 3) := by decide +kernel
theorem dX8_runs_20 : decode cX8_runs 20 = .ok (.iconst 1, 1) := by decide +kernel
theorem dX8_runs_21 : decode cX8_runs 21 = .ok (.goto 4, 3) := by decide +kernel
theorem dX8_runs_24 : decode cX8_runs 24 = .ok (.iconst 0, 1) := by decide +kernel
theorem dX8_runs_25 : decode cX8_runs 25 = .ok (.ireturn, 1) := by decide +kernel
theorem dX8_isLet_0 : decode cX8_isLet 0 = .ok (.iconst 0, 1) := by decide +kernel
theorem dX8_isLet_1 : decode cX8_isLet 1 = .ok (.istore_n 2, 1) := by decide +kernel
theorem dX8_isLet_2 : decode cX8_isLet 2 = .ok (.iconst 0, 1) := by decide +kernel
theorem dX8_isLet_3 : decode cX8_isLet 3 = .ok (.istore_n 3, 1) := by decide +kernel
theorem dX8_isLet_4 : decode cX8_isLet 4 = .ok (.iload_n 3, 1) := by decide +kernel
theorem dX8_isLet_5 : decode cX8_isLet 5 = .ok (.aload_n 0, 1) := by decide +kernel
theorem dX8_isLet_6 : decode cX8_isLet 6 = .ok (.getfield 123, 3) := by decide +kernel
theorem dX8_isLet_9 : decode cX8_isLet 9 = .ok (.if_icmp .ge 43, 3) := by decide +kernel
theorem dX8_isLet_12 : decode cX8_isLet 12 = .ok (.iload_n 2, 1) := by decide +kernel
theorem dX8_isLet_13 : decode cX8_isLet 13 = .ok (.ifCond .ne 27, 3) := by decide +kernel
theorem dX8_isLet_16 : decode cX8_isLet 16 = .ok (.aload_n 0, 1) := by decide +kernel
theorem dX8_isLet_17 : decode cX8_isLet 17 = .ok (.getfield 50, 3) := by decide +kernel
theorem dX8_isLet_20 : decode cX8_isLet 20 = .ok (.iload_n 3, 1) := by decide +kernel
theorem dX8_isLet_21 : decode cX8_isLet 21 = .ok (.iaload, 1) := by decide +kernel
theorem dX8_isLet_22 : decode cX8_isLet 22 = .ok (.iload_n 1, 1) := by decide +kernel
theorem dX8_isLet_23 : decode cX8_isLet 23 = .ok (.if_icmp .ne 21, 3) := by decide +kernel
theorem dX8_isLet_26 : decode cX8_isLet 26 = .ok (.aload_n 0, 1) := by decide +kernel
theorem dX8_isLet_27 : decode cX8_isLet 27 = .ok (.iload_n 3, 1) := by decide +kernel
theorem dX8_isLet_28 : decode cX8_isLet 28 = .ok (.aload_n 0, 1) := by decide +kernel
theorem dX8_isLet_29 : decode cX8_isLet 29 = .ok (.invokevirtual 129, 3) := by decide +kernel
theorem dX8_isLet_32 : decode cX8_isLet 32 = .ok (.iconst 1, 1) := by decide +kernel
theorem dX8_isLet_33 : decode cX8_isLet 33 = .ok (.iadd, 1) := by decide +kernel
theorem dX8_isLet_34 : decode cX8_isLet 34 = .ok (.invokevirtual 137, 3) := by decide +kernel
theorem dX8_isLet_37 : decode cX8_isLet 37 = .ok (.ifCond .eq 7, 3) := by decide +kernel
theorem dX8_isLet_40 : decode cX8_isLet 40 = .ok (.iconst 1, 1) := by decide +kernel
theorem dX8_isLet_41 : decode cX8_isLet 41 = .ok (.goto 4, 3) := by decide +kernel
theorem dX8_isLet_44 : decode cX8_isLet 44 = .ok (.iconst 0, 1) := by decide +kernel
theorem dX8_isLet_45 : decode cX8_isLet 45 = .ok (.istore_n 2, 1) := by decide +kernel
theorem dX8_isLet_46 : decode cX8_isLet 46 = .ok (.iinc 3 1, 3) := by decide +kernel
theorem dX8_isLet_49 : decode cX8_isLet 49 = .ok (.goto (-45), 3) := by decide +kernel
theorem dX8_isLet_52 : decode cX8_isLet 52 = .ok (.iload_n 2, 1) := by decide +kernel
theorem dX8_isLet_53 : decode cX8_isLet 53 = .ok (.ireturn, 1) := by decide +kernel
theorem dX8_lease_0 : decode cX8_lease 0 = .ok (.aload_n 0, 1) := by decide +kernel
theorem dX8_lease_1 : decode cX8_lease 1 = .ok (.iload_n 1, 1) := by decide +kernel
theorem dX8_lease_2 : decode cX8_lease 2 = .ok (.invokevirtual 141, 3) := by decide +kernel
theorem dX8_lease_5 : decode cX8_lease 5 = .ok (.istore_n 3, 1) := by decide +kernel
theorem dX8_lease_6 : decode cX8_lease 6 = .ok (.aload_n 0, 1) := by decide +kernel
theorem dX8_lease_7 : decode cX8_lease 7 = .ok (.iload_n 3, 1) := by decide +kernel
theorem dX8_lease_8 : decode cX8_lease 8 = .ok (.ifCond .ne 7, 3) := by decide +kernel
theorem dX8_lease_11 : decode cX8_lease 11 = .ok (.iconst 1, 1) := by decide +kernel
theorem dX8_lease_12 : decode cX8_lease 12 = .ok (.goto 39, 3) := by decide +kernel
theorem dX8_lease_15 : decode cX8_lease 15 = .ok (.iload_n 2, 1) := by decide +kernel
theorem dX8_lease_16 : decode cX8_lease 16 = .ok (.iconst 0, 1) := by decide +kernel
theorem dX8_lease_17 : decode cX8_lease 17 = .ok (.ldc 144, 2) := by decide +kernel
theorem dX8_lease_19 : decode cX8_lease 19 = .ok (.invokestatic 119, 3) := by decide +kernel
theorem dX8_lease_22 : decode cX8_lease 22 = .ok (.ifCond .ne 7, 3) := by decide +kernel
theorem dX8_lease_25 : decode cX8_lease 25 = .ok (.iconst 2, 1) := by decide +kernel
theorem dX8_lease_26 : decode cX8_lease 26 = .ok (.goto 25, 3) := by decide +kernel
theorem dX8_lease_29 : decode cX8_lease 29 = .ok (.aload_n 0, 1) := by decide +kernel
theorem dX8_lease_30 : decode cX8_lease 30 = .ok (.getfield 123, 3) := by decide +kernel
theorem dX8_lease_33 : decode cX8_lease 33 = .ok (.bipush 12, 2) := by decide +kernel
theorem dX8_lease_35 : decode cX8_lease 35 = .ok (.if_icmp .eq 11, 3) := by decide +kernel
theorem dX8_lease_38 : decode cX8_lease 38 = .ok (.aload_n 0, 1) := by decide +kernel
theorem dX8_lease_39 : decode cX8_lease 39 = .ok (.iload_n 1, 1) := by decide +kernel
theorem dX8_lease_40 : decode cX8_lease 40 = .ok (.invokevirtual 145, 3) := by decide +kernel
theorem dX8_lease_43 : decode cX8_lease 43 = .ok (.ifCond .eq 7, 3) := by decide +kernel
theorem dX8_lease_46 : decode cX8_lease 46 = .ok (.iconst 3, 1) := by decide +kernel
theorem dX8_lease_47 : decode cX8_lease 47 = .ok (.goto 4, 3) := by decide +kernel
theorem dX8_lease_50 : decode cX8_lease 50 = .ok (.iconst 0, 1) := by decide +kernel
theorem dX8_lease_51 : decode cX8_lease 51 = .ok (.invokevirtual 133, 3) := by decide +kernel
theorem dX8_lease_54 : decode cX8_lease 54 = .ok (.ifCond .ne 5, 3) := by decide +kernel
theorem dX8_lease_57 : decode cX8_lease 57 = .ok (.iconst 0, 1) := by decide +kernel
theorem dX8_lease_58 : decode cX8_lease 58 = .ok (.ireturn, 1) := by decide +kernel
theorem dX8_lease_59 : decode cX8_lease 59 = .ok (.aload_n 0, 1) := by decide +kernel
theorem dX8_lease_60 : decode cX8_lease 60 = .ok (.getfield 50, 3) := by decide +kernel
theorem dX8_lease_63 : decode cX8_lease 63 = .ok (.aload_n 0, 1) := by decide +kernel
theorem dX8_lease_64 : decode cX8_lease 64 = .ok (.getfield 123, 3) := by decide +kernel
theorem dX8_lease_67 : decode cX8_lease 67 = .ok (.iload_n 1, 1) := by decide +kernel
theorem dX8_lease_68 : decode cX8_lease 68 = .ok (.iastore, 1) := by decide +kernel
theorem dX8_lease_69 : decode cX8_lease 69 = .ok (.aload_n 0, 1) := by decide +kernel
theorem dX8_lease_70 : decode cX8_lease 70 = .ok (.getfield 53, 3) := by decide +kernel
theorem dX8_lease_73 : decode cX8_lease 73 = .ok (.aload_n 0, 1) := by decide +kernel
theorem dX8_lease_74 : decode cX8_lease 74 = .ok (.getfield 123, 3) := by decide +kernel
theorem dX8_lease_77 : decode cX8_lease 77 = .ok (.iload_n 2, 1) := by decide +kernel
theorem dX8_lease_78 : decode cX8_lease 78 = .ok (.iastore, 1) := by decide +kernel
theorem dX8_lease_79 : decode cX8_lease 79 = .ok (.aload_n 0, 1) := by decide +kernel
theorem dX8_lease_80 : decode cX8_lease 80 = .ok (.getfield 56, 3) := by decide +kernel
theorem dX8_lease_83 : decode cX8_lease 83 = .ok (.aload_n 0, 1) := by decide +kernel
theorem dX8_lease_84 : decode cX8_lease 84 = .ok (.getfield 123, 3) := by decide +kernel
theorem dX8_lease_87 : decode cX8_lease 87 = .ok (.aload_n 0, 1) := by decide +kernel
theorem dX8_lease_88 : decode cX8_lease 88 = .ok (.invokevirtual 129, 3) := by decide +kernel
theorem dX8_lease_91 : decode cX8_lease 91 = .ok (.iconst 1, 1) := by decide +kernel
theorem dX8_lease_92 : decode cX8_lease 92 = .ok (.iadd, 1) := by decide +kernel
theorem dX8_lease_93 : decode cX8_lease 93 = .ok (.iastore, 1) := by decide +kernel
theorem dX8_lease_94 : decode cX8_lease 94 = .ok (.aload_n 0, 1) := by decide +kernel
theorem dX8_lease_95 : decode cX8_lease 95 = .ok (.getfield 59, 3) := by decide +kernel
theorem dX8_lease_98 : decode cX8_lease 98 = .ok (.aload_n 0, 1) := by decide +kernel
theorem dX8_lease_99 : decode cX8_lease 99 = .ok (.getfield 123, 3) := by decide +kernel
theorem dX8_lease_102 : decode cX8_lease 102 = .ok (.sipush 1000, 3) := by decide +kernel
theorem dX8_lease_105 : decode cX8_lease 105 = .ok (.iastore, 1) := by decide +kernel
theorem dX8_lease_106 : decode cX8_lease 106 = .ok (.aload_n 0, 1) := by decide +kernel
theorem dX8_lease_107 : decode cX8_lease 107 = .ok (.dup, 1) := by decide +kernel
theorem dX8_lease_108 : decode cX8_lease 108 = .ok (.getfield 123, 3) := by decide +kernel
theorem dX8_lease_111 : decode cX8_lease 111 = .ok (.iconst 1, 1) := by decide +kernel
theorem dX8_lease_112 : decode cX8_lease 112 = .ok (.iadd, 1) := by decide +kernel
theorem dX8_lease_113 : decode cX8_lease 113 = .ok (.putfield 123, 3) := by decide +kernel
theorem dX8_lease_116 : decode cX8_lease 116 = .ok (.aload_n 0, 1) := by decide +kernel
theorem dX8_lease_117 : decode cX8_lease 117 = .ok (.getfield 123, 3) := by decide +kernel
theorem dX8_lease_120 : decode cX8_lease 120 = .ok (.iconst 1, 1) := by decide +kernel
theorem dX8_lease_121 : decode cX8_lease 121 = .ok (.isub, 1) := by decide +kernel
theorem dX8_lease_122 : decode cX8_lease 122 = .ok (.ireturn, 1) := by decide +kernel
theorem dX8_end_0 : decode cX8_end 0 = .ok (.aload_n 0, 1) := by decide +kernel
theorem dX8_end_1 : decode cX8_end 1 = .ok (.iload_n 1, 1) := by decide +kernel
theorem dX8_end_2 : decode cX8_end 2 = .ok (.invokevirtual 148, 3) := by decide +kernel
theorem dX8_end_5 : decode cX8_end 5 = .ok (.istore_n 2, 1) := by decide +kernel
theorem dX8_end_6 : decode cX8_end 6 = .ok (.aload_n 0, 1) := by decide +kernel
theorem dX8_end_7 : decode cX8_end 7 = .ok (.iload_n 2, 1) := by decide +kernel
theorem dX8_end_8 : decode cX8_end 8 = .ok (.ifCond .ne 7, 3) := by decide +kernel
theorem dX8_end_11 : decode cX8_end 11 = .ok (.iconst 1, 1) := by decide +kernel
theorem dX8_end_12 : decode cX8_end 12 = .ok (.goto 20, 3) := by decide +kernel
theorem dX8_end_15 : decode cX8_end 15 = .ok (.aload_n 0, 1) := by decide +kernel
theorem dX8_end_16 : decode cX8_end 16 = .ok (.getfield 59, 3) := by decide +kernel
theorem dX8_end_19 : decode cX8_end 19 = .ok (.iload_n 1, 1) := by decide +kernel
theorem dX8_end_20 : decode cX8_end 20 = .ok (.iaload, 1) := by decide +kernel
theorem dX8_end_21 : decode cX8_end 21 = .ok (.sipush 1000, 3) := by decide +kernel
theorem dX8_end_24 : decode cX8_end 24 = .ok (.if_icmp .eq 7, 3) := by decide +kernel
theorem dX8_end_27 : decode cX8_end 27 = .ok (.iconst 2, 1) := by decide +kernel
theorem dX8_end_28 : decode cX8_end 28 = .ok (.goto 4, 3) := by decide +kernel
theorem dX8_end_31 : decode cX8_end 31 = .ok (.iconst 0, 1) := by decide +kernel
theorem dX8_end_32 : decode cX8_end 32 = .ok (.invokevirtual 133, 3) := by decide +kernel
theorem dX8_end_35 : decode cX8_end 35 = .ok (.ifCond .ne 5, 3) := by decide +kernel
theorem dX8_end_38 : decode cX8_end 38 = .ok (.iconst 0, 1) := by decide +kernel
theorem dX8_end_39 : decode cX8_end 39 = .ok (.ireturn, 1) := by decide +kernel
theorem dX8_end_40 : decode cX8_end 40 = .ok (.aload_n 0, 1) := by decide +kernel
theorem dX8_end_41 : decode cX8_end 41 = .ok (.getfield 59, 3) := by decide +kernel
theorem dX8_end_44 : decode cX8_end 44 = .ok (.iload_n 1, 1) := by decide +kernel
theorem dX8_end_45 : decode cX8_end 45 = .ok (.aload_n 0, 1) := by decide +kernel
theorem dX8_end_46 : decode cX8_end 46 = .ok (.invokevirtual 129, 3) := by decide +kernel
theorem dX8_end_49 : decode cX8_end 49 = .ok (.iastore, 1) := by decide +kernel
theorem dX8_end_50 : decode cX8_end 50 = .ok (.aload_n 0, 1) := by decide +kernel
theorem dX8_end_51 : decode cX8_end 51 = .ok (.invokevirtual 129, 3) := by decide +kernel
theorem dX8_end_54 : decode cX8_end 54 = .ok (.ireturn, 1) := by decide +kernel
theorem dX8_index_0 : decode cX8_index 0 = .ok (.aload_n 0, 1) := by decide +kernel
theorem dX8_index_1 : decode cX8_index 1 = .ok (.iload_n 1, 1) := by decide +kernel
theorem dX8_index_2 : decode cX8_index 2 = .ok (.bipush 50, 2) := by decide +kernel
theorem dX8_index_4 : decode cX8_index 4 = .ok (.sipush 200, 3) := by decide +kernel
theorem dX8_index_7 : decode cX8_index 7 = .ok (.invokestatic 119, 3) := by decide +kernel
theorem dX8_index_10 : decode cX8_index 10 = .ok (.ifCond .eq 7, 3) := by decide +kernel
theorem dX8_index_13 : decode cX8_index 13 = .ok (.iconst 0, 1) := by decide +kernel
theorem dX8_index_14 : decode cX8_index 14 = .ok (.goto 4, 3) := by decide +kernel
theorem dX8_index_17 : decode cX8_index 17 = .ok (.iconst 1, 1) := by decide +kernel
theorem dX8_index_18 : decode cX8_index 18 = .ok (.invokevirtual 133, 3) := by decide +kernel
theorem dX8_index_21 : decode cX8_index 21 = .ok (.ifCond .ne 5, 3) := by decide +kernel
theorem dX8_index_24 : decode cX8_index 24 = .ok (.iconst 0, 1) := by decide +kernel
theorem dX8_index_25 : decode cX8_index 25 = .ok (.ireturn, 1) := by decide +kernel
theorem dX8_index_26 : decode cX8_index 26 = .ok (.aload_n 0, 1) := by decide +kernel
theorem dX8_index_27 : decode cX8_index 27 = .ok (.getfield 31, 3) := by decide +kernel
theorem dX8_index_30 : decode cX8_index 30 = .ok (.aload_n 0, 1) := by decide +kernel
theorem dX8_index_31 : decode cX8_index 31 = .ok (.invokevirtual 129, 3) := by decide +kernel
theorem dX8_index_34 : decode cX8_index 34 = .ok (.iconst 1, 1) := by decide +kernel
theorem dX8_index_35 : decode cX8_index 35 = .ok (.iadd, 1) := by decide +kernel
theorem dX8_index_36 : decode cX8_index 36 = .ok (.iload_n 1, 1) := by decide +kernel
theorem dX8_index_37 : decode cX8_index 37 = .ok (.iastore, 1) := by decide +kernel
theorem dX8_index_38 : decode cX8_index 38 = .ok (.aload_n 0, 1) := by decide +kernel
theorem dX8_index_39 : decode cX8_index 39 = .ok (.getfield 31, 3) := by decide +kernel
theorem dX8_index_42 : decode cX8_index 42 = .ok (.aload_n 0, 1) := by decide +kernel
theorem dX8_index_43 : decode cX8_index 43 = .ok (.invokevirtual 129, 3) := by decide +kernel
theorem dX8_index_46 : decode cX8_index 46 = .ok (.iaload, 1) := by decide +kernel
theorem dX8_index_47 : decode cX8_index 47 = .ok (.ireturn, 1) := by decide +kernel
theorem dX8_rentIn_0 : decode cX8_rentIn 0 = .ok (.aload_n 0, 1) := by decide +kernel
theorem dX8_rentIn_1 : decode cX8_rentIn 1 = .ok (.getfield 53, 3) := by decide +kernel
theorem dX8_rentIn_4 : decode cX8_rentIn 4 = .ok (.iload_n 1, 1) := by decide +kernel
theorem dX8_rentIn_5 : decode cX8_rentIn 5 = .ok (.iaload, 1) := by decide +kernel
theorem dX8_rentIn_6 : decode cX8_rentIn 6 = .ok (.aload_n 0, 1) := by decide +kernel
theorem dX8_rentIn_7 : decode cX8_rentIn 7 = .ok (.getfield 31, 3) := by decide +kernel
theorem dX8_rentIn_10 : decode cX8_rentIn 10 = .ok (.iload_n 2, 1) := by decide +kernel
theorem dX8_rentIn_11 : decode cX8_rentIn 11 = .ok (.iaload, 1) := by decide +kernel
theorem dX8_rentIn_12 : decode cX8_rentIn 12 = .ok (.imul, 1) := by decide +kernel
theorem dX8_rentIn_13 : decode cX8_rentIn 13 = .ok (.bipush 100, 2) := by decide +kernel
theorem dX8_rentIn_15 : decode cX8_rentIn 15 = .ok (.idiv, 1) := by decide +kernel
theorem dX8_rentIn_16 : decode cX8_rentIn 16 = .ok (.ireturn, 1) := by decide +kernel
theorem dX8_read_0 : decode cX8_read 0 = .ok (.aload_n 0, 1) := by decide +kernel
theorem dX8_read_1 : decode cX8_read 1 = .ok (.iload_n 1, 1) := by decide +kernel
theorem dX8_read_2 : decode cX8_read 2 = .ok (.invokevirtual 141, 3) := by decide +kernel
theorem dX8_read_5 : decode cX8_read 5 = .ok (.istore_n 3, 1) := by decide +kernel
theorem dX8_read_6 : decode cX8_read 6 = .ok (.aload_n 0, 1) := by decide +kernel
theorem dX8_read_7 : decode cX8_read 7 = .ok (.iload_n 3, 1) := by decide +kernel
theorem dX8_read_8 : decode cX8_read 8 = .ok (.ifCond .ne 7, 3) := by decide +kernel
theorem dX8_read_11 : decode cX8_read 11 = .ok (.iconst 1, 1) := by decide +kernel
theorem dX8_read_12 : decode cX8_read 12 = .ok (.goto 28, 3) := by decide +kernel
theorem dX8_read_15 : decode cX8_read 15 = .ok (.iload_n 2, 1) := by decide +kernel
theorem dX8_read_16 : decode cX8_read 16 = .ok (.iconst 0, 1) := by decide +kernel
theorem dX8_read_17 : decode cX8_read 17 = .ok (.ldc 151, 2) := by decide +kernel
theorem dX8_read_19 : decode cX8_read 19 = .ok (.invokestatic 119, 3) := by decide +kernel
theorem dX8_read_22 : decode cX8_read 22 = .ok (.ifCond .eq 13, 3) := by decide +kernel
theorem dX8_read_25 : decode cX8_read 25 = .ok (.iload_n 2, 1) := by decide +kernel
theorem dX8_read_26 : decode cX8_read 26 = .ok (.aload_n 0, 1) := by decide +kernel
theorem dX8_read_27 : decode cX8_read 27 = .ok (.getfield 16, 3) := by decide +kernel
theorem dX8_read_30 : decode cX8_read 30 = .ok (.iload_n 1, 1) := by decide +kernel
theorem dX8_read_31 : decode cX8_read 31 = .ok (.iaload, 1) := by decide +kernel
theorem dX8_read_32 : decode cX8_read 32 = .ok (.if_icmp .ge 7, 3) := by decide +kernel
theorem dX8_read_35 : decode cX8_read 35 = .ok (.iconst 2, 1) := by decide +kernel
theorem dX8_read_36 : decode cX8_read 36 = .ok (.goto 4, 3) := by decide +kernel
theorem dX8_read_39 : decode cX8_read 39 = .ok (.iconst 0, 1) := by decide +kernel
theorem dX8_read_40 : decode cX8_read 40 = .ok (.invokevirtual 133, 3) := by decide +kernel
theorem dX8_read_43 : decode cX8_read 43 = .ok (.ifCond .ne 5, 3) := by decide +kernel
theorem dX8_read_46 : decode cX8_read 46 = .ok (.iconst 0, 1) := by decide +kernel
theorem dX8_read_47 : decode cX8_read 47 = .ok (.ireturn, 1) := by decide +kernel
theorem dX8_read_48 : decode cX8_read 48 = .ok (.iload_n 2, 1) := by decide +kernel
theorem dX8_read_49 : decode cX8_read 49 = .ok (.aload_n 0, 1) := by decide +kernel
theorem dX8_read_50 : decode cX8_read 50 = .ok (.getfield 16, 3) := by decide +kernel
theorem dX8_read_53 : decode cX8_read 53 = .ok (.iload_n 1, 1) := by decide +kernel
theorem dX8_read_54 : decode cX8_read 54 = .ok (.iaload, 1) := by decide +kernel
theorem dX8_read_55 : decode cX8_read 55 = .ok (.isub, 1) := by decide +kernel
theorem dX8_read_56 : decode cX8_read 56 = .ok (.istore 4, 2) := by decide +kernel
theorem dX8_read_58 : decode cX8_read 58 = .ok (.aload_n 0, 1) := by decide +kernel
theorem dX8_read_59 : decode cX8_read 59 = .ok (.getfield 16, 3) := by decide +kernel
theorem dX8_read_62 : decode cX8_read 62 = .ok (.iload_n 1, 1) := by decide +kernel
theorem dX8_read_63 : decode cX8_read 63 = .ok (.iload_n 2, 1) := by decide +kernel
theorem dX8_read_64 : decode cX8_read 64 = .ok (.iastore, 1) := by decide +kernel
theorem dX8_read_65 : decode cX8_read 65 = .ok (.aload_n 0, 1) := by decide +kernel
theorem dX8_read_66 : decode cX8_read 66 = .ok (.getfield 19, 3) := by decide +kernel
theorem dX8_read_69 : decode cX8_read 69 = .ok (.iload_n 1, 1) := by decide +kernel
theorem dX8_read_70 : decode cX8_read 70 = .ok (.aload_n 0, 1) := by decide +kernel
theorem dX8_read_71 : decode cX8_read 71 = .ok (.invokevirtual 129, 3) := by decide +kernel
theorem dX8_read_74 : decode cX8_read 74 = .ok (.iastore, 1) := by decide +kernel
theorem dX8_read_75 : decode cX8_read 75 = .ok (.iload 4, 2) := by decide +kernel
theorem dX8_read_77 : decode cX8_read 77 = .ok (.ireturn, 1) := by decide +kernel
theorem dX8_heat_0 : decode cX8_heat 0 = .ok (.aload_n 0, 1) := by decide +kernel
theorem dX8_heat_1 : decode cX8_heat 1 = .ok (.iload_n 1, 1) := by decide +kernel
theorem dX8_heat_2 : decode cX8_heat 2 = .ok (.iconst 1, 1) := by decide +kernel
theorem dX8_heat_3 : decode cX8_heat 3 = .ok (.ldc 151, 2) := by decide +kernel
theorem dX8_heat_5 : decode cX8_heat 5 = .ok (.invokestatic 119, 3) := by decide +kernel
theorem dX8_heat_8 : decode cX8_heat 8 = .ok (.ifCond .ne 7, 3) := by decide +kernel
theorem dX8_heat_11 : decode cX8_heat 11 = .ok (.iconst 1, 1) := by decide +kernel
theorem dX8_heat_12 : decode cX8_heat 12 = .ok (.goto 19, 3) := by decide +kernel
theorem dX8_heat_15 : decode cX8_heat 15 = .ok (.aload_n 0, 1) := by decide +kernel
theorem dX8_heat_16 : decode cX8_heat 16 = .ok (.getfield 152, 3) := by decide +kernel
theorem dX8_heat_19 : decode cX8_heat 19 = .ok (.iload_n 1, 1) := by decide +kernel
theorem dX8_heat_20 : decode cX8_heat 20 = .ok (.iadd, 1) := by decide +kernel
theorem dX8_heat_21 : decode cX8_heat 21 = .ok (.ldc 155, 2) := by decide +kernel
theorem dX8_heat_23 : decode cX8_heat 23 = .ok (.if_icmp .le 7, 3) := by decide +kernel
theorem dX8_heat_26 : decode cX8_heat 26 = .ok (.iconst 2, 1) := by decide +kernel
theorem dX8_heat_27 : decode cX8_heat 27 = .ok (.goto 4, 3) := by decide +kernel
theorem dX8_heat_30 : decode cX8_heat 30 = .ok (.iconst 0, 1) := by decide +kernel
theorem dX8_heat_31 : decode cX8_heat 31 = .ok (.invokevirtual 133, 3) := by decide +kernel
theorem dX8_heat_34 : decode cX8_heat 34 = .ok (.ifCond .ne 5, 3) := by decide +kernel
theorem dX8_heat_37 : decode cX8_heat 37 = .ok (.iconst 0, 1) := by decide +kernel
theorem dX8_heat_38 : decode cX8_heat 38 = .ok (.ireturn, 1) := by decide +kernel
theorem dX8_heat_39 : decode cX8_heat 39 = .ok (.aload_n 0, 1) := by decide +kernel
theorem dX8_heat_40 : decode cX8_heat 40 = .ok (.dup, 1) := by decide +kernel
theorem dX8_heat_41 : decode cX8_heat 41 = .ok (.getfield 152, 3) := by decide +kernel
theorem dX8_heat_44 : decode cX8_heat 44 = .ok (.iload_n 1, 1) := by decide +kernel
theorem dX8_heat_45 : decode cX8_heat 45 = .ok (.iadd, 1) := by decide +kernel
theorem dX8_heat_46 : decode cX8_heat 46 = .ok (.putfield 152, 3) := by decide +kernel
theorem dX8_heat_49 : decode cX8_heat 49 = .ok (.aload_n 0, 1) := by decide +kernel
theorem dX8_heat_50 : decode cX8_heat 50 = .ok (.getfield 152, 3) := by decide +kernel
theorem dX8_heat_53 : decode cX8_heat 53 = .ok (.ireturn, 1) := by decide +kernel
theorem dX8_report_0 : decode cX8_report 0 = .ok (.aload_n 0, 1) := by decide +kernel
theorem dX8_report_1 : decode cX8_report 1 = .ok (.iload_n 1, 1) := by decide +kernel
theorem dX8_report_2 : decode cX8_report 2 = .ok (.invokevirtual 141, 3) := by decide +kernel
theorem dX8_report_5 : decode cX8_report 5 = .ok (.istore_n 3, 1) := by decide +kernel
theorem dX8_report_6 : decode cX8_report 6 = .ok (.aload_n 0, 1) := by decide +kernel
theorem dX8_report_7 : decode cX8_report 7 = .ok (.iload_n 3, 1) := by decide +kernel
theorem dX8_report_8 : decode cX8_report 8 = .ok (.ifCond .ne 7, 3) := by decide +kernel
theorem dX8_report_11 : decode cX8_report 11 = .ok (.iconst 1, 1) := by decide +kernel
theorem dX8_report_12 : decode cX8_report 12 = .ok (.goto 30, 3) := by decide +kernel
theorem dX8_report_15 : decode cX8_report 15 = .ok (.iload_n 2, 1) := by decide +kernel
theorem dX8_report_16 : decode cX8_report 16 = .ok (.iconst 0, 1) := by decide +kernel
theorem dX8_report_17 : decode cX8_report 17 = .ok (.iconst 2, 1) := by decide +kernel
theorem dX8_report_18 : decode cX8_report 18 = .ok (.invokestatic 119, 3) := by decide +kernel
theorem dX8_report_21 : decode cX8_report 21 = .ok (.ifCond .ne 7, 3) := by decide +kernel
theorem dX8_report_24 : decode cX8_report 24 = .ok (.iconst 2, 1) := by decide +kernel
theorem dX8_report_25 : decode cX8_report 25 = .ok (.goto 17, 3) := by decide +kernel
theorem dX8_report_28 : decode cX8_report 28 = .ok (.aload_n 0, 1) := by decide +kernel
theorem dX8_report_29 : decode cX8_report 29 = .ok (.getfield 156, 3) := by decide +kernel
theorem dX8_report_32 : decode cX8_report 32 = .ok (.bipush 60, 2) := by decide +kernel
theorem dX8_report_34 : decode cX8_report 34 = .ok (.if_icmp .ne 7, 3) := by decide +kernel
theorem dX8_report_37 : decode cX8_report 37 = .ok (.iconst 3, 1) := by decide +kernel
theorem dX8_report_38 : decode cX8_report 38 = .ok (.goto 4, 3) := by decide +kernel
theorem dX8_report_41 : decode cX8_report 41 = .ok (.iconst 0, 1) := by decide +kernel
theorem dX8_report_42 : decode cX8_report 42 = .ok (.invokevirtual 133, 3) := by decide +kernel
theorem dX8_report_45 : decode cX8_report 45 = .ok (.ifCond .ne 5, 3) := by decide +kernel
theorem dX8_report_48 : decode cX8_report 48 = .ok (.iconst 0, 1) := by decide +kernel
theorem dX8_report_49 : decode cX8_report 49 = .ok (.ireturn, 1) := by decide +kernel
theorem dX8_report_50 : decode cX8_report 50 = .ok (.aload_n 0, 1) := by decide +kernel
theorem dX8_report_51 : decode cX8_report 51 = .ok (.getfield 34, 3) := by decide +kernel
theorem dX8_report_54 : decode cX8_report 54 = .ok (.aload_n 0, 1) := by decide +kernel
theorem dX8_report_55 : decode cX8_report 55 = .ok (.getfield 156, 3) := by decide +kernel
theorem dX8_report_58 : decode cX8_report 58 = .ok (.iload_n 1, 1) := by decide +kernel
theorem dX8_report_59 : decode cX8_report 59 = .ok (.iastore, 1) := by decide +kernel
theorem dX8_report_60 : decode cX8_report 60 = .ok (.aload_n 0, 1) := by decide +kernel
theorem dX8_report_61 : decode cX8_report 61 = .ok (.getfield 37, 3) := by decide +kernel
theorem dX8_report_64 : decode cX8_report 64 = .ok (.aload_n 0, 1) := by decide +kernel
theorem dX8_report_65 : decode cX8_report 65 = .ok (.getfield 156, 3) := by decide +kernel
theorem dX8_report_68 : decode cX8_report 68 = .ok (.iload_n 2, 1) := by decide +kernel
theorem dX8_report_69 : decode cX8_report 69 = .ok (.iastore, 1) := by decide +kernel
theorem dX8_report_70 : decode cX8_report 70 = .ok (.aload_n 0, 1) := by decide +kernel
theorem dX8_report_71 : decode cX8_report 71 = .ok (.getfield 40, 3) := by decide +kernel
theorem dX8_report_74 : decode cX8_report 74 = .ok (.aload_n 0, 1) := by decide +kernel
theorem dX8_report_75 : decode cX8_report 75 = .ok (.getfield 156, 3) := by decide +kernel
theorem dX8_report_78 : decode cX8_report 78 = .ok (.aload_n 0, 1) := by decide +kernel
theorem dX8_report_79 : decode cX8_report 79 = .ok (.getfield 126, 3) := by decide +kernel
theorem dX8_report_82 : decode cX8_report 82 = .ok (.iastore, 1) := by decide +kernel
theorem dX8_report_83 : decode cX8_report 83 = .ok (.aload_n 0, 1) := by decide +kernel
theorem dX8_report_84 : decode cX8_report 84 = .ok (.dup, 1) := by decide +kernel
theorem dX8_report_85 : decode cX8_report 85 = .ok (.getfield 156, 3) := by decide +kernel
theorem dX8_report_88 : decode cX8_report 88 = .ok (.iconst 1, 1) := by decide +kernel
theorem dX8_report_89 : decode cX8_report 89 = .ok (.iadd, 1) := by decide +kernel
theorem dX8_report_90 : decode cX8_report 90 = .ok (.putfield 156, 3) := by decide +kernel
theorem dX8_report_93 : decode cX8_report 93 = .ok (.aload_n 0, 1) := by decide +kernel
theorem dX8_report_94 : decode cX8_report 94 = .ok (.getfield 156, 3) := by decide +kernel
theorem dX8_report_97 : decode cX8_report 97 = .ok (.iconst 1, 1) := by decide +kernel
theorem dX8_report_98 : decode cX8_report 98 = .ok (.isub, 1) := by decide +kernel
theorem dX8_report_99 : decode cX8_report 99 = .ok (.ireturn, 1) := by decide +kernel
theorem dX8_mend_0 : decode cX8_mend 0 = .ok (.iload_n 1, 1) := by decide +kernel
theorem dX8_mend_1 : decode cX8_mend 1 = .ok (.iconst 0, 1) := by decide +kernel
theorem dX8_mend_2 : decode cX8_mend 2 = .ok (.aload_n 0, 1) := by decide +kernel
theorem dX8_mend_3 : decode cX8_mend 3 = .ok (.getfield 156, 3) := by decide +kernel
theorem dX8_mend_6 : decode cX8_mend 6 = .ok (.iconst 1, 1) := by decide +kernel
theorem dX8_mend_7 : decode cX8_mend 7 = .ok (.isub, 1) := by decide +kernel
theorem dX8_mend_8 : decode cX8_mend 8 = .ok (.invokestatic 119, 3) := by decide +kernel
theorem dX8_mend_11 : decode cX8_mend 11 = .ok (.istore_n 2, 1) := by decide +kernel
theorem dX8_mend_12 : decode cX8_mend 12 = .ok (.aload_n 0, 1) := by decide +kernel
theorem dX8_mend_13 : decode cX8_mend 13 = .ok (.iload_n 2, 1) := by decide +kernel
theorem dX8_mend_14 : decode cX8_mend 14 = .ok (.ifCond .ne 7, 3) := by decide +kernel
theorem dX8_mend_17 : decode cX8_mend 17 = .ok (.iconst 1, 1) := by decide +kernel
theorem dX8_mend_18 : decode cX8_mend 18 = .ok (.goto 17, 3) := by decide +kernel
theorem dX8_mend_21 : decode cX8_mend 21 = .ok (.aload_n 0, 1) := by decide +kernel
theorem dX8_mend_22 : decode cX8_mend 22 = .ok (.getfield 46, 3) := by decide +kernel
theorem dX8_mend_25 : decode cX8_mend 25 = .ok (.iload_n 1, 1) := by decide +kernel
theorem dX8_mend_26 : decode cX8_mend 26 = .ok (.baload, 1) := by decide +kernel
theorem dX8_mend_27 : decode cX8_mend 27 = .ok (.ifCond .eq 7, 3) := by decide +kernel
theorem dX8_mend_30 : decode cX8_mend 30 = .ok (.iconst 2, 1) := by decide +kernel
theorem dX8_mend_31 : decode cX8_mend 31 = .ok (.goto 4, 3) := by decide +kernel
theorem dX8_mend_34 : decode cX8_mend 34 = .ok (.iconst 0, 1) := by decide +kernel
theorem dX8_mend_35 : decode cX8_mend 35 = .ok (.invokevirtual 133, 3) := by decide +kernel
theorem dX8_mend_38 : decode cX8_mend 38 = .ok (.ifCond .ne 5, 3) := by decide +kernel
theorem dX8_mend_41 : decode cX8_mend 41 = .ok (.iconst 0, 1) := by decide +kernel
theorem dX8_mend_42 : decode cX8_mend 42 = .ok (.ireturn, 1) := by decide +kernel
theorem dX8_mend_43 : decode cX8_mend 43 = .ok (.aload_n 0, 1) := by decide +kernel
theorem dX8_mend_44 : decode cX8_mend 44 = .ok (.getfield 46, 3) := by decide +kernel
theorem dX8_mend_47 : decode cX8_mend 47 = .ok (.iload_n 1, 1) := by decide +kernel
theorem dX8_mend_48 : decode cX8_mend 48 = .ok (.iconst 1, 1) := by decide +kernel
theorem dX8_mend_49 : decode cX8_mend 49 = .ok (.bastore, 1) := by decide +kernel
theorem dX8_mend_50 : decode cX8_mend 50 = .ok (.aload_n 0, 1) := by decide +kernel
theorem dX8_mend_51 : decode cX8_mend 51 = .ok (.getfield 43, 3) := by decide +kernel
theorem dX8_mend_54 : decode cX8_mend 54 = .ok (.iload_n 1, 1) := by decide +kernel
theorem dX8_mend_55 : decode cX8_mend 55 = .ok (.iaload, 1) := by decide +kernel
theorem dX8_mend_56 : decode cX8_mend 56 = .ok (.ireturn, 1) := by decide +kernel
theorem dX8_wears_0 : decode cX8_wears 0 = .ok (.iconst 0, 1) := by decide +kernel
theorem dX8_wears_1 : decode cX8_wears 1 = .ok (.istore_n 1, 1) := by decide +kernel
theorem dX8_wears_2 : decode cX8_wears 2 = .ok (.iload_n 1, 1) := by decide +kernel
theorem dX8_wears_3 : decode cX8_wears 3 = .ok (.aload_n 0, 1) := by decide +kernel
theorem dX8_wears_4 : decode cX8_wears 4 = .ok (.getfield 156, 3) := by decide +kernel
theorem dX8_wears_7 : decode cX8_wears 7 = .ok (.if_icmp .ge 118, 3) := by decide +kernel
theorem dX8_wears_10 : decode cX8_wears 10 = .ok (.aload_n 0, 1) := by decide +kernel
theorem dX8_wears_11 : decode cX8_wears 11 = .ok (.getfield 37, 3) := by decide +kernel
theorem dX8_wears_14 : decode cX8_wears 14 = .ok (.iload_n 1, 1) := by decide +kernel
theorem dX8_wears_15 : decode cX8_wears 15 = .ok (.iaload, 1) := by decide +kernel
theorem dX8_wears_16 : decode cX8_wears 16 = .ok (.ifCond .ne 7, 3) := by decide +kernel
theorem dX8_wears_19 : decode cX8_wears 19 = .ok (.iconst 2, 1) := by decide +kernel
theorem dX8_wears_20 : decode cX8_wears 20 = .ok (.goto 20, 3) := by decide +kernel
theorem dX8_wears_23 : decode cX8_wears 23 = .ok (.aload_n 0, 1) := by decide +kernel
theorem dX8_wears_24 : decode cX8_wears 24 = .ok (.getfield 37, 3) := by decide +kernel
theorem dX8_wears_27 : decode cX8_wears 27 = .ok (.iload_n 1, 1) := by decide +kernel
theorem dX8_wears_28 : decode cX8_wears 28 = .ok (.iaload, 1) := by decide +kernel
theorem dX8_wears_29 : decode cX8_wears 29 = .ok (.iconst 1, 1) := by decide +kernel
theorem dX8_wears_30 : decode cX8_wears 30 = .ok (.if_icmp .ne 8, 3) := by decide +kernel
theorem dX8_wears_33 : decode cX8_wears 33 = .ok (.bipush 7, 2) := by decide +kernel
theorem dX8_wears_35 : decode cX8_wears 35 = .ok (.goto 5, 3) := by decide +kernel
theorem dX8_wears_38 : decode cX8_wears 38 = .ok (.bipush 30, 2) := by decide +kernel
theorem dX8_wears_40 : decode cX8_wears 40 = .ok (.istore_n 2, 1) := by decide +kernel
theorem dX8_wears_41 : decode cX8_wears 41 = .ok (.aload_n 0, 1) := by decide +kernel
theorem dX8_wears_42 : decode cX8_wears 42 = .ok (.getfield 46, 3) := by decide +kernel
theorem dX8_wears_45 : decode cX8_wears 45 = .ok (.iload_n 1, 1) := by decide +kernel
theorem dX8_wears_46 : decode cX8_wears 46 = .ok (.baload, 1) := by decide +kernel
theorem dX8_wears_47 : decode cX8_wears 47 = .ok (.ifCond .ne 72, 3) := by decide +kernel
theorem dX8_wears_50 : decode cX8_wears 50 = .ok (.aload_n 0, 1) := by decide +kernel
theorem dX8_wears_51 : decode cX8_wears 51 = .ok (.getfield 126, 3) := by decide +kernel
theorem dX8_wears_54 : decode cX8_wears 54 = .ok (.aload_n 0, 1) := by decide +kernel
theorem dX8_wears_55 : decode cX8_wears 55 = .ok (.getfield 40, 3) := by decide +kernel
theorem dX8_wears_58 : decode cX8_wears 58 = .ok (.iload_n 1, 1) := by decide +kernel
theorem dX8_wears_59 : decode cX8_wears 59 = .ok (.iaload, 1) := by decide +kernel
theorem dX8_wears_60 : decode cX8_wears 60 = .ok (.isub, 1) := by decide +kernel
theorem dX8_wears_61 : decode cX8_wears 61 = .ok (.iload_n 2, 1) := by decide +kernel
theorem dX8_wears_62 : decode cX8_wears 62 = .ok (.if_icmp .le 57, 3) := by decide +kernel
theorem dX8_wears_65 : decode cX8_wears 65 = .ok (.aload_n 0, 1) := by decide +kernel
theorem dX8_wears_66 : decode cX8_wears 66 = .ok (.getfield 25, 3) := by decide +kernel
theorem dX8_wears_69 : decode cX8_wears 69 = .ok (.aload_n 0, 1) := by decide +kernel
theorem dX8_wears_70 : decode cX8_wears 70 = .ok (.getfield 34, 3) := by decide +kernel
theorem dX8_wears_73 : decode cX8_wears 73 = .ok (.iload_n 1, 1) := by decide +kernel
theorem dX8_wears_74 : decode cX8_wears 74 = .ok (.iaload, 1) := by decide +kernel
theorem dX8_wears_75 : decode cX8_wears 75 = .ok (.dup2, 1) := by decide +kernel
theorem dX8_wears_76 : decode cX8_wears 76 = .ok (.iaload, 1) := by decide +kernel
theorem dX8_wears_77 : decode cX8_wears 77 = .ok (.aload_n 0, 1) := by decide +kernel
theorem dX8_wears_78 : decode cX8_wears 78 = .ok (.getfield 37, 3) := by decide +kernel
theorem dX8_wears_81 : decode cX8_wears 81 = .ok (.iload_n 1, 1) := by decide +kernel
theorem dX8_wears_82 : decode cX8_wears 82 = .ok (.iaload, 1) := by decide +kernel
theorem dX8_wears_83 : decode cX8_wears 83 = .ok (.ifCond .ne 8, 3) := by decide +kernel
theorem dX8_wears_86 : decode cX8_wears 86 = .ok (.bipush 30, 2) := by decide +kernel
theorem dX8_wears_88 : decode cX8_wears 88 = .ok (.goto 19, 3) := by decide +kernel
theorem dX8_wears_91 : decode cX8_wears 91 = .ok (.aload_n 0, 1) := by decide +kernel
theorem dX8_wears_92 : decode cX8_wears 92 = .ok (.getfield 37, 3) := by decide +kernel
theorem dX8_wears_95 : decode cX8_wears 95 = .ok (.iload_n 1, 1) := by decide +kernel
theorem dX8_wears_96 : decode cX8_wears 96 = .ok (.iaload, 1) := by decide +kernel
theorem dX8_wears_97 : decode cX8_wears 97 = .ok (.iconst 1, 1) := by decide +kernel
theorem dX8_wears_98 : decode cX8_wears 98 = .ok (.if_icmp .ne 8, 3) := by decide +kernel
theorem dX8_wears_101 : decode cX8_wears 101 = .ok (.bipush 10, 2) := by decide +kernel
theorem dX8_wears_103 : decode cX8_wears 103 = .ok (.goto 4, 3) := by decide +kernel
theorem dX8_wears_106 : decode cX8_wears 106 = .ok (.iconst 5, 1) := by decide +kernel
theorem dX8_wears_107 : decode cX8_wears 107 = .ok (.iadd, 1) := by decide +kernel
theorem dX8_wears_108 : decode cX8_wears 108 = .ok (.iastore, 1) := by decide +kernel
theorem dX8_wears_109 : decode cX8_wears 109 = .ok (.aload_n 0, 1) := by decide +kernel
theorem dX8_wears_110 : decode cX8_wears 110 = .ok (.getfield 43, 3) := by decide +kernel
theorem dX8_wears_113 : decode cX8_wears 113 = .ok (.iload_n 1, 1) := by decide +kernel
theorem dX8_wears_114 : decode cX8_wears 114 = .ok (.dup2, 1) := by decide +kernel
theorem dX8_wears_115 : decode cX8_wears 115 = .ok (.iaload, 1) := by decide +kernel
theorem dX8_wears_116 : decode cX8_wears 116 = .ok (.iconst 1, 1) := by decide +kernel
theorem dX8_wears_117 : decode cX8_wears 117 = .ok (.iadd, 1) := by decide +kernel
theorem dX8_wears_118 : decode cX8_wears 118 = .ok (.iastore, 1) := by decide +kernel
theorem dX8_wears_119 : decode cX8_wears 119 = .ok (.iinc 1 1, 3) := by decide +kernel
theorem dX8_wears_122 : decode cX8_wears 122 = .ok (.goto (-120), 3) := by decide +kernel
theorem dX8_wears_125 : decode cX8_wears 125 = .ok (.return_, 1) := by decide +kernel
theorem dX8_findsUse_0 : decode cX8_findsUse 0 = .ok (.aload_n 0, 1) := by decide +kernel
theorem dX8_findsUse_1 : decode cX8_findsUse 1 = .ok (.getfield 16, 3) := by decide +kernel
theorem dX8_findsUse_4 : decode cX8_findsUse 4 = .ok (.iload_n 1, 1) := by decide +kernel
theorem dX8_findsUse_5 : decode cX8_findsUse 5 = .ok (.iaload, 1) := by decide +kernel
theorem dX8_findsUse_6 : decode cX8_findsUse 6 = .ok (.aload_n 0, 1) := by decide +kernel
theorem dX8_findsUse_7 : decode cX8_findsUse 7 = .ok (.getfield 22, 3) := by decide +kernel
theorem dX8_findsUse_10 : decode cX8_findsUse 10 = .ok (.iload_n 1, 1) := by decide +kernel
theorem dX8_findsUse_11 : decode cX8_findsUse 11 = .ok (.iaload, 1) := by decide +kernel
theorem dX8_findsUse_12 : decode cX8_findsUse 12 = .ok (.isub, 1) := by decide +kernel
theorem dX8_findsUse_13 : decode cX8_findsUse 13 = .ok (.istore_n 3, 1) := by decide +kernel
theorem dX8_findsUse_14 : decode cX8_findsUse 14 = .ok (.aload_n 0, 1) := by decide +kernel
theorem dX8_findsUse_15 : decode cX8_findsUse 15 = .ok (.getfield 19, 3) := by decide +kernel
theorem dX8_findsUse_18 : decode cX8_findsUse 18 = .ok (.iload_n 1, 1) := by decide +kernel
theorem dX8_findsUse_19 : decode cX8_findsUse 19 = .ok (.iaload, 1) := by decide +kernel
theorem dX8_findsUse_20 : decode cX8_findsUse 20 = .ok (.iload_n 2, 1) := by decide +kernel
theorem dX8_findsUse_21 : decode cX8_findsUse 21 = .ok (.if_icmp .eq 74, 3) := by decide +kernel
theorem dX8_findsUse_24 : decode cX8_findsUse 24 = .ok (.iconst 0, 1) := by decide +kernel
theorem dX8_findsUse_25 : decode cX8_findsUse 25 = .ok (.istore 4, 2) := by decide +kernel
theorem dX8_findsUse_27 : decode cX8_findsUse 27 = .ok (.iconst 0, 1) := by decide +kernel
theorem dX8_findsUse_28 : decode cX8_findsUse 28 = .ok (.istore 5, 2) := by decide +kernel
theorem dX8_findsUse_30 : decode cX8_findsUse 30 = .ok (.iload_n 2, 1) := by decide +kernel
theorem dX8_findsUse_31 : decode cX8_findsUse 31 = .ok (.iconst 1, 1) := by decide +kernel
theorem dX8_findsUse_32 : decode cX8_findsUse 32 = .ok (.isub, 1) := by decide +kernel
theorem dX8_findsUse_33 : decode cX8_findsUse 33 = .ok (.istore 6, 2) := by decide +kernel
theorem dX8_findsUse_35 : decode cX8_findsUse 35 = .ok (.iload 6, 2) := by decide +kernel
theorem dX8_findsUse_37 : decode cX8_findsUse 37 = .ok (.aload_n 0, 1) := by decide +kernel
theorem dX8_findsUse_38 : decode cX8_findsUse 38 = .ok (.getfield 13, 3) := by decide +kernel
theorem dX8_findsUse_41 : decode cX8_findsUse 41 = .ok (.iload_n 1, 1) := by decide +kernel
theorem dX8_findsUse_42 : decode cX8_findsUse 42 = .ok (.iaload, 1) := by decide +kernel
theorem dX8_findsUse_43 : decode cX8_findsUse 43 = .ok (.if_icmp .lt 37, 3) := by decide +kernel
theorem dX8_findsUse_46 : decode cX8_findsUse 46 = .ok (.iload 6, 2) := by decide +kernel
theorem dX8_findsUse_48 : decode cX8_findsUse 48 = .ok (.iload_n 2, 1) := by decide +kernel
theorem dX8_findsUse_49 : decode cX8_findsUse 49 = .ok (.iconst 3, 1) := by decide +kernel
theorem dX8_findsUse_50 : decode cX8_findsUse 50 = .ok (.isub, 1) := by decide +kernel
theorem dX8_findsUse_51 : decode cX8_findsUse 51 = .ok (.if_icmp .lt 29, 3) := by decide +kernel
theorem dX8_findsUse_54 : decode cX8_findsUse 54 = .ok (.iload 4, 2) := by decide +kernel
theorem dX8_findsUse_56 : decode cX8_findsUse 56 = .ok (.aload_n 0, 1) := by decide +kernel
theorem dX8_findsUse_57 : decode cX8_findsUse 57 = .ok (.getfield 28, 3) := by decide +kernel
theorem dX8_findsUse_60 : decode cX8_findsUse 60 = .ok (.bipush 121, 2) := by decide +kernel
theorem dX8_findsUse_62 : decode cX8_findsUse 62 = .ok (.iload_n 1, 1) := by decide +kernel
theorem dX8_findsUse_63 : decode cX8_findsUse 63 = .ok (.imul, 1) := by decide +kernel
theorem dX8_findsUse_64 : decode cX8_findsUse 64 = .ok (.iload 6, 2) := by decide +kernel
theorem dX8_findsUse_66 : decode cX8_findsUse 66 = .ok (.iadd, 1) := by decide +kernel
theorem dX8_findsUse_67 : decode cX8_findsUse 67 = .ok (.iaload, 1) := by decide +kernel
theorem dX8_findsUse_68 : decode cX8_findsUse 68 = .ok (.iadd, 1) := by decide +kernel
theorem dX8_findsUse_69 : decode cX8_findsUse 69 = .ok (.istore 4, 2) := by decide +kernel
theorem dX8_findsUse_71 : decode cX8_findsUse 71 = .ok (.iinc 5 1, 3) := by decide +kernel
theorem dX8_findsUse_74 : decode cX8_findsUse 74 = .ok (.iinc 6 (-1), 3) := by decide +kernel
theorem dX8_findsUse_77 : decode cX8_findsUse 77 = .ok (.goto (-42), 3) := by decide +kernel
theorem dX8_findsUse_80 : decode cX8_findsUse 80 = .ok (.iload 5, 2) := by decide +kernel
theorem dX8_findsUse_82 : decode cX8_findsUse 82 = .ok (.ifCond .ne 7, 3) := by decide +kernel
theorem dX8_findsUse_85 : decode cX8_findsUse 85 = .ok (.iconst 0, 1) := by decide +kernel
theorem dX8_findsUse_86 : decode cX8_findsUse 86 = .ok (.goto 8, 3) := by decide +kernel
theorem dX8_findsUse_89 : decode cX8_findsUse 89 = .ok (.iload 4, 2) := by decide +kernel
theorem dX8_findsUse_91 : decode cX8_findsUse 91 = .ok (.iload 5, 2) := by decide +kernel
theorem dX8_findsUse_93 : decode cX8_findsUse 93 = .ok (.idiv, 1) := by decide +kernel
theorem dX8_findsUse_94 : decode cX8_findsUse 94 = .ok (.istore_n 3, 1) := by decide +kernel
theorem dX8_findsUse_95 : decode cX8_findsUse 95 = .ok (.iload_n 3, 1) := by decide +kernel
theorem dX8_findsUse_96 : decode cX8_findsUse 96 = .ok (.ifCond .ge 7, 3) := by decide +kernel
theorem dX8_findsUse_99 : decode cX8_findsUse 99 = .ok (.iconst 0, 1) := by decide +kernel
theorem dX8_findsUse_100 : decode cX8_findsUse 100 = .ok (.goto 4, 3) := by decide +kernel
theorem dX8_findsUse_103 : decode cX8_findsUse 103 = .ok (.iload_n 3, 1) := by decide +kernel
theorem dX8_findsUse_104 : decode cX8_findsUse 104 = .ok (.istore_n 3, 1) := by decide +kernel
theorem dX8_findsUse_105 : decode cX8_findsUse 105 = .ok (.aload_n 0, 1) := by decide +kernel
theorem dX8_findsUse_106 : decode cX8_findsUse 106 = .ok (.getfield 28, 3) := by decide +kernel
theorem dX8_findsUse_109 : decode cX8_findsUse 109 = .ok (.bipush 121, 2) := by decide +kernel
theorem dX8_findsUse_111 : decode cX8_findsUse 111 = .ok (.iload_n 1, 1) := by decide +kernel
theorem dX8_findsUse_112 : decode cX8_findsUse 112 = .ok (.imul, 1) := by decide +kernel
theorem dX8_findsUse_113 : decode cX8_findsUse 113 = .ok (.iload_n 2, 1) := by decide +kernel
theorem dX8_findsUse_114 : decode cX8_findsUse 114 = .ok (.iadd, 1) := by decide +kernel
theorem dX8_findsUse_115 : decode cX8_findsUse 115 = .ok (.iload_n 3, 1) := by decide +kernel
theorem dX8_findsUse_116 : decode cX8_findsUse 116 = .ok (.iastore, 1) := by decide +kernel
theorem dX8_findsUse_117 : decode cX8_findsUse 117 = .ok (.aload_n 0, 1) := by decide +kernel
theorem dX8_findsUse_118 : decode cX8_findsUse 118 = .ok (.getfield 22, 3) := by decide +kernel
theorem dX8_findsUse_121 : decode cX8_findsUse 121 = .ok (.iload_n 1, 1) := by decide +kernel
theorem dX8_findsUse_122 : decode cX8_findsUse 122 = .ok (.dup2, 1) := by decide +kernel
theorem dX8_findsUse_123 : decode cX8_findsUse 123 = .ok (.iaload, 1) := by decide +kernel
theorem dX8_findsUse_124 : decode cX8_findsUse 124 = .ok (.iload_n 3, 1) := by decide +kernel
theorem dX8_findsUse_125 : decode cX8_findsUse 125 = .ok (.iadd, 1) := by decide +kernel
theorem dX8_findsUse_126 : decode cX8_findsUse 126 = .ok (.iastore, 1) := by decide +kernel
theorem dX8_findsUse_127 : decode cX8_findsUse 127 = .ok (.return_, 1) := by decide +kernel
theorem dX8_sharesBy_0 : decode cX8_sharesBy 0 = .ok (.lconst 0, 1) := by decide +kernel
theorem dX8_sharesBy_1 : decode cX8_sharesBy 1 = .ok (.lstore_n 3, 1) := by decide +kernel
theorem dX8_sharesBy_2 : decode cX8_sharesBy 2 = .ok (.iconst 0, 1) := by decide +kernel
theorem dX8_sharesBy_3 : decode cX8_sharesBy 3 = .ok (.istore 5, 2) := by decide +kernel
theorem dX8_sharesBy_5 : decode cX8_sharesBy 5 = .ok (.iload 5, 2) := by decide +kernel
theorem dX8_sharesBy_7 : decode cX8_sharesBy 7 = .ok (.aload_n 0, 1) := by decide +kernel
theorem dX8_sharesBy_8 : decode cX8_sharesBy 8 = .ok (.getfield 123, 3) := by decide +kernel
theorem dX8_sharesBy_11 : decode cX8_sharesBy 11 = .ok (.if_icmp .ge 19, 3) := by decide +kernel
theorem dX8_sharesBy_14 : decode cX8_sharesBy 14 = .ok (.lload_n 3, 1) := by decide +kernel
theorem dX8_sharesBy_15 : decode cX8_sharesBy 15 = .ok (.aload_n 0, 1) := by decide +kernel
theorem dX8_sharesBy_16 : decode cX8_sharesBy 16 = .ok (.getfield 99, 3) := by decide +kernel
theorem dX8_sharesBy_19 : decode cX8_sharesBy 19 = .ok (.iload 5, 2) := by decide +kernel
theorem dX8_sharesBy_21 : decode cX8_sharesBy 21 = .ok (.laload, 1) := by decide +kernel
theorem dX8_sharesBy_22 : decode cX8_sharesBy 22 = .ok (.ladd, 1) := by decide +kernel
theorem dX8_sharesBy_23 : decode cX8_sharesBy 23 = .ok (.lstore_n 3, 1) := by decide +kernel
theorem dX8_sharesBy_24 : decode cX8_sharesBy 24 = .ok (.iinc 5 1, 3) := by decide +kernel
theorem dX8_sharesBy_27 : decode cX8_sharesBy 27 = .ok (.goto (-22), 3) := by decide +kernel
theorem dX8_sharesBy_30 : decode cX8_sharesBy 30 = .ok (.lload_n 3, 1) := by decide +kernel
theorem dX8_sharesBy_31 : decode cX8_sharesBy 31 = .ok (.lconst 0, 1) := by decide +kernel
theorem dX8_sharesBy_32 : decode cX8_sharesBy 32 = .ok (.lcmp, 1) := by decide +kernel
theorem dX8_sharesBy_33 : decode cX8_sharesBy 33 = .ok (.ifCond .ne 7, 3) := by decide +kernel
theorem dX8_sharesBy_36 : decode cX8_sharesBy 36 = .ok (.lconst 0, 1) := by decide +kernel
theorem dX8_sharesBy_37 : decode cX8_sharesBy 37 = .ok (.goto 4, 3) := by decide +kernel
theorem dX8_sharesBy_40 : decode cX8_sharesBy 40 = .ok (.lload_n 1, 1) := by decide +kernel
theorem dX8_sharesBy_41 : decode cX8_sharesBy 41 = .ok (.lstore 5, 2) := by decide +kernel
theorem dX8_sharesBy_43 : decode cX8_sharesBy 43 = .ok (.iconst 0, 1) := by decide +kernel
theorem dX8_sharesBy_44 : decode cX8_sharesBy 44 = .ok (.istore 7, 2) := by decide +kernel
theorem dX8_sharesBy_46 : decode cX8_sharesBy 46 = .ok (.iload 7, 2) := by decide +kernel
theorem dX8_sharesBy_48 : decode cX8_sharesBy 48 = .ok (.aload_n 0, 1) := by decide +kernel
theorem dX8_sharesBy_49 : decode cX8_sharesBy 49 = .ok (.getfield 123, 3) := by decide +kernel
theorem dX8_sharesBy_52 : decode cX8_sharesBy 52 = .ok (.if_icmp .ge 65, 3) := by decide +kernel
theorem dX8_sharesBy_55 : decode cX8_sharesBy 55 = .ok (.lload_n 3, 1) := by decide +kernel
theorem dX8_sharesBy_56 : decode cX8_sharesBy 56 = .ok (.lconst 0, 1) := by decide +kernel
theorem dX8_sharesBy_57 : decode cX8_sharesBy 57 = .ok (.lcmp, 1) := by decide +kernel
theorem dX8_sharesBy_58 : decode cX8_sharesBy 58 = .ok (.ifCond .le 59, 3) := by decide +kernel
theorem dX8_sharesBy_61 : decode cX8_sharesBy 61 = .ok (.lload_n 1, 1) := by decide +kernel
theorem dX8_sharesBy_62 : decode cX8_sharesBy 62 = .ok (.aload_n 0, 1) := by decide +kernel
theorem dX8_sharesBy_63 : decode cX8_sharesBy 63 = .ok (.getfield 99, 3) := by decide +kernel
theorem dX8_sharesBy_66 : decode cX8_sharesBy 66 = .ok (.iload 7, 2) := by decide +kernel
theorem dX8_sharesBy_68 : decode cX8_sharesBy 68 = .ok (.laload, 1) := by decide +kernel
theorem dX8_sharesBy_69 : decode cX8_sharesBy 69 = .ok (.lmul, 1) := by decide +kernel
theorem dX8_sharesBy_70 : decode cX8_sharesBy 70 = .ok (.lload_n 3, 1) := by decide +kernel
theorem dX8_sharesBy_71 : decode cX8_sharesBy 71 = .ok (.ldiv, 1) := by decide +kernel
theorem dX8_sharesBy_72 : decode cX8_sharesBy 72 = .ok (.lstore 8, 2) := by decide +kernel
theorem dX8_sharesBy_74 : decode cX8_sharesBy 74 = .ok (.aload_n 0, 1) := by decide +kernel
theorem dX8_sharesBy_75 : decode cX8_sharesBy 75 = .ok (.getfield 105, 3) := by decide +kernel
theorem dX8_sharesBy_78 : decode cX8_sharesBy 78 = .ok (.iload 7, 2) := by decide +kernel
theorem dX8_sharesBy_80 : decode cX8_sharesBy 80 = .ok (.lload_n 1, 1) := by decide +kernel
theorem dX8_sharesBy_81 : decode cX8_sharesBy 81 = .ok (.aload_n 0, 1) := by decide +kernel
theorem dX8_sharesBy_82 : decode cX8_sharesBy 82 = .ok (.getfield 99, 3) := by decide +kernel
theorem dX8_sharesBy_85 : decode cX8_sharesBy 85 = .ok (.iload 7, 2) := by decide +kernel
theorem dX8_sharesBy_87 : decode cX8_sharesBy 87 = .ok (.laload, 1) := by decide +kernel
theorem dX8_sharesBy_88 : decode cX8_sharesBy 88 = .ok (.lmul, 1) := by decide +kernel
theorem dX8_sharesBy_89 : decode cX8_sharesBy 89 = .ok (.lload_n 3, 1) := by decide +kernel
theorem dX8_sharesBy_90 : decode cX8_sharesBy 90 = .ok (.lrem, 1) := by decide +kernel
theorem dX8_sharesBy_91 : decode cX8_sharesBy 91 = .ok (.lastore, 1) := by decide +kernel
theorem dX8_sharesBy_92 : decode cX8_sharesBy 92 = .ok (.aload_n 0, 1) := by decide +kernel
theorem dX8_sharesBy_93 : decode cX8_sharesBy 93 = .ok (.getfield 102, 3) := by decide +kernel
theorem dX8_sharesBy_96 : decode cX8_sharesBy 96 = .ok (.iload 7, 2) := by decide +kernel
theorem dX8_sharesBy_98 : decode cX8_sharesBy 98 = .ok (.dup2, 1) := by decide +kernel
theorem dX8_sharesBy_99 : decode cX8_sharesBy 99 = .ok (.laload, 1) := by decide +kernel
theorem dX8_sharesBy_100 : decode cX8_sharesBy 100 = .ok (.lload 8, 2) := by decide +kernel
theorem dX8_sharesBy_102 : decode cX8_sharesBy 102 = .ok (.ladd, 1) := by decide +kernel
theorem dX8_sharesBy_103 : decode cX8_sharesBy 103 = .ok (.lastore, 1) := by decide +kernel
theorem dX8_sharesBy_104 : decode cX8_sharesBy 104 = .ok (.lload 5, 2) := by decide +kernel
theorem dX8_sharesBy_106 : decode cX8_sharesBy 106 = .ok (.lload 8, 2) := by decide +kernel
theorem dX8_sharesBy_108 : decode cX8_sharesBy 108 = .ok (.lsub, 1) := by decide +kernel
theorem dX8_sharesBy_109 : decode cX8_sharesBy 109 = .ok (.lstore 5, 2) := by decide +kernel
theorem dX8_sharesBy_111 : decode cX8_sharesBy 111 = .ok (.iinc 7 1, 3) := by decide +kernel
theorem dX8_sharesBy_114 : decode cX8_sharesBy 114 = .ok (.goto (-68), 3) := by decide +kernel
theorem dX8_sharesBy_117 : decode cX8_sharesBy 117 = .ok (.lload 5, 2) := by decide +kernel
theorem dX8_sharesBy_119 : decode cX8_sharesBy 119 = .ok (.lconst 0, 1) := by decide +kernel
theorem dX8_sharesBy_120 : decode cX8_sharesBy 120 = .ok (.lcmp, 1) := by decide +kernel
theorem dX8_sharesBy_121 : decode cX8_sharesBy 121 = .ok (.ifCond .le 81, 3) := by decide +kernel
theorem dX8_sharesBy_124 : decode cX8_sharesBy 124 = .ok (.iconst 0, 1) := by decide +kernel
theorem dX8_sharesBy_125 : decode cX8_sharesBy 125 = .ok (.istore 7, 2) := by decide +kernel
theorem dX8_sharesBy_127 : decode cX8_sharesBy 127 = .ok (.iconst 1, 1) := by decide +kernel
theorem dX8_sharesBy_128 : decode cX8_sharesBy 128 = .ok (.istore 8, 2) := by decide +kernel
theorem dX8_sharesBy_130 : decode cX8_sharesBy 130 = .ok (.iload 8, 2) := by decide +kernel
theorem dX8_sharesBy_132 : decode cX8_sharesBy 132 = .ok (.aload_n 0, 1) := by decide +kernel
theorem dX8_sharesBy_133 : decode cX8_sharesBy 133 = .ok (.getfield 123, 3) := by decide +kernel
theorem dX8_sharesBy_136 : decode cX8_sharesBy 136 = .ok (.if_icmp .ge 36, 3) := by decide +kernel
theorem dX8_sharesBy_139 : decode cX8_sharesBy 139 = .ok (.aload_n 0, 1) := by decide +kernel
theorem dX8_sharesBy_140 : decode cX8_sharesBy 140 = .ok (.getfield 105, 3) := by decide +kernel
theorem dX8_sharesBy_143 : decode cX8_sharesBy 143 = .ok (.iload 8, 2) := by decide +kernel
theorem dX8_sharesBy_145 : decode cX8_sharesBy 145 = .ok (.laload, 1) := by decide +kernel
theorem dX8_sharesBy_146 : decode cX8_sharesBy 146 = .ok (.aload_n 0, 1) := by decide +kernel
theorem dX8_sharesBy_147 : decode cX8_sharesBy 147 = .ok (.getfield 105, 3) := by decide +kernel
theorem dX8_sharesBy_150 : decode cX8_sharesBy 150 = .ok (.iload 7, 2) := by decide +kernel
theorem dX8_sharesBy_152 : decode cX8_sharesBy 152 = .ok (.laload, 1) := by decide +kernel
theorem dX8_sharesBy_153 : decode cX8_sharesBy 153 = .ok (.lcmp, 1) := by decide +kernel
theorem dX8_sharesBy_154 : decode cX8_sharesBy 154 = .ok (.ifCond .le 8, 3) := by decide +kernel
theorem dX8_sharesBy_157 : decode cX8_sharesBy 157 = .ok (.iload 8, 2) := by decide +kernel
theorem dX8_sharesBy_159 : decode cX8_sharesBy 159 = .ok (.goto 5, 3) := by decide +kernel
theorem dX8_sharesBy_162 : decode cX8_sharesBy 162 = .ok (.iload 7, 2) := by decide +kernel
theorem dX8_sharesBy_164 : decode cX8_sharesBy 164 = .ok (.istore 7, 2) := by decide +kernel
theorem dX8_sharesBy_166 : decode cX8_sharesBy 166 = .ok (.iinc 8 1, 3) := by decide +kernel
theorem dX8_sharesBy_169 : decode cX8_sharesBy 169 = .ok (.goto (-39), 3) := by decide +kernel
theorem dX8_sharesBy_172 : decode cX8_sharesBy 172 = .ok (.aload_n 0, 1) := by decide +kernel
theorem dX8_sharesBy_173 : decode cX8_sharesBy 173 = .ok (.getfield 102, 3) := by decide +kernel
theorem dX8_sharesBy_176 : decode cX8_sharesBy 176 = .ok (.iload 7, 2) := by decide +kernel
theorem dX8_sharesBy_178 : decode cX8_sharesBy 178 = .ok (.dup2, 1) := by decide +kernel
theorem dX8_sharesBy_179 : decode cX8_sharesBy 179 = .ok (.laload, 1) := by decide +kernel
theorem dX8_sharesBy_180 : decode cX8_sharesBy 180 = .ok (.lconst 1, 1) := by decide +kernel
theorem dX8_sharesBy_181 : decode cX8_sharesBy 181 = .ok (.ladd, 1) := by decide +kernel
theorem dX8_sharesBy_182 : decode cX8_sharesBy 182 = .ok (.lastore, 1) := by decide +kernel
theorem dX8_sharesBy_183 : decode cX8_sharesBy 183 = .ok (.aload_n 0, 1) := by decide +kernel
theorem dX8_sharesBy_184 : decode cX8_sharesBy 184 = .ok (.getfield 105, 3) := by decide +kernel
theorem dX8_sharesBy_187 : decode cX8_sharesBy 187 = .ok (.iload 7, 2) := by decide +kernel
theorem dX8_sharesBy_189 : decode cX8_sharesBy 189 = .ok (.ldc2_w 159, 3) := by decide +kernel
theorem dX8_sharesBy_192 : decode cX8_sharesBy 192 = .ok (.lastore, 1) := by decide +kernel
theorem dX8_sharesBy_193 : decode cX8_sharesBy 193 = .ok (.lload 5, 2) := by decide +kernel
theorem dX8_sharesBy_195 : decode cX8_sharesBy 195 = .ok (.lconst 1, 1) := by decide +kernel
theorem dX8_sharesBy_196 : decode cX8_sharesBy 196 = .ok (.lsub, 1) := by decide +kernel
theorem dX8_sharesBy_197 : decode cX8_sharesBy 197 = .ok (.lstore 5, 2) := by decide +kernel
theorem dX8_sharesBy_199 : decode cX8_sharesBy 199 = .ok (.goto (-82), 3) := by decide +kernel
theorem dX8_sharesBy_202 : decode cX8_sharesBy 202 = .ok (.return_, 1) := by decide +kernel
theorem dX8_weighs_0 : decode cX8_weighs 0 = .ok (.lconst 0, 1) := by decide +kernel
theorem dX8_weighs_1 : decode cX8_weighs 1 = .ok (.lstore_n 3, 1) := by decide +kernel
theorem dX8_weighs_2 : decode cX8_weighs 2 = .ok (.iconst 0, 1) := by decide +kernel
theorem dX8_weighs_3 : decode cX8_weighs 3 = .ok (.istore 5, 2) := by decide +kernel
theorem dX8_weighs_5 : decode cX8_weighs 5 = .ok (.iload 5, 2) := by decide +kernel
theorem dX8_weighs_7 : decode cX8_weighs 7 = .ok (.aload_n 0, 1) := by decide +kernel
theorem dX8_weighs_8 : decode cX8_weighs 8 = .ok (.getfield 123, 3) := by decide +kernel
theorem dX8_weighs_11 : decode cX8_weighs 11 = .ok (.if_icmp .ge 77, 3) := by decide +kernel
theorem dX8_weighs_14 : decode cX8_weighs 14 = .ok (.aload_n 0, 1) := by decide +kernel
theorem dX8_weighs_15 : decode cX8_weighs 15 = .ok (.getfield 50, 3) := by decide +kernel
theorem dX8_weighs_18 : decode cX8_weighs 18 = .ok (.iload 5, 2) := by decide +kernel
theorem dX8_weighs_20 : decode cX8_weighs 20 = .ok (.iaload, 1) := by decide +kernel
theorem dX8_weighs_21 : decode cX8_weighs 21 = .ok (.istore 6, 2) := by decide +kernel
theorem dX8_weighs_23 : decode cX8_weighs 23 = .ok (.aload_n 0, 1) := by decide +kernel
theorem dX8_weighs_24 : decode cX8_weighs 24 = .ok (.getfield 99, 3) := by decide +kernel
theorem dX8_weighs_27 : decode cX8_weighs 27 = .ok (.iload 5, 2) := by decide +kernel
theorem dX8_weighs_29 : decode cX8_weighs 29 = .ok (.aload_n 0, 1) := by decide +kernel
theorem dX8_weighs_30 : decode cX8_weighs 30 = .ok (.iload 5, 2) := by decide +kernel
theorem dX8_weighs_32 : decode cX8_weighs 32 = .ok (.iload_n 1, 1) := by decide +kernel
theorem dX8_weighs_33 : decode cX8_weighs 33 = .ok (.invokevirtual 137, 3) := by decide +kernel
theorem dX8_weighs_36 : decode cX8_weighs 36 = .ok (.ifCond .ne 7, 3) := by decide +kernel
theorem dX8_weighs_39 : decode cX8_weighs 39 = .ok (.lconst 0, 1) := by decide +kernel
theorem dX8_weighs_40 : decode cX8_weighs 40 = .ok (.goto 31, 3) := by decide +kernel
theorem dX8_weighs_43 : decode cX8_weighs 43 = .ok (.iload_n 2, 1) := by decide +kernel
theorem dX8_weighs_44 : decode cX8_weighs 44 = .ok (.ifCond .eq 19, 3) := by decide +kernel
theorem dX8_weighs_47 : decode cX8_weighs 47 = .ok (.aload_n 0, 1) := by decide +kernel
theorem dX8_weighs_48 : decode cX8_weighs 48 = .ok (.getfield 28, 3) := by decide +kernel
theorem dX8_weighs_51 : decode cX8_weighs 51 = .ok (.bipush 121, 2) := by decide +kernel
theorem dX8_weighs_53 : decode cX8_weighs 53 = .ok (.iload 6, 2) := by decide +kernel
theorem dX8_weighs_55 : decode cX8_weighs 55 = .ok (.imul, 1) := by decide +kernel
theorem dX8_weighs_56 : decode cX8_weighs 56 = .ok (.iload_n 1, 1) := by decide +kernel
theorem dX8_weighs_57 : decode cX8_weighs 57 = .ok (.iadd, 1) := by decide +kernel
theorem dX8_weighs_58 : decode cX8_weighs 58 = .ok (.iaload, 1) := by decide +kernel
theorem dX8_weighs_59 : decode cX8_weighs 59 = .ok (.i2l, 1) := by decide +kernel
theorem dX8_weighs_60 : decode cX8_weighs 60 = .ok (.goto 11, 3) := by decide +kernel
theorem dX8_weighs_63 : decode cX8_weighs 63 = .ok (.aload_n 0, 1) := by decide +kernel
theorem dX8_weighs_64 : decode cX8_weighs 64 = .ok (.getfield 7, 3) := by decide +kernel
theorem dX8_weighs_67 : decode cX8_weighs 67 = .ok (.iload 6, 2) := by decide +kernel
theorem dX8_weighs_69 : decode cX8_weighs 69 = .ok (.iaload, 1) := by decide +kernel
theorem dX8_weighs_70 : decode cX8_weighs 70 = .ok (.i2l, 1) := by decide +kernel
theorem dX8_weighs_71 : decode cX8_weighs 71 = .ok (.lastore, 1) := by decide +kernel
theorem dX8_weighs_72 : decode cX8_weighs 72 = .ok (.lload_n 3, 1) := by decide +kernel
theorem dX8_weighs_73 : decode cX8_weighs 73 = .ok (.aload_n 0, 1) := by decide +kernel
theorem dX8_weighs_74 : decode cX8_weighs 74 = .ok (.getfield 99, 3) := by decide +kernel
theorem dX8_weighs_77 : decode cX8_weighs 77 = .ok (.iload 5, 2) := by decide +kernel
theorem dX8_weighs_79 : decode cX8_weighs 79 = .ok (.laload, 1) := by decide +kernel
theorem dX8_weighs_80 : decode cX8_weighs 80 = .ok (.ladd, 1) := by decide +kernel
theorem dX8_weighs_81 : decode cX8_weighs 81 = .ok (.lstore_n 3, 1) := by decide +kernel
theorem dX8_weighs_82 : decode cX8_weighs 82 = .ok (.iinc 5 1, 3) := by decide +kernel
theorem dX8_weighs_85 : decode cX8_weighs 85 = .ok (.goto (-80), 3) := by decide +kernel
theorem dX8_weighs_88 : decode cX8_weighs 88 = .ok (.lload_n 3, 1) := by decide +kernel
theorem dX8_weighs_89 : decode cX8_weighs 89 = .ok (.lreturn, 1) := by decide +kernel
theorem dX8_sharesHeat_0 : decode cX8_sharesHeat 0 = .ok (.iconst 0, 1) := by decide +kernel
theorem dX8_sharesHeat_1 : decode cX8_sharesHeat 1 = .ok (.istore_n 2, 1) := by decide +kernel
theorem dX8_sharesHeat_2 : decode cX8_sharesHeat 2 = .ok (.iload_n 2, 1) := by decide +kernel
theorem dX8_sharesHeat_3 : decode cX8_sharesHeat 3 = .ok (.aload_n 0, 1) := by decide +kernel
theorem dX8_sharesHeat_4 : decode cX8_sharesHeat 4 = .ok (.getfield 123, 3) := by decide +kernel
theorem dX8_sharesHeat_7 : decode cX8_sharesHeat 7 = .ok (.if_icmp .ge 16, 3) := by decide +kernel
theorem dX8_sharesHeat_10 : decode cX8_sharesHeat 10 = .ok (.aload_n 0, 1) := by decide +kernel
theorem dX8_sharesHeat_11 : decode cX8_sharesHeat 11 = .ok (.getfield 102, 3) := by decide +kernel
theorem dX8_sharesHeat_14 : decode cX8_sharesHeat 14 = .ok (.iload_n 2, 1) := by decide +kernel
theorem dX8_sharesHeat_15 : decode cX8_sharesHeat 15 = .ok (.lconst 0, 1) := by decide +kernel
theorem dX8_sharesHeat_16 : decode cX8_sharesHeat 16 = .ok (.lastore, 1) := by decide +kernel
theorem dX8_sharesHeat_17 : decode cX8_sharesHeat 17 = .ok (.iinc 2 1, 3) := by decide +kernel
theorem dX8_sharesHeat_20 : decode cX8_sharesHeat 20 = .ok (.goto (-18), 3) := by decide +kernel
theorem dX8_sharesHeat_23 : decode cX8_sharesHeat 23 = .ok (.aload_n 0, 1) := by decide +kernel
theorem dX8_sharesHeat_24 : decode cX8_sharesHeat 24 = .ok (.iload_n 1, 1) := by decide +kernel
theorem dX8_sharesHeat_25 : decode cX8_sharesHeat 25 = .ok (.iconst 1, 1) := by decide +kernel
theorem dX8_sharesHeat_26 : decode cX8_sharesHeat 26 = .ok (.invokevirtual 161, 3) := by decide +kernel
theorem dX8_sharesHeat_29 : decode cX8_sharesHeat 29 = .ok (.lconst 0, 1) := by decide +kernel
theorem dX8_sharesHeat_30 : decode cX8_sharesHeat 30 = .ok (.lcmp, 1) := by decide +kernel
theorem dX8_sharesHeat_31 : decode cX8_sharesHeat 31 = .ok (.ifCond .le 7, 3) := by decide +kernel
theorem dX8_sharesHeat_34 : decode cX8_sharesHeat 34 = .ok (.iconst 1, 1) := by decide +kernel
theorem dX8_sharesHeat_35 : decode cX8_sharesHeat 35 = .ok (.goto 4, 3) := by decide +kernel
theorem dX8_sharesHeat_38 : decode cX8_sharesHeat 38 = .ok (.iconst 0, 1) := by decide +kernel
theorem dX8_sharesHeat_39 : decode cX8_sharesHeat 39 = .ok (.istore_n 2, 1) := by decide +kernel
theorem dX8_sharesHeat_40 : decode cX8_sharesHeat 40 = .ok (.iload_n 2, 1) := by decide +kernel
theorem dX8_sharesHeat_41 : decode cX8_sharesHeat 41 = .ok (.ifCond .eq 19, 3) := by decide +kernel
theorem dX8_sharesHeat_44 : decode cX8_sharesHeat 44 = .ok (.ldc2_w 165, 3) := by decide +kernel
theorem dX8_sharesHeat_47 : decode cX8_sharesHeat 47 = .ok (.aload_n 0, 1) := by decide +kernel
theorem dX8_sharesHeat_48 : decode cX8_sharesHeat 48 = .ok (.getfield 152, 3) := by decide +kernel
theorem dX8_sharesHeat_51 : decode cX8_sharesHeat 51 = .ok (.i2l, 1) := by decide +kernel
theorem dX8_sharesHeat_52 : decode cX8_sharesHeat 52 = .ok (.lmul, 1) := by decide +kernel
theorem dX8_sharesHeat_53 : decode cX8_sharesHeat 53 = .ok (.ldc2_w 167, 3) := by decide +kernel
theorem dX8_sharesHeat_56 : decode cX8_sharesHeat 56 = .ok (.ldiv, 1) := by decide +kernel
theorem dX8_sharesHeat_57 : decode cX8_sharesHeat 57 = .ok (.goto 8, 3) := by decide +kernel
theorem dX8_sharesHeat_60 : decode cX8_sharesHeat 60 = .ok (.aload_n 0, 1) := by decide +kernel
theorem dX8_sharesHeat_61 : decode cX8_sharesHeat 61 = .ok (.getfield 152, 3) := by decide +kernel
theorem dX8_sharesHeat_64 : decode cX8_sharesHeat 64 = .ok (.i2l, 1) := by decide +kernel
theorem dX8_sharesHeat_65 : decode cX8_sharesHeat 65 = .ok (.lstore_n 3, 1) := by decide +kernel
theorem dX8_sharesHeat_66 : decode cX8_sharesHeat 66 = .ok (.iload_n 2, 1) := by decide +kernel
theorem dX8_sharesHeat_67 : decode cX8_sharesHeat 67 = .ok (.ifCond .eq 14, 3) := by decide +kernel
theorem dX8_sharesHeat_70 : decode cX8_sharesHeat 70 = .ok (.aload_n 0, 1) := by decide +kernel
theorem dX8_sharesHeat_71 : decode cX8_sharesHeat 71 = .ok (.aload_n 0, 1) := by decide +kernel
theorem dX8_sharesHeat_72 : decode cX8_sharesHeat 72 = .ok (.getfield 152, 3) := by decide +kernel
theorem dX8_sharesHeat_75 : decode cX8_sharesHeat 75 = .ok (.i2l, 1) := by decide +kernel
theorem dX8_sharesHeat_76 : decode cX8_sharesHeat 76 = .ok (.lload_n 3, 1) := by decide +kernel
theorem dX8_sharesHeat_77 : decode cX8_sharesHeat 77 = .ok (.lsub, 1) := by decide +kernel
theorem dX8_sharesHeat_78 : decode cX8_sharesHeat 78 = .ok (.invokevirtual 169, 3) := by decide +kernel
theorem dX8_sharesHeat_81 : decode cX8_sharesHeat 81 = .ok (.aload_n 0, 1) := by decide +kernel
theorem dX8_sharesHeat_82 : decode cX8_sharesHeat 82 = .ok (.iload_n 1, 1) := by decide +kernel
theorem dX8_sharesHeat_83 : decode cX8_sharesHeat 83 = .ok (.iconst 0, 1) := by decide +kernel
theorem dX8_sharesHeat_84 : decode cX8_sharesHeat 84 = .ok (.invokevirtual 161, 3) := by decide +kernel
theorem dX8_sharesHeat_87 : decode cX8_sharesHeat 87 = .ok (.lstore 5, 2) := by decide +kernel
theorem dX8_sharesHeat_89 : decode cX8_sharesHeat 89 = .ok (.aload_n 0, 1) := by decide +kernel
theorem dX8_sharesHeat_90 : decode cX8_sharesHeat 90 = .ok (.lload_n 3, 1) := by decide +kernel
theorem dX8_sharesHeat_91 : decode cX8_sharesHeat 91 = .ok (.invokevirtual 169, 3) := by decide +kernel
theorem dX8_sharesHeat_94 : decode cX8_sharesHeat 94 = .ok (.return_, 1) := by decide +kernel
theorem dX8_incomeIn_0 : decode cX8_incomeIn 0 = .ok (.iconst 0, 1) := by decide +kernel
theorem dX8_incomeIn_1 : decode cX8_incomeIn 1 = .ok (.istore_n 3, 1) := by decide +kernel
theorem dX8_incomeIn_2 : decode cX8_incomeIn 2 = .ok (.iconst 0, 1) := by decide +kernel
theorem dX8_incomeIn_3 : decode cX8_incomeIn 3 = .ok (.istore 4, 2) := by decide +kernel
theorem dX8_incomeIn_5 : decode cX8_incomeIn 5 = .ok (.iload 4, 2) := by decide +kernel
theorem dX8_incomeIn_7 : decode cX8_incomeIn 7 = .ok (.iload_n 2, 1) := by decide +kernel
theorem dX8_incomeIn_8 : decode cX8_incomeIn 8 = .ok (.if_icmp .gt 40, 3) := by decide +kernel
theorem dX8_incomeIn_11 : decode cX8_incomeIn 11 = .ok (.aload_n 0, 1) := by decide +kernel
theorem dX8_incomeIn_12 : decode cX8_incomeIn 12 = .ok (.getfield 69, 3) := by decide +kernel
theorem dX8_incomeIn_15 : decode cX8_incomeIn 15 = .ok (.iload_n 1, 1) := by decide +kernel
theorem dX8_incomeIn_16 : decode cX8_incomeIn 16 = .ok (.iload 4, 2) := by decide +kernel
theorem dX8_incomeIn_18 : decode cX8_incomeIn 18 = .ok (.invokestatic 173, 3) := by decide +kernel
theorem dX8_incomeIn_21 : decode cX8_incomeIn 21 = .ok (.iaload, 1) := by decide +kernel
theorem dX8_incomeIn_22 : decode cX8_incomeIn 22 = .ok (.iconst (-1), 1) := by decide +kernel
theorem dX8_incomeIn_23 : decode cX8_incomeIn 23 = .ok (.if_icmp .ne 7, 3) := by decide +kernel
theorem dX8_incomeIn_26 : decode cX8_incomeIn 26 = .ok (.iload_n 3, 1) := by decide +kernel
theorem dX8_incomeIn_27 : decode cX8_incomeIn 27 = .ok (.goto 14, 3) := by decide +kernel
theorem dX8_incomeIn_30 : decode cX8_incomeIn 30 = .ok (.aload_n 0, 1) := by decide +kernel
theorem dX8_incomeIn_31 : decode cX8_incomeIn 31 = .ok (.getfield 69, 3) := by decide +kernel
theorem dX8_incomeIn_34 : decode cX8_incomeIn 34 = .ok (.iload_n 1, 1) := by decide +kernel
theorem dX8_incomeIn_35 : decode cX8_incomeIn 35 = .ok (.iload 4, 2) := by decide +kernel
theorem dX8_incomeIn_37 : decode cX8_incomeIn 37 = .ok (.invokestatic 173, 3) := by decide +kernel
theorem dX8_incomeIn_40 : decode cX8_incomeIn 40 = .ok (.iaload, 1) := by decide +kernel
theorem dX8_incomeIn_41 : decode cX8_incomeIn 41 = .ok (.istore_n 3, 1) := by decide +kernel
theorem dX8_incomeIn_42 : decode cX8_incomeIn 42 = .ok (.iinc 4 1, 3) := by decide +kernel
theorem dX8_incomeIn_45 : decode cX8_incomeIn 45 = .ok (.goto (-40), 3) := by decide +kernel
theorem dX8_incomeIn_48 : decode cX8_incomeIn 48 = .ok (.iload_n 3, 1) := by decide +kernel
theorem dX8_incomeIn_49 : decode cX8_incomeIn 49 = .ok (.ireturn, 1) := by decide +kernel
theorem dX8_benefitFor_0 : decode cX8_benefitFor 0 = .ok (.iload_n 0, 1) := by decide +kernel
theorem dX8_benefitFor_1 : decode cX8_benefitFor 1 = .ok (.iconst 3, 1) := by decide +kernel
theorem dX8_benefitFor_2 : decode cX8_benefitFor 2 = .ok (.iload_n 1, 1) := by decide +kernel
theorem dX8_benefitFor_3 : decode cX8_benefitFor 3 = .ok (.imul, 1) := by decide +kernel
theorem dX8_benefitFor_4 : decode cX8_benefitFor 4 = .ok (.bipush 10, 2) := by decide +kernel
theorem dX8_benefitFor_6 : decode cX8_benefitFor 6 = .ok (.idiv, 1) := by decide +kernel
theorem dX8_benefitFor_7 : decode cX8_benefitFor 7 = .ok (.isub, 1) := by decide +kernel
theorem dX8_benefitFor_8 : decode cX8_benefitFor 8 = .ok (.istore_n 2, 1) := by decide +kernel
theorem dX8_benefitFor_9 : decode cX8_benefitFor 9 = .ok (.bipush 8, 2) := by decide +kernel
theorem dX8_benefitFor_11 : decode cX8_benefitFor 11 = .ok (.iload_n 0, 1) := by decide +kernel
theorem dX8_benefitFor_12 : decode cX8_benefitFor 12 = .ok (.imul, 1) := by decide +kernel
theorem dX8_benefitFor_13 : decode cX8_benefitFor 13 = .ok (.bipush 10, 2) := by decide +kernel
theorem dX8_benefitFor_15 : decode cX8_benefitFor 15 = .ok (.idiv, 1) := by decide +kernel
theorem dX8_benefitFor_16 : decode cX8_benefitFor 16 = .ok (.istore_n 3, 1) := by decide +kernel
theorem dX8_benefitFor_17 : decode cX8_benefitFor 17 = .ok (.iload_n 2, 1) := by decide +kernel
theorem dX8_benefitFor_18 : decode cX8_benefitFor 18 = .ok (.ifCond .ge 7, 3) := by decide +kernel
theorem dX8_benefitFor_21 : decode cX8_benefitFor 21 = .ok (.iconst 0, 1) := by decide +kernel
theorem dX8_benefitFor_22 : decode cX8_benefitFor 22 = .ok (.goto 13, 3) := by decide +kernel
theorem dX8_benefitFor_25 : decode cX8_benefitFor 25 = .ok (.iload_n 2, 1) := by decide +kernel
theorem dX8_benefitFor_26 : decode cX8_benefitFor 26 = .ok (.iload_n 3, 1) := by decide +kernel
theorem dX8_benefitFor_27 : decode cX8_benefitFor 27 = .ok (.if_icmp .le 7, 3) := by decide +kernel
theorem dX8_benefitFor_30 : decode cX8_benefitFor 30 = .ok (.iload_n 3, 1) := by decide +kernel
theorem dX8_benefitFor_31 : decode cX8_benefitFor 31 = .ok (.goto 4, 3) := by decide +kernel
theorem dX8_benefitFor_34 : decode cX8_benefitFor 34 = .ok (.iload_n 2, 1) := by decide +kernel
theorem dX8_benefitFor_35 : decode cX8_benefitFor 35 = .ok (.ireturn, 1) := by decide +kernel
theorem dX8_looksAtPlan_0 : decode cX8_looksAtPlan 0 = .ok (.aload_n 0, 1) := by decide +kernel
theorem dX8_looksAtPlan_1 : decode cX8_looksAtPlan 1 = .ok (.getfield 87, 3) := by decide +kernel
theorem dX8_looksAtPlan_4 : decode cX8_looksAtPlan 4 = .ok (.iload_n 1, 1) := by decide +kernel
theorem dX8_looksAtPlan_5 : decode cX8_looksAtPlan 5 = .ok (.iaload, 1) := by decide +kernel
theorem dX8_looksAtPlan_6 : decode cX8_looksAtPlan 6 = .ok (.iconst 1, 1) := by decide +kernel
theorem dX8_looksAtPlan_7 : decode cX8_looksAtPlan 7 = .ok (.if_icmp .eq 4, 3) := by decide +kernel
theorem dX8_looksAtPlan_10 : decode cX8_looksAtPlan 10 = .ok (.return_, 1) := by decide +kernel
theorem dX8_looksAtPlan_11 : decode cX8_looksAtPlan 11 = .ok (.aload_n 0, 1) := by decide +kernel
theorem dX8_looksAtPlan_12 : decode cX8_looksAtPlan 12 = .ok (.getfield 96, 3) := by decide +kernel
theorem dX8_looksAtPlan_15 : decode cX8_looksAtPlan 15 = .ok (.iload_n 1, 1) := by decide +kernel
theorem dX8_looksAtPlan_16 : decode cX8_looksAtPlan 16 = .ok (.dup2, 1) := by decide +kernel
theorem dX8_looksAtPlan_17 : decode cX8_looksAtPlan 17 = .ok (.iaload, 1) := by decide +kernel
theorem dX8_looksAtPlan_18 : decode cX8_looksAtPlan 18 = .ok (.iconst 1, 1) := by decide +kernel
theorem dX8_looksAtPlan_19 : decode cX8_looksAtPlan 19 = .ok (.iadd, 1) := by decide +kernel
theorem dX8_looksAtPlan_20 : decode cX8_looksAtPlan 20 = .ok (.iastore, 1) := by decide +kernel
theorem dX8_looksAtPlan_21 : decode cX8_looksAtPlan 21 = .ok (.aload_n 0, 1) := by decide +kernel
theorem dX8_looksAtPlan_22 : decode cX8_looksAtPlan 22 = .ok (.getfield 90, 3) := by decide +kernel
theorem dX8_looksAtPlan_25 : decode cX8_looksAtPlan 25 = .ok (.iload_n 1, 1) := by decide +kernel
theorem dX8_looksAtPlan_26 : decode cX8_looksAtPlan 26 = .ok (.laload, 1) := by decide +kernel
theorem dX8_looksAtPlan_27 : decode cX8_looksAtPlan 27 = .ok (.aload_n 0, 1) := by decide +kernel
theorem dX8_looksAtPlan_28 : decode cX8_looksAtPlan 28 = .ok (.getfield 96, 3) := by decide +kernel
theorem dX8_looksAtPlan_31 : decode cX8_looksAtPlan 31 = .ok (.iload_n 1, 1) := by decide +kernel
theorem dX8_looksAtPlan_32 : decode cX8_looksAtPlan 32 = .ok (.iaload, 1) := by decide +kernel
theorem dX8_looksAtPlan_33 : decode cX8_looksAtPlan 33 = .ok (.i2l, 1) := by decide +kernel
theorem dX8_looksAtPlan_34 : decode cX8_looksAtPlan 34 = .ok (.aload_n 0, 1) := by decide +kernel
theorem dX8_looksAtPlan_35 : decode cX8_looksAtPlan 35 = .ok (.getfield 93, 3) := by decide +kernel
theorem dX8_looksAtPlan_38 : decode cX8_looksAtPlan 38 = .ok (.iload_n 1, 1) := by decide +kernel
theorem dX8_looksAtPlan_39 : decode cX8_looksAtPlan 39 = .ok (.laload, 1) := by decide +kernel
theorem dX8_looksAtPlan_40 : decode cX8_looksAtPlan 40 = .ok (.lmul, 1) := by decide +kernel
theorem dX8_looksAtPlan_41 : decode cX8_looksAtPlan 41 = .ok (.lsub, 1) := by decide +kernel
theorem dX8_looksAtPlan_42 : decode cX8_looksAtPlan 42 = .ok (.lstore_n 2, 1) := by decide +kernel
theorem dX8_looksAtPlan_43 : decode cX8_looksAtPlan 43 = .ok (.lload_n 2, 1) := by decide +kernel
theorem dX8_looksAtPlan_44 : decode cX8_looksAtPlan 44 = .ok (.lconst 0, 1) := by decide +kernel
theorem dX8_looksAtPlan_45 : decode cX8_looksAtPlan 45 = .ok (.lcmp, 1) := by decide +kernel
theorem dX8_looksAtPlan_46 : decode cX8_looksAtPlan 46 = .ok (.ifCond .ge 7, 3) := by decide +kernel
theorem dX8_looksAtPlan_49 : decode cX8_looksAtPlan 49 = .ok (.lconst 0, 1) := by decide +kernel
theorem dX8_looksAtPlan_50 : decode cX8_looksAtPlan 50 = .ok (.goto 4, 3) := by decide +kernel
theorem dX8_looksAtPlan_53 : decode cX8_looksAtPlan 53 = .ok (.lload_n 2, 1) := by decide +kernel
theorem dX8_looksAtPlan_54 : decode cX8_looksAtPlan 54 = .ok (.lstore_n 2, 1) := by decide +kernel
theorem dX8_looksAtPlan_55 : decode cX8_looksAtPlan 55 = .ok (.aload_n 0, 1) := by decide +kernel
theorem dX8_looksAtPlan_56 : decode cX8_looksAtPlan 56 = .ok (.getfield 87, 3) := by decide +kernel
theorem dX8_looksAtPlan_59 : decode cX8_looksAtPlan 59 = .ok (.iload_n 1, 1) := by decide +kernel
theorem dX8_looksAtPlan_60 : decode cX8_looksAtPlan 60 = .ok (.aload_n 0, 1) := by decide +kernel
theorem dX8_looksAtPlan_61 : decode cX8_looksAtPlan 61 = .ok (.getfield 62, 3) := by decide +kernel
theorem dX8_looksAtPlan_64 : decode cX8_looksAtPlan 64 = .ok (.iload_n 1, 1) := by decide +kernel
theorem dX8_looksAtPlan_65 : decode cX8_looksAtPlan 65 = .ok (.laload, 1) := by decide +kernel
theorem dX8_looksAtPlan_66 : decode cX8_looksAtPlan 66 = .ok (.lload_n 2, 1) := by decide +kernel
theorem dX8_looksAtPlan_67 : decode cX8_looksAtPlan 67 = .ok (.lcmp, 1) := by decide +kernel
theorem dX8_looksAtPlan_68 : decode cX8_looksAtPlan 68 = .ok (.ifCond .le 7, 3) := by decide +kernel
theorem dX8_looksAtPlan_71 : decode cX8_looksAtPlan 71 = .ok (.iconst 2, 1) := by decide +kernel
theorem dX8_looksAtPlan_72 : decode cX8_looksAtPlan 72 = .ok (.goto 14, 3) := by decide +kernel
theorem dX8_looksAtPlan_75 : decode cX8_looksAtPlan 75 = .ok (.lload_n 2, 1) := by decide +kernel
theorem dX8_looksAtPlan_76 : decode cX8_looksAtPlan 76 = .ok (.lconst 0, 1) := by decide +kernel
theorem dX8_looksAtPlan_77 : decode cX8_looksAtPlan 77 = .ok (.lcmp, 1) := by decide +kernel
theorem dX8_looksAtPlan_78 : decode cX8_looksAtPlan 78 = .ok (.ifCond .ne 7, 3) := by decide +kernel
theorem dX8_looksAtPlan_81 : decode cX8_looksAtPlan 81 = .ok (.iconst 3, 1) := by decide +kernel
theorem dX8_looksAtPlan_82 : decode cX8_looksAtPlan 82 = .ok (.goto 4, 3) := by decide +kernel
theorem dX8_looksAtPlan_85 : decode cX8_looksAtPlan 85 = .ok (.iconst 1, 1) := by decide +kernel
theorem dX8_looksAtPlan_86 : decode cX8_looksAtPlan 86 = .ok (.iastore, 1) := by decide +kernel
theorem dX8_looksAtPlan_87 : decode cX8_looksAtPlan 87 = .ok (.return_, 1) := by decide +kernel
theorem dX8_bills_0 : decode cX8_bills 0 = .ok (.iload_n 1, 1) := by decide +kernel
theorem dX8_bills_1 : decode cX8_bills 1 = .ok (.iload_n 2, 1) := by decide +kernel
theorem dX8_bills_2 : decode cX8_bills 2 = .ok (.invokestatic 173, 3) := by decide +kernel
theorem dX8_bills_5 : decode cX8_bills 5 = .ok (.istore_n 3, 1) := by decide +kernel
theorem dX8_bills_6 : decode cX8_bills 6 = .ok (.aload_n 0, 1) := by decide +kernel
theorem dX8_bills_7 : decode cX8_bills 7 = .ok (.iload_n 1, 1) := by decide +kernel
theorem dX8_bills_8 : decode cX8_bills 8 = .ok (.iload_n 2, 1) := by decide +kernel
theorem dX8_bills_9 : decode cX8_bills 9 = .ok (.invokevirtual 177, 3) := by decide +kernel
theorem dX8_bills_12 : decode cX8_bills 12 = .ok (.istore 4, 2) := by decide +kernel
theorem dX8_bills_14 : decode cX8_bills 14 = .ok (.iload 4, 2) := by decide +kernel
theorem dX8_bills_16 : decode cX8_bills 16 = .ok (.i2l, 1) := by decide +kernel
theorem dX8_bills_17 : decode cX8_bills 17 = .ok (.aload_n 0, 1) := by decide +kernel
theorem dX8_bills_18 : decode cX8_bills 18 = .ok (.getfield 25, 3) := by decide +kernel
theorem dX8_bills_21 : decode cX8_bills 21 = .ok (.aload_n 0, 1) := by decide +kernel
theorem dX8_bills_22 : decode cX8_bills 22 = .ok (.getfield 50, 3) := by decide +kernel
theorem dX8_bills_25 : decode cX8_bills 25 = .ok (.iload_n 1, 1) := by decide +kernel
theorem dX8_bills_26 : decode cX8_bills 26 = .ok (.iaload, 1) := by decide +kernel
theorem dX8_bills_27 : decode cX8_bills 27 = .ok (.iaload, 1) := by decide +kernel
theorem dX8_bills_28 : decode cX8_bills 28 = .ok (.i2l, 1) := by decide +kernel
theorem dX8_bills_29 : decode cX8_bills 29 = .ok (.lmul, 1) := by decide +kernel
theorem dX8_bills_30 : decode cX8_bills 30 = .ok (.ldc2_w 180, 3) := by decide +kernel
theorem dX8_bills_33 : decode cX8_bills 33 = .ok (.ldiv, 1) := by decide +kernel
theorem dX8_bills_34 : decode cX8_bills 34 = .ok (.lstore 5, 2) := by decide +kernel
theorem dX8_bills_36 : decode cX8_bills 36 = .ok (.aload_n 0, 1) := by decide +kernel
theorem dX8_bills_37 : decode cX8_bills 37 = .ok (.getfield 72, 3) := by decide +kernel
theorem dX8_bills_40 : decode cX8_bills 40 = .ok (.iload_n 3, 1) := by decide +kernel
theorem dX8_bills_41 : decode cX8_bills 41 = .ok (.iconst 1, 1) := by decide +kernel
theorem dX8_bills_42 : decode cX8_bills 42 = .ok (.bastore, 1) := by decide +kernel
theorem dX8_bills_43 : decode cX8_bills 43 = .ok (.aload_n 0, 1) := by decide +kernel
theorem dX8_bills_44 : decode cX8_bills 44 = .ok (.getfield 75, 3) := by decide +kernel
theorem dX8_bills_47 : decode cX8_bills 47 = .ok (.iload_n 3, 1) := by decide +kernel
theorem dX8_bills_48 : decode cX8_bills 48 = .ok (.iload 4, 2) := by decide +kernel
theorem dX8_bills_50 : decode cX8_bills 50 = .ok (.iastore, 1) := by decide +kernel
theorem dX8_bills_51 : decode cX8_bills 51 = .ok (.aload_n 0, 1) := by decide +kernel
theorem dX8_bills_52 : decode cX8_bills 52 = .ok (.getfield 78, 3) := by decide +kernel
theorem dX8_bills_55 : decode cX8_bills 55 = .ok (.iload_n 3, 1) := by decide +kernel
theorem dX8_bills_56 : decode cX8_bills 56 = .ok (.lload 5, 2) := by decide +kernel
theorem dX8_bills_58 : decode cX8_bills 58 = .ok (.iload 4, 2) := by decide +kernel
theorem dX8_bills_60 : decode cX8_bills 60 = .ok (.i2l, 1) := by decide +kernel
theorem dX8_bills_61 : decode cX8_bills 61 = .ok (.lcmp, 1) := by decide +kernel
theorem dX8_bills_62 : decode cX8_bills 62 = .ok (.ifCond .le 8, 3) := by decide +kernel
theorem dX8_bills_65 : decode cX8_bills 65 = .ok (.iload 4, 2) := by decide +kernel
theorem dX8_bills_67 : decode cX8_bills 67 = .ok (.goto 6, 3) := by decide +kernel
theorem dX8_bills_70 : decode cX8_bills 70 = .ok (.lload 5, 2) := by decide +kernel
theorem dX8_bills_72 : decode cX8_bills 72 = .ok (.l2i, 1) := by decide +kernel
theorem dX8_bills_73 : decode cX8_bills 73 = .ok (.iastore, 1) := by decide +kernel
theorem dX8_bills_74 : decode cX8_bills 74 = .ok (.aload_n 0, 1) := by decide +kernel
theorem dX8_bills_75 : decode cX8_bills 75 = .ok (.getfield 84, 3) := by decide +kernel
theorem dX8_bills_78 : decode cX8_bills 78 = .ok (.iload_n 3, 1) := by decide +kernel
theorem dX8_bills_79 : decode cX8_bills 79 = .ok (.aload_n 0, 1) := by decide +kernel
theorem dX8_bills_80 : decode cX8_bills 80 = .ok (.getfield 102, 3) := by decide +kernel
theorem dX8_bills_83 : decode cX8_bills 83 = .ok (.iload_n 1, 1) := by decide +kernel
theorem dX8_bills_84 : decode cX8_bills 84 = .ok (.laload, 1) := by decide +kernel
theorem dX8_bills_85 : decode cX8_bills 85 = .ok (.l2i, 1) := by decide +kernel
theorem dX8_bills_86 : decode cX8_bills 86 = .ok (.iastore, 1) := by decide +kernel
theorem dX8_bills_87 : decode cX8_bills 87 = .ok (.aload_n 0, 1) := by decide +kernel
theorem dX8_bills_88 : decode cX8_bills 88 = .ok (.getfield 81, 3) := by decide +kernel
theorem dX8_bills_91 : decode cX8_bills 91 = .ok (.iload_n 3, 1) := by decide +kernel
theorem dX8_bills_92 : decode cX8_bills 92 = .ok (.iload 4, 2) := by decide +kernel
theorem dX8_bills_94 : decode cX8_bills 94 = .ok (.aload_n 0, 1) := by decide +kernel
theorem dX8_bills_95 : decode cX8_bills 95 = .ok (.getfield 78, 3) := by decide +kernel
theorem dX8_bills_98 : decode cX8_bills 98 = .ok (.iload_n 3, 1) := by decide +kernel
theorem dX8_bills_99 : decode cX8_bills 99 = .ok (.iaload, 1) := by decide +kernel
theorem dX8_bills_100 : decode cX8_bills 100 = .ok (.isub, 1) := by decide +kernel
theorem dX8_bills_101 : decode cX8_bills 101 = .ok (.aload_n 0, 1) := by decide +kernel
theorem dX8_bills_102 : decode cX8_bills 102 = .ok (.iload_n 1, 1) := by decide +kernel
theorem dX8_bills_103 : decode cX8_bills 103 = .ok (.iload_n 2, 1) := by decide +kernel
theorem dX8_bills_104 : decode cX8_bills 104 = .ok (.invokevirtual 182, 3) := by decide +kernel
theorem dX8_bills_107 : decode cX8_bills 107 = .ok (.invokestatic 185, 3) := by decide +kernel
theorem dX8_bills_110 : decode cX8_bills 110 = .ok (.iastore, 1) := by decide +kernel
theorem dX8_bills_111 : decode cX8_bills 111 = .ok (.aload_n 0, 1) := by decide +kernel
theorem dX8_bills_112 : decode cX8_bills 112 = .ok (.getfield 62, 3) := by decide +kernel
theorem dX8_bills_115 : decode cX8_bills 115 = .ok (.iload_n 1, 1) := by decide +kernel
theorem dX8_bills_116 : decode cX8_bills 116 = .ok (.dup2, 1) := by decide +kernel
theorem dX8_bills_117 : decode cX8_bills 117 = .ok (.laload, 1) := by decide +kernel
theorem dX8_bills_118 : decode cX8_bills 118 = .ok (.iload 4, 2) := by decide +kernel
theorem dX8_bills_120 : decode cX8_bills 120 = .ok (.aload_n 0, 1) := by decide +kernel
theorem dX8_bills_121 : decode cX8_bills 121 = .ok (.getfield 78, 3) := by decide +kernel
theorem dX8_bills_124 : decode cX8_bills 124 = .ok (.iload_n 3, 1) := by decide +kernel
theorem dX8_bills_125 : decode cX8_bills 125 = .ok (.iaload, 1) := by decide +kernel
theorem dX8_bills_126 : decode cX8_bills 126 = .ok (.isub, 1) := by decide +kernel
theorem dX8_bills_127 : decode cX8_bills 127 = .ok (.aload_n 0, 1) := by decide +kernel
theorem dX8_bills_128 : decode cX8_bills 128 = .ok (.getfield 81, 3) := by decide +kernel
theorem dX8_bills_131 : decode cX8_bills 131 = .ok (.iload_n 3, 1) := by decide +kernel
theorem dX8_bills_132 : decode cX8_bills 132 = .ok (.iaload, 1) := by decide +kernel
theorem dX8_bills_133 : decode cX8_bills 133 = .ok (.isub, 1) := by decide +kernel
theorem dX8_bills_134 : decode cX8_bills 134 = .ok (.aload_n 0, 1) := by decide +kernel
theorem dX8_bills_135 : decode cX8_bills 135 = .ok (.getfield 84, 3) := by decide +kernel
theorem dX8_bills_138 : decode cX8_bills 138 = .ok (.iload_n 3, 1) := by decide +kernel
theorem dX8_bills_139 : decode cX8_bills 139 = .ok (.iaload, 1) := by decide +kernel
theorem dX8_bills_140 : decode cX8_bills 140 = .ok (.iadd, 1) := by decide +kernel
theorem dX8_bills_141 : decode cX8_bills 141 = .ok (.i2l, 1) := by decide +kernel
theorem dX8_bills_142 : decode cX8_bills 142 = .ok (.ladd, 1) := by decide +kernel
theorem dX8_bills_143 : decode cX8_bills 143 = .ok (.lastore, 1) := by decide +kernel
theorem dX8_bills_144 : decode cX8_bills 144 = .ok (.aload_n 0, 1) := by decide +kernel
theorem dX8_bills_145 : decode cX8_bills 145 = .ok (.getfield 66, 3) := by decide +kernel
theorem dX8_bills_148 : decode cX8_bills 148 = .ok (.iload_n 1, 1) := by decide +kernel
theorem dX8_bills_149 : decode cX8_bills 149 = .ok (.dup2, 1) := by decide +kernel
theorem dX8_bills_150 : decode cX8_bills 150 = .ok (.laload, 1) := by decide +kernel
theorem dX8_bills_151 : decode cX8_bills 151 = .ok (.aload_n 0, 1) := by decide +kernel
theorem dX8_bills_152 : decode cX8_bills 152 = .ok (.getfield 81, 3) := by decide +kernel
theorem dX8_bills_155 : decode cX8_bills 155 = .ok (.iload_n 3, 1) := by decide +kernel
theorem dX8_bills_156 : decode cX8_bills 156 = .ok (.iaload, 1) := by decide +kernel
theorem dX8_bills_157 : decode cX8_bills 157 = .ok (.i2l, 1) := by decide +kernel
theorem dX8_bills_158 : decode cX8_bills 158 = .ok (.ladd, 1) := by decide +kernel
theorem dX8_bills_159 : decode cX8_bills 159 = .ok (.lastore, 1) := by decide +kernel
theorem dX8_bills_160 : decode cX8_bills 160 = .ok (.return_, 1) := by decide +kernel
theorem dX8_ends_0 : decode cX8_ends 0 = .ok (.iconst 0, 1) := by decide +kernel
theorem dX8_ends_1 : decode cX8_ends 1 = .ok (.istore_n 2, 1) := by decide +kernel
theorem dX8_ends_2 : decode cX8_ends 2 = .ok (.iload_n 2, 1) := by decide +kernel
theorem dX8_ends_3 : decode cX8_ends 3 = .ok (.aload_n 0, 1) := by decide +kernel
theorem dX8_ends_4 : decode cX8_ends 4 = .ok (.getfield 116, 3) := by decide +kernel
theorem dX8_ends_7 : decode cX8_ends 7 = .ok (.if_icmp .ge 15, 3) := by decide +kernel
theorem dX8_ends_10 : decode cX8_ends 10 = .ok (.aload_n 0, 1) := by decide +kernel
theorem dX8_ends_11 : decode cX8_ends 11 = .ok (.iload_n 2, 1) := by decide +kernel
theorem dX8_ends_12 : decode cX8_ends 12 = .ok (.iload_n 1, 1) := by decide +kernel
theorem dX8_ends_13 : decode cX8_ends 13 = .ok (.invokevirtual 188, 3) := by decide +kernel
theorem dX8_ends_16 : decode cX8_ends 16 = .ok (.iinc 2 1, 3) := by decide +kernel
theorem dX8_ends_19 : decode cX8_ends 19 = .ok (.goto (-17), 3) := by decide +kernel
theorem dX8_ends_22 : decode cX8_ends 22 = .ok (.aload_n 0, 1) := by decide +kernel
theorem dX8_ends_23 : decode cX8_ends 23 = .ok (.iload_n 1, 1) := by decide +kernel
theorem dX8_ends_24 : decode cX8_ends 24 = .ok (.invokevirtual 192, 3) := by decide +kernel
theorem dX8_ends_27 : decode cX8_ends 27 = .ok (.iconst 0, 1) := by decide +kernel
theorem dX8_ends_28 : decode cX8_ends 28 = .ok (.istore_n 2, 1) := by decide +kernel
theorem dX8_ends_29 : decode cX8_ends 29 = .ok (.iload_n 2, 1) := by decide +kernel
theorem dX8_ends_30 : decode cX8_ends 30 = .ok (.aload_n 0, 1) := by decide +kernel
theorem dX8_ends_31 : decode cX8_ends 31 = .ok (.getfield 123, 3) := by decide +kernel
theorem dX8_ends_34 : decode cX8_ends 34 = .ok (.if_icmp .ge 29, 3) := by decide +kernel
theorem dX8_ends_37 : decode cX8_ends 37 = .ok (.aload_n 0, 1) := by decide +kernel
theorem dX8_ends_38 : decode cX8_ends 38 = .ok (.iload_n 2, 1) := by decide +kernel
theorem dX8_ends_39 : decode cX8_ends 39 = .ok (.invokevirtual 196, 3) := by decide +kernel
theorem dX8_ends_42 : decode cX8_ends 42 = .ok (.aload_n 0, 1) := by decide +kernel
theorem dX8_ends_43 : decode cX8_ends 43 = .ok (.iload_n 2, 1) := by decide +kernel
theorem dX8_ends_44 : decode cX8_ends 44 = .ok (.iload_n 1, 1) := by decide +kernel
theorem dX8_ends_45 : decode cX8_ends 45 = .ok (.invokevirtual 137, 3) := by decide +kernel
theorem dX8_ends_48 : decode cX8_ends 48 = .ok (.ifCond .eq 9, 3) := by decide +kernel
theorem dX8_ends_51 : decode cX8_ends 51 = .ok (.aload_n 0, 1) := by decide +kernel
theorem dX8_ends_52 : decode cX8_ends 52 = .ok (.iload_n 2, 1) := by decide +kernel
theorem dX8_ends_53 : decode cX8_ends 53 = .ok (.iload_n 1, 1) := by decide +kernel
theorem dX8_ends_54 : decode cX8_ends 54 = .ok (.invokevirtual 199, 3) := by decide +kernel
theorem dX8_ends_57 : decode cX8_ends 57 = .ok (.iinc 2 1, 3) := by decide +kernel
theorem dX8_ends_60 : decode cX8_ends 60 = .ok (.goto (-31), 3) := by decide +kernel
theorem dX8_ends_63 : decode cX8_ends 63 = .ok (.return_, 1) := by decide +kernel
theorem dX8_begins_0 : decode cX8_begins 0 = .ok (.aload_n 0, 1) := by decide +kernel
theorem dX8_begins_1 : decode cX8_begins 1 = .ok (.iconst 0, 1) := by decide +kernel
theorem dX8_begins_2 : decode cX8_begins 2 = .ok (.putfield 152, 3) := by decide +kernel
theorem dX8_begins_5 : decode cX8_begins 5 = .ok (.iconst 0, 1) := by decide +kernel
theorem dX8_begins_6 : decode cX8_begins 6 = .ok (.istore_n 2, 1) := by decide +kernel
theorem dX8_begins_7 : decode cX8_begins 7 = .ok (.iload_n 2, 1) := by decide +kernel
theorem dX8_begins_8 : decode cX8_begins 8 = .ok (.aload_n 0, 1) := by decide +kernel
theorem dX8_begins_9 : decode cX8_begins 9 = .ok (.getfield 116, 3) := by decide +kernel
theorem dX8_begins_12 : decode cX8_begins 12 = .ok (.if_icmp .ge 16, 3) := by decide +kernel
theorem dX8_begins_15 : decode cX8_begins 15 = .ok (.aload_n 0, 1) := by decide +kernel
theorem dX8_begins_16 : decode cX8_begins 16 = .ok (.getfield 25, 3) := by decide +kernel
theorem dX8_begins_19 : decode cX8_begins 19 = .ok (.iload_n 2, 1) := by decide +kernel
theorem dX8_begins_20 : decode cX8_begins 20 = .ok (.iconst 0, 1) := by decide +kernel
theorem dX8_begins_21 : decode cX8_begins 21 = .ok (.iastore, 1) := by decide +kernel
theorem dX8_begins_22 : decode cX8_begins 22 = .ok (.iinc 2 1, 3) := by decide +kernel
theorem dX8_begins_25 : decode cX8_begins 25 = .ok (.goto (-18), 3) := by decide +kernel
theorem dX8_begins_28 : decode cX8_begins 28 = .ok (.aload_n 0, 1) := by decide +kernel
theorem dX8_begins_29 : decode cX8_begins 29 = .ok (.getfield 31, 3) := by decide +kernel
theorem dX8_begins_32 : decode cX8_begins 32 = .ok (.iload_n 1, 1) := by decide +kernel
theorem dX8_begins_33 : decode cX8_begins 33 = .ok (.iconst 1, 1) := by decide +kernel
theorem dX8_begins_34 : decode cX8_begins 34 = .ok (.iadd, 1) := by decide +kernel
theorem dX8_begins_35 : decode cX8_begins 35 = .ok (.aload_n 0, 1) := by decide +kernel
theorem dX8_begins_36 : decode cX8_begins 36 = .ok (.getfield 31, 3) := by decide +kernel
theorem dX8_begins_39 : decode cX8_begins 39 = .ok (.iload_n 1, 1) := by decide +kernel
theorem dX8_begins_40 : decode cX8_begins 40 = .ok (.iaload, 1) := by decide +kernel
theorem dX8_begins_41 : decode cX8_begins 41 = .ok (.iastore, 1) := by decide +kernel
theorem dX8_begins_42 : decode cX8_begins 42 = .ok (.iconst 0, 1) := by decide +kernel
theorem dX8_begins_43 : decode cX8_begins 43 = .ok (.istore_n 2, 1) := by decide +kernel
theorem dX8_begins_44 : decode cX8_begins 44 = .ok (.iload_n 2, 1) := by decide +kernel
theorem dX8_begins_45 : decode cX8_begins 45 = .ok (.aload_n 0, 1) := by decide +kernel
theorem dX8_begins_46 : decode cX8_begins 46 = .ok (.getfield 123, 3) := by decide +kernel
theorem dX8_begins_49 : decode cX8_begins 49 = .ok (.if_icmp .ge 66, 3) := by decide +kernel
theorem dX8_begins_52 : decode cX8_begins 52 = .ok (.aload_n 0, 1) := by decide +kernel
theorem dX8_begins_53 : decode cX8_begins 53 = .ok (.iload_n 2, 1) := by decide +kernel
theorem dX8_begins_54 : decode cX8_begins 54 = .ok (.iload_n 1, 1) := by decide +kernel
theorem dX8_begins_55 : decode cX8_begins 55 = .ok (.invokevirtual 137, 3) := by decide +kernel
theorem dX8_begins_58 : decode cX8_begins 58 = .ok (.ifCond .eq 29, 3) := by decide +kernel
theorem dX8_begins_61 : decode cX8_begins 61 = .ok (.aload_n 0, 1) := by decide +kernel
theorem dX8_begins_62 : decode cX8_begins 62 = .ok (.iload_n 2, 1) := by decide +kernel
theorem dX8_begins_63 : decode cX8_begins 63 = .ok (.iload_n 1, 1) := by decide +kernel
theorem dX8_begins_64 : decode cX8_begins 64 = .ok (.invokevirtual 177, 3) := by decide +kernel
theorem dX8_begins_67 : decode cX8_begins 67 = .ok (.aload_n 0, 1) := by decide +kernel
theorem dX8_begins_68 : decode cX8_begins 68 = .ok (.iload_n 2, 1) := by decide +kernel
theorem dX8_begins_69 : decode cX8_begins 69 = .ok (.iload_n 1, 1) := by decide +kernel
theorem dX8_begins_70 : decode cX8_begins 70 = .ok (.invokevirtual 182, 3) := by decide +kernel
theorem dX8_begins_73 : decode cX8_begins 73 = .ok (.invokestatic 185, 3) := by decide +kernel
theorem dX8_begins_76 : decode cX8_begins 76 = .ok (.i2l, 1) := by decide +kernel
theorem dX8_begins_77 : decode cX8_begins 77 = .ok (.aload_n 0, 1) := by decide +kernel
theorem dX8_begins_78 : decode cX8_begins 78 = .ok (.getfield 66, 3) := by decide +kernel
theorem dX8_begins_81 : decode cX8_begins 81 = .ok (.iload_n 2, 1) := by decide +kernel
theorem dX8_begins_82 : decode cX8_begins 82 = .ok (.laload, 1) := by decide +kernel
theorem dX8_begins_83 : decode cX8_begins 83 = .ok (.ladd, 1) := by decide +kernel
theorem dX8_begins_84 : decode cX8_begins 84 = .ok (.goto 4, 3) := by decide +kernel
theorem dX8_begins_87 : decode cX8_begins 87 = .ok (.lconst 0, 1) := by decide +kernel
theorem dX8_begins_88 : decode cX8_begins 88 = .ok (.lstore_n 3, 1) := by decide +kernel
theorem dX8_begins_89 : decode cX8_begins 89 = .ok (.aload_n 0, 1) := by decide +kernel
theorem dX8_begins_90 : decode cX8_begins 90 = .ok (.getfield 66, 3) := by decide +kernel
theorem dX8_begins_93 : decode cX8_begins 93 = .ok (.iload_n 2, 1) := by decide +kernel
theorem dX8_begins_94 : decode cX8_begins 94 = .ok (.dup2, 1) := by decide +kernel
theorem dX8_begins_95 : decode cX8_begins 95 = .ok (.laload, 1) := by decide +kernel
theorem dX8_begins_96 : decode cX8_begins 96 = .ok (.lload_n 3, 1) := by decide +kernel
theorem dX8_begins_97 : decode cX8_begins 97 = .ok (.lconst 0, 1) := by decide +kernel
theorem dX8_begins_98 : decode cX8_begins 98 = .ok (.lcmp, 1) := by decide +kernel
theorem dX8_begins_99 : decode cX8_begins 99 = .ok (.ifCond .le 7, 3) := by decide +kernel
theorem dX8_begins_102 : decode cX8_begins 102 = .ok (.lload_n 3, 1) := by decide +kernel
theorem dX8_begins_103 : decode cX8_begins 103 = .ok (.goto 4, 3) := by decide +kernel
theorem dX8_begins_106 : decode cX8_begins 106 = .ok (.lconst 0, 1) := by decide +kernel
theorem dX8_begins_107 : decode cX8_begins 107 = .ok (.lsub, 1) := by decide +kernel
theorem dX8_begins_108 : decode cX8_begins 108 = .ok (.lastore, 1) := by decide +kernel
theorem dX8_begins_109 : decode cX8_begins 109 = .ok (.iinc 2 1, 3) := by decide +kernel
theorem dX8_begins_112 : decode cX8_begins 112 = .ok (.goto (-68), 3) := by decide +kernel
theorem dX8_begins_115 : decode cX8_begins 115 = .ok (.return_, 1) := by decide +kernel
theorem dX8_income_0 : decode cX8_income 0 = .ok (.aload_n 0, 1) := by decide +kernel
theorem dX8_income_1 : decode cX8_income 1 = .ok (.iload_n 1, 1) := by decide +kernel
theorem dX8_income_2 : decode cX8_income 2 = .ok (.invokevirtual 148, 3) := by decide +kernel
theorem dX8_income_5 : decode cX8_income 5 = .ok (.ifCond .eq 15, 3) := by decide +kernel
theorem dX8_income_8 : decode cX8_income 8 = .ok (.aload_n 0, 1) := by decide +kernel
theorem dX8_income_9 : decode cX8_income 9 = .ok (.iload_n 2, 1) := by decide +kernel
theorem dX8_income_10 : decode cX8_income 10 = .ok (.invokevirtual 202, 3) := by decide +kernel
theorem dX8_income_13 : decode cX8_income 13 = .ok (.ifCond .eq 7, 3) := by decide +kernel
theorem dX8_income_16 : decode cX8_income 16 = .ok (.iconst 1, 1) := by decide +kernel
theorem dX8_income_17 : decode cX8_income 17 = .ok (.goto 4, 3) := by decide +kernel
theorem dX8_income_20 : decode cX8_income 20 = .ok (.iconst 0, 1) := by decide +kernel
theorem dX8_income_21 : decode cX8_income 21 = .ok (.istore 4, 2) := by decide +kernel
theorem dX8_income_23 : decode cX8_income 23 = .ok (.aload_n 0, 1) := by decide +kernel
theorem dX8_income_24 : decode cX8_income 24 = .ok (.iload 4, 2) := by decide +kernel
theorem dX8_income_26 : decode cX8_income 26 = .ok (.ifCond .ne 7, 3) := by decide +kernel
theorem dX8_income_29 : decode cX8_income 29 = .ok (.iconst 1, 1) := by decide +kernel
theorem dX8_income_30 : decode cX8_income 30 = .ok (.goto 18, 3) := by decide +kernel
theorem dX8_income_33 : decode cX8_income 33 = .ok (.iload_n 3, 1) := by decide +kernel
theorem dX8_income_34 : decode cX8_income 34 = .ok (.iconst 0, 1) := by decide +kernel
theorem dX8_income_35 : decode cX8_income 35 = .ok (.ldc 151, 2) := by decide +kernel
theorem dX8_income_37 : decode cX8_income 37 = .ok (.invokestatic 119, 3) := by decide +kernel
theorem dX8_income_40 : decode cX8_income 40 = .ok (.ifCond .eq 7, 3) := by decide +kernel
theorem dX8_income_43 : decode cX8_income 43 = .ok (.iconst 0, 1) := by decide +kernel
theorem dX8_income_44 : decode cX8_income 44 = .ok (.goto 4, 3) := by decide +kernel
theorem dX8_income_47 : decode cX8_income 47 = .ok (.iconst 2, 1) := by decide +kernel
theorem dX8_income_48 : decode cX8_income 48 = .ok (.invokevirtual 133, 3) := by decide +kernel
theorem dX8_income_51 : decode cX8_income 51 = .ok (.ifCond .ne 5, 3) := by decide +kernel
theorem dX8_income_54 : decode cX8_income 54 = .ok (.lconst 0, 1) := by decide +kernel
theorem dX8_income_55 : decode cX8_income 55 = .ok (.lreturn, 1) := by decide +kernel
theorem dX8_income_56 : decode cX8_income 56 = .ok (.aload_n 0, 1) := by decide +kernel
theorem dX8_income_57 : decode cX8_income 57 = .ok (.getfield 69, 3) := by decide +kernel
theorem dX8_income_60 : decode cX8_income 60 = .ok (.iload_n 1, 1) := by decide +kernel
theorem dX8_income_61 : decode cX8_income 61 = .ok (.iload_n 2, 1) := by decide +kernel
theorem dX8_income_62 : decode cX8_income 62 = .ok (.invokestatic 173, 3) := by decide +kernel
theorem dX8_income_65 : decode cX8_income 65 = .ok (.iload_n 3, 1) := by decide +kernel
theorem dX8_income_66 : decode cX8_income 66 = .ok (.iastore, 1) := by decide +kernel
theorem dX8_income_67 : decode cX8_income 67 = .ok (.lconst 0, 1) := by decide +kernel
theorem dX8_income_68 : decode cX8_income 68 = .ok (.lstore 5, 2) := by decide +kernel
theorem dX8_income_70 : decode cX8_income 70 = .ok (.iload_n 2, 1) := by decide +kernel
theorem dX8_income_71 : decode cX8_income 71 = .ok (.istore 7, 2) := by decide +kernel
theorem dX8_income_73 : decode cX8_income 73 = .ok (.iload 7, 2) := by decide +kernel
theorem dX8_income_75 : decode cX8_income 75 = .ok (.aload_n 0, 1) := by decide +kernel
theorem dX8_income_76 : decode cX8_income 76 = .ok (.invokevirtual 129, 3) := by decide +kernel
theorem dX8_income_79 : decode cX8_income 79 = .ok (.if_icmp .gt 79, 3) := by decide +kernel
theorem dX8_income_82 : decode cX8_income 82 = .ok (.iload_n 1, 1) := by decide +kernel
theorem dX8_income_83 : decode cX8_income 83 = .ok (.iload 7, 2) := by decide +kernel
theorem dX8_income_85 : decode cX8_income 85 = .ok (.invokestatic 173, 3) := by decide +kernel
theorem dX8_income_88 : decode cX8_income 88 = .ok (.istore 8, 2) := by decide +kernel
theorem dX8_income_90 : decode cX8_income 90 = .ok (.aload_n 0, 1) := by decide +kernel
theorem dX8_income_91 : decode cX8_income 91 = .ok (.getfield 72, 3) := by decide +kernel
theorem dX8_income_94 : decode cX8_income 94 = .ok (.iload 8, 2) := by decide +kernel
theorem dX8_income_96 : decode cX8_income 96 = .ok (.baload, 1) := by decide +kernel
theorem dX8_income_97 : decode cX8_income 97 = .ok (.ifCond .eq 55, 3) := by decide +kernel
theorem dX8_income_100 : decode cX8_income 100 = .ok (.aload_n 0, 1) := by decide +kernel
theorem dX8_income_101 : decode cX8_income 101 = .ok (.getfield 75, 3) := by decide +kernel
theorem dX8_income_104 : decode cX8_income 104 = .ok (.iload 8, 2) := by decide +kernel
theorem dX8_income_106 : decode cX8_income 106 = .ok (.iaload, 1) := by decide +kernel
theorem dX8_income_107 : decode cX8_income 107 = .ok (.aload_n 0, 1) := by decide +kernel
theorem dX8_income_108 : decode cX8_income 108 = .ok (.getfield 78, 3) := by decide +kernel
theorem dX8_income_111 : decode cX8_income 111 = .ok (.iload 8, 2) := by decide +kernel
theorem dX8_income_113 : decode cX8_income 113 = .ok (.iaload, 1) := by decide +kernel
theorem dX8_income_114 : decode cX8_income 114 = .ok (.isub, 1) := by decide +kernel
theorem dX8_income_115 : decode cX8_income 115 = .ok (.aload_n 0, 1) := by decide +kernel
theorem dX8_income_116 : decode cX8_income 116 = .ok (.iload_n 1, 1) := by decide +kernel
theorem dX8_income_117 : decode cX8_income 117 = .ok (.iload 7, 2) := by decide +kernel
theorem dX8_income_119 : decode cX8_income 119 = .ok (.invokevirtual 182, 3) := by decide +kernel
theorem dX8_income_122 : decode cX8_income 122 = .ok (.invokestatic 185, 3) := by decide +kernel
theorem dX8_income_125 : decode cX8_income 125 = .ok (.istore 9, 2) := by decide +kernel
theorem dX8_income_127 : decode cX8_income 127 = .ok (.lload 5, 2) := by decide +kernel
theorem dX8_income_129 : decode cX8_income 129 = .ok (.aload_n 0, 1) := by decide +kernel
theorem dX8_income_130 : decode cX8_income 130 = .ok (.getfield 81, 3) := by decide +kernel
theorem dX8_income_133 : decode cX8_income 133 = .ok (.iload 8, 2) := by decide +kernel
theorem dX8_income_135 : decode cX8_income 135 = .ok (.iaload, 1) := by decide +kernel
theorem dX8_income_136 : decode cX8_income 136 = .ok (.iload 9, 2) := by decide +kernel
theorem dX8_income_138 : decode cX8_income 138 = .ok (.isub, 1) := by decide +kernel
theorem dX8_income_139 : decode cX8_income 139 = .ok (.i2l, 1) := by decide +kernel
theorem dX8_income_140 : decode cX8_income 140 = .ok (.ladd, 1) := by decide +kernel
theorem dX8_income_141 : decode cX8_income 141 = .ok (.lstore 5, 2) := by decide +kernel
theorem dX8_income_143 : decode cX8_income 143 = .ok (.aload_n 0, 1) := by decide +kernel
theorem dX8_income_144 : decode cX8_income 144 = .ok (.getfield 81, 3) := by decide +kernel
theorem dX8_income_147 : decode cX8_income 147 = .ok (.iload 8, 2) := by decide +kernel
theorem dX8_income_149 : decode cX8_income 149 = .ok (.iload 9, 2) := by decide +kernel
theorem dX8_income_151 : decode cX8_income 151 = .ok (.iastore, 1) := by decide +kernel
theorem dX8_income_152 : decode cX8_income 152 = .ok (.iinc 7 1, 3) := by decide +kernel
theorem dX8_income_155 : decode cX8_income 155 = .ok (.goto (-82), 3) := by decide +kernel
theorem dX8_income_158 : decode cX8_income 158 = .ok (.aload_n 0, 1) := by decide +kernel
theorem dX8_income_159 : decode cX8_income 159 = .ok (.getfield 62, 3) := by decide +kernel
theorem dX8_income_162 : decode cX8_income 162 = .ok (.iload_n 1, 1) := by decide +kernel
theorem dX8_income_163 : decode cX8_income 163 = .ok (.dup2, 1) := by decide +kernel
theorem dX8_income_164 : decode cX8_income 164 = .ok (.laload, 1) := by decide +kernel
theorem dX8_income_165 : decode cX8_income 165 = .ok (.lload 5, 2) := by decide +kernel
theorem dX8_income_167 : decode cX8_income 167 = .ok (.ladd, 1) := by decide +kernel
theorem dX8_income_168 : decode cX8_income 168 = .ok (.lastore, 1) := by decide +kernel
theorem dX8_income_169 : decode cX8_income 169 = .ok (.aload_n 0, 1) := by decide +kernel
theorem dX8_income_170 : decode cX8_income 170 = .ok (.getfield 66, 3) := by decide +kernel
theorem dX8_income_173 : decode cX8_income 173 = .ok (.iload_n 1, 1) := by decide +kernel
theorem dX8_income_174 : decode cX8_income 174 = .ok (.dup2, 1) := by decide +kernel
theorem dX8_income_175 : decode cX8_income 175 = .ok (.laload, 1) := by decide +kernel
theorem dX8_income_176 : decode cX8_income 176 = .ok (.lload 5, 2) := by decide +kernel
theorem dX8_income_178 : decode cX8_income 178 = .ok (.lsub, 1) := by decide +kernel
theorem dX8_income_179 : decode cX8_income 179 = .ok (.lastore, 1) := by decide +kernel
theorem dX8_income_180 : decode cX8_income 180 = .ok (.lload 5, 2) := by decide +kernel
theorem dX8_income_182 : decode cX8_income 182 = .ok (.lreturn, 1) := by decide +kernel
theorem dX8_pay_0 : decode cX8_pay 0 = .ok (.aload_n 0, 1) := by decide +kernel
theorem dX8_pay_1 : decode cX8_pay 1 = .ok (.aload_n 0, 1) := by decide +kernel
theorem dX8_pay_2 : decode cX8_pay 2 = .ok (.iload_n 1, 1) := by decide +kernel
theorem dX8_pay_3 : decode cX8_pay 3 = .ok (.invokevirtual 148, 3) := by decide +kernel
theorem dX8_pay_6 : decode cX8_pay 6 = .ok (.ifCond .ne 7, 3) := by decide +kernel
theorem dX8_pay_9 : decode cX8_pay 9 = .ok (.iconst 1, 1) := by decide +kernel
theorem dX8_pay_10 : decode cX8_pay 10 = .ok (.goto 18, 3) := by decide +kernel
theorem dX8_pay_13 : decode cX8_pay 13 = .ok (.iload_n 2, 1) := by decide +kernel
theorem dX8_pay_14 : decode cX8_pay 14 = .ok (.iconst 1, 1) := by decide +kernel
theorem dX8_pay_15 : decode cX8_pay 15 = .ok (.ldc 151, 2) := by decide +kernel
theorem dX8_pay_17 : decode cX8_pay 17 = .ok (.invokestatic 119, 3) := by decide +kernel
theorem dX8_pay_20 : decode cX8_pay 20 = .ok (.ifCond .eq 7, 3) := by decide +kernel
theorem dX8_pay_23 : decode cX8_pay 23 = .ok (.iconst 0, 1) := by decide +kernel
theorem dX8_pay_24 : decode cX8_pay 24 = .ok (.goto 4, 3) := by decide +kernel
theorem dX8_pay_27 : decode cX8_pay 27 = .ok (.iconst 2, 1) := by decide +kernel
theorem dX8_pay_28 : decode cX8_pay 28 = .ok (.invokevirtual 133, 3) := by decide +kernel
theorem dX8_pay_31 : decode cX8_pay 31 = .ok (.ifCond .ne 5, 3) := by decide +kernel
theorem dX8_pay_34 : decode cX8_pay 34 = .ok (.lconst 0, 1) := by decide +kernel
theorem dX8_pay_35 : decode cX8_pay 35 = .ok (.lreturn, 1) := by decide +kernel
theorem dX8_pay_36 : decode cX8_pay 36 = .ok (.aload_n 0, 1) := by decide +kernel
theorem dX8_pay_37 : decode cX8_pay 37 = .ok (.getfield 62, 3) := by decide +kernel
theorem dX8_pay_40 : decode cX8_pay 40 = .ok (.iload_n 1, 1) := by decide +kernel
theorem dX8_pay_41 : decode cX8_pay 41 = .ok (.dup2, 1) := by decide +kernel
theorem dX8_pay_42 : decode cX8_pay 42 = .ok (.laload, 1) := by decide +kernel
theorem dX8_pay_43 : decode cX8_pay 43 = .ok (.iload_n 2, 1) := by decide +kernel
theorem dX8_pay_44 : decode cX8_pay 44 = .ok (.i2l, 1) := by decide +kernel
theorem dX8_pay_45 : decode cX8_pay 45 = .ok (.lsub, 1) := by decide +kernel
theorem dX8_pay_46 : decode cX8_pay 46 = .ok (.lastore, 1) := by decide +kernel
theorem dX8_pay_47 : decode cX8_pay 47 = .ok (.aload_n 0, 1) := by decide +kernel
theorem dX8_pay_48 : decode cX8_pay 48 = .ok (.getfield 62, 3) := by decide +kernel
theorem dX8_pay_51 : decode cX8_pay 51 = .ok (.iload_n 1, 1) := by decide +kernel
theorem dX8_pay_52 : decode cX8_pay 52 = .ok (.laload, 1) := by decide +kernel
theorem dX8_pay_53 : decode cX8_pay 53 = .ok (.lreturn, 1) := by decide +kernel
theorem dX8_plan_0 : decode cX8_plan 0 = .ok (.aload_n 0, 1) := by decide +kernel
theorem dX8_plan_1 : decode cX8_plan 1 = .ok (.iload_n 1, 1) := by decide +kernel
theorem dX8_plan_2 : decode cX8_plan 2 = .ok (.invokevirtual 148, 3) := by decide +kernel
theorem dX8_plan_5 : decode cX8_plan 5 = .ok (.istore_n 3, 1) := by decide +kernel
theorem dX8_plan_6 : decode cX8_plan 6 = .ok (.aload_n 0, 1) := by decide +kernel
theorem dX8_plan_7 : decode cX8_plan 7 = .ok (.iload_n 3, 1) := by decide +kernel
theorem dX8_plan_8 : decode cX8_plan 8 = .ok (.ifCond .ne 7, 3) := by decide +kernel
theorem dX8_plan_11 : decode cX8_plan 11 = .ok (.iconst 1, 1) := by decide +kernel
theorem dX8_plan_12 : decode cX8_plan 12 = .ok (.goto 43, 3) := by decide +kernel
theorem dX8_plan_15 : decode cX8_plan 15 = .ok (.iload_n 2, 1) := by decide +kernel
theorem dX8_plan_16 : decode cX8_plan 16 = .ok (.iconst 1, 1) := by decide +kernel
theorem dX8_plan_17 : decode cX8_plan 17 = .ok (.bipush 12, 2) := by decide +kernel
theorem dX8_plan_19 : decode cX8_plan 19 = .ok (.invokestatic 119, 3) := by decide +kernel
theorem dX8_plan_22 : decode cX8_plan 22 = .ok (.ifCond .ne 7, 3) := by decide +kernel
theorem dX8_plan_25 : decode cX8_plan 25 = .ok (.iconst 2, 1) := by decide +kernel
theorem dX8_plan_26 : decode cX8_plan 26 = .ok (.goto 29, 3) := by decide +kernel
theorem dX8_plan_29 : decode cX8_plan 29 = .ok (.aload_n 0, 1) := by decide +kernel
theorem dX8_plan_30 : decode cX8_plan 30 = .ok (.getfield 87, 3) := by decide +kernel
theorem dX8_plan_33 : decode cX8_plan 33 = .ok (.iload_n 1, 1) := by decide +kernel
theorem dX8_plan_34 : decode cX8_plan 34 = .ok (.iaload, 1) := by decide +kernel
theorem dX8_plan_35 : decode cX8_plan 35 = .ok (.iconst 1, 1) := by decide +kernel
theorem dX8_plan_36 : decode cX8_plan 36 = .ok (.if_icmp .eq 14, 3) := by decide +kernel
theorem dX8_plan_39 : decode cX8_plan 39 = .ok (.aload_n 0, 1) := by decide +kernel
theorem dX8_plan_40 : decode cX8_plan 40 = .ok (.getfield 62, 3) := by decide +kernel
theorem dX8_plan_43 : decode cX8_plan 43 = .ok (.iload_n 1, 1) := by decide +kernel
theorem dX8_plan_44 : decode cX8_plan 44 = .ok (.laload, 1) := by decide +kernel
theorem dX8_plan_45 : decode cX8_plan 45 = .ok (.lconst 0, 1) := by decide +kernel
theorem dX8_plan_46 : decode cX8_plan 46 = .ok (.lcmp, 1) := by decide +kernel
theorem dX8_plan_47 : decode cX8_plan 47 = .ok (.ifCond .gt 7, 3) := by decide +kernel
theorem dX8_plan_50 : decode cX8_plan 50 = .ok (.iconst 3, 1) := by decide +kernel
theorem dX8_plan_51 : decode cX8_plan 51 = .ok (.goto 4, 3) := by decide +kernel
theorem dX8_plan_54 : decode cX8_plan 54 = .ok (.iconst 0, 1) := by decide +kernel
theorem dX8_plan_55 : decode cX8_plan 55 = .ok (.invokevirtual 133, 3) := by decide +kernel
theorem dX8_plan_58 : decode cX8_plan 58 = .ok (.ifCond .ne 5, 3) := by decide +kernel
theorem dX8_plan_61 : decode cX8_plan 61 = .ok (.lconst 0, 1) := by decide +kernel
theorem dX8_plan_62 : decode cX8_plan 62 = .ok (.lreturn, 1) := by decide +kernel
theorem dX8_plan_63 : decode cX8_plan 63 = .ok (.aload_n 0, 1) := by decide +kernel
theorem dX8_plan_64 : decode cX8_plan 64 = .ok (.getfield 87, 3) := by decide +kernel
theorem dX8_plan_67 : decode cX8_plan 67 = .ok (.iload_n 1, 1) := by decide +kernel
theorem dX8_plan_68 : decode cX8_plan 68 = .ok (.iconst 1, 1) := by decide +kernel
theorem dX8_plan_69 : decode cX8_plan 69 = .ok (.iastore, 1) := by decide +kernel
theorem dX8_plan_70 : decode cX8_plan 70 = .ok (.aload_n 0, 1) := by decide +kernel
theorem dX8_plan_71 : decode cX8_plan 71 = .ok (.getfield 90, 3) := by decide +kernel
theorem dX8_plan_74 : decode cX8_plan 74 = .ok (.iload_n 1, 1) := by decide +kernel
theorem dX8_plan_75 : decode cX8_plan 75 = .ok (.aload_n 0, 1) := by decide +kernel
theorem dX8_plan_76 : decode cX8_plan 76 = .ok (.getfield 62, 3) := by decide +kernel
theorem dX8_plan_79 : decode cX8_plan 79 = .ok (.iload_n 1, 1) := by decide +kernel
theorem dX8_plan_80 : decode cX8_plan 80 = .ok (.laload, 1) := by decide +kernel
theorem dX8_plan_81 : decode cX8_plan 81 = .ok (.lastore, 1) := by decide +kernel
theorem dX8_plan_82 : decode cX8_plan 82 = .ok (.aload_n 0, 1) := by decide +kernel
theorem dX8_plan_83 : decode cX8_plan 83 = .ok (.getfield 93, 3) := by decide +kernel
theorem dX8_plan_86 : decode cX8_plan 86 = .ok (.iload_n 1, 1) := by decide +kernel
theorem dX8_plan_87 : decode cX8_plan 87 = .ok (.aload_n 0, 1) := by decide +kernel
theorem dX8_plan_88 : decode cX8_plan 88 = .ok (.getfield 62, 3) := by decide +kernel
theorem dX8_plan_91 : decode cX8_plan 91 = .ok (.iload_n 1, 1) := by decide +kernel
theorem dX8_plan_92 : decode cX8_plan 92 = .ok (.laload, 1) := by decide +kernel
theorem dX8_plan_93 : decode cX8_plan 93 = .ok (.iload_n 2, 1) := by decide +kernel
theorem dX8_plan_94 : decode cX8_plan 94 = .ok (.i2l, 1) := by decide +kernel
theorem dX8_plan_95 : decode cX8_plan 95 = .ok (.ladd, 1) := by decide +kernel
theorem dX8_plan_96 : decode cX8_plan 96 = .ok (.lconst 1, 1) := by decide +kernel
theorem dX8_plan_97 : decode cX8_plan 97 = .ok (.lsub, 1) := by decide +kernel
theorem dX8_plan_98 : decode cX8_plan 98 = .ok (.iload_n 2, 1) := by decide +kernel
theorem dX8_plan_99 : decode cX8_plan 99 = .ok (.i2l, 1) := by decide +kernel
theorem dX8_plan_100 : decode cX8_plan 100 = .ok (.ldiv, 1) := by decide +kernel
theorem dX8_plan_101 : decode cX8_plan 101 = .ok (.lastore, 1) := by decide +kernel
theorem dX8_plan_102 : decode cX8_plan 102 = .ok (.aload_n 0, 1) := by decide +kernel
theorem dX8_plan_103 : decode cX8_plan 103 = .ok (.getfield 96, 3) := by decide +kernel
theorem dX8_plan_106 : decode cX8_plan 106 = .ok (.iload_n 1, 1) := by decide +kernel
theorem dX8_plan_107 : decode cX8_plan 107 = .ok (.iconst 0, 1) := by decide +kernel
theorem dX8_plan_108 : decode cX8_plan 108 = .ok (.iastore, 1) := by decide +kernel
theorem dX8_plan_109 : decode cX8_plan 109 = .ok (.aload_n 0, 1) := by decide +kernel
theorem dX8_plan_110 : decode cX8_plan 110 = .ok (.getfield 93, 3) := by decide +kernel
theorem dX8_plan_113 : decode cX8_plan 113 = .ok (.iload_n 1, 1) := by decide +kernel
theorem dX8_plan_114 : decode cX8_plan 114 = .ok (.laload, 1) := by decide +kernel
theorem dX8_plan_115 : decode cX8_plan 115 = .ok (.lreturn, 1) := by decide +kernel
theorem dX8_pass_0 : decode cX8_pass 0 = .ok (.aload_n 0, 1) := by decide +kernel
theorem dX8_pass_1 : decode cX8_pass 1 = .ok (.iload_n 1, 1) := by decide +kernel
theorem dX8_pass_2 : decode cX8_pass 2 = .ok (.iconst 1, 1) := by decide +kernel
theorem dX8_pass_3 : decode cX8_pass 3 = .ok (.bipush 60, 2) := by decide +kernel
theorem dX8_pass_5 : decode cX8_pass 5 = .ok (.invokestatic 119, 3) := by decide +kernel
theorem dX8_pass_8 : decode cX8_pass 8 = .ok (.ifCond .ne 7, 3) := by decide +kernel
theorem dX8_pass_11 : decode cX8_pass 11 = .ok (.iconst 1, 1) := by decide +kernel
theorem dX8_pass_12 : decode cX8_pass 12 = .ok (.goto 20, 3) := by decide +kernel
theorem dX8_pass_15 : decode cX8_pass 15 = .ok (.aload_n 0, 1) := by decide +kernel
theorem dX8_pass_16 : decode cX8_pass 16 = .ok (.getfield 126, 3) := by decide +kernel
theorem dX8_pass_19 : decode cX8_pass 19 = .ok (.iload_n 1, 1) := by decide +kernel
theorem dX8_pass_20 : decode cX8_pass 20 = .ok (.iadd, 1) := by decide +kernel
theorem dX8_pass_21 : decode cX8_pass 21 = .ok (.sipush 3600, 3) := by decide +kernel
theorem dX8_pass_24 : decode cX8_pass 24 = .ok (.if_icmp .le 7, 3) := by decide +kernel
theorem dX8_pass_27 : decode cX8_pass 27 = .ok (.iconst 2, 1) := by decide +kernel
theorem dX8_pass_28 : decode cX8_pass 28 = .ok (.goto 4, 3) := by decide +kernel
theorem dX8_pass_31 : decode cX8_pass 31 = .ok (.iconst 0, 1) := by decide +kernel
theorem dX8_pass_32 : decode cX8_pass 32 = .ok (.invokevirtual 133, 3) := by decide +kernel
theorem dX8_pass_35 : decode cX8_pass 35 = .ok (.ifCond .ne 5, 3) := by decide +kernel
theorem dX8_pass_38 : decode cX8_pass 38 = .ok (.iconst 0, 1) := by decide +kernel
theorem dX8_pass_39 : decode cX8_pass 39 = .ok (.ireturn, 1) := by decide +kernel
theorem dX8_pass_40 : decode cX8_pass 40 = .ok (.iconst 0, 1) := by decide +kernel
theorem dX8_pass_41 : decode cX8_pass 41 = .ok (.istore_n 2, 1) := by decide +kernel
theorem dX8_pass_42 : decode cX8_pass 42 = .ok (.iload_n 2, 1) := by decide +kernel
theorem dX8_pass_43 : decode cX8_pass 43 = .ok (.iload_n 1, 1) := by decide +kernel
theorem dX8_pass_44 : decode cX8_pass 44 = .ok (.if_icmp .ge 51, 3) := by decide +kernel
theorem dX8_pass_47 : decode cX8_pass 47 = .ok (.aload_n 0, 1) := by decide +kernel
theorem dX8_pass_48 : decode cX8_pass 48 = .ok (.invokevirtual 205, 3) := by decide +kernel
theorem dX8_pass_51 : decode cX8_pass 51 = .ok (.aload_n 0, 1) := by decide +kernel
theorem dX8_pass_52 : decode cX8_pass 52 = .ok (.dup, 1) := by decide +kernel
theorem dX8_pass_53 : decode cX8_pass 53 = .ok (.getfield 126, 3) := by decide +kernel
theorem dX8_pass_56 : decode cX8_pass 56 = .ok (.iconst 1, 1) := by decide +kernel
theorem dX8_pass_57 : decode cX8_pass 57 = .ok (.iadd, 1) := by decide +kernel
theorem dX8_pass_58 : decode cX8_pass 58 = .ok (.putfield 126, 3) := by decide +kernel
theorem dX8_pass_61 : decode cX8_pass 61 = .ok (.aload_n 0, 1) := by decide +kernel
theorem dX8_pass_62 : decode cX8_pass 62 = .ok (.getfield 126, 3) := by decide +kernel
theorem dX8_pass_65 : decode cX8_pass 65 = .ok (.bipush 30, 2) := by decide +kernel
theorem dX8_pass_67 : decode cX8_pass 67 = .ok (.irem, 1) := by decide +kernel
theorem dX8_pass_68 : decode cX8_pass 68 = .ok (.ifCond .ne 21, 3) := by decide +kernel
theorem dX8_pass_71 : decode cX8_pass 71 = .ok (.aload_n 0, 1) := by decide +kernel
theorem dX8_pass_72 : decode cX8_pass 72 = .ok (.aload_n 0, 1) := by decide +kernel
theorem dX8_pass_73 : decode cX8_pass 73 = .ok (.invokevirtual 129, 3) := by decide +kernel
theorem dX8_pass_76 : decode cX8_pass 76 = .ok (.iconst 1, 1) := by decide +kernel
theorem dX8_pass_77 : decode cX8_pass 77 = .ok (.isub, 1) := by decide +kernel
theorem dX8_pass_78 : decode cX8_pass 78 = .ok (.invokevirtual 208, 3) := by decide +kernel
theorem dX8_pass_81 : decode cX8_pass 81 = .ok (.aload_n 0, 1) := by decide +kernel
theorem dX8_pass_82 : decode cX8_pass 82 = .ok (.aload_n 0, 1) := by decide +kernel
theorem dX8_pass_83 : decode cX8_pass 83 = .ok (.invokevirtual 129, 3) := by decide +kernel
theorem dX8_pass_86 : decode cX8_pass 86 = .ok (.invokevirtual 211, 3) := by decide +kernel
theorem dX8_pass_89 : decode cX8_pass 89 = .ok (.iinc 2 1, 3) := by decide +kernel
theorem dX8_pass_92 : decode cX8_pass 92 = .ok (.goto (-50), 3) := by decide +kernel
theorem dX8_pass_95 : decode cX8_pass 95 = .ok (.aload_n 0, 1) := by decide +kernel
theorem dX8_pass_96 : decode cX8_pass 96 = .ok (.getfield 126, 3) := by decide +kernel
theorem dX8_pass_99 : decode cX8_pass 99 = .ok (.ireturn, 1) := by decide +kernel
theorem dX8_owes_0 : decode cX8_owes 0 = .ok (.aload_n 0, 1) := by decide +kernel
theorem dX8_owes_1 : decode cX8_owes 1 = .ok (.aload_n 0, 1) := by decide +kernel
theorem dX8_owes_2 : decode cX8_owes 2 = .ok (.iload_n 1, 1) := by decide +kernel
theorem dX8_owes_3 : decode cX8_owes 3 = .ok (.invokevirtual 148, 3) := by decide +kernel
theorem dX8_owes_6 : decode cX8_owes 6 = .ok (.ifCond .eq 7, 3) := by decide +kernel
theorem dX8_owes_9 : decode cX8_owes 9 = .ok (.iconst 0, 1) := by decide +kernel
theorem dX8_owes_10 : decode cX8_owes 10 = .ok (.goto 4, 3) := by decide +kernel
theorem dX8_owes_13 : decode cX8_owes 13 = .ok (.iconst 1, 1) := by decide +kernel
theorem dX8_owes_14 : decode cX8_owes 14 = .ok (.invokevirtual 133, 3) := by decide +kernel
theorem dX8_owes_17 : decode cX8_owes 17 = .ok (.ifCond .eq 12, 3) := by decide +kernel
theorem dX8_owes_20 : decode cX8_owes 20 = .ok (.aload_n 0, 1) := by decide +kernel
theorem dX8_owes_21 : decode cX8_owes 21 = .ok (.getfield 62, 3) := by decide +kernel
theorem dX8_owes_24 : decode cX8_owes 24 = .ok (.iload_n 1, 1) := by decide +kernel
theorem dX8_owes_25 : decode cX8_owes 25 = .ok (.laload, 1) := by decide +kernel
theorem dX8_owes_26 : decode cX8_owes 26 = .ok (.goto 4, 3) := by decide +kernel
theorem dX8_owes_29 : decode cX8_owes 29 = .ok (.lconst 0, 1) := by decide +kernel
theorem dX8_owes_30 : decode cX8_owes 30 = .ok (.lreturn, 1) := by decide +kernel
theorem dX8_owesAnew_0 : decode cX8_owesAnew 0 = .ok (.aload_n 0, 1) := by decide +kernel
theorem dX8_owesAnew_1 : decode cX8_owesAnew 1 = .ok (.iload_n 1, 1) := by decide +kernel
theorem dX8_owesAnew_2 : decode cX8_owesAnew 2 = .ok (.invokevirtual 214, 3) := by decide +kernel
theorem dX8_owesAnew_5 : decode cX8_owesAnew 5 = .ok (.lreturn, 1) := by decide +kernel
theorem dX8_desk_0 : decode cX8_desk 0 = .ok (.aload_n 0, 1) := by decide +kernel
theorem dX8_desk_1 : decode cX8_desk 1 = .ok (.aload_n 0, 1) := by decide +kernel
theorem dX8_desk_2 : decode cX8_desk 2 = .ok (.iload_n 1, 1) := by decide +kernel
theorem dX8_desk_3 : decode cX8_desk 3 = .ok (.invokevirtual 148, 3) := by decide +kernel
theorem dX8_desk_6 : decode cX8_desk 6 = .ok (.ifCond .eq 7, 3) := by decide +kernel
theorem dX8_desk_9 : decode cX8_desk 9 = .ok (.iconst 0, 1) := by decide +kernel
theorem dX8_desk_10 : decode cX8_desk 10 = .ok (.goto 4, 3) := by decide +kernel
theorem dX8_desk_13 : decode cX8_desk 13 = .ok (.iconst 1, 1) := by decide +kernel
theorem dX8_desk_14 : decode cX8_desk 14 = .ok (.invokevirtual 133, 3) := by decide +kernel
theorem dX8_desk_17 : decode cX8_desk 17 = .ok (.ifCond .eq 12, 3) := by decide +kernel
theorem dX8_desk_20 : decode cX8_desk 20 = .ok (.aload_n 0, 1) := by decide +kernel
theorem dX8_desk_21 : decode cX8_desk 21 = .ok (.getfield 66, 3) := by decide +kernel
theorem dX8_desk_24 : decode cX8_desk 24 = .ok (.iload_n 1, 1) := by decide +kernel
theorem dX8_desk_25 : decode cX8_desk 25 = .ok (.laload, 1) := by decide +kernel
theorem dX8_desk_26 : decode cX8_desk 26 = .ok (.goto 4, 3) := by decide +kernel
theorem dX8_desk_29 : decode cX8_desk 29 = .ok (.lconst 0, 1) := by decide +kernel
theorem dX8_desk_30 : decode cX8_desk 30 = .ok (.lreturn, 1) := by decide +kernel
theorem dX8_owner_0 : decode cX8_owner 0 = .ok (.aload_n 0, 1) := by decide +kernel
theorem dX8_owner_1 : decode cX8_owner 1 = .ok (.iconst 0, 1) := by decide +kernel
theorem dX8_owner_2 : decode cX8_owner 2 = .ok (.putfield 112, 3) := by decide +kernel
theorem dX8_owner_5 : decode cX8_owner 5 = .ok (.lconst 0, 1) := by decide +kernel
theorem dX8_owner_6 : decode cX8_owner 6 = .ok (.lstore_n 1, 1) := by decide +kernel
theorem dX8_owner_7 : decode cX8_owner 7 = .ok (.iconst 0, 1) := by decide +kernel
theorem dX8_owner_8 : decode cX8_owner 8 = .ok (.istore_n 3, 1) := by decide +kernel
theorem dX8_owner_9 : decode cX8_owner 9 = .ok (.iload_n 3, 1) := by decide +kernel
theorem dX8_owner_10 : decode cX8_owner 10 = .ok (.aload_n 0, 1) := by decide +kernel
theorem dX8_owner_11 : decode cX8_owner 11 = .ok (.getfield 123, 3) := by decide +kernel
theorem dX8_owner_14 : decode cX8_owner 14 = .ok (.if_icmp .ge 25, 3) := by decide +kernel
theorem dX8_owner_17 : decode cX8_owner 17 = .ok (.lload_n 1, 1) := by decide +kernel
theorem dX8_owner_18 : decode cX8_owner 18 = .ok (.aload_n 0, 1) := by decide +kernel
theorem dX8_owner_19 : decode cX8_owner 19 = .ok (.getfield 62, 3) := by decide +kernel
theorem dX8_owner_22 : decode cX8_owner 22 = .ok (.iload_n 3, 1) := by decide +kernel
theorem dX8_owner_23 : decode cX8_owner 23 = .ok (.laload, 1) := by decide +kernel
theorem dX8_owner_24 : decode cX8_owner 24 = .ok (.aload_n 0, 1) := by decide +kernel
theorem dX8_owner_25 : decode cX8_owner 25 = .ok (.getfield 66, 3) := by decide +kernel
theorem dX8_owner_28 : decode cX8_owner 28 = .ok (.iload_n 3, 1) := by decide +kernel
theorem dX8_owner_29 : decode cX8_owner 29 = .ok (.laload, 1) := by decide +kernel
theorem dX8_owner_30 : decode cX8_owner 30 = .ok (.ladd, 1) := by decide +kernel
theorem dX8_owner_31 : decode cX8_owner 31 = .ok (.lsub, 1) := by decide +kernel
theorem dX8_owner_32 : decode cX8_owner 32 = .ok (.lstore_n 1, 1) := by decide +kernel
theorem dX8_owner_33 : decode cX8_owner 33 = .ok (.iinc 3 1, 3) := by decide +kernel
theorem dX8_owner_36 : decode cX8_owner 36 = .ok (.goto (-27), 3) := by decide +kernel
theorem dX8_owner_39 : decode cX8_owner 39 = .ok (.lload_n 1, 1) := by decide +kernel
theorem dX8_owner_40 : decode cX8_owner 40 = .ok (.lreturn, 1) := by decide +kernel
theorem dX8_bill_0 : decode cX8_bill 0 = .ok (.aload_n 0, 1) := by decide +kernel
theorem dX8_bill_1 : decode cX8_bill 1 = .ok (.iload_n 1, 1) := by decide +kernel
theorem dX8_bill_2 : decode cX8_bill 2 = .ok (.invokevirtual 148, 3) := by decide +kernel
theorem dX8_bill_5 : decode cX8_bill 5 = .ok (.ifCond .eq 15, 3) := by decide +kernel
theorem dX8_bill_8 : decode cX8_bill 8 = .ok (.aload_n 0, 1) := by decide +kernel
theorem dX8_bill_9 : decode cX8_bill 9 = .ok (.iload_n 2, 1) := by decide +kernel
theorem dX8_bill_10 : decode cX8_bill 10 = .ok (.invokevirtual 202, 3) := by decide +kernel
theorem dX8_bill_13 : decode cX8_bill 13 = .ok (.ifCond .eq 7, 3) := by decide +kernel
theorem dX8_bill_16 : decode cX8_bill 16 = .ok (.iconst 1, 1) := by decide +kernel
theorem dX8_bill_17 : decode cX8_bill 17 = .ok (.goto 4, 3) := by decide +kernel
theorem dX8_bill_20 : decode cX8_bill 20 = .ok (.iconst 0, 1) := by decide +kernel
theorem dX8_bill_21 : decode cX8_bill 21 = .ok (.istore 4, 2) := by decide +kernel
theorem dX8_bill_23 : decode cX8_bill 23 = .ok (.aload_n 0, 1) := by decide +kernel
theorem dX8_bill_24 : decode cX8_bill 24 = .ok (.iload 4, 2) := by decide +kernel
theorem dX8_bill_26 : decode cX8_bill 26 = .ok (.ifCond .ne 7, 3) := by decide +kernel
theorem dX8_bill_29 : decode cX8_bill 29 = .ok (.iconst 1, 1) := by decide +kernel
theorem dX8_bill_30 : decode cX8_bill 30 = .ok (.goto 17, 3) := by decide +kernel
theorem dX8_bill_33 : decode cX8_bill 33 = .ok (.iload_n 3, 1) := by decide +kernel
theorem dX8_bill_34 : decode cX8_bill 34 = .ok (.iconst 0, 1) := by decide +kernel
theorem dX8_bill_35 : decode cX8_bill 35 = .ok (.iconst 3, 1) := by decide +kernel
theorem dX8_bill_36 : decode cX8_bill 36 = .ok (.invokestatic 119, 3) := by decide +kernel
theorem dX8_bill_39 : decode cX8_bill 39 = .ok (.ifCond .eq 7, 3) := by decide +kernel
theorem dX8_bill_42 : decode cX8_bill 42 = .ok (.iconst 0, 1) := by decide +kernel
theorem dX8_bill_43 : decode cX8_bill 43 = .ok (.goto 4, 3) := by decide +kernel
theorem dX8_bill_46 : decode cX8_bill 46 = .ok (.iconst 2, 1) := by decide +kernel
theorem dX8_bill_47 : decode cX8_bill 47 = .ok (.invokevirtual 133, 3) := by decide +kernel
theorem dX8_bill_50 : decode cX8_bill 50 = .ok (.ifCond .ne 5, 3) := by decide +kernel
theorem dX8_bill_53 : decode cX8_bill 53 = .ok (.lconst 0, 1) := by decide +kernel
theorem dX8_bill_54 : decode cX8_bill 54 = .ok (.lreturn, 1) := by decide +kernel
theorem dX8_bill_55 : decode cX8_bill 55 = .ok (.iload_n 1, 1) := by decide +kernel
theorem dX8_bill_56 : decode cX8_bill 56 = .ok (.iload_n 2, 1) := by decide +kernel
theorem dX8_bill_57 : decode cX8_bill 57 = .ok (.invokestatic 173, 3) := by decide +kernel
theorem dX8_bill_60 : decode cX8_bill 60 = .ok (.istore 5, 2) := by decide +kernel
theorem dX8_bill_62 : decode cX8_bill 62 = .ok (.aload_n 0, 1) := by decide +kernel
theorem dX8_bill_63 : decode cX8_bill 63 = .ok (.getfield 72, 3) := by decide +kernel
theorem dX8_bill_66 : decode cX8_bill 66 = .ok (.iload 5, 2) := by decide +kernel
theorem dX8_bill_68 : decode cX8_bill 68 = .ok (.baload, 1) := by decide +kernel
theorem dX8_bill_69 : decode cX8_bill 69 = .ok (.ifCond .ne 9, 3) := by decide +kernel
theorem dX8_bill_72 : decode cX8_bill 72 = .ok (.ldc2_w 159, 3) := by decide +kernel
theorem dX8_bill_75 : decode cX8_bill 75 = .ok (.goto 58, 3) := by decide +kernel
theorem dX8_bill_78 : decode cX8_bill 78 = .ok (.iload_n 3, 1) := by decide +kernel
theorem dX8_bill_79 : decode cX8_bill 79 = .ok (.ifCond .ne 14, 3) := by decide +kernel
theorem dX8_bill_82 : decode cX8_bill 82 = .ok (.aload_n 0, 1) := by decide +kernel
theorem dX8_bill_83 : decode cX8_bill 83 = .ok (.getfield 75, 3) := by decide +kernel
theorem dX8_bill_86 : decode cX8_bill 86 = .ok (.iload 5, 2) := by decide +kernel
theorem dX8_bill_88 : decode cX8_bill 88 = .ok (.iaload, 1) := by decide +kernel
theorem dX8_bill_89 : decode cX8_bill 89 = .ok (.i2l, 1) := by decide +kernel
theorem dX8_bill_90 : decode cX8_bill 90 = .ok (.goto 43, 3) := by decide +kernel
theorem dX8_bill_93 : decode cX8_bill 93 = .ok (.iload_n 3, 1) := by decide +kernel
theorem dX8_bill_94 : decode cX8_bill 94 = .ok (.iconst 1, 1) := by decide +kernel
theorem dX8_bill_95 : decode cX8_bill 95 = .ok (.if_icmp .ne 14, 3) := by decide +kernel
theorem dX8_bill_98 : decode cX8_bill 98 = .ok (.aload_n 0, 1) := by decide +kernel
theorem dX8_bill_99 : decode cX8_bill 99 = .ok (.getfield 78, 3) := by decide +kernel
theorem dX8_bill_102 : decode cX8_bill 102 = .ok (.iload 5, 2) := by decide +kernel
theorem dX8_bill_104 : decode cX8_bill 104 = .ok (.iaload, 1) := by decide +kernel
theorem dX8_bill_105 : decode cX8_bill 105 = .ok (.i2l, 1) := by decide +kernel
theorem dX8_bill_106 : decode cX8_bill 106 = .ok (.goto 27, 3) := by decide +kernel
theorem dX8_bill_109 : decode cX8_bill 109 = .ok (.iload_n 3, 1) := by decide +kernel
theorem dX8_bill_110 : decode cX8_bill 110 = .ok (.iconst 2, 1) := by decide +kernel
theorem dX8_bill_111 : decode cX8_bill 111 = .ok (.if_icmp .ne 14, 3) := by decide +kernel
theorem dX8_bill_114 : decode cX8_bill 114 = .ok (.aload_n 0, 1) := by decide +kernel
theorem dX8_bill_115 : decode cX8_bill 115 = .ok (.getfield 81, 3) := by decide +kernel
theorem dX8_bill_118 : decode cX8_bill 118 = .ok (.iload 5, 2) := by decide +kernel
theorem dX8_bill_120 : decode cX8_bill 120 = .ok (.iaload, 1) := by decide +kernel
theorem dX8_bill_121 : decode cX8_bill 121 = .ok (.i2l, 1) := by decide +kernel
theorem dX8_bill_122 : decode cX8_bill 122 = .ok (.goto 11, 3) := by decide +kernel
theorem dX8_bill_125 : decode cX8_bill 125 = .ok (.aload_n 0, 1) := by decide +kernel
theorem dX8_bill_126 : decode cX8_bill 126 = .ok (.getfield 84, 3) := by decide +kernel
theorem dX8_bill_129 : decode cX8_bill 129 = .ok (.iload 5, 2) := by decide +kernel
theorem dX8_bill_131 : decode cX8_bill 131 = .ok (.iaload, 1) := by decide +kernel
theorem dX8_bill_132 : decode cX8_bill 132 = .ok (.i2l, 1) := by decide +kernel
theorem dX8_bill_133 : decode cX8_bill 133 = .ok (.lreturn, 1) := by decide +kernel
theorem dX8_adds_0 : decode cX8_adds 0 = .ok (.aload_n 0, 1) := by decide +kernel
theorem dX8_adds_1 : decode cX8_adds 1 = .ok (.getfield 108, 3) := by decide +kernel
theorem dX8_adds_4 : decode cX8_adds 4 = .ok (.aload_n 0, 1) := by decide +kernel
theorem dX8_adds_5 : decode cX8_adds 5 = .ok (.getfield 218, 3) := by decide +kernel
theorem dX8_adds_8 : decode cX8_adds 8 = .ok (.iload_n 1, 1) := by decide +kernel
theorem dX8_adds_9 : decode cX8_adds 9 = .ok (.i2c, 1) := by decide +kernel
theorem dX8_adds_10 : decode cX8_adds 10 = .ok (.castore, 1) := by decide +kernel
theorem dX8_adds_11 : decode cX8_adds 11 = .ok (.aload_n 0, 1) := by decide +kernel
theorem dX8_adds_12 : decode cX8_adds 12 = .ok (.dup, 1) := by decide +kernel
theorem dX8_adds_13 : decode cX8_adds 13 = .ok (.getfield 218, 3) := by decide +kernel
theorem dX8_adds_16 : decode cX8_adds 16 = .ok (.iconst 1, 1) := by decide +kernel
theorem dX8_adds_17 : decode cX8_adds 17 = .ok (.iadd, 1) := by decide +kernel
theorem dX8_adds_18 : decode cX8_adds 18 = .ok (.putfield 218, 3) := by decide +kernel
theorem dX8_adds_21 : decode cX8_adds 21 = .ok (.return_, 1) := by decide +kernel
theorem dX8_powerOf_0 : decode cX8_powerOf 0 = .ok (.iconst 1, 1) := by decide +kernel
theorem dX8_powerOf_1 : decode cX8_powerOf 1 = .ok (.istore_n 1, 1) := by decide +kernel
theorem dX8_powerOf_2 : decode cX8_powerOf 2 = .ok (.iconst 0, 1) := by decide +kernel
theorem dX8_powerOf_3 : decode cX8_powerOf 3 = .ok (.istore_n 2, 1) := by decide +kernel
theorem dX8_powerOf_4 : decode cX8_powerOf 4 = .ok (.iload_n 2, 1) := by decide +kernel
theorem dX8_powerOf_5 : decode cX8_powerOf 5 = .ok (.iload_n 0, 1) := by decide +kernel
theorem dX8_powerOf_6 : decode cX8_powerOf 6 = .ok (.if_icmp .ge 14, 3) := by decide +kernel
theorem dX8_powerOf_9 : decode cX8_powerOf 9 = .ok (.iload_n 1, 1) := by decide +kernel
theorem dX8_powerOf_10 : decode cX8_powerOf 10 = .ok (.bipush 10, 2) := by decide +kernel
theorem dX8_powerOf_12 : decode cX8_powerOf 12 = .ok (.imul, 1) := by decide +kernel
theorem dX8_powerOf_13 : decode cX8_powerOf 13 = .ok (.istore_n 1, 1) := by decide +kernel
theorem dX8_powerOf_14 : decode cX8_powerOf 14 = .ok (.iinc 2 1, 3) := by decide +kernel
theorem dX8_powerOf_17 : decode cX8_powerOf 17 = .ok (.goto (-13), 3) := by decide +kernel
theorem dX8_powerOf_20 : decode cX8_powerOf 20 = .ok (.iload_n 1, 1) := by decide +kernel
theorem dX8_powerOf_21 : decode cX8_powerOf 21 = .ok (.ireturn, 1) := by decide +kernel
theorem dX8_addsNumber_0 : decode cX8_addsNumber 0 = .ok (.iconst 1, 1) := by decide +kernel
theorem dX8_addsNumber_1 : decode cX8_addsNumber 1 = .ok (.istore_n 2, 1) := by decide +kernel
theorem dX8_addsNumber_2 : decode cX8_addsNumber 2 = .ok (.iload_n 2, 1) := by decide +kernel
theorem dX8_addsNumber_3 : decode cX8_addsNumber 3 = .ok (.bipush 9, 2) := by decide +kernel
theorem dX8_addsNumber_5 : decode cX8_addsNumber 5 = .ok (.if_icmp .ge 18, 3) := by decide +kernel
theorem dX8_addsNumber_8 : decode cX8_addsNumber 8 = .ok (.iload_n 1, 1) := by decide +kernel
theorem dX8_addsNumber_9 : decode cX8_addsNumber 9 = .ok (.iload_n 2, 1) := by decide +kernel
theorem dX8_addsNumber_10 : decode cX8_addsNumber 10 = .ok (.invokestatic 221, 3) := by decide +kernel
theorem dX8_addsNumber_13 : decode cX8_addsNumber 13 = .ok (.idiv, 1) := by decide +kernel
theorem dX8_addsNumber_14 : decode cX8_addsNumber 14 = .ok (.ifCond .le 9, 3) := by decide +kernel
theorem dX8_addsNumber_17 : decode cX8_addsNumber 17 = .ok (.iinc 2 1, 3) := by decide +kernel
theorem dX8_addsNumber_20 : decode cX8_addsNumber 20 = .ok (.goto (-18), 3) := by decide +kernel
theorem dX8_addsNumber_23 : decode cX8_addsNumber 23 = .ok (.iload_n 2, 1) := by decide +kernel
theorem dX8_addsNumber_24 : decode cX8_addsNumber 24 = .ok (.iconst 1, 1) := by decide +kernel
theorem dX8_addsNumber_25 : decode cX8_addsNumber 25 = .ok (.isub, 1) := by decide +kernel
theorem dX8_addsNumber_26 : decode cX8_addsNumber 26 = .ok (.istore_n 3, 1) := by decide +kernel
theorem dX8_addsNumber_27 : decode cX8_addsNumber 27 = .ok (.iload_n 3, 1) := by decide +kernel
theorem dX8_addsNumber_28 : decode cX8_addsNumber 28 = .ok (.ifCond .lt 25, 3) := by decide +kernel
theorem dX8_addsNumber_31 : decode cX8_addsNumber 31 = .ok (.aload_n 0, 1) := by decide +kernel
theorem dX8_addsNumber_32 : decode cX8_addsNumber 32 = .ok (.bipush 48, 2) := by decide +kernel
theorem dX8_addsNumber_34 : decode cX8_addsNumber 34 = .ok (.iload_n 1, 1) := by decide +kernel
theorem dX8_addsNumber_35 : decode cX8_addsNumber 35 = .ok (.iload_n 3, 1) := by decide +kernel
theorem dX8_addsNumber_36 : decode cX8_addsNumber 36 = .ok (.invokestatic 221, 3) := by decide +kernel
theorem dX8_addsNumber_39 : decode cX8_addsNumber 39 = .ok (.idiv, 1) := by decide +kernel
theorem dX8_addsNumber_40 : decode cX8_addsNumber 40 = .ok (.bipush 10, 2) := by decide +kernel
theorem dX8_addsNumber_42 : decode cX8_addsNumber 42 = .ok (.irem, 1) := by decide +kernel
theorem dX8_addsNumber_43 : decode cX8_addsNumber 43 = .ok (.iadd, 1) := by decide +kernel
theorem dX8_addsNumber_44 : decode cX8_addsNumber 44 = .ok (.invokevirtual 225, 3) := by decide +kernel
theorem dX8_addsNumber_47 : decode cX8_addsNumber 47 = .ok (.iinc 3 (-1), 3) := by decide +kernel
theorem dX8_addsNumber_50 : decode cX8_addsNumber 50 = .ok (.goto (-23), 3) := by decide +kernel
theorem dX8_addsNumber_53 : decode cX8_addsNumber 53 = .ok (.return_, 1) := by decide +kernel
theorem dX8_addsAmount_0 : decode cX8_addsAmount 0 = .ok (.aload_n 0, 1) := by decide +kernel
theorem dX8_addsAmount_1 : decode cX8_addsAmount 1 = .ok (.bipush 32, 2) := by decide +kernel
theorem dX8_addsAmount_3 : decode cX8_addsAmount 3 = .ok (.invokevirtual 225, 3) := by decide +kernel
theorem dX8_addsAmount_6 : decode cX8_addsAmount 6 = .ok (.aload_n 0, 1) := by decide +kernel
theorem dX8_addsAmount_7 : decode cX8_addsAmount 7 = .ok (.iload_n 1, 1) := by decide +kernel
theorem dX8_addsAmount_8 : decode cX8_addsAmount 8 = .ok (.invokevirtual 225, 3) := by decide +kernel
theorem dX8_addsAmount_11 : decode cX8_addsAmount 11 = .ok (.iload_n 2, 1) := by decide +kernel
theorem dX8_addsAmount_12 : decode cX8_addsAmount 12 = .ok (.bipush 100, 2) := by decide +kernel
theorem dX8_addsAmount_14 : decode cX8_addsAmount 14 = .ok (.idiv, 1) := by decide +kernel
theorem dX8_addsAmount_15 : decode cX8_addsAmount 15 = .ok (.istore_n 3, 1) := by decide +kernel
theorem dX8_addsAmount_16 : decode cX8_addsAmount 16 = .ok (.iconst 1, 1) := by decide +kernel
theorem dX8_addsAmount_17 : decode cX8_addsAmount 17 = .ok (.istore 4, 2) := by decide +kernel
theorem dX8_addsAmount_19 : decode cX8_addsAmount 19 = .ok (.iload 4, 2) := by decide +kernel
theorem dX8_addsAmount_21 : decode cX8_addsAmount 21 = .ok (.bipush 9, 2) := by decide +kernel
theorem dX8_addsAmount_23 : decode cX8_addsAmount 23 = .ok (.if_icmp .ge 19, 3) := by decide +kernel
theorem dX8_addsAmount_26 : decode cX8_addsAmount 26 = .ok (.iload_n 3, 1) := by decide +kernel
theorem dX8_addsAmount_27 : decode cX8_addsAmount 27 = .ok (.iload 4, 2) := by decide +kernel
theorem dX8_addsAmount_29 : decode cX8_addsAmount 29 = .ok (.invokestatic 221, 3) := by decide +kernel
theorem dX8_addsAmount_32 : decode cX8_addsAmount 32 = .ok (.idiv, 1) := by decide +kernel
theorem dX8_addsAmount_33 : decode cX8_addsAmount 33 = .ok (.ifCond .le 9, 3) := by decide +kernel
theorem dX8_addsAmount_36 : decode cX8_addsAmount 36 = .ok (.iinc 4 1, 3) := by decide +kernel
theorem dX8_addsAmount_39 : decode cX8_addsAmount 39 = .ok (.goto (-20), 3) := by decide +kernel
theorem dX8_addsAmount_42 : decode cX8_addsAmount 42 = .ok (.iload 4, 2) := by decide +kernel
theorem dX8_addsAmount_44 : decode cX8_addsAmount 44 = .ok (.iconst 1, 1) := by decide +kernel
theorem dX8_addsAmount_45 : decode cX8_addsAmount 45 = .ok (.isub, 1) := by decide +kernel
theorem dX8_addsAmount_46 : decode cX8_addsAmount 46 = .ok (.istore 5, 2) := by decide +kernel
theorem dX8_addsAmount_48 : decode cX8_addsAmount 48 = .ok (.iload 5, 2) := by decide +kernel
theorem dX8_addsAmount_50 : decode cX8_addsAmount 50 = .ok (.ifCond .lt 44, 3) := by decide +kernel
theorem dX8_addsAmount_53 : decode cX8_addsAmount 53 = .ok (.aload_n 0, 1) := by decide +kernel
theorem dX8_addsAmount_54 : decode cX8_addsAmount 54 = .ok (.bipush 48, 2) := by decide +kernel
theorem dX8_addsAmount_56 : decode cX8_addsAmount 56 = .ok (.iload_n 3, 1) := by decide +kernel
theorem dX8_addsAmount_57 : decode cX8_addsAmount 57 = .ok (.iload 5, 2) := by decide +kernel
theorem dX8_addsAmount_59 : decode cX8_addsAmount 59 = .ok (.invokestatic 221, 3) := by decide +kernel
theorem dX8_addsAmount_62 : decode cX8_addsAmount 62 = .ok (.idiv, 1) := by decide +kernel
theorem dX8_addsAmount_63 : decode cX8_addsAmount 63 = .ok (.bipush 10, 2) := by decide +kernel
theorem dX8_addsAmount_65 : decode cX8_addsAmount 65 = .ok (.irem, 1) := by decide +kernel
theorem dX8_addsAmount_66 : decode cX8_addsAmount 66 = .ok (.iadd, 1) := by decide +kernel
theorem dX8_addsAmount_67 : decode cX8_addsAmount 67 = .ok (.invokevirtual 225, 3) := by decide +kernel
theorem dX8_addsAmount_70 : decode cX8_addsAmount 70 = .ok (.iload 5, 2) := by decide +kernel
theorem dX8_addsAmount_72 : decode cX8_addsAmount 72 = .ok (.ifCond .le 16, 3) := by decide +kernel
theorem dX8_addsAmount_75 : decode cX8_addsAmount 75 = .ok (.iload 5, 2) := by decide +kernel
theorem dX8_addsAmount_77 : decode cX8_addsAmount 77 = .ok (.iconst 3, 1) := by decide +kernel
theorem dX8_addsAmount_78 : decode cX8_addsAmount 78 = .ok (.irem, 1) := by decide +kernel
theorem dX8_addsAmount_79 : decode cX8_addsAmount 79 = .ok (.ifCond .ne 9, 3) := by decide +kernel
theorem dX8_addsAmount_82 : decode cX8_addsAmount 82 = .ok (.aload_n 0, 1) := by decide +kernel
theorem dX8_addsAmount_83 : decode cX8_addsAmount 83 = .ok (.bipush 46, 2) := by decide +kernel
theorem dX8_addsAmount_85 : decode cX8_addsAmount 85 = .ok (.invokevirtual 225, 3) := by decide +kernel
theorem dX8_addsAmount_88 : decode cX8_addsAmount 88 = .ok (.iinc 5 (-1), 3) := by decide +kernel
theorem dX8_addsAmount_91 : decode cX8_addsAmount 91 = .ok (.goto (-43), 3) := by decide +kernel
theorem dX8_addsAmount_94 : decode cX8_addsAmount 94 = .ok (.aload_n 0, 1) := by decide +kernel
theorem dX8_addsAmount_95 : decode cX8_addsAmount 95 = .ok (.bipush 44, 2) := by decide +kernel
theorem dX8_addsAmount_97 : decode cX8_addsAmount 97 = .ok (.invokevirtual 225, 3) := by decide +kernel
theorem dX8_addsAmount_100 : decode cX8_addsAmount 100 = .ok (.aload_n 0, 1) := by decide +kernel
theorem dX8_addsAmount_101 : decode cX8_addsAmount 101 = .ok (.bipush 48, 2) := by decide +kernel
theorem dX8_addsAmount_103 : decode cX8_addsAmount 103 = .ok (.iload_n 2, 1) := by decide +kernel
theorem dX8_addsAmount_104 : decode cX8_addsAmount 104 = .ok (.bipush 10, 2) := by decide +kernel
theorem dX8_addsAmount_106 : decode cX8_addsAmount 106 = .ok (.idiv, 1) := by decide +kernel
theorem dX8_addsAmount_107 : decode cX8_addsAmount 107 = .ok (.bipush 10, 2) := by decide +kernel
theorem dX8_addsAmount_109 : decode cX8_addsAmount 109 = .ok (.irem, 1) := by decide +kernel
theorem dX8_addsAmount_110 : decode cX8_addsAmount 110 = .ok (.iadd, 1) := by decide +kernel
theorem dX8_addsAmount_111 : decode cX8_addsAmount 111 = .ok (.invokevirtual 225, 3) := by decide +kernel
theorem dX8_addsAmount_114 : decode cX8_addsAmount 114 = .ok (.aload_n 0, 1) := by decide +kernel
theorem dX8_addsAmount_115 : decode cX8_addsAmount 115 = .ok (.bipush 48, 2) := by decide +kernel
theorem dX8_addsAmount_117 : decode cX8_addsAmount 117 = .ok (.iload_n 2, 1) := by decide +kernel
theorem dX8_addsAmount_118 : decode cX8_addsAmount 118 = .ok (.bipush 10, 2) := by decide +kernel
theorem dX8_addsAmount_120 : decode cX8_addsAmount 120 = .ok (.irem, 1) := by decide +kernel
theorem dX8_addsAmount_121 : decode cX8_addsAmount 121 = .ok (.iadd, 1) := by decide +kernel
theorem dX8_addsAmount_122 : decode cX8_addsAmount 122 = .ok (.invokevirtual 225, 3) := by decide +kernel
theorem dX8_addsAmount_125 : decode cX8_addsAmount 125 = .ok (.return_, 1) := by decide +kernel
theorem dX8_line_0 : decode cX8_line 0 = .ok (.aload_n 0, 1) := by decide +kernel
theorem dX8_line_1 : decode cX8_line 1 = .ok (.iload_n 1, 1) := by decide +kernel
theorem dX8_line_2 : decode cX8_line 2 = .ok (.invokevirtual 148, 3) := by decide +kernel
theorem dX8_line_5 : decode cX8_line 5 = .ok (.ifCond .eq 19, 3) := by decide +kernel
theorem dX8_line_8 : decode cX8_line 8 = .ok (.aload_n 0, 1) := by decide +kernel
theorem dX8_line_9 : decode cX8_line 9 = .ok (.iload_n 2, 1) := by decide +kernel
theorem dX8_line_10 : decode cX8_line 10 = .ok (.invokevirtual 202, 3) := by decide +kernel
theorem dX8_line_13 : decode cX8_line 13 = .ok (.ifCond .eq 11, 3) := by decide +kernel
theorem dX8_line_16 : decode cX8_line 16 = .ok (.iload_n 3, 1) := by decide +kernel
theorem dX8_line_17 : decode cX8_line 17 = .ok (.ifCond .lt 7, 3) := by decide +kernel
theorem dX8_line_20 : decode cX8_line 20 = .ok (.iconst 1, 1) := by decide +kernel
theorem dX8_line_21 : decode cX8_line 21 = .ok (.goto 4, 3) := by decide +kernel
theorem dX8_line_24 : decode cX8_line 24 = .ok (.iconst 0, 1) := by decide +kernel
theorem dX8_line_25 : decode cX8_line 25 = .ok (.istore 4, 2) := by decide +kernel
theorem dX8_line_27 : decode cX8_line 27 = .ok (.aload_n 0, 1) := by decide +kernel
theorem dX8_line_28 : decode cX8_line 28 = .ok (.iload 4, 2) := by decide +kernel
theorem dX8_line_30 : decode cX8_line 30 = .ok (.ifCond .eq 7, 3) := by decide +kernel
theorem dX8_line_33 : decode cX8_line 33 = .ok (.iconst 0, 1) := by decide +kernel
theorem dX8_line_34 : decode cX8_line 34 = .ok (.goto 4, 3) := by decide +kernel
theorem dX8_line_37 : decode cX8_line 37 = .ok (.iconst 1, 1) := by decide +kernel
theorem dX8_line_38 : decode cX8_line 38 = .ok (.invokevirtual 133, 3) := by decide +kernel
theorem dX8_line_41 : decode cX8_line 41 = .ok (.ifCond .ne 5, 3) := by decide +kernel
theorem dX8_line_44 : decode cX8_line 44 = .ok (.iconst 0, 1) := by decide +kernel
theorem dX8_line_45 : decode cX8_line 45 = .ok (.ireturn, 1) := by decide +kernel
theorem dX8_line_46 : decode cX8_line 46 = .ok (.iload_n 1, 1) := by decide +kernel
theorem dX8_line_47 : decode cX8_line 47 = .ok (.iload_n 2, 1) := by decide +kernel
theorem dX8_line_48 : decode cX8_line 48 = .ok (.invokestatic 173, 3) := by decide +kernel
theorem dX8_line_51 : decode cX8_line 51 = .ok (.istore 5, 2) := by decide +kernel
theorem dX8_line_53 : decode cX8_line 53 = .ok (.aload_n 0, 1) := by decide +kernel
theorem dX8_line_54 : decode cX8_line 54 = .ok (.iconst 0, 1) := by decide +kernel
theorem dX8_line_55 : decode cX8_line 55 = .ok (.putfield 218, 3) := by decide +kernel
theorem dX8_line_58 : decode cX8_line 58 = .ok (.aload_n 0, 1) := by decide +kernel
theorem dX8_line_59 : decode cX8_line 59 = .ok (.getfield 72, 3) := by decide +kernel
theorem dX8_line_62 : decode cX8_line 62 = .ok (.iload 5, 2) := by decide +kernel
theorem dX8_line_64 : decode cX8_line 64 = .ok (.baload, 1) := by decide +kernel
theorem dX8_line_65 : decode cX8_line 65 = .ok (.ifCond .eq 120, 3) := by decide +kernel
theorem dX8_line_68 : decode cX8_line 68 = .ok (.aload_n 0, 1) := by decide +kernel
theorem dX8_line_69 : decode cX8_line 69 = .ok (.bipush 76, 2) := by decide +kernel
theorem dX8_line_71 : decode cX8_line 71 = .ok (.invokevirtual 225, 3) := by decide +kernel
theorem dX8_line_74 : decode cX8_line 74 = .ok (.aload_n 0, 1) := by decide +kernel
theorem dX8_line_75 : decode cX8_line 75 = .ok (.iload_n 1, 1) := by decide +kernel
theorem dX8_line_76 : decode cX8_line 76 = .ok (.invokevirtual 228, 3) := by decide +kernel
theorem dX8_line_79 : decode cX8_line 79 = .ok (.aload_n 0, 1) := by decide +kernel
theorem dX8_line_80 : decode cX8_line 80 = .ok (.bipush 32, 2) := by decide +kernel
theorem dX8_line_82 : decode cX8_line 82 = .ok (.invokevirtual 225, 3) := by decide +kernel
theorem dX8_line_85 : decode cX8_line 85 = .ok (.aload_n 0, 1) := by decide +kernel
theorem dX8_line_86 : decode cX8_line 86 = .ok (.bipush 77, 2) := by decide +kernel
theorem dX8_line_88 : decode cX8_line 88 = .ok (.invokevirtual 225, 3) := by decide +kernel
theorem dX8_line_91 : decode cX8_line 91 = .ok (.aload_n 0, 1) := by decide +kernel
theorem dX8_line_92 : decode cX8_line 92 = .ok (.iload_n 2, 1) := by decide +kernel
theorem dX8_line_93 : decode cX8_line 93 = .ok (.invokevirtual 228, 3) := by decide +kernel
theorem dX8_line_96 : decode cX8_line 96 = .ok (.aload_n 0, 1) := by decide +kernel
theorem dX8_line_97 : decode cX8_line 97 = .ok (.bipush 82, 2) := by decide +kernel
theorem dX8_line_99 : decode cX8_line 99 = .ok (.aload_n 0, 1) := by decide +kernel
theorem dX8_line_100 : decode cX8_line 100 = .ok (.getfield 75, 3) := by decide +kernel
theorem dX8_line_103 : decode cX8_line 103 = .ok (.iload 5, 2) := by decide +kernel
theorem dX8_line_105 : decode cX8_line 105 = .ok (.iaload, 1) := by decide +kernel
theorem dX8_line_106 : decode cX8_line 106 = .ok (.invokevirtual 231, 3) := by decide +kernel
theorem dX8_line_109 : decode cX8_line 109 = .ok (.aload_n 0, 1) := by decide +kernel
theorem dX8_line_110 : decode cX8_line 110 = .ok (.bipush 88, 2) := by decide +kernel
theorem dX8_line_112 : decode cX8_line 112 = .ok (.aload_n 0, 1) := by decide +kernel
theorem dX8_line_113 : decode cX8_line 113 = .ok (.getfield 78, 3) := by decide +kernel
theorem dX8_line_116 : decode cX8_line 116 = .ok (.iload 5, 2) := by decide +kernel
theorem dX8_line_118 : decode cX8_line 118 = .ok (.iaload, 1) := by decide +kernel
theorem dX8_line_119 : decode cX8_line 119 = .ok (.invokevirtual 231, 3) := by decide +kernel
theorem dX8_line_122 : decode cX8_line 122 = .ok (.aload_n 0, 1) := by decide +kernel
theorem dX8_line_123 : decode cX8_line 123 = .ok (.bipush 66, 2) := by decide +kernel
theorem dX8_line_125 : decode cX8_line 125 = .ok (.aload_n 0, 1) := by decide +kernel
theorem dX8_line_126 : decode cX8_line 126 = .ok (.getfield 81, 3) := by decide +kernel
theorem dX8_line_129 : decode cX8_line 129 = .ok (.iload 5, 2) := by decide +kernel
theorem dX8_line_131 : decode cX8_line 131 = .ok (.iaload, 1) := by decide +kernel
theorem dX8_line_132 : decode cX8_line 132 = .ok (.invokevirtual 231, 3) := by decide +kernel
theorem dX8_line_135 : decode cX8_line 135 = .ok (.aload_n 0, 1) := by decide +kernel
theorem dX8_line_136 : decode cX8_line 136 = .ok (.bipush 72, 2) := by decide +kernel
theorem dX8_line_138 : decode cX8_line 138 = .ok (.aload_n 0, 1) := by decide +kernel
theorem dX8_line_139 : decode cX8_line 139 = .ok (.getfield 84, 3) := by decide +kernel
theorem dX8_line_142 : decode cX8_line 142 = .ok (.iload 5, 2) := by decide +kernel
theorem dX8_line_144 : decode cX8_line 144 = .ok (.iaload, 1) := by decide +kernel
theorem dX8_line_145 : decode cX8_line 145 = .ok (.invokevirtual 231, 3) := by decide +kernel
theorem dX8_line_148 : decode cX8_line 148 = .ok (.aload_n 0, 1) := by decide +kernel
theorem dX8_line_149 : decode cX8_line 149 = .ok (.bipush 84, 2) := by decide +kernel
theorem dX8_line_151 : decode cX8_line 151 = .ok (.aload_n 0, 1) := by decide +kernel
theorem dX8_line_152 : decode cX8_line 152 = .ok (.getfield 75, 3) := by decide +kernel
theorem dX8_line_155 : decode cX8_line 155 = .ok (.iload 5, 2) := by decide +kernel
theorem dX8_line_157 : decode cX8_line 157 = .ok (.iaload, 1) := by decide +kernel
theorem dX8_line_158 : decode cX8_line 158 = .ok (.aload_n 0, 1) := by decide +kernel
theorem dX8_line_159 : decode cX8_line 159 = .ok (.getfield 78, 3) := by decide +kernel
theorem dX8_line_162 : decode cX8_line 162 = .ok (.iload 5, 2) := by decide +kernel
theorem dX8_line_164 : decode cX8_line 164 = .ok (.iaload, 1) := by decide +kernel
theorem dX8_line_165 : decode cX8_line 165 = .ok (.isub, 1) := by decide +kernel
theorem dX8_line_166 : decode cX8_line 166 = .ok (.aload_n 0, 1) := by decide +kernel
theorem dX8_line_167 : decode cX8_line 167 = .ok (.getfield 81, 3) := by decide +kernel
theorem dX8_line_170 : decode cX8_line 170 = .ok (.iload 5, 2) := by decide +kernel
theorem dX8_line_172 : decode cX8_line 172 = .ok (.iaload, 1) := by decide +kernel
theorem dX8_line_173 : decode cX8_line 173 = .ok (.isub, 1) := by decide +kernel
theorem dX8_line_174 : decode cX8_line 174 = .ok (.aload_n 0, 1) := by decide +kernel
theorem dX8_line_175 : decode cX8_line 175 = .ok (.getfield 84, 3) := by decide +kernel
theorem dX8_line_178 : decode cX8_line 178 = .ok (.iload 5, 2) := by decide +kernel
theorem dX8_line_180 : decode cX8_line 180 = .ok (.iaload, 1) := by decide +kernel
theorem dX8_line_181 : decode cX8_line 181 = .ok (.iadd, 1) := by decide +kernel
theorem dX8_line_182 : decode cX8_line 182 = .ok (.invokevirtual 231, 3) := by decide +kernel
theorem dX8_line_185 : decode cX8_line 185 = .ok (.iload_n 3, 1) := by decide +kernel
theorem dX8_line_186 : decode cX8_line 186 = .ok (.aload_n 0, 1) := by decide +kernel
theorem dX8_line_187 : decode cX8_line 187 = .ok (.getfield 218, 3) := by decide +kernel
theorem dX8_line_190 : decode cX8_line 190 = .ok (.if_icmp .ge 12, 3) := by decide +kernel
theorem dX8_line_193 : decode cX8_line 193 = .ok (.aload_n 0, 1) := by decide +kernel
theorem dX8_line_194 : decode cX8_line 194 = .ok (.getfield 108, 3) := by decide +kernel
theorem dX8_line_197 : decode cX8_line 197 = .ok (.iload_n 3, 1) := by decide +kernel
theorem dX8_line_198 : decode cX8_line 198 = .ok (.caload, 1) := by decide +kernel
theorem dX8_line_199 : decode cX8_line 199 = .ok (.goto 5, 3) := by decide +kernel
theorem dX8_line_202 : decode cX8_line 202 = .ok (.bipush 32, 2) := by decide +kernel
theorem dX8_line_204 : decode cX8_line 204 = .ok (.ireturn, 1) := by decide +kernel
theorem dX8_use_0 : decode cX8_use 0 = .ok (.aload_n 0, 1) := by decide +kernel
theorem dX8_use_1 : decode cX8_use 1 = .ok (.iload_n 1, 1) := by decide +kernel
theorem dX8_use_2 : decode cX8_use 2 = .ok (.invokevirtual 141, 3) := by decide +kernel
theorem dX8_use_5 : decode cX8_use 5 = .ok (.ifCond .eq 15, 3) := by decide +kernel
theorem dX8_use_8 : decode cX8_use 8 = .ok (.aload_n 0, 1) := by decide +kernel
theorem dX8_use_9 : decode cX8_use 9 = .ok (.iload_n 2, 1) := by decide +kernel
theorem dX8_use_10 : decode cX8_use 10 = .ok (.invokevirtual 202, 3) := by decide +kernel
theorem dX8_use_13 : decode cX8_use 13 = .ok (.ifCond .eq 7, 3) := by decide +kernel
theorem dX8_use_16 : decode cX8_use 16 = .ok (.iconst 1, 1) := by decide +kernel
theorem dX8_use_17 : decode cX8_use 17 = .ok (.goto 4, 3) := by decide +kernel
theorem dX8_use_20 : decode cX8_use 20 = .ok (.iconst 0, 1) := by decide +kernel
theorem dX8_use_21 : decode cX8_use 21 = .ok (.istore_n 3, 1) := by decide +kernel
theorem dX8_use_22 : decode cX8_use 22 = .ok (.aload_n 0, 1) := by decide +kernel
theorem dX8_use_23 : decode cX8_use 23 = .ok (.iload_n 3, 1) := by decide +kernel
theorem dX8_use_24 : decode cX8_use 24 = .ok (.ifCond .eq 7, 3) := by decide +kernel
theorem dX8_use_27 : decode cX8_use 27 = .ok (.iconst 0, 1) := by decide +kernel
theorem dX8_use_28 : decode cX8_use 28 = .ok (.goto 4, 3) := by decide +kernel
theorem dX8_use_31 : decode cX8_use 31 = .ok (.iconst 1, 1) := by decide +kernel
theorem dX8_use_32 : decode cX8_use 32 = .ok (.invokevirtual 133, 3) := by decide +kernel
theorem dX8_use_35 : decode cX8_use 35 = .ok (.ifCond .eq 17, 3) := by decide +kernel
theorem dX8_use_38 : decode cX8_use 38 = .ok (.aload_n 0, 1) := by decide +kernel
theorem dX8_use_39 : decode cX8_use 39 = .ok (.getfield 28, 3) := by decide +kernel
theorem dX8_use_42 : decode cX8_use 42 = .ok (.bipush 121, 2) := by decide +kernel
theorem dX8_use_44 : decode cX8_use 44 = .ok (.iload_n 1, 1) := by decide +kernel
theorem dX8_use_45 : decode cX8_use 45 = .ok (.imul, 1) := by decide +kernel
theorem dX8_use_46 : decode cX8_use 46 = .ok (.iload_n 2, 1) := by decide +kernel
theorem dX8_use_47 : decode cX8_use 47 = .ok (.iadd, 1) := by decide +kernel
theorem dX8_use_48 : decode cX8_use 48 = .ok (.iaload, 1) := by decide +kernel
theorem dX8_use_49 : decode cX8_use 49 = .ok (.goto 4, 3) := by decide +kernel
theorem dX8_use_52 : decode cX8_use 52 = .ok (.iconst 0, 1) := by decide +kernel
theorem dX8_use_53 : decode cX8_use 53 = .ok (.ireturn, 1) := by decide +kernel
theorem dX8_points_0 : decode cX8_points 0 = .ok (.aload_n 0, 1) := by decide +kernel
theorem dX8_points_1 : decode cX8_points 1 = .ok (.aload_n 0, 1) := by decide +kernel
theorem dX8_points_2 : decode cX8_points 2 = .ok (.iload_n 1, 1) := by decide +kernel
theorem dX8_points_3 : decode cX8_points 3 = .ok (.invokevirtual 141, 3) := by decide +kernel
theorem dX8_points_6 : decode cX8_points 6 = .ok (.ifCond .eq 7, 3) := by decide +kernel
theorem dX8_points_9 : decode cX8_points 9 = .ok (.iconst 0, 1) := by decide +kernel
theorem dX8_points_10 : decode cX8_points 10 = .ok (.goto 4, 3) := by decide +kernel
theorem dX8_points_13 : decode cX8_points 13 = .ok (.iconst 1, 1) := by decide +kernel
theorem dX8_points_14 : decode cX8_points 14 = .ok (.invokevirtual 133, 3) := by decide +kernel
theorem dX8_points_17 : decode cX8_points 17 = .ok (.ifCond .eq 12, 3) := by decide +kernel
theorem dX8_points_20 : decode cX8_points 20 = .ok (.aload_n 0, 1) := by decide +kernel
theorem dX8_points_21 : decode cX8_points 21 = .ok (.getfield 25, 3) := by decide +kernel
theorem dX8_points_24 : decode cX8_points 24 = .ok (.iload_n 1, 1) := by decide +kernel
theorem dX8_points_25 : decode cX8_points 25 = .ok (.iaload, 1) := by decide +kernel
theorem dX8_points_26 : decode cX8_points 26 = .ok (.goto 4, 3) := by decide +kernel
theorem dX8_points_29 : decode cX8_points 29 = .ok (.iconst 0, 1) := by decide +kernel
theorem dX8_points_30 : decode cX8_points 30 = .ok (.ireturn, 1) := by decide +kernel
theorem dX8_planOf_0 : decode cX8_planOf 0 = .ok (.aload_n 0, 1) := by decide +kernel
theorem dX8_planOf_1 : decode cX8_planOf 1 = .ok (.aload_n 0, 1) := by decide +kernel
theorem dX8_planOf_2 : decode cX8_planOf 2 = .ok (.iload_n 1, 1) := by decide +kernel
theorem dX8_planOf_3 : decode cX8_planOf 3 = .ok (.invokevirtual 148, 3) := by decide +kernel
theorem dX8_planOf_6 : decode cX8_planOf 6 = .ok (.ifCond .eq 7, 3) := by decide +kernel
theorem dX8_planOf_9 : decode cX8_planOf 9 = .ok (.iconst 0, 1) := by decide +kernel
theorem dX8_planOf_10 : decode cX8_planOf 10 = .ok (.goto 4, 3) := by decide +kernel
theorem dX8_planOf_13 : decode cX8_planOf 13 = .ok (.iconst 1, 1) := by decide +kernel
theorem dX8_planOf_14 : decode cX8_planOf 14 = .ok (.invokevirtual 133, 3) := by decide +kernel
theorem dX8_planOf_17 : decode cX8_planOf 17 = .ok (.ifCond .eq 12, 3) := by decide +kernel
theorem dX8_planOf_20 : decode cX8_planOf 20 = .ok (.aload_n 0, 1) := by decide +kernel
theorem dX8_planOf_21 : decode cX8_planOf 21 = .ok (.getfield 87, 3) := by decide +kernel
theorem dX8_planOf_24 : decode cX8_planOf 24 = .ok (.iload_n 1, 1) := by decide +kernel
theorem dX8_planOf_25 : decode cX8_planOf 25 = .ok (.iaload, 1) := by decide +kernel
theorem dX8_planOf_26 : decode cX8_planOf 26 = .ok (.goto 4, 3) := by decide +kernel
theorem dX8_planOf_29 : decode cX8_planOf 29 = .ok (.iconst 0, 1) := by decide +kernel
theorem dX8_planOf_30 : decode cX8_planOf 30 = .ok (.ireturn, 1) := by decide +kernel
theorem dJ5_init_d00df_0 : decode cJ5_init_d00df 0 = .ok (.aload_n 0, 1) := by decide +kernel
theorem dJ5_init_d00df_1 : decode cJ5_init_d00df 1 = .ok (.invokespecial 3, 3) := by decide +kernel
theorem dJ5_init_d00df_4 : decode cJ5_init_d00df 4 = .ok (.getstatic 18, 3) := by decide +kernel
theorem dJ5_init_d00df_7 : decode cJ5_init_d00df 7 = .ok (.ifCond .eq 18, 3) := by decide +kernel
theorem dJ5_init_d00df_10 : decode cJ5_init_d00df 10 = .ok (.aload_n 0, 1) := by decide +kernel
theorem dJ5_init_d00df_11 : decode cJ5_init_d00df 11 = .ok (.iload_n 1, 1) := by decide +kernel
theorem dJ5_init_d00df_12 : decode cJ5_init_d00df 12 = .ok (.newarray .byte, 2) := by decide +kernel
theorem dJ5_init_d00df_14 : decode cJ5_init_d00df 14 = .ok (.putfield 15, 3) := by decide +kernel
theorem dJ5_init_d00df_17 : decode cJ5_init_d00df 17 = .ok (.aload_n 0, 1) := by decide +kernel
theorem dJ5_init_d00df_18 : decode cJ5_init_d00df 18 = .ok (.iconst 0, 1) := by decide +kernel
theorem dJ5_init_d00df_19 : decode cJ5_init_d00df 19 = .ok (.putfield 22, 3) := by decide +kernel
theorem dJ5_init_d00df_22 : decode cJ5_init_d00df 22 = .ok (.goto 16, 3) := by decide +kernel
theorem dJ5_init_d00df_25 : decode cJ5_init_d00df 25 = .ok (.aload_n 0, 1) := by decide +kernel
theorem dJ5_init_d00df_26 : decode cJ5_init_d00df 26 = .ok (.iload_n 1, 1) := by decide +kernel
theorem dJ5_init_d00df_38 : decode cJ5_init_d00df 38 = .ok (.return_, 1) := by decide +kernel
theorem dJ5_length_8abf5_0 : decode cJ5_length_8abf5 0 = .ok (.aload_n 0, 1) := by decide +kernel
theorem dJ5_length_8abf5_1 : decode cJ5_length_8abf5 1 = .ok (.getfield 79, 3) := by decide +kernel
theorem dJ5_length_8abf5_4 : decode cJ5_length_8abf5 4 = .ok (.ireturn, 1) := by decide +kernel
theorem dJ5_ensureCapacityInternal_d00df_0 : decode cJ5_ensureCapacityInternal_d00df 0 = .ok (.aload_n 0, 1) := by decide +kernel
theorem dJ5_ensureCapacityInternal_d00df_1 : decode cJ5_ensureCapacityInternal_d00df 1 = .ok (.getfield 15, 3) := by decide +kernel
theorem dJ5_ensureCapacityInternal_d00df_4 : decode cJ5_ensureCapacityInternal_d00df 4 = .ok (.arraylength, 1) := by decide +kernel
theorem dJ5_ensureCapacityInternal_d00df_5 : decode cJ5_ensureCapacityInternal_d00df 5 = .ok (.aload_n 0, 1) := by decide +kernel
theorem dJ5_ensureCapacityInternal_d00df_6 : decode cJ5_ensureCapacityInternal_d00df 6 = .ok (.getfield 22, 3) := by decide +kernel
theorem dJ5_ensureCapacityInternal_d00df_9 : decode cJ5_ensureCapacityInternal_d00df 9 = .ok (.ishr, 1) := by decide +kernel
theorem dJ5_ensureCapacityInternal_d00df_10 : decode cJ5_ensureCapacityInternal_d00df 10 = .ok (.istore_n 2, 1) := by decide +kernel
theorem dJ5_ensureCapacityInternal_d00df_11 : decode cJ5_ensureCapacityInternal_d00df 11 = .ok (.iload_n 1, 1) := by decide +kernel
theorem dJ5_ensureCapacityInternal_d00df_12 : decode cJ5_ensureCapacityInternal_d00df 12 = .ok (.iload_n 2, 1) := by decide +kernel
theorem dJ5_ensureCapacityInternal_d00df_13 : decode cJ5_ensureCapacityInternal_d00df 13 = .ok (.isub, 1) := by decide +kernel
theorem dJ5_ensureCapacityInternal_d00df_14 : decode cJ5_ensureCapacityInternal_d00df 14 = .ok (.ifCond .le 24, 3) := by decide +kernel
theorem dJ5_ensureCapacityInternal_d00df_17 : decode cJ5_ensureCapacityInternal_d00df 17 = .ok (.aload_n 0, 1) := by decide +kernel
theorem dJ5_ensureCapacityInternal_d00df_18 : decode cJ5_ensureCapacityInternal_d00df 18 = .ok (.aload_n 0, 1) := by decide +kernel
theorem dJ5_ensureCapacityInternal_d00df_19 : decode cJ5_ensureCapacityInternal_d00df 19 = .ok (.getfield 15, 3) := by decide +kernel
theorem dJ5_ensureCapacityInternal_d00df_22 : decode cJ5_ensureCapacityInternal_d00df 22 = .ok (.aload_n 0, 1) := by decide +kernel
theorem dJ5_ensureCapacityInternal_d00df_23 : decode cJ5_ensureCapacityInternal_d00df 23 = .ok (.iload_n 1, 1) := by decide +kernel
theorem dJ5_ensureCapacityInternal_d00df_24 : decode cJ5_ensureCapacityInternal_d00df 24 = .ok (.invokevirtual 104, 3) := by decide +kernel
theorem dJ5_ensureCapacityInternal_d00df_27 : decode cJ5_ensureCapacityInternal_d00df 27 = .ok (.aload_n 0, 1) := by decide +kernel
theorem dJ5_ensureCapacityInternal_d00df_28 : decode cJ5_ensureCapacityInternal_d00df 28 = .ok (.getfield 22, 3) := by decide +kernel
theorem dJ5_ensureCapacityInternal_d00df_31 : decode cJ5_ensureCapacityInternal_d00df 31 = .ok (.ishl, 1) := by decide +kernel
theorem dJ5_ensureCapacityInternal_d00df_32 : decode cJ5_ensureCapacityInternal_d00df 32 = .ok (.invokestatic 108, 3) := by decide +kernel
theorem dJ5_ensureCapacityInternal_d00df_35 : decode cJ5_ensureCapacityInternal_d00df 35 = .ok (.putfield 15, 3) := by decide +kernel
theorem dJ5_ensureCapacityInternal_d00df_38 : decode cJ5_ensureCapacityInternal_d00df 38 = .ok (.return_, 1) := by decide +kernel
theorem dJ5_newCapacity_0f7a4_0 : decode cJ5_newCapacity_0f7a4 0 = .ok (.aload_n 0, 1) := by decide +kernel
theorem dJ5_newCapacity_0f7a4_1 : decode cJ5_newCapacity_0f7a4 1 = .ok (.getfield 15, 3) := by decide +kernel
theorem dJ5_newCapacity_0f7a4_4 : decode cJ5_newCapacity_0f7a4 4 = .ok (.arraylength, 1) := by decide +kernel
theorem dJ5_newCapacity_0f7a4_5 : decode cJ5_newCapacity_0f7a4 5 = .ok (.istore_n 2, 1) := by decide +kernel
theorem dJ5_newCapacity_0f7a4_6 : decode cJ5_newCapacity_0f7a4 6 = .ok (.iload_n 1, 1) := by decide +kernel
theorem dJ5_newCapacity_0f7a4_7 : decode cJ5_newCapacity_0f7a4 7 = .ok (.aload_n 0, 1) := by decide +kernel
theorem dJ5_newCapacity_0f7a4_8 : decode cJ5_newCapacity_0f7a4 8 = .ok (.getfield 22, 3) := by decide +kernel
theorem dJ5_newCapacity_0f7a4_11 : decode cJ5_newCapacity_0f7a4 11 = .ok (.ishl, 1) := by decide +kernel
theorem dJ5_newCapacity_0f7a4_12 : decode cJ5_newCapacity_0f7a4 12 = .ok (.istore_n 3, 1) := by decide +kernel
theorem dJ5_newCapacity_0f7a4_13 : decode cJ5_newCapacity_0f7a4 13 = .ok (.iload_n 3, 1) := by decide +kernel
theorem dJ5_newCapacity_0f7a4_14 : decode cJ5_newCapacity_0f7a4 14 = .ok (.iload_n 2, 1) := by decide +kernel
theorem dJ5_newCapacity_0f7a4_15 : decode cJ5_newCapacity_0f7a4 15 = .ok (.isub, 1) := by decide +kernel
theorem dJ5_newCapacity_0f7a4_16 : decode cJ5_newCapacity_0f7a4 16 = .ok (.istore 4, 2) := by decide +kernel
theorem dJ5_newCapacity_0f7a4_18 : decode cJ5_newCapacity_0f7a4 18 = .ok (.iload_n 2, 1) := by decide +kernel
theorem dJ5_newCapacity_0f7a4_19 : decode cJ5_newCapacity_0f7a4 19 = .ok (.iload 4, 2) := by decide +kernel
theorem dJ5_newCapacity_0f7a4_21 : decode cJ5_newCapacity_0f7a4 21 = .ok (.iload_n 2, 1) := by decide +kernel
theorem dJ5_newCapacity_0f7a4_22 : decode cJ5_newCapacity_0f7a4 22 = .ok (.iconst 2, 1) := by decide +kernel
theorem dJ5_newCapacity_0f7a4_23 : decode cJ5_newCapacity_0f7a4 23 = .ok (.aload_n 0, 1) := by decide +kernel
theorem dJ5_newCapacity_0f7a4_24 : decode cJ5_newCapacity_0f7a4 24 = .ok (.getfield 22, 3) := by decide +kernel
theorem dJ5_newCapacity_0f7a4_27 : decode cJ5_newCapacity_0f7a4 27 = .ok (.ishl, 1) := by decide +kernel
theorem dJ5_newCapacity_0f7a4_28 : decode cJ5_newCapacity_0f7a4 28 = .ok (.iadd, 1) := by decide +kernel
theorem dJ5_newCapacity_0f7a4_29 : decode cJ5_newCapacity_0f7a4 29 = .ok (.invokestatic 114, 3) := by decide +kernel
theorem dJ5_newCapacity_0f7a4_32 : decode cJ5_newCapacity_0f7a4 32 = .ok (.istore 5, 2) := by decide +kernel
theorem dJ5_newCapacity_0f7a4_34 : decode cJ5_newCapacity_0f7a4 34 = .ok (.iload 5, 2) := by decide +kernel
theorem dJ5_newCapacity_0f7a4_36 : decode cJ5_newCapacity_0f7a4 36 = .ok (.ldc 39, 2) := by decide +kernel
theorem dJ5_newCapacity_0f7a4_38 : decode cJ5_newCapacity_0f7a4 38 = .ok (.if_icmp .ne 13, 3) := by decide +kernel
theorem dJ5_newCapacity_0f7a4_51 : decode cJ5_newCapacity_0f7a4 51 = .ok (.iload 5, 2) := by decide +kernel
theorem dJ5_newCapacity_0f7a4_53 : decode cJ5_newCapacity_0f7a4 53 = .ok (.aload_n 0, 1) := by decide +kernel
theorem dJ5_newCapacity_0f7a4_54 : decode cJ5_newCapacity_0f7a4 54 = .ok (.getfield 22, 3) := by decide +kernel
theorem dJ5_newCapacity_0f7a4_57 : decode cJ5_newCapacity_0f7a4 57 = .ok (.ishr, 1) := by decide +kernel
theorem dJ5_newCapacity_0f7a4_58 : decode cJ5_newCapacity_0f7a4 58 = .ok (.ireturn, 1) := by decide +kernel
theorem dJ5_setLength_d00df_0 : decode cJ5_setLength_d00df 0 = .ok (.iload_n 1, 1) := by decide +kernel
theorem dJ5_setLength_d00df_1 : decode cJ5_setLength_d00df 1 = .ok (.ifCond .ge 12, 3) := by decide +kernel
theorem dJ5_setLength_d00df_13 : decode cJ5_setLength_d00df 13 = .ok (.aload_n 0, 1) := by decide +kernel
theorem dJ5_setLength_d00df_14 : decode cJ5_setLength_d00df 14 = .ok (.iload_n 1, 1) := by decide +kernel
theorem dJ5_setLength_d00df_15 : decode cJ5_setLength_d00df 15 = .ok (.invokevirtual 100, 3) := by decide +kernel
theorem dJ5_setLength_d00df_18 : decode cJ5_setLength_d00df 18 = .ok (.aload_n 0, 1) := by decide +kernel
theorem dJ5_setLength_d00df_19 : decode cJ5_setLength_d00df 19 = .ok (.getfield 79, 3) := by decide +kernel
theorem dJ5_setLength_d00df_22 : decode cJ5_setLength_d00df 22 = .ok (.iload_n 1, 1) := by decide +kernel
theorem dJ5_setLength_d00df_23 : decode cJ5_setLength_d00df 23 = .ok (.if_icmp .ge 40, 3) := by decide +kernel
theorem dJ5_setLength_d00df_26 : decode cJ5_setLength_d00df 26 = .ok (.aload_n 0, 1) := by decide +kernel
theorem dJ5_setLength_d00df_27 : decode cJ5_setLength_d00df 27 = .ok (.invokevirtual 83, 3) := by decide +kernel
theorem dJ5_setLength_d00df_30 : decode cJ5_setLength_d00df 30 = .ok (.ifCond .eq 18, 3) := by decide +kernel
theorem dJ5_setLength_d00df_33 : decode cJ5_setLength_d00df 33 = .ok (.aload_n 0, 1) := by decide +kernel
theorem dJ5_setLength_d00df_34 : decode cJ5_setLength_d00df 34 = .ok (.getfield 15, 3) := by decide +kernel
theorem dJ5_setLength_d00df_37 : decode cJ5_setLength_d00df 37 = .ok (.aload_n 0, 1) := by decide +kernel
theorem dJ5_setLength_d00df_38 : decode cJ5_setLength_d00df 38 = .ok (.getfield 79, 3) := by decide +kernel
theorem dJ5_setLength_d00df_41 : decode cJ5_setLength_d00df 41 = .ok (.iload_n 1, 1) := by decide +kernel
theorem dJ5_setLength_d00df_48 : decode cJ5_setLength_d00df 48 = .ok (.aload_n 0, 1) := by decide +kernel
theorem dJ5_setLength_d00df_49 : decode cJ5_setLength_d00df 49 = .ok (.getfield 15, 3) := by decide +kernel
theorem dJ5_setLength_d00df_52 : decode cJ5_setLength_d00df 52 = .ok (.aload_n 0, 1) := by decide +kernel
theorem dJ5_setLength_d00df_53 : decode cJ5_setLength_d00df 53 = .ok (.getfield 79, 3) := by decide +kernel
theorem dJ5_setLength_d00df_56 : decode cJ5_setLength_d00df 56 = .ok (.iload_n 1, 1) := by decide +kernel
theorem dJ5_setLength_d00df_63 : decode cJ5_setLength_d00df 63 = .ok (.aload_n 0, 1) := by decide +kernel
theorem dJ5_setLength_d00df_64 : decode cJ5_setLength_d00df 64 = .ok (.getfield 79, 3) := by decide +kernel
theorem dJ5_setLength_d00df_67 : decode cJ5_setLength_d00df 67 = .ok (.iload_n 1, 1) := by decide +kernel
theorem dJ5_setLength_d00df_68 : decode cJ5_setLength_d00df 68 = .ok (.if_icmp .le 8, 3) := by decide +kernel
theorem dJ5_setLength_d00df_71 : decode cJ5_setLength_d00df 71 = .ok (.aload_n 0, 1) := by decide +kernel
theorem dJ5_setLength_d00df_72 : decode cJ5_setLength_d00df 72 = .ok (.iconst 1, 1) := by decide +kernel
theorem dJ5_setLength_d00df_73 : decode cJ5_setLength_d00df 73 = .ok (.putfield 73, 3) := by decide +kernel
theorem dJ5_setLength_d00df_76 : decode cJ5_setLength_d00df 76 = .ok (.aload_n 0, 1) := by decide +kernel
theorem dJ5_setLength_d00df_77 : decode cJ5_setLength_d00df 77 = .ok (.iload_n 1, 1) := by decide +kernel
theorem dJ5_setLength_d00df_78 : decode cJ5_setLength_d00df 78 = .ok (.putfield 79, 3) := by decide +kernel
theorem dJ5_setLength_d00df_81 : decode cJ5_setLength_d00df 81 = .ok (.return_, 1) := by decide +kernel
theorem dJ5_charAt_5068e_0 : decode cJ5_charAt_5068e 0 = .ok (.aload_n 0, 1) := by decide +kernel
theorem dJ5_charAt_5068e_1 : decode cJ5_charAt_5068e 1 = .ok (.getfield 22, 3) := by decide +kernel
theorem dJ5_charAt_5068e_4 : decode cJ5_charAt_5068e 4 = .ok (.istore_n 2, 1) := by decide +kernel
theorem dJ5_charAt_5068e_5 : decode cJ5_charAt_5068e 5 = .ok (.aload_n 0, 1) := by decide +kernel
theorem dJ5_charAt_5068e_6 : decode cJ5_charAt_5068e 6 = .ok (.getfield 15, 3) := by decide +kernel
theorem dJ5_charAt_5068e_9 : decode cJ5_charAt_5068e 9 = .ok (.astore_n 3, 1) := by decide +kernel
theorem dJ5_charAt_5068e_10 : decode cJ5_charAt_5068e 10 = .ok (.aload_n 0, 1) := by decide +kernel
theorem dJ5_charAt_5068e_11 : decode cJ5_charAt_5068e 11 = .ok (.getfield 79, 3) := by decide +kernel
theorem dJ5_charAt_5068e_14 : decode cJ5_charAt_5068e 14 = .ok (.aload_n 3, 1) := by decide +kernel
theorem dJ5_charAt_5068e_15 : decode cJ5_charAt_5068e 15 = .ok (.arraylength, 1) := by decide +kernel
theorem dJ5_charAt_5068e_16 : decode cJ5_charAt_5068e 16 = .ok (.iload_n 2, 1) := by decide +kernel
theorem dJ5_charAt_5068e_17 : decode cJ5_charAt_5068e 17 = .ok (.ishr, 1) := by decide +kernel
theorem dJ5_charAt_5068e_18 : decode cJ5_charAt_5068e 18 = .ok (.invokestatic 138, 3) := by decide +kernel
theorem dJ5_charAt_5068e_21 : decode cJ5_charAt_5068e 21 = .ok (.istore 4, 2) := by decide +kernel
theorem dJ5_charAt_5068e_23 : decode cJ5_charAt_5068e 23 = .ok (.iload_n 1, 1) := by decide +kernel
theorem dJ5_charAt_5068e_24 : decode cJ5_charAt_5068e 24 = .ok (.iload 4, 2) := by decide +kernel
theorem dJ5_charAt_5068e_26 : decode cJ5_charAt_5068e 26 = .ok (.invokestatic 144, 3) := by decide +kernel
theorem dJ5_charAt_5068e_29 : decode cJ5_charAt_5068e 29 = .ok (.iload_n 2, 1) := by decide +kernel
theorem dJ5_charAt_5068e_30 : decode cJ5_charAt_5068e 30 = .ok (.ifCond .ne 12, 3) := by decide +kernel
theorem dJ5_charAt_5068e_33 : decode cJ5_charAt_5068e 33 = .ok (.aload_n 3, 1) := by decide +kernel
theorem dJ5_charAt_5068e_34 : decode cJ5_charAt_5068e 34 = .ok (.iload_n 1, 1) := by decide +kernel
theorem dJ5_charAt_5068e_35 : decode cJ5_charAt_5068e 35 = .ok (.baload, 1) := by decide +kernel
theorem dJ5_charAt_5068e_36 : decode cJ5_charAt_5068e 36 = .ok (.sipush 255, 3) := by decide +kernel
theorem dJ5_charAt_5068e_39 : decode cJ5_charAt_5068e 39 = .ok (.iand, 1) := by decide +kernel
theorem dJ5_charAt_5068e_40 : decode cJ5_charAt_5068e 40 = .ok (.i2c, 1) := by decide +kernel
theorem dJ5_charAt_5068e_41 : decode cJ5_charAt_5068e 41 = .ok (.ireturn, 1) := by decide +kernel
theorem dJ5_charAt_5068e_42 : decode cJ5_charAt_5068e 42 = .ok (.aload_n 3, 1) := by decide +kernel
theorem dJ5_charAt_5068e_43 : decode cJ5_charAt_5068e 43 = .ok (.iload_n 1, 1) := by decide +kernel
theorem dJ5_append_cf1ce_0 : decode cJ5_append_cf1ce 0 = .ok (.aload_n 1, 1) := by decide +kernel
theorem dJ5_append_cf1ce_1 : decode cJ5_append_cf1ce 1 = .ok (.ifnonnull 8, 3) := by decide +kernel
theorem dJ5_append_cf1ce_9 : decode cJ5_append_cf1ce 9 = .ok (.aload_n 1, 1) := by decide +kernel
theorem dJ5_append_cf1ce_10 : decode cJ5_append_cf1ce 10 = .ok (.invokevirtual 32, 3) := by decide +kernel
theorem dJ5_append_cf1ce_13 : decode cJ5_append_cf1ce 13 = .ok (.istore_n 2, 1) := by decide +kernel
theorem dJ5_append_cf1ce_14 : decode cJ5_append_cf1ce 14 = .ok (.aload_n 0, 1) := by decide +kernel
theorem dJ5_append_cf1ce_15 : decode cJ5_append_cf1ce 15 = .ok (.aload_n 0, 1) := by decide +kernel
theorem dJ5_append_cf1ce_16 : decode cJ5_append_cf1ce 16 = .ok (.getfield 79, 3) := by decide +kernel
theorem dJ5_append_cf1ce_19 : decode cJ5_append_cf1ce 19 = .ok (.iload_n 2, 1) := by decide +kernel
theorem dJ5_append_cf1ce_20 : decode cJ5_append_cf1ce 20 = .ok (.iadd, 1) := by decide +kernel
theorem dJ5_append_cf1ce_21 : decode cJ5_append_cf1ce 21 = .ok (.invokevirtual 100, 3) := by decide +kernel
theorem dJ5_append_cf1ce_24 : decode cJ5_append_cf1ce 24 = .ok (.aload_n 0, 1) := by decide +kernel
theorem dJ5_append_cf1ce_25 : decode cJ5_append_cf1ce 25 = .ok (.aload_n 0, 1) := by decide +kernel
theorem dJ5_append_cf1ce_26 : decode cJ5_append_cf1ce 26 = .ok (.getfield 79, 3) := by decide +kernel
theorem dJ5_append_cf1ce_29 : decode cJ5_append_cf1ce 29 = .ok (.aload_n 1, 1) := by decide +kernel
theorem dJ5_append_cf1ce_30 : decode cJ5_append_cf1ce 30 = .ok (.invokevirtual 208, 3) := by decide +kernel
theorem dJ5_append_cf1ce_33 : decode cJ5_append_cf1ce 33 = .ok (.aload_n 0, 1) := by decide +kernel
theorem dJ5_append_cf1ce_34 : decode cJ5_append_cf1ce 34 = .ok (.dup, 1) := by decide +kernel
theorem dJ5_append_cf1ce_35 : decode cJ5_append_cf1ce 35 = .ok (.getfield 79, 3) := by decide +kernel
theorem dJ5_append_cf1ce_38 : decode cJ5_append_cf1ce 38 = .ok (.iload_n 2, 1) := by decide +kernel
theorem dJ5_append_cf1ce_39 : decode cJ5_append_cf1ce 39 = .ok (.iadd, 1) := by decide +kernel
theorem dJ5_append_cf1ce_40 : decode cJ5_append_cf1ce 40 = .ok (.putfield 79, 3) := by decide +kernel
theorem dJ5_append_cf1ce_43 : decode cJ5_append_cf1ce 43 = .ok (.aload_n 0, 1) := by decide +kernel
theorem dJ5_append_cf1ce_44 : decode cJ5_append_cf1ce 44 = .ok (.areturn, 1) := by decide +kernel
theorem dJ5_append_3fe6f_0 : decode cJ5_append_3fe6f 0 = .ok (.aload_n 0, 1) := by decide +kernel
theorem dJ5_append_3fe6f_1 : decode cJ5_append_3fe6f 1 = .ok (.aload_n 0, 1) := by decide +kernel
theorem dJ5_append_3fe6f_2 : decode cJ5_append_3fe6f 2 = .ok (.getfield 79, 3) := by decide +kernel
theorem dJ5_append_3fe6f_5 : decode cJ5_append_3fe6f 5 = .ok (.iconst 1, 1) := by decide +kernel
theorem dJ5_append_3fe6f_6 : decode cJ5_append_3fe6f 6 = .ok (.iadd, 1) := by decide +kernel
theorem dJ5_append_3fe6f_7 : decode cJ5_append_3fe6f 7 = .ok (.invokevirtual 100, 3) := by decide +kernel
theorem dJ5_append_3fe6f_10 : decode cJ5_append_3fe6f 10 = .ok (.aload_n 0, 1) := by decide +kernel
theorem dJ5_append_3fe6f_11 : decode cJ5_append_3fe6f 11 = .ok (.invokevirtual 83, 3) := by decide +kernel
theorem dJ5_append_3fe6f_14 : decode cJ5_append_3fe6f 14 = .ok (.ifCond .eq 31, 3) := by decide +kernel
theorem dJ5_append_3fe6f_17 : decode cJ5_append_3fe6f 17 = .ok (.iload_n 1, 1) := by decide +kernel
theorem dJ5_append_3fe6f_18 : decode cJ5_append_3fe6f 18 = .ok (.invokestatic 191, 3) := by decide +kernel
theorem dJ5_append_3fe6f_21 : decode cJ5_append_3fe6f 21 = .ok (.ifCond .eq 24, 3) := by decide +kernel
theorem dJ5_append_3fe6f_24 : decode cJ5_append_3fe6f 24 = .ok (.aload_n 0, 1) := by decide +kernel
theorem dJ5_append_3fe6f_25 : decode cJ5_append_3fe6f 25 = .ok (.getfield 15, 3) := by decide +kernel
theorem dJ5_append_3fe6f_28 : decode cJ5_append_3fe6f 28 = .ok (.aload_n 0, 1) := by decide +kernel
theorem dJ5_append_3fe6f_29 : decode cJ5_append_3fe6f 29 = .ok (.dup, 1) := by decide +kernel
theorem dJ5_append_3fe6f_30 : decode cJ5_append_3fe6f 30 = .ok (.getfield 79, 3) := by decide +kernel
theorem dJ5_append_3fe6f_33 : decode cJ5_append_3fe6f 33 = .ok (.dup_x1, 1) := by decide +kernel
theorem dJ5_append_3fe6f_34 : decode cJ5_append_3fe6f 34 = .ok (.iconst 1, 1) := by decide +kernel
theorem dJ5_append_3fe6f_35 : decode cJ5_append_3fe6f 35 = .ok (.iadd, 1) := by decide +kernel
theorem dJ5_append_3fe6f_36 : decode cJ5_append_3fe6f 36 = .ok (.putfield 79, 3) := by decide +kernel
theorem dJ5_append_3fe6f_39 : decode cJ5_append_3fe6f 39 = .ok (.iload_n 1, 1) := by decide +kernel
theorem dJ5_append_3fe6f_40 : decode cJ5_append_3fe6f 40 = .ok (.i2b, 1) := by decide +kernel
theorem dJ5_append_3fe6f_41 : decode cJ5_append_3fe6f 41 = .ok (.bastore, 1) := by decide +kernel
theorem dJ5_append_3fe6f_42 : decode cJ5_append_3fe6f 42 = .ok (.goto 33, 3) := by decide +kernel
theorem dJ5_append_3fe6f_45 : decode cJ5_append_3fe6f 45 = .ok (.aload_n 0, 1) := by decide +kernel
theorem dJ5_append_3fe6f_46 : decode cJ5_append_3fe6f 46 = .ok (.invokevirtual 83, 3) := by decide +kernel
theorem dJ5_append_3fe6f_49 : decode cJ5_append_3fe6f 49 = .ok (.ifCond .eq 7, 3) := by decide +kernel
theorem dJ5_append_3fe6f_52 : decode cJ5_append_3fe6f 52 = .ok (.aload_n 0, 1) := by decide +kernel
theorem dJ5_append_3fe6f_56 : decode cJ5_append_3fe6f 56 = .ok (.aload_n 0, 1) := by decide +kernel
theorem dJ5_append_3fe6f_57 : decode cJ5_append_3fe6f 57 = .ok (.getfield 15, 3) := by decide +kernel
theorem dJ5_append_3fe6f_60 : decode cJ5_append_3fe6f 60 = .ok (.aload_n 0, 1) := by decide +kernel
theorem dJ5_append_3fe6f_61 : decode cJ5_append_3fe6f 61 = .ok (.dup, 1) := by decide +kernel
theorem dJ5_append_3fe6f_62 : decode cJ5_append_3fe6f 62 = .ok (.getfield 79, 3) := by decide +kernel
theorem dJ5_append_3fe6f_65 : decode cJ5_append_3fe6f 65 = .ok (.dup_x1, 1) := by decide +kernel
theorem dJ5_append_3fe6f_66 : decode cJ5_append_3fe6f 66 = .ok (.iconst 1, 1) := by decide +kernel
theorem dJ5_append_3fe6f_67 : decode cJ5_append_3fe6f 67 = .ok (.iadd, 1) := by decide +kernel
theorem dJ5_append_3fe6f_68 : decode cJ5_append_3fe6f 68 = .ok (.putfield 79, 3) := by decide +kernel
theorem dJ5_append_3fe6f_71 : decode cJ5_append_3fe6f 71 = .ok (.iload_n 1, 1) := by decide +kernel
theorem dJ5_append_3fe6f_75 : decode cJ5_append_3fe6f 75 = .ok (.aload_n 0, 1) := by decide +kernel
theorem dJ5_append_3fe6f_76 : decode cJ5_append_3fe6f 76 = .ok (.areturn, 1) := by decide +kernel
theorem dJ5_append_c97b9_0 : decode cJ5_append_c97b9 0 = .ok (.aload_n 0, 1) := by decide +kernel
theorem dJ5_append_c97b9_1 : decode cJ5_append_c97b9 1 = .ok (.getfield 79, 3) := by decide +kernel
theorem dJ5_append_c97b9_4 : decode cJ5_append_c97b9 4 = .ok (.istore_n 2, 1) := by decide +kernel
theorem dJ5_append_c97b9_5 : decode cJ5_append_c97b9 5 = .ok (.iload_n 2, 1) := by decide +kernel
theorem dJ5_append_c97b9_6 : decode cJ5_append_c97b9 6 = .ok (.iload_n 1, 1) := by decide +kernel
theorem dJ5_append_c97b9_7 : decode cJ5_append_c97b9 7 = .ok (.invokestatic 245, 3) := by decide +kernel
theorem dJ5_append_c97b9_10 : decode cJ5_append_c97b9 10 = .ok (.iadd, 1) := by decide +kernel
theorem dJ5_append_c97b9_11 : decode cJ5_append_c97b9 11 = .ok (.istore_n 3, 1) := by decide +kernel
theorem dJ5_append_c97b9_12 : decode cJ5_append_c97b9 12 = .ok (.aload_n 0, 1) := by decide +kernel
theorem dJ5_append_c97b9_13 : decode cJ5_append_c97b9 13 = .ok (.iload_n 3, 1) := by decide +kernel
theorem dJ5_append_c97b9_14 : decode cJ5_append_c97b9 14 = .ok (.invokevirtual 100, 3) := by decide +kernel
theorem dJ5_append_c97b9_17 : decode cJ5_append_c97b9 17 = .ok (.aload_n 0, 1) := by decide +kernel
theorem dJ5_append_c97b9_18 : decode cJ5_append_c97b9 18 = .ok (.invokevirtual 83, 3) := by decide +kernel
theorem dJ5_append_c97b9_21 : decode cJ5_append_c97b9 21 = .ok (.ifCond .eq 16, 3) := by decide +kernel
theorem dJ5_append_c97b9_24 : decode cJ5_append_c97b9 24 = .ok (.iload_n 1, 1) := by decide +kernel
theorem dJ5_append_c97b9_25 : decode cJ5_append_c97b9 25 = .ok (.iload_n 3, 1) := by decide +kernel
theorem dJ5_append_c97b9_26 : decode cJ5_append_c97b9 26 = .ok (.aload_n 0, 1) := by decide +kernel
theorem dJ5_append_c97b9_27 : decode cJ5_append_c97b9 27 = .ok (.getfield 15, 3) := by decide +kernel
theorem dJ5_append_c97b9_30 : decode cJ5_append_c97b9 30 = .ok (.invokestatic 248, 3) := by decide +kernel
theorem dJ5_append_c97b9_33 : decode cJ5_append_c97b9 33 = .ok (.pop, 1) := by decide +kernel
theorem dJ5_append_c97b9_34 : decode cJ5_append_c97b9 34 = .ok (.goto 14, 3) := by decide +kernel
theorem dJ5_append_c97b9_37 : decode cJ5_append_c97b9 37 = .ok (.iload_n 1, 1) := by decide +kernel
theorem dJ5_append_c97b9_38 : decode cJ5_append_c97b9 38 = .ok (.iload_n 2, 1) := by decide +kernel
theorem dJ5_append_c97b9_39 : decode cJ5_append_c97b9 39 = .ok (.iload_n 3, 1) := by decide +kernel
theorem dJ5_append_c97b9_40 : decode cJ5_append_c97b9 40 = .ok (.aload_n 0, 1) := by decide +kernel
theorem dJ5_append_c97b9_41 : decode cJ5_append_c97b9 41 = .ok (.getfield 15, 3) := by decide +kernel
theorem dJ5_append_c97b9_48 : decode cJ5_append_c97b9 48 = .ok (.aload_n 0, 1) := by decide +kernel
theorem dJ5_append_c97b9_49 : decode cJ5_append_c97b9 49 = .ok (.iload_n 3, 1) := by decide +kernel
theorem dJ5_append_c97b9_50 : decode cJ5_append_c97b9 50 = .ok (.putfield 79, 3) := by decide +kernel
theorem dJ5_append_c97b9_53 : decode cJ5_append_c97b9 53 = .ok (.aload_n 0, 1) := by decide +kernel
theorem dJ5_append_c97b9_54 : decode cJ5_append_c97b9 54 = .ok (.areturn, 1) := by decide +kernel
theorem dJ5_isLatin1_aae02_0 : decode cJ5_isLatin1_aae02 0 = .ok (.getstatic 18, 3) := by decide +kernel
theorem dJ5_isLatin1_aae02_3 : decode cJ5_isLatin1_aae02 3 = .ok (.ifCond .eq 14, 3) := by decide +kernel
theorem dJ5_isLatin1_aae02_6 : decode cJ5_isLatin1_aae02 6 = .ok (.aload_n 0, 1) := by decide +kernel
theorem dJ5_isLatin1_aae02_7 : decode cJ5_isLatin1_aae02 7 = .ok (.getfield 22, 3) := by decide +kernel
theorem dJ5_isLatin1_aae02_10 : decode cJ5_isLatin1_aae02 10 = .ok (.ifCond .ne 7, 3) := by decide +kernel
theorem dJ5_isLatin1_aae02_13 : decode cJ5_isLatin1_aae02 13 = .ok (.iconst 1, 1) := by decide +kernel
theorem dJ5_isLatin1_aae02_14 : decode cJ5_isLatin1_aae02 14 = .ok (.goto 4, 3) := by decide +kernel
theorem dJ5_isLatin1_aae02_17 : decode cJ5_isLatin1_aae02 17 = .ok (.iconst 0, 1) := by decide +kernel
theorem dJ5_isLatin1_aae02_18 : decode cJ5_isLatin1_aae02 18 = .ok (.ireturn, 1) := by decide +kernel
theorem dJ5_inflateIfNeededFor_a7421_0 : decode cJ5_inflateIfNeededFor_a7421 0 = .ok (.getstatic 18, 3) := by decide +kernel
theorem dJ5_inflateIfNeededFor_a7421_3 : decode cJ5_inflateIfNeededFor_a7421 3 = .ok (.ifCond .eq 18, 3) := by decide +kernel
theorem dJ5_inflateIfNeededFor_a7421_6 : decode cJ5_inflateIfNeededFor_a7421 6 = .ok (.aload_n 0, 1) := by decide +kernel
theorem dJ5_inflateIfNeededFor_a7421_7 : decode cJ5_inflateIfNeededFor_a7421 7 = .ok (.getfield 22, 3) := by decide +kernel
theorem dJ5_inflateIfNeededFor_a7421_10 : decode cJ5_inflateIfNeededFor_a7421 10 = .ok (.aload_n 1, 1) := by decide +kernel
theorem dJ5_inflateIfNeededFor_a7421_11 : decode cJ5_inflateIfNeededFor_a7421 11 = .ok (.invokevirtual 40, 3) := by decide +kernel
theorem dJ5_inflateIfNeededFor_a7421_14 : decode cJ5_inflateIfNeededFor_a7421 14 = .ok (.if_icmp .eq 7, 3) := by decide +kernel
theorem dJ5_inflateIfNeededFor_a7421_17 : decode cJ5_inflateIfNeededFor_a7421 17 = .ok (.aload_n 0, 1) := by decide +kernel
theorem dJ5_inflateIfNeededFor_a7421_21 : decode cJ5_inflateIfNeededFor_a7421 21 = .ok (.return_, 1) := by decide +kernel
theorem dJ5_putStringAt_47b60_0 : decode cJ5_putStringAt_47b60 0 = .ok (.aload_n 0, 1) := by decide +kernel
theorem dJ5_putStringAt_47b60_1 : decode cJ5_putStringAt_47b60 1 = .ok (.aload_n 2, 1) := by decide +kernel
theorem dJ5_putStringAt_47b60_2 : decode cJ5_putStringAt_47b60 2 = .ok (.invokevirtual 397, 3) := by decide +kernel
theorem dJ5_putStringAt_47b60_5 : decode cJ5_putStringAt_47b60 5 = .ok (.aload_n 2, 1) := by decide +kernel
theorem dJ5_putStringAt_47b60_6 : decode cJ5_putStringAt_47b60 6 = .ok (.aload_n 0, 1) := by decide +kernel
theorem dJ5_putStringAt_47b60_7 : decode cJ5_putStringAt_47b60 7 = .ok (.getfield 15, 3) := by decide +kernel
theorem dJ5_putStringAt_47b60_10 : decode cJ5_putStringAt_47b60 10 = .ok (.iload_n 1, 1) := by decide +kernel
theorem dJ5_putStringAt_47b60_11 : decode cJ5_putStringAt_47b60 11 = .ok (.aload_n 0, 1) := by decide +kernel
theorem dJ5_putStringAt_47b60_12 : decode cJ5_putStringAt_47b60 12 = .ok (.getfield 22, 3) := by decide +kernel
theorem dJ5_putStringAt_47b60_15 : decode cJ5_putStringAt_47b60 15 = .ok (.invokevirtual 399, 3) := by decide +kernel
theorem dJ5_putStringAt_47b60_18 : decode cJ5_putStringAt_47b60 18 = .ok (.return_, 1) := by decide +kernel
theorem dJ6_getChars_ba4f3_0 : decode cJ6_getChars_ba4f3 0 = .ok (.iload_n 1, 1) := by decide +kernel
theorem dJ6_getChars_ba4f3_1 : decode cJ6_getChars_ba4f3 1 = .ok (.istore 5, 2) := by decide +kernel
theorem dJ6_getChars_ba4f3_3 : decode cJ6_getChars_ba4f3 3 = .ok (.iload_n 0, 1) := by decide +kernel
theorem dJ6_getChars_ba4f3_4 : decode cJ6_getChars_ba4f3 4 = .ok (.ifCond .ge 7, 3) := by decide +kernel
theorem dJ6_getChars_ba4f3_7 : decode cJ6_getChars_ba4f3 7 = .ok (.iconst 1, 1) := by decide +kernel
theorem dJ6_getChars_ba4f3_8 : decode cJ6_getChars_ba4f3 8 = .ok (.goto 4, 3) := by decide +kernel
theorem dJ6_getChars_ba4f3_11 : decode cJ6_getChars_ba4f3 11 = .ok (.iconst 0, 1) := by decide +kernel
theorem dJ6_getChars_ba4f3_12 : decode cJ6_getChars_ba4f3 12 = .ok (.istore 6, 2) := by decide +kernel
theorem dJ6_getChars_ba4f3_14 : decode cJ6_getChars_ba4f3 14 = .ok (.iload 6, 2) := by decide +kernel
theorem dJ6_getChars_ba4f3_16 : decode cJ6_getChars_ba4f3 16 = .ok (.ifCond .ne 6, 3) := by decide +kernel
theorem dJ6_getChars_ba4f3_19 : decode cJ6_getChars_ba4f3 19 = .ok (.iload_n 0, 1) := by decide +kernel
theorem dJ6_getChars_ba4f3_20 : decode cJ6_getChars_ba4f3 20 = .ok (.ineg, 1) := by decide +kernel
theorem dJ6_getChars_ba4f3_21 : decode cJ6_getChars_ba4f3 21 = .ok (.istore_n 0, 1) := by decide +kernel
theorem dJ6_getChars_ba4f3_22 : decode cJ6_getChars_ba4f3 22 = .ok (.iload_n 0, 1) := by decide +kernel
theorem dJ6_getChars_ba4f3_23 : decode cJ6_getChars_ba4f3 23 = .ok (.bipush (-100), 2) := by decide +kernel
theorem dJ6_getChars_ba4f3_25 : decode cJ6_getChars_ba4f3 25 = .ok (.if_icmp .gt 47, 3) := by decide +kernel
theorem dJ6_getChars_ba4f3_28 : decode cJ6_getChars_ba4f3 28 = .ok (.iload_n 0, 1) := by decide +kernel
theorem dJ6_getChars_ba4f3_29 : decode cJ6_getChars_ba4f3 29 = .ok (.bipush 100, 2) := by decide +kernel
theorem dJ6_getChars_ba4f3_31 : decode cJ6_getChars_ba4f3 31 = .ok (.idiv, 1) := by decide +kernel
theorem dJ6_getChars_ba4f3_32 : decode cJ6_getChars_ba4f3 32 = .ok (.istore_n 3, 1) := by decide +kernel
theorem dJ6_getChars_ba4f3_33 : decode cJ6_getChars_ba4f3 33 = .ok (.iload_n 3, 1) := by decide +kernel
theorem dJ6_getChars_ba4f3_34 : decode cJ6_getChars_ba4f3 34 = .ok (.bipush 100, 2) := by decide +kernel
theorem dJ6_getChars_ba4f3_36 : decode cJ6_getChars_ba4f3 36 = .ok (.imul, 1) := by decide +kernel
theorem dJ6_getChars_ba4f3_37 : decode cJ6_getChars_ba4f3 37 = .ok (.iload_n 0, 1) := by decide +kernel
theorem dJ6_getChars_ba4f3_38 : decode cJ6_getChars_ba4f3 38 = .ok (.isub, 1) := by decide +kernel
theorem dJ6_getChars_ba4f3_39 : decode cJ6_getChars_ba4f3 39 = .ok (.istore 4, 2) := by decide +kernel
theorem dJ6_getChars_ba4f3_41 : decode cJ6_getChars_ba4f3 41 = .ok (.iload_n 3, 1) := by decide +kernel
theorem dJ6_getChars_ba4f3_42 : decode cJ6_getChars_ba4f3 42 = .ok (.istore_n 0, 1) := by decide +kernel
theorem dJ6_getChars_ba4f3_43 : decode cJ6_getChars_ba4f3 43 = .ok (.aload_n 2, 1) := by decide +kernel
theorem dJ6_getChars_ba4f3_44 : decode cJ6_getChars_ba4f3 44 = .ok (.iinc 5 (-1), 3) := by decide +kernel
theorem dJ6_getChars_ba4f3_47 : decode cJ6_getChars_ba4f3 47 = .ok (.iload 5, 2) := by decide +kernel
theorem dJ6_getChars_ba4f3_49 : decode cJ6_getChars_ba4f3 49 = .ok (.getstatic 83, 3) := by decide +kernel
theorem dJ6_getChars_ba4f3_52 : decode cJ6_getChars_ba4f3 52 = .ok (.iload 4, 2) := by decide +kernel
theorem dJ6_getChars_ba4f3_54 : decode cJ6_getChars_ba4f3 54 = .ok (.baload, 1) := by decide +kernel
theorem dJ6_getChars_ba4f3_55 : decode cJ6_getChars_ba4f3 55 = .ok (.bastore, 1) := by decide +kernel
theorem dJ6_getChars_ba4f3_56 : decode cJ6_getChars_ba4f3 56 = .ok (.aload_n 2, 1) := by decide +kernel
theorem dJ6_getChars_ba4f3_57 : decode cJ6_getChars_ba4f3 57 = .ok (.iinc 5 (-1), 3) := by decide +kernel
theorem dJ6_getChars_ba4f3_60 : decode cJ6_getChars_ba4f3 60 = .ok (.iload 5, 2) := by decide +kernel
theorem dJ6_getChars_ba4f3_62 : decode cJ6_getChars_ba4f3 62 = .ok (.getstatic 87, 3) := by decide +kernel
theorem dJ6_getChars_ba4f3_65 : decode cJ6_getChars_ba4f3 65 = .ok (.iload 4, 2) := by decide +kernel
theorem dJ6_getChars_ba4f3_67 : decode cJ6_getChars_ba4f3 67 = .ok (.baload, 1) := by decide +kernel
theorem dJ6_getChars_ba4f3_68 : decode cJ6_getChars_ba4f3 68 = .ok (.bastore, 1) := by decide +kernel
theorem dJ6_getChars_ba4f3_69 : decode cJ6_getChars_ba4f3 69 = .ok (.goto (-47), 3) := by decide +kernel
theorem dJ6_getChars_ba4f3_72 : decode cJ6_getChars_ba4f3 72 = .ok (.aload_n 2, 1) := by decide +kernel
theorem dJ6_getChars_ba4f3_73 : decode cJ6_getChars_ba4f3 73 = .ok (.iinc 5 (-1), 3) := by decide +kernel
theorem dJ6_getChars_ba4f3_76 : decode cJ6_getChars_ba4f3 76 = .ok (.iload 5, 2) := by decide +kernel
theorem dJ6_getChars_ba4f3_78 : decode cJ6_getChars_ba4f3 78 = .ok (.getstatic 83, 3) := by decide +kernel
theorem dJ6_getChars_ba4f3_81 : decode cJ6_getChars_ba4f3 81 = .ok (.iload_n 0, 1) := by decide +kernel
theorem dJ6_getChars_ba4f3_82 : decode cJ6_getChars_ba4f3 82 = .ok (.ineg, 1) := by decide +kernel
theorem dJ6_getChars_ba4f3_83 : decode cJ6_getChars_ba4f3 83 = .ok (.baload, 1) := by decide +kernel
theorem dJ6_getChars_ba4f3_84 : decode cJ6_getChars_ba4f3 84 = .ok (.bastore, 1) := by decide +kernel
theorem dJ6_getChars_ba4f3_85 : decode cJ6_getChars_ba4f3 85 = .ok (.iload_n 0, 1) := by decide +kernel
theorem dJ6_getChars_ba4f3_86 : decode cJ6_getChars_ba4f3 86 = .ok (.bipush (-9), 2) := by decide +kernel
theorem dJ6_getChars_ba4f3_88 : decode cJ6_getChars_ba4f3 88 = .ok (.if_icmp .ge 16, 3) := by decide +kernel
theorem dJ6_getChars_ba4f3_91 : decode cJ6_getChars_ba4f3 91 = .ok (.aload_n 2, 1) := by decide +kernel
theorem dJ6_getChars_ba4f3_92 : decode cJ6_getChars_ba4f3 92 = .ok (.iinc 5 (-1), 3) := by decide +kernel
theorem dJ6_getChars_ba4f3_95 : decode cJ6_getChars_ba4f3 95 = .ok (.iload 5, 2) := by decide +kernel
theorem dJ6_getChars_ba4f3_97 : decode cJ6_getChars_ba4f3 97 = .ok (.getstatic 87, 3) := by decide +kernel
theorem dJ6_getChars_ba4f3_100 : decode cJ6_getChars_ba4f3 100 = .ok (.iload_n 0, 1) := by decide +kernel
theorem dJ6_getChars_ba4f3_101 : decode cJ6_getChars_ba4f3 101 = .ok (.ineg, 1) := by decide +kernel
theorem dJ6_getChars_ba4f3_102 : decode cJ6_getChars_ba4f3 102 = .ok (.baload, 1) := by decide +kernel
theorem dJ6_getChars_ba4f3_103 : decode cJ6_getChars_ba4f3 103 = .ok (.bastore, 1) := by decide +kernel
theorem dJ6_getChars_ba4f3_104 : decode cJ6_getChars_ba4f3 104 = .ok (.iload 6, 2) := by decide +kernel
theorem dJ6_getChars_ba4f3_106 : decode cJ6_getChars_ba4f3 106 = .ok (.ifCond .eq 12, 3) := by decide +kernel
theorem dJ6_getChars_ba4f3_109 : decode cJ6_getChars_ba4f3 109 = .ok (.aload_n 2, 1) := by decide +kernel
theorem dJ6_getChars_ba4f3_110 : decode cJ6_getChars_ba4f3 110 = .ok (.iinc 5 (-1), 3) := by decide +kernel
theorem dJ6_getChars_ba4f3_113 : decode cJ6_getChars_ba4f3 113 = .ok (.iload 5, 2) := by decide +kernel
theorem dJ6_getChars_ba4f3_115 : decode cJ6_getChars_ba4f3 115 = .ok (.bipush 45, 2) := by decide +kernel
theorem dJ6_getChars_ba4f3_117 : decode cJ6_getChars_ba4f3 117 = .ok (.bastore, 1) := by decide +kernel
theorem dJ6_getChars_ba4f3_118 : decode cJ6_getChars_ba4f3 118 = .ok (.iload 5, 2) := by decide +kernel
theorem dJ6_getChars_ba4f3_120 : decode cJ6_getChars_ba4f3 120 = .ok (.ireturn, 1) := by decide +kernel
theorem dJ6_stringSize_0f7a4_0 : decode cJ6_stringSize_0f7a4 0 = .ok (.iconst 1, 1) := by decide +kernel
theorem dJ6_stringSize_0f7a4_1 : decode cJ6_stringSize_0f7a4 1 = .ok (.istore_n 1, 1) := by decide +kernel
theorem dJ6_stringSize_0f7a4_2 : decode cJ6_stringSize_0f7a4 2 = .ok (.iload_n 0, 1) := by decide +kernel
theorem dJ6_stringSize_0f7a4_3 : decode cJ6_stringSize_0f7a4 3 = .ok (.ifCond .lt 8, 3) := by decide +kernel
theorem dJ6_stringSize_0f7a4_6 : decode cJ6_stringSize_0f7a4 6 = .ok (.iconst 0, 1) := by decide +kernel
theorem dJ6_stringSize_0f7a4_7 : decode cJ6_stringSize_0f7a4 7 = .ok (.istore_n 1, 1) := by decide +kernel
theorem dJ6_stringSize_0f7a4_8 : decode cJ6_stringSize_0f7a4 8 = .ok (.iload_n 0, 1) := by decide +kernel
theorem dJ6_stringSize_0f7a4_9 : decode cJ6_stringSize_0f7a4 9 = .ok (.ineg, 1) := by decide +kernel
theorem dJ6_stringSize_0f7a4_10 : decode cJ6_stringSize_0f7a4 10 = .ok (.istore_n 0, 1) := by decide +kernel
theorem dJ6_stringSize_0f7a4_11 : decode cJ6_stringSize_0f7a4 11 = .ok (.bipush (-10), 2) := by decide +kernel
theorem dJ6_stringSize_0f7a4_13 : decode cJ6_stringSize_0f7a4 13 = .ok (.istore_n 2, 1) := by decide +kernel
theorem dJ6_stringSize_0f7a4_14 : decode cJ6_stringSize_0f7a4 14 = .ok (.iconst 1, 1) := by decide +kernel
theorem dJ6_stringSize_0f7a4_15 : decode cJ6_stringSize_0f7a4 15 = .ok (.istore_n 3, 1) := by decide +kernel
theorem dJ6_stringSize_0f7a4_16 : decode cJ6_stringSize_0f7a4 16 = .ok (.iload_n 3, 1) := by decide +kernel
theorem dJ6_stringSize_0f7a4_17 : decode cJ6_stringSize_0f7a4 17 = .ok (.bipush 10, 2) := by decide +kernel
theorem dJ6_stringSize_0f7a4_19 : decode cJ6_stringSize_0f7a4 19 = .ok (.if_icmp .ge 23, 3) := by decide +kernel
theorem dJ6_stringSize_0f7a4_22 : decode cJ6_stringSize_0f7a4 22 = .ok (.iload_n 0, 1) := by decide +kernel
theorem dJ6_stringSize_0f7a4_23 : decode cJ6_stringSize_0f7a4 23 = .ok (.iload_n 2, 1) := by decide +kernel
theorem dJ6_stringSize_0f7a4_24 : decode cJ6_stringSize_0f7a4 24 = .ok (.if_icmp .le 7, 3) := by decide +kernel
theorem dJ6_stringSize_0f7a4_27 : decode cJ6_stringSize_0f7a4 27 = .ok (.iload_n 3, 1) := by decide +kernel
theorem dJ6_stringSize_0f7a4_28 : decode cJ6_stringSize_0f7a4 28 = .ok (.iload_n 1, 1) := by decide +kernel
theorem dJ6_stringSize_0f7a4_29 : decode cJ6_stringSize_0f7a4 29 = .ok (.iadd, 1) := by decide +kernel
theorem dJ6_stringSize_0f7a4_30 : decode cJ6_stringSize_0f7a4 30 = .ok (.ireturn, 1) := by decide +kernel
theorem dJ6_stringSize_0f7a4_31 : decode cJ6_stringSize_0f7a4 31 = .ok (.bipush 10, 2) := by decide +kernel
theorem dJ6_stringSize_0f7a4_33 : decode cJ6_stringSize_0f7a4 33 = .ok (.iload_n 2, 1) := by decide +kernel
theorem dJ6_stringSize_0f7a4_34 : decode cJ6_stringSize_0f7a4 34 = .ok (.imul, 1) := by decide +kernel
theorem dJ6_stringSize_0f7a4_35 : decode cJ6_stringSize_0f7a4 35 = .ok (.istore_n 2, 1) := by decide +kernel
theorem dJ6_stringSize_0f7a4_36 : decode cJ6_stringSize_0f7a4 36 = .ok (.iinc 3 1, 3) := by decide +kernel
theorem dJ6_stringSize_0f7a4_39 : decode cJ6_stringSize_0f7a4 39 = .ok (.goto (-23), 3) := by decide +kernel
theorem dJ6_stringSize_0f7a4_42 : decode cJ6_stringSize_0f7a4 42 = .ok (.bipush 10, 2) := by decide +kernel
theorem dJ6_stringSize_0f7a4_44 : decode cJ6_stringSize_0f7a4 44 = .ok (.iload_n 1, 1) := by decide +kernel
theorem dJ6_stringSize_0f7a4_45 : decode cJ6_stringSize_0f7a4 45 = .ok (.iadd, 1) := by decide +kernel
theorem dJ6_stringSize_0f7a4_46 : decode cJ6_stringSize_0f7a4 46 = .ok (.ireturn, 1) := by decide +kernel
theorem dJ0_length_8abf5_0 : decode cJ0_length_8abf5 0 = .ok (.aload_n 0, 1) := by decide +kernel
theorem dJ0_length_8abf5_1 : decode cJ0_length_8abf5 1 = .ok (.getfield 9, 3) := by decide +kernel
theorem dJ0_length_8abf5_4 : decode cJ0_length_8abf5 4 = .ok (.arraylength, 1) := by decide +kernel
theorem dJ0_length_8abf5_5 : decode cJ0_length_8abf5 5 = .ok (.aload_n 0, 1) := by decide +kernel
theorem dJ0_length_8abf5_6 : decode cJ0_length_8abf5 6 = .ok (.invokevirtual 335, 3) := by decide +kernel
theorem dJ0_length_8abf5_9 : decode cJ0_length_8abf5 9 = .ok (.ishr, 1) := by decide +kernel
theorem dJ0_length_8abf5_10 : decode cJ0_length_8abf5 10 = .ok (.ireturn, 1) := by decide +kernel
theorem dJ0_getBytes_840e7_0 : decode cJ0_getBytes_840e7 0 = .ok (.aload_n 0, 1) := by decide +kernel
theorem dJ0_getBytes_840e7_1 : decode cJ0_getBytes_840e7 1 = .ok (.invokevirtual 335, 3) := by decide +kernel
theorem dJ0_getBytes_840e7_4 : decode cJ0_getBytes_840e7 4 = .ok (.iload_n 3, 1) := by decide +kernel
theorem dJ0_getBytes_840e7_5 : decode cJ0_getBytes_840e7 5 = .ok (.if_icmp .ne 23, 3) := by decide +kernel
theorem dJ0_getBytes_840e7_8 : decode cJ0_getBytes_840e7 8 = .ok (.aload_n 0, 1) := by decide +kernel
theorem dJ0_getBytes_840e7_9 : decode cJ0_getBytes_840e7 9 = .ok (.getfield 9, 3) := by decide +kernel
theorem dJ0_getBytes_840e7_12 : decode cJ0_getBytes_840e7 12 = .ok (.iconst 0, 1) := by decide +kernel
theorem dJ0_getBytes_840e7_13 : decode cJ0_getBytes_840e7 13 = .ok (.aload_n 1, 1) := by decide +kernel
theorem dJ0_getBytes_840e7_14 : decode cJ0_getBytes_840e7 14 = .ok (.iload_n 2, 1) := by decide +kernel
theorem dJ0_getBytes_840e7_15 : decode cJ0_getBytes_840e7 15 = .ok (.iload_n 3, 1) := by decide +kernel
theorem dJ0_getBytes_840e7_16 : decode cJ0_getBytes_840e7 16 = .ok (.ishl, 1) := by decide +kernel
theorem dJ0_getBytes_840e7_17 : decode cJ0_getBytes_840e7 17 = .ok (.aload_n 0, 1) := by decide +kernel
theorem dJ0_getBytes_840e7_18 : decode cJ0_getBytes_840e7 18 = .ok (.getfield 9, 3) := by decide +kernel
theorem dJ0_getBytes_840e7_21 : decode cJ0_getBytes_840e7 21 = .ok (.arraylength, 1) := by decide +kernel
theorem dJ0_getBytes_840e7_22 : decode cJ0_getBytes_840e7 22 = .ok (.invokestatic 212, 3) := by decide +kernel
theorem dJ0_getBytes_840e7_25 : decode cJ0_getBytes_840e7 25 = .ok (.goto 18, 3) := by decide +kernel
theorem dJ0_getBytes_840e7_28 : decode cJ0_getBytes_840e7 28 = .ok (.aload_n 0, 1) := by decide +kernel
theorem dJ0_getBytes_840e7_29 : decode cJ0_getBytes_840e7 29 = .ok (.getfield 9, 3) := by decide +kernel
theorem dJ0_getBytes_840e7_32 : decode cJ0_getBytes_840e7 32 = .ok (.iconst 0, 1) := by decide +kernel
theorem dJ0_getBytes_840e7_33 : decode cJ0_getBytes_840e7 33 = .ok (.aload_n 1, 1) := by decide +kernel
theorem dJ0_getBytes_840e7_34 : decode cJ0_getBytes_840e7 34 = .ok (.iload_n 2, 1) := by decide +kernel
theorem dJ0_getBytes_840e7_35 : decode cJ0_getBytes_840e7 35 = .ok (.aload_n 0, 1) := by decide +kernel
theorem dJ0_getBytes_840e7_36 : decode cJ0_getBytes_840e7 36 = .ok (.getfield 9, 3) := by decide +kernel
theorem dJ0_getBytes_840e7_39 : decode cJ0_getBytes_840e7 39 = .ok (.arraylength, 1) := by decide +kernel
theorem dJ0_getBytes_840e7_43 : decode cJ0_getBytes_840e7 43 = .ok (.return_, 1) := by decide +kernel
theorem dJ0_coder_7d493_0 : decode cJ0_coder_7d493 0 = .ok (.getstatic 38, 3) := by decide +kernel
theorem dJ0_coder_7d493_3 : decode cJ0_coder_7d493 3 = .ok (.ifCond .eq 10, 3) := by decide +kernel
theorem dJ0_coder_7d493_6 : decode cJ0_coder_7d493 6 = .ok (.aload_n 0, 1) := by decide +kernel
theorem dJ0_coder_7d493_7 : decode cJ0_coder_7d493 7 = .ok (.getfield 15, 3) := by decide +kernel
theorem dJ0_coder_7d493_10 : decode cJ0_coder_7d493 10 = .ok (.goto 4, 3) := by decide +kernel
theorem dJ0_coder_7d493_13 : decode cJ0_coder_7d493 13 = .ok (.iconst 1, 1) := by decide +kernel
theorem dJ0_coder_7d493_14 : decode cJ0_coder_7d493 14 = .ok (.ireturn, 1) := by decide +kernel
theorem dJ0_checkIndex_df160_0 : decode cJ0_checkIndex_df160 0 = .ok (.iload_n 0, 1) := by decide +kernel
theorem dJ0_checkIndex_df160_1 : decode cJ0_checkIndex_df160 1 = .ok (.iload_n 1, 1) := by decide +kernel
theorem dJ0_checkIndex_df160_2 : decode cJ0_checkIndex_df160 2 = .ok (.getstatic 1053, 3) := by decide +kernel
theorem dJ0_checkIndex_df160_5 : decode cJ0_checkIndex_df160 5 = .ok (.invokestatic 1059, 3) := by decide +kernel
theorem dJ0_checkIndex_df160_8 : decode cJ0_checkIndex_df160 8 = .ok (.pop, 1) := by decide +kernel
theorem dJ0_checkIndex_df160_9 : decode cJ0_checkIndex_df160 9 = .ok (.return_, 1) := by decide +kernel
theorem dJ4_init_da8c8_0 : decode cJ4_init_da8c8 0 = .ok (.aload_n 0, 1) := by decide +kernel
theorem dJ4_init_da8c8_1 : decode cJ4_init_da8c8 1 = .ok (.bipush 16, 2) := by decide +kernel
theorem dJ4_init_da8c8_3 : decode cJ4_init_da8c8 3 = .ok (.invokespecial 1, 3) := by decide +kernel
theorem dJ4_init_da8c8_6 : decode cJ4_init_da8c8 6 = .ok (.return_, 1) := by decide +kernel
theorem dJ4_append_15ec4_0 : decode cJ4_append_15ec4 0 = .ok (.aload_n 0, 1) := by decide +kernel
theorem dJ4_append_15ec4_1 : decode cJ4_append_15ec4 1 = .ok (.aload_n 1, 1) := by decide +kernel
theorem dJ4_append_15ec4_2 : decode cJ4_append_15ec4 2 = .ok (.invokespecial 29, 3) := by decide +kernel
theorem dJ4_append_15ec4_5 : decode cJ4_append_15ec4 5 = .ok (.pop, 1) := by decide +kernel
theorem dJ4_append_15ec4_6 : decode cJ4_append_15ec4 6 = .ok (.aload_n 0, 1) := by decide +kernel
theorem dJ4_append_15ec4_7 : decode cJ4_append_15ec4 7 = .ok (.areturn, 1) := by decide +kernel
theorem dJ4_append_cf468_0 : decode cJ4_append_cf468 0 = .ok (.aload_n 0, 1) := by decide +kernel
theorem dJ4_append_cf468_1 : decode cJ4_append_cf468 1 = .ok (.iload_n 1, 1) := by decide +kernel
theorem dJ4_append_cf468_2 : decode cJ4_append_cf468 2 = .ok (.invokespecial 50, 3) := by decide +kernel
theorem dJ4_append_cf468_5 : decode cJ4_append_cf468 5 = .ok (.pop, 1) := by decide +kernel
theorem dJ4_append_cf468_6 : decode cJ4_append_cf468 6 = .ok (.aload_n 0, 1) := by decide +kernel
theorem dJ4_append_cf468_7 : decode cJ4_append_cf468 7 = .ok (.areturn, 1) := by decide +kernel
theorem dJ4_append_bf812_0 : decode cJ4_append_bf812 0 = .ok (.aload_n 0, 1) := by decide +kernel
theorem dJ4_append_bf812_1 : decode cJ4_append_bf812 1 = .ok (.iload_n 1, 1) := by decide +kernel
theorem dJ4_append_bf812_2 : decode cJ4_append_bf812 2 = .ok (.invokespecial 53, 3) := by decide +kernel
theorem dJ4_append_bf812_5 : decode cJ4_append_bf812 5 = .ok (.pop, 1) := by decide +kernel
theorem dJ4_append_bf812_6 : decode cJ4_append_bf812 6 = .ok (.aload_n 0, 1) := by decide +kernel
theorem dJ4_append_bf812_7 : decode cJ4_append_bf812 7 = .ok (.areturn, 1) := by decide +kernel
theorem dJ4_charAt_5068e_0 : decode cJ4_charAt_5068e 0 = .ok (.aload_n 0, 1) := by decide +kernel
theorem dJ4_charAt_5068e_1 : decode cJ4_charAt_5068e 1 = .ok (.iload_n 1, 1) := by decide +kernel
theorem dJ4_charAt_5068e_2 : decode cJ4_charAt_5068e 2 = .ok (.invokespecial 329, 3) := by decide +kernel
theorem dJ4_charAt_5068e_5 : decode cJ4_charAt_5068e 5 = .ok (.ireturn, 1) := by decide +kernel
theorem dJ4_setLength_d00df_0 : decode cJ4_setLength_d00df 0 = .ok (.aload_n 0, 1) := by decide +kernel
theorem dJ4_setLength_d00df_1 : decode cJ4_setLength_d00df 1 = .ok (.iload_n 1, 1) := by decide +kernel
theorem dJ4_setLength_d00df_2 : decode cJ4_setLength_d00df 2 = .ok (.invokespecial 333, 3) := by decide +kernel
theorem dJ4_setLength_d00df_5 : decode cJ4_setLength_d00df 5 = .ok (.return_, 1) := by decide +kernel
theorem dJ4_length_8abf5_0 : decode cJ4_length_8abf5 0 = .ok (.aload_n 0, 1) := by decide +kernel
theorem dJ4_length_8abf5_1 : decode cJ4_length_8abf5 1 = .ok (.invokespecial 343, 3) := by decide +kernel
theorem dJ4_length_8abf5_4 : decode cJ4_length_8abf5 4 = .ok (.ireturn, 1) := by decide +kernel
theorem dJ1_canEncode_fc78d_0 : decode cJ1_canEncode_fc78d 0 = .ok (.iload_n 0, 1) := by decide +kernel
theorem dJ1_canEncode_fc78d_1 : decode cJ1_canEncode_fc78d 1 = .ok (.sipush 255, 3) := by decide +kernel
theorem dJ1_canEncode_fc78d_4 : decode cJ1_canEncode_fc78d 4 = .ok (.if_icmp .gt 7, 3) := by decide +kernel
theorem dJ1_canEncode_fc78d_7 : decode cJ1_canEncode_fc78d 7 = .ok (.iconst 1, 1) := by decide +kernel
theorem dJ1_canEncode_fc78d_8 : decode cJ1_canEncode_fc78d 8 = .ok (.goto 4, 3) := by decide +kernel
theorem dJ1_canEncode_fc78d_11 : decode cJ1_canEncode_fc78d 11 = .ok (.iconst 0, 1) := by decide +kernel
theorem dJ1_canEncode_fc78d_12 : decode cJ1_canEncode_fc78d 12 = .ok (.ireturn, 1) := by decide +kernel
theorem dJxa1e45_init_da8c8_0 : decode cJxa1e45_init_da8c8 0 = .ok (.aload_n 0, 1) := by decide +kernel
theorem dJxa1e45_init_da8c8_1 : decode cJxa1e45_init_da8c8 1 = .ok (.invokespecial 1, 3) := by decide +kernel
theorem dJxa1e45_init_da8c8_4 : decode cJxa1e45_init_da8c8 4 = .ok (.return_, 1) := by decide +kernel
theorem dJxc12de_init_da8c8_0 : decode cJxc12de_init_da8c8 0 = .ok (.aload_n 0, 1) := by decide +kernel
theorem dJxc12de_init_da8c8_1 : decode cJxc12de_init_da8c8 1 = .ok (.invokespecial 1, 3) := by decide +kernel
theorem dJxc12de_init_da8c8_4 : decode cJxc12de_init_da8c8 4 = .ok (.aload_n 0, 1) := by decide +kernel
theorem dJxc12de_init_da8c8_5 : decode cJxc12de_init_da8c8 5 = .ok (.iconst 0, 1) := by decide +kernel
theorem dJxc12de_init_da8c8_6 : decode cJxc12de_init_da8c8 6 = .ok (.putfield 7, 3) := by decide +kernel
theorem dJxc12de_init_da8c8_9 : decode cJxc12de_init_da8c8 9 = .ok (.return_, 1) := by decide +kernel
theorem dJx4a65c_init_da8c8_0 : decode cJx4a65c_init_da8c8 0 = .ok (.aload_n 0, 1) := by decide +kernel
theorem dJx4a65c_init_da8c8_1 : decode cJx4a65c_init_da8c8 1 = .ok (.invokespecial 1, 3) := by decide +kernel
theorem dJx4a65c_init_da8c8_4 : decode cJx4a65c_init_da8c8 4 = .ok (.aload_n 0, 1) := by decide +kernel
theorem dJx4a65c_init_da8c8_5 : decode cJx4a65c_init_da8c8 5 = .ok (.getstatic 39, 3) := by decide +kernel
theorem dJx4a65c_init_da8c8_8 : decode cJx4a65c_init_da8c8 8 = .ok (.putfield 9, 3) := by decide +kernel
theorem dJx4a65c_init_da8c8_11 : decode cJx4a65c_init_da8c8 11 = .ok (.return_, 1) := by decide +kernel
theorem dJx4a65c_grow_92f84_0 : decode cJx4a65c_grow_92f84 0 = .ok (.aload_n 0, 1) := by decide +kernel
theorem dJx4a65c_grow_92f84_1 : decode cJx4a65c_grow_92f84 1 = .ok (.getfield 9, 3) := by decide +kernel
theorem dJx4a65c_grow_92f84_4 : decode cJx4a65c_grow_92f84 4 = .ok (.arraylength, 1) := by decide +kernel
theorem dJx4a65c_grow_92f84_5 : decode cJx4a65c_grow_92f84 5 = .ok (.istore_n 2, 1) := by decide +kernel
theorem dJx4a65c_grow_92f84_6 : decode cJx4a65c_grow_92f84 6 = .ok (.iload_n 2, 1) := by decide +kernel
theorem dJx4a65c_grow_92f84_7 : decode cJx4a65c_grow_92f84 7 = .ok (.ifCond .gt 13, 3) := by decide +kernel
theorem dJx4a65c_grow_92f84_10 : decode cJx4a65c_grow_92f84 10 = .ok (.aload_n 0, 1) := by decide +kernel
theorem dJx4a65c_grow_92f84_11 : decode cJx4a65c_grow_92f84 11 = .ok (.getfield 9, 3) := by decide +kernel
theorem dJx4a65c_grow_92f84_14 : decode cJx4a65c_grow_92f84 14 = .ok (.getstatic 39, 3) := by decide +kernel
theorem dJx4a65c_grow_92f84_17 : decode cJx4a65c_grow_92f84 17 = .ok (.if_acmp .eq 28, 3) := by decide +kernel
theorem dJx4a65c_grow_92f84_20 : decode cJx4a65c_grow_92f84 20 = .ok (.iload_n 2, 1) := by decide +kernel
theorem dJx4a65c_grow_92f84_21 : decode cJx4a65c_grow_92f84 21 = .ok (.iload_n 1, 1) := by decide +kernel
theorem dJx4a65c_grow_92f84_22 : decode cJx4a65c_grow_92f84 22 = .ok (.iload_n 2, 1) := by decide +kernel
theorem dJx4a65c_grow_92f84_23 : decode cJx4a65c_grow_92f84 23 = .ok (.isub, 1) := by decide +kernel
theorem dJx4a65c_grow_92f84_24 : decode cJx4a65c_grow_92f84 24 = .ok (.iload_n 2, 1) := by decide +kernel
theorem dJx4a65c_grow_92f84_25 : decode cJx4a65c_grow_92f84 25 = .ok (.iconst 1, 1) := by decide +kernel
theorem dJx4a65c_grow_92f84_26 : decode cJx4a65c_grow_92f84 26 = .ok (.ishr, 1) := by decide +kernel
theorem dJx4a65c_grow_92f84_27 : decode cJx4a65c_grow_92f84 27 = .ok (.invokestatic 73, 3) := by decide +kernel
theorem dJx4a65c_grow_92f84_30 : decode cJx4a65c_grow_92f84 30 = .ok (.istore_n 3, 1) := by decide +kernel
theorem dJx4a65c_grow_92f84_31 : decode cJx4a65c_grow_92f84 31 = .ok (.aload_n 0, 1) := by decide +kernel
theorem dJx4a65c_grow_92f84_32 : decode cJx4a65c_grow_92f84 32 = .ok (.aload_n 0, 1) := by decide +kernel
theorem dJx4a65c_grow_92f84_33 : decode cJx4a65c_grow_92f84 33 = .ok (.getfield 9, 3) := by decide +kernel
theorem dJx4a65c_grow_92f84_36 : decode cJx4a65c_grow_92f84 36 = .ok (.iload_n 3, 1) := by decide +kernel
theorem dJx4a65c_grow_92f84_37 : decode cJx4a65c_grow_92f84 37 = .ok (.invokestatic 66, 3) := by decide +kernel
theorem dJx4a65c_grow_92f84_40 : decode cJx4a65c_grow_92f84 40 = .ok (.dup_x1, 1) := by decide +kernel
theorem dJx4a65c_grow_92f84_41 : decode cJx4a65c_grow_92f84 41 = .ok (.putfield 9, 3) := by decide +kernel
theorem dJx4a65c_grow_92f84_44 : decode cJx4a65c_grow_92f84 44 = .ok (.areturn, 1) := by decide +kernel
theorem dJx4a65c_grow_92f84_45 : decode cJx4a65c_grow_92f84 45 = .ok (.aload_n 0, 1) := by decide +kernel
theorem dJx4a65c_grow_92f84_46 : decode cJx4a65c_grow_92f84 46 = .ok (.bipush 10, 2) := by decide +kernel
theorem dJx4a65c_grow_92f84_48 : decode cJx4a65c_grow_92f84 48 = .ok (.iload_n 1, 1) := by decide +kernel
theorem dJx4a65c_grow_92f84_49 : decode cJx4a65c_grow_92f84 49 = .ok (.invokestatic 79, 3) := by decide +kernel
theorem dJx4a65c_grow_92f84_52 : decode cJx4a65c_grow_92f84 52 = .ok (.anewarray 7, 3) := by decide +kernel
theorem dJx4a65c_grow_92f84_55 : decode cJx4a65c_grow_92f84 55 = .ok (.dup_x1, 1) := by decide +kernel
theorem dJx4a65c_grow_92f84_56 : decode cJx4a65c_grow_92f84 56 = .ok (.putfield 9, 3) := by decide +kernel
theorem dJx4a65c_grow_92f84_59 : decode cJx4a65c_grow_92f84 59 = .ok (.areturn, 1) := by decide +kernel
theorem dJx4a65c_grow_d5877_0 : decode cJx4a65c_grow_d5877 0 = .ok (.aload_n 0, 1) := by decide +kernel
theorem dJx4a65c_grow_d5877_1 : decode cJx4a65c_grow_d5877 1 = .ok (.aload_n 0, 1) := by decide +kernel
theorem dJx4a65c_grow_d5877_2 : decode cJx4a65c_grow_d5877 2 = .ok (.getfield 48, 3) := by decide +kernel
theorem dJx4a65c_grow_d5877_5 : decode cJx4a65c_grow_d5877 5 = .ok (.iconst 1, 1) := by decide +kernel
theorem dJx4a65c_grow_d5877_6 : decode cJx4a65c_grow_d5877 6 = .ok (.iadd, 1) := by decide +kernel
theorem dJx4a65c_grow_d5877_7 : decode cJx4a65c_grow_d5877 7 = .ok (.invokevirtual 69, 3) := by decide +kernel
theorem dJx4a65c_grow_d5877_10 : decode cJx4a65c_grow_d5877 10 = .ok (.areturn, 1) := by decide +kernel
theorem dJx4a65c_size_8abf5_0 : decode cJx4a65c_size_8abf5 0 = .ok (.aload_n 0, 1) := by decide +kernel
theorem dJx4a65c_size_8abf5_1 : decode cJx4a65c_size_8abf5 1 = .ok (.getfield 48, 3) := by decide +kernel
theorem dJx4a65c_size_8abf5_4 : decode cJx4a65c_size_8abf5 4 = .ok (.ireturn, 1) := by decide +kernel
theorem dJx4a65c_isEmpty_aae02_0 : decode cJx4a65c_isEmpty_aae02 0 = .ok (.aload_n 0, 1) := by decide +kernel
theorem dJx4a65c_isEmpty_aae02_1 : decode cJx4a65c_isEmpty_aae02 1 = .ok (.getfield 48, 3) := by decide +kernel
theorem dJx4a65c_isEmpty_aae02_4 : decode cJx4a65c_isEmpty_aae02 4 = .ok (.ifCond .ne 7, 3) := by decide +kernel
theorem dJx4a65c_isEmpty_aae02_7 : decode cJx4a65c_isEmpty_aae02 7 = .ok (.iconst 1, 1) := by decide +kernel
theorem dJx4a65c_isEmpty_aae02_8 : decode cJx4a65c_isEmpty_aae02 8 = .ok (.goto 4, 3) := by decide +kernel
theorem dJx4a65c_isEmpty_aae02_11 : decode cJx4a65c_isEmpty_aae02 11 = .ok (.iconst 0, 1) := by decide +kernel
theorem dJx4a65c_isEmpty_aae02_12 : decode cJx4a65c_isEmpty_aae02 12 = .ok (.ireturn, 1) := by decide +kernel
theorem dJx4a65c_elementData_915e3_0 : decode cJx4a65c_elementData_915e3 0 = .ok (.aload_n 0, 1) := by decide +kernel
theorem dJx4a65c_elementData_915e3_1 : decode cJx4a65c_elementData_915e3 1 = .ok (.getfield 9, 3) := by decide +kernel
theorem dJx4a65c_elementData_915e3_4 : decode cJx4a65c_elementData_915e3 4 = .ok (.iload_n 1, 1) := by decide +kernel
theorem dJx4a65c_elementData_915e3_5 : decode cJx4a65c_elementData_915e3 5 = .ok (.aaload, 1) := by decide +kernel
theorem dJx4a65c_elementData_915e3_6 : decode cJx4a65c_elementData_915e3 6 = .ok (.areturn, 1) := by decide +kernel
theorem dJx4a65c_get_915e3_0 : decode cJx4a65c_get_915e3 0 = .ok (.iload_n 1, 1) := by decide +kernel
theorem dJx4a65c_get_915e3_1 : decode cJx4a65c_get_915e3 1 = .ok (.aload_n 0, 1) := by decide +kernel
theorem dJx4a65c_get_915e3_2 : decode cJx4a65c_get_915e3 2 = .ok (.getfield 48, 3) := by decide +kernel
theorem dJx4a65c_get_915e3_5 : decode cJx4a65c_get_915e3 5 = .ok (.invokestatic 118, 3) := by decide +kernel
theorem dJx4a65c_get_915e3_8 : decode cJx4a65c_get_915e3 8 = .ok (.pop, 1) := by decide +kernel
theorem dJx4a65c_get_915e3_9 : decode cJx4a65c_get_915e3 9 = .ok (.aload_n 0, 1) := by decide +kernel
theorem dJx4a65c_get_915e3_10 : decode cJx4a65c_get_915e3 10 = .ok (.iload_n 1, 1) := by decide +kernel
theorem dJx4a65c_get_915e3_11 : decode cJx4a65c_get_915e3 11 = .ok (.invokevirtual 123, 3) := by decide +kernel
theorem dJx4a65c_get_915e3_14 : decode cJx4a65c_get_915e3 14 = .ok (.areturn, 1) := by decide +kernel
theorem dJx4a65c_add_72be8_0 : decode cJx4a65c_add_72be8 0 = .ok (.iload_n 3, 1) := by decide +kernel
theorem dJx4a65c_add_72be8_1 : decode cJx4a65c_add_72be8 1 = .ok (.aload_n 2, 1) := by decide +kernel
theorem dJx4a65c_add_72be8_2 : decode cJx4a65c_add_72be8 2 = .ok (.arraylength, 1) := by decide +kernel
theorem dJx4a65c_add_72be8_3 : decode cJx4a65c_add_72be8 3 = .ok (.if_icmp .ne 8, 3) := by decide +kernel
theorem dJx4a65c_add_72be8_6 : decode cJx4a65c_add_72be8 6 = .ok (.aload_n 0, 1) := by decide +kernel
theorem dJx4a65c_add_72be8_7 : decode cJx4a65c_add_72be8 7 = .ok (.invokevirtual 129, 3) := by decide +kernel
theorem dJx4a65c_add_72be8_10 : decode cJx4a65c_add_72be8 10 = .ok (.astore_n 2, 1) := by decide +kernel
theorem dJx4a65c_add_72be8_11 : decode cJx4a65c_add_72be8 11 = .ok (.aload_n 2, 1) := by decide +kernel
theorem dJx4a65c_add_72be8_12 : decode cJx4a65c_add_72be8 12 = .ok (.iload_n 3, 1) := by decide +kernel
theorem dJx4a65c_add_72be8_13 : decode cJx4a65c_add_72be8 13 = .ok (.aload_n 1, 1) := by decide +kernel
theorem dJx4a65c_add_72be8_14 : decode cJx4a65c_add_72be8 14 = .ok (.aastore, 1) := by decide +kernel
theorem dJx4a65c_add_72be8_15 : decode cJx4a65c_add_72be8 15 = .ok (.aload_n 0, 1) := by decide +kernel
theorem dJx4a65c_add_72be8_16 : decode cJx4a65c_add_72be8 16 = .ok (.iload_n 3, 1) := by decide +kernel
theorem dJx4a65c_add_72be8_17 : decode cJx4a65c_add_72be8 17 = .ok (.iconst 1, 1) := by decide +kernel
theorem dJx4a65c_add_72be8_18 : decode cJx4a65c_add_72be8 18 = .ok (.iadd, 1) := by decide +kernel
theorem dJx4a65c_add_72be8_19 : decode cJx4a65c_add_72be8 19 = .ok (.putfield 48, 3) := by decide +kernel
theorem dJx4a65c_add_72be8_22 : decode cJx4a65c_add_72be8 22 = .ok (.return_, 1) := by decide +kernel
theorem dJx4a65c_add_9ea2d_0 : decode cJx4a65c_add_9ea2d 0 = .ok (.aload_n 0, 1) := by decide +kernel
theorem dJx4a65c_add_9ea2d_1 : decode cJx4a65c_add_9ea2d 1 = .ok (.dup, 1) := by decide +kernel
theorem dJx4a65c_add_9ea2d_2 : decode cJx4a65c_add_9ea2d 2 = .ok (.getfield 63, 3) := by decide +kernel
theorem dJx4a65c_add_9ea2d_5 : decode cJx4a65c_add_9ea2d 5 = .ok (.iconst 1, 1) := by decide +kernel
theorem dJx4a65c_add_9ea2d_6 : decode cJx4a65c_add_9ea2d 6 = .ok (.iadd, 1) := by decide +kernel
theorem dJx4a65c_add_9ea2d_7 : decode cJx4a65c_add_9ea2d 7 = .ok (.putfield 63, 3) := by decide +kernel
theorem dJx4a65c_add_9ea2d_10 : decode cJx4a65c_add_9ea2d 10 = .ok (.aload_n 0, 1) := by decide +kernel
theorem dJx4a65c_add_9ea2d_11 : decode cJx4a65c_add_9ea2d 11 = .ok (.aload_n 1, 1) := by decide +kernel
theorem dJx4a65c_add_9ea2d_12 : decode cJx4a65c_add_9ea2d 12 = .ok (.aload_n 0, 1) := by decide +kernel
theorem dJx4a65c_add_9ea2d_13 : decode cJx4a65c_add_9ea2d 13 = .ok (.getfield 9, 3) := by decide +kernel
theorem dJx4a65c_add_9ea2d_16 : decode cJx4a65c_add_9ea2d 16 = .ok (.aload_n 0, 1) := by decide +kernel
theorem dJx4a65c_add_9ea2d_17 : decode cJx4a65c_add_9ea2d 17 = .ok (.getfield 48, 3) := by decide +kernel
theorem dJx4a65c_add_9ea2d_20 : decode cJx4a65c_add_9ea2d 20 = .ok (.invokevirtual 131, 3) := by decide +kernel
theorem dJx4a65c_add_9ea2d_23 : decode cJx4a65c_add_9ea2d 23 = .ok (.iconst 1, 1) := by decide +kernel
theorem dJx4a65c_add_9ea2d_24 : decode cJx4a65c_add_9ea2d 24 = .ok (.ireturn, 1) := by decide +kernel
theorem dJ7_copyOf_1904c_0 : decode cJ7_copyOf_1904c 0 = .ok (.aload_n 0, 1) := by decide +kernel
theorem dJ7_copyOf_1904c_1 : decode cJ7_copyOf_1904c 1 = .ok (.iload_n 1, 1) := by decide +kernel
theorem dJ7_copyOf_1904c_2 : decode cJ7_copyOf_1904c 2 = .ok (.aload_n 0, 1) := by decide +kernel
theorem dJ7_copyOf_1904c_3 : decode cJ7_copyOf_1904c 3 = .ok (.invokevirtual 86, 3) := by decide +kernel
theorem dJ7_copyOf_1904c_6 : decode cJ7_copyOf_1904c 6 = .ok (.invokestatic 300, 3) := by decide +kernel
theorem dJ7_copyOf_1904c_9 : decode cJ7_copyOf_1904c 9 = .ok (.areturn, 1) := by decide +kernel
theorem dJ7_copyOf_6403c_0 : decode cJ7_copyOf_6403c 0 = .ok (.aload_n 2, 1) := by decide +kernel
theorem dJ7_copyOf_6403c_1 : decode cJ7_copyOf_6403c 1 = .ok (.ldc 110, 2) := by decide +kernel
theorem dJ7_copyOf_6403c_3 : decode cJ7_copyOf_6403c 3 = .ok (.if_acmp .ne 10, 3) := by decide +kernel
theorem dJ7_copyOf_6403c_6 : decode cJ7_copyOf_6403c 6 = .ok (.iload_n 1, 1) := by decide +kernel
theorem dJ7_copyOf_6403c_7 : decode cJ7_copyOf_6403c 7 = .ok (.anewarray 2, 3) := by decide +kernel
theorem dJ7_copyOf_6403c_10 : decode cJ7_copyOf_6403c 10 = .ok (.goto 14, 3) := by decide +kernel
theorem dJ7_copyOf_6403c_13 : decode cJ7_copyOf_6403c 13 = .ok (.aload_n 2, 1) := by decide +kernel
theorem dJ7_copyOf_6403c_24 : decode cJ7_copyOf_6403c 24 = .ok (.astore_n 3, 1) := by decide +kernel
theorem dJ7_copyOf_6403c_25 : decode cJ7_copyOf_6403c 25 = .ok (.aload_n 0, 1) := by decide +kernel
theorem dJ7_copyOf_6403c_26 : decode cJ7_copyOf_6403c 26 = .ok (.iconst 0, 1) := by decide +kernel
theorem dJ7_copyOf_6403c_27 : decode cJ7_copyOf_6403c 27 = .ok (.aload_n 3, 1) := by decide +kernel
theorem dJ7_copyOf_6403c_28 : decode cJ7_copyOf_6403c 28 = .ok (.iconst 0, 1) := by decide +kernel
theorem dJ7_copyOf_6403c_29 : decode cJ7_copyOf_6403c 29 = .ok (.aload_n 0, 1) := by decide +kernel
theorem dJ7_copyOf_6403c_30 : decode cJ7_copyOf_6403c 30 = .ok (.arraylength, 1) := by decide +kernel
theorem dJ7_copyOf_6403c_31 : decode cJ7_copyOf_6403c 31 = .ok (.iload_n 1, 1) := by decide +kernel
theorem dJ7_copyOf_6403c_32 : decode cJ7_copyOf_6403c 32 = .ok (.invokestatic 304, 3) := by decide +kernel
theorem dJ7_copyOf_6403c_35 : decode cJ7_copyOf_6403c 35 = .ok (.invokestatic 150, 3) := by decide +kernel
theorem dJ7_copyOf_6403c_38 : decode cJ7_copyOf_6403c 38 = .ok (.aload_n 3, 1) := by decide +kernel
theorem dJ7_copyOf_6403c_39 : decode cJ7_copyOf_6403c 39 = .ok (.areturn, 1) := by decide +kernel
theorem dJ7_copyOf_9075b_0 : decode cJ7_copyOf_9075b 0 = .ok (.iload_n 1, 1) := by decide +kernel
theorem dJ7_copyOf_9075b_1 : decode cJ7_copyOf_9075b 1 = .ok (.aload_n 0, 1) := by decide +kernel
theorem dJ7_copyOf_9075b_2 : decode cJ7_copyOf_9075b 2 = .ok (.arraylength, 1) := by decide +kernel
theorem dJ7_copyOf_9075b_3 : decode cJ7_copyOf_9075b 3 = .ok (.if_icmp .ne 11, 3) := by decide +kernel
theorem dJ7_copyOf_9075b_6 : decode cJ7_copyOf_9075b 6 = .ok (.aload_n 0, 1) := by decide +kernel
theorem dJ7_copyOf_9075b_14 : decode cJ7_copyOf_9075b 14 = .ok (.iload_n 1, 1) := by decide +kernel
theorem dJ7_copyOf_9075b_15 : decode cJ7_copyOf_9075b 15 = .ok (.newarray .byte, 2) := by decide +kernel
theorem dJ7_copyOf_9075b_17 : decode cJ7_copyOf_9075b 17 = .ok (.astore_n 2, 1) := by decide +kernel
theorem dJ7_copyOf_9075b_18 : decode cJ7_copyOf_9075b 18 = .ok (.aload_n 0, 1) := by decide +kernel
theorem dJ7_copyOf_9075b_19 : decode cJ7_copyOf_9075b 19 = .ok (.iconst 0, 1) := by decide +kernel
theorem dJ7_copyOf_9075b_20 : decode cJ7_copyOf_9075b 20 = .ok (.aload_n 2, 1) := by decide +kernel
theorem dJ7_copyOf_9075b_21 : decode cJ7_copyOf_9075b 21 = .ok (.iconst 0, 1) := by decide +kernel
theorem dJ7_copyOf_9075b_22 : decode cJ7_copyOf_9075b 22 = .ok (.aload_n 0, 1) := by decide +kernel
theorem dJ7_copyOf_9075b_23 : decode cJ7_copyOf_9075b 23 = .ok (.arraylength, 1) := by decide +kernel
theorem dJ7_copyOf_9075b_24 : decode cJ7_copyOf_9075b 24 = .ok (.iload_n 1, 1) := by decide +kernel
theorem dJ7_copyOf_9075b_25 : decode cJ7_copyOf_9075b 25 = .ok (.invokestatic 304, 3) := by decide +kernel
theorem dJ7_copyOf_9075b_28 : decode cJ7_copyOf_9075b 28 = .ok (.invokestatic 150, 3) := by decide +kernel
theorem dJ7_copyOf_9075b_31 : decode cJ7_copyOf_9075b 31 = .ok (.aload_n 2, 1) := by decide +kernel
theorem dJ7_copyOf_9075b_32 : decode cJ7_copyOf_9075b 32 = .ok (.areturn, 1) := by decide +kernel
theorem dJ15_checkIndex_7cf53_0 : decode cJ15_checkIndex_7cf53 0 = .ok (.iload_n 0, 1) := by decide +kernel
theorem dJ15_checkIndex_7cf53_1 : decode cJ15_checkIndex_7cf53 1 = .ok (.iload_n 1, 1) := by decide +kernel
theorem dJ15_checkIndex_7cf53_2 : decode cJ15_checkIndex_7cf53 2 = .ok (.aconst_null, 1) := by decide +kernel
theorem dJ15_checkIndex_7cf53_3 : decode cJ15_checkIndex_7cf53 3 = .ok (.invokestatic 105, 3) := by decide +kernel
theorem dJ15_checkIndex_7cf53_6 : decode cJ15_checkIndex_7cf53 6 = .ok (.ireturn, 1) := by decide +kernel
theorem dJ8_newLength_cabcc_0 : decode cJ8_newLength_cabcc 0 = .ok (.iload_n 0, 1) := by decide +kernel
theorem dJ8_newLength_cabcc_1 : decode cJ8_newLength_cabcc 1 = .ok (.iload_n 1, 1) := by decide +kernel
theorem dJ8_newLength_cabcc_2 : decode cJ8_newLength_cabcc 2 = .ok (.iload_n 2, 1) := by decide +kernel
theorem dJ8_newLength_cabcc_3 : decode cJ8_newLength_cabcc 3 = .ok (.invokestatic 194, 3) := by decide +kernel
theorem dJ8_newLength_cabcc_6 : decode cJ8_newLength_cabcc 6 = .ok (.iadd, 1) := by decide +kernel
theorem dJ8_newLength_cabcc_7 : decode cJ8_newLength_cabcc 7 = .ok (.istore_n 3, 1) := by decide +kernel
theorem dJ8_newLength_cabcc_8 : decode cJ8_newLength_cabcc 8 = .ok (.iconst 0, 1) := by decide +kernel
theorem dJ8_newLength_cabcc_9 : decode cJ8_newLength_cabcc 9 = .ok (.iload_n 3, 1) := by decide +kernel
theorem dJ8_newLength_cabcc_10 : decode cJ8_newLength_cabcc 10 = .ok (.if_icmp .ge 11, 3) := by decide +kernel
theorem dJ8_newLength_cabcc_13 : decode cJ8_newLength_cabcc 13 = .ok (.iload_n 3, 1) := by decide +kernel
theorem dJ8_newLength_cabcc_14 : decode cJ8_newLength_cabcc 14 = .ok (.ldc 200, 2) := by decide +kernel
theorem dJ8_newLength_cabcc_16 : decode cJ8_newLength_cabcc 16 = .ok (.if_icmp .gt 5, 3) := by decide +kernel
theorem dJ8_newLength_cabcc_19 : decode cJ8_newLength_cabcc 19 = .ok (.iload_n 3, 1) := by decide +kernel
theorem dJ8_newLength_cabcc_20 : decode cJ8_newLength_cabcc 20 = .ok (.ireturn, 1) := by decide +kernel
theorem dJ8_newLength_cabcc_21 : decode cJ8_newLength_cabcc 21 = .ok (.iload_n 0, 1) := by decide +kernel
theorem dJ8_newLength_cabcc_22 : decode cJ8_newLength_cabcc 22 = .ok (.iload_n 1, 1) := by decide +kernel
theorem dJ3_checkIndex_8e157_0 : decode cJ3_checkIndex_8e157 0 = .ok (.iload_n 0, 1) := by decide +kernel
theorem dJ3_checkIndex_8e157_1 : decode cJ3_checkIndex_8e157 1 = .ok (.ifCond .lt 8, 3) := by decide +kernel
theorem dJ3_checkIndex_8e157_4 : decode cJ3_checkIndex_8e157 4 = .ok (.iload_n 0, 1) := by decide +kernel
theorem dJ3_checkIndex_8e157_5 : decode cJ3_checkIndex_8e157 5 = .ok (.iload_n 1, 1) := by decide +kernel
theorem dJ3_checkIndex_8e157_6 : decode cJ3_checkIndex_8e157 6 = .ok (.if_icmp .lt 10, 3) := by decide +kernel
theorem dJ3_checkIndex_8e157_9 : decode cJ3_checkIndex_8e157 9 = .ok (.aload_n 2, 1) := by decide +kernel
theorem dJ3_checkIndex_8e157_10 : decode cJ3_checkIndex_8e157 10 = .ok (.iload_n 0, 1) := by decide +kernel
theorem dJ3_checkIndex_8e157_11 : decode cJ3_checkIndex_8e157 11 = .ok (.iload_n 1, 1) := by decide +kernel
theorem dJ3_checkIndex_8e157_16 : decode cJ3_checkIndex_8e157 16 = .ok (.iload_n 0, 1) := by decide +kernel
theorem dJ3_checkIndex_8e157_17 : decode cJ3_checkIndex_8e157 17 = .ok (.ireturn, 1) := by decide +kernel
