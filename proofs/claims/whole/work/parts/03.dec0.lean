theorem dX0_init_0 : decode cX0_init 0 = .ok (.aload_n 0, 1) := by decide +kernel
theorem dX0_init_1 : decode cX0_init 1 = .ok (.invokespecial 3, 3) := by decide +kernel
theorem dX0_init_4 : decode cX0_init 4 = .ok (.aload_n 0, 1) := by decide +kernel
theorem dX0_init_5 : decode cX0_init 5 = .ok (.iconst 0, 1) := by decide +kernel
theorem dX0_init_6 : decode cX0_init 6 = .ok (.putfield 9, 3) := by decide +kernel
theorem dX0_init_9 : decode cX0_init 9 = .ok (.aload_n 0, 1) := by decide +kernel
theorem dX0_init_10 : decode cX0_init 10 = .ok (.bipush 8, 2) := by decide +kernel
theorem dX0_init_12 : decode cX0_init 12 = .ok (.newarray .int, 2) := by decide +kernel
theorem dX0_init_14 : decode cX0_init 14 = .ok (.putfield 15, 3) := by decide +kernel
theorem dX0_init_17 : decode cX0_init 17 = .ok (.aload_n 0, 1) := by decide +kernel
theorem dX0_init_18 : decode cX0_init 18 = .ok (.bipush 8, 2) := by decide +kernel
theorem dX0_init_20 : decode cX0_init 20 = .ok (.newarray .int, 2) := by decide +kernel
theorem dX0_init_22 : decode cX0_init 22 = .ok (.putfield 19, 3) := by decide +kernel
theorem dX0_init_25 : decode cX0_init 25 = .ok (.aload_n 0, 1) := by decide +kernel
theorem dX0_init_26 : decode cX0_init 26 = .ok (.bipush 8, 2) := by decide +kernel
theorem dX0_init_28 : decode cX0_init 28 = .ok (.newarray .int, 2) := by decide +kernel
theorem dX0_init_30 : decode cX0_init 30 = .ok (.putfield 22, 3) := by decide +kernel
theorem dX0_init_33 : decode cX0_init 33 = .ok (.aload_n 0, 1) := by decide +kernel
theorem dX0_init_34 : decode cX0_init 34 = .ok (.getfield 15, 3) := by decide +kernel
theorem dX0_init_37 : decode cX0_init 37 = .ok (.iconst (-1), 1) := by decide +kernel
theorem dX0_init_38 : decode cX0_init 38 = .ok (.invokestatic 25, 3) := by decide +kernel
theorem dX0_init_41 : decode cX0_init 41 = .ok (.return_, 1) := by decide +kernel
theorem dX0_copyFrom_0 : decode cX0_copyFrom 0 = .ok (.aload_n 0, 1) := by decide +kernel
theorem dX0_copyFrom_1 : decode cX0_copyFrom 1 = .ok (.aload_n 1, 1) := by decide +kernel
theorem dX0_copyFrom_2 : decode cX0_copyFrom 2 = .ok (.getfield 9, 3) := by decide +kernel
theorem dX0_copyFrom_5 : decode cX0_copyFrom 5 = .ok (.putfield 9, 3) := by decide +kernel
theorem dX0_copyFrom_8 : decode cX0_copyFrom 8 = .ok (.aload_n 1, 1) := by decide +kernel
theorem dX0_copyFrom_9 : decode cX0_copyFrom 9 = .ok (.getfield 15, 3) := by decide +kernel
theorem dX0_copyFrom_12 : decode cX0_copyFrom 12 = .ok (.iconst 0, 1) := by decide +kernel
theorem dX0_copyFrom_13 : decode cX0_copyFrom 13 = .ok (.aload_n 0, 1) := by decide +kernel
theorem dX0_copyFrom_14 : decode cX0_copyFrom 14 = .ok (.getfield 15, 3) := by decide +kernel
theorem dX0_copyFrom_17 : decode cX0_copyFrom 17 = .ok (.iconst 0, 1) := by decide +kernel
theorem dX0_copyFrom_18 : decode cX0_copyFrom 18 = .ok (.bipush 8, 2) := by decide +kernel
theorem dX0_copyFrom_20 : decode cX0_copyFrom 20 = .ok (.invokestatic 31, 3) := by decide +kernel
theorem dX0_copyFrom_23 : decode cX0_copyFrom 23 = .ok (.aload_n 1, 1) := by decide +kernel
theorem dX0_copyFrom_24 : decode cX0_copyFrom 24 = .ok (.getfield 19, 3) := by decide +kernel
theorem dX0_copyFrom_27 : decode cX0_copyFrom 27 = .ok (.iconst 0, 1) := by decide +kernel
theorem dX0_copyFrom_28 : decode cX0_copyFrom 28 = .ok (.aload_n 0, 1) := by decide +kernel
theorem dX0_copyFrom_29 : decode cX0_copyFrom 29 = .ok (.getfield 19, 3) := by decide +kernel
theorem dX0_copyFrom_32 : decode cX0_copyFrom 32 = .ok (.iconst 0, 1) := by decide +kernel
theorem dX0_copyFrom_33 : decode cX0_copyFrom 33 = .ok (.bipush 8, 2) := by decide +kernel
theorem dX0_copyFrom_35 : decode cX0_copyFrom 35 = .ok (.invokestatic 31, 3) := by decide +kernel
theorem dX0_copyFrom_38 : decode cX0_copyFrom 38 = .ok (.aload_n 1, 1) := by decide +kernel
theorem dX0_copyFrom_39 : decode cX0_copyFrom 39 = .ok (.getfield 22, 3) := by decide +kernel
theorem dX0_copyFrom_42 : decode cX0_copyFrom 42 = .ok (.iconst 0, 1) := by decide +kernel
theorem dX0_copyFrom_43 : decode cX0_copyFrom 43 = .ok (.aload_n 0, 1) := by decide +kernel
theorem dX0_copyFrom_44 : decode cX0_copyFrom 44 = .ok (.getfield 22, 3) := by decide +kernel
theorem dX0_copyFrom_47 : decode cX0_copyFrom 47 = .ok (.iconst 0, 1) := by decide +kernel
theorem dX0_copyFrom_48 : decode cX0_copyFrom 48 = .ok (.bipush 8, 2) := by decide +kernel
theorem dX0_copyFrom_50 : decode cX0_copyFrom 50 = .ok (.invokestatic 31, 3) := by decide +kernel
theorem dX0_copyFrom_53 : decode cX0_copyFrom 53 = .ok (.return_, 1) := by decide +kernel
theorem dX0_move_0 : decode cX0_move 0 = .ok (.aload_n 0, 1) := by decide +kernel
theorem dX0_move_1 : decode cX0_move 1 = .ok (.getfield 15, 3) := by decide +kernel
theorem dX0_move_4 : decode cX0_move 4 = .ok (.iload_n 1, 1) := by decide +kernel
theorem dX0_move_5 : decode cX0_move 5 = .ok (.iload_n 2, 1) := by decide +kernel
theorem dX0_move_6 : decode cX0_move 6 = .ok (.iastore, 1) := by decide +kernel
theorem dX0_move_7 : decode cX0_move 7 = .ok (.aload_n 0, 1) := by decide +kernel
theorem dX0_move_8 : decode cX0_move 8 = .ok (.getfield 19, 3) := by decide +kernel
theorem dX0_move_11 : decode cX0_move 11 = .ok (.iload_n 1, 1) := by decide +kernel
theorem dX0_move_12 : decode cX0_move 12 = .ok (.aload_n 0, 1) := by decide +kernel
theorem dX0_move_13 : decode cX0_move 13 = .ok (.getfield 9, 3) := by decide +kernel
theorem dX0_move_16 : decode cX0_move 16 = .ok (.iastore, 1) := by decide +kernel
theorem dX0_move_17 : decode cX0_move 17 = .ok (.return_, 1) := by decide +kernel
theorem dX0_exchange_0 : decode cX0_exchange 0 = .ok (.aload_n 0, 1) := by decide +kernel
theorem dX0_exchange_1 : decode cX0_exchange 1 = .ok (.getfield 15, 3) := by decide +kernel
theorem dX0_exchange_4 : decode cX0_exchange 4 = .ok (.iload_n 1, 1) := by decide +kernel
theorem dX0_exchange_5 : decode cX0_exchange 5 = .ok (.iaload, 1) := by decide +kernel
theorem dX0_exchange_6 : decode cX0_exchange 6 = .ok (.istore_n 3, 1) := by decide +kernel
theorem dX0_exchange_7 : decode cX0_exchange 7 = .ok (.aload_n 0, 1) := by decide +kernel
theorem dX0_exchange_8 : decode cX0_exchange 8 = .ok (.iload_n 1, 1) := by decide +kernel
theorem dX0_exchange_9 : decode cX0_exchange 9 = .ok (.aload_n 0, 1) := by decide +kernel
theorem dX0_exchange_10 : decode cX0_exchange 10 = .ok (.getfield 15, 3) := by decide +kernel
theorem dX0_exchange_13 : decode cX0_exchange 13 = .ok (.iload_n 2, 1) := by decide +kernel
theorem dX0_exchange_14 : decode cX0_exchange 14 = .ok (.iaload, 1) := by decide +kernel
theorem dX0_exchange_15 : decode cX0_exchange 15 = .ok (.invokevirtual 37, 3) := by decide +kernel
theorem dX0_exchange_18 : decode cX0_exchange 18 = .ok (.aload_n 0, 1) := by decide +kernel
theorem dX0_exchange_19 : decode cX0_exchange 19 = .ok (.iload_n 2, 1) := by decide +kernel
theorem dX0_exchange_20 : decode cX0_exchange 20 = .ok (.iload_n 3, 1) := by decide +kernel
theorem dX0_exchange_21 : decode cX0_exchange 21 = .ok (.invokevirtual 37, 3) := by decide +kernel
theorem dX0_exchange_24 : decode cX0_exchange 24 = .ok (.return_, 1) := by decide +kernel
theorem dX0_forget_0 : decode cX0_forget 0 = .ok (.aload_n 0, 1) := by decide +kernel
theorem dX0_forget_1 : decode cX0_forget 1 = .ok (.getfield 22, 3) := by decide +kernel
theorem dX0_forget_4 : decode cX0_forget 4 = .ok (.iload_n 1, 1) := by decide +kernel
theorem dX0_forget_5 : decode cX0_forget 5 = .ok (.iaload, 1) := by decide +kernel
theorem dX0_forget_6 : decode cX0_forget 6 = .ok (.invokestatic 41, 3) := by decide +kernel
theorem dX0_forget_9 : decode cX0_forget 9 = .ok (.istore_n 2, 1) := by decide +kernel
theorem dX0_forget_10 : decode cX0_forget 10 = .ok (.aload_n 0, 1) := by decide +kernel
theorem dX0_forget_11 : decode cX0_forget 11 = .ok (.getfield 22, 3) := by decide +kernel
theorem dX0_forget_14 : decode cX0_forget 14 = .ok (.iload_n 1, 1) := by decide +kernel
theorem dX0_forget_15 : decode cX0_forget 15 = .ok (.iconst 0, 1) := by decide +kernel
theorem dX0_forget_16 : decode cX0_forget 16 = .ok (.iastore, 1) := by decide +kernel
theorem dX0_forget_17 : decode cX0_forget 17 = .ok (.iload_n 2, 1) := by decide +kernel
theorem dX0_forget_18 : decode cX0_forget 18 = .ok (.ireturn, 1) := by decide +kernel
theorem dX0_wornSet_0 : decode cX0_wornSet 0 = .ok (.iconst 0, 1) := by decide +kernel
theorem dX0_wornSet_1 : decode cX0_wornSet 1 = .ok (.istore_n 2, 1) := by decide +kernel
theorem dX0_wornSet_2 : decode cX0_wornSet 2 = .ok (.iconst 0, 1) := by decide +kernel
theorem dX0_wornSet_3 : decode cX0_wornSet 3 = .ok (.istore_n 3, 1) := by decide +kernel
theorem dX0_wornSet_4 : decode cX0_wornSet 4 = .ok (.iload_n 3, 1) := by decide +kernel
theorem dX0_wornSet_5 : decode cX0_wornSet 5 = .ok (.bipush 8, 2) := by decide +kernel
theorem dX0_wornSet_7 : decode cX0_wornSet 7 = .ok (.if_icmp .ge 25, 3) := by decide +kernel
theorem dX0_wornSet_10 : decode cX0_wornSet 10 = .ok (.aload_n 0, 1) := by decide +kernel
theorem dX0_wornSet_11 : decode cX0_wornSet 11 = .ok (.getfield 15, 3) := by decide +kernel
theorem dX0_wornSet_14 : decode cX0_wornSet 14 = .ok (.iload_n 3, 1) := by decide +kernel
theorem dX0_wornSet_15 : decode cX0_wornSet 15 = .ok (.iaload, 1) := by decide +kernel
theorem dX0_wornSet_16 : decode cX0_wornSet 16 = .ok (.iload_n 1, 1) := by decide +kernel
theorem dX0_wornSet_17 : decode cX0_wornSet 17 = .ok (.if_icmp .ne 9, 3) := by decide +kernel
theorem dX0_wornSet_20 : decode cX0_wornSet 20 = .ok (.iload_n 2, 1) := by decide +kernel
theorem dX0_wornSet_21 : decode cX0_wornSet 21 = .ok (.iconst 1, 1) := by decide +kernel
theorem dX0_wornSet_22 : decode cX0_wornSet 22 = .ok (.iload_n 3, 1) := by decide +kernel
theorem dX0_wornSet_23 : decode cX0_wornSet 23 = .ok (.ishl, 1) := by decide +kernel
theorem dX0_wornSet_24 : decode cX0_wornSet 24 = .ok (.ior, 1) := by decide +kernel
theorem dX0_wornSet_25 : decode cX0_wornSet 25 = .ok (.istore_n 2, 1) := by decide +kernel
theorem dX0_wornSet_26 : decode cX0_wornSet 26 = .ok (.iinc 3 1, 3) := by decide +kernel
theorem dX0_wornSet_29 : decode cX0_wornSet 29 = .ok (.goto (-25), 3) := by decide +kernel
theorem dX0_wornSet_32 : decode cX0_wornSet 32 = .ok (.iload_n 2, 1) := by decide +kernel
theorem dX0_wornSet_33 : decode cX0_wornSet 33 = .ok (.ireturn, 1) := by decide +kernel
theorem dX0_atPlace_0 : decode cX0_atPlace 0 = .ok (.iload_n 0, 1) := by decide +kernel
theorem dX0_atPlace_1 : decode cX0_atPlace 1 = .ok (.iconst 4, 1) := by decide +kernel
theorem dX0_atPlace_2 : decode cX0_atPlace 2 = .ok (.iload_n 1, 1) := by decide +kernel
theorem dX0_atPlace_3 : decode cX0_atPlace 3 = .ok (.imul, 1) := by decide +kernel
theorem dX0_atPlace_4 : decode cX0_atPlace 4 = .ok (.ishr, 1) := by decide +kernel
theorem dX0_atPlace_5 : decode cX0_atPlace 5 = .ok (.bipush 15, 2) := by decide +kernel
theorem dX0_atPlace_7 : decode cX0_atPlace 7 = .ok (.iand, 1) := by decide +kernel
theorem dX0_atPlace_8 : decode cX0_atPlace 8 = .ok (.iconst 1, 1) := by decide +kernel
theorem dX0_atPlace_9 : decode cX0_atPlace 9 = .ok (.isub, 1) := by decide +kernel
theorem dX0_atPlace_10 : decode cX0_atPlace 10 = .ok (.ireturn, 1) := by decide +kernel
theorem dX0_withAhead_0 : decode cX0_withAhead 0 = .ok (.iload_n 0, 1) := by decide +kernel
theorem dX0_withAhead_1 : decode cX0_withAhead 1 = .ok (.iconst 4, 1) := by decide +kernel
theorem dX0_withAhead_2 : decode cX0_withAhead 2 = .ok (.ishl, 1) := by decide +kernel
theorem dX0_withAhead_3 : decode cX0_withAhead 3 = .ok (.iload_n 1, 1) := by decide +kernel
theorem dX0_withAhead_4 : decode cX0_withAhead 4 = .ok (.iconst 1, 1) := by decide +kernel
theorem dX0_withAhead_5 : decode cX0_withAhead 5 = .ok (.iadd, 1) := by decide +kernel
theorem dX0_withAhead_6 : decode cX0_withAhead 6 = .ok (.ior, 1) := by decide +kernel
theorem dX0_withAhead_7 : decode cX0_withAhead 7 = .ok (.ldc 45, 2) := by decide +kernel
theorem dX0_withAhead_9 : decode cX0_withAhead 9 = .ok (.iand, 1) := by decide +kernel
theorem dX0_withAhead_10 : decode cX0_withAhead 10 = .ok (.ireturn, 1) := by decide +kernel
theorem dX0_withPlace_0 : decode cX0_withPlace 0 = .ok (.iload_n 0, 1) := by decide +kernel
theorem dX0_withPlace_1 : decode cX0_withPlace 1 = .ok (.iload_n 2, 1) := by decide +kernel
theorem dX0_withPlace_2 : decode cX0_withPlace 2 = .ok (.iconst 1, 1) := by decide +kernel
theorem dX0_withPlace_3 : decode cX0_withPlace 3 = .ok (.iadd, 1) := by decide +kernel
theorem dX0_withPlace_4 : decode cX0_withPlace 4 = .ok (.iconst 4, 1) := by decide +kernel
theorem dX0_withPlace_5 : decode cX0_withPlace 5 = .ok (.iload_n 1, 1) := by decide +kernel
theorem dX0_withPlace_6 : decode cX0_withPlace 6 = .ok (.imul, 1) := by decide +kernel
theorem dX0_withPlace_7 : decode cX0_withPlace 7 = .ok (.ishl, 1) := by decide +kernel
theorem dX0_withPlace_8 : decode cX0_withPlace 8 = .ok (.ior, 1) := by decide +kernel
theorem dX0_withPlace_9 : decode cX0_withPlace 9 = .ok (.ireturn, 1) := by decide +kernel
theorem dX0_howMuch_0 : decode cX0_howMuch 0 = .ok (.iconst 0, 1) := by decide +kernel
theorem dX0_howMuch_1 : decode cX0_howMuch 1 = .ok (.istore_n 1, 1) := by decide +kernel
theorem dX0_howMuch_2 : decode cX0_howMuch 2 = .ok (.iconst 0, 1) := by decide +kernel
theorem dX0_howMuch_3 : decode cX0_howMuch 3 = .ok (.istore_n 2, 1) := by decide +kernel
theorem dX0_howMuch_4 : decode cX0_howMuch 4 = .ok (.iload_n 2, 1) := by decide +kernel
theorem dX0_howMuch_5 : decode cX0_howMuch 5 = .ok (.iconst 4, 1) := by decide +kernel
theorem dX0_howMuch_6 : decode cX0_howMuch 6 = .ok (.if_icmp .ge 23, 3) := by decide +kernel
theorem dX0_howMuch_9 : decode cX0_howMuch 9 = .ok (.iload_n 0, 1) := by decide +kernel
theorem dX0_howMuch_10 : decode cX0_howMuch 10 = .ok (.iconst 4, 1) := by decide +kernel
theorem dX0_howMuch_11 : decode cX0_howMuch 11 = .ok (.iload_n 2, 1) := by decide +kernel
theorem dX0_howMuch_12 : decode cX0_howMuch 12 = .ok (.imul, 1) := by decide +kernel
theorem dX0_howMuch_13 : decode cX0_howMuch 13 = .ok (.ishr, 1) := by decide +kernel
theorem dX0_howMuch_14 : decode cX0_howMuch 14 = .ok (.bipush 15, 2) := by decide +kernel
theorem dX0_howMuch_16 : decode cX0_howMuch 16 = .ok (.iand, 1) := by decide +kernel
theorem dX0_howMuch_17 : decode cX0_howMuch 17 = .ok (.ifCond .eq 6, 3) := by decide +kernel
theorem dX0_howMuch_20 : decode cX0_howMuch 20 = .ok (.iinc 1 1, 3) := by decide +kernel
theorem dX0_howMuch_23 : decode cX0_howMuch 23 = .ok (.iinc 2 1, 3) := by decide +kernel
theorem dX0_howMuch_26 : decode cX0_howMuch 26 = .ok (.goto (-22), 3) := by decide +kernel
theorem dX0_howMuch_29 : decode cX0_howMuch 29 = .ok (.iload_n 1, 1) := by decide +kernel
theorem dX0_howMuch_30 : decode cX0_howMuch 30 = .ok (.ireturn, 1) := by decide +kernel
theorem dX0_unlikePlaces_0 : decode cX0_unlikePlaces 0 = .ok (.iload_n 0, 1) := by decide +kernel
theorem dX0_unlikePlaces_1 : decode cX0_unlikePlaces 1 = .ok (.iload_n 1, 1) := by decide +kernel
theorem dX0_unlikePlaces_2 : decode cX0_unlikePlaces 2 = .ok (.ixor, 1) := by decide +kernel
theorem dX0_unlikePlaces_3 : decode cX0_unlikePlaces 3 = .ok (.invokestatic 41, 3) := by decide +kernel
theorem dX0_unlikePlaces_6 : decode cX0_unlikePlaces 6 = .ok (.ireturn, 1) := by decide +kernel
theorem dX1_init_0 : decode cX1_init 0 = .ok (.aload_n 0, 1) := by decide +kernel
theorem dX1_init_1 : decode cX1_init 1 = .ok (.invokespecial 3, 3) := by decide +kernel
theorem dX1_init_4 : decode cX1_init 4 = .ok (.aload_n 0, 1) := by decide +kernel
theorem dX1_init_5 : decode cX1_init 5 = .ok (.bipush 30, 2) := by decide +kernel
theorem dX1_init_7 : decode cX1_init 7 = .ok (.anewarray 9, 3) := by decide +kernel
theorem dX1_init_10 : decode cX1_init 10 = .ok (.putfield 11, 3) := by decide +kernel
theorem dX1_init_13 : decode cX1_init 13 = .ok (.aload_n 0, 1) := by decide +kernel
theorem dX1_init_14 : decode cX1_init 14 = .ok (.iconst 0, 1) := by decide +kernel
theorem dX1_init_15 : decode cX1_init 15 = .ok (.putfield 17, 3) := by decide +kernel
theorem dX1_init_18 : decode cX1_init 18 = .ok (.aload_n 0, 1) := by decide +kernel
theorem dX1_init_19 : decode cX1_init 19 = .ok (.iconst 0, 1) := by decide +kernel
theorem dX1_init_20 : decode cX1_init 20 = .ok (.putfield 21, 3) := by decide +kernel
theorem dX1_init_23 : decode cX1_init 23 = .ok (.iconst 0, 1) := by decide +kernel
theorem dX1_init_24 : decode cX1_init 24 = .ok (.istore_n 1, 1) := by decide +kernel
theorem dX1_init_25 : decode cX1_init 25 = .ok (.iload_n 1, 1) := by decide +kernel
theorem dX1_init_26 : decode cX1_init 26 = .ok (.bipush 30, 2) := by decide +kernel
theorem dX1_init_28 : decode cX1_init 28 = .ok (.if_icmp .ge 22, 3) := by decide +kernel
theorem dX1_init_31 : decode cX1_init 31 = .ok (.aload_n 0, 1) := by decide +kernel
theorem dX1_init_32 : decode cX1_init 32 = .ok (.getfield 11, 3) := by decide +kernel
theorem dX1_init_35 : decode cX1_init 35 = .ok (.iload_n 1, 1) := by decide +kernel
theorem dX1_init_36 : decode cX1_init 36 = .ok (.new 9, 3) := by decide +kernel
theorem dX1_init_39 : decode cX1_init 39 = .ok (.dup, 1) := by decide +kernel
theorem dX1_init_40 : decode cX1_init 40 = .ok (.invokespecial 24, 3) := by decide +kernel
theorem dX1_init_43 : decode cX1_init 43 = .ok (.aastore, 1) := by decide +kernel
theorem dX1_init_44 : decode cX1_init 44 = .ok (.iinc 1 1, 3) := by decide +kernel
theorem dX1_init_47 : decode cX1_init 47 = .ok (.goto (-22), 3) := by decide +kernel
theorem dX1_init_50 : decode cX1_init 50 = .ok (.return_, 1) := by decide +kernel
theorem dX1_keep_0 : decode cX1_keep 0 = .ok (.aload_n 0, 1) := by decide +kernel
theorem dX1_keep_1 : decode cX1_keep 1 = .ok (.getfield 11, 3) := by decide +kernel
theorem dX1_keep_4 : decode cX1_keep 4 = .ok (.aload_n 0, 1) := by decide +kernel
theorem dX1_keep_5 : decode cX1_keep 5 = .ok (.getfield 17, 3) := by decide +kernel
theorem dX1_keep_8 : decode cX1_keep 8 = .ok (.aaload, 1) := by decide +kernel
theorem dX1_keep_9 : decode cX1_keep 9 = .ok (.aload_n 1, 1) := by decide +kernel
theorem dX1_keep_10 : decode cX1_keep 10 = .ok (.invokevirtual 25, 3) := by decide +kernel
theorem dX1_keep_13 : decode cX1_keep 13 = .ok (.aload_n 0, 1) := by decide +kernel
theorem dX1_keep_14 : decode cX1_keep 14 = .ok (.aload_n 0, 1) := by decide +kernel
theorem dX1_keep_15 : decode cX1_keep 15 = .ok (.getfield 17, 3) := by decide +kernel
theorem dX1_keep_18 : decode cX1_keep 18 = .ok (.iconst 1, 1) := by decide +kernel
theorem dX1_keep_19 : decode cX1_keep 19 = .ok (.iadd, 1) := by decide +kernel
theorem dX1_keep_20 : decode cX1_keep 20 = .ok (.bipush 30, 2) := by decide +kernel
theorem dX1_keep_22 : decode cX1_keep 22 = .ok (.irem, 1) := by decide +kernel
theorem dX1_keep_23 : decode cX1_keep 23 = .ok (.putfield 17, 3) := by decide +kernel
theorem dX1_keep_26 : decode cX1_keep 26 = .ok (.aload_n 0, 1) := by decide +kernel
theorem dX1_keep_27 : decode cX1_keep 27 = .ok (.aload_n 0, 1) := by decide +kernel
theorem dX1_keep_28 : decode cX1_keep 28 = .ok (.getfield 21, 3) := by decide +kernel
theorem dX1_keep_31 : decode cX1_keep 31 = .ok (.iconst 1, 1) := by decide +kernel
theorem dX1_keep_32 : decode cX1_keep 32 = .ok (.iadd, 1) := by decide +kernel
theorem dX1_keep_33 : decode cX1_keep 33 = .ok (.bipush 30, 2) := by decide +kernel
theorem dX1_keep_35 : decode cX1_keep 35 = .ok (.invokestatic 29, 3) := by decide +kernel
theorem dX1_keep_38 : decode cX1_keep 38 = .ok (.putfield 21, 3) := by decide +kernel
theorem dX1_keep_41 : decode cX1_keep 41 = .ok (.return_, 1) := by decide +kernel
theorem dX1_takeBack_0 : decode cX1_takeBack 0 = .ok (.aload_n 0, 1) := by decide +kernel
theorem dX1_takeBack_1 : decode cX1_takeBack 1 = .ok (.getfield 21, 3) := by decide +kernel
theorem dX1_takeBack_4 : decode cX1_takeBack 4 = .ok (.ifCond .ne 5, 3) := by decide +kernel
theorem dX1_takeBack_7 : decode cX1_takeBack 7 = .ok (.iconst 0, 1) := by decide +kernel
theorem dX1_takeBack_8 : decode cX1_takeBack 8 = .ok (.ireturn, 1) := by decide +kernel
theorem dX1_takeBack_9 : decode cX1_takeBack 9 = .ok (.aload_n 0, 1) := by decide +kernel
theorem dX1_takeBack_10 : decode cX1_takeBack 10 = .ok (.dup, 1) := by decide +kernel
theorem dX1_takeBack_11 : decode cX1_takeBack 11 = .ok (.getfield 21, 3) := by decide +kernel
theorem dX1_takeBack_14 : decode cX1_takeBack 14 = .ok (.iconst 1, 1) := by decide +kernel
theorem dX1_takeBack_15 : decode cX1_takeBack 15 = .ok (.isub, 1) := by decide +kernel
theorem dX1_takeBack_16 : decode cX1_takeBack 16 = .ok (.putfield 21, 3) := by decide +kernel
theorem dX1_takeBack_19 : decode cX1_takeBack 19 = .ok (.aload_n 0, 1) := by decide +kernel
theorem dX1_takeBack_20 : decode cX1_takeBack 20 = .ok (.aload_n 0, 1) := by decide +kernel
theorem dX1_takeBack_21 : decode cX1_takeBack 21 = .ok (.getfield 17, 3) := by decide +kernel
theorem dX1_takeBack_24 : decode cX1_takeBack 24 = .ok (.bipush 30, 2) := by decide +kernel
theorem dX1_takeBack_26 : decode cX1_takeBack 26 = .ok (.iadd, 1) := by decide +kernel
theorem dX1_takeBack_27 : decode cX1_takeBack 27 = .ok (.iconst 1, 1) := by decide +kernel
theorem dX1_takeBack_28 : decode cX1_takeBack 28 = .ok (.isub, 1) := by decide +kernel
theorem dX1_takeBack_29 : decode cX1_takeBack 29 = .ok (.bipush 30, 2) := by decide +kernel
theorem dX1_takeBack_31 : decode cX1_takeBack 31 = .ok (.irem, 1) := by decide +kernel
theorem dX1_takeBack_32 : decode cX1_takeBack 32 = .ok (.putfield 17, 3) := by decide +kernel
theorem dX1_takeBack_35 : decode cX1_takeBack 35 = .ok (.aload_n 1, 1) := by decide +kernel
theorem dX1_takeBack_36 : decode cX1_takeBack 36 = .ok (.aload_n 0, 1) := by decide +kernel
theorem dX1_takeBack_37 : decode cX1_takeBack 37 = .ok (.getfield 11, 3) := by decide +kernel
theorem dX1_takeBack_40 : decode cX1_takeBack 40 = .ok (.aload_n 0, 1) := by decide +kernel
theorem dX1_takeBack_41 : decode cX1_takeBack 41 = .ok (.getfield 17, 3) := by decide +kernel
theorem dX1_takeBack_44 : decode cX1_takeBack 44 = .ok (.aaload, 1) := by decide +kernel
theorem dX1_takeBack_45 : decode cX1_takeBack 45 = .ok (.invokevirtual 25, 3) := by decide +kernel
theorem dX1_takeBack_48 : decode cX1_takeBack 48 = .ok (.iconst 1, 1) := by decide +kernel
theorem dX1_takeBack_49 : decode cX1_takeBack 49 = .ok (.ireturn, 1) := by decide +kernel
theorem dX1_copyFrom_0 : decode cX1_copyFrom 0 = .ok (.iconst 0, 1) := by decide +kernel
theorem dX1_copyFrom_1 : decode cX1_copyFrom 1 = .ok (.istore_n 2, 1) := by decide +kernel
theorem dX1_copyFrom_2 : decode cX1_copyFrom 2 = .ok (.iload_n 2, 1) := by decide +kernel
theorem dX1_copyFrom_3 : decode cX1_copyFrom 3 = .ok (.bipush 30, 2) := by decide +kernel
theorem dX1_copyFrom_5 : decode cX1_copyFrom 5 = .ok (.if_icmp .ge 24, 3) := by decide +kernel
theorem dX1_copyFrom_8 : decode cX1_copyFrom 8 = .ok (.aload_n 0, 1) := by decide +kernel
theorem dX1_copyFrom_9 : decode cX1_copyFrom 9 = .ok (.getfield 11, 3) := by decide +kernel
theorem dX1_copyFrom_12 : decode cX1_copyFrom 12 = .ok (.iload_n 2, 1) := by decide +kernel
theorem dX1_copyFrom_13 : decode cX1_copyFrom 13 = .ok (.aaload, 1) := by decide +kernel
theorem dX1_copyFrom_14 : decode cX1_copyFrom 14 = .ok (.aload_n 1, 1) := by decide +kernel
theorem dX1_copyFrom_15 : decode cX1_copyFrom 15 = .ok (.getfield 11, 3) := by decide +kernel
theorem dX1_copyFrom_18 : decode cX1_copyFrom 18 = .ok (.iload_n 2, 1) := by decide +kernel
theorem dX1_copyFrom_19 : decode cX1_copyFrom 19 = .ok (.aaload, 1) := by decide +kernel
theorem dX1_copyFrom_20 : decode cX1_copyFrom 20 = .ok (.invokevirtual 25, 3) := by decide +kernel
theorem dX1_copyFrom_23 : decode cX1_copyFrom 23 = .ok (.iinc 2 1, 3) := by decide +kernel
theorem dX1_copyFrom_26 : decode cX1_copyFrom 26 = .ok (.goto (-24), 3) := by decide +kernel
theorem dX1_copyFrom_29 : decode cX1_copyFrom 29 = .ok (.aload_n 0, 1) := by decide +kernel
theorem dX1_copyFrom_30 : decode cX1_copyFrom 30 = .ok (.aload_n 1, 1) := by decide +kernel
theorem dX1_copyFrom_31 : decode cX1_copyFrom 31 = .ok (.getfield 17, 3) := by decide +kernel
theorem dX1_copyFrom_34 : decode cX1_copyFrom 34 = .ok (.putfield 17, 3) := by decide +kernel
theorem dX1_copyFrom_37 : decode cX1_copyFrom 37 = .ok (.aload_n 0, 1) := by decide +kernel
theorem dX1_copyFrom_38 : decode cX1_copyFrom 38 = .ok (.aload_n 1, 1) := by decide +kernel
theorem dX1_copyFrom_39 : decode cX1_copyFrom 39 = .ok (.getfield 21, 3) := by decide +kernel
theorem dX1_copyFrom_42 : decode cX1_copyFrom 42 = .ok (.putfield 21, 3) := by decide +kernel
theorem dX1_copyFrom_45 : decode cX1_copyFrom 45 = .ok (.return_, 1) := by decide +kernel
theorem dX2_init_0 : decode cX2_init 0 = .ok (.aload_n 0, 1) := by decide +kernel
theorem dX2_init_1 : decode cX2_init 1 = .ok (.invokespecial 3, 3) := by decide +kernel
theorem dX2_init_4 : decode cX2_init 4 = .ok (.aload_n 0, 1) := by decide +kernel
theorem dX2_init_5 : decode cX2_init 5 = .ok (.iconst (-1), 1) := by decide +kernel
theorem dX2_init_6 : decode cX2_init 6 = .ok (.putfield 9, 3) := by decide +kernel
theorem dX2_init_9 : decode cX2_init 9 = .ok (.aload_n 0, 1) := by decide +kernel
theorem dX2_init_10 : decode cX2_init 10 = .ok (.iconst (-1), 1) := by decide +kernel
theorem dX2_init_11 : decode cX2_init 11 = .ok (.putfield 15, 3) := by decide +kernel
theorem dX2_init_14 : decode cX2_init 14 = .ok (.aload_n 0, 1) := by decide +kernel
theorem dX2_init_15 : decode cX2_init 15 = .ok (.sipush 301, 3) := by decide +kernel
theorem dX2_init_18 : decode cX2_init 18 = .ok (.newarray .int, 2) := by decide +kernel
theorem dX2_init_20 : decode cX2_init 20 = .ok (.putfield 18, 3) := by decide +kernel
theorem dX2_init_23 : decode cX2_init 23 = .ok (.aload_n 0, 1) := by decide +kernel
theorem dX2_init_24 : decode cX2_init 24 = .ok (.sipush 301, 3) := by decide +kernel
theorem dX2_init_27 : decode cX2_init 27 = .ok (.newarray .int, 2) := by decide +kernel
theorem dX2_init_29 : decode cX2_init 29 = .ok (.putfield 22, 3) := by decide +kernel
theorem dX2_init_32 : decode cX2_init 32 = .ok (.aload_n 0, 1) := by decide +kernel
theorem dX2_init_33 : decode cX2_init 33 = .ok (.sipush 301, 3) := by decide +kernel
theorem dX2_init_36 : decode cX2_init 36 = .ok (.newarray .int, 2) := by decide +kernel
theorem dX2_init_38 : decode cX2_init 38 = .ok (.putfield 25, 3) := by decide +kernel
theorem dX2_init_41 : decode cX2_init 41 = .ok (.aload_n 0, 1) := by decide +kernel
theorem dX2_init_42 : decode cX2_init 42 = .ok (.iconst 0, 1) := by decide +kernel
theorem dX2_init_43 : decode cX2_init 43 = .ok (.putfield 28, 3) := by decide +kernel
theorem dX2_init_46 : decode cX2_init 46 = .ok (.aload_n 0, 1) := by decide +kernel
theorem dX2_init_47 : decode cX2_init 47 = .ok (.iconst 0, 1) := by decide +kernel
theorem dX2_init_48 : decode cX2_init 48 = .ok (.putfield 31, 3) := by decide +kernel
theorem dX2_init_51 : decode cX2_init 51 = .ok (.aload_n 0, 1) := by decide +kernel
theorem dX2_init_52 : decode cX2_init 52 = .ok (.bipush 21, 2) := by decide +kernel
theorem dX2_init_54 : decode cX2_init 54 = .ok (.putfield 34, 3) := by decide +kernel
theorem dX2_init_57 : decode cX2_init 57 = .ok (.aload_n 0, 1) := by decide +kernel
theorem dX2_init_58 : decode cX2_init 58 = .ok (.new 37, 3) := by decide +kernel
theorem dX2_init_61 : decode cX2_init 61 = .ok (.dup, 1) := by decide +kernel
theorem dX2_init_62 : decode cX2_init 62 = .ok (.invokespecial 39, 3) := by decide +kernel
theorem dX2_init_65 : decode cX2_init 65 = .ok (.putfield 40, 3) := by decide +kernel
theorem dX2_init_68 : decode cX2_init 68 = .ok (.return_, 1) := by decide +kernel
theorem dX2_begin_0 : decode cX2_begin 0 = .ok (.aload_n 0, 1) := by decide +kernel
theorem dX2_begin_1 : decode cX2_begin 1 = .ok (.iconst 0, 1) := by decide +kernel
theorem dX2_begin_2 : decode cX2_begin 2 = .ok (.putfield 9, 3) := by decide +kernel
theorem dX2_begin_5 : decode cX2_begin 5 = .ok (.aload_n 0, 1) := by decide +kernel
theorem dX2_begin_6 : decode cX2_begin 6 = .ok (.iconst (-1), 1) := by decide +kernel
theorem dX2_begin_7 : decode cX2_begin 7 = .ok (.putfield 15, 3) := by decide +kernel
theorem dX2_begin_10 : decode cX2_begin 10 = .ok (.aload_n 0, 1) := by decide +kernel
theorem dX2_begin_11 : decode cX2_begin 11 = .ok (.aload_n 3, 1) := by decide +kernel
theorem dX2_begin_12 : decode cX2_begin 12 = .ok (.putfield 40, 3) := by decide +kernel
theorem dX2_begin_15 : decode cX2_begin 15 = .ok (.aload_n 0, 1) := by decide +kernel
theorem dX2_begin_16 : decode cX2_begin 16 = .ok (.getfield 40, 3) := by decide +kernel
theorem dX2_begin_19 : decode cX2_begin 19 = .ok (.invokevirtual 44, 3) := by decide +kernel
theorem dX2_begin_22 : decode cX2_begin 22 = .ok (.aload_n 0, 1) := by decide +kernel
theorem dX2_begin_23 : decode cX2_begin 23 = .ok (.aload_n 1, 1) := by decide +kernel
theorem dX2_begin_24 : decode cX2_begin 24 = .ok (.iload_n 2, 1) := by decide +kernel
theorem dX2_begin_25 : decode cX2_begin 25 = .ok (.aload_n 1, 1) := by decide +kernel
theorem dX2_begin_26 : decode cX2_begin 26 = .ok (.arraylength, 1) := by decide +kernel
theorem dX2_begin_27 : decode cX2_begin 27 = .ok (.invokestatic 47, 3) := by decide +kernel
theorem dX2_begin_30 : decode cX2_begin 30 = .ok (.invokevirtual 53, 3) := by decide +kernel
theorem dX2_begin_33 : decode cX2_begin 33 = .ok (.aload_n 0, 1) := by decide +kernel
theorem dX2_begin_34 : decode cX2_begin 34 = .ok (.iconst 0, 1) := by decide +kernel
theorem dX2_begin_35 : decode cX2_begin 35 = .ok (.putfield 31, 3) := by decide +kernel
theorem dX2_begin_38 : decode cX2_begin 38 = .ok (.return_, 1) := by decide +kernel
theorem dX2_hasMore_0 : decode cX2_hasMore 0 = .ok (.aload_n 0, 1) := by decide +kernel
theorem dX2_hasMore_1 : decode cX2_hasMore 1 = .ok (.getfield 31, 3) := by decide +kernel
theorem dX2_hasMore_4 : decode cX2_hasMore 4 = .ok (.aload_n 0, 1) := by decide +kernel
theorem dX2_hasMore_5 : decode cX2_hasMore 5 = .ok (.getfield 28, 3) := by decide +kernel
theorem dX2_hasMore_8 : decode cX2_hasMore 8 = .ok (.if_icmp .ge 7, 3) := by decide +kernel
theorem dX2_hasMore_11 : decode cX2_hasMore 11 = .ok (.iconst 1, 1) := by decide +kernel
theorem dX2_hasMore_12 : decode cX2_hasMore 12 = .ok (.goto 4, 3) := by decide +kernel
theorem dX2_hasMore_15 : decode cX2_hasMore 15 = .ok (.iconst 0, 1) := by decide +kernel
theorem dX2_hasMore_16 : decode cX2_hasMore 16 = .ok (.ireturn, 1) := by decide +kernel
theorem dX2_scan_0 : decode cX2_scan 0 = .ok (.iconst 0, 1) := by decide +kernel
theorem dX2_scan_1 : decode cX2_scan 1 = .ok (.istore_n 3, 1) := by decide +kernel
theorem dX2_scan_2 : decode cX2_scan 2 = .ok (.iconst 0, 1) := by decide +kernel
theorem dX2_scan_3 : decode cX2_scan 3 = .ok (.istore 4, 2) := by decide +kernel
theorem dX2_scan_5 : decode cX2_scan 5 = .ok (.iload 4, 2) := by decide +kernel
theorem dX2_scan_7 : decode cX2_scan 7 = .ok (.iload_n 2, 1) := by decide +kernel
theorem dX2_scan_8 : decode cX2_scan 8 = .ok (.if_icmp .ge 103, 3) := by decide +kernel
theorem dX2_scan_11 : decode cX2_scan 11 = .ok (.iload_n 3, 1) := by decide +kernel
theorem dX2_scan_12 : decode cX2_scan 12 = .ok (.sipush 300, 3) := by decide +kernel
theorem dX2_scan_15 : decode cX2_scan 15 = .ok (.if_icmp .ge 96, 3) := by decide +kernel
theorem dX2_scan_18 : decode cX2_scan 18 = .ok (.aload_n 1, 1) := by decide +kernel
theorem dX2_scan_19 : decode cX2_scan 19 = .ok (.iload 4, 2) := by decide +kernel
theorem dX2_scan_21 : decode cX2_scan 21 = .ok (.baload, 1) := by decide +kernel
theorem dX2_scan_22 : decode cX2_scan 22 = .ok (.bipush 32, 2) := by decide +kernel
theorem dX2_scan_24 : decode cX2_scan 24 = .ok (.if_icmp .eq 12, 3) := by decide +kernel
theorem dX2_scan_27 : decode cX2_scan 27 = .ok (.aload_n 1, 1) := by decide +kernel
theorem dX2_scan_28 : decode cX2_scan 28 = .ok (.iload 4, 2) := by decide +kernel
theorem dX2_scan_30 : decode cX2_scan 30 = .ok (.baload, 1) := by decide +kernel
theorem dX2_scan_31 : decode cX2_scan 31 = .ok (.bipush 10, 2) := by decide +kernel
theorem dX2_scan_33 : decode cX2_scan 33 = .ok (.if_icmp .ne 9, 3) := by decide +kernel
theorem dX2_scan_36 : decode cX2_scan 36 = .ok (.iinc 4 1, 3) := by decide +kernel
theorem dX2_scan_39 : decode cX2_scan 39 = .ok (.goto (-34), 3) := by decide +kernel
theorem dX2_scan_42 : decode cX2_scan 42 = .ok (.aload_n 1, 1) := by decide +kernel
theorem dX2_scan_43 : decode cX2_scan 43 = .ok (.iload 4, 2) := by decide +kernel
theorem dX2_scan_45 : decode cX2_scan 45 = .ok (.iload_n 2, 1) := by decide +kernel
theorem dX2_scan_46 : decode cX2_scan 46 = .ok (.invokestatic 57, 3) := by decide +kernel
theorem dX2_scan_49 : decode cX2_scan 49 = .ok (.istore 5, 2) := by decide +kernel
theorem dX2_scan_51 : decode cX2_scan 51 = .ok (.aload_n 0, 1) := by decide +kernel
theorem dX2_scan_52 : decode cX2_scan 52 = .ok (.getfield 22, 3) := by decide +kernel
theorem dX2_scan_55 : decode cX2_scan 55 = .ok (.iload_n 3, 1) := by decide +kernel
theorem dX2_scan_56 : decode cX2_scan 56 = .ok (.iload 4, 2) := by decide +kernel
theorem dX2_scan_58 : decode cX2_scan 58 = .ok (.iastore, 1) := by decide +kernel
theorem dX2_scan_59 : decode cX2_scan 59 = .ok (.aload_n 0, 1) := by decide +kernel
theorem dX2_scan_60 : decode cX2_scan 60 = .ok (.getfield 25, 3) := by decide +kernel
theorem dX2_scan_63 : decode cX2_scan 63 = .ok (.iload_n 3, 1) := by decide +kernel
theorem dX2_scan_64 : decode cX2_scan 64 = .ok (.aload_n 1, 1) := by decide +kernel
theorem dX2_scan_65 : decode cX2_scan 65 = .ok (.iload 4, 2) := by decide +kernel
theorem dX2_scan_67 : decode cX2_scan 67 = .ok (.baload, 1) := by decide +kernel
theorem dX2_scan_68 : decode cX2_scan 68 = .ok (.invokestatic 61, 3) := by decide +kernel
theorem dX2_scan_71 : decode cX2_scan 71 = .ok (.ifCond .eq 14, 3) := by decide +kernel
theorem dX2_scan_74 : decode cX2_scan 74 = .ok (.aload_n 1, 1) := by decide +kernel
theorem dX2_scan_75 : decode cX2_scan 75 = .ok (.iload 4, 2) := by decide +kernel
theorem dX2_scan_77 : decode cX2_scan 77 = .ok (.iload 5, 2) := by decide +kernel
theorem dX2_scan_79 : decode cX2_scan 79 = .ok (.invokestatic 65, 3) := by decide +kernel
theorem dX2_scan_82 : decode cX2_scan 82 = .ok (.goto 4, 3) := by decide +kernel
theorem dX2_scan_85 : decode cX2_scan 85 = .ok (.iconst 0, 1) := by decide +kernel
theorem dX2_scan_86 : decode cX2_scan 86 = .ok (.iastore, 1) := by decide +kernel
theorem dX2_scan_87 : decode cX2_scan 87 = .ok (.aload_n 0, 1) := by decide +kernel
theorem dX2_scan_88 : decode cX2_scan 88 = .ok (.getfield 18, 3) := by decide +kernel
theorem dX2_scan_91 : decode cX2_scan 91 = .ok (.iload_n 3, 1) := by decide +kernel
theorem dX2_scan_92 : decode cX2_scan 92 = .ok (.aload_n 1, 1) := by decide +kernel
theorem dX2_scan_93 : decode cX2_scan 93 = .ok (.iload 4, 2) := by decide +kernel
theorem dX2_scan_95 : decode cX2_scan 95 = .ok (.iload 5, 2) := by decide +kernel
theorem dX2_scan_97 : decode cX2_scan 97 = .ok (.invokestatic 68, 3) := by decide +kernel
theorem dX2_scan_100 : decode cX2_scan 100 = .ok (.iastore, 1) := by decide +kernel
theorem dX2_scan_101 : decode cX2_scan 101 = .ok (.iload 5, 2) := by decide +kernel
theorem dX2_scan_103 : decode cX2_scan 103 = .ok (.istore 4, 2) := by decide +kernel
theorem dX2_scan_105 : decode cX2_scan 105 = .ok (.iinc 3 1, 3) := by decide +kernel
theorem dX2_scan_108 : decode cX2_scan 108 = .ok (.goto (-103), 3) := by decide +kernel
theorem dX2_scan_111 : decode cX2_scan 111 = .ok (.aload_n 0, 1) := by decide +kernel
theorem dX2_scan_112 : decode cX2_scan 112 = .ok (.getfield 18, 3) := by decide +kernel
theorem dX2_scan_115 : decode cX2_scan 115 = .ok (.iload_n 3, 1) := by decide +kernel
theorem dX2_scan_116 : decode cX2_scan 116 = .ok (.bipush 36, 2) := by decide +kernel
theorem dX2_scan_118 : decode cX2_scan 118 = .ok (.iastore, 1) := by decide +kernel
theorem dX2_scan_119 : decode cX2_scan 119 = .ok (.aload_n 0, 1) := by decide +kernel
theorem dX2_scan_120 : decode cX2_scan 120 = .ok (.getfield 22, 3) := by decide +kernel
theorem dX2_scan_123 : decode cX2_scan 123 = .ok (.iload_n 3, 1) := by decide +kernel
theorem dX2_scan_124 : decode cX2_scan 124 = .ok (.iload_n 2, 1) := by decide +kernel
theorem dX2_scan_125 : decode cX2_scan 125 = .ok (.iastore, 1) := by decide +kernel
theorem dX2_scan_126 : decode cX2_scan 126 = .ok (.aload_n 0, 1) := by decide +kernel
theorem dX2_scan_127 : decode cX2_scan 127 = .ok (.iload_n 3, 1) := by decide +kernel
theorem dX2_scan_128 : decode cX2_scan 128 = .ok (.putfield 28, 3) := by decide +kernel
theorem dX2_scan_131 : decode cX2_scan 131 = .ok (.return_, 1) := by decide +kernel
theorem dX2_runEnd_0 : decode cX2_runEnd 0 = .ok (.iload_n 1, 1) := by decide +kernel
theorem dX2_runEnd_1 : decode cX2_runEnd 1 = .ok (.iconst 1, 1) := by decide +kernel
theorem dX2_runEnd_2 : decode cX2_runEnd 2 = .ok (.iadd, 1) := by decide +kernel
theorem dX2_runEnd_3 : decode cX2_runEnd 3 = .ok (.istore_n 3, 1) := by decide +kernel
theorem dX2_runEnd_4 : decode cX2_runEnd 4 = .ok (.aload_n 0, 1) := by decide +kernel
theorem dX2_runEnd_5 : decode cX2_runEnd 5 = .ok (.iload_n 1, 1) := by decide +kernel
theorem dX2_runEnd_6 : decode cX2_runEnd 6 = .ok (.baload, 1) := by decide +kernel
theorem dX2_runEnd_7 : decode cX2_runEnd 7 = .ok (.invokestatic 71, 3) := by decide +kernel
theorem dX2_runEnd_10 : decode cX2_runEnd 10 = .ok (.ifCond .eq 23, 3) := by decide +kernel
theorem dX2_runEnd_13 : decode cX2_runEnd 13 = .ok (.iload_n 3, 1) := by decide +kernel
theorem dX2_runEnd_14 : decode cX2_runEnd 14 = .ok (.iload_n 2, 1) := by decide +kernel
theorem dX2_runEnd_15 : decode cX2_runEnd 15 = .ok (.if_icmp .ge 79, 3) := by decide +kernel
theorem dX2_runEnd_18 : decode cX2_runEnd 18 = .ok (.aload_n 0, 1) := by decide +kernel
theorem dX2_runEnd_19 : decode cX2_runEnd 19 = .ok (.iload_n 3, 1) := by decide +kernel
theorem dX2_runEnd_20 : decode cX2_runEnd 20 = .ok (.baload, 1) := by decide +kernel
theorem dX2_runEnd_21 : decode cX2_runEnd 21 = .ok (.invokestatic 71, 3) := by decide +kernel
theorem dX2_runEnd_24 : decode cX2_runEnd 24 = .ok (.ifCond .eq 70, 3) := by decide +kernel
theorem dX2_runEnd_27 : decode cX2_runEnd 27 = .ok (.iinc 3 1, 3) := by decide +kernel
theorem dX2_runEnd_30 : decode cX2_runEnd 30 = .ok (.goto (-17), 3) := by decide +kernel
theorem dX2_runEnd_33 : decode cX2_runEnd 33 = .ok (.aload_n 0, 1) := by decide +kernel
theorem dX2_runEnd_34 : decode cX2_runEnd 34 = .ok (.iload_n 1, 1) := by decide +kernel
theorem dX2_runEnd_35 : decode cX2_runEnd 35 = .ok (.baload, 1) := by decide +kernel
theorem dX2_runEnd_36 : decode cX2_runEnd 36 = .ok (.invokestatic 61, 3) := by decide +kernel
theorem dX2_runEnd_39 : decode cX2_runEnd 39 = .ok (.ifCond .eq 23, 3) := by decide +kernel
theorem dX2_runEnd_42 : decode cX2_runEnd 42 = .ok (.iload_n 3, 1) := by decide +kernel
theorem dX2_runEnd_43 : decode cX2_runEnd 43 = .ok (.iload_n 2, 1) := by decide +kernel
theorem dX2_runEnd_44 : decode cX2_runEnd 44 = .ok (.if_icmp .ge 50, 3) := by decide +kernel
theorem dX2_runEnd_47 : decode cX2_runEnd 47 = .ok (.aload_n 0, 1) := by decide +kernel
theorem dX2_runEnd_48 : decode cX2_runEnd 48 = .ok (.iload_n 3, 1) := by decide +kernel
theorem dX2_runEnd_49 : decode cX2_runEnd 49 = .ok (.baload, 1) := by decide +kernel
theorem dX2_runEnd_50 : decode cX2_runEnd 50 = .ok (.invokestatic 61, 3) := by decide +kernel
theorem dX2_runEnd_53 : decode cX2_runEnd 53 = .ok (.ifCond .eq 41, 3) := by decide +kernel
theorem dX2_runEnd_56 : decode cX2_runEnd 56 = .ok (.iinc 3 1, 3) := by decide +kernel
theorem dX2_runEnd_59 : decode cX2_runEnd 59 = .ok (.goto (-17), 3) := by decide +kernel
theorem dX2_runEnd_62 : decode cX2_runEnd 62 = .ok (.aload_n 0, 1) := by decide +kernel
theorem dX2_runEnd_63 : decode cX2_runEnd 63 = .ok (.iload_n 1, 1) := by decide +kernel
theorem dX2_runEnd_64 : decode cX2_runEnd 64 = .ok (.baload, 1) := by decide +kernel
theorem dX2_runEnd_65 : decode cX2_runEnd 65 = .ok (.bipush 60, 2) := by decide +kernel
theorem dX2_runEnd_67 : decode cX2_runEnd 67 = .ok (.if_icmp .eq 11, 3) := by decide +kernel
theorem dX2_runEnd_70 : decode cX2_runEnd 70 = .ok (.aload_n 0, 1) := by decide +kernel
theorem dX2_runEnd_71 : decode cX2_runEnd 71 = .ok (.iload_n 1, 1) := by decide +kernel
theorem dX2_runEnd_72 : decode cX2_runEnd 72 = .ok (.baload, 1) := by decide +kernel
theorem dX2_runEnd_73 : decode cX2_runEnd 73 = .ok (.bipush 62, 2) := by decide +kernel
theorem dX2_runEnd_75 : decode cX2_runEnd 75 = .ok (.if_icmp .ne 19, 3) := by decide +kernel
theorem dX2_runEnd_78 : decode cX2_runEnd 78 = .ok (.iload_n 3, 1) := by decide +kernel
theorem dX2_runEnd_79 : decode cX2_runEnd 79 = .ok (.iload_n 2, 1) := by decide +kernel
theorem dX2_runEnd_80 : decode cX2_runEnd 80 = .ok (.if_icmp .ge 14, 3) := by decide +kernel
theorem dX2_runEnd_83 : decode cX2_runEnd 83 = .ok (.aload_n 0, 1) := by decide +kernel
theorem dX2_runEnd_84 : decode cX2_runEnd 84 = .ok (.iload_n 3, 1) := by decide +kernel
theorem dX2_runEnd_85 : decode cX2_runEnd 85 = .ok (.baload, 1) := by decide +kernel
theorem dX2_runEnd_86 : decode cX2_runEnd 86 = .ok (.bipush 61, 2) := by decide +kernel
theorem dX2_runEnd_88 : decode cX2_runEnd 88 = .ok (.if_icmp .ne 6, 3) := by decide +kernel
theorem dX2_runEnd_91 : decode cX2_runEnd 91 = .ok (.iinc 3 1, 3) := by decide +kernel
theorem dX2_runEnd_94 : decode cX2_runEnd 94 = .ok (.iload_n 3, 1) := by decide +kernel
theorem dX2_runEnd_95 : decode cX2_runEnd 95 = .ok (.ireturn, 1) := by decide +kernel
theorem dX2_isLetter_0 : decode cX2_isLetter 0 = .ok (.iload_n 0, 1) := by decide +kernel
theorem dX2_isLetter_1 : decode cX2_isLetter 1 = .ok (.bipush 97, 2) := by decide +kernel
theorem dX2_isLetter_3 : decode cX2_isLetter 3 = .ok (.if_icmp .lt 9, 3) := by decide +kernel
theorem dX2_isLetter_6 : decode cX2_isLetter 6 = .ok (.iload_n 0, 1) := by decide +kernel
theorem dX2_isLetter_7 : decode cX2_isLetter 7 = .ok (.bipush 122, 2) := by decide +kernel
theorem dX2_isLetter_9 : decode cX2_isLetter 9 = .ok (.if_icmp .le 15, 3) := by decide +kernel
theorem dX2_isLetter_12 : decode cX2_isLetter 12 = .ok (.iload_n 0, 1) := by decide +kernel
theorem dX2_isLetter_13 : decode cX2_isLetter 13 = .ok (.bipush 65, 2) := by decide +kernel
theorem dX2_isLetter_15 : decode cX2_isLetter 15 = .ok (.if_icmp .lt 13, 3) := by decide +kernel
theorem dX2_isLetter_18 : decode cX2_isLetter 18 = .ok (.iload_n 0, 1) := by decide +kernel
theorem dX2_isLetter_19 : decode cX2_isLetter 19 = .ok (.bipush 90, 2) := by decide +kernel
theorem dX2_isLetter_21 : decode cX2_isLetter 21 = .ok (.if_icmp .gt 7, 3) := by decide +kernel
theorem dX2_isLetter_24 : decode cX2_isLetter 24 = .ok (.iconst 1, 1) := by decide +kernel
theorem dX2_isLetter_25 : decode cX2_isLetter 25 = .ok (.goto 4, 3) := by decide +kernel
theorem dX2_isLetter_28 : decode cX2_isLetter 28 = .ok (.iconst 0, 1) := by decide +kernel
theorem dX2_isLetter_29 : decode cX2_isLetter 29 = .ok (.ireturn, 1) := by decide +kernel
theorem dX2_isDigit_0 : decode cX2_isDigit 0 = .ok (.iload_n 0, 1) := by decide +kernel
theorem dX2_isDigit_1 : decode cX2_isDigit 1 = .ok (.bipush 48, 2) := by decide +kernel
theorem dX2_isDigit_3 : decode cX2_isDigit 3 = .ok (.if_icmp .lt 13, 3) := by decide +kernel
theorem dX2_isDigit_6 : decode cX2_isDigit 6 = .ok (.iload_n 0, 1) := by decide +kernel
theorem dX2_isDigit_7 : decode cX2_isDigit 7 = .ok (.bipush 57, 2) := by decide +kernel
theorem dX2_isDigit_9 : decode cX2_isDigit 9 = .ok (.if_icmp .gt 7, 3) := by decide +kernel
theorem dX2_isDigit_12 : decode cX2_isDigit 12 = .ok (.iconst 1, 1) := by decide +kernel
theorem dX2_isDigit_13 : decode cX2_isDigit 13 = .ok (.goto 4, 3) := by decide +kernel
theorem dX2_isDigit_16 : decode cX2_isDigit 16 = .ok (.iconst 0, 1) := by decide +kernel
theorem dX2_isDigit_17 : decode cX2_isDigit 17 = .ok (.ireturn, 1) := by decide +kernel
theorem dX2_numberOf_0 : decode cX2_numberOf 0 = .ok (.iconst 0, 1) := by decide +kernel
theorem dX2_numberOf_1 : decode cX2_numberOf 1 = .ok (.istore_n 3, 1) := by decide +kernel
theorem dX2_numberOf_2 : decode cX2_numberOf 2 = .ok (.iload_n 1, 1) := by decide +kernel
theorem dX2_numberOf_3 : decode cX2_numberOf 3 = .ok (.istore 4, 2) := by decide +kernel
theorem dX2_numberOf_5 : decode cX2_numberOf 5 = .ok (.iload 4, 2) := by decide +kernel
theorem dX2_numberOf_7 : decode cX2_numberOf 7 = .ok (.iload_n 2, 1) := by decide +kernel
theorem dX2_numberOf_8 : decode cX2_numberOf 8 = .ok (.if_icmp .ge 28, 3) := by decide +kernel
theorem dX2_numberOf_11 : decode cX2_numberOf 11 = .ok (.iload_n 3, 1) := by decide +kernel
theorem dX2_numberOf_12 : decode cX2_numberOf 12 = .ok (.bipush 10, 2) := by decide +kernel
theorem dX2_numberOf_14 : decode cX2_numberOf 14 = .ok (.imul, 1) := by decide +kernel
theorem dX2_numberOf_15 : decode cX2_numberOf 15 = .ok (.aload_n 0, 1) := by decide +kernel
theorem dX2_numberOf_16 : decode cX2_numberOf 16 = .ok (.iload 4, 2) := by decide +kernel
theorem dX2_numberOf_18 : decode cX2_numberOf 18 = .ok (.baload, 1) := by decide +kernel
theorem dX2_numberOf_19 : decode cX2_numberOf 19 = .ok (.iadd, 1) := by decide +kernel
theorem dX2_numberOf_20 : decode cX2_numberOf 20 = .ok (.bipush 48, 2) := by decide +kernel
theorem dX2_numberOf_22 : decode cX2_numberOf 22 = .ok (.isub, 1) := by decide +kernel
theorem dX2_numberOf_23 : decode cX2_numberOf 23 = .ok (.sipush 10000, 3) := by decide +kernel
theorem dX2_numberOf_26 : decode cX2_numberOf 26 = .ok (.invokestatic 47, 3) := by decide +kernel
theorem dX2_numberOf_29 : decode cX2_numberOf 29 = .ok (.istore_n 3, 1) := by decide +kernel
theorem dX2_numberOf_30 : decode cX2_numberOf 30 = .ok (.iinc 4 1, 3) := by decide +kernel
theorem dX2_numberOf_33 : decode cX2_numberOf 33 = .ok (.goto (-28), 3) := by decide +kernel
theorem dX2_numberOf_36 : decode cX2_numberOf 36 = .ok (.iload_n 3, 1) := by decide +kernel
theorem dX2_numberOf_37 : decode cX2_numberOf 37 = .ok (.ireturn, 1) := by decide +kernel
theorem dX2_tokenOf_0 : decode cX2_tokenOf 0 = .ok (.aload_n 0, 1) := by decide +kernel
theorem dX2_tokenOf_1 : decode cX2_tokenOf 1 = .ok (.iload_n 1, 1) := by decide +kernel
theorem dX2_tokenOf_2 : decode cX2_tokenOf 2 = .ok (.baload, 1) := by decide +kernel
theorem dX2_tokenOf_3 : decode cX2_tokenOf 3 = .ok (.invokestatic 71, 3) := by decide +kernel
theorem dX2_tokenOf_6 : decode cX2_tokenOf 6 = .ok (.ifCond .eq 10, 3) := by decide +kernel
theorem dX2_tokenOf_9 : decode cX2_tokenOf 9 = .ok (.aload_n 0, 1) := by decide +kernel
theorem dX2_tokenOf_10 : decode cX2_tokenOf 10 = .ok (.iload_n 1, 1) := by decide +kernel
theorem dX2_tokenOf_11 : decode cX2_tokenOf 11 = .ok (.iload_n 2, 1) := by decide +kernel
theorem dX2_tokenOf_12 : decode cX2_tokenOf 12 = .ok (.invokestatic 74, 3) := by decide +kernel
theorem dX2_tokenOf_15 : decode cX2_tokenOf 15 = .ok (.ireturn, 1) := by decide +kernel
theorem dX2_tokenOf_16 : decode cX2_tokenOf 16 = .ok (.aload_n 0, 1) := by decide +kernel
theorem dX2_tokenOf_17 : decode cX2_tokenOf 17 = .ok (.iload_n 1, 1) := by decide +kernel
theorem dX2_tokenOf_18 : decode cX2_tokenOf 18 = .ok (.baload, 1) := by decide +kernel
theorem dX2_tokenOf_19 : decode cX2_tokenOf 19 = .ok (.invokestatic 61, 3) := by decide +kernel
theorem dX2_tokenOf_22 : decode cX2_tokenOf 22 = .ok (.ifCond .eq 6, 3) := by decide +kernel
theorem dX2_tokenOf_25 : decode cX2_tokenOf 25 = .ok (.bipush 35, 2) := by decide +kernel
theorem dX2_tokenOf_27 : decode cX2_tokenOf 27 = .ok (.ireturn, 1) := by decide +kernel
theorem dX2_tokenOf_28 : decode cX2_tokenOf 28 = .ok (.iload_n 2, 1) := by decide +kernel
theorem dX2_tokenOf_29 : decode cX2_tokenOf 29 = .ok (.iload_n 1, 1) := by decide +kernel
theorem dX2_tokenOf_30 : decode cX2_tokenOf 30 = .ok (.isub, 1) := by decide +kernel
theorem dX2_tokenOf_31 : decode cX2_tokenOf 31 = .ok (.iconst 2, 1) := by decide +kernel
theorem dX2_tokenOf_32 : decode cX2_tokenOf 32 = .ok (.if_icmp .ne 7, 3) := by decide +kernel
theorem dX2_tokenOf_35 : decode cX2_tokenOf 35 = .ok (.iconst 1, 1) := by decide +kernel
theorem dX2_tokenOf_36 : decode cX2_tokenOf 36 = .ok (.goto 4, 3) := by decide +kernel
theorem dX2_tokenOf_39 : decode cX2_tokenOf 39 = .ok (.iconst 0, 1) := by decide +kernel
theorem dX2_tokenOf_40 : decode cX2_tokenOf 40 = .ok (.istore_n 3, 1) := by decide +kernel
theorem dX2_tokenOf_41 : decode cX2_tokenOf 41 = .ok (.aload_n 0, 1) := by decide +kernel
theorem dX2_tokenOf_42 : decode cX2_tokenOf 42 = .ok (.iload_n 1, 1) := by decide +kernel
theorem dX2_tokenOf_43 : decode cX2_tokenOf 43 = .ok (.baload, 1) := by decide +kernel
theorem dX2_tokenOf_44 : decode cX2_tokenOf 44 = .ok (.tableswitch 179 35 62 #[155, 179, 179, 179, 179, 170, 173, 164, 158, 179, 161, 179, 167, 179, 179, 179, 179, 179, 179, 179, 179, 179, 179, 179, 176, 128, 152, 140], 128) := by decide +kernel
theorem dX2_tokenOf_172 : decode cX2_tokenOf 172 = .ok (.iload_n 3, 1) := by decide +kernel
theorem dX2_tokenOf_173 : decode cX2_tokenOf 173 = .ok (.ifCond .eq 8, 3) := by decide +kernel
theorem dX2_tokenOf_176 : decode cX2_tokenOf 176 = .ok (.bipush 23, 2) := by decide +kernel
theorem dX2_tokenOf_178 : decode cX2_tokenOf 178 = .ok (.goto 5, 3) := by decide +kernel
theorem dX2_tokenOf_181 : decode cX2_tokenOf 181 = .ok (.bipush 22, 2) := by decide +kernel
theorem dX2_tokenOf_183 : decode cX2_tokenOf 183 = .ok (.ireturn, 1) := by decide +kernel
theorem dX2_tokenOf_184 : decode cX2_tokenOf 184 = .ok (.iload_n 3, 1) := by decide +kernel
theorem dX2_tokenOf_185 : decode cX2_tokenOf 185 = .ok (.ifCond .eq 8, 3) := by decide +kernel
theorem dX2_tokenOf_188 : decode cX2_tokenOf 188 = .ok (.bipush 25, 2) := by decide +kernel
theorem dX2_tokenOf_190 : decode cX2_tokenOf 190 = .ok (.goto 5, 3) := by decide +kernel
theorem dX2_tokenOf_193 : decode cX2_tokenOf 193 = .ok (.bipush 24, 2) := by decide +kernel
theorem dX2_tokenOf_195 : decode cX2_tokenOf 195 = .ok (.ireturn, 1) := by decide +kernel
theorem dX2_tokenOf_196 : decode cX2_tokenOf 196 = .ok (.bipush 26, 2) := by decide +kernel
theorem dX2_tokenOf_198 : decode cX2_tokenOf 198 = .ok (.ireturn, 1) := by decide +kernel
theorem dX2_tokenOf_199 : decode cX2_tokenOf 199 = .ok (.bipush 27, 2) := by decide +kernel
theorem dX2_tokenOf_201 : decode cX2_tokenOf 201 = .ok (.ireturn, 1) := by decide +kernel
theorem dX2_tokenOf_202 : decode cX2_tokenOf 202 = .ok (.bipush 28, 2) := by decide +kernel
theorem dX2_tokenOf_204 : decode cX2_tokenOf 204 = .ok (.ireturn, 1) := by decide +kernel
theorem dX2_tokenOf_205 : decode cX2_tokenOf 205 = .ok (.bipush 29, 2) := by decide +kernel
theorem dX2_tokenOf_207 : decode cX2_tokenOf 207 = .ok (.ireturn, 1) := by decide +kernel
theorem dX2_tokenOf_208 : decode cX2_tokenOf 208 = .ok (.bipush 30, 2) := by decide +kernel
theorem dX2_tokenOf_210 : decode cX2_tokenOf 210 = .ok (.ireturn, 1) := by decide +kernel
theorem dX2_tokenOf_211 : decode cX2_tokenOf 211 = .ok (.bipush 31, 2) := by decide +kernel
theorem dX2_tokenOf_213 : decode cX2_tokenOf 213 = .ok (.ireturn, 1) := by decide +kernel
theorem dX2_tokenOf_214 : decode cX2_tokenOf 214 = .ok (.bipush 32, 2) := by decide +kernel
theorem dX2_tokenOf_216 : decode cX2_tokenOf 216 = .ok (.ireturn, 1) := by decide +kernel
theorem dX2_tokenOf_217 : decode cX2_tokenOf 217 = .ok (.bipush 33, 2) := by decide +kernel
theorem dX2_tokenOf_219 : decode cX2_tokenOf 219 = .ok (.ireturn, 1) := by decide +kernel
theorem dX2_tokenOf_220 : decode cX2_tokenOf 220 = .ok (.bipush 34, 2) := by decide +kernel
theorem dX2_tokenOf_222 : decode cX2_tokenOf 222 = .ok (.ireturn, 1) := by decide +kernel
theorem dX2_tokenOf_223 : decode cX2_tokenOf 223 = .ok (.bipush 37, 2) := by decide +kernel
theorem dX2_tokenOf_225 : decode cX2_tokenOf 225 = .ok (.ireturn, 1) := by decide +kernel
theorem dX2_wordToken_0 : decode cX2_wordToken 0 = .ok (.iconst 0, 1) := by decide +kernel
theorem dX2_wordToken_1 : decode cX2_wordToken 1 = .ok (.istore_n 3, 1) := by decide +kernel
theorem dX2_wordToken_2 : decode cX2_wordToken 2 = .ok (.iconst 0, 1) := by decide +kernel
theorem dX2_wordToken_3 : decode cX2_wordToken 3 = .ok (.istore 4, 2) := by decide +kernel
theorem dX2_wordToken_5 : decode cX2_wordToken 5 = .ok (.iconst 0, 1) := by decide +kernel
theorem dX2_wordToken_6 : decode cX2_wordToken 6 = .ok (.istore 5, 2) := by decide +kernel
theorem dX2_wordToken_8 : decode cX2_wordToken 8 = .ok (.iload 5, 2) := by decide +kernel
theorem dX2_wordToken_10 : decode cX2_wordToken 10 = .ok (.ldc 77, 2) := by decide +kernel
theorem dX2_wordToken_12 : decode cX2_wordToken 12 = .ok (.invokevirtual 79, 3) := by decide +kernel
theorem dX2_wordToken_15 : decode cX2_wordToken 15 = .ok (.if_icmp .ge 54, 3) := by decide +kernel
theorem dX2_wordToken_18 : decode cX2_wordToken 18 = .ok (.ldc 77, 2) := by decide +kernel
theorem dX2_wordToken_20 : decode cX2_wordToken 20 = .ok (.iload 5, 2) := by decide +kernel
theorem dX2_wordToken_22 : decode cX2_wordToken 22 = .ok (.invokevirtual 85, 3) := by decide +kernel
theorem dX2_wordToken_25 : decode cX2_wordToken 25 = .ok (.bipush 32, 2) := by decide +kernel
theorem dX2_wordToken_27 : decode cX2_wordToken 27 = .ok (.if_icmp .ne 36, 3) := by decide +kernel
theorem dX2_wordToken_30 : decode cX2_wordToken 30 = .ok (.iload 5, 2) := by decide +kernel
theorem dX2_wordToken_32 : decode cX2_wordToken 32 = .ok (.iload 4, 2) := by decide +kernel
theorem dX2_wordToken_34 : decode cX2_wordToken 34 = .ok (.isub, 1) := by decide +kernel
theorem dX2_wordToken_35 : decode cX2_wordToken 35 = .ok (.iload_n 2, 1) := by decide +kernel
theorem dX2_wordToken_36 : decode cX2_wordToken 36 = .ok (.iload_n 1, 1) := by decide +kernel
theorem dX2_wordToken_37 : decode cX2_wordToken 37 = .ok (.isub, 1) := by decide +kernel
theorem dX2_wordToken_38 : decode cX2_wordToken 38 = .ok (.if_icmp .ne 16, 3) := by decide +kernel
theorem dX2_wordToken_41 : decode cX2_wordToken 41 = .ok (.aload_n 0, 1) := by decide +kernel
theorem dX2_wordToken_42 : decode cX2_wordToken 42 = .ok (.iload_n 1, 1) := by decide +kernel
theorem dX2_wordToken_43 : decode cX2_wordToken 43 = .ok (.iload_n 2, 1) := by decide +kernel
theorem dX2_wordToken_44 : decode cX2_wordToken 44 = .ok (.iload 4, 2) := by decide +kernel
theorem dX2_wordToken_46 : decode cX2_wordToken 46 = .ok (.invokestatic 89, 3) := by decide +kernel
theorem dX2_wordToken_49 : decode cX2_wordToken 49 = .ok (.ifCond .eq 5, 3) := by decide +kernel
theorem dX2_wordToken_52 : decode cX2_wordToken 52 = .ok (.iload_n 3, 1) := by decide +kernel
theorem dX2_wordToken_53 : decode cX2_wordToken 53 = .ok (.ireturn, 1) := by decide +kernel
theorem dX2_wordToken_54 : decode cX2_wordToken 54 = .ok (.iinc 3 1, 3) := by decide +kernel
theorem dX2_wordToken_57 : decode cX2_wordToken 57 = .ok (.iload 5, 2) := by decide +kernel
theorem dX2_wordToken_59 : decode cX2_wordToken 59 = .ok (.iconst 1, 1) := by decide +kernel
theorem dX2_wordToken_60 : decode cX2_wordToken 60 = .ok (.iadd, 1) := by decide +kernel
theorem dX2_wordToken_61 : decode cX2_wordToken 61 = .ok (.istore 4, 2) := by decide +kernel
theorem dX2_wordToken_63 : decode cX2_wordToken 63 = .ok (.iinc 5 1, 3) := by decide +kernel
theorem dX2_wordToken_66 : decode cX2_wordToken 66 = .ok (.goto (-58), 3) := by decide +kernel
theorem dX2_wordToken_69 : decode cX2_wordToken 69 = .ok (.bipush 37, 2) := by decide +kernel
theorem dX2_wordToken_71 : decode cX2_wordToken 71 = .ok (.ireturn, 1) := by decide +kernel
theorem dX2_isWord_0 : decode cX2_isWord 0 = .ok (.iload_n 1, 1) := by decide +kernel
theorem dX2_isWord_1 : decode cX2_isWord 1 = .ok (.istore 4, 2) := by decide +kernel
theorem dX2_isWord_3 : decode cX2_isWord 3 = .ok (.iload 4, 2) := by decide +kernel
theorem dX2_isWord_5 : decode cX2_isWord 5 = .ok (.iload_n 2, 1) := by decide +kernel
theorem dX2_isWord_6 : decode cX2_isWord 6 = .ok (.if_icmp .ge 29, 3) := by decide +kernel
theorem dX2_isWord_9 : decode cX2_isWord 9 = .ok (.aload_n 0, 1) := by decide +kernel
theorem dX2_isWord_10 : decode cX2_isWord 10 = .ok (.iload 4, 2) := by decide +kernel
theorem dX2_isWord_12 : decode cX2_isWord 12 = .ok (.baload, 1) := by decide +kernel
theorem dX2_isWord_13 : decode cX2_isWord 13 = .ok (.ldc 77, 2) := by decide +kernel
theorem dX2_isWord_15 : decode cX2_isWord 15 = .ok (.iload_n 3, 1) := by decide +kernel
theorem dX2_isWord_16 : decode cX2_isWord 16 = .ok (.iload 4, 2) := by decide +kernel
theorem dX2_isWord_18 : decode cX2_isWord 18 = .ok (.iadd, 1) := by decide +kernel
theorem dX2_isWord_19 : decode cX2_isWord 19 = .ok (.iload_n 1, 1) := by decide +kernel
theorem dX2_isWord_20 : decode cX2_isWord 20 = .ok (.isub, 1) := by decide +kernel
theorem dX2_isWord_21 : decode cX2_isWord 21 = .ok (.invokevirtual 85, 3) := by decide +kernel
theorem dX2_isWord_24 : decode cX2_isWord 24 = .ok (.if_icmp .eq 5, 3) := by decide +kernel
theorem dX2_isWord_27 : decode cX2_isWord 27 = .ok (.iconst 0, 1) := by decide +kernel
theorem dX2_isWord_28 : decode cX2_isWord 28 = .ok (.ireturn, 1) := by decide +kernel
theorem dX2_isWord_29 : decode cX2_isWord 29 = .ok (.iinc 4 1, 3) := by decide +kernel
theorem dX2_isWord_32 : decode cX2_isWord 32 = .ok (.goto (-29), 3) := by decide +kernel
theorem dX2_isWord_35 : decode cX2_isWord 35 = .ok (.iconst 1, 1) := by decide +kernel
theorem dX2_isWord_36 : decode cX2_isWord 36 = .ok (.ireturn, 1) := by decide +kernel
theorem dX2_fail_0 : decode cX2_fail 0 = .ok (.aload_n 0, 1) := by decide +kernel
theorem dX2_fail_1 : decode cX2_fail 1 = .ok (.getfield 9, 3) := by decide +kernel
theorem dX2_fail_4 : decode cX2_fail 4 = .ok (.ifCond .ne 21, 3) := by decide +kernel
theorem dX2_fail_7 : decode cX2_fail 7 = .ok (.aload_n 0, 1) := by decide +kernel
theorem dX2_fail_8 : decode cX2_fail 8 = .ok (.iload_n 1, 1) := by decide +kernel
theorem dX2_fail_9 : decode cX2_fail 9 = .ok (.putfield 9, 3) := by decide +kernel
theorem dX2_fail_12 : decode cX2_fail 12 = .ok (.aload_n 0, 1) := by decide +kernel
theorem dX2_fail_13 : decode cX2_fail 13 = .ok (.aload_n 0, 1) := by decide +kernel
theorem dX2_fail_14 : decode cX2_fail 14 = .ok (.getfield 22, 3) := by decide +kernel
theorem dX2_fail_17 : decode cX2_fail 17 = .ok (.aload_n 0, 1) := by decide +kernel
theorem dX2_fail_18 : decode cX2_fail 18 = .ok (.getfield 31, 3) := by decide +kernel
theorem dX2_fail_21 : decode cX2_fail 21 = .ok (.iaload, 1) := by decide +kernel
theorem dX2_fail_22 : decode cX2_fail 22 = .ok (.putfield 15, 3) := by decide +kernel
theorem dX2_fail_25 : decode cX2_fail 25 = .ok (.aload_n 0, 1) := by decide +kernel
theorem dX2_fail_26 : decode cX2_fail 26 = .ok (.aload_n 0, 1) := by decide +kernel
theorem dX2_fail_27 : decode cX2_fail 27 = .ok (.getfield 28, 3) := by decide +kernel
theorem dX2_fail_30 : decode cX2_fail 30 = .ok (.putfield 31, 3) := by decide +kernel
theorem dX2_fail_33 : decode cX2_fail 33 = .ok (.return_, 1) := by decide +kernel
theorem dX2_take_0 : decode cX2_take 0 = .ok (.aload_n 0, 1) := by decide +kernel
theorem dX2_take_1 : decode cX2_take 1 = .ok (.getfield 18, 3) := by decide +kernel
theorem dX2_take_4 : decode cX2_take 4 = .ok (.aload_n 0, 1) := by decide +kernel
theorem dX2_take_5 : decode cX2_take 5 = .ok (.getfield 31, 3) := by decide +kernel
theorem dX2_take_8 : decode cX2_take 8 = .ok (.iaload, 1) := by decide +kernel
theorem dX2_take_9 : decode cX2_take 9 = .ok (.iload_n 1, 1) := by decide +kernel
theorem dX2_take_10 : decode cX2_take 10 = .ok (.if_icmp .ne 16, 3) := by decide +kernel
theorem dX2_take_13 : decode cX2_take 13 = .ok (.aload_n 0, 1) := by decide +kernel
theorem dX2_take_14 : decode cX2_take 14 = .ok (.dup, 1) := by decide +kernel
theorem dX2_take_15 : decode cX2_take 15 = .ok (.getfield 31, 3) := by decide +kernel
theorem dX2_take_18 : decode cX2_take 18 = .ok (.iconst 1, 1) := by decide +kernel
theorem dX2_take_19 : decode cX2_take 19 = .ok (.iadd, 1) := by decide +kernel
theorem dX2_take_20 : decode cX2_take 20 = .ok (.putfield 31, 3) := by decide +kernel
theorem dX2_take_23 : decode cX2_take 23 = .ok (.goto 8, 3) := by decide +kernel
theorem dX2_take_26 : decode cX2_take 26 = .ok (.aload_n 0, 1) := by decide +kernel
theorem dX2_take_27 : decode cX2_take 27 = .ok (.iconst 1, 1) := by decide +kernel
theorem dX2_take_28 : decode cX2_take 28 = .ok (.invokevirtual 93, 3) := by decide +kernel
theorem dX2_take_31 : decode cX2_take 31 = .ok (.return_, 1) := by decide +kernel
theorem dX2_takeNumber_0 : decode cX2_takeNumber 0 = .ok (.aload_n 0, 1) := by decide +kernel
theorem dX2_takeNumber_1 : decode cX2_takeNumber 1 = .ok (.getfield 25, 3) := by decide +kernel
theorem dX2_takeNumber_4 : decode cX2_takeNumber 4 = .ok (.aload_n 0, 1) := by decide +kernel
theorem dX2_takeNumber_5 : decode cX2_takeNumber 5 = .ok (.getfield 31, 3) := by decide +kernel
theorem dX2_takeNumber_8 : decode cX2_takeNumber 8 = .ok (.iaload, 1) := by decide +kernel
theorem dX2_takeNumber_9 : decode cX2_takeNumber 9 = .ok (.istore_n 2, 1) := by decide +kernel
theorem dX2_takeNumber_10 : decode cX2_takeNumber 10 = .ok (.aload_n 0, 1) := by decide +kernel
theorem dX2_takeNumber_11 : decode cX2_takeNumber 11 = .ok (.getfield 18, 3) := by decide +kernel
theorem dX2_takeNumber_14 : decode cX2_takeNumber 14 = .ok (.aload_n 0, 1) := by decide +kernel
theorem dX2_takeNumber_15 : decode cX2_takeNumber 15 = .ok (.getfield 31, 3) := by decide +kernel
theorem dX2_takeNumber_18 : decode cX2_takeNumber 18 = .ok (.iaload, 1) := by decide +kernel
theorem dX2_takeNumber_19 : decode cX2_takeNumber 19 = .ok (.bipush 35, 2) := by decide +kernel
theorem dX2_takeNumber_21 : decode cX2_takeNumber 21 = .ok (.if_icmp .eq 10, 3) := by decide +kernel
theorem dX2_takeNumber_24 : decode cX2_takeNumber 24 = .ok (.aload_n 0, 1) := by decide +kernel
theorem dX2_takeNumber_25 : decode cX2_takeNumber 25 = .ok (.iconst 1, 1) := by decide +kernel
theorem dX2_takeNumber_26 : decode cX2_takeNumber 26 = .ok (.invokevirtual 93, 3) := by decide +kernel
theorem dX2_takeNumber_29 : decode cX2_takeNumber 29 = .ok (.iconst 0, 1) := by decide +kernel
theorem dX2_takeNumber_30 : decode cX2_takeNumber 30 = .ok (.ireturn, 1) := by decide +kernel
theorem dX2_takeNumber_31 : decode cX2_takeNumber 31 = .ok (.iload_n 2, 1) := by decide +kernel
theorem dX2_takeNumber_32 : decode cX2_takeNumber 32 = .ok (.iload_n 1, 1) := by decide +kernel
theorem dX2_takeNumber_33 : decode cX2_takeNumber 33 = .ok (.if_icmp .le 10, 3) := by decide +kernel
theorem dX2_takeNumber_36 : decode cX2_takeNumber 36 = .ok (.aload_n 0, 1) := by decide +kernel
theorem dX2_takeNumber_37 : decode cX2_takeNumber 37 = .ok (.iconst 2, 1) := by decide +kernel
theorem dX2_takeNumber_38 : decode cX2_takeNumber 38 = .ok (.invokevirtual 93, 3) := by decide +kernel
theorem dX2_takeNumber_41 : decode cX2_takeNumber 41 = .ok (.iconst 0, 1) := by decide +kernel
theorem dX2_takeNumber_42 : decode cX2_takeNumber 42 = .ok (.ireturn, 1) := by decide +kernel
theorem dX2_takeNumber_43 : decode cX2_takeNumber 43 = .ok (.aload_n 0, 1) := by decide +kernel
theorem dX2_takeNumber_44 : decode cX2_takeNumber 44 = .ok (.dup, 1) := by decide +kernel
theorem dX2_takeNumber_45 : decode cX2_takeNumber 45 = .ok (.getfield 31, 3) := by decide +kernel
theorem dX2_takeNumber_48 : decode cX2_takeNumber 48 = .ok (.iconst 1, 1) := by decide +kernel
theorem dX2_takeNumber_49 : decode cX2_takeNumber 49 = .ok (.iadd, 1) := by decide +kernel
theorem dX2_takeNumber_50 : decode cX2_takeNumber 50 = .ok (.putfield 31, 3) := by decide +kernel
theorem dX2_takeNumber_53 : decode cX2_takeNumber 53 = .ok (.iload_n 2, 1) := by decide +kernel
theorem dX2_takeNumber_54 : decode cX2_takeNumber 54 = .ok (.ireturn, 1) := by decide +kernel
theorem dX2_flawOfHead_0 : decode cX2_flawOfHead 0 = .ok (.iload_n 1, 1) := by decide +kernel
theorem dX2_flawOfHead_1 : decode cX2_flawOfHead 1 = .ok (.bipush 6, 2) := by decide +kernel
theorem dX2_flawOfHead_3 : decode cX2_flawOfHead 3 = .ok (.if_icmp .le 5, 3) := by decide +kernel
theorem dX2_flawOfHead_6 : decode cX2_flawOfHead 6 = .ok (.iconst 1, 1) := by decide +kernel
theorem dX2_flawOfHead_7 : decode cX2_flawOfHead 7 = .ok (.ireturn, 1) := by decide +kernel
theorem dX2_flawOfHead_8 : decode cX2_flawOfHead 8 = .ok (.iload_n 1, 1) := by decide +kernel
theorem dX2_flawOfHead_9 : decode cX2_flawOfHead 9 = .ok (.ifCond .ne 14, 3) := by decide +kernel
theorem dX2_flawOfHead_12 : decode cX2_flawOfHead 12 = .ok (.aload_n 0, 1) := by decide +kernel
theorem dX2_flawOfHead_13 : decode cX2_flawOfHead 13 = .ok (.getfield 40, 3) := by decide +kernel
theorem dX2_flawOfHead_16 : decode cX2_flawOfHead 16 = .ok (.getfield 97, 3) := by decide +kernel
theorem dX2_flawOfHead_19 : decode cX2_flawOfHead 19 = .ok (.iconst (-1), 1) := by decide +kernel
theorem dX2_flawOfHead_20 : decode cX2_flawOfHead 20 = .ok (.if_icmp .ne 19, 3) := by decide +kernel
theorem dX2_flawOfHead_23 : decode cX2_flawOfHead 23 = .ok (.iload_n 1, 1) := by decide +kernel
theorem dX2_flawOfHead_24 : decode cX2_flawOfHead 24 = .ok (.iconst 1, 1) := by decide +kernel
theorem dX2_flawOfHead_25 : decode cX2_flawOfHead 25 = .ok (.if_icmp .ne 16, 3) := by decide +kernel
theorem dX2_flawOfHead_28 : decode cX2_flawOfHead 28 = .ok (.aload_n 0, 1) := by decide +kernel
theorem dX2_flawOfHead_29 : decode cX2_flawOfHead 29 = .ok (.getfield 40, 3) := by decide +kernel
theorem dX2_flawOfHead_32 : decode cX2_flawOfHead 32 = .ok (.getfield 100, 3) := by decide +kernel
theorem dX2_flawOfHead_35 : decode cX2_flawOfHead 35 = .ok (.iconst (-1), 1) := by decide +kernel
theorem dX2_flawOfHead_36 : decode cX2_flawOfHead 36 = .ok (.if_icmp .eq 5, 3) := by decide +kernel
theorem dX2_flawOfHead_39 : decode cX2_flawOfHead 39 = .ok (.iconst 4, 1) := by decide +kernel
theorem dX2_flawOfHead_40 : decode cX2_flawOfHead 40 = .ok (.ireturn, 1) := by decide +kernel
theorem dX2_flawOfHead_41 : decode cX2_flawOfHead 41 = .ok (.aload_n 0, 1) := by decide +kernel
theorem dX2_flawOfHead_42 : decode cX2_flawOfHead 42 = .ok (.getfield 40, 3) := by decide +kernel
theorem dX2_flawOfHead_45 : decode cX2_flawOfHead 45 = .ok (.getfield 103, 3) := by decide +kernel
theorem dX2_flawOfHead_48 : decode cX2_flawOfHead 48 = .ok (.bipush 24, 2) := by decide +kernel
theorem dX2_flawOfHead_50 : decode cX2_flawOfHead 50 = .ok (.if_icmp .lt 8, 3) := by decide +kernel
theorem dX2_flawOfHead_53 : decode cX2_flawOfHead 53 = .ok (.bipush 6, 2) := by decide +kernel
theorem dX2_flawOfHead_55 : decode cX2_flawOfHead 55 = .ok (.goto 4, 3) := by decide +kernel
theorem dX2_flawOfHead_58 : decode cX2_flawOfHead 58 = .ok (.iconst 0, 1) := by decide +kernel
theorem dX2_flawOfHead_59 : decode cX2_flawOfHead 59 = .ok (.ireturn, 1) := by decide +kernel
theorem dX2_readClause_0 : decode cX2_readClause 0 = .ok (.aload_n 0, 1) := by decide +kernel
theorem dX2_readClause_1 : decode cX2_readClause 1 = .ok (.getfield 18, 3) := by decide +kernel
theorem dX2_readClause_4 : decode cX2_readClause 4 = .ok (.aload_n 0, 1) := by decide +kernel
theorem dX2_readClause_5 : decode cX2_readClause 5 = .ok (.getfield 31, 3) := by decide +kernel
theorem dX2_readClause_8 : decode cX2_readClause 8 = .ok (.iaload, 1) := by decide +kernel
theorem dX2_readClause_9 : decode cX2_readClause 9 = .ok (.istore_n 1, 1) := by decide +kernel
theorem dX2_readClause_10 : decode cX2_readClause 10 = .ok (.aload_n 0, 1) := by decide +kernel
theorem dX2_readClause_11 : decode cX2_readClause 11 = .ok (.iload_n 1, 1) := by decide +kernel
theorem dX2_readClause_12 : decode cX2_readClause 12 = .ok (.invokevirtual 106, 3) := by decide +kernel
theorem dX2_readClause_15 : decode cX2_readClause 15 = .ok (.istore_n 2, 1) := by decide +kernel
theorem dX2_readClause_16 : decode cX2_readClause 16 = .ok (.iload_n 2, 1) := by decide +kernel
theorem dX2_readClause_17 : decode cX2_readClause 17 = .ok (.ifCond .eq 9, 3) := by decide +kernel
theorem dX2_readClause_20 : decode cX2_readClause 20 = .ok (.aload_n 0, 1) := by decide +kernel
theorem dX2_readClause_21 : decode cX2_readClause 21 = .ok (.iload_n 2, 1) := by decide +kernel
theorem dX2_readClause_22 : decode cX2_readClause 22 = .ok (.invokevirtual 93, 3) := by decide +kernel
theorem dX2_readClause_25 : decode cX2_readClause 25 = .ok (.return_, 1) := by decide +kernel
theorem dX2_readClause_26 : decode cX2_readClause 26 = .ok (.aload_n 0, 1) := by decide +kernel
theorem dX2_readClause_27 : decode cX2_readClause 27 = .ok (.dup, 1) := by decide +kernel
theorem dX2_readClause_28 : decode cX2_readClause 28 = .ok (.getfield 31, 3) := by decide +kernel
theorem dX2_readClause_31 : decode cX2_readClause 31 = .ok (.iconst 1, 1) := by decide +kernel
theorem dX2_readClause_32 : decode cX2_readClause 32 = .ok (.iadd, 1) := by decide +kernel
theorem dX2_readClause_33 : decode cX2_readClause 33 = .ok (.putfield 31, 3) := by decide +kernel
theorem dX2_readClause_36 : decode cX2_readClause 36 = .ok (.iload_n 1, 1) := by decide +kernel
theorem dX2_readClause_37 : decode cX2_readClause 37 = .ok (.tableswitch 87 0 5 #[39, 46, 53, 64, 87, 75], 39) := by decide +kernel
theorem dX2_readClause_76 : decode cX2_readClause 76 = .ok (.aload_n 0, 1) := by decide +kernel
theorem dX2_readClause_77 : decode cX2_readClause 77 = .ok (.invokevirtual 110, 3) := by decide +kernel
theorem dX2_readClause_80 : decode cX2_readClause 80 = .ok (.goto 69, 3) := by decide +kernel
theorem dX2_readClause_83 : decode cX2_readClause 83 = .ok (.aload_n 0, 1) := by decide +kernel
theorem dX2_readClause_84 : decode cX2_readClause 84 = .ok (.invokevirtual 113, 3) := by decide +kernel
theorem dX2_readClause_87 : decode cX2_readClause 87 = .ok (.goto 62, 3) := by decide +kernel
theorem dX2_readClause_90 : decode cX2_readClause 90 = .ok (.aload_n 0, 1) := by decide +kernel
theorem dX2_readClause_91 : decode cX2_readClause 91 = .ok (.iconst 2, 1) := by decide +kernel
theorem dX2_readClause_92 : decode cX2_readClause 92 = .ok (.bipush 7, 2) := by decide +kernel
theorem dX2_readClause_94 : decode cX2_readClause 94 = .ok (.iconst 5, 1) := by decide +kernel
theorem dX2_readClause_95 : decode cX2_readClause 95 = .ok (.invokevirtual 116, 3) := by decide +kernel
theorem dX2_readClause_98 : decode cX2_readClause 98 = .ok (.goto 51, 3) := by decide +kernel
theorem dX2_readClause_101 : decode cX2_readClause 101 = .ok (.aload_n 0, 1) := by decide +kernel
theorem dX2_readClause_102 : decode cX2_readClause 102 = .ok (.iconst 3, 1) := by decide +kernel
theorem dX2_readClause_103 : decode cX2_readClause 103 = .ok (.bipush 8, 2) := by decide +kernel
theorem dX2_readClause_105 : decode cX2_readClause 105 = .ok (.iconst 5, 1) := by decide +kernel
theorem dX2_readClause_106 : decode cX2_readClause 106 = .ok (.invokevirtual 116, 3) := by decide +kernel
theorem dX2_readClause_109 : decode cX2_readClause 109 = .ok (.goto 40, 3) := by decide +kernel
theorem dX2_readClause_112 : decode cX2_readClause 112 = .ok (.aload_n 0, 1) := by decide +kernel
theorem dX2_readClause_113 : decode cX2_readClause 113 = .ok (.iconst 5, 1) := by decide +kernel
theorem dX2_readClause_114 : decode cX2_readClause 114 = .ok (.bipush 9, 2) := by decide +kernel
theorem dX2_readClause_116 : decode cX2_readClause 116 = .ok (.bipush 7, 2) := by decide +kernel
theorem dX2_readClause_118 : decode cX2_readClause 118 = .ok (.invokevirtual 116, 3) := by decide +kernel
theorem dX2_readClause_121 : decode cX2_readClause 121 = .ok (.goto 28, 3) := by decide +kernel
theorem dX2_readClause_124 : decode cX2_readClause 124 = .ok (.aload_n 0, 1) := by decide +kernel
theorem dX2_readClause_125 : decode cX2_readClause 125 = .ok (.getfield 40, 3) := by decide +kernel
theorem dX2_readClause_128 : decode cX2_readClause 128 = .ok (.iload_n 1, 1) := by decide +kernel
theorem dX2_readClause_129 : decode cX2_readClause 129 = .ok (.iconst 4, 1) := by decide +kernel
theorem dX2_readClause_130 : decode cX2_readClause 130 = .ok (.if_icmp .ne 7, 3) := by decide +kernel
theorem dX2_readClause_133 : decode cX2_readClause 133 = .ok (.iconst 3, 1) := by decide +kernel
theorem dX2_readClause_134 : decode cX2_readClause 134 = .ok (.goto 5, 3) := by decide +kernel
theorem dX2_readClause_137 : decode cX2_readClause 137 = .ok (.bipush 6, 2) := by decide +kernel
theorem dX2_readClause_139 : decode cX2_readClause 139 = .ok (.aload_n 0, 1) := by decide +kernel
theorem dX2_readClause_140 : decode cX2_readClause 140 = .ok (.bipush 7, 2) := by decide +kernel
theorem dX2_readClause_142 : decode cX2_readClause 142 = .ok (.invokevirtual 120, 3) := by decide +kernel
theorem dX2_readClause_145 : decode cX2_readClause 145 = .ok (.iconst (-1), 1) := by decide +kernel
theorem dX2_readClause_146 : decode cX2_readClause 146 = .ok (.invokevirtual 123, 3) := by decide +kernel
theorem dX2_readClause_149 : decode cX2_readClause 149 = .ok (.aload_n 0, 1) := by decide +kernel
theorem dX2_readClause_150 : decode cX2_readClause 150 = .ok (.bipush 34, 2) := by decide +kernel
theorem dX2_readClause_152 : decode cX2_readClause 152 = .ok (.invokevirtual 126, 3) := by decide +kernel
theorem dX2_readClause_155 : decode cX2_readClause 155 = .ok (.return_, 1) := by decide +kernel
theorem dX2_readDeed_0 : decode cX2_readDeed 0 = .ok (.aload_n 0, 1) := by decide +kernel
theorem dX2_readDeed_1 : decode cX2_readDeed 1 = .ok (.bipush 7, 2) := by decide +kernel
theorem dX2_readDeed_3 : decode cX2_readDeed 3 = .ok (.invokevirtual 120, 3) := by decide +kernel
theorem dX2_readDeed_6 : decode cX2_readDeed 6 = .ok (.istore 4, 2) := by decide +kernel
theorem dX2_readDeed_8 : decode cX2_readDeed 8 = .ok (.aload_n 0, 1) := by decide +kernel
theorem dX2_readDeed_9 : decode cX2_readDeed 9 = .ok (.iload_n 2, 1) := by decide +kernel
theorem dX2_readDeed_10 : decode cX2_readDeed 10 = .ok (.invokevirtual 126, 3) := by decide +kernel
theorem dX2_readDeed_13 : decode cX2_readDeed 13 = .ok (.aload_n 0, 1) := by decide +kernel
theorem dX2_readDeed_14 : decode cX2_readDeed 14 = .ok (.iload_n 3, 1) := by decide +kernel
theorem dX2_readDeed_15 : decode cX2_readDeed 15 = .ok (.invokevirtual 120, 3) := by decide +kernel
theorem dX2_readDeed_18 : decode cX2_readDeed 18 = .ok (.istore 5, 2) := by decide +kernel
theorem dX2_readDeed_20 : decode cX2_readDeed 20 = .ok (.aload_n 0, 1) := by decide +kernel
theorem dX2_readDeed_21 : decode cX2_readDeed 21 = .ok (.getfield 40, 3) := by decide +kernel
theorem dX2_readDeed_24 : decode cX2_readDeed 24 = .ok (.iload_n 1, 1) := by decide +kernel
theorem dX2_readDeed_25 : decode cX2_readDeed 25 = .ok (.iload 4, 2) := by decide +kernel
theorem dX2_readDeed_27 : decode cX2_readDeed 27 = .ok (.iload 5, 2) := by decide +kernel
theorem dX2_readDeed_29 : decode cX2_readDeed 29 = .ok (.invokevirtual 123, 3) := by decide +kernel
theorem dX2_readDeed_32 : decode cX2_readDeed 32 = .ok (.return_, 1) := by decide +kernel
theorem dX2_readRubs_0 : decode cX2_readRubs 0 = .ok (.aload_n 0, 1) := by decide +kernel
theorem dX2_readRubs_1 : decode cX2_readRubs 1 = .ok (.bipush 18, 2) := by decide +kernel
theorem dX2_readRubs_3 : decode cX2_readRubs 3 = .ok (.putfield 34, 3) := by decide +kernel
theorem dX2_readRubs_6 : decode cX2_readRubs 6 = .ok (.aload_n 0, 1) := by decide +kernel
theorem dX2_readRubs_7 : decode cX2_readRubs 7 = .ok (.getfield 40, 3) := by decide +kernel
theorem dX2_readRubs_10 : decode cX2_readRubs 10 = .ok (.aload_n 0, 1) := by decide +kernel
theorem dX2_readRubs_11 : decode cX2_readRubs 11 = .ok (.getfield 40, 3) := by decide +kernel
theorem dX2_readRubs_14 : decode cX2_readRubs 14 = .ok (.getfield 129, 3) := by decide +kernel
theorem dX2_readRubs_17 : decode cX2_readRubs 17 = .ok (.putfield 100, 3) := by decide +kernel
theorem dX2_readRubs_20 : decode cX2_readRubs 20 = .ok (.aload_n 0, 1) := by decide +kernel
theorem dX2_readRubs_21 : decode cX2_readRubs 21 = .ok (.iconst 0, 1) := by decide +kernel
theorem dX2_readRubs_22 : decode cX2_readRubs 22 = .ok (.invokevirtual 132, 3) := by decide +kernel
theorem dX2_readRubs_25 : decode cX2_readRubs 25 = .ok (.aload_n 0, 1) := by decide +kernel
theorem dX2_readRubs_26 : decode cX2_readRubs 26 = .ok (.getfield 40, 3) := by decide +kernel
theorem dX2_readRubs_29 : decode cX2_readRubs 29 = .ok (.aload_n 0, 1) := by decide +kernel
theorem dX2_readRubs_30 : decode cX2_readRubs 30 = .ok (.getfield 40, 3) := by decide +kernel
theorem dX2_readRubs_33 : decode cX2_readRubs 33 = .ok (.getfield 129, 3) := by decide +kernel
theorem dX2_readRubs_36 : decode cX2_readRubs 36 = .ok (.putfield 135, 3) := by decide +kernel
theorem dX2_readRubs_39 : decode cX2_readRubs 39 = .ok (.aload_n 0, 1) := by decide +kernel
theorem dX2_readRubs_40 : decode cX2_readRubs 40 = .ok (.getfield 40, 3) := by decide +kernel
theorem dX2_readRubs_43 : decode cX2_readRubs 43 = .ok (.iconst 1, 1) := by decide +kernel
theorem dX2_readRubs_44 : decode cX2_readRubs 44 = .ok (.iconst (-1), 1) := by decide +kernel
theorem dX2_readRubs_45 : decode cX2_readRubs 45 = .ok (.iconst (-1), 1) := by decide +kernel
theorem dX2_readRubs_46 : decode cX2_readRubs 46 = .ok (.invokevirtual 123, 3) := by decide +kernel
theorem dX2_readRubs_49 : decode cX2_readRubs 49 = .ok (.return_, 1) := by decide +kernel
theorem dX2_readSees_0 : decode cX2_readSees 0 = .ok (.aload_n 0, 1) := by decide +kernel
theorem dX2_readSees_1 : decode cX2_readSees 1 = .ok (.bipush 21, 2) := by decide +kernel
theorem dX2_readSees_3 : decode cX2_readSees 3 = .ok (.putfield 34, 3) := by decide +kernel
theorem dX2_readSees_6 : decode cX2_readSees 6 = .ok (.aload_n 0, 1) := by decide +kernel
theorem dX2_readSees_7 : decode cX2_readSees 7 = .ok (.getfield 40, 3) := by decide +kernel
theorem dX2_readSees_10 : decode cX2_readSees 10 = .ok (.aload_n 0, 1) := by decide +kernel
theorem dX2_readSees_11 : decode cX2_readSees 11 = .ok (.getfield 40, 3) := by decide +kernel
theorem dX2_readSees_14 : decode cX2_readSees 14 = .ok (.getfield 129, 3) := by decide +kernel
theorem dX2_readSees_17 : decode cX2_readSees 17 = .ok (.putfield 97, 3) := by decide +kernel
theorem dX2_readSees_20 : decode cX2_readSees 20 = .ok (.iconst 0, 1) := by decide +kernel
theorem dX2_readSees_21 : decode cX2_readSees 21 = .ok (.istore_n 1, 1) := by decide +kernel
theorem dX2_readSees_22 : decode cX2_readSees 22 = .ok (.aload_n 0, 1) := by decide +kernel
theorem dX2_readSees_23 : decode cX2_readSees 23 = .ok (.iconst 0, 1) := by decide +kernel
theorem dX2_readSees_24 : decode cX2_readSees 24 = .ok (.invokevirtual 138, 3) := by decide +kernel
theorem dX2_readSees_27 : decode cX2_readSees 27 = .ok (.iconst 0, 1) := by decide +kernel
theorem dX2_readSees_28 : decode cX2_readSees 28 = .ok (.istore_n 2, 1) := by decide +kernel
theorem dX2_readSees_29 : decode cX2_readSees 29 = .ok (.iload_n 2, 1) := by decide +kernel
theorem dX2_readSees_30 : decode cX2_readSees 30 = .ok (.sipush 300, 3) := by decide +kernel
theorem dX2_readSees_33 : decode cX2_readSees 33 = .ok (.if_icmp .ge 116, 3) := by decide +kernel
theorem dX2_readSees_36 : decode cX2_readSees 36 = .ok (.aload_n 0, 1) := by decide +kernel
theorem dX2_readSees_37 : decode cX2_readSees 37 = .ok (.getfield 18, 3) := by decide +kernel
theorem dX2_readSees_40 : decode cX2_readSees 40 = .ok (.aload_n 0, 1) := by decide +kernel
theorem dX2_readSees_41 : decode cX2_readSees 41 = .ok (.getfield 31, 3) := by decide +kernel
theorem dX2_readSees_44 : decode cX2_readSees 44 = .ok (.iaload, 1) := by decide +kernel
theorem dX2_readSees_45 : decode cX2_readSees 45 = .ok (.bipush 11, 2) := by decide +kernel
theorem dX2_readSees_47 : decode cX2_readSees 47 = .ok (.if_icmp .eq 17, 3) := by decide +kernel
theorem dX2_readSees_50 : decode cX2_readSees 50 = .ok (.aload_n 0, 1) := by decide +kernel
theorem dX2_readSees_51 : decode cX2_readSees 51 = .ok (.getfield 18, 3) := by decide +kernel
theorem dX2_readSees_54 : decode cX2_readSees 54 = .ok (.aload_n 0, 1) := by decide +kernel
theorem dX2_readSees_55 : decode cX2_readSees 55 = .ok (.getfield 31, 3) := by decide +kernel
theorem dX2_readSees_58 : decode cX2_readSees 58 = .ok (.iaload, 1) := by decide +kernel
theorem dX2_readSees_59 : decode cX2_readSees 59 = .ok (.bipush 10, 2) := by decide +kernel
theorem dX2_readSees_61 : decode cX2_readSees 61 = .ok (.if_icmp .ne 88, 3) := by decide +kernel
theorem dX2_readSees_64 : decode cX2_readSees 64 = .ok (.aload_n 0, 1) := by decide +kernel
theorem dX2_readSees_65 : decode cX2_readSees 65 = .ok (.getfield 18, 3) := by decide +kernel
theorem dX2_readSees_68 : decode cX2_readSees 68 = .ok (.aload_n 0, 1) := by decide +kernel
theorem dX2_readSees_69 : decode cX2_readSees 69 = .ok (.getfield 31, 3) := by decide +kernel
theorem dX2_readSees_72 : decode cX2_readSees 72 = .ok (.iaload, 1) := by decide +kernel
theorem dX2_readSees_73 : decode cX2_readSees 73 = .ok (.bipush 11, 2) := by decide +kernel
theorem dX2_readSees_75 : decode cX2_readSees 75 = .ok (.if_icmp .ne 7, 3) := by decide +kernel
theorem dX2_readSees_78 : decode cX2_readSees 78 = .ok (.iconst 1, 1) := by decide +kernel
theorem dX2_readSees_79 : decode cX2_readSees 79 = .ok (.goto 4, 3) := by decide +kernel
theorem dX2_readSees_82 : decode cX2_readSees 82 = .ok (.iconst 0, 1) := by decide +kernel
theorem dX2_readSees_83 : decode cX2_readSees 83 = .ok (.istore_n 3, 1) := by decide +kernel
theorem dX2_readSees_84 : decode cX2_readSees 84 = .ok (.iload_n 3, 1) := by decide +kernel
theorem dX2_readSees_85 : decode cX2_readSees 85 = .ok (.ifCond .ne 16, 3) := by decide +kernel
theorem dX2_readSees_88 : decode cX2_readSees 88 = .ok (.iload_n 1, 1) := by decide +kernel
theorem dX2_readSees_89 : decode cX2_readSees 89 = .ok (.ifCond .eq 12, 3) := by decide +kernel
theorem dX2_readSees_92 : decode cX2_readSees 92 = .ok (.aload_n 0, 1) := by decide +kernel
theorem dX2_readSees_93 : decode cX2_readSees 93 = .ok (.getfield 40, 3) := by decide +kernel
theorem dX2_readSees_96 : decode cX2_readSees 96 = .ok (.bipush 10, 2) := by decide +kernel
theorem dX2_readSees_98 : decode cX2_readSees 98 = .ok (.invokevirtual 141, 3) := by decide +kernel
theorem dX2_readSees_101 : decode cX2_readSees 101 = .ok (.iload_n 1, 1) := by decide +kernel
theorem dX2_readSees_102 : decode cX2_readSees 102 = .ok (.ifCond .ne 7, 3) := by decide +kernel
theorem dX2_readSees_105 : decode cX2_readSees 105 = .ok (.iload_n 3, 1) := by decide +kernel
theorem dX2_readSees_106 : decode cX2_readSees 106 = .ok (.ifCond .ne 7, 3) := by decide +kernel
theorem dX2_readSees_109 : decode cX2_readSees 109 = .ok (.iconst 1, 1) := by decide +kernel
theorem dX2_readSees_110 : decode cX2_readSees 110 = .ok (.goto 4, 3) := by decide +kernel
theorem dX2_readSees_113 : decode cX2_readSees 113 = .ok (.iconst 0, 1) := by decide +kernel
theorem dX2_readSees_114 : decode cX2_readSees 114 = .ok (.istore_n 1, 1) := by decide +kernel
theorem dX2_readSees_115 : decode cX2_readSees 115 = .ok (.aload_n 0, 1) := by decide +kernel
theorem dX2_readSees_116 : decode cX2_readSees 116 = .ok (.dup, 1) := by decide +kernel
theorem dX2_readSees_117 : decode cX2_readSees 117 = .ok (.getfield 31, 3) := by decide +kernel
theorem dX2_readSees_120 : decode cX2_readSees 120 = .ok (.iconst 1, 1) := by decide +kernel
theorem dX2_readSees_121 : decode cX2_readSees 121 = .ok (.iadd, 1) := by decide +kernel
theorem dX2_readSees_122 : decode cX2_readSees 122 = .ok (.putfield 31, 3) := by decide +kernel
theorem dX2_readSees_125 : decode cX2_readSees 125 = .ok (.aload_n 0, 1) := by decide +kernel
theorem dX2_readSees_126 : decode cX2_readSees 126 = .ok (.iconst 0, 1) := by decide +kernel
theorem dX2_readSees_127 : decode cX2_readSees 127 = .ok (.invokevirtual 138, 3) := by decide +kernel
theorem dX2_readSees_130 : decode cX2_readSees 130 = .ok (.iload_n 3, 1) := by decide +kernel
theorem dX2_readSees_131 : decode cX2_readSees 131 = .ok (.ifCond .eq 12, 3) := by decide +kernel
theorem dX2_readSees_134 : decode cX2_readSees 134 = .ok (.aload_n 0, 1) := by decide +kernel
theorem dX2_readSees_135 : decode cX2_readSees 135 = .ok (.getfield 40, 3) := by decide +kernel
theorem dX2_readSees_138 : decode cX2_readSees 138 = .ok (.bipush 11, 2) := by decide +kernel
theorem dX2_readSees_140 : decode cX2_readSees 140 = .ok (.invokevirtual 141, 3) := by decide +kernel
theorem dX2_readSees_143 : decode cX2_readSees 143 = .ok (.iinc 2 1, 3) := by decide +kernel
theorem dX2_readSees_146 : decode cX2_readSees 146 = .ok (.goto (-117), 3) := by decide +kernel
theorem dX2_readSees_149 : decode cX2_readSees 149 = .ok (.iload_n 1, 1) := by decide +kernel
theorem dX2_readSees_150 : decode cX2_readSees 150 = .ok (.ifCond .eq 12, 3) := by decide +kernel
theorem dX2_readSees_153 : decode cX2_readSees 153 = .ok (.aload_n 0, 1) := by decide +kernel
theorem dX2_readSees_154 : decode cX2_readSees 154 = .ok (.getfield 40, 3) := by decide +kernel
theorem dX2_readSees_157 : decode cX2_readSees 157 = .ok (.bipush 10, 2) := by decide +kernel
theorem dX2_readSees_159 : decode cX2_readSees 159 = .ok (.invokevirtual 141, 3) := by decide +kernel
theorem dX2_readSees_162 : decode cX2_readSees 162 = .ok (.aload_n 0, 1) := by decide +kernel
theorem dX2_readSees_163 : decode cX2_readSees 163 = .ok (.getfield 40, 3) := by decide +kernel
theorem dX2_readSees_166 : decode cX2_readSees 166 = .ok (.aload_n 0, 1) := by decide +kernel
theorem dX2_readSees_167 : decode cX2_readSees 167 = .ok (.getfield 40, 3) := by decide +kernel
theorem dX2_readSees_170 : decode cX2_readSees 170 = .ok (.getfield 129, 3) := by decide +kernel
theorem dX2_readSees_173 : decode cX2_readSees 173 = .ok (.putfield 144, 3) := by decide +kernel
theorem dX2_readSees_176 : decode cX2_readSees 176 = .ok (.aload_n 0, 1) := by decide +kernel
theorem dX2_readSees_177 : decode cX2_readSees 177 = .ok (.getfield 40, 3) := by decide +kernel
theorem dX2_readSees_180 : decode cX2_readSees 180 = .ok (.iconst 0, 1) := by decide +kernel
theorem dX2_readSees_181 : decode cX2_readSees 181 = .ok (.iconst (-1), 1) := by decide +kernel
theorem dX2_readSees_182 : decode cX2_readSees 182 = .ok (.iconst (-1), 1) := by decide +kernel
theorem dX2_readSees_183 : decode cX2_readSees 183 = .ok (.invokevirtual 123, 3) := by decide +kernel
theorem dX2_readSees_186 : decode cX2_readSees 186 = .ok (.return_, 1) := by decide +kernel
theorem dX2_readAsk_0 : decode cX2_readAsk 0 = .ok (.aload_n 0, 1) := by decide +kernel
theorem dX2_readAsk_1 : decode cX2_readAsk 1 = .ok (.getfield 18, 3) := by decide +kernel
theorem dX2_readAsk_4 : decode cX2_readAsk 4 = .ok (.aload_n 0, 1) := by decide +kernel
theorem dX2_readAsk_5 : decode cX2_readAsk 5 = .ok (.getfield 31, 3) := by decide +kernel
theorem dX2_readAsk_8 : decode cX2_readAsk 8 = .ok (.iaload, 1) := by decide +kernel
theorem dX2_readAsk_9 : decode cX2_readAsk 9 = .ok (.bipush 12, 2) := by decide +kernel
theorem dX2_readAsk_11 : decode cX2_readAsk 11 = .ok (.if_icmp .ne 42, 3) := by decide +kernel
theorem dX2_readAsk_14 : decode cX2_readAsk 14 = .ok (.iload_n 1, 1) := by decide +kernel
theorem dX2_readAsk_15 : decode cX2_readAsk 15 = .ok (.bipush 8, 2) := by decide +kernel
theorem dX2_readAsk_17 : decode cX2_readAsk 17 = .ok (.if_icmp .lt 9, 3) := by decide +kernel
theorem dX2_readAsk_20 : decode cX2_readAsk 20 = .ok (.aload_n 0, 1) := by decide +kernel
theorem dX2_readAsk_21 : decode cX2_readAsk 21 = .ok (.iconst 3, 1) := by decide +kernel
theorem dX2_readAsk_22 : decode cX2_readAsk 22 = .ok (.invokevirtual 93, 3) := by decide +kernel
theorem dX2_readAsk_25 : decode cX2_readAsk 25 = .ok (.return_, 1) := by decide +kernel
theorem dX2_readAsk_26 : decode cX2_readAsk 26 = .ok (.aload_n 0, 1) := by decide +kernel
theorem dX2_readAsk_27 : decode cX2_readAsk 27 = .ok (.dup, 1) := by decide +kernel
theorem dX2_readAsk_28 : decode cX2_readAsk 28 = .ok (.getfield 31, 3) := by decide +kernel
theorem dX2_readAsk_31 : decode cX2_readAsk 31 = .ok (.iconst 1, 1) := by decide +kernel
theorem dX2_readAsk_32 : decode cX2_readAsk 32 = .ok (.iadd, 1) := by decide +kernel
theorem dX2_readAsk_33 : decode cX2_readAsk 33 = .ok (.putfield 31, 3) := by decide +kernel
theorem dX2_readAsk_36 : decode cX2_readAsk 36 = .ok (.aload_n 0, 1) := by decide +kernel
theorem dX2_readAsk_37 : decode cX2_readAsk 37 = .ok (.iload_n 1, 1) := by decide +kernel
theorem dX2_readAsk_38 : decode cX2_readAsk 38 = .ok (.iconst 1, 1) := by decide +kernel
theorem dX2_readAsk_39 : decode cX2_readAsk 39 = .ok (.iadd, 1) := by decide +kernel
theorem dX2_readAsk_40 : decode cX2_readAsk 40 = .ok (.invokevirtual 138, 3) := by decide +kernel
theorem dX2_readAsk_43 : decode cX2_readAsk 43 = .ok (.aload_n 0, 1) := by decide +kernel
theorem dX2_readAsk_44 : decode cX2_readAsk 44 = .ok (.getfield 40, 3) := by decide +kernel
theorem dX2_readAsk_47 : decode cX2_readAsk 47 = .ok (.bipush 12, 2) := by decide +kernel
theorem dX2_readAsk_49 : decode cX2_readAsk 49 = .ok (.invokevirtual 141, 3) := by decide +kernel
theorem dX2_readAsk_52 : decode cX2_readAsk 52 = .ok (.return_, 1) := by decide +kernel
theorem dX2_readAsk_53 : decode cX2_readAsk 53 = .ok (.aload_n 0, 1) := by decide +kernel
theorem dX2_readAsk_54 : decode cX2_readAsk 54 = .ok (.iload_n 1, 1) := by decide +kernel
theorem dX2_readAsk_55 : decode cX2_readAsk 55 = .ok (.invokevirtual 132, 3) := by decide +kernel
theorem dX2_readAsk_58 : decode cX2_readAsk 58 = .ok (.aload_n 0, 1) := by decide +kernel
theorem dX2_readAsk_59 : decode cX2_readAsk 59 = .ok (.getfield 18, 3) := by decide +kernel
theorem dX2_readAsk_62 : decode cX2_readAsk 62 = .ok (.aload_n 0, 1) := by decide +kernel
theorem dX2_readAsk_63 : decode cX2_readAsk 63 = .ok (.getfield 31, 3) := by decide +kernel
theorem dX2_readAsk_66 : decode cX2_readAsk 66 = .ok (.iaload, 1) := by decide +kernel
theorem dX2_readAsk_67 : decode cX2_readAsk 67 = .ok (.istore_n 2, 1) := by decide +kernel
theorem dX2_readAsk_68 : decode cX2_readAsk 68 = .ok (.iload_n 2, 1) := by decide +kernel
theorem dX2_readAsk_69 : decode cX2_readAsk 69 = .ok (.bipush 22, 2) := by decide +kernel
theorem dX2_readAsk_71 : decode cX2_readAsk 71 = .ok (.if_icmp .lt 9, 3) := by decide +kernel
theorem dX2_readAsk_74 : decode cX2_readAsk 74 = .ok (.iload_n 2, 1) := by decide +kernel
theorem dX2_readAsk_75 : decode cX2_readAsk 75 = .ok (.bipush 27, 2) := by decide +kernel
theorem dX2_readAsk_77 : decode cX2_readAsk 77 = .ok (.if_icmp .le 9, 3) := by decide +kernel
theorem dX2_readAsk_80 : decode cX2_readAsk 80 = .ok (.aload_n 0, 1) := by decide +kernel
theorem dX2_readAsk_81 : decode cX2_readAsk 81 = .ok (.iconst 1, 1) := by decide +kernel
theorem dX2_readAsk_82 : decode cX2_readAsk 82 = .ok (.invokevirtual 93, 3) := by decide +kernel
theorem dX2_readAsk_85 : decode cX2_readAsk 85 = .ok (.return_, 1) := by decide +kernel
theorem dX2_readAsk_86 : decode cX2_readAsk 86 = .ok (.aload_n 0, 1) := by decide +kernel
theorem dX2_readAsk_87 : decode cX2_readAsk 87 = .ok (.dup, 1) := by decide +kernel
theorem dX2_readAsk_88 : decode cX2_readAsk 88 = .ok (.getfield 31, 3) := by decide +kernel
theorem dX2_readAsk_91 : decode cX2_readAsk 91 = .ok (.iconst 1, 1) := by decide +kernel
theorem dX2_readAsk_92 : decode cX2_readAsk 92 = .ok (.iadd, 1) := by decide +kernel
theorem dX2_readAsk_93 : decode cX2_readAsk 93 = .ok (.putfield 31, 3) := by decide +kernel
theorem dX2_readAsk_96 : decode cX2_readAsk 96 = .ok (.aload_n 0, 1) := by decide +kernel
theorem dX2_readAsk_97 : decode cX2_readAsk 97 = .ok (.iload_n 1, 1) := by decide +kernel
theorem dX2_readAsk_98 : decode cX2_readAsk 98 = .ok (.invokevirtual 132, 3) := by decide +kernel
theorem dX2_readAsk_101 : decode cX2_readAsk 101 = .ok (.aload_n 0, 1) := by decide +kernel
theorem dX2_readAsk_102 : decode cX2_readAsk 102 = .ok (.getfield 40, 3) := by decide +kernel
theorem dX2_readAsk_105 : decode cX2_readAsk 105 = .ok (.iload_n 2, 1) := by decide +kernel
theorem dX2_readAsk_106 : decode cX2_readAsk 106 = .ok (.invokevirtual 141, 3) := by decide +kernel
theorem dX2_readAsk_109 : decode cX2_readAsk 109 = .ok (.return_, 1) := by decide +kernel
theorem dX2_readSum_0 : decode cX2_readSum 0 = .ok (.iconst (-1), 1) := by decide +kernel
theorem dX2_readSum_1 : decode cX2_readSum 1 = .ok (.istore_n 2, 1) := by decide +kernel
theorem dX2_readSum_2 : decode cX2_readSum 2 = .ok (.aload_n 0, 1) := by decide +kernel
theorem dX2_readSum_3 : decode cX2_readSum 3 = .ok (.iload_n 1, 1) := by decide +kernel
theorem dX2_readSum_4 : decode cX2_readSum 4 = .ok (.invokevirtual 147, 3) := by decide +kernel
theorem dX2_readSum_7 : decode cX2_readSum 7 = .ok (.iconst 0, 1) := by decide +kernel
theorem dX2_readSum_8 : decode cX2_readSum 8 = .ok (.istore_n 3, 1) := by decide +kernel
theorem dX2_readSum_9 : decode cX2_readSum 9 = .ok (.iload_n 3, 1) := by decide +kernel
theorem dX2_readSum_10 : decode cX2_readSum 10 = .ok (.sipush 300, 3) := by decide +kernel
theorem dX2_readSum_13 : decode cX2_readSum 13 = .ok (.if_icmp .ge 119, 3) := by decide +kernel
theorem dX2_readSum_16 : decode cX2_readSum 16 = .ok (.aload_n 0, 1) := by decide +kernel
theorem dX2_readSum_17 : decode cX2_readSum 17 = .ok (.getfield 18, 3) := by decide +kernel
theorem dX2_readSum_20 : decode cX2_readSum 20 = .ok (.aload_n 0, 1) := by decide +kernel
theorem dX2_readSum_21 : decode cX2_readSum 21 = .ok (.getfield 31, 3) := by decide +kernel
theorem dX2_readSum_24 : decode cX2_readSum 24 = .ok (.iaload, 1) := by decide +kernel
theorem dX2_readSum_25 : decode cX2_readSum 25 = .ok (.bipush 28, 2) := by decide +kernel
theorem dX2_readSum_27 : decode cX2_readSum 27 = .ok (.if_icmp .lt 105, 3) := by decide +kernel
theorem dX2_readSum_30 : decode cX2_readSum 30 = .ok (.aload_n 0, 1) := by decide +kernel
theorem dX2_readSum_31 : decode cX2_readSum 31 = .ok (.getfield 18, 3) := by decide +kernel
theorem dX2_readSum_34 : decode cX2_readSum 34 = .ok (.aload_n 0, 1) := by decide +kernel
theorem dX2_readSum_35 : decode cX2_readSum 35 = .ok (.getfield 31, 3) := by decide +kernel
theorem dX2_readSum_38 : decode cX2_readSum 38 = .ok (.iaload, 1) := by decide +kernel
theorem dX2_readSum_39 : decode cX2_readSum 39 = .ok (.bipush 31, 2) := by decide +kernel
theorem dX2_readSum_41 : decode cX2_readSum 41 = .ok (.if_icmp .gt 91, 3) := by decide +kernel
theorem dX2_readSum_44 : decode cX2_readSum 44 = .ok (.aload_n 0, 1) := by decide +kernel
theorem dX2_readSum_45 : decode cX2_readSum 45 = .ok (.getfield 18, 3) := by decide +kernel
theorem dX2_readSum_48 : decode cX2_readSum 48 = .ok (.aload_n 0, 1) := by decide +kernel
theorem dX2_readSum_49 : decode cX2_readSum 49 = .ok (.getfield 31, 3) := by decide +kernel
theorem dX2_readSum_52 : decode cX2_readSum 52 = .ok (.iaload, 1) := by decide +kernel
theorem dX2_readSum_53 : decode cX2_readSum 53 = .ok (.istore 4, 2) := by decide +kernel
theorem dX2_readSum_55 : decode cX2_readSum 55 = .ok (.iload 4, 2) := by decide +kernel
theorem dX2_readSum_57 : decode cX2_readSum 57 = .ok (.bipush 30, 2) := by decide +kernel
theorem dX2_readSum_59 : decode cX2_readSum 59 = .ok (.if_icmp .eq 10, 3) := by decide +kernel
theorem dX2_readSum_62 : decode cX2_readSum 62 = .ok (.iload 4, 2) := by decide +kernel
theorem dX2_readSum_64 : decode cX2_readSum 64 = .ok (.bipush 31, 2) := by decide +kernel
theorem dX2_readSum_66 : decode cX2_readSum 66 = .ok (.if_icmp .ne 7, 3) := by decide +kernel
theorem dX2_readSum_69 : decode cX2_readSum 69 = .ok (.iconst 1, 1) := by decide +kernel
theorem dX2_readSum_70 : decode cX2_readSum 70 = .ok (.goto 4, 3) := by decide +kernel
theorem dX2_readSum_73 : decode cX2_readSum 73 = .ok (.iconst 0, 1) := by decide +kernel
theorem dX2_readSum_74 : decode cX2_readSum 74 = .ok (.istore 5, 2) := by decide +kernel
theorem dX2_readSum_76 : decode cX2_readSum 76 = .ok (.iload 5, 2) := by decide +kernel
theorem dX2_readSum_78 : decode cX2_readSum 78 = .ok (.ifCond .ne 19, 3) := by decide +kernel
theorem dX2_readSum_81 : decode cX2_readSum 81 = .ok (.iload_n 2, 1) := by decide +kernel
theorem dX2_readSum_82 : decode cX2_readSum 82 = .ok (.iconst (-1), 1) := by decide +kernel
theorem dX2_readSum_83 : decode cX2_readSum 83 = .ok (.if_icmp .eq 11, 3) := by decide +kernel
theorem dX2_readSum_86 : decode cX2_readSum 86 = .ok (.aload_n 0, 1) := by decide +kernel
theorem dX2_readSum_87 : decode cX2_readSum 87 = .ok (.getfield 40, 3) := by decide +kernel
theorem dX2_readSum_90 : decode cX2_readSum 90 = .ok (.iload_n 2, 1) := by decide +kernel
theorem dX2_readSum_91 : decode cX2_readSum 91 = .ok (.invokevirtual 141, 3) := by decide +kernel
theorem dX2_readSum_94 : decode cX2_readSum 94 = .ok (.iload 4, 2) := by decide +kernel
theorem dX2_readSum_96 : decode cX2_readSum 96 = .ok (.istore_n 2, 1) := by decide +kernel
theorem dX2_readSum_97 : decode cX2_readSum 97 = .ok (.aload_n 0, 1) := by decide +kernel
theorem dX2_readSum_98 : decode cX2_readSum 98 = .ok (.dup, 1) := by decide +kernel
theorem dX2_readSum_99 : decode cX2_readSum 99 = .ok (.getfield 31, 3) := by decide +kernel
theorem dX2_readSum_102 : decode cX2_readSum 102 = .ok (.iconst 1, 1) := by decide +kernel
theorem dX2_readSum_103 : decode cX2_readSum 103 = .ok (.iadd, 1) := by decide +kernel
theorem dX2_readSum_104 : decode cX2_readSum 104 = .ok (.putfield 31, 3) := by decide +kernel
theorem dX2_readSum_107 : decode cX2_readSum 107 = .ok (.aload_n 0, 1) := by decide +kernel
theorem dX2_readSum_108 : decode cX2_readSum 108 = .ok (.iload_n 1, 1) := by decide +kernel
theorem dX2_readSum_109 : decode cX2_readSum 109 = .ok (.invokevirtual 147, 3) := by decide +kernel
theorem dX2_readSum_112 : decode cX2_readSum 112 = .ok (.iload 5, 2) := by decide +kernel
theorem dX2_readSum_114 : decode cX2_readSum 114 = .ok (.ifCond .eq 12, 3) := by decide +kernel
theorem dX2_readSum_117 : decode cX2_readSum 117 = .ok (.aload_n 0, 1) := by decide +kernel
theorem dX2_readSum_118 : decode cX2_readSum 118 = .ok (.getfield 40, 3) := by decide +kernel
theorem dX2_readSum_121 : decode cX2_readSum 121 = .ok (.iload 4, 2) := by decide +kernel
theorem dX2_readSum_123 : decode cX2_readSum 123 = .ok (.invokevirtual 141, 3) := by decide +kernel
theorem dX2_readSum_126 : decode cX2_readSum 126 = .ok (.iinc 3 1, 3) := by decide +kernel
theorem dX2_readSum_129 : decode cX2_readSum 129 = .ok (.goto (-120), 3) := by decide +kernel
theorem dX2_readSum_132 : decode cX2_readSum 132 = .ok (.iload_n 2, 1) := by decide +kernel
theorem dX2_readSum_133 : decode cX2_readSum 133 = .ok (.iconst (-1), 1) := by decide +kernel
theorem dX2_readSum_134 : decode cX2_readSum 134 = .ok (.if_icmp .eq 11, 3) := by decide +kernel
theorem dX2_readSum_137 : decode cX2_readSum 137 = .ok (.aload_n 0, 1) := by decide +kernel
theorem dX2_readSum_138 : decode cX2_readSum 138 = .ok (.getfield 40, 3) := by decide +kernel
theorem dX2_readSum_141 : decode cX2_readSum 141 = .ok (.iload_n 2, 1) := by decide +kernel
theorem dX2_readSum_142 : decode cX2_readSum 142 = .ok (.invokevirtual 141, 3) := by decide +kernel
theorem dX2_readSum_145 : decode cX2_readSum 145 = .ok (.return_, 1) := by decide +kernel
theorem dX2_readOne_0 : decode cX2_readOne 0 = .ok (.aload_n 0, 1) := by decide +kernel
theorem dX2_readOne_1 : decode cX2_readOne 1 = .ok (.getfield 18, 3) := by decide +kernel
theorem dX2_readOne_4 : decode cX2_readOne 4 = .ok (.aload_n 0, 1) := by decide +kernel
theorem dX2_readOne_5 : decode cX2_readOne 5 = .ok (.getfield 31, 3) := by decide +kernel
theorem dX2_readOne_8 : decode cX2_readOne 8 = .ok (.iaload, 1) := by decide +kernel
theorem dX2_readOne_9 : decode cX2_readOne 9 = .ok (.istore_n 2, 1) := by decide +kernel
theorem dX2_readOne_10 : decode cX2_readOne 10 = .ok (.iload_n 2, 1) := by decide +kernel
theorem dX2_readOne_11 : decode cX2_readOne 11 = .ok (.bipush 35, 2) := by decide +kernel
theorem dX2_readOne_13 : decode cX2_readOne 13 = .ok (.if_icmp .ne 20, 3) := by decide +kernel
theorem dX2_readOne_16 : decode cX2_readOne 16 = .ok (.aload_n 0, 1) := by decide +kernel
theorem dX2_readOne_17 : decode cX2_readOne 17 = .ok (.getfield 40, 3) := by decide +kernel
theorem dX2_readOne_20 : decode cX2_readOne 20 = .ok (.aload_n 0, 1) := by decide +kernel
theorem dX2_readOne_21 : decode cX2_readOne 21 = .ok (.sipush 9999, 3) := by decide +kernel
theorem dX2_readOne_24 : decode cX2_readOne 24 = .ok (.invokevirtual 120, 3) := by decide +kernel
theorem dX2_readOne_27 : decode cX2_readOne 27 = .ok (.invokevirtual 150, 3) := by decide +kernel
theorem dX2_readOne_30 : decode cX2_readOne 30 = .ok (.goto 142, 3) := by decide +kernel
theorem dX2_readOne_33 : decode cX2_readOne 33 = .ok (.iload_n 2, 1) := by decide +kernel
theorem dX2_readOne_34 : decode cX2_readOne 34 = .ok (.bipush 13, 2) := by decide +kernel
theorem dX2_readOne_36 : decode cX2_readOne 36 = .ok (.if_icmp .lt 44, 3) := by decide +kernel
theorem dX2_readOne_39 : decode cX2_readOne 39 = .ok (.iload_n 2, 1) := by decide +kernel
theorem dX2_readOne_40 : decode cX2_readOne 40 = .ok (.bipush 21, 2) := by decide +kernel
theorem dX2_readOne_42 : decode cX2_readOne 42 = .ok (.if_icmp .gt 38, 3) := by decide +kernel
theorem dX2_readOne_45 : decode cX2_readOne 45 = .ok (.iload_n 2, 1) := by decide +kernel
theorem dX2_readOne_46 : decode cX2_readOne 46 = .ok (.aload_n 0, 1) := by decide +kernel
theorem dX2_readOne_47 : decode cX2_readOne 47 = .ok (.getfield 34, 3) := by decide +kernel
theorem dX2_readOne_50 : decode cX2_readOne 50 = .ok (.if_icmp .le 9, 3) := by decide +kernel
theorem dX2_readOne_53 : decode cX2_readOne 53 = .ok (.aload_n 0, 1) := by decide +kernel
theorem dX2_readOne_54 : decode cX2_readOne 54 = .ok (.iconst 5, 1) := by decide +kernel
theorem dX2_readOne_55 : decode cX2_readOne 55 = .ok (.invokevirtual 93, 3) := by decide +kernel
theorem dX2_readOne_58 : decode cX2_readOne 58 = .ok (.return_, 1) := by decide +kernel
theorem dX2_readOne_59 : decode cX2_readOne 59 = .ok (.aload_n 0, 1) := by decide +kernel
theorem dX2_readOne_60 : decode cX2_readOne 60 = .ok (.getfield 40, 3) := by decide +kernel
theorem dX2_readOne_63 : decode cX2_readOne 63 = .ok (.iload_n 2, 1) := by decide +kernel
theorem dX2_readOne_64 : decode cX2_readOne 64 = .ok (.invokevirtual 141, 3) := by decide +kernel
theorem dX2_readOne_67 : decode cX2_readOne 67 = .ok (.aload_n 0, 1) := by decide +kernel
theorem dX2_readOne_68 : decode cX2_readOne 68 = .ok (.dup, 1) := by decide +kernel
theorem dX2_readOne_69 : decode cX2_readOne 69 = .ok (.getfield 31, 3) := by decide +kernel
theorem dX2_readOne_72 : decode cX2_readOne 72 = .ok (.iconst 1, 1) := by decide +kernel
theorem dX2_readOne_73 : decode cX2_readOne 73 = .ok (.iadd, 1) := by decide +kernel
theorem dX2_readOne_74 : decode cX2_readOne 74 = .ok (.putfield 31, 3) := by decide +kernel
theorem dX2_readOne_77 : decode cX2_readOne 77 = .ok (.goto 95, 3) := by decide +kernel
theorem dX2_readOne_80 : decode cX2_readOne 80 = .ok (.iload_n 2, 1) := by decide +kernel
theorem dX2_readOne_81 : decode cX2_readOne 81 = .ok (.bipush 32, 2) := by decide +kernel
theorem dX2_readOne_83 : decode cX2_readOne 83 = .ok (.if_icmp .eq 17, 3) := by decide +kernel
theorem dX2_readOne_86 : decode cX2_readOne 86 = .ok (.iload_n 2, 1) := by decide +kernel
theorem dX2_readOne_87 : decode cX2_readOne 87 = .ok (.bipush 29, 2) := by decide +kernel
theorem dX2_readOne_89 : decode cX2_readOne 89 = .ok (.if_icmp .eq 11, 3) := by decide +kernel
theorem dX2_readOne_92 : decode cX2_readOne 92 = .ok (.aload_n 0, 1) := by decide +kernel
theorem dX2_readOne_93 : decode cX2_readOne 93 = .ok (.iconst 1, 1) := by decide +kernel
theorem dX2_readOne_94 : decode cX2_readOne 94 = .ok (.invokevirtual 93, 3) := by decide +kernel
theorem dX2_readOne_97 : decode cX2_readOne 97 = .ok (.goto 75, 3) := by decide +kernel
theorem dX2_readOne_100 : decode cX2_readOne 100 = .ok (.iload_n 1, 1) := by decide +kernel
theorem dX2_readOne_101 : decode cX2_readOne 101 = .ok (.bipush 8, 2) := by decide +kernel
theorem dX2_readOne_103 : decode cX2_readOne 103 = .ok (.if_icmp .lt 11, 3) := by decide +kernel
theorem dX2_readOne_106 : decode cX2_readOne 106 = .ok (.aload_n 0, 1) := by decide +kernel
theorem dX2_readOne_107 : decode cX2_readOne 107 = .ok (.iconst 3, 1) := by decide +kernel
theorem dX2_readOne_108 : decode cX2_readOne 108 = .ok (.invokevirtual 93, 3) := by decide +kernel
theorem dX2_readOne_111 : decode cX2_readOne 111 = .ok (.goto 61, 3) := by decide +kernel
theorem dX2_readOne_114 : decode cX2_readOne 114 = .ok (.iload_n 2, 1) := by decide +kernel
theorem dX2_readOne_115 : decode cX2_readOne 115 = .ok (.bipush 32, 2) := by decide +kernel
theorem dX2_readOne_117 : decode cX2_readOne 117 = .ok (.if_icmp .ne 29, 3) := by decide +kernel
theorem dX2_readOne_120 : decode cX2_readOne 120 = .ok (.aload_n 0, 1) := by decide +kernel
theorem dX2_readOne_121 : decode cX2_readOne 121 = .ok (.dup, 1) := by decide +kernel
theorem dX2_readOne_122 : decode cX2_readOne 122 = .ok (.getfield 31, 3) := by decide +kernel
theorem dX2_readOne_125 : decode cX2_readOne 125 = .ok (.iconst 1, 1) := by decide +kernel
theorem dX2_readOne_126 : decode cX2_readOne 126 = .ok (.iadd, 1) := by decide +kernel
theorem dX2_readOne_127 : decode cX2_readOne 127 = .ok (.putfield 31, 3) := by decide +kernel
theorem dX2_readOne_130 : decode cX2_readOne 130 = .ok (.aload_n 0, 1) := by decide +kernel
theorem dX2_readOne_131 : decode cX2_readOne 131 = .ok (.iload_n 1, 1) := by decide +kernel
theorem dX2_readOne_132 : decode cX2_readOne 132 = .ok (.iconst 1, 1) := by decide +kernel
theorem dX2_readOne_133 : decode cX2_readOne 133 = .ok (.iadd, 1) := by decide +kernel
theorem dX2_readOne_134 : decode cX2_readOne 134 = .ok (.invokevirtual 132, 3) := by decide +kernel
theorem dX2_readOne_137 : decode cX2_readOne 137 = .ok (.aload_n 0, 1) := by decide +kernel
theorem dX2_readOne_138 : decode cX2_readOne 138 = .ok (.bipush 33, 2) := by decide +kernel
theorem dX2_readOne_140 : decode cX2_readOne 140 = .ok (.invokevirtual 126, 3) := by decide +kernel
theorem dX2_readOne_143 : decode cX2_readOne 143 = .ok (.goto 29, 3) := by decide +kernel
theorem dX2_readOne_146 : decode cX2_readOne 146 = .ok (.aload_n 0, 1) := by decide +kernel
theorem dX2_readOne_147 : decode cX2_readOne 147 = .ok (.dup, 1) := by decide +kernel
theorem dX2_readOne_148 : decode cX2_readOne 148 = .ok (.getfield 31, 3) := by decide +kernel
theorem dX2_readOne_151 : decode cX2_readOne 151 = .ok (.iconst 1, 1) := by decide +kernel
theorem dX2_readOne_152 : decode cX2_readOne 152 = .ok (.iadd, 1) := by decide +kernel
theorem dX2_readOne_153 : decode cX2_readOne 153 = .ok (.putfield 31, 3) := by decide +kernel
theorem dX2_readOne_156 : decode cX2_readOne 156 = .ok (.aload_n 0, 1) := by decide +kernel
theorem dX2_readOne_157 : decode cX2_readOne 157 = .ok (.iload_n 1, 1) := by decide +kernel
theorem dX2_readOne_158 : decode cX2_readOne 158 = .ok (.iconst 1, 1) := by decide +kernel
theorem dX2_readOne_159 : decode cX2_readOne 159 = .ok (.iadd, 1) := by decide +kernel
theorem dX2_readOne_160 : decode cX2_readOne 160 = .ok (.invokevirtual 147, 3) := by decide +kernel
theorem dX2_readOne_163 : decode cX2_readOne 163 = .ok (.aload_n 0, 1) := by decide +kernel
theorem dX2_readOne_164 : decode cX2_readOne 164 = .ok (.getfield 40, 3) := by decide +kernel
theorem dX2_readOne_167 : decode cX2_readOne 167 = .ok (.bipush 38, 2) := by decide +kernel
theorem dX2_readOne_169 : decode cX2_readOne 169 = .ok (.invokevirtual 141, 3) := by decide +kernel
theorem dX2_readOne_172 : decode cX2_readOne 172 = .ok (.return_, 1) := by decide +kernel
theorem dX3_init_0 : decode cX3_init 0 = .ok (.aload_n 0, 1) := by decide +kernel
theorem dX3_init_1 : decode cX3_init 1 = .ok (.invokespecial 3, 3) := by decide +kernel
theorem dX3_init_4 : decode cX3_init 4 = .ok (.aload_n 0, 1) := by decide +kernel
theorem dX3_init_5 : decode cX3_init 5 = .ok (.bipush 9, 2) := by decide +kernel
theorem dX3_init_7 : decode cX3_init 7 = .ok (.newarray .int, 2) := by decide +kernel
theorem dX3_init_9 : decode cX3_init 9 = .ok (.putfield 9, 3) := by decide +kernel
theorem dX3_init_12 : decode cX3_init 12 = .ok (.aload_n 0, 1) := by decide +kernel
theorem dX3_init_13 : decode cX3_init 13 = .ok (.bipush 32, 2) := by decide +kernel
theorem dX3_init_15 : decode cX3_init 15 = .ok (.newarray .int, 2) := by decide +kernel
theorem dX3_init_17 : decode cX3_init 17 = .ok (.putfield 15, 3) := by decide +kernel
theorem dX3_init_20 : decode cX3_init 20 = .ok (.return_, 1) := by decide +kernel
theorem dX3_nameEye_0 : decode cX3_nameEye 0 = .ok (.aload_n 0, 1) := by decide +kernel
theorem dX3_nameEye_1 : decode cX3_nameEye 1 = .ok (.getfield 9, 3) := by decide +kernel
theorem dX3_nameEye_4 : decode cX3_nameEye 4 = .ok (.iconst 0, 1) := by decide +kernel
theorem dX3_nameEye_5 : decode cX3_nameEye 5 = .ok (.iload_n 1, 1) := by decide +kernel
theorem dX3_nameEye_6 : decode cX3_nameEye 6 = .ok (.iastore, 1) := by decide +kernel
theorem dX3_nameEye_7 : decode cX3_nameEye 7 = .ok (.aload_n 0, 1) := by decide +kernel
theorem dX3_nameEye_8 : decode cX3_nameEye 8 = .ok (.getfield 9, 3) := by decide +kernel
theorem dX3_nameEye_11 : decode cX3_nameEye 11 = .ok (.iconst 1, 1) := by decide +kernel
theorem dX3_nameEye_12 : decode cX3_nameEye 12 = .ok (.iload_n 2, 1) := by decide +kernel
theorem dX3_nameEye_13 : decode cX3_nameEye 13 = .ok (.iastore, 1) := by decide +kernel
theorem dX3_nameEye_14 : decode cX3_nameEye 14 = .ok (.aload_n 0, 1) := by decide +kernel
theorem dX3_nameEye_15 : decode cX3_nameEye 15 = .ok (.getfield 9, 3) := by decide +kernel
theorem dX3_nameEye_18 : decode cX3_nameEye 18 = .ok (.iconst 2, 1) := by decide +kernel
theorem dX3_nameEye_19 : decode cX3_nameEye 19 = .ok (.iload_n 3, 1) := by decide +kernel
theorem dX3_nameEye_20 : decode cX3_nameEye 20 = .ok (.iastore, 1) := by decide +kernel
theorem dX3_nameEye_21 : decode cX3_nameEye 21 = .ok (.return_, 1) := by decide +kernel
theorem dX3_nameTimes_0 : decode cX3_nameTimes 0 = .ok (.aload_n 0, 1) := by decide +kernel
theorem dX3_nameTimes_1 : decode cX3_nameTimes 1 = .ok (.getfield 9, 3) := by decide +kernel
theorem dX3_nameTimes_4 : decode cX3_nameTimes 4 = .ok (.iconst 3, 1) := by decide +kernel
theorem dX3_nameTimes_5 : decode cX3_nameTimes 5 = .ok (.iload_n 1, 1) := by decide +kernel
theorem dX3_nameTimes_6 : decode cX3_nameTimes 6 = .ok (.iastore, 1) := by decide +kernel
theorem dX3_nameTimes_7 : decode cX3_nameTimes 7 = .ok (.aload_n 0, 1) := by decide +kernel
theorem dX3_nameTimes_8 : decode cX3_nameTimes 8 = .ok (.getfield 9, 3) := by decide +kernel
theorem dX3_nameTimes_11 : decode cX3_nameTimes 11 = .ok (.iconst 4, 1) := by decide +kernel
theorem dX3_nameTimes_12 : decode cX3_nameTimes 12 = .ok (.iload_n 2, 1) := by decide +kernel
theorem dX3_nameTimes_13 : decode cX3_nameTimes 13 = .ok (.iastore, 1) := by decide +kernel
theorem dX3_nameTimes_14 : decode cX3_nameTimes 14 = .ok (.aload_n 0, 1) := by decide +kernel
theorem dX3_nameTimes_15 : decode cX3_nameTimes 15 = .ok (.getfield 9, 3) := by decide +kernel
theorem dX3_nameTimes_18 : decode cX3_nameTimes 18 = .ok (.iconst 5, 1) := by decide +kernel
theorem dX3_nameTimes_19 : decode cX3_nameTimes 19 = .ok (.iload_n 3, 1) := by decide +kernel
theorem dX3_nameTimes_20 : decode cX3_nameTimes 20 = .ok (.iastore, 1) := by decide +kernel
theorem dX3_nameTimes_21 : decode cX3_nameTimes 21 = .ok (.return_, 1) := by decide +kernel
theorem dX3_nameTouch_0 : decode cX3_nameTouch 0 = .ok (.aload_n 0, 1) := by decide +kernel
theorem dX3_nameTouch_1 : decode cX3_nameTouch 1 = .ok (.getfield 9, 3) := by decide +kernel
theorem dX3_nameTouch_4 : decode cX3_nameTouch 4 = .ok (.bipush 6, 2) := by decide +kernel
theorem dX3_nameTouch_6 : decode cX3_nameTouch 6 = .ok (.iload_n 1, 1) := by decide +kernel
theorem dX3_nameTouch_7 : decode cX3_nameTouch 7 = .ok (.iastore, 1) := by decide +kernel
theorem dX3_nameTouch_8 : decode cX3_nameTouch 8 = .ok (.aload_n 0, 1) := by decide +kernel
theorem dX3_nameTouch_9 : decode cX3_nameTouch 9 = .ok (.getfield 9, 3) := by decide +kernel
theorem dX3_nameTouch_12 : decode cX3_nameTouch 12 = .ok (.bipush 7, 2) := by decide +kernel
theorem dX3_nameTouch_14 : decode cX3_nameTouch 14 = .ok (.iload_n 2, 1) := by decide +kernel
theorem dX3_nameTouch_15 : decode cX3_nameTouch 15 = .ok (.iastore, 1) := by decide +kernel
theorem dX3_nameTouch_16 : decode cX3_nameTouch 16 = .ok (.aload_n 0, 1) := by decide +kernel
theorem dX3_nameTouch_17 : decode cX3_nameTouch 17 = .ok (.getfield 9, 3) := by decide +kernel
theorem dX3_nameTouch_20 : decode cX3_nameTouch 20 = .ok (.bipush 8, 2) := by decide +kernel
theorem dX3_nameTouch_22 : decode cX3_nameTouch 22 = .ok (.iload_n 3, 1) := by decide +kernel
theorem dX3_nameTouch_23 : decode cX3_nameTouch 23 = .ok (.iastore, 1) := by decide +kernel
theorem dX3_nameTouch_24 : decode cX3_nameTouch 24 = .ok (.return_, 1) := by decide +kernel
theorem dX3_reckon_0 : decode cX3_reckon 0 = .ok (.iconst 0, 1) := by decide +kernel
theorem dX3_reckon_1 : decode cX3_reckon 1 = .ok (.istore 4, 2) := by decide +kernel
theorem dX3_reckon_3 : decode cX3_reckon 3 = .ok (.iconst 0, 1) := by decide +kernel
theorem dX3_reckon_4 : decode cX3_reckon 4 = .ok (.iload_n 2, 1) := by decide +kernel
theorem dX3_reckon_5 : decode cX3_reckon 5 = .ok (.invokestatic 18, 3) := by decide +kernel
theorem dX3_reckon_8 : decode cX3_reckon 8 = .ok (.istore 5, 2) := by decide +kernel
theorem dX3_reckon_10 : decode cX3_reckon 10 = .ok (.iload 5, 2) := by decide +kernel
theorem dX3_reckon_12 : decode cX3_reckon 12 = .ok (.iload_n 3, 1) := by decide +kernel
theorem dX3_reckon_13 : decode cX3_reckon 13 = .ok (.if_icmp .ge 205, 3) := by decide +kernel
theorem dX3_reckon_16 : decode cX3_reckon 16 = .ok (.iload 5, 2) := by decide +kernel
theorem dX3_reckon_18 : decode cX3_reckon 18 = .ok (.aload_n 1, 1) := by decide +kernel
theorem dX3_reckon_19 : decode cX3_reckon 19 = .ok (.arraylength, 1) := by decide +kernel
theorem dX3_reckon_20 : decode cX3_reckon 20 = .ok (.if_icmp .ge 198, 3) := by decide +kernel
theorem dX3_reckon_23 : decode cX3_reckon 23 = .ok (.iconst (-1), 1) := by decide +kernel
theorem dX3_reckon_24 : decode cX3_reckon 24 = .ok (.aload_n 1, 1) := by decide +kernel
theorem dX3_reckon_25 : decode cX3_reckon 25 = .ok (.iload 5, 2) := by decide +kernel
theorem dX3_reckon_27 : decode cX3_reckon 27 = .ok (.iaload, 1) := by decide +kernel
theorem dX3_reckon_28 : decode cX3_reckon 28 = .ok (.isub, 1) := by decide +kernel
theorem dX3_reckon_29 : decode cX3_reckon 29 = .ok (.istore 6, 2) := by decide +kernel
theorem dX3_reckon_31 : decode cX3_reckon 31 = .ok (.iload 6, 2) := by decide +kernel
theorem dX3_reckon_33 : decode cX3_reckon 33 = .ok (.bipush 13, 2) := by decide +kernel
theorem dX3_reckon_35 : decode cX3_reckon 35 = .ok (.if_icmp .lt 14, 3) := by decide +kernel
theorem dX3_reckon_38 : decode cX3_reckon 38 = .ok (.iload 6, 2) := by decide +kernel
theorem dX3_reckon_40 : decode cX3_reckon 40 = .ok (.bipush 21, 2) := by decide +kernel
theorem dX3_reckon_42 : decode cX3_reckon 42 = .ok (.if_icmp .gt 7, 3) := by decide +kernel
theorem dX3_reckon_45 : decode cX3_reckon 45 = .ok (.iconst 1, 1) := by decide +kernel
theorem dX3_reckon_46 : decode cX3_reckon 46 = .ok (.goto 4, 3) := by decide +kernel
theorem dX3_reckon_49 : decode cX3_reckon 49 = .ok (.iconst 0, 1) := by decide +kernel
theorem dX3_reckon_50 : decode cX3_reckon 50 = .ok (.istore 7, 2) := by decide +kernel
theorem dX3_reckon_52 : decode cX3_reckon 52 = .ok (.iload 6, 2) := by decide +kernel
theorem dX3_reckon_54 : decode cX3_reckon 54 = .ok (.ifCond .lt 8, 3) := by decide +kernel
theorem dX3_reckon_57 : decode cX3_reckon 57 = .ok (.iload 7, 2) := by decide +kernel
theorem dX3_reckon_59 : decode cX3_reckon 59 = .ok (.ifCond .eq 48, 3) := by decide +kernel
theorem dX3_reckon_62 : decode cX3_reckon 62 = .ok (.iload 4, 2) := by decide +kernel
theorem dX3_reckon_64 : decode cX3_reckon 64 = .ok (.aload_n 0, 1) := by decide +kernel
theorem dX3_reckon_65 : decode cX3_reckon 65 = .ok (.getfield 15, 3) := by decide +kernel
theorem dX3_reckon_68 : decode cX3_reckon 68 = .ok (.arraylength, 1) := by decide +kernel
theorem dX3_reckon_69 : decode cX3_reckon 69 = .ok (.if_icmp .ge 143, 3) := by decide +kernel
theorem dX3_reckon_72 : decode cX3_reckon 72 = .ok (.aload_n 0, 1) := by decide +kernel
theorem dX3_reckon_73 : decode cX3_reckon 73 = .ok (.getfield 15, 3) := by decide +kernel
theorem dX3_reckon_76 : decode cX3_reckon 76 = .ok (.iload 4, 2) := by decide +kernel
theorem dX3_reckon_78 : decode cX3_reckon 78 = .ok (.iload 7, 2) := by decide +kernel
theorem dX3_reckon_80 : decode cX3_reckon 80 = .ok (.ifCond .eq 16, 3) := by decide +kernel
theorem dX3_reckon_83 : decode cX3_reckon 83 = .ok (.aload_n 0, 1) := by decide +kernel
theorem dX3_reckon_84 : decode cX3_reckon 84 = .ok (.getfield 9, 3) := by decide +kernel
theorem dX3_reckon_87 : decode cX3_reckon 87 = .ok (.iload 6, 2) := by decide +kernel
theorem dX3_reckon_89 : decode cX3_reckon 89 = .ok (.bipush 13, 2) := by decide +kernel
theorem dX3_reckon_91 : decode cX3_reckon 91 = .ok (.isub, 1) := by decide +kernel
theorem dX3_reckon_92 : decode cX3_reckon 92 = .ok (.iaload, 1) := by decide +kernel
theorem dX3_reckon_93 : decode cX3_reckon 93 = .ok (.goto 7, 3) := by decide +kernel
theorem dX3_reckon_96 : decode cX3_reckon 96 = .ok (.aload_n 1, 1) := by decide +kernel
theorem dX3_reckon_97 : decode cX3_reckon 97 = .ok (.iload 5, 2) := by decide +kernel
theorem dX3_reckon_99 : decode cX3_reckon 99 = .ok (.iaload, 1) := by decide +kernel
theorem dX3_reckon_100 : decode cX3_reckon 100 = .ok (.iastore, 1) := by decide +kernel
theorem dX3_reckon_101 : decode cX3_reckon 101 = .ok (.iinc 4 1, 3) := by decide +kernel
theorem dX3_reckon_104 : decode cX3_reckon 104 = .ok (.goto 108, 3) := by decide +kernel
theorem dX3_reckon_107 : decode cX3_reckon 107 = .ok (.iload 6, 2) := by decide +kernel
theorem dX3_reckon_109 : decode cX3_reckon 109 = .ok (.bipush 38, 2) := by decide +kernel
theorem dX3_reckon_111 : decode cX3_reckon 111 = .ok (.if_icmp .eq 10, 3) := by decide +kernel
theorem dX3_reckon_114 : decode cX3_reckon 114 = .ok (.iload 6, 2) := by decide +kernel
theorem dX3_reckon_116 : decode cX3_reckon 116 = .ok (.bipush 12, 2) := by decide +kernel
theorem dX3_reckon_118 : decode cX3_reckon 118 = .ok (.if_icmp .ne 52, 3) := by decide +kernel
theorem dX3_reckon_121 : decode cX3_reckon 121 = .ok (.iload 4, 2) := by decide +kernel
theorem dX3_reckon_123 : decode cX3_reckon 123 = .ok (.iconst 1, 1) := by decide +kernel
theorem dX3_reckon_124 : decode cX3_reckon 124 = .ok (.if_icmp .lt 88, 3) := by decide +kernel
theorem dX3_reckon_127 : decode cX3_reckon 127 = .ok (.aload_n 0, 1) := by decide +kernel
theorem dX3_reckon_128 : decode cX3_reckon 128 = .ok (.getfield 15, 3) := by decide +kernel
theorem dX3_reckon_131 : decode cX3_reckon 131 = .ok (.iload 4, 2) := by decide +kernel
theorem dX3_reckon_133 : decode cX3_reckon 133 = .ok (.iconst 1, 1) := by decide +kernel
theorem dX3_reckon_134 : decode cX3_reckon 134 = .ok (.isub, 1) := by decide +kernel
theorem dX3_reckon_135 : decode cX3_reckon 135 = .ok (.iload 6, 2) := by decide +kernel
theorem dX3_reckon_137 : decode cX3_reckon 137 = .ok (.bipush 38, 2) := by decide +kernel
theorem dX3_reckon_139 : decode cX3_reckon 139 = .ok (.if_icmp .ne 16, 3) := by decide +kernel
theorem dX3_reckon_142 : decode cX3_reckon 142 = .ok (.aload_n 0, 1) := by decide +kernel
theorem dX3_reckon_143 : decode cX3_reckon 143 = .ok (.getfield 15, 3) := by decide +kernel
theorem dX3_reckon_146 : decode cX3_reckon 146 = .ok (.iload 4, 2) := by decide +kernel
theorem dX3_reckon_148 : decode cX3_reckon 148 = .ok (.iconst 1, 1) := by decide +kernel
theorem dX3_reckon_149 : decode cX3_reckon 149 = .ok (.isub, 1) := by decide +kernel
theorem dX3_reckon_150 : decode cX3_reckon 150 = .ok (.iaload, 1) := by decide +kernel
theorem dX3_reckon_151 : decode cX3_reckon 151 = .ok (.ineg, 1) := by decide +kernel
theorem dX3_reckon_152 : decode cX3_reckon 152 = .ok (.goto 14, 3) := by decide +kernel
theorem dX3_reckon_155 : decode cX3_reckon 155 = .ok (.iconst 1, 1) := by decide +kernel
theorem dX3_reckon_156 : decode cX3_reckon 156 = .ok (.aload_n 0, 1) := by decide +kernel
theorem dX3_reckon_157 : decode cX3_reckon 157 = .ok (.getfield 15, 3) := by decide +kernel
theorem dX3_reckon_160 : decode cX3_reckon 160 = .ok (.iload 4, 2) := by decide +kernel
theorem dX3_reckon_162 : decode cX3_reckon 162 = .ok (.iconst 1, 1) := by decide +kernel
theorem dX3_reckon_163 : decode cX3_reckon 163 = .ok (.isub, 1) := by decide +kernel
theorem dX3_reckon_164 : decode cX3_reckon 164 = .ok (.iaload, 1) := by decide +kernel
theorem dX3_reckon_165 : decode cX3_reckon 165 = .ok (.isub, 1) := by decide +kernel
theorem dX3_reckon_166 : decode cX3_reckon 166 = .ok (.iastore, 1) := by decide +kernel
theorem dX3_reckon_167 : decode cX3_reckon 167 = .ok (.goto 45, 3) := by decide +kernel
theorem dX3_reckon_170 : decode cX3_reckon 170 = .ok (.iload 4, 2) := by decide +kernel
theorem dX3_reckon_172 : decode cX3_reckon 172 = .ok (.iconst 2, 1) := by decide +kernel
theorem dX3_reckon_173 : decode cX3_reckon 173 = .ok (.if_icmp .lt 39, 3) := by decide +kernel
theorem dX3_reckon_176 : decode cX3_reckon 176 = .ok (.iinc 4 (-1), 3) := by decide +kernel
theorem dX3_reckon_179 : decode cX3_reckon 179 = .ok (.aload_n 0, 1) := by decide +kernel
theorem dX3_reckon_180 : decode cX3_reckon 180 = .ok (.getfield 15, 3) := by decide +kernel
theorem dX3_reckon_183 : decode cX3_reckon 183 = .ok (.iload 4, 2) := by decide +kernel
theorem dX3_reckon_185 : decode cX3_reckon 185 = .ok (.iconst 1, 1) := by decide +kernel
theorem dX3_reckon_186 : decode cX3_reckon 186 = .ok (.isub, 1) := by decide +kernel
theorem dX3_reckon_187 : decode cX3_reckon 187 = .ok (.iload 6, 2) := by decide +kernel
theorem dX3_reckon_189 : decode cX3_reckon 189 = .ok (.aload_n 0, 1) := by decide +kernel
theorem dX3_reckon_190 : decode cX3_reckon 190 = .ok (.getfield 15, 3) := by decide +kernel
theorem dX3_reckon_193 : decode cX3_reckon 193 = .ok (.iload 4, 2) := by decide +kernel
theorem dX3_reckon_195 : decode cX3_reckon 195 = .ok (.iconst 1, 1) := by decide +kernel
theorem dX3_reckon_196 : decode cX3_reckon 196 = .ok (.isub, 1) := by decide +kernel
theorem dX3_reckon_197 : decode cX3_reckon 197 = .ok (.iaload, 1) := by decide +kernel
theorem dX3_reckon_198 : decode cX3_reckon 198 = .ok (.aload_n 0, 1) := by decide +kernel
theorem dX3_reckon_199 : decode cX3_reckon 199 = .ok (.getfield 15, 3) := by decide +kernel
theorem dX3_reckon_202 : decode cX3_reckon 202 = .ok (.iload 4, 2) := by decide +kernel
theorem dX3_reckon_204 : decode cX3_reckon 204 = .ok (.iaload, 1) := by decide +kernel
theorem dX3_reckon_205 : decode cX3_reckon 205 = .ok (.invokestatic 24, 3) := by decide +kernel
theorem dX3_reckon_208 : decode cX3_reckon 208 = .ok (.invokestatic 28, 3) := by decide +kernel
theorem dX3_reckon_211 : decode cX3_reckon 211 = .ok (.iastore, 1) := by decide +kernel
theorem dX3_reckon_212 : decode cX3_reckon 212 = .ok (.iinc 5 1, 3) := by decide +kernel
theorem dX3_reckon_215 : decode cX3_reckon 215 = .ok (.goto (-205), 3) := by decide +kernel
theorem dX3_reckon_218 : decode cX3_reckon 218 = .ok (.iload 4, 2) := by decide +kernel
theorem dX3_reckon_220 : decode cX3_reckon 220 = .ok (.iconst 1, 1) := by decide +kernel
theorem dX3_reckon_221 : decode cX3_reckon 221 = .ok (.if_icmp .lt 15, 3) := by decide +kernel
theorem dX3_reckon_224 : decode cX3_reckon 224 = .ok (.aload_n 0, 1) := by decide +kernel
theorem dX3_reckon_225 : decode cX3_reckon 225 = .ok (.getfield 15, 3) := by decide +kernel
theorem dX3_reckon_228 : decode cX3_reckon 228 = .ok (.iload 4, 2) := by decide +kernel
theorem dX3_reckon_230 : decode cX3_reckon 230 = .ok (.iconst 1, 1) := by decide +kernel
theorem dX3_reckon_231 : decode cX3_reckon 231 = .ok (.isub, 1) := by decide +kernel
theorem dX3_reckon_232 : decode cX3_reckon 232 = .ok (.iaload, 1) := by decide +kernel
theorem dX3_reckon_233 : decode cX3_reckon 233 = .ok (.goto 4, 3) := by decide +kernel
theorem dX3_reckon_236 : decode cX3_reckon 236 = .ok (.iconst 0, 1) := by decide +kernel
theorem dX3_reckon_237 : decode cX3_reckon 237 = .ok (.ireturn, 1) := by decide +kernel
theorem dX3_within_0 : decode cX3_within 0 = .ok (.lload_n 0, 1) := by decide +kernel
theorem dX3_within_1 : decode cX3_within 1 = .ok (.ldc2_w 32, 3) := by decide +kernel
theorem dX3_within_4 : decode cX3_within 4 = .ok (.lcmp, 1) := by decide +kernel
theorem dX3_within_5 : decode cX3_within 5 = .ok (.ifCond .le 6, 3) := by decide +kernel
theorem dX3_within_8 : decode cX3_within 8 = .ok (.ldc 34, 2) := by decide +kernel
theorem dX3_within_10 : decode cX3_within 10 = .ok (.ireturn, 1) := by decide +kernel
theorem dX3_within_11 : decode cX3_within 11 = .ok (.lload_n 0, 1) := by decide +kernel
theorem dX3_within_12 : decode cX3_within 12 = .ok (.ldc2_w 35, 3) := by decide +kernel
theorem dX3_within_15 : decode cX3_within 15 = .ok (.lcmp, 1) := by decide +kernel
theorem dX3_within_16 : decode cX3_within 16 = .ok (.ifCond .ge 8, 3) := by decide +kernel
theorem dX3_within_19 : decode cX3_within 19 = .ok (.ldc 37, 2) := by decide +kernel
theorem dX3_within_21 : decode cX3_within 21 = .ok (.goto 5, 3) := by decide +kernel
theorem dX3_within_24 : decode cX3_within 24 = .ok (.lload_n 0, 1) := by decide +kernel
theorem dX3_within_25 : decode cX3_within 25 = .ok (.l2i, 1) := by decide +kernel
theorem dX3_within_26 : decode cX3_within 26 = .ok (.ireturn, 1) := by decide +kernel
theorem dX3_joined_0 : decode cX3_joined 0 = .ok (.iload_n 0, 1) := by decide +kernel
theorem dX3_joined_1 : decode cX3_joined 1 = .ok (.tableswitch 197 10 31 #[137, 132, 197, 197, 197, 197, 197, 197, 197, 197, 197, 197, 142, 153, 164, 175, 186, 197, 103, 108, 113, 119], 103) := by decide +kernel
theorem dX3_joined_104 : decode cX3_joined 104 = .ok (.iload_n 1, 1) := by decide +kernel
theorem dX3_joined_105 : decode cX3_joined 105 = .ok (.iload_n 2, 1) := by decide +kernel
theorem dX3_joined_106 : decode cX3_joined 106 = .ok (.iadd, 1) := by decide +kernel
theorem dX3_joined_107 : decode cX3_joined 107 = .ok (.i2l, 1) := by decide +kernel
theorem dX3_joined_108 : decode cX3_joined 108 = .ok (.lreturn, 1) := by decide +kernel
theorem dX3_joined_109 : decode cX3_joined 109 = .ok (.iload_n 1, 1) := by decide +kernel
theorem dX3_joined_110 : decode cX3_joined 110 = .ok (.iload_n 2, 1) := by decide +kernel
theorem dX3_joined_111 : decode cX3_joined 111 = .ok (.isub, 1) := by decide +kernel
theorem dX3_joined_112 : decode cX3_joined 112 = .ok (.i2l, 1) := by decide +kernel
theorem dX3_joined_113 : decode cX3_joined 113 = .ok (.lreturn, 1) := by decide +kernel
theorem dX3_joined_114 : decode cX3_joined 114 = .ok (.iload_n 1, 1) := by decide +kernel
theorem dX3_joined_115 : decode cX3_joined 115 = .ok (.i2l, 1) := by decide +kernel
theorem dX3_joined_116 : decode cX3_joined 116 = .ok (.iload_n 2, 1) := by decide +kernel
theorem dX3_joined_117 : decode cX3_joined 117 = .ok (.i2l, 1) := by decide +kernel
theorem dX3_joined_118 : decode cX3_joined 118 = .ok (.lmul, 1) := by decide +kernel
theorem dX3_joined_119 : decode cX3_joined 119 = .ok (.lreturn, 1) := by decide +kernel
theorem dX3_joined_120 : decode cX3_joined 120 = .ok (.iload_n 2, 1) := by decide +kernel
theorem dX3_joined_121 : decode cX3_joined 121 = .ok (.ifCond .ne 7, 3) := by decide +kernel
theorem dX3_joined_124 : decode cX3_joined 124 = .ok (.lconst 0, 1) := by decide +kernel
theorem dX3_joined_125 : decode cX3_joined 125 = .ok (.goto 7, 3) := by decide +kernel
theorem dX3_joined_128 : decode cX3_joined 128 = .ok (.iload_n 1, 1) := by decide +kernel
theorem dX3_joined_129 : decode cX3_joined 129 = .ok (.iload_n 2, 1) := by decide +kernel
theorem dX3_joined_130 : decode cX3_joined 130 = .ok (.idiv, 1) := by decide +kernel
theorem dX3_joined_131 : decode cX3_joined 131 = .ok (.i2l, 1) := by decide +kernel
theorem dX3_joined_132 : decode cX3_joined 132 = .ok (.lreturn, 1) := by decide +kernel
theorem dX3_joined_133 : decode cX3_joined 133 = .ok (.iload_n 1, 1) := by decide +kernel
theorem dX3_joined_134 : decode cX3_joined 134 = .ok (.iload_n 2, 1) := by decide +kernel
theorem dX3_joined_135 : decode cX3_joined 135 = .ok (.iand, 1) := by decide +kernel
theorem dX3_joined_136 : decode cX3_joined 136 = .ok (.i2l, 1) := by decide +kernel
theorem dX3_joined_137 : decode cX3_joined 137 = .ok (.lreturn, 1) := by decide +kernel
theorem dX3_joined_138 : decode cX3_joined 138 = .ok (.iload_n 1, 1) := by decide +kernel
theorem dX3_joined_139 : decode cX3_joined 139 = .ok (.iload_n 2, 1) := by decide +kernel
theorem dX3_joined_140 : decode cX3_joined 140 = .ok (.ior, 1) := by decide +kernel
theorem dX3_joined_141 : decode cX3_joined 141 = .ok (.i2l, 1) := by decide +kernel
theorem dX3_joined_142 : decode cX3_joined 142 = .ok (.lreturn, 1) := by decide +kernel
theorem dX3_joined_143 : decode cX3_joined 143 = .ok (.iload_n 1, 1) := by decide +kernel
theorem dX3_joined_144 : decode cX3_joined 144 = .ok (.iload_n 2, 1) := by decide +kernel
theorem dX3_joined_145 : decode cX3_joined 145 = .ok (.if_icmp .ge 7, 3) := by decide +kernel
theorem dX3_joined_148 : decode cX3_joined 148 = .ok (.lconst 1, 1) := by decide +kernel
theorem dX3_joined_149 : decode cX3_joined 149 = .ok (.goto 4, 3) := by decide +kernel
theorem dX3_joined_152 : decode cX3_joined 152 = .ok (.lconst 0, 1) := by decide +kernel
theorem dX3_joined_153 : decode cX3_joined 153 = .ok (.lreturn, 1) := by decide +kernel
theorem dX3_joined_154 : decode cX3_joined 154 = .ok (.iload_n 1, 1) := by decide +kernel
theorem dX3_joined_155 : decode cX3_joined 155 = .ok (.iload_n 2, 1) := by decide +kernel
theorem dX3_joined_156 : decode cX3_joined 156 = .ok (.if_icmp .gt 7, 3) := by decide +kernel
theorem dX3_joined_159 : decode cX3_joined 159 = .ok (.lconst 1, 1) := by decide +kernel
theorem dX3_joined_160 : decode cX3_joined 160 = .ok (.goto 4, 3) := by decide +kernel
theorem dX3_joined_163 : decode cX3_joined 163 = .ok (.lconst 0, 1) := by decide +kernel
theorem dX3_joined_164 : decode cX3_joined 164 = .ok (.lreturn, 1) := by decide +kernel
theorem dX3_joined_165 : decode cX3_joined 165 = .ok (.iload_n 1, 1) := by decide +kernel
theorem dX3_joined_166 : decode cX3_joined 166 = .ok (.iload_n 2, 1) := by decide +kernel
theorem dX3_joined_167 : decode cX3_joined 167 = .ok (.if_icmp .le 7, 3) := by decide +kernel
theorem dX3_joined_170 : decode cX3_joined 170 = .ok (.lconst 1, 1) := by decide +kernel
theorem dX3_joined_171 : decode cX3_joined 171 = .ok (.goto 4, 3) := by decide +kernel
theorem dX3_joined_174 : decode cX3_joined 174 = .ok (.lconst 0, 1) := by decide +kernel
theorem dX3_joined_175 : decode cX3_joined 175 = .ok (.lreturn, 1) := by decide +kernel
theorem dX3_joined_176 : decode cX3_joined 176 = .ok (.iload_n 1, 1) := by decide +kernel
theorem dX3_joined_177 : decode cX3_joined 177 = .ok (.iload_n 2, 1) := by decide +kernel
theorem dX3_joined_178 : decode cX3_joined 178 = .ok (.if_icmp .lt 7, 3) := by decide +kernel
theorem dX3_joined_181 : decode cX3_joined 181 = .ok (.lconst 1, 1) := by decide +kernel
theorem dX3_joined_182 : decode cX3_joined 182 = .ok (.goto 4, 3) := by decide +kernel
theorem dX3_joined_185 : decode cX3_joined 185 = .ok (.lconst 0, 1) := by decide +kernel
theorem dX3_joined_186 : decode cX3_joined 186 = .ok (.lreturn, 1) := by decide +kernel
theorem dX3_joined_187 : decode cX3_joined 187 = .ok (.iload_n 1, 1) := by decide +kernel
theorem dX3_joined_188 : decode cX3_joined 188 = .ok (.iload_n 2, 1) := by decide +kernel
theorem dX3_joined_189 : decode cX3_joined 189 = .ok (.if_icmp .ne 7, 3) := by decide +kernel
theorem dX3_joined_192 : decode cX3_joined 192 = .ok (.lconst 1, 1) := by decide +kernel
theorem dX3_joined_193 : decode cX3_joined 193 = .ok (.goto 4, 3) := by decide +kernel
theorem dX3_joined_196 : decode cX3_joined 196 = .ok (.lconst 0, 1) := by decide +kernel
theorem dX3_joined_197 : decode cX3_joined 197 = .ok (.lreturn, 1) := by decide +kernel
theorem dX3_joined_198 : decode cX3_joined 198 = .ok (.iload_n 1, 1) := by decide +kernel
theorem dX3_joined_199 : decode cX3_joined 199 = .ok (.iload_n 2, 1) := by decide +kernel
theorem dX3_joined_200 : decode cX3_joined 200 = .ok (.if_icmp .eq 7, 3) := by decide +kernel
theorem dX3_joined_203 : decode cX3_joined 203 = .ok (.lconst 1, 1) := by decide +kernel
theorem dX3_joined_204 : decode cX3_joined 204 = .ok (.goto 4, 3) := by decide +kernel
theorem dX3_joined_207 : decode cX3_joined 207 = .ok (.lconst 0, 1) := by decide +kernel
theorem dX3_joined_208 : decode cX3_joined 208 = .ok (.lreturn, 1) := by decide +kernel
theorem dX4_init_0 : decode cX4_init 0 = .ok (.aload_n 0, 1) := by decide +kernel
theorem dX4_init_1 : decode cX4_init 1 = .ok (.invokespecial 3, 3) := by decide +kernel
theorem dX4_init_4 : decode cX4_init 4 = .ok (.aload_n 0, 1) := by decide +kernel
theorem dX4_init_5 : decode cX4_init 5 = .ok (.iconst 0, 1) := by decide +kernel
theorem dX4_init_6 : decode cX4_init 6 = .ok (.putfield 9, 3) := by decide +kernel
theorem dX4_init_9 : decode cX4_init 9 = .ok (.aload_n 0, 1) := by decide +kernel
theorem dX4_init_10 : decode cX4_init 10 = .ok (.iconst 0, 1) := by decide +kernel
theorem dX4_init_11 : decode cX4_init 11 = .ok (.putfield 15, 3) := by decide +kernel
theorem dX4_init_14 : decode cX4_init 14 = .ok (.aload_n 0, 1) := by decide +kernel
theorem dX4_init_15 : decode cX4_init 15 = .ok (.iconst (-1), 1) := by decide +kernel
theorem dX4_init_16 : decode cX4_init 16 = .ok (.putfield 18, 3) := by decide +kernel
theorem dX4_init_19 : decode cX4_init 19 = .ok (.aload_n 0, 1) := by decide +kernel
theorem dX4_init_20 : decode cX4_init 20 = .ok (.iconst 0, 1) := by decide +kernel
theorem dX4_init_21 : decode cX4_init 21 = .ok (.putfield 21, 3) := by decide +kernel
theorem dX4_init_24 : decode cX4_init 24 = .ok (.aload_n 0, 1) := by decide +kernel
theorem dX4_init_25 : decode cX4_init 25 = .ok (.iconst 0, 1) := by decide +kernel
theorem dX4_init_26 : decode cX4_init 26 = .ok (.putfield 24, 3) := by decide +kernel
theorem dX4_init_29 : decode cX4_init 29 = .ok (.aload_n 0, 1) := by decide +kernel
theorem dX4_init_30 : decode cX4_init 30 = .ok (.iconst 0, 1) := by decide +kernel
theorem dX4_init_31 : decode cX4_init 31 = .ok (.putfield 27, 3) := by decide +kernel
theorem dX4_init_34 : decode cX4_init 34 = .ok (.aload_n 0, 1) := by decide +kernel
theorem dX4_init_35 : decode cX4_init 35 = .ok (.iconst 0, 1) := by decide +kernel
theorem dX4_init_36 : decode cX4_init 36 = .ok (.putfield 30, 3) := by decide +kernel
theorem dX4_init_39 : decode cX4_init 39 = .ok (.aload_n 0, 1) := by decide +kernel
theorem dX4_init_40 : decode cX4_init 40 = .ok (.iconst 3, 1) := by decide +kernel
theorem dX4_init_41 : decode cX4_init 41 = .ok (.newarray .int, 2) := by decide +kernel
theorem dX4_init_43 : decode cX4_init 43 = .ok (.putfield 33, 3) := by decide +kernel
theorem dX4_init_46 : decode cX4_init 46 = .ok (.aload_n 0, 1) := by decide +kernel
theorem dX4_init_47 : decode cX4_init 47 = .ok (.iconst 3, 1) := by decide +kernel
theorem dX4_init_48 : decode cX4_init 48 = .ok (.newarray .int, 2) := by decide +kernel
theorem dX4_init_50 : decode cX4_init 50 = .ok (.putfield 37, 3) := by decide +kernel
theorem dX4_init_53 : decode cX4_init 53 = .ok (.return_, 1) := by decide +kernel
theorem dX4_begin_0 : decode cX4_begin 0 = .ok (.aload_n 0, 1) := by decide +kernel
theorem dX4_begin_1 : decode cX4_begin 1 = .ok (.iload_n 1, 1) := by decide +kernel
theorem dX4_begin_2 : decode cX4_begin 2 = .ok (.putfield 9, 3) := by decide +kernel
theorem dX4_begin_5 : decode cX4_begin 5 = .ok (.aload_n 0, 1) := by decide +kernel
theorem dX4_begin_6 : decode cX4_begin 6 = .ok (.iload_n 2, 1) := by decide +kernel
theorem dX4_begin_7 : decode cX4_begin 7 = .ok (.putfield 15, 3) := by decide +kernel
theorem dX4_begin_10 : decode cX4_begin 10 = .ok (.aload_n 0, 1) := by decide +kernel
theorem dX4_begin_11 : decode cX4_begin 11 = .ok (.iload_n 3, 1) := by decide +kernel
theorem dX4_begin_12 : decode cX4_begin 12 = .ok (.putfield 18, 3) := by decide +kernel
theorem dX4_begin_15 : decode cX4_begin 15 = .ok (.aload_n 0, 1) := by decide +kernel
theorem dX4_begin_16 : decode cX4_begin 16 = .ok (.iload_n 3, 1) := by decide +kernel
theorem dX4_begin_17 : decode cX4_begin 17 = .ok (.iconst (-1), 1) := by decide +kernel
theorem dX4_begin_18 : decode cX4_begin 18 = .ok (.if_icmp .ne 8, 3) := by decide +kernel
theorem dX4_begin_21 : decode cX4_begin 21 = .ok (.iload 4, 2) := by decide +kernel
theorem dX4_begin_23 : decode cX4_begin 23 = .ok (.goto 7, 3) := by decide +kernel
theorem dX4_begin_26 : decode cX4_begin 26 = .ok (.iload 4, 2) := by decide +kernel
theorem dX4_begin_28 : decode cX4_begin 28 = .ok (.iconst 1, 1) := by decide +kernel
theorem dX4_begin_29 : decode cX4_begin 29 = .ok (.isub, 1) := by decide +kernel
theorem dX4_begin_30 : decode cX4_begin 30 = .ok (.putfield 21, 3) := by decide +kernel
theorem dX4_begin_33 : decode cX4_begin 33 = .ok (.aload_n 0, 1) := by decide +kernel
theorem dX4_begin_34 : decode cX4_begin 34 = .ok (.iload_n 3, 1) := by decide +kernel
theorem dX4_begin_35 : decode cX4_begin 35 = .ok (.ifCond .ne 7, 3) := by decide +kernel
theorem dX4_begin_38 : decode cX4_begin 38 = .ok (.iconst 1, 1) := by decide +kernel
theorem dX4_begin_39 : decode cX4_begin 39 = .ok (.goto 4, 3) := by decide +kernel
theorem dX4_begin_42 : decode cX4_begin 42 = .ok (.iconst 0, 1) := by decide +kernel
theorem dX4_begin_43 : decode cX4_begin 43 = .ok (.putfield 24, 3) := by decide +kernel
theorem dX4_begin_46 : decode cX4_begin 46 = .ok (.aload_n 0, 1) := by decide +kernel
theorem dX4_begin_47 : decode cX4_begin 47 = .ok (.iconst 0, 1) := by decide +kernel
theorem dX4_begin_48 : decode cX4_begin 48 = .ok (.putfield 27, 3) := by decide +kernel
theorem dX4_begin_51 : decode cX4_begin 51 = .ok (.aload_n 0, 1) := by decide +kernel
theorem dX4_begin_52 : decode cX4_begin 52 = .ok (.bipush 63, 2) := by decide +kernel
theorem dX4_begin_54 : decode cX4_begin 54 = .ok (.putfield 30, 3) := by decide +kernel
theorem dX4_begin_57 : decode cX4_begin 57 = .ok (.return_, 1) := by decide +kernel
theorem dX4_found_0 : decode cX4_found 0 = .ok (.aload_n 0, 1) := by decide +kernel
theorem dX4_found_1 : decode cX4_found 1 = .ok (.getfield 27, 3) := by decide +kernel
theorem dX4_found_4 : decode cX4_found 4 = .ok (.ifCond .ne 17, 3) := by decide +kernel
theorem dX4_found_7 : decode cX4_found 7 = .ok (.aload_n 0, 1) := by decide +kernel
theorem dX4_found_8 : decode cX4_found 8 = .ok (.getfield 33, 3) := by decide +kernel
theorem dX4_found_11 : decode cX4_found 11 = .ok (.iconst 0, 1) := by decide +kernel
theorem dX4_found_12 : decode cX4_found 12 = .ok (.aload_n 0, 1) := by decide +kernel
theorem dX4_found_13 : decode cX4_found 13 = .ok (.getfield 37, 3) := by decide +kernel
theorem dX4_found_16 : decode cX4_found 16 = .ok (.iconst 0, 1) := by decide +kernel
theorem dX4_found_17 : decode cX4_found 17 = .ok (.iconst 3, 1) := by decide +kernel
theorem dX4_found_18 : decode cX4_found 18 = .ok (.invokestatic 40, 3) := by decide +kernel
theorem dX4_found_21 : decode cX4_found 21 = .ok (.aload_n 0, 1) := by decide +kernel
theorem dX4_found_22 : decode cX4_found 22 = .ok (.dup, 1) := by decide +kernel
theorem dX4_found_23 : decode cX4_found 23 = .ok (.getfield 27, 3) := by decide +kernel
theorem dX4_found_26 : decode cX4_found 26 = .ok (.iload_n 1, 1) := by decide +kernel
theorem dX4_found_27 : decode cX4_found 27 = .ok (.iadd, 1) := by decide +kernel
theorem dX4_found_28 : decode cX4_found 28 = .ok (.putfield 27, 3) := by decide +kernel
theorem dX4_found_31 : decode cX4_found 31 = .ok (.iload_n 2, 1) := by decide +kernel
theorem dX4_found_32 : decode cX4_found 32 = .ok (.iconst 1, 1) := by decide +kernel
theorem dX4_found_33 : decode cX4_found 33 = .ok (.iand, 1) := by decide +kernel
theorem dX4_found_34 : decode cX4_found 34 = .ok (.iconst 1, 1) := by decide +kernel
theorem dX4_found_35 : decode cX4_found 35 = .ok (.if_icmp .ne 12, 3) := by decide +kernel
theorem dX4_found_38 : decode cX4_found 38 = .ok (.iconst 1, 1) := by decide +kernel
theorem dX4_found_39 : decode cX4_found 39 = .ok (.aload_n 0, 1) := by decide +kernel
theorem dX4_found_40 : decode cX4_found 40 = .ok (.getfield 18, 3) := by decide +kernel
theorem dX4_found_43 : decode cX4_found 43 = .ok (.ishl, 1) := by decide +kernel
theorem dX4_found_44 : decode cX4_found 44 = .ok (.goto 4, 3) := by decide +kernel
theorem dX4_found_47 : decode cX4_found 47 = .ok (.iconst 0, 1) := by decide +kernel
theorem dX4_found_48 : decode cX4_found 48 = .ok (.istore_n 3, 1) := by decide +kernel
theorem dX4_found_49 : decode cX4_found 49 = .ok (.iload_n 2, 1) := by decide +kernel
theorem dX4_found_50 : decode cX4_found 50 = .ok (.iconst 2, 1) := by decide +kernel
theorem dX4_found_51 : decode cX4_found 51 = .ok (.iand, 1) := by decide +kernel
theorem dX4_found_52 : decode cX4_found 52 = .ok (.iconst 2, 1) := by decide +kernel
theorem dX4_found_53 : decode cX4_found 53 = .ok (.if_icmp .ne 20, 3) := by decide +kernel
theorem dX4_found_56 : decode cX4_found 56 = .ok (.aload_n 0, 1) := by decide +kernel
theorem dX4_found_57 : decode cX4_found 57 = .ok (.getfield 21, 3) := by decide +kernel
theorem dX4_found_60 : decode cX4_found 60 = .ok (.iconst 1, 1) := by decide +kernel
theorem dX4_found_61 : decode cX4_found 61 = .ok (.if_icmp .ne 12, 3) := by decide +kernel
theorem dX4_found_64 : decode cX4_found 64 = .ok (.iload_n 3, 1) := by decide +kernel
theorem dX4_found_65 : decode cX4_found 65 = .ok (.iconst 1, 1) := by decide +kernel
theorem dX4_found_66 : decode cX4_found 66 = .ok (.aload_n 0, 1) := by decide +kernel
theorem dX4_found_67 : decode cX4_found 67 = .ok (.getfield 24, 3) := by decide +kernel
theorem dX4_found_70 : decode cX4_found 70 = .ok (.ishl, 1) := by decide +kernel
theorem dX4_found_71 : decode cX4_found 71 = .ok (.ior, 1) := by decide +kernel
theorem dX4_found_72 : decode cX4_found 72 = .ok (.istore_n 3, 1) := by decide +kernel
theorem dX4_found_73 : decode cX4_found 73 = .ok (.aload_n 0, 1) := by decide +kernel
theorem dX4_found_74 : decode cX4_found 74 = .ok (.dup, 1) := by decide +kernel
theorem dX4_found_75 : decode cX4_found 75 = .ok (.getfield 30, 3) := by decide +kernel
theorem dX4_found_78 : decode cX4_found 78 = .ok (.iload_n 3, 1) := by decide +kernel
theorem dX4_found_79 : decode cX4_found 79 = .ok (.iand, 1) := by decide +kernel
theorem dX4_found_80 : decode cX4_found 80 = .ok (.putfield 30, 3) := by decide +kernel
theorem dX4_found_83 : decode cX4_found 83 = .ok (.return_, 1) := by decide +kernel
theorem dX5_init_0 : decode cX5_init 0 = .ok (.aload_n 0, 1) := by decide +kernel
theorem dX5_init_1 : decode cX5_init 1 = .ok (.invokespecial 3, 3) := by decide +kernel
theorem dX5_init_4 : decode cX5_init 4 = .ok (.aload_n 0, 1) := by decide +kernel
theorem dX5_init_5 : decode cX5_init 5 = .ok (.iconst 0, 1) := by decide +kernel
theorem dX5_init_6 : decode cX5_init 6 = .ok (.putfield 9, 3) := by decide +kernel
theorem dX5_init_9 : decode cX5_init 9 = .ok (.aload_n 0, 1) := by decide +kernel
theorem dX5_init_10 : decode cX5_init 10 = .ok (.bipush 24, 2) := by decide +kernel
theorem dX5_init_12 : decode cX5_init 12 = .ok (.newarray .int, 2) := by decide +kernel
theorem dX5_init_14 : decode cX5_init 14 = .ok (.putfield 15, 3) := by decide +kernel
theorem dX5_init_17 : decode cX5_init 17 = .ok (.aload_n 0, 1) := by decide +kernel
theorem dX5_init_18 : decode cX5_init 18 = .ok (.bipush 24, 2) := by decide +kernel
theorem dX5_init_20 : decode cX5_init 20 = .ok (.newarray .int, 2) := by decide +kernel
theorem dX5_init_22 : decode cX5_init 22 = .ok (.putfield 19, 3) := by decide +kernel
theorem dX5_init_25 : decode cX5_init 25 = .ok (.aload_n 0, 1) := by decide +kernel
theorem dX5_init_26 : decode cX5_init 26 = .ok (.bipush 24, 2) := by decide +kernel
theorem dX5_init_28 : decode cX5_init 28 = .ok (.newarray .int, 2) := by decide +kernel
theorem dX5_init_30 : decode cX5_init 30 = .ok (.putfield 22, 3) := by decide +kernel
theorem dX5_init_33 : decode cX5_init 33 = .ok (.aload_n 0, 1) := by decide +kernel
theorem dX5_init_34 : decode cX5_init 34 = .ok (.sipush 300, 3) := by decide +kernel
theorem dX5_init_37 : decode cX5_init 37 = .ok (.newarray .int, 2) := by decide +kernel
theorem dX5_init_39 : decode cX5_init 39 = .ok (.putfield 25, 3) := by decide +kernel
theorem dX5_init_42 : decode cX5_init 42 = .ok (.aload_n 0, 1) := by decide +kernel
theorem dX5_init_43 : decode cX5_init 43 = .ok (.iconst 0, 1) := by decide +kernel
theorem dX5_init_44 : decode cX5_init 44 = .ok (.putfield 28, 3) := by decide +kernel
theorem dX5_init_47 : decode cX5_init 47 = .ok (.aload_n 0, 1) := by decide +kernel
theorem dX5_init_48 : decode cX5_init 48 = .ok (.iconst (-1), 1) := by decide +kernel
theorem dX5_init_49 : decode cX5_init 49 = .ok (.putfield 31, 3) := by decide +kernel
theorem dX5_init_52 : decode cX5_init 52 = .ok (.aload_n 0, 1) := by decide +kernel
theorem dX5_init_53 : decode cX5_init 53 = .ok (.iconst (-1), 1) := by decide +kernel
theorem dX5_init_54 : decode cX5_init 54 = .ok (.putfield 34, 3) := by decide +kernel
theorem dX5_init_57 : decode cX5_init 57 = .ok (.aload_n 0, 1) := by decide +kernel
theorem dX5_init_58 : decode cX5_init 58 = .ok (.iconst (-1), 1) := by decide +kernel
theorem dX5_init_59 : decode cX5_init 59 = .ok (.putfield 37, 3) := by decide +kernel
theorem dX5_init_62 : decode cX5_init 62 = .ok (.aload_n 0, 1) := by decide +kernel
theorem dX5_init_63 : decode cX5_init 63 = .ok (.iconst (-1), 1) := by decide +kernel
theorem dX5_init_64 : decode cX5_init 64 = .ok (.putfield 40, 3) := by decide +kernel
theorem dX5_init_67 : decode cX5_init 67 = .ok (.return_, 1) := by decide +kernel
theorem dX5_clear_0 : decode cX5_clear 0 = .ok (.aload_n 0, 1) := by decide +kernel
theorem dX5_clear_1 : decode cX5_clear 1 = .ok (.iconst 0, 1) := by decide +kernel
theorem dX5_clear_2 : decode cX5_clear 2 = .ok (.putfield 9, 3) := by decide +kernel
theorem dX5_clear_5 : decode cX5_clear 5 = .ok (.aload_n 0, 1) := by decide +kernel
theorem dX5_clear_6 : decode cX5_clear 6 = .ok (.iconst 0, 1) := by decide +kernel
theorem dX5_clear_7 : decode cX5_clear 7 = .ok (.putfield 28, 3) := by decide +kernel
theorem dX5_clear_10 : decode cX5_clear 10 = .ok (.aload_n 0, 1) := by decide +kernel
theorem dX5_clear_11 : decode cX5_clear 11 = .ok (.iconst (-1), 1) := by decide +kernel
theorem dX5_clear_12 : decode cX5_clear 12 = .ok (.putfield 31, 3) := by decide +kernel
theorem dX5_clear_15 : decode cX5_clear 15 = .ok (.aload_n 0, 1) := by decide +kernel
theorem dX5_clear_16 : decode cX5_clear 16 = .ok (.iconst (-1), 1) := by decide +kernel
theorem dX5_clear_17 : decode cX5_clear 17 = .ok (.putfield 37, 3) := by decide +kernel
theorem dX5_clear_20 : decode cX5_clear 20 = .ok (.return_, 1) := by decide +kernel
theorem dX5_isDeed_0 : decode cX5_isDeed 0 = .ok (.aload_n 0, 1) := by decide +kernel
theorem dX5_isDeed_1 : decode cX5_isDeed 1 = .ok (.getfield 15, 3) := by decide +kernel
theorem dX5_isDeed_4 : decode cX5_isDeed 4 = .ok (.iload_n 1, 1) := by decide +kernel
theorem dX5_isDeed_5 : decode cX5_isDeed 5 = .ok (.iaload, 1) := by decide +kernel
theorem dX5_isDeed_6 : decode cX5_isDeed 6 = .ok (.ifCond .eq 17, 3) := by decide +kernel
theorem dX5_isDeed_9 : decode cX5_isDeed 9 = .ok (.aload_n 0, 1) := by decide +kernel
theorem dX5_isDeed_10 : decode cX5_isDeed 10 = .ok (.getfield 15, 3) := by decide +kernel
theorem dX5_isDeed_13 : decode cX5_isDeed 13 = .ok (.iload_n 1, 1) := by decide +kernel
theorem dX5_isDeed_14 : decode cX5_isDeed 14 = .ok (.iaload, 1) := by decide +kernel
theorem dX5_isDeed_15 : decode cX5_isDeed 15 = .ok (.iconst 1, 1) := by decide +kernel
theorem dX5_isDeed_16 : decode cX5_isDeed 16 = .ok (.if_icmp .eq 7, 3) := by decide +kernel
theorem dX5_isDeed_19 : decode cX5_isDeed 19 = .ok (.iconst 1, 1) := by decide +kernel
theorem dX5_isDeed_20 : decode cX5_isDeed 20 = .ok (.goto 4, 3) := by decide +kernel
theorem dX5_isDeed_23 : decode cX5_isDeed 23 = .ok (.iconst 0, 1) := by decide +kernel
theorem dX5_isDeed_24 : decode cX5_isDeed 24 = .ok (.ireturn, 1) := by decide +kernel
theorem dX5_addClause_0 : decode cX5_addClause 0 = .ok (.aload_n 0, 1) := by decide +kernel
theorem dX5_addClause_1 : decode cX5_addClause 1 = .ok (.getfield 9, 3) := by decide +kernel
theorem dX5_addClause_4 : decode cX5_addClause 4 = .ok (.bipush 24, 2) := by decide +kernel
theorem dX5_addClause_6 : decode cX5_addClause 6 = .ok (.if_icmp .ge 43, 3) := by decide +kernel
theorem dX5_addClause_9 : decode cX5_addClause 9 = .ok (.aload_n 0, 1) := by decide +kernel
theorem dX5_addClause_10 : decode cX5_addClause 10 = .ok (.getfield 15, 3) := by decide +kernel
theorem dX5_addClause_13 : decode cX5_addClause 13 = .ok (.aload_n 0, 1) := by decide +kernel
theorem dX5_addClause_14 : decode cX5_addClause 14 = .ok (.getfield 9, 3) := by decide +kernel
theorem dX5_addClause_17 : decode cX5_addClause 17 = .ok (.iload_n 1, 1) := by decide +kernel
theorem dX5_addClause_18 : decode cX5_addClause 18 = .ok (.iastore, 1) := by decide +kernel
theorem dX5_addClause_19 : decode cX5_addClause 19 = .ok (.aload_n 0, 1) := by decide +kernel
theorem dX5_addClause_20 : decode cX5_addClause 20 = .ok (.getfield 19, 3) := by decide +kernel
theorem dX5_addClause_23 : decode cX5_addClause 23 = .ok (.aload_n 0, 1) := by decide +kernel
theorem dX5_addClause_24 : decode cX5_addClause 24 = .ok (.getfield 9, 3) := by decide +kernel
theorem dX5_addClause_27 : decode cX5_addClause 27 = .ok (.iload_n 2, 1) := by decide +kernel
theorem dX5_addClause_28 : decode cX5_addClause 28 = .ok (.iastore, 1) := by decide +kernel
theorem dX5_addClause_29 : decode cX5_addClause 29 = .ok (.aload_n 0, 1) := by decide +kernel
theorem dX5_addClause_30 : decode cX5_addClause 30 = .ok (.getfield 22, 3) := by decide +kernel
theorem dX5_addClause_33 : decode cX5_addClause 33 = .ok (.aload_n 0, 1) := by decide +kernel
theorem dX5_addClause_34 : decode cX5_addClause 34 = .ok (.getfield 9, 3) := by decide +kernel
theorem dX5_addClause_37 : decode cX5_addClause 37 = .ok (.iload_n 3, 1) := by decide +kernel
theorem dX5_addClause_38 : decode cX5_addClause 38 = .ok (.iastore, 1) := by decide +kernel
theorem dX5_addClause_39 : decode cX5_addClause 39 = .ok (.aload_n 0, 1) := by decide +kernel
theorem dX5_addClause_40 : decode cX5_addClause 40 = .ok (.dup, 1) := by decide +kernel
theorem dX5_addClause_41 : decode cX5_addClause 41 = .ok (.getfield 9, 3) := by decide +kernel
theorem dX5_addClause_44 : decode cX5_addClause 44 = .ok (.iconst 1, 1) := by decide +kernel
theorem dX5_addClause_45 : decode cX5_addClause 45 = .ok (.iadd, 1) := by decide +kernel
theorem dX5_addClause_46 : decode cX5_addClause 46 = .ok (.putfield 9, 3) := by decide +kernel
theorem dX5_addClause_49 : decode cX5_addClause 49 = .ok (.return_, 1) := by decide +kernel
theorem dX5_addNumber_0 : decode cX5_addNumber 0 = .ok (.aload_n 0, 1) := by decide +kernel
theorem dX5_addNumber_1 : decode cX5_addNumber 1 = .ok (.getfield 28, 3) := by decide +kernel
theorem dX5_addNumber_4 : decode cX5_addNumber 4 = .ok (.sipush 300, 3) := by decide +kernel
theorem dX5_addNumber_7 : decode cX5_addNumber 7 = .ok (.if_icmp .ge 23, 3) := by decide +kernel
theorem dX5_addNumber_10 : decode cX5_addNumber 10 = .ok (.aload_n 0, 1) := by decide +kernel
theorem dX5_addNumber_11 : decode cX5_addNumber 11 = .ok (.getfield 25, 3) := by decide +kernel
theorem dX5_addNumber_14 : decode cX5_addNumber 14 = .ok (.aload_n 0, 1) := by decide +kernel
theorem dX5_addNumber_15 : decode cX5_addNumber 15 = .ok (.getfield 28, 3) := by decide +kernel
theorem dX5_addNumber_18 : decode cX5_addNumber 18 = .ok (.iload_n 1, 1) := by decide +kernel
theorem dX5_addNumber_19 : decode cX5_addNumber 19 = .ok (.iastore, 1) := by decide +kernel
theorem dX5_addNumber_20 : decode cX5_addNumber 20 = .ok (.aload_n 0, 1) := by decide +kernel
theorem dX5_addNumber_21 : decode cX5_addNumber 21 = .ok (.dup, 1) := by decide +kernel
theorem dX5_addNumber_22 : decode cX5_addNumber 22 = .ok (.getfield 28, 3) := by decide +kernel
theorem dX5_addNumber_25 : decode cX5_addNumber 25 = .ok (.iconst 1, 1) := by decide +kernel
theorem dX5_addNumber_26 : decode cX5_addNumber 26 = .ok (.iadd, 1) := by decide +kernel
theorem dX5_addNumber_27 : decode cX5_addNumber 27 = .ok (.putfield 28, 3) := by decide +kernel
theorem dX5_addNumber_30 : decode cX5_addNumber 30 = .ok (.return_, 1) := by decide +kernel
theorem dX5_addSign_0 : decode cX5_addSign 0 = .ok (.aload_n 0, 1) := by decide +kernel
theorem dX5_addSign_1 : decode cX5_addSign 1 = .ok (.iconst (-1), 1) := by decide +kernel
theorem dX5_addSign_2 : decode cX5_addSign 2 = .ok (.iload_n 1, 1) := by decide +kernel
theorem dX5_addSign_3 : decode cX5_addSign 3 = .ok (.isub, 1) := by decide +kernel
theorem dX5_addSign_4 : decode cX5_addSign 4 = .ok (.invokevirtual 43, 3) := by decide +kernel
theorem dX5_addSign_7 : decode cX5_addSign 7 = .ok (.return_, 1) := by decide +kernel
theorem dX6_init_0 : decode cX6_init 0 = .ok (.aload_n 0, 1) := by decide +kernel
theorem dX6_init_1 : decode cX6_init 1 = .ok (.invokespecial 3, 3) := by decide +kernel
theorem dX6_init_4 : decode cX6_init 4 = .ok (.aload_n 0, 1) := by decide +kernel
theorem dX6_init_5 : decode cX6_init 5 = .ok (.iconst 0, 1) := by decide +kernel
theorem dX6_init_6 : decode cX6_init 6 = .ok (.putfield 9, 3) := by decide +kernel
theorem dX6_init_9 : decode cX6_init 9 = .ok (.aload_n 0, 1) := by decide +kernel
theorem dX6_init_10 : decode cX6_init 10 = .ok (.bipush 8, 2) := by decide +kernel
theorem dX6_init_12 : decode cX6_init 12 = .ok (.newarray .int, 2) := by decide +kernel
theorem dX6_init_14 : decode cX6_init 14 = .ok (.putfield 15, 3) := by decide +kernel
theorem dX6_init_17 : decode cX6_init 17 = .ok (.aload_n 0, 1) := by decide +kernel
theorem dX6_init_18 : decode cX6_init 18 = .ok (.iconst 0, 1) := by decide +kernel
theorem dX6_init_19 : decode cX6_init 19 = .ok (.putfield 19, 3) := by decide +kernel
theorem dX6_init_22 : decode cX6_init 22 = .ok (.aload_n 0, 1) := by decide +kernel
theorem dX6_init_23 : decode cX6_init 23 = .ok (.bipush 8, 2) := by decide +kernel
theorem dX6_init_25 : decode cX6_init 25 = .ok (.newarray .int, 2) := by decide +kernel
theorem dX6_init_27 : decode cX6_init 27 = .ok (.putfield 22, 3) := by decide +kernel
theorem dX6_init_30 : decode cX6_init 30 = .ok (.aload_n 0, 1) := by decide +kernel
theorem dX6_init_31 : decode cX6_init 31 = .ok (.bipush 8, 2) := by decide +kernel
theorem dX6_init_33 : decode cX6_init 33 = .ok (.newarray .int, 2) := by decide +kernel
theorem dX6_init_35 : decode cX6_init 35 = .ok (.putfield 25, 3) := by decide +kernel
theorem dX6_init_38 : decode cX6_init 38 = .ok (.aload_n 0, 1) := by decide +kernel
theorem dX6_init_39 : decode cX6_init 39 = .ok (.iconst 0, 1) := by decide +kernel
theorem dX6_init_40 : decode cX6_init 40 = .ok (.putfield 28, 3) := by decide +kernel
theorem dX6_init_43 : decode cX6_init 43 = .ok (.aload_n 0, 1) := by decide +kernel
theorem dX6_init_44 : decode cX6_init 44 = .ok (.iconst (-1), 1) := by decide +kernel
theorem dX6_init_45 : decode cX6_init 45 = .ok (.putfield 31, 3) := by decide +kernel
theorem dX6_init_48 : decode cX6_init 48 = .ok (.aload_n 0, 1) := by decide +kernel
theorem dX6_init_49 : decode cX6_init 49 = .ok (.iconst 0, 1) := by decide +kernel
theorem dX6_init_50 : decode cX6_init 50 = .ok (.putfield 34, 3) := by decide +kernel
theorem dX6_init_53 : decode cX6_init 53 = .ok (.aload_n 0, 1) := by decide +kernel
theorem dX6_init_54 : decode cX6_init 54 = .ok (.iconst 0, 1) := by decide +kernel
theorem dX6_init_55 : decode cX6_init 55 = .ok (.putfield 37, 3) := by decide +kernel
theorem dX6_init_58 : decode cX6_init 58 = .ok (.aload_n 0, 1) := by decide +kernel
theorem dX6_init_59 : decode cX6_init 59 = .ok (.new 40, 3) := by decide +kernel
theorem dX6_init_62 : decode cX6_init 62 = .ok (.dup, 1) := by decide +kernel
theorem dX6_init_63 : decode cX6_init 63 = .ok (.invokespecial 42, 3) := by decide +kernel
theorem dX6_init_66 : decode cX6_init 66 = .ok (.putfield 43, 3) := by decide +kernel
theorem dX6_init_69 : decode cX6_init 69 = .ok (.aload_n 0, 1) := by decide +kernel
theorem dX6_init_70 : decode cX6_init 70 = .ok (.new 47, 3) := by decide +kernel
theorem dX6_init_73 : decode cX6_init 73 = .ok (.dup, 1) := by decide +kernel
theorem dX6_init_74 : decode cX6_init 74 = .ok (.invokespecial 49, 3) := by decide +kernel
theorem dX6_init_77 : decode cX6_init 77 = .ok (.putfield 50, 3) := by decide +kernel
theorem dX6_init_80 : decode cX6_init 80 = .ok (.return_, 1) := by decide +kernel
theorem dX6_copyFrom_0 : decode cX6_copyFrom 0 = .ok (.aload_n 0, 1) := by decide +kernel
theorem dX6_copyFrom_1 : decode cX6_copyFrom 1 = .ok (.aload_n 1, 1) := by decide +kernel
theorem dX6_copyFrom_2 : decode cX6_copyFrom 2 = .ok (.getfield 9, 3) := by decide +kernel
theorem dX6_copyFrom_5 : decode cX6_copyFrom 5 = .ok (.putfield 9, 3) := by decide +kernel
theorem dX6_copyFrom_8 : decode cX6_copyFrom 8 = .ok (.aload_n 1, 1) := by decide +kernel
theorem dX6_copyFrom_9 : decode cX6_copyFrom 9 = .ok (.getfield 15, 3) := by decide +kernel
theorem dX6_copyFrom_12 : decode cX6_copyFrom 12 = .ok (.iconst 0, 1) := by decide +kernel
theorem dX6_copyFrom_13 : decode cX6_copyFrom 13 = .ok (.aload_n 0, 1) := by decide +kernel
theorem dX6_copyFrom_14 : decode cX6_copyFrom 14 = .ok (.getfield 15, 3) := by decide +kernel
theorem dX6_copyFrom_17 : decode cX6_copyFrom 17 = .ok (.iconst 0, 1) := by decide +kernel
theorem dX6_copyFrom_18 : decode cX6_copyFrom 18 = .ok (.bipush 8, 2) := by decide +kernel
theorem dX6_copyFrom_20 : decode cX6_copyFrom 20 = .ok (.invokestatic 54, 3) := by decide +kernel
theorem dX6_copyFrom_23 : decode cX6_copyFrom 23 = .ok (.aload_n 0, 1) := by decide +kernel
theorem dX6_copyFrom_24 : decode cX6_copyFrom 24 = .ok (.aload_n 1, 1) := by decide +kernel
theorem dX6_copyFrom_25 : decode cX6_copyFrom 25 = .ok (.getfield 19, 3) := by decide +kernel
theorem dX6_copyFrom_28 : decode cX6_copyFrom 28 = .ok (.putfield 19, 3) := by decide +kernel
theorem dX6_copyFrom_31 : decode cX6_copyFrom 31 = .ok (.aload_n 1, 1) := by decide +kernel
theorem dX6_copyFrom_32 : decode cX6_copyFrom 32 = .ok (.getfield 22, 3) := by decide +kernel
theorem dX6_copyFrom_35 : decode cX6_copyFrom 35 = .ok (.iconst 0, 1) := by decide +kernel
theorem dX6_copyFrom_36 : decode cX6_copyFrom 36 = .ok (.aload_n 0, 1) := by decide +kernel
theorem dX6_copyFrom_37 : decode cX6_copyFrom 37 = .ok (.getfield 22, 3) := by decide +kernel
theorem dX6_copyFrom_40 : decode cX6_copyFrom 40 = .ok (.iconst 0, 1) := by decide +kernel
theorem dX6_copyFrom_41 : decode cX6_copyFrom 41 = .ok (.bipush 8, 2) := by decide +kernel
theorem dX6_copyFrom_43 : decode cX6_copyFrom 43 = .ok (.invokestatic 54, 3) := by decide +kernel
theorem dX6_copyFrom_46 : decode cX6_copyFrom 46 = .ok (.aload_n 1, 1) := by decide +kernel
theorem dX6_copyFrom_47 : decode cX6_copyFrom 47 = .ok (.getfield 25, 3) := by decide +kernel
theorem dX6_copyFrom_50 : decode cX6_copyFrom 50 = .ok (.iconst 0, 1) := by decide +kernel
theorem dX6_copyFrom_51 : decode cX6_copyFrom 51 = .ok (.aload_n 0, 1) := by decide +kernel
theorem dX6_copyFrom_52 : decode cX6_copyFrom 52 = .ok (.getfield 25, 3) := by decide +kernel
theorem dX6_copyFrom_55 : decode cX6_copyFrom 55 = .ok (.iconst 0, 1) := by decide +kernel
theorem dX6_copyFrom_56 : decode cX6_copyFrom 56 = .ok (.bipush 8, 2) := by decide +kernel
theorem dX6_copyFrom_58 : decode cX6_copyFrom 58 = .ok (.invokestatic 54, 3) := by decide +kernel
theorem dX6_copyFrom_61 : decode cX6_copyFrom 61 = .ok (.aload_n 0, 1) := by decide +kernel
theorem dX6_copyFrom_62 : decode cX6_copyFrom 62 = .ok (.aload_n 1, 1) := by decide +kernel
theorem dX6_copyFrom_63 : decode cX6_copyFrom 63 = .ok (.getfield 28, 3) := by decide +kernel
theorem dX6_copyFrom_66 : decode cX6_copyFrom 66 = .ok (.putfield 28, 3) := by decide +kernel
theorem dX6_copyFrom_69 : decode cX6_copyFrom 69 = .ok (.aload_n 0, 1) := by decide +kernel
theorem dX6_copyFrom_70 : decode cX6_copyFrom 70 = .ok (.aload_n 1, 1) := by decide +kernel
theorem dX6_copyFrom_71 : decode cX6_copyFrom 71 = .ok (.getfield 31, 3) := by decide +kernel
theorem dX6_copyFrom_74 : decode cX6_copyFrom 74 = .ok (.putfield 31, 3) := by decide +kernel
theorem dX6_copyFrom_77 : decode cX6_copyFrom 77 = .ok (.aload_n 0, 1) := by decide +kernel
theorem dX6_copyFrom_78 : decode cX6_copyFrom 78 = .ok (.aload_n 1, 1) := by decide +kernel
theorem dX6_copyFrom_79 : decode cX6_copyFrom 79 = .ok (.getfield 34, 3) := by decide +kernel
theorem dX6_copyFrom_82 : decode cX6_copyFrom 82 = .ok (.putfield 34, 3) := by decide +kernel
theorem dX6_copyFrom_85 : decode cX6_copyFrom 85 = .ok (.aload_n 0, 1) := by decide +kernel
theorem dX6_copyFrom_86 : decode cX6_copyFrom 86 = .ok (.aload_n 1, 1) := by decide +kernel
theorem dX6_copyFrom_87 : decode cX6_copyFrom 87 = .ok (.getfield 37, 3) := by decide +kernel
theorem dX6_copyFrom_90 : decode cX6_copyFrom 90 = .ok (.putfield 37, 3) := by decide +kernel
theorem dX6_copyFrom_93 : decode cX6_copyFrom 93 = .ok (.aload_n 0, 1) := by decide +kernel
theorem dX6_copyFrom_94 : decode cX6_copyFrom 94 = .ok (.getfield 43, 3) := by decide +kernel
theorem dX6_copyFrom_97 : decode cX6_copyFrom 97 = .ok (.aload_n 1, 1) := by decide +kernel
theorem dX6_copyFrom_98 : decode cX6_copyFrom 98 = .ok (.getfield 43, 3) := by decide +kernel
theorem dX6_copyFrom_101 : decode cX6_copyFrom 101 = .ok (.invokevirtual 60, 3) := by decide +kernel
theorem dX6_copyFrom_104 : decode cX6_copyFrom 104 = .ok (.aload_n 0, 1) := by decide +kernel
theorem dX6_copyFrom_105 : decode cX6_copyFrom 105 = .ok (.getfield 50, 3) := by decide +kernel
theorem dX6_copyFrom_108 : decode cX6_copyFrom 108 = .ok (.aload_n 1, 1) := by decide +kernel
theorem dX6_copyFrom_109 : decode cX6_copyFrom 109 = .ok (.getfield 50, 3) := by decide +kernel
theorem dX6_copyFrom_112 : decode cX6_copyFrom 112 = .ok (.invokevirtual 64, 3) := by decide +kernel
theorem dX6_copyFrom_115 : decode cX6_copyFrom 115 = .ok (.return_, 1) := by decide +kernel
theorem dX7_init_0 : decode cX7_init 0 = .ok (.aload_n 0, 1) := by decide +kernel
theorem dX7_init_1 : decode cX7_init 1 = .ok (.invokespecial 1, 3) := by decide +kernel
theorem dX7_init_4 : decode cX7_init 4 = .ok (.aload_n 0, 1) := by decide +kernel
theorem dX7_init_5 : decode cX7_init 5 = .ok (.sipush 300, 3) := by decide +kernel
theorem dX7_init_8 : decode cX7_init 8 = .ok (.newarray .byte, 2) := by decide +kernel
theorem dX7_init_10 : decode cX7_init 10 = .ok (.putfield 9, 3) := by decide +kernel
theorem dX7_init_13 : decode cX7_init 13 = .ok (.aload_n 0, 1) := by decide +kernel
theorem dX7_init_14 : decode cX7_init 14 = .ok (.iconst 0, 1) := by decide +kernel
theorem dX7_init_15 : decode cX7_init 15 = .ok (.putfield 13, 3) := by decide +kernel
theorem dX7_init_18 : decode cX7_init 18 = .ok (.aload_n 0, 1) := by decide +kernel
theorem dX7_init_19 : decode cX7_init 19 = .ok (.new 17, 3) := by decide +kernel
theorem dX7_init_22 : decode cX7_init 22 = .ok (.dup, 1) := by decide +kernel
theorem dX7_init_23 : decode cX7_init 23 = .ok (.invokespecial 19, 3) := by decide +kernel
theorem dX7_init_26 : decode cX7_init 26 = .ok (.putfield 20, 3) := by decide +kernel
theorem dX7_init_29 : decode cX7_init 29 = .ok (.aload_n 0, 1) := by decide +kernel
theorem dX7_init_30 : decode cX7_init 30 = .ok (.iconst 4, 1) := by decide +kernel
theorem dX7_init_31 : decode cX7_init 31 = .ok (.anewarray 24, 3) := by decide +kernel
theorem dX7_init_34 : decode cX7_init 34 = .ok (.putfield 26, 3) := by decide +kernel
theorem dX7_init_37 : decode cX7_init 37 = .ok (.aload_n 0, 1) := by decide +kernel
theorem dX7_init_38 : decode cX7_init 38 = .ok (.new 30, 3) := by decide +kernel
theorem dX7_init_41 : decode cX7_init 41 = .ok (.dup, 1) := by decide +kernel
theorem dX7_init_42 : decode cX7_init 42 = .ok (.invokespecial 32, 3) := by decide +kernel
theorem dX7_init_45 : decode cX7_init 45 = .ok (.putfield 33, 3) := by decide +kernel
theorem dX7_init_48 : decode cX7_init 48 = .ok (.aload_n 0, 1) := by decide +kernel
theorem dX7_init_49 : decode cX7_init 49 = .ok (.new 30, 3) := by decide +kernel
theorem dX7_init_52 : decode cX7_init 52 = .ok (.dup, 1) := by decide +kernel
theorem dX7_init_53 : decode cX7_init 53 = .ok (.invokespecial 32, 3) := by decide +kernel
theorem dX7_init_56 : decode cX7_init 56 = .ok (.putfield 37, 3) := by decide +kernel
theorem dX7_init_59 : decode cX7_init 59 = .ok (.aload_n 0, 1) := by decide +kernel
theorem dX7_init_60 : decode cX7_init 60 = .ok (.new 40, 3) := by decide +kernel
theorem dX7_init_63 : decode cX7_init 63 = .ok (.dup, 1) := by decide +kernel
theorem dX7_init_64 : decode cX7_init 64 = .ok (.invokespecial 42, 3) := by decide +kernel
theorem dX7_init_67 : decode cX7_init 67 = .ok (.putfield 43, 3) := by decide +kernel
theorem dX7_init_70 : decode cX7_init 70 = .ok (.aload_n 0, 1) := by decide +kernel
theorem dX7_init_71 : decode cX7_init 71 = .ok (.new 47, 3) := by decide +kernel
theorem dX7_init_74 : decode cX7_init 74 = .ok (.dup, 1) := by decide +kernel
theorem dX7_init_75 : decode cX7_init 75 = .ok (.invokespecial 49, 3) := by decide +kernel
theorem dX7_init_78 : decode cX7_init 78 = .ok (.putfield 50, 3) := by decide +kernel
theorem dX7_init_81 : decode cX7_init 81 = .ok (.aload_n 0, 1) := by decide +kernel
theorem dX7_init_82 : decode cX7_init 82 = .ok (.new 54, 3) := by decide +kernel
theorem dX7_init_85 : decode cX7_init 85 = .ok (.dup, 1) := by decide +kernel
theorem dX7_init_86 : decode cX7_init 86 = .ok (.invokespecial 56, 3) := by decide +kernel
theorem dX7_init_89 : decode cX7_init 89 = .ok (.putfield 57, 3) := by decide +kernel
theorem dX7_init_92 : decode cX7_init 92 = .ok (.aload_n 0, 1) := by decide +kernel
theorem dX7_init_93 : decode cX7_init 93 = .ok (.bipush 32, 2) := by decide +kernel
theorem dX7_init_95 : decode cX7_init 95 = .ok (.newarray .int, 2) := by decide +kernel
theorem dX7_init_97 : decode cX7_init 97 = .ok (.putfield 61, 3) := by decide +kernel
theorem dX7_init_100 : decode cX7_init 100 = .ok (.aload_n 0, 1) := by decide +kernel
theorem dX7_init_101 : decode cX7_init 101 = .ok (.bipush 8, 2) := by decide +kernel
theorem dX7_init_103 : decode cX7_init 103 = .ok (.newarray .int, 2) := by decide +kernel
theorem dX7_init_105 : decode cX7_init 105 = .ok (.putfield 65, 3) := by decide +kernel
theorem dX7_init_108 : decode cX7_init 108 = .ok (.aload_n 0, 1) := by decide +kernel
theorem dX7_init_109 : decode cX7_init 109 = .ok (.iconst 1, 1) := by decide +kernel
theorem dX7_init_110 : decode cX7_init 110 = .ok (.bipush 6, 2) := by decide +kernel
theorem dX7_init_112 : decode cX7_init 112 = .ok (.iload_n 1, 1) := by decide +kernel
theorem dX7_init_113 : decode cX7_init 113 = .ok (.invokestatic 68, 3) := by decide +kernel
theorem dX7_init_116 : decode cX7_init 116 = .ok (.invokestatic 74, 3) := by decide +kernel
theorem dX7_init_119 : decode cX7_init 119 = .ok (.putfield 77, 3) := by decide +kernel
theorem dX7_init_122 : decode cX7_init 122 = .ok (.iconst 0, 1) := by decide +kernel
theorem dX7_init_123 : decode cX7_init 123 = .ok (.istore_n 2, 1) := by decide +kernel
theorem dX7_init_124 : decode cX7_init 124 = .ok (.iload_n 2, 1) := by decide +kernel
theorem dX7_init_125 : decode cX7_init 125 = .ok (.iconst 4, 1) := by decide +kernel
theorem dX7_init_126 : decode cX7_init 126 = .ok (.if_icmp .ge 22, 3) := by decide +kernel
theorem dX7_init_129 : decode cX7_init 129 = .ok (.aload_n 0, 1) := by decide +kernel
theorem dX7_init_130 : decode cX7_init 130 = .ok (.getfield 26, 3) := by decide +kernel
theorem dX7_init_133 : decode cX7_init 133 = .ok (.iload_n 2, 1) := by decide +kernel
theorem dX7_init_134 : decode cX7_init 134 = .ok (.new 24, 3) := by decide +kernel
theorem dX7_init_137 : decode cX7_init 137 = .ok (.dup, 1) := by decide +kernel
theorem dX7_init_138 : decode cX7_init 138 = .ok (.invokespecial 80, 3) := by decide +kernel
theorem dX7_init_141 : decode cX7_init 141 = .ok (.aastore, 1) := by decide +kernel
theorem dX7_init_142 : decode cX7_init 142 = .ok (.iinc 2 1, 3) := by decide +kernel
theorem dX7_init_145 : decode cX7_init 145 = .ok (.goto (-21), 3) := by decide +kernel
theorem dX7_init_148 : decode cX7_init 148 = .ok (.return_, 1) := by decide +kernel
theorem dX7_thing_0 : decode cX7_thing 0 = .ok (.iload_n 1, 1) := by decide +kernel
theorem dX7_thing_1 : decode cX7_thing 1 = .ok (.ifCond .lt 20, 3) := by decide +kernel
theorem dX7_thing_4 : decode cX7_thing 4 = .ok (.iload_n 1, 1) := by decide +kernel
theorem dX7_thing_5 : decode cX7_thing 5 = .ok (.iconst 4, 1) := by decide +kernel
theorem dX7_thing_6 : decode cX7_thing 6 = .ok (.if_icmp .ge 15, 3) := by decide +kernel
theorem dX7_thing_9 : decode cX7_thing 9 = .ok (.aload_n 0, 1) := by decide +kernel
theorem dX7_thing_10 : decode cX7_thing 10 = .ok (.getfield 33, 3) := by decide +kernel
theorem dX7_thing_13 : decode cX7_thing 13 = .ok (.getfield 81, 3) := by decide +kernel
theorem dX7_thing_16 : decode cX7_thing 16 = .ok (.bipush 8, 2) := by decide +kernel
theorem dX7_thing_18 : decode cX7_thing 18 = .ok (.if_icmp .lt 5, 3) := by decide +kernel
theorem dX7_thing_21 : decode cX7_thing 21 = .ok (.iconst (-1), 1) := by decide +kernel
theorem dX7_thing_22 : decode cX7_thing 22 = .ok (.ireturn, 1) := by decide +kernel
theorem dX7_thing_23 : decode cX7_thing 23 = .ok (.aload_n 0, 1) := by decide +kernel
theorem dX7_thing_24 : decode cX7_thing 24 = .ok (.getfield 33, 3) := by decide +kernel
theorem dX7_thing_27 : decode cX7_thing 27 = .ok (.getfield 84, 3) := by decide +kernel
theorem dX7_thing_30 : decode cX7_thing 30 = .ok (.aload_n 0, 1) := by decide +kernel
theorem dX7_thing_31 : decode cX7_thing 31 = .ok (.getfield 33, 3) := by decide +kernel
theorem dX7_thing_34 : decode cX7_thing 34 = .ok (.getfield 81, 3) := by decide +kernel
theorem dX7_thing_37 : decode cX7_thing 37 = .ok (.iload_n 1, 1) := by decide +kernel
theorem dX7_thing_38 : decode cX7_thing 38 = .ok (.iastore, 1) := by decide +kernel
theorem dX7_thing_39 : decode cX7_thing 39 = .ok (.aload_n 0, 1) := by decide +kernel
theorem dX7_thing_40 : decode cX7_thing 40 = .ok (.getfield 33, 3) := by decide +kernel
theorem dX7_thing_43 : decode cX7_thing 43 = .ok (.dup, 1) := by decide +kernel
theorem dX7_thing_44 : decode cX7_thing 44 = .ok (.getfield 81, 3) := by decide +kernel
theorem dX7_thing_47 : decode cX7_thing 47 = .ok (.iconst 1, 1) := by decide +kernel
theorem dX7_thing_48 : decode cX7_thing 48 = .ok (.iadd, 1) := by decide +kernel
theorem dX7_thing_49 : decode cX7_thing 49 = .ok (.putfield 81, 3) := by decide +kernel
theorem dX7_thing_52 : decode cX7_thing 52 = .ok (.aload_n 0, 1) := by decide +kernel
theorem dX7_thing_53 : decode cX7_thing 53 = .ok (.getfield 33, 3) := by decide +kernel
theorem dX7_thing_56 : decode cX7_thing 56 = .ok (.getfield 81, 3) := by decide +kernel
theorem dX7_thing_59 : decode cX7_thing 59 = .ok (.iconst 1, 1) := by decide +kernel
theorem dX7_thing_60 : decode cX7_thing 60 = .ok (.isub, 1) := by decide +kernel
theorem dX7_thing_61 : decode cX7_thing 61 = .ok (.ireturn, 1) := by decide +kernel
theorem dX7_eye_0 : decode cX7_eye 0 = .ok (.iload_n 1, 1) := by decide +kernel
theorem dX7_eye_1 : decode cX7_eye 1 = .ok (.ifCond .lt 20, 3) := by decide +kernel
theorem dX7_eye_4 : decode cX7_eye 4 = .ok (.iload_n 1, 1) := by decide +kernel
theorem dX7_eye_5 : decode cX7_eye 5 = .ok (.iconst 4, 1) := by decide +kernel
theorem dX7_eye_6 : decode cX7_eye 6 = .ok (.if_icmp .ge 15, 3) := by decide +kernel
theorem dX7_eye_9 : decode cX7_eye 9 = .ok (.aload_n 0, 1) := by decide +kernel
theorem dX7_eye_10 : decode cX7_eye 10 = .ok (.getfield 33, 3) := by decide +kernel
theorem dX7_eye_13 : decode cX7_eye 13 = .ok (.getfield 87, 3) := by decide +kernel
theorem dX7_eye_16 : decode cX7_eye 16 = .ok (.bipush 8, 2) := by decide +kernel
theorem dX7_eye_18 : decode cX7_eye 18 = .ok (.if_icmp .lt 5, 3) := by decide +kernel
theorem dX7_eye_21 : decode cX7_eye 21 = .ok (.iconst (-1), 1) := by decide +kernel
theorem dX7_eye_22 : decode cX7_eye 22 = .ok (.ireturn, 1) := by decide +kernel
theorem dX7_eye_23 : decode cX7_eye 23 = .ok (.aload_n 0, 1) := by decide +kernel
theorem dX7_eye_24 : decode cX7_eye 24 = .ok (.getfield 33, 3) := by decide +kernel
theorem dX7_eye_27 : decode cX7_eye 27 = .ok (.getfield 90, 3) := by decide +kernel
theorem dX7_eye_30 : decode cX7_eye 30 = .ok (.aload_n 0, 1) := by decide +kernel
theorem dX7_eye_31 : decode cX7_eye 31 = .ok (.getfield 33, 3) := by decide +kernel
theorem dX7_eye_34 : decode cX7_eye 34 = .ok (.getfield 87, 3) := by decide +kernel
theorem dX7_eye_37 : decode cX7_eye 37 = .ok (.iload_n 1, 1) := by decide +kernel
theorem dX7_eye_38 : decode cX7_eye 38 = .ok (.iastore, 1) := by decide +kernel
theorem dX7_eye_39 : decode cX7_eye 39 = .ok (.aload_n 0, 1) := by decide +kernel
theorem dX7_eye_40 : decode cX7_eye 40 = .ok (.getfield 33, 3) := by decide +kernel
theorem dX7_eye_43 : decode cX7_eye 43 = .ok (.getfield 93, 3) := by decide +kernel
theorem dX7_eye_46 : decode cX7_eye 46 = .ok (.aload_n 0, 1) := by decide +kernel
theorem dX7_eye_47 : decode cX7_eye 47 = .ok (.getfield 33, 3) := by decide +kernel
theorem dX7_eye_50 : decode cX7_eye 50 = .ok (.getfield 87, 3) := by decide +kernel
theorem dX7_eye_53 : decode cX7_eye 53 = .ok (.iload_n 2, 1) := by decide +kernel
theorem dX7_eye_54 : decode cX7_eye 54 = .ok (.ifCond .eq 7, 3) := by decide +kernel
theorem dX7_eye_57 : decode cX7_eye 57 = .ok (.iconst 1, 1) := by decide +kernel
theorem dX7_eye_58 : decode cX7_eye 58 = .ok (.goto 4, 3) := by decide +kernel
theorem dX7_eye_61 : decode cX7_eye 61 = .ok (.iconst 0, 1) := by decide +kernel
theorem dX7_eye_62 : decode cX7_eye 62 = .ok (.iastore, 1) := by decide +kernel
theorem dX7_eye_63 : decode cX7_eye 63 = .ok (.aload_n 0, 1) := by decide +kernel
theorem dX7_eye_64 : decode cX7_eye 64 = .ok (.getfield 33, 3) := by decide +kernel
theorem dX7_eye_67 : decode cX7_eye 67 = .ok (.dup, 1) := by decide +kernel
theorem dX7_eye_68 : decode cX7_eye 68 = .ok (.getfield 87, 3) := by decide +kernel
theorem dX7_eye_71 : decode cX7_eye 71 = .ok (.iconst 1, 1) := by decide +kernel
theorem dX7_eye_72 : decode cX7_eye 72 = .ok (.iadd, 1) := by decide +kernel
theorem dX7_eye_73 : decode cX7_eye 73 = .ok (.putfield 87, 3) := by decide +kernel
theorem dX7_eye_76 : decode cX7_eye 76 = .ok (.aload_n 0, 1) := by decide +kernel
theorem dX7_eye_77 : decode cX7_eye 77 = .ok (.getfield 33, 3) := by decide +kernel
theorem dX7_eye_80 : decode cX7_eye 80 = .ok (.getfield 87, 3) := by decide +kernel
theorem dX7_eye_83 : decode cX7_eye 83 = .ok (.iconst 1, 1) := by decide +kernel
theorem dX7_eye_84 : decode cX7_eye 84 = .ok (.isub, 1) := by decide +kernel
theorem dX7_eye_85 : decode cX7_eye 85 = .ok (.ireturn, 1) := by decide +kernel
theorem dX7_feed_0 : decode cX7_feed 0 = .ok (.aload_n 0, 1) := by decide +kernel
theorem dX7_feed_1 : decode cX7_feed 1 = .ok (.getfield 13, 3) := by decide +kernel
theorem dX7_feed_4 : decode cX7_feed 4 = .ok (.bipush 20, 2) := by decide +kernel
theorem dX7_feed_6 : decode cX7_feed 6 = .ok (.iadd, 1) := by decide +kernel
theorem dX7_feed_7 : decode cX7_feed 7 = .ok (.sipush 300, 3) := by decide +kernel
theorem dX7_feed_10 : decode cX7_feed 10 = .ok (.if_icmp .le 5, 3) := by decide +kernel
theorem dX7_feed_13 : decode cX7_feed 13 = .ok (.iconst (-1), 1) := by decide +kernel
theorem dX7_feed_14 : decode cX7_feed 14 = .ok (.ireturn, 1) := by decide +kernel
theorem dX7_feed_15 : decode cX7_feed 15 = .ok (.aload_n 0, 1) := by decide +kernel
theorem dX7_feed_16 : decode cX7_feed 16 = .ok (.iload_n 1, 1) := by decide +kernel
theorem dX7_feed_17 : decode cX7_feed 17 = .ok (.invokevirtual 96, 3) := by decide +kernel
theorem dX7_feed_20 : decode cX7_feed 20 = .ok (.aload_n 0, 1) := by decide +kernel
theorem dX7_feed_21 : decode cX7_feed 21 = .ok (.iload_n 2, 1) := by decide +kernel
theorem dX7_feed_22 : decode cX7_feed 22 = .ok (.invokevirtual 96, 3) := by decide +kernel
theorem dX7_feed_25 : decode cX7_feed 25 = .ok (.aload_n 0, 1) := by decide +kernel
theorem dX7_feed_26 : decode cX7_feed 26 = .ok (.iload_n 3, 1) := by decide +kernel
theorem dX7_feed_27 : decode cX7_feed 27 = .ok (.invokevirtual 96, 3) := by decide +kernel
theorem dX7_feed_30 : decode cX7_feed 30 = .ok (.aload_n 0, 1) := by decide +kernel
theorem dX7_feed_31 : decode cX7_feed 31 = .ok (.iload 4, 2) := by decide +kernel
theorem dX7_feed_33 : decode cX7_feed 33 = .ok (.invokevirtual 96, 3) := by decide +kernel
theorem dX7_feed_36 : decode cX7_feed 36 = .ok (.aload_n 0, 1) := by decide +kernel
theorem dX7_feed_37 : decode cX7_feed 37 = .ok (.iload 5, 2) := by decide +kernel
theorem dX7_feed_39 : decode cX7_feed 39 = .ok (.invokevirtual 96, 3) := by decide +kernel
theorem dX7_feed_42 : decode cX7_feed 42 = .ok (.aload_n 0, 1) := by decide +kernel
theorem dX7_feed_43 : decode cX7_feed 43 = .ok (.getfield 13, 3) := by decide +kernel
theorem dX7_feed_46 : decode cX7_feed 46 = .ok (.ireturn, 1) := by decide +kernel
theorem dX7_end_0 : decode cX7_end 0 = .ok (.iload_n 1, 1) := by decide +kernel
theorem dX7_end_1 : decode cX7_end 1 = .ok (.ifCond .lt 11, 3) := by decide +kernel
theorem dX7_end_4 : decode cX7_end 4 = .ok (.iload_n 1, 1) := by decide +kernel
theorem dX7_end_5 : decode cX7_end 5 = .ok (.aload_n 0, 1) := by decide +kernel
theorem dX7_end_6 : decode cX7_end 6 = .ok (.getfield 13, 3) := by decide +kernel
theorem dX7_end_9 : decode cX7_end 9 = .ok (.if_icmp .le 5, 3) := by decide +kernel
theorem dX7_end_12 : decode cX7_end 12 = .ok (.iconst (-1), 1) := by decide +kernel
theorem dX7_end_13 : decode cX7_end 13 = .ok (.ireturn, 1) := by decide +kernel
theorem dX7_end_14 : decode cX7_end 14 = .ok (.aload_n 0, 1) := by decide +kernel
theorem dX7_end_15 : decode cX7_end 15 = .ok (.iload_n 1, 1) := by decide +kernel
theorem dX7_end_16 : decode cX7_end 16 = .ok (.putfield 13, 3) := by decide +kernel
theorem dX7_end_19 : decode cX7_end 19 = .ok (.iload_n 1, 1) := by decide +kernel
theorem dX7_end_20 : decode cX7_end 20 = .ok (.ireturn, 1) := by decide +kernel
theorem dX7_text_0 : decode cX7_text 0 = .ok (.aload_n 0, 1) := by decide +kernel
theorem dX7_text_1 : decode cX7_text 1 = .ok (.getfield 33, 3) := by decide +kernel
theorem dX7_text_4 : decode cX7_text 4 = .ok (.getfield 100, 3) := by decide +kernel
theorem dX7_text_7 : decode cX7_text 7 = .ok (.iconst 4, 1) := by decide +kernel
theorem dX7_text_8 : decode cX7_text 8 = .ok (.if_icmp .lt 5, 3) := by decide +kernel
theorem dX7_text_11 : decode cX7_text 11 = .ok (.iconst (-1), 1) := by decide +kernel
theorem dX7_text_12 : decode cX7_text 12 = .ok (.ireturn, 1) := by decide +kernel
theorem dX7_text_13 : decode cX7_text 13 = .ok (.aload_n 0, 1) := by decide +kernel
theorem dX7_text_14 : decode cX7_text 14 = .ok (.getfield 20, 3) := by decide +kernel
theorem dX7_text_17 : decode cX7_text 17 = .ok (.aload_n 0, 1) := by decide +kernel
theorem dX7_text_18 : decode cX7_text 18 = .ok (.getfield 9, 3) := by decide +kernel
theorem dX7_text_21 : decode cX7_text 21 = .ok (.aload_n 0, 1) := by decide +kernel
theorem dX7_text_22 : decode cX7_text 22 = .ok (.getfield 13, 3) := by decide +kernel
