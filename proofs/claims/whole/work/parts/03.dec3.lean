theorem dX8_touch_16 : decode cX8_touch 16 = .ok (.aload_n 0, 1) := by decide +kernel
theorem dX8_touch_17 : decode cX8_touch 17 = .ok (.getfield 7, 3) := by decide +kernel
theorem dX8_touch_20 : decode cX8_touch 20 = .ok (.iconst 2, 1) := by decide +kernel
theorem dX8_touch_21 : decode cX8_touch 21 = .ok (.iaload, 1) := by decide +kernel
theorem dX8_touch_22 : decode cX8_touch 22 = .ok (.sipush 999, 3) := by decide +kernel
theorem dX8_touch_25 : decode cX8_touch 25 = .ok (.if_icmp .ne 5, 3) := by decide +kernel
theorem dX8_touch_28 : decode cX8_touch 28 = .ok (.iconst (-1), 1) := by decide +kernel
theorem dX8_touch_29 : decode cX8_touch 29 = .ok (.ireturn, 1) := by decide +kernel
theorem dX8_touch_30 : decode cX8_touch 30 = .ok (.aload_n 0, 1) := by decide +kernel
theorem dX8_touch_31 : decode cX8_touch 31 = .ok (.invokevirtual 268, 3) := by decide +kernel
theorem dX8_touch_34 : decode cX8_touch 34 = .ok (.aload_n 0, 1) := by decide +kernel
theorem dX8_touch_35 : decode cX8_touch 35 = .ok (.getfield 7, 3) := by decide +kernel
theorem dX8_touch_38 : decode cX8_touch 38 = .ok (.iconst 2, 1) := by decide +kernel
theorem dX8_touch_39 : decode cX8_touch 39 = .ok (.dup2, 1) := by decide +kernel
theorem dX8_touch_40 : decode cX8_touch 40 = .ok (.iaload, 1) := by decide +kernel
theorem dX8_touch_41 : decode cX8_touch 41 = .ok (.iconst 1, 1) := by decide +kernel
theorem dX8_touch_42 : decode cX8_touch 42 = .ok (.iadd, 1) := by decide +kernel
theorem dX8_touch_43 : decode cX8_touch 43 = .ok (.iastore, 1) := by decide +kernel
theorem dX8_touch_44 : decode cX8_touch 44 = .ok (.iconst 0, 1) := by decide +kernel
theorem dX8_touch_45 : decode cX8_touch 45 = .ok (.istore_n 3, 1) := by decide +kernel
theorem dX8_touch_46 : decode cX8_touch 46 = .ok (.iconst 0, 1) := by decide +kernel
theorem dX8_touch_47 : decode cX8_touch 47 = .ok (.istore 4, 2) := by decide +kernel
theorem dX8_touch_49 : decode cX8_touch 49 = .ok (.iload 4, 2) := by decide +kernel
theorem dX8_touch_51 : decode cX8_touch 51 = .ok (.aload_n 0, 1) := by decide +kernel
theorem dX8_touch_52 : decode cX8_touch 52 = .ok (.getfield 7, 3) := by decide +kernel
theorem dX8_touch_55 : decode cX8_touch 55 = .ok (.iconst 1, 1) := by decide +kernel
theorem dX8_touch_56 : decode cX8_touch 56 = .ok (.iaload, 1) := by decide +kernel
theorem dX8_touch_57 : decode cX8_touch 57 = .ok (.if_icmp .ge 74, 3) := by decide +kernel
theorem dX8_touch_60 : decode cX8_touch 60 = .ok (.aload_n 0, 1) := by decide +kernel
theorem dX8_touch_61 : decode cX8_touch 61 = .ok (.iload 4, 2) := by decide +kernel
theorem dX8_touch_63 : decode cX8_touch 63 = .ok (.iconst 2, 1) := by decide +kernel
theorem dX8_touch_64 : decode cX8_touch 64 = .ok (.invokevirtual 77, 3) := by decide +kernel
theorem dX8_touch_67 : decode cX8_touch 67 = .ok (.iload_n 2, 1) := by decide +kernel
theorem dX8_touch_68 : decode cX8_touch 68 = .ok (.if_icmp .ne 57, 3) := by decide +kernel
theorem dX8_touch_71 : decode cX8_touch 71 = .ok (.aload_n 0, 1) := by decide +kernel
theorem dX8_touch_72 : decode cX8_touch 72 = .ok (.iload 4, 2) := by decide +kernel
theorem dX8_touch_74 : decode cX8_touch 74 = .ok (.aload_n 0, 1) := by decide +kernel
theorem dX8_touch_75 : decode cX8_touch 75 = .ok (.getfield 7, 3) := by decide +kernel
theorem dX8_touch_78 : decode cX8_touch 78 = .ok (.iconst 2, 1) := by decide +kernel
theorem dX8_touch_79 : decode cX8_touch 79 = .ok (.iaload, 1) := by decide +kernel
theorem dX8_touch_80 : decode cX8_touch 80 = .ok (.aload_n 0, 1) := by decide +kernel
theorem dX8_touch_81 : decode cX8_touch 81 = .ok (.iload 4, 2) := by decide +kernel
theorem dX8_touch_83 : decode cX8_touch 83 = .ok (.invokevirtual 257, 3) := by decide +kernel
theorem dX8_touch_86 : decode cX8_touch 86 = .ok (.iload_n 1, 1) := by decide +kernel
theorem dX8_touch_87 : decode cX8_touch 87 = .ok (.iload_n 2, 1) := by decide +kernel
theorem dX8_touch_88 : decode cX8_touch 88 = .ok (.invokevirtual 271, 3) := by decide +kernel
theorem dX8_touch_91 : decode cX8_touch 91 = .ok (.ifCond .ne 6, 3) := by decide +kernel
theorem dX8_touch_94 : decode cX8_touch 94 = .ok (.goto 31, 3) := by decide +kernel
theorem dX8_touch_97 : decode cX8_touch 97 = .ok (.aload_n 0, 1) := by decide +kernel
theorem dX8_touch_98 : decode cX8_touch 98 = .ok (.iload 4, 2) := by decide +kernel
theorem dX8_touch_100 : decode cX8_touch 100 = .ok (.iload_n 1, 1) := by decide +kernel
theorem dX8_touch_101 : decode cX8_touch 101 = .ok (.invokevirtual 275, 3) := by decide +kernel
theorem dX8_touch_104 : decode cX8_touch 104 = .ok (.aload_n 0, 1) := by decide +kernel
theorem dX8_touch_105 : decode cX8_touch 105 = .ok (.iload 4, 2) := by decide +kernel
theorem dX8_touch_107 : decode cX8_touch 107 = .ok (.iconst 1, 1) := by decide +kernel
theorem dX8_touch_108 : decode cX8_touch 108 = .ok (.invokevirtual 77, 3) := by decide +kernel
theorem dX8_touch_111 : decode cX8_touch 111 = .ok (.iconst 1, 1) := by decide +kernel
theorem dX8_touch_112 : decode cX8_touch 112 = .ok (.if_icmp .ne 10, 3) := by decide +kernel
theorem dX8_touch_115 : decode cX8_touch 115 = .ok (.aload_n 0, 1) := by decide +kernel
theorem dX8_touch_116 : decode cX8_touch 116 = .ok (.iload 4, 2) := by decide +kernel
theorem dX8_touch_118 : decode cX8_touch 118 = .ok (.iload_n 1, 1) := by decide +kernel
theorem dX8_touch_119 : decode cX8_touch 119 = .ok (.invokevirtual 275, 3) := by decide +kernel
theorem dX8_touch_122 : decode cX8_touch 122 = .ok (.iinc 3 1, 3) := by decide +kernel
theorem dX8_touch_125 : decode cX8_touch 125 = .ok (.iinc 4 1, 3) := by decide +kernel
theorem dX8_touch_128 : decode cX8_touch 128 = .ok (.goto (-79), 3) := by decide +kernel
theorem dX8_touch_131 : decode cX8_touch 131 = .ok (.iload_n 3, 1) := by decide +kernel
theorem dX8_touch_132 : decode cX8_touch 132 = .ok (.ireturn, 1) := by decide +kernel
theorem dX8_place0_0 : decode cX8_place0 0 = .ok (.aload_n 0, 1) := by decide +kernel
theorem dX8_place0_1 : decode cX8_place0 1 = .ok (.iload_n 1, 1) := by decide +kernel
theorem dX8_place0_2 : decode cX8_place0 2 = .ok (.iconst 2, 1) := by decide +kernel
theorem dX8_place0_3 : decode cX8_place0 3 = .ok (.iload_n 2, 1) := by decide +kernel
theorem dX8_place0_4 : decode cX8_place0 4 = .ok (.invokevirtual 73, 3) := by decide +kernel
theorem dX8_place0_7 : decode cX8_place0 7 = .ok (.aload_n 0, 1) := by decide +kernel
theorem dX8_place0_8 : decode cX8_place0 8 = .ok (.iload_n 1, 1) := by decide +kernel
theorem dX8_place0_9 : decode cX8_place0 9 = .ok (.iconst 3, 1) := by decide +kernel
theorem dX8_place0_10 : decode cX8_place0 10 = .ok (.aload_n 0, 1) := by decide +kernel
theorem dX8_place0_11 : decode cX8_place0 11 = .ok (.getfield 7, 3) := by decide +kernel
theorem dX8_place0_14 : decode cX8_place0 14 = .ok (.iconst 2, 1) := by decide +kernel
theorem dX8_place0_15 : decode cX8_place0 15 = .ok (.iaload, 1) := by decide +kernel
theorem dX8_place0_16 : decode cX8_place0 16 = .ok (.invokevirtual 73, 3) := by decide +kernel
theorem dX8_place0_19 : decode cX8_place0 19 = .ok (.return_, 1) := by decide +kernel
theorem dX8_put_0 : decode cX8_put 0 = .ok (.aload_n 0, 1) := by decide +kernel
theorem dX8_put_1 : decode cX8_put 1 = .ok (.iload_n 1, 1) := by decide +kernel
theorem dX8_put_2 : decode cX8_put 2 = .ok (.invokevirtual 278, 3) := by decide +kernel
theorem dX8_put_5 : decode cX8_put 5 = .ok (.ifCond .eq 42, 3) := by decide +kernel
theorem dX8_put_8 : decode cX8_put 8 = .ok (.iload_n 2, 1) := by decide +kernel
theorem dX8_put_9 : decode cX8_put 9 = .ok (.iconst (-1), 1) := by decide +kernel
theorem dX8_put_10 : decode cX8_put 10 = .ok (.if_icmp .eq 11, 3) := by decide +kernel
theorem dX8_put_13 : decode cX8_put 13 = .ok (.aload_n 0, 1) := by decide +kernel
theorem dX8_put_14 : decode cX8_put 14 = .ok (.iload_n 2, 1) := by decide +kernel
theorem dX8_put_15 : decode cX8_put 15 = .ok (.invokevirtual 265, 3) := by decide +kernel
theorem dX8_put_18 : decode cX8_put 18 = .ok (.ifCond .eq 29, 3) := by decide +kernel
theorem dX8_put_21 : decode cX8_put 21 = .ok (.aload_n 0, 1) := by decide +kernel
theorem dX8_put_22 : decode cX8_put 22 = .ok (.iload_n 1, 1) := by decide +kernel
theorem dX8_put_23 : decode cX8_put 23 = .ok (.iconst 2, 1) := by decide +kernel
theorem dX8_put_24 : decode cX8_put 24 = .ok (.invokevirtual 77, 3) := by decide +kernel
theorem dX8_put_27 : decode cX8_put 27 = .ok (.iload_n 2, 1) := by decide +kernel
theorem dX8_put_28 : decode cX8_put 28 = .ok (.if_icmp .eq 19, 3) := by decide +kernel
theorem dX8_put_31 : decode cX8_put 31 = .ok (.iload_n 2, 1) := by decide +kernel
theorem dX8_put_32 : decode cX8_put 32 = .ok (.ifCond .lt 17, 3) := by decide +kernel
theorem dX8_put_35 : decode cX8_put 35 = .ok (.aload_n 0, 1) := by decide +kernel
theorem dX8_put_36 : decode cX8_put 36 = .ok (.iload_n 2, 1) := by decide +kernel
theorem dX8_put_37 : decode cX8_put 37 = .ok (.invokevirtual 281, 3) := by decide +kernel
theorem dX8_put_40 : decode cX8_put 40 = .ok (.invokestatic 284, 3) := by decide +kernel
theorem dX8_put_43 : decode cX8_put 43 = .ok (.iconst 2, 1) := by decide +kernel
theorem dX8_put_44 : decode cX8_put 44 = .ok (.if_icmp .ne 5, 3) := by decide +kernel
theorem dX8_put_47 : decode cX8_put 47 = .ok (.iconst 0, 1) := by decide +kernel
theorem dX8_put_48 : decode cX8_put 48 = .ok (.ireturn, 1) := by decide +kernel
theorem dX8_put_49 : decode cX8_put 49 = .ok (.aload_n 0, 1) := by decide +kernel
theorem dX8_put_50 : decode cX8_put 50 = .ok (.invokevirtual 268, 3) := by decide +kernel
theorem dX8_put_53 : decode cX8_put 53 = .ok (.aload_n 0, 1) := by decide +kernel
theorem dX8_put_54 : decode cX8_put 54 = .ok (.iload_n 1, 1) := by decide +kernel
theorem dX8_put_55 : decode cX8_put 55 = .ok (.iload_n 2, 1) := by decide +kernel
theorem dX8_put_56 : decode cX8_put 56 = .ok (.invokevirtual 287, 3) := by decide +kernel
theorem dX8_put_59 : decode cX8_put 59 = .ok (.iconst 1, 1) := by decide +kernel
theorem dX8_put_60 : decode cX8_put 60 = .ok (.ireturn, 1) := by decide +kernel
theorem dX8_exchange_0 : decode cX8_exchange 0 = .ok (.aload_n 0, 1) := by decide +kernel
theorem dX8_exchange_1 : decode cX8_exchange 1 = .ok (.iload_n 1, 1) := by decide +kernel
theorem dX8_exchange_2 : decode cX8_exchange 2 = .ok (.iconst 2, 1) := by decide +kernel
theorem dX8_exchange_3 : decode cX8_exchange 3 = .ok (.invokevirtual 77, 3) := by decide +kernel
theorem dX8_exchange_6 : decode cX8_exchange 6 = .ok (.istore_n 3, 1) := by decide +kernel
theorem dX8_exchange_7 : decode cX8_exchange 7 = .ok (.aload_n 0, 1) := by decide +kernel
theorem dX8_exchange_8 : decode cX8_exchange 8 = .ok (.iload_n 1, 1) := by decide +kernel
theorem dX8_exchange_9 : decode cX8_exchange 9 = .ok (.aload_n 0, 1) := by decide +kernel
theorem dX8_exchange_10 : decode cX8_exchange 10 = .ok (.iload_n 2, 1) := by decide +kernel
theorem dX8_exchange_11 : decode cX8_exchange 11 = .ok (.iconst 2, 1) := by decide +kernel
theorem dX8_exchange_12 : decode cX8_exchange 12 = .ok (.invokevirtual 77, 3) := by decide +kernel
theorem dX8_exchange_15 : decode cX8_exchange 15 = .ok (.invokevirtual 287, 3) := by decide +kernel
theorem dX8_exchange_18 : decode cX8_exchange 18 = .ok (.aload_n 0, 1) := by decide +kernel
theorem dX8_exchange_19 : decode cX8_exchange 19 = .ok (.iload_n 2, 1) := by decide +kernel
theorem dX8_exchange_20 : decode cX8_exchange 20 = .ok (.iload_n 3, 1) := by decide +kernel
theorem dX8_exchange_21 : decode cX8_exchange 21 = .ok (.invokevirtual 287, 3) := by decide +kernel
theorem dX8_exchange_24 : decode cX8_exchange 24 = .ok (.return_, 1) := by decide +kernel
theorem dX8_swap_0 : decode cX8_swap 0 = .ok (.aload_n 0, 1) := by decide +kernel
theorem dX8_swap_1 : decode cX8_swap 1 = .ok (.iload_n 1, 1) := by decide +kernel
theorem dX8_swap_2 : decode cX8_swap 2 = .ok (.invokevirtual 278, 3) := by decide +kernel
theorem dX8_swap_5 : decode cX8_swap 5 = .ok (.ifCond .eq 16, 3) := by decide +kernel
theorem dX8_swap_8 : decode cX8_swap 8 = .ok (.aload_n 0, 1) := by decide +kernel
theorem dX8_swap_9 : decode cX8_swap 9 = .ok (.iload_n 2, 1) := by decide +kernel
theorem dX8_swap_10 : decode cX8_swap 10 = .ok (.invokevirtual 278, 3) := by decide +kernel
theorem dX8_swap_13 : decode cX8_swap 13 = .ok (.ifCond .eq 8, 3) := by decide +kernel
theorem dX8_swap_16 : decode cX8_swap 16 = .ok (.iload_n 1, 1) := by decide +kernel
theorem dX8_swap_17 : decode cX8_swap 17 = .ok (.iload_n 2, 1) := by decide +kernel
theorem dX8_swap_18 : decode cX8_swap 18 = .ok (.if_icmp .ne 5, 3) := by decide +kernel
theorem dX8_swap_21 : decode cX8_swap 21 = .ok (.iconst 0, 1) := by decide +kernel
theorem dX8_swap_22 : decode cX8_swap 22 = .ok (.ireturn, 1) := by decide +kernel
theorem dX8_swap_23 : decode cX8_swap 23 = .ok (.aload_n 0, 1) := by decide +kernel
theorem dX8_swap_24 : decode cX8_swap 24 = .ok (.invokevirtual 268, 3) := by decide +kernel
theorem dX8_swap_27 : decode cX8_swap 27 = .ok (.aload_n 0, 1) := by decide +kernel
theorem dX8_swap_28 : decode cX8_swap 28 = .ok (.iload_n 1, 1) := by decide +kernel
theorem dX8_swap_29 : decode cX8_swap 29 = .ok (.iload_n 2, 1) := by decide +kernel
theorem dX8_swap_30 : decode cX8_swap 30 = .ok (.invokevirtual 290, 3) := by decide +kernel
theorem dX8_swap_33 : decode cX8_swap 33 = .ok (.iconst 1, 1) := by decide +kernel
theorem dX8_swap_34 : decode cX8_swap 34 = .ok (.ireturn, 1) := by decide +kernel
theorem dX8_polish_0 : decode cX8_polish 0 = .ok (.aload_n 0, 1) := by decide +kernel
theorem dX8_polish_1 : decode cX8_polish 1 = .ok (.iload_n 1, 1) := by decide +kernel
theorem dX8_polish_2 : decode cX8_polish 2 = .ok (.invokevirtual 278, 3) := by decide +kernel
theorem dX8_polish_5 : decode cX8_polish 5 = .ok (.ifCond .ne 5, 3) := by decide +kernel
theorem dX8_polish_8 : decode cX8_polish 8 = .ok (.iconst (-1), 1) := by decide +kernel
theorem dX8_polish_9 : decode cX8_polish 9 = .ok (.ireturn, 1) := by decide +kernel
theorem dX8_polish_10 : decode cX8_polish 10 = .ok (.aload_n 0, 1) := by decide +kernel
theorem dX8_polish_11 : decode cX8_polish 11 = .ok (.invokevirtual 268, 3) := by decide +kernel
theorem dX8_polish_14 : decode cX8_polish 14 = .ok (.aload_n 0, 1) := by decide +kernel
theorem dX8_polish_15 : decode cX8_polish 15 = .ok (.iload_n 1, 1) := by decide +kernel
theorem dX8_polish_16 : decode cX8_polish 16 = .ok (.invokevirtual 257, 3) := by decide +kernel
theorem dX8_polish_19 : decode cX8_polish 19 = .ok (.istore_n 2, 1) := by decide +kernel
theorem dX8_polish_20 : decode cX8_polish 20 = .ok (.iconst 0, 1) := by decide +kernel
theorem dX8_polish_21 : decode cX8_polish 21 = .ok (.istore_n 3, 1) := by decide +kernel
theorem dX8_polish_22 : decode cX8_polish 22 = .ok (.iload_n 3, 1) := by decide +kernel
theorem dX8_polish_23 : decode cX8_polish 23 = .ok (.iconst 4, 1) := by decide +kernel
theorem dX8_polish_24 : decode cX8_polish 24 = .ok (.if_icmp .ge 18, 3) := by decide +kernel
theorem dX8_polish_27 : decode cX8_polish 27 = .ok (.aload_n 0, 1) := by decide +kernel
theorem dX8_polish_28 : decode cX8_polish 28 = .ok (.iload_n 1, 1) := by decide +kernel
theorem dX8_polish_29 : decode cX8_polish 29 = .ok (.iconst 4, 1) := by decide +kernel
theorem dX8_polish_30 : decode cX8_polish 30 = .ok (.iload_n 3, 1) := by decide +kernel
theorem dX8_polish_31 : decode cX8_polish 31 = .ok (.iadd, 1) := by decide +kernel
theorem dX8_polish_32 : decode cX8_polish 32 = .ok (.iconst (-1), 1) := by decide +kernel
theorem dX8_polish_33 : decode cX8_polish 33 = .ok (.invokevirtual 73, 3) := by decide +kernel
theorem dX8_polish_36 : decode cX8_polish 36 = .ok (.iinc 3 1, 3) := by decide +kernel
theorem dX8_polish_39 : decode cX8_polish 39 = .ok (.goto (-17), 3) := by decide +kernel
theorem dX8_polish_42 : decode cX8_polish 42 = .ok (.iload_n 2, 1) := by decide +kernel
theorem dX8_polish_43 : decode cX8_polish 43 = .ok (.ireturn, 1) := by decide +kernel
theorem dX8_isDone_0 : decode cX8_isDone 0 = .ok (.aload_n 0, 1) := by decide +kernel
theorem dX8_isDone_1 : decode cX8_isDone 1 = .ok (.getfield 19, 3) := by decide +kernel
theorem dX8_isDone_4 : decode cX8_isDone 4 = .ok (.iload_n 1, 1) := by decide +kernel
theorem dX8_isDone_5 : decode cX8_isDone 5 = .ok (.iconst 1, 1) := by decide +kernel
theorem dX8_isDone_6 : decode cX8_isDone 6 = .ok (.iadd, 1) := by decide +kernel
theorem dX8_isDone_7 : decode cX8_isDone 7 = .ok (.iaload, 1) := by decide +kernel
theorem dX8_isDone_8 : decode cX8_isDone 8 = .ok (.istore_n 2, 1) := by decide +kernel
theorem dX8_isDone_9 : decode cX8_isDone 9 = .ok (.aload_n 0, 1) := by decide +kernel
theorem dX8_isDone_10 : decode cX8_isDone 10 = .ok (.getfield 19, 3) := by decide +kernel
theorem dX8_isDone_13 : decode cX8_isDone 13 = .ok (.iload_n 1, 1) := by decide +kernel
theorem dX8_isDone_14 : decode cX8_isDone 14 = .ok (.iconst 2, 1) := by decide +kernel
theorem dX8_isDone_15 : decode cX8_isDone 15 = .ok (.iadd, 1) := by decide +kernel
theorem dX8_isDone_16 : decode cX8_isDone 16 = .ok (.iaload, 1) := by decide +kernel
theorem dX8_isDone_17 : decode cX8_isDone 17 = .ok (.istore_n 3, 1) := by decide +kernel
theorem dX8_isDone_18 : decode cX8_isDone 18 = .ok (.aload_n 0, 1) := by decide +kernel
theorem dX8_isDone_19 : decode cX8_isDone 19 = .ok (.getfield 19, 3) := by decide +kernel
theorem dX8_isDone_22 : decode cX8_isDone 22 = .ok (.iload_n 1, 1) := by decide +kernel
theorem dX8_isDone_23 : decode cX8_isDone 23 = .ok (.iaload, 1) := by decide +kernel
theorem dX8_isDone_24 : decode cX8_isDone 24 = .ok (.tableswitch 86 2 6 #[36, 51, 58, 65, 72], 36) := by decide +kernel
theorem dX8_isDone_60 : decode cX8_isDone 60 = .ok (.aload_n 0, 1) := by decide +kernel
theorem dX8_isDone_61 : decode cX8_isDone 61 = .ok (.iload_n 2, 1) := by decide +kernel
theorem dX8_isDone_62 : decode cX8_isDone 62 = .ok (.iload_n 3, 1) := by decide +kernel
theorem dX8_isDone_63 : decode cX8_isDone 63 = .ok (.invokevirtual 293, 3) := by decide +kernel
theorem dX8_isDone_66 : decode cX8_isDone 66 = .ok (.ifCond .lt 7, 3) := by decide +kernel
theorem dX8_isDone_69 : decode cX8_isDone 69 = .ok (.iconst 1, 1) := by decide +kernel
theorem dX8_isDone_70 : decode cX8_isDone 70 = .ok (.goto 4, 3) := by decide +kernel
theorem dX8_isDone_73 : decode cX8_isDone 73 = .ok (.iconst 0, 1) := by decide +kernel
theorem dX8_isDone_74 : decode cX8_isDone 74 = .ok (.ireturn, 1) := by decide +kernel
theorem dX8_isDone_75 : decode cX8_isDone 75 = .ok (.aload_n 0, 1) := by decide +kernel
theorem dX8_isDone_76 : decode cX8_isDone 76 = .ok (.iload_n 2, 1) := by decide +kernel
theorem dX8_isDone_77 : decode cX8_isDone 77 = .ok (.iload_n 3, 1) := by decide +kernel
theorem dX8_isDone_78 : decode cX8_isDone 78 = .ok (.invokevirtual 296, 3) := by decide +kernel
theorem dX8_isDone_81 : decode cX8_isDone 81 = .ok (.ireturn, 1) := by decide +kernel
theorem dX8_isDone_82 : decode cX8_isDone 82 = .ok (.aload_n 0, 1) := by decide +kernel
theorem dX8_isDone_83 : decode cX8_isDone 83 = .ok (.iload_n 2, 1) := by decide +kernel
theorem dX8_isDone_84 : decode cX8_isDone 84 = .ok (.iconst (-1), 1) := by decide +kernel
theorem dX8_isDone_85 : decode cX8_isDone 85 = .ok (.invokevirtual 296, 3) := by decide +kernel
theorem dX8_isDone_88 : decode cX8_isDone 88 = .ok (.ireturn, 1) := by decide +kernel
theorem dX8_isDone_89 : decode cX8_isDone 89 = .ok (.aload_n 0, 1) := by decide +kernel
theorem dX8_isDone_90 : decode cX8_isDone 90 = .ok (.iload_n 2, 1) := by decide +kernel
theorem dX8_isDone_91 : decode cX8_isDone 91 = .ok (.iload_n 3, 1) := by decide +kernel
theorem dX8_isDone_92 : decode cX8_isDone 92 = .ok (.invokevirtual 300, 3) := by decide +kernel
theorem dX8_isDone_95 : decode cX8_isDone 95 = .ok (.ireturn, 1) := by decide +kernel
theorem dX8_isDone_96 : decode cX8_isDone 96 = .ok (.aload_n 0, 1) := by decide +kernel
theorem dX8_isDone_97 : decode cX8_isDone 97 = .ok (.iload_n 2, 1) := by decide +kernel
theorem dX8_isDone_98 : decode cX8_isDone 98 = .ok (.invokevirtual 303, 3) := by decide +kernel
theorem dX8_isDone_101 : decode cX8_isDone 101 = .ok (.ifCond .lt 7, 3) := by decide +kernel
theorem dX8_isDone_104 : decode cX8_isDone 104 = .ok (.iconst 1, 1) := by decide +kernel
theorem dX8_isDone_105 : decode cX8_isDone 105 = .ok (.goto 4, 3) := by decide +kernel
theorem dX8_isDone_108 : decode cX8_isDone 108 = .ok (.iconst 0, 1) := by decide +kernel
theorem dX8_isDone_109 : decode cX8_isDone 109 = .ok (.ireturn, 1) := by decide +kernel
theorem dX8_isDone_110 : decode cX8_isDone 110 = .ok (.iconst 1, 1) := by decide +kernel
theorem dX8_isDone_111 : decode cX8_isDone 111 = .ok (.ireturn, 1) := by decide +kernel
theorem dX8_played_0 : decode cX8_played 0 = .ok (.aload_n 0, 1) := by decide +kernel
theorem dX8_played_1 : decode cX8_played 1 = .ok (.iload_n 1, 1) := by decide +kernel
theorem dX8_played_2 : decode cX8_played 2 = .ok (.invokevirtual 229, 3) := by decide +kernel
theorem dX8_played_5 : decode cX8_played 5 = .ok (.ifCond .ne 6, 3) := by decide +kernel
theorem dX8_played_8 : decode cX8_played 8 = .ok (.bipush (-2), 2) := by decide +kernel
theorem dX8_played_10 : decode cX8_played 10 = .ok (.ireturn, 1) := by decide +kernel
theorem dX8_played_11 : decode cX8_played 11 = .ok (.iconst 0, 1) := by decide +kernel
theorem dX8_played_12 : decode cX8_played 12 = .ok (.istore_n 2, 1) := by decide +kernel
theorem dX8_played_13 : decode cX8_played 13 = .ok (.iload_n 2, 1) := by decide +kernel
theorem dX8_played_14 : decode cX8_played 14 = .ok (.aload_n 0, 1) := by decide +kernel
theorem dX8_played_15 : decode cX8_played 15 = .ok (.getfield 19, 3) := by decide +kernel
theorem dX8_played_18 : decode cX8_played 18 = .ok (.sipush 680, 3) := by decide +kernel
theorem dX8_played_21 : decode cX8_played 21 = .ok (.iload_n 1, 1) := by decide +kernel
theorem dX8_played_22 : decode cX8_played 22 = .ok (.imul, 1) := by decide +kernel
theorem dX8_played_23 : decode cX8_played 23 = .ok (.iaload, 1) := by decide +kernel
theorem dX8_played_24 : decode cX8_played 24 = .ok (.if_icmp .ge 29, 3) := by decide +kernel
theorem dX8_played_27 : decode cX8_played 27 = .ok (.aload_n 0, 1) := by decide +kernel
theorem dX8_played_28 : decode cX8_played 28 = .ok (.sipush 680, 3) := by decide +kernel
theorem dX8_played_31 : decode cX8_played 31 = .ok (.iload_n 1, 1) := by decide +kernel
theorem dX8_played_32 : decode cX8_played 32 = .ok (.imul, 1) := by decide +kernel
theorem dX8_played_33 : decode cX8_played 33 = .ok (.iconst 1, 1) := by decide +kernel
theorem dX8_played_34 : decode cX8_played 34 = .ok (.iadd, 1) := by decide +kernel
theorem dX8_played_35 : decode cX8_played 35 = .ok (.iconst 3, 1) := by decide +kernel
theorem dX8_played_36 : decode cX8_played 36 = .ok (.iload_n 2, 1) := by decide +kernel
theorem dX8_played_37 : decode cX8_played 37 = .ok (.imul, 1) := by decide +kernel
theorem dX8_played_38 : decode cX8_played 38 = .ok (.iadd, 1) := by decide +kernel
theorem dX8_played_39 : decode cX8_played 39 = .ok (.invokevirtual 306, 3) := by decide +kernel
theorem dX8_played_42 : decode cX8_played 42 = .ok (.ifCond .ne 5, 3) := by decide +kernel
theorem dX8_played_45 : decode cX8_played 45 = .ok (.iload_n 2, 1) := by decide +kernel
theorem dX8_played_46 : decode cX8_played 46 = .ok (.ireturn, 1) := by decide +kernel
theorem dX8_played_47 : decode cX8_played 47 = .ok (.iinc 2 1, 3) := by decide +kernel
theorem dX8_played_50 : decode cX8_played 50 = .ok (.goto (-37), 3) := by decide +kernel
theorem dX8_played_53 : decode cX8_played 53 = .ok (.iconst (-1), 1) := by decide +kernel
theorem dX8_played_54 : decode cX8_played 54 = .ok (.ireturn, 1) := by decide +kernel
theorem dX8_cat_0 : decode cX8_cat 0 = .ok (.iload_n 1, 1) := by decide +kernel
theorem dX8_cat_1 : decode cX8_cat 1 = .ok (.iconst 0, 1) := by decide +kernel
theorem dX8_cat_2 : decode cX8_cat 2 = .ok (.sipush 9999, 3) := by decide +kernel
theorem dX8_cat_5 : decode cX8_cat 5 = .ok (.invokestatic 69, 3) := by decide +kernel
theorem dX8_cat_8 : decode cX8_cat 8 = .ok (.ifCond .eq 22, 3) := by decide +kernel
theorem dX8_cat_11 : decode cX8_cat 11 = .ok (.iload_n 2, 1) := by decide +kernel
theorem dX8_cat_12 : decode cX8_cat 12 = .ok (.iconst 1, 1) := by decide +kernel
theorem dX8_cat_13 : decode cX8_cat 13 = .ok (.bipush 40, 2) := by decide +kernel
theorem dX8_cat_15 : decode cX8_cat 15 = .ok (.invokestatic 69, 3) := by decide +kernel
theorem dX8_cat_18 : decode cX8_cat 18 = .ok (.ifCond .eq 12, 3) := by decide +kernel
theorem dX8_cat_21 : decode cX8_cat 21 = .ok (.aload_n 0, 1) := by decide +kernel
theorem dX8_cat_22 : decode cX8_cat 22 = .ok (.getfield 7, 3) := by decide +kernel
theorem dX8_cat_25 : decode cX8_cat 25 = .ok (.iconst 1, 1) := by decide +kernel
theorem dX8_cat_26 : decode cX8_cat 26 = .ok (.iaload, 1) := by decide +kernel
theorem dX8_cat_27 : decode cX8_cat 27 = .ok (.ifCond .ne 5, 3) := by decide +kernel
theorem dX8_cat_30 : decode cX8_cat 30 = .ok (.iconst (-1), 1) := by decide +kernel
theorem dX8_cat_31 : decode cX8_cat 31 = .ok (.ireturn, 1) := by decide +kernel
theorem dX8_cat_32 : decode cX8_cat 32 = .ok (.aload_n 0, 1) := by decide +kernel
theorem dX8_cat_33 : decode cX8_cat 33 = .ok (.invokevirtual 268, 3) := by decide +kernel
theorem dX8_cat_36 : decode cX8_cat 36 = .ok (.iload_n 1, 1) := by decide +kernel
theorem dX8_cat_37 : decode cX8_cat 37 = .ok (.bipush 6, 2) := by decide +kernel
theorem dX8_cat_39 : decode cX8_cat 39 = .ok (.imul, 1) := by decide +kernel
theorem dX8_cat_40 : decode cX8_cat 40 = .ok (.iconst 1, 1) := by decide +kernel
theorem dX8_cat_41 : decode cX8_cat 41 = .ok (.iadd, 1) := by decide +kernel
theorem dX8_cat_42 : decode cX8_cat 42 = .ok (.istore_n 3, 1) := by decide +kernel
theorem dX8_cat_43 : decode cX8_cat 43 = .ok (.iconst 0, 1) := by decide +kernel
theorem dX8_cat_44 : decode cX8_cat 44 = .ok (.istore 4, 2) := by decide +kernel
theorem dX8_cat_46 : decode cX8_cat 46 = .ok (.iconst 0, 1) := by decide +kernel
theorem dX8_cat_47 : decode cX8_cat 47 = .ok (.istore 5, 2) := by decide +kernel
theorem dX8_cat_49 : decode cX8_cat 49 = .ok (.iload 5, 2) := by decide +kernel
theorem dX8_cat_51 : decode cX8_cat 51 = .ok (.iload_n 2, 1) := by decide +kernel
theorem dX8_cat_52 : decode cX8_cat 52 = .ok (.if_icmp .ge 76, 3) := by decide +kernel
theorem dX8_cat_55 : decode cX8_cat 55 = .ok (.iload_n 3, 1) := by decide +kernel
theorem dX8_cat_56 : decode cX8_cat 56 = .ok (.aload_n 0, 1) := by decide +kernel
theorem dX8_cat_57 : decode cX8_cat 57 = .ok (.getfield 7, 3) := by decide +kernel
theorem dX8_cat_60 : decode cX8_cat 60 = .ok (.iconst 1, 1) := by decide +kernel
theorem dX8_cat_61 : decode cX8_cat 61 = .ok (.iaload, 1) := by decide +kernel
theorem dX8_cat_62 : decode cX8_cat 62 = .ok (.irem, 1) := by decide +kernel
theorem dX8_cat_63 : decode cX8_cat 63 = .ok (.istore 6, 2) := by decide +kernel
theorem dX8_cat_65 : decode cX8_cat 65 = .ok (.iload_n 3, 1) := by decide +kernel
theorem dX8_cat_66 : decode cX8_cat 66 = .ok (.sipush 211, 3) := by decide +kernel
theorem dX8_cat_69 : decode cX8_cat 69 = .ok (.imul, 1) := by decide +kernel
theorem dX8_cat_70 : decode cX8_cat 70 = .ok (.bipush 83, 2) := by decide +kernel
theorem dX8_cat_72 : decode cX8_cat 72 = .ok (.iadd, 1) := by decide +kernel
theorem dX8_cat_73 : decode cX8_cat 73 = .ok (.sipush 30071, 3) := by decide +kernel
theorem dX8_cat_76 : decode cX8_cat 76 = .ok (.irem, 1) := by decide +kernel
theorem dX8_cat_77 : decode cX8_cat 77 = .ok (.istore_n 3, 1) := by decide +kernel
theorem dX8_cat_78 : decode cX8_cat 78 = .ok (.iload_n 3, 1) := by decide +kernel
theorem dX8_cat_79 : decode cX8_cat 79 = .ok (.aload_n 0, 1) := by decide +kernel
theorem dX8_cat_80 : decode cX8_cat 80 = .ok (.getfield 7, 3) := by decide +kernel
theorem dX8_cat_83 : decode cX8_cat 83 = .ok (.iconst 1, 1) := by decide +kernel
theorem dX8_cat_84 : decode cX8_cat 84 = .ok (.iaload, 1) := by decide +kernel
theorem dX8_cat_85 : decode cX8_cat 85 = .ok (.irem, 1) := by decide +kernel
theorem dX8_cat_86 : decode cX8_cat 86 = .ok (.istore 7, 2) := by decide +kernel
theorem dX8_cat_88 : decode cX8_cat 88 = .ok (.iload_n 3, 1) := by decide +kernel
theorem dX8_cat_89 : decode cX8_cat 89 = .ok (.sipush 211, 3) := by decide +kernel
theorem dX8_cat_92 : decode cX8_cat 92 = .ok (.imul, 1) := by decide +kernel
theorem dX8_cat_93 : decode cX8_cat 93 = .ok (.bipush 83, 2) := by decide +kernel
theorem dX8_cat_95 : decode cX8_cat 95 = .ok (.iadd, 1) := by decide +kernel
theorem dX8_cat_96 : decode cX8_cat 96 = .ok (.sipush 30071, 3) := by decide +kernel
theorem dX8_cat_99 : decode cX8_cat 99 = .ok (.irem, 1) := by decide +kernel
theorem dX8_cat_100 : decode cX8_cat 100 = .ok (.istore_n 3, 1) := by decide +kernel
theorem dX8_cat_101 : decode cX8_cat 101 = .ok (.iload 6, 2) := by decide +kernel
theorem dX8_cat_103 : decode cX8_cat 103 = .ok (.iload 7, 2) := by decide +kernel
theorem dX8_cat_105 : decode cX8_cat 105 = .ok (.if_icmp .ne 6, 3) := by decide +kernel
theorem dX8_cat_108 : decode cX8_cat 108 = .ok (.goto 14, 3) := by decide +kernel
theorem dX8_cat_111 : decode cX8_cat 111 = .ok (.aload_n 0, 1) := by decide +kernel
theorem dX8_cat_112 : decode cX8_cat 112 = .ok (.iload 6, 2) := by decide +kernel
theorem dX8_cat_114 : decode cX8_cat 114 = .ok (.iload 7, 2) := by decide +kernel
theorem dX8_cat_116 : decode cX8_cat 116 = .ok (.invokevirtual 290, 3) := by decide +kernel
theorem dX8_cat_119 : decode cX8_cat 119 = .ok (.iinc 4 1, 3) := by decide +kernel
theorem dX8_cat_122 : decode cX8_cat 122 = .ok (.iinc 5 1, 3) := by decide +kernel
theorem dX8_cat_125 : decode cX8_cat 125 = .ok (.goto (-76), 3) := by decide +kernel
theorem dX8_cat_128 : decode cX8_cat 128 = .ok (.iload 4, 2) := by decide +kernel
theorem dX8_cat_130 : decode cX8_cat 130 = .ok (.ireturn, 1) := by decide +kernel
theorem dX8_of_0 : decode cX8_of 0 = .ok (.aload_n 0, 1) := by decide +kernel
theorem dX8_of_1 : decode cX8_of 1 = .ok (.iload_n 1, 1) := by decide +kernel
theorem dX8_of_2 : decode cX8_of 2 = .ok (.invokevirtual 278, 3) := by decide +kernel
theorem dX8_of_5 : decode cX8_of 5 = .ok (.ifCond .eq 13, 3) := by decide +kernel
theorem dX8_of_8 : decode cX8_of 8 = .ok (.iload_n 2, 1) := by decide +kernel
theorem dX8_of_9 : decode cX8_of 9 = .ok (.iconst 0, 1) := by decide +kernel
theorem dX8_of_10 : decode cX8_of 10 = .ok (.bipush 8, 2) := by decide +kernel
theorem dX8_of_12 : decode cX8_of 12 = .ok (.invokestatic 69, 3) := by decide +kernel
theorem dX8_of_15 : decode cX8_of 15 = .ok (.ifCond .ne 6, 3) := by decide +kernel
theorem dX8_of_18 : decode cX8_of 18 = .ok (.bipush (-2), 2) := by decide +kernel
theorem dX8_of_20 : decode cX8_of 20 = .ok (.ireturn, 1) := by decide +kernel
theorem dX8_of_21 : decode cX8_of 21 = .ok (.iload_n 2, 1) := by decide +kernel
theorem dX8_of_22 : decode cX8_of 22 = .ok (.iconst 4, 1) := by decide +kernel
theorem dX8_of_23 : decode cX8_of 23 = .ok (.if_icmp .ge 12, 3) := by decide +kernel
theorem dX8_of_26 : decode cX8_of 26 = .ok (.aload_n 0, 1) := by decide +kernel
theorem dX8_of_27 : decode cX8_of 27 = .ok (.iload_n 1, 1) := by decide +kernel
theorem dX8_of_28 : decode cX8_of 28 = .ok (.iconst 4, 1) := by decide +kernel
theorem dX8_of_29 : decode cX8_of 29 = .ok (.iload_n 2, 1) := by decide +kernel
theorem dX8_of_30 : decode cX8_of 30 = .ok (.iadd, 1) := by decide +kernel
theorem dX8_of_31 : decode cX8_of 31 = .ok (.invokevirtual 77, 3) := by decide +kernel
theorem dX8_of_34 : decode cX8_of 34 = .ok (.ireturn, 1) := by decide +kernel
theorem dX8_of_35 : decode cX8_of 35 = .ok (.iload_n 2, 1) := by decide +kernel
theorem dX8_of_36 : decode cX8_of 36 = .ok (.bipush 8, 2) := by decide +kernel
theorem dX8_of_38 : decode cX8_of 38 = .ok (.if_icmp .ne 9, 3) := by decide +kernel
theorem dX8_of_41 : decode cX8_of 41 = .ok (.aload_n 0, 1) := by decide +kernel
theorem dX8_of_42 : decode cX8_of 42 = .ok (.iload_n 1, 1) := by decide +kernel
theorem dX8_of_43 : decode cX8_of 43 = .ok (.invokevirtual 309, 3) := by decide +kernel
theorem dX8_of_46 : decode cX8_of 46 = .ok (.ireturn, 1) := by decide +kernel
theorem dX8_of_47 : decode cX8_of 47 = .ok (.iload_n 2, 1) := by decide +kernel
theorem dX8_of_48 : decode cX8_of 48 = .ok (.iconst 4, 1) := by decide +kernel
theorem dX8_of_49 : decode cX8_of 49 = .ok (.if_icmp .ne 12, 3) := by decide +kernel
theorem dX8_of_52 : decode cX8_of 52 = .ok (.aload_n 0, 1) := by decide +kernel
theorem dX8_of_53 : decode cX8_of 53 = .ok (.iload_n 1, 1) := by decide +kernel
theorem dX8_of_54 : decode cX8_of 54 = .ok (.iconst 2, 1) := by decide +kernel
theorem dX8_of_55 : decode cX8_of 55 = .ok (.invokevirtual 77, 3) := by decide +kernel
theorem dX8_of_58 : decode cX8_of 58 = .ok (.goto 26, 3) := by decide +kernel
theorem dX8_of_61 : decode cX8_of 61 = .ok (.iload_n 2, 1) := by decide +kernel
theorem dX8_of_62 : decode cX8_of 62 = .ok (.iconst 5, 1) := by decide +kernel
theorem dX8_of_63 : decode cX8_of 63 = .ok (.if_icmp .ne 12, 3) := by decide +kernel
theorem dX8_of_66 : decode cX8_of 66 = .ok (.aload_n 0, 1) := by decide +kernel
theorem dX8_of_67 : decode cX8_of 67 = .ok (.iload_n 1, 1) := by decide +kernel
theorem dX8_of_68 : decode cX8_of 68 = .ok (.iconst 3, 1) := by decide +kernel
theorem dX8_of_69 : decode cX8_of 69 = .ok (.invokevirtual 77, 3) := by decide +kernel
theorem dX8_of_72 : decode cX8_of 72 = .ok (.goto 12, 3) := by decide +kernel
theorem dX8_of_75 : decode cX8_of 75 = .ok (.aload_n 0, 1) := by decide +kernel
theorem dX8_of_76 : decode cX8_of 76 = .ok (.iload_n 1, 1) := by decide +kernel
theorem dX8_of_77 : decode cX8_of 77 = .ok (.iload_n 2, 1) := by decide +kernel
theorem dX8_of_78 : decode cX8_of 78 = .ok (.bipush 6, 2) := by decide +kernel
theorem dX8_of_80 : decode cX8_of 80 = .ok (.isub, 1) := by decide +kernel
theorem dX8_of_81 : decode cX8_of 81 = .ok (.invokevirtual 77, 3) := by decide +kernel
theorem dX8_of_84 : decode cX8_of 84 = .ok (.ireturn, 1) := by decide +kernel
theorem dX8_tellOn_0 : decode cX8_tellOn 0 = .ok (.iconst 1, 1) := by decide +kernel
theorem dX8_tellOn_1 : decode cX8_tellOn 1 = .ok (.istore_n 2, 1) := by decide +kernel
theorem dX8_tellOn_2 : decode cX8_tellOn 2 = .ok (.iconst 0, 1) := by decide +kernel
theorem dX8_tellOn_3 : decode cX8_tellOn 3 = .ok (.istore_n 3, 1) := by decide +kernel
theorem dX8_tellOn_4 : decode cX8_tellOn 4 = .ok (.iload_n 3, 1) := by decide +kernel
theorem dX8_tellOn_5 : decode cX8_tellOn 5 = .ok (.aload_n 0, 1) := by decide +kernel
theorem dX8_tellOn_6 : decode cX8_tellOn 6 = .ok (.getfield 19, 3) := by decide +kernel
theorem dX8_tellOn_9 : decode cX8_tellOn 9 = .ok (.sipush 680, 3) := by decide +kernel
theorem dX8_tellOn_12 : decode cX8_tellOn 12 = .ok (.iload_n 1, 1) := by decide +kernel
theorem dX8_tellOn_13 : decode cX8_tellOn 13 = .ok (.imul, 1) := by decide +kernel
theorem dX8_tellOn_14 : decode cX8_tellOn 14 = .ok (.iaload, 1) := by decide +kernel
theorem dX8_tellOn_15 : decode cX8_tellOn 15 = .ok (.if_icmp .ge 25, 3) := by decide +kernel
theorem dX8_tellOn_18 : decode cX8_tellOn 18 = .ok (.aload_n 0, 1) := by decide +kernel
theorem dX8_tellOn_19 : decode cX8_tellOn 19 = .ok (.sipush 680, 3) := by decide +kernel
theorem dX8_tellOn_22 : decode cX8_tellOn 22 = .ok (.iload_n 1, 1) := by decide +kernel
theorem dX8_tellOn_23 : decode cX8_tellOn 23 = .ok (.imul, 1) := by decide +kernel
theorem dX8_tellOn_24 : decode cX8_tellOn 24 = .ok (.iconst 1, 1) := by decide +kernel
theorem dX8_tellOn_25 : decode cX8_tellOn 25 = .ok (.iadd, 1) := by decide +kernel
theorem dX8_tellOn_26 : decode cX8_tellOn 26 = .ok (.iconst 3, 1) := by decide +kernel
theorem dX8_tellOn_27 : decode cX8_tellOn 27 = .ok (.iload_n 3, 1) := by decide +kernel
theorem dX8_tellOn_28 : decode cX8_tellOn 28 = .ok (.imul, 1) := by decide +kernel
theorem dX8_tellOn_29 : decode cX8_tellOn 29 = .ok (.iadd, 1) := by decide +kernel
theorem dX8_tellOn_30 : decode cX8_tellOn 30 = .ok (.invokevirtual 306, 3) := by decide +kernel
theorem dX8_tellOn_33 : decode cX8_tellOn 33 = .ok (.istore_n 2, 1) := by decide +kernel
theorem dX8_tellOn_34 : decode cX8_tellOn 34 = .ok (.iinc 3 1, 3) := by decide +kernel
theorem dX8_tellOn_37 : decode cX8_tellOn 37 = .ok (.goto (-33), 3) := by decide +kernel
theorem dX8_tellOn_40 : decode cX8_tellOn 40 = .ok (.return_, 1) := by decide +kernel
theorem dX8_tell_0 : decode cX8_tell 0 = .ok (.aload_n 0, 1) := by decide +kernel
theorem dX8_tell_1 : decode cX8_tell 1 = .ok (.getfield 7, 3) := by decide +kernel
theorem dX8_tell_4 : decode cX8_tell 4 = .ok (.aload_n 0, 1) := by decide +kernel
theorem dX8_tell_5 : decode cX8_tell 5 = .ok (.getfield 16, 3) := by decide +kernel
theorem dX8_tell_8 : decode cX8_tell 8 = .ok (.invokestatic 65, 3) := by decide +kernel
theorem dX8_tell_11 : decode cX8_tell 11 = .ok (.aload_n 0, 1) := by decide +kernel
theorem dX8_tell_12 : decode cX8_tell 12 = .ok (.iload_n 1, 1) := by decide +kernel
theorem dX8_tell_13 : decode cX8_tell 13 = .ok (.invokevirtual 312, 3) := by decide +kernel
theorem dX8_tell_16 : decode cX8_tell 16 = .ok (.iconst 0, 1) := by decide +kernel
theorem dX8_tell_17 : decode cX8_tell 17 = .ok (.istore_n 2, 1) := by decide +kernel
theorem dX8_tell_18 : decode cX8_tell 18 = .ok (.iload_n 2, 1) := by decide +kernel
theorem dX8_tell_19 : decode cX8_tell 19 = .ok (.bipush 8, 2) := by decide +kernel
theorem dX8_tell_21 : decode cX8_tell 21 = .ok (.if_icmp .ge 45, 3) := by decide +kernel
theorem dX8_tell_24 : decode cX8_tell 24 = .ok (.iconst 0, 1) := by decide +kernel
theorem dX8_tell_25 : decode cX8_tell 25 = .ok (.istore_n 3, 1) := by decide +kernel
theorem dX8_tell_26 : decode cX8_tell 26 = .ok (.iload_n 3, 1) := by decide +kernel
theorem dX8_tell_27 : decode cX8_tell 27 = .ok (.iconst 4, 1) := by decide +kernel
theorem dX8_tell_28 : decode cX8_tell 28 = .ok (.if_icmp .ge 32, 3) := by decide +kernel
theorem dX8_tell_31 : decode cX8_tell 31 = .ok (.aload_n 0, 1) := by decide +kernel
theorem dX8_tell_32 : decode cX8_tell 32 = .ok (.getfield 46, 3) := by decide +kernel
theorem dX8_tell_35 : decode cX8_tell 35 = .ok (.bipush 32, 2) := by decide +kernel
theorem dX8_tell_37 : decode cX8_tell 37 = .ok (.iload_n 1, 1) := by decide +kernel
theorem dX8_tell_38 : decode cX8_tell 38 = .ok (.imul, 1) := by decide +kernel
theorem dX8_tell_39 : decode cX8_tell 39 = .ok (.iconst 4, 1) := by decide +kernel
theorem dX8_tell_40 : decode cX8_tell 40 = .ok (.iload_n 2, 1) := by decide +kernel
theorem dX8_tell_41 : decode cX8_tell 41 = .ok (.imul, 1) := by decide +kernel
theorem dX8_tell_42 : decode cX8_tell 42 = .ok (.iadd, 1) := by decide +kernel
theorem dX8_tell_43 : decode cX8_tell 43 = .ok (.iload_n 3, 1) := by decide +kernel
theorem dX8_tell_44 : decode cX8_tell 44 = .ok (.iadd, 1) := by decide +kernel
theorem dX8_tell_45 : decode cX8_tell 45 = .ok (.aload_n 0, 1) := by decide +kernel
theorem dX8_tell_46 : decode cX8_tell 46 = .ok (.iload_n 2, 1) := by decide +kernel
theorem dX8_tell_47 : decode cX8_tell 47 = .ok (.iconst 4, 1) := by decide +kernel
theorem dX8_tell_48 : decode cX8_tell 48 = .ok (.iload_n 3, 1) := by decide +kernel
theorem dX8_tell_49 : decode cX8_tell 49 = .ok (.iadd, 1) := by decide +kernel
theorem dX8_tell_50 : decode cX8_tell 50 = .ok (.invokevirtual 77, 3) := by decide +kernel
theorem dX8_tell_53 : decode cX8_tell 53 = .ok (.iastore, 1) := by decide +kernel
theorem dX8_tell_54 : decode cX8_tell 54 = .ok (.iinc 3 1, 3) := by decide +kernel
theorem dX8_tell_57 : decode cX8_tell 57 = .ok (.goto (-31), 3) := by decide +kernel
theorem dX8_tell_60 : decode cX8_tell 60 = .ok (.iinc 2 1, 3) := by decide +kernel
theorem dX8_tell_63 : decode cX8_tell 63 = .ok (.goto (-45), 3) := by decide +kernel
theorem dX8_tell_66 : decode cX8_tell 66 = .ok (.aload_n 0, 1) := by decide +kernel
theorem dX8_tell_67 : decode cX8_tell 67 = .ok (.getfield 16, 3) := by decide +kernel
theorem dX8_tell_70 : decode cX8_tell 70 = .ok (.aload_n 0, 1) := by decide +kernel
theorem dX8_tell_71 : decode cX8_tell 71 = .ok (.getfield 7, 3) := by decide +kernel
theorem dX8_tell_74 : decode cX8_tell 74 = .ok (.invokestatic 65, 3) := by decide +kernel
theorem dX8_tell_77 : decode cX8_tell 77 = .ok (.return_, 1) := by decide +kernel
theorem dX8_told_0 : decode cX8_told 0 = .ok (.aload_n 0, 1) := by decide +kernel
theorem dX8_told_1 : decode cX8_told 1 = .ok (.iload_n 1, 1) := by decide +kernel
theorem dX8_told_2 : decode cX8_told 2 = .ok (.invokevirtual 229, 3) := by decide +kernel
theorem dX8_told_5 : decode cX8_told 5 = .ok (.ifCond .eq 20, 3) := by decide +kernel
theorem dX8_told_8 : decode cX8_told 8 = .ok (.aload_n 0, 1) := by decide +kernel
theorem dX8_told_9 : decode cX8_told 9 = .ok (.iload_n 2, 1) := by decide +kernel
theorem dX8_told_10 : decode cX8_told 10 = .ok (.invokevirtual 278, 3) := by decide +kernel
theorem dX8_told_13 : decode cX8_told 13 = .ok (.ifCond .eq 12, 3) := by decide +kernel
theorem dX8_told_16 : decode cX8_told 16 = .ok (.iload_n 3, 1) := by decide +kernel
theorem dX8_told_17 : decode cX8_told 17 = .ok (.iconst 0, 1) := by decide +kernel
theorem dX8_told_18 : decode cX8_told 18 = .ok (.iconst 3, 1) := by decide +kernel
theorem dX8_told_19 : decode cX8_told 19 = .ok (.invokestatic 69, 3) := by decide +kernel
theorem dX8_told_22 : decode cX8_told 22 = .ok (.ifCond .ne 6, 3) := by decide +kernel
theorem dX8_told_25 : decode cX8_told 25 = .ok (.bipush (-2), 2) := by decide +kernel
theorem dX8_told_27 : decode cX8_told 27 = .ok (.ireturn, 1) := by decide +kernel
theorem dX8_told_28 : decode cX8_told 28 = .ok (.aload_n 0, 1) := by decide +kernel
theorem dX8_told_29 : decode cX8_told 29 = .ok (.iload_n 1, 1) := by decide +kernel
theorem dX8_told_30 : decode cX8_told 30 = .ok (.invokevirtual 315, 3) := by decide +kernel
theorem dX8_told_33 : decode cX8_told 33 = .ok (.aload_n 0, 1) := by decide +kernel
theorem dX8_told_34 : decode cX8_told 34 = .ok (.getfield 46, 3) := by decide +kernel
theorem dX8_told_37 : decode cX8_told 37 = .ok (.bipush 32, 2) := by decide +kernel
theorem dX8_told_39 : decode cX8_told 39 = .ok (.iload_n 1, 1) := by decide +kernel
theorem dX8_told_40 : decode cX8_told 40 = .ok (.imul, 1) := by decide +kernel
theorem dX8_told_41 : decode cX8_told 41 = .ok (.iconst 4, 1) := by decide +kernel
theorem dX8_told_42 : decode cX8_told 42 = .ok (.iload_n 2, 1) := by decide +kernel
theorem dX8_told_43 : decode cX8_told 43 = .ok (.imul, 1) := by decide +kernel
theorem dX8_told_44 : decode cX8_told 44 = .ok (.iadd, 1) := by decide +kernel
theorem dX8_told_45 : decode cX8_told 45 = .ok (.iload_n 3, 1) := by decide +kernel
theorem dX8_told_46 : decode cX8_told 46 = .ok (.iadd, 1) := by decide +kernel
theorem dX8_told_47 : decode cX8_told 47 = .ok (.iaload, 1) := by decide +kernel
theorem dX8_told_48 : decode cX8_told 48 = .ok (.ireturn, 1) := by decide +kernel
theorem dX8_isApart_0 : decode cX8_isApart 0 = .ok (.iconst 0, 1) := by decide +kernel
theorem dX8_isApart_1 : decode cX8_isApart 1 = .ok (.istore 4, 2) := by decide +kernel
theorem dX8_isApart_3 : decode cX8_isApart 3 = .ok (.iload 4, 2) := by decide +kernel
theorem dX8_isApart_5 : decode cX8_isApart 5 = .ok (.aload_n 0, 1) := by decide +kernel
theorem dX8_isApart_6 : decode cX8_isApart 6 = .ok (.getfield 7, 3) := by decide +kernel
theorem dX8_isApart_9 : decode cX8_isApart 9 = .ok (.iconst 1, 1) := by decide +kernel
theorem dX8_isApart_10 : decode cX8_isApart 10 = .ok (.iaload, 1) := by decide +kernel
theorem dX8_isApart_11 : decode cX8_isApart 11 = .ok (.if_icmp .ge 72, 3) := by decide +kernel
theorem dX8_isApart_14 : decode cX8_isApart 14 = .ok (.iconst 0, 1) := by decide +kernel
theorem dX8_isApart_15 : decode cX8_isApart 15 = .ok (.istore 5, 2) := by decide +kernel
theorem dX8_isApart_17 : decode cX8_isApart 17 = .ok (.iload 5, 2) := by decide +kernel
theorem dX8_isApart_19 : decode cX8_isApart 19 = .ok (.iconst 4, 1) := by decide +kernel
theorem dX8_isApart_20 : decode cX8_isApart 20 = .ok (.if_icmp .ge 57, 3) := by decide +kernel
theorem dX8_isApart_23 : decode cX8_isApart 23 = .ok (.iload_n 3, 1) := by decide +kernel
theorem dX8_isApart_24 : decode cX8_isApart 24 = .ok (.iload 4, 2) := by decide +kernel
theorem dX8_isApart_26 : decode cX8_isApart 26 = .ok (.invokestatic 318, 3) := by decide +kernel
theorem dX8_isApart_29 : decode cX8_isApart 29 = .ok (.ifCond .eq 42, 3) := by decide +kernel
theorem dX8_isApart_32 : decode cX8_isApart 32 = .ok (.aload_n 0, 1) := by decide +kernel
theorem dX8_isApart_33 : decode cX8_isApart 33 = .ok (.getfield 46, 3) := by decide +kernel
theorem dX8_isApart_36 : decode cX8_isApart 36 = .ok (.bipush 32, 2) := by decide +kernel
theorem dX8_isApart_38 : decode cX8_isApart 38 = .ok (.iload_n 1, 1) := by decide +kernel
theorem dX8_isApart_39 : decode cX8_isApart 39 = .ok (.imul, 1) := by decide +kernel
theorem dX8_isApart_40 : decode cX8_isApart 40 = .ok (.iconst 4, 1) := by decide +kernel
theorem dX8_isApart_41 : decode cX8_isApart 41 = .ok (.iload 4, 2) := by decide +kernel
theorem dX8_isApart_43 : decode cX8_isApart 43 = .ok (.imul, 1) := by decide +kernel
theorem dX8_isApart_44 : decode cX8_isApart 44 = .ok (.iadd, 1) := by decide +kernel
theorem dX8_isApart_45 : decode cX8_isApart 45 = .ok (.iload 5, 2) := by decide +kernel
theorem dX8_isApart_47 : decode cX8_isApart 47 = .ok (.iadd, 1) := by decide +kernel
theorem dX8_isApart_48 : decode cX8_isApart 48 = .ok (.iaload, 1) := by decide +kernel
theorem dX8_isApart_49 : decode cX8_isApart 49 = .ok (.aload_n 0, 1) := by decide +kernel
theorem dX8_isApart_50 : decode cX8_isApart 50 = .ok (.getfield 46, 3) := by decide +kernel
theorem dX8_isApart_53 : decode cX8_isApart 53 = .ok (.bipush 32, 2) := by decide +kernel
theorem dX8_isApart_55 : decode cX8_isApart 55 = .ok (.iload_n 2, 1) := by decide +kernel
theorem dX8_isApart_56 : decode cX8_isApart 56 = .ok (.imul, 1) := by decide +kernel
theorem dX8_isApart_57 : decode cX8_isApart 57 = .ok (.iconst 4, 1) := by decide +kernel
theorem dX8_isApart_58 : decode cX8_isApart 58 = .ok (.iload 4, 2) := by decide +kernel
theorem dX8_isApart_60 : decode cX8_isApart 60 = .ok (.imul, 1) := by decide +kernel
theorem dX8_isApart_61 : decode cX8_isApart 61 = .ok (.iadd, 1) := by decide +kernel
theorem dX8_isApart_62 : decode cX8_isApart 62 = .ok (.iload 5, 2) := by decide +kernel
theorem dX8_isApart_64 : decode cX8_isApart 64 = .ok (.iadd, 1) := by decide +kernel
theorem dX8_isApart_65 : decode cX8_isApart 65 = .ok (.iaload, 1) := by decide +kernel
theorem dX8_isApart_66 : decode cX8_isApart 66 = .ok (.if_icmp .eq 5, 3) := by decide +kernel
theorem dX8_isApart_69 : decode cX8_isApart 69 = .ok (.iconst 1, 1) := by decide +kernel
theorem dX8_isApart_70 : decode cX8_isApart 70 = .ok (.ireturn, 1) := by decide +kernel
theorem dX8_isApart_71 : decode cX8_isApart 71 = .ok (.iinc 5 1, 3) := by decide +kernel
theorem dX8_isApart_74 : decode cX8_isApart 74 = .ok (.goto (-57), 3) := by decide +kernel
theorem dX8_isApart_77 : decode cX8_isApart 77 = .ok (.iinc 4 1, 3) := by decide +kernel
theorem dX8_isApart_80 : decode cX8_isApart 80 = .ok (.goto (-77), 3) := by decide +kernel
theorem dX8_isApart_83 : decode cX8_isApart 83 = .ok (.iconst 0, 1) := by decide +kernel
theorem dX8_isApart_84 : decode cX8_isApart 84 = .ok (.ireturn, 1) := by decide +kernel
theorem dX8_areApart_0 : decode cX8_areApart 0 = .ok (.iconst 0, 1) := by decide +kernel
theorem dX8_areApart_1 : decode cX8_areApart 1 = .ok (.istore_n 3, 1) := by decide +kernel
theorem dX8_areApart_2 : decode cX8_areApart 2 = .ok (.iload_n 3, 1) := by decide +kernel
theorem dX8_areApart_3 : decode cX8_areApart 3 = .ok (.aload_n 0, 1) := by decide +kernel
theorem dX8_areApart_4 : decode cX8_areApart 4 = .ok (.getfield 7, 3) := by decide +kernel
theorem dX8_areApart_7 : decode cX8_areApart 7 = .ok (.iconst 3, 1) := by decide +kernel
theorem dX8_areApart_8 : decode cX8_areApart 8 = .ok (.iaload, 1) := by decide +kernel
theorem dX8_areApart_9 : decode cX8_areApart 9 = .ok (.if_icmp .ge 54, 3) := by decide +kernel
theorem dX8_areApart_12 : decode cX8_areApart 12 = .ok (.iconst 0, 1) := by decide +kernel
theorem dX8_areApart_13 : decode cX8_areApart 13 = .ok (.istore 4, 2) := by decide +kernel
theorem dX8_areApart_15 : decode cX8_areApart 15 = .ok (.iload 4, 2) := by decide +kernel
theorem dX8_areApart_17 : decode cX8_areApart 17 = .ok (.iload_n 3, 1) := by decide +kernel
theorem dX8_areApart_18 : decode cX8_areApart 18 = .ok (.if_icmp .ge 39, 3) := by decide +kernel
theorem dX8_areApart_21 : decode cX8_areApart 21 = .ok (.iload_n 1, 1) := by decide +kernel
theorem dX8_areApart_22 : decode cX8_areApart 22 = .ok (.iload_n 3, 1) := by decide +kernel
theorem dX8_areApart_23 : decode cX8_areApart 23 = .ok (.invokestatic 318, 3) := by decide +kernel
theorem dX8_areApart_26 : decode cX8_areApart 26 = .ok (.ifCond .eq 25, 3) := by decide +kernel
theorem dX8_areApart_29 : decode cX8_areApart 29 = .ok (.iload_n 1, 1) := by decide +kernel
theorem dX8_areApart_30 : decode cX8_areApart 30 = .ok (.iload 4, 2) := by decide +kernel
theorem dX8_areApart_32 : decode cX8_areApart 32 = .ok (.invokestatic 318, 3) := by decide +kernel
theorem dX8_areApart_35 : decode cX8_areApart 35 = .ok (.ifCond .eq 16, 3) := by decide +kernel
theorem dX8_areApart_38 : decode cX8_areApart 38 = .ok (.aload_n 0, 1) := by decide +kernel
theorem dX8_areApart_39 : decode cX8_areApart 39 = .ok (.iload_n 3, 1) := by decide +kernel
theorem dX8_areApart_40 : decode cX8_areApart 40 = .ok (.iload 4, 2) := by decide +kernel
theorem dX8_areApart_42 : decode cX8_areApart 42 = .ok (.iload_n 2, 1) := by decide +kernel
theorem dX8_areApart_43 : decode cX8_areApart 43 = .ok (.invokevirtual 321, 3) := by decide +kernel
theorem dX8_areApart_46 : decode cX8_areApart 46 = .ok (.ifCond .ne 5, 3) := by decide +kernel
theorem dX8_areApart_49 : decode cX8_areApart 49 = .ok (.iconst 0, 1) := by decide +kernel
theorem dX8_areApart_50 : decode cX8_areApart 50 = .ok (.ireturn, 1) := by decide +kernel
theorem dX8_areApart_51 : decode cX8_areApart 51 = .ok (.iinc 4 1, 3) := by decide +kernel
theorem dX8_areApart_54 : decode cX8_areApart 54 = .ok (.goto (-39), 3) := by decide +kernel
theorem dX8_areApart_57 : decode cX8_areApart 57 = .ok (.iinc 3 1, 3) := by decide +kernel
theorem dX8_areApart_60 : decode cX8_areApart 60 = .ok (.goto (-58), 3) := by decide +kernel
theorem dX8_areApart_63 : decode cX8_areApart 63 = .ok (.iconst 1, 1) := by decide +kernel
theorem dX8_areApart_64 : decode cX8_areApart 64 = .ok (.ireturn, 1) := by decide +kernel
theorem dX8_verdict_0 : decode cX8_verdict 0 = .ok (.iload_n 1, 1) := by decide +kernel
theorem dX8_verdict_1 : decode cX8_verdict 1 = .ok (.iconst 0, 1) := by decide +kernel
theorem dX8_verdict_2 : decode cX8_verdict 2 = .ok (.iconst 1, 1) := by decide +kernel
theorem dX8_verdict_3 : decode cX8_verdict 3 = .ok (.aload_n 0, 1) := by decide +kernel
theorem dX8_verdict_4 : decode cX8_verdict 4 = .ok (.getfield 7, 3) := by decide +kernel
theorem dX8_verdict_7 : decode cX8_verdict 7 = .ok (.iconst 3, 1) := by decide +kernel
theorem dX8_verdict_8 : decode cX8_verdict 8 = .ok (.iaload, 1) := by decide +kernel
theorem dX8_verdict_9 : decode cX8_verdict 9 = .ok (.ishl, 1) := by decide +kernel
theorem dX8_verdict_10 : decode cX8_verdict 10 = .ok (.iconst 1, 1) := by decide +kernel
theorem dX8_verdict_11 : decode cX8_verdict 11 = .ok (.isub, 1) := by decide +kernel
theorem dX8_verdict_12 : decode cX8_verdict 12 = .ok (.invokestatic 69, 3) := by decide +kernel
theorem dX8_verdict_15 : decode cX8_verdict 15 = .ok (.ifCond .ne 5, 3) := by decide +kernel
theorem dX8_verdict_18 : decode cX8_verdict 18 = .ok (.iconst (-1), 1) := by decide +kernel
theorem dX8_verdict_19 : decode cX8_verdict 19 = .ok (.ireturn, 1) := by decide +kernel
theorem dX8_verdict_20 : decode cX8_verdict 20 = .ok (.iconst 0, 1) := by decide +kernel
theorem dX8_verdict_21 : decode cX8_verdict 21 = .ok (.istore_n 2, 1) := by decide +kernel
theorem dX8_verdict_22 : decode cX8_verdict 22 = .ok (.iload_n 2, 1) := by decide +kernel
theorem dX8_verdict_23 : decode cX8_verdict 23 = .ok (.aload_n 0, 1) := by decide +kernel
theorem dX8_verdict_24 : decode cX8_verdict 24 = .ok (.getfield 7, 3) := by decide +kernel
theorem dX8_verdict_27 : decode cX8_verdict 27 = .ok (.iconst 3, 1) := by decide +kernel
theorem dX8_verdict_28 : decode cX8_verdict 28 = .ok (.iaload, 1) := by decide +kernel
theorem dX8_verdict_29 : decode cX8_verdict 29 = .ok (.if_icmp .ge 22, 3) := by decide +kernel
theorem dX8_verdict_32 : decode cX8_verdict 32 = .ok (.iload_n 1, 1) := by decide +kernel
theorem dX8_verdict_33 : decode cX8_verdict 33 = .ok (.iload_n 2, 1) := by decide +kernel
theorem dX8_verdict_34 : decode cX8_verdict 34 = .ok (.invokestatic 318, 3) := by decide +kernel
theorem dX8_verdict_37 : decode cX8_verdict 37 = .ok (.ifCond .eq 8, 3) := by decide +kernel
theorem dX8_verdict_40 : decode cX8_verdict 40 = .ok (.aload_n 0, 1) := by decide +kernel
theorem dX8_verdict_41 : decode cX8_verdict 41 = .ok (.iload_n 2, 1) := by decide +kernel
theorem dX8_verdict_42 : decode cX8_verdict 42 = .ok (.invokevirtual 315, 3) := by decide +kernel
theorem dX8_verdict_45 : decode cX8_verdict 45 = .ok (.iinc 2 1, 3) := by decide +kernel
theorem dX8_verdict_48 : decode cX8_verdict 48 = .ok (.goto (-26), 3) := by decide +kernel
theorem dX8_verdict_51 : decode cX8_verdict 51 = .ok (.iconst (-1), 1) := by decide +kernel
theorem dX8_verdict_52 : decode cX8_verdict 52 = .ok (.istore_n 2, 1) := by decide +kernel
theorem dX8_verdict_53 : decode cX8_verdict 53 = .ok (.ldc_w 324, 3) := by decide +kernel
theorem dX8_verdict_56 : decode cX8_verdict 56 = .ok (.istore_n 3, 1) := by decide +kernel
theorem dX8_verdict_57 : decode cX8_verdict 57 = .ok (.iconst 0, 1) := by decide +kernel
theorem dX8_verdict_58 : decode cX8_verdict 58 = .ok (.istore 4, 2) := by decide +kernel
theorem dX8_verdict_60 : decode cX8_verdict 60 = .ok (.iload 4, 2) := by decide +kernel
theorem dX8_verdict_62 : decode cX8_verdict 62 = .ok (.iconst 1, 1) := by decide +kernel
theorem dX8_verdict_63 : decode cX8_verdict 63 = .ok (.aload_n 0, 1) := by decide +kernel
theorem dX8_verdict_64 : decode cX8_verdict 64 = .ok (.getfield 7, 3) := by decide +kernel
theorem dX8_verdict_67 : decode cX8_verdict 67 = .ok (.iconst 1, 1) := by decide +kernel
theorem dX8_verdict_68 : decode cX8_verdict 68 = .ok (.iaload, 1) := by decide +kernel
theorem dX8_verdict_69 : decode cX8_verdict 69 = .ok (.ishl, 1) := by decide +kernel
theorem dX8_verdict_70 : decode cX8_verdict 70 = .ok (.if_icmp .ge 100, 3) := by decide +kernel
theorem dX8_verdict_73 : decode cX8_verdict 73 = .ok (.iconst 0, 1) := by decide +kernel
theorem dX8_verdict_74 : decode cX8_verdict 74 = .ok (.istore 5, 2) := by decide +kernel
theorem dX8_verdict_76 : decode cX8_verdict 76 = .ok (.iconst 0, 1) := by decide +kernel
theorem dX8_verdict_77 : decode cX8_verdict 77 = .ok (.istore 6, 2) := by decide +kernel
theorem dX8_verdict_79 : decode cX8_verdict 79 = .ok (.iload 6, 2) := by decide +kernel
theorem dX8_verdict_81 : decode cX8_verdict 81 = .ok (.aload_n 0, 1) := by decide +kernel
theorem dX8_verdict_82 : decode cX8_verdict 82 = .ok (.getfield 7, 3) := by decide +kernel
theorem dX8_verdict_85 : decode cX8_verdict 85 = .ok (.iconst 1, 1) := by decide +kernel
theorem dX8_verdict_86 : decode cX8_verdict 86 = .ok (.iaload, 1) := by decide +kernel
theorem dX8_verdict_87 : decode cX8_verdict 87 = .ok (.if_icmp .ge 34, 3) := by decide +kernel
theorem dX8_verdict_90 : decode cX8_verdict 90 = .ok (.iload 5, 2) := by decide +kernel
theorem dX8_verdict_92 : decode cX8_verdict 92 = .ok (.iload 4, 2) := by decide +kernel
theorem dX8_verdict_94 : decode cX8_verdict 94 = .ok (.iload 6, 2) := by decide +kernel
theorem dX8_verdict_96 : decode cX8_verdict 96 = .ok (.invokestatic 318, 3) := by decide +kernel
theorem dX8_verdict_99 : decode cX8_verdict 99 = .ok (.ifCond .eq 12, 3) := by decide +kernel
theorem dX8_verdict_102 : decode cX8_verdict 102 = .ok (.aload_n 0, 1) := by decide +kernel
theorem dX8_verdict_103 : decode cX8_verdict 103 = .ok (.iload 6, 2) := by decide +kernel
theorem dX8_verdict_105 : decode cX8_verdict 105 = .ok (.invokevirtual 309, 3) := by decide +kernel
theorem dX8_verdict_108 : decode cX8_verdict 108 = .ok (.goto 4, 3) := by decide +kernel
theorem dX8_verdict_111 : decode cX8_verdict 111 = .ok (.iconst 0, 1) := by decide +kernel
theorem dX8_verdict_112 : decode cX8_verdict 112 = .ok (.iadd, 1) := by decide +kernel
theorem dX8_verdict_113 : decode cX8_verdict 113 = .ok (.istore 5, 2) := by decide +kernel
theorem dX8_verdict_115 : decode cX8_verdict 115 = .ok (.iinc 6 1, 3) := by decide +kernel
theorem dX8_verdict_118 : decode cX8_verdict 118 = .ok (.goto (-39), 3) := by decide +kernel
theorem dX8_verdict_121 : decode cX8_verdict 121 = .ok (.iload 5, 2) := by decide +kernel
theorem dX8_verdict_123 : decode cX8_verdict 123 = .ok (.iload_n 3, 1) := by decide +kernel
theorem dX8_verdict_124 : decode cX8_verdict 124 = .ok (.if_icmp .gt 40, 3) := by decide +kernel
theorem dX8_verdict_127 : decode cX8_verdict 127 = .ok (.iload 5, 2) := by decide +kernel
theorem dX8_verdict_129 : decode cX8_verdict 129 = .ok (.iload_n 3, 1) := by decide +kernel
theorem dX8_verdict_130 : decode cX8_verdict 130 = .ok (.if_icmp .ne 15, 3) := by decide +kernel
theorem dX8_verdict_133 : decode cX8_verdict 133 = .ok (.iload 4, 2) := by decide +kernel
theorem dX8_verdict_135 : decode cX8_verdict 135 = .ok (.invokestatic 284, 3) := by decide +kernel
theorem dX8_verdict_138 : decode cX8_verdict 138 = .ok (.iload_n 2, 1) := by decide +kernel
theorem dX8_verdict_139 : decode cX8_verdict 139 = .ok (.invokestatic 284, 3) := by decide +kernel
theorem dX8_verdict_142 : decode cX8_verdict 142 = .ok (.if_icmp .ge 22, 3) := by decide +kernel
theorem dX8_verdict_145 : decode cX8_verdict 145 = .ok (.aload_n 0, 1) := by decide +kernel
theorem dX8_verdict_146 : decode cX8_verdict 146 = .ok (.iload_n 1, 1) := by decide +kernel
theorem dX8_verdict_147 : decode cX8_verdict 147 = .ok (.iload 4, 2) := by decide +kernel
theorem dX8_verdict_149 : decode cX8_verdict 149 = .ok (.invokevirtual 325, 3) := by decide +kernel
theorem dX8_verdict_152 : decode cX8_verdict 152 = .ok (.ifCond .ne 6, 3) := by decide +kernel
theorem dX8_verdict_155 : decode cX8_verdict 155 = .ok (.goto 9, 3) := by decide +kernel
theorem dX8_verdict_158 : decode cX8_verdict 158 = .ok (.iload 4, 2) := by decide +kernel
theorem dX8_verdict_160 : decode cX8_verdict 160 = .ok (.istore_n 2, 1) := by decide +kernel
theorem dX8_verdict_161 : decode cX8_verdict 161 = .ok (.iload 5, 2) := by decide +kernel
theorem dX8_verdict_163 : decode cX8_verdict 163 = .ok (.istore_n 3, 1) := by decide +kernel
theorem dX8_verdict_164 : decode cX8_verdict 164 = .ok (.iinc 4 1, 3) := by decide +kernel
theorem dX8_verdict_167 : decode cX8_verdict 167 = .ok (.goto (-107), 3) := by decide +kernel
theorem dX8_verdict_170 : decode cX8_verdict 170 = .ok (.iload_n 2, 1) := by decide +kernel
theorem dX8_verdict_171 : decode cX8_verdict 171 = .ok (.ireturn, 1) := by decide +kernel
theorem dX8_quarrel_0 : decode cX8_quarrel 0 = .ok (.aload_n 0, 1) := by decide +kernel
theorem dX8_quarrel_1 : decode cX8_quarrel 1 = .ok (.iload_n 1, 1) := by decide +kernel
theorem dX8_quarrel_2 : decode cX8_quarrel 2 = .ok (.invokevirtual 265, 3) := by decide +kernel
theorem dX8_quarrel_5 : decode cX8_quarrel 5 = .ok (.ifCond .ne 5, 3) := by decide +kernel
theorem dX8_quarrel_8 : decode cX8_quarrel 8 = .ok (.iconst (-1), 1) := by decide +kernel
theorem dX8_quarrel_9 : decode cX8_quarrel 9 = .ok (.ireturn, 1) := by decide +kernel
theorem dX8_quarrel_10 : decode cX8_quarrel 10 = .ok (.aload_n 0, 1) := by decide +kernel
theorem dX8_quarrel_11 : decode cX8_quarrel 11 = .ok (.iload_n 1, 1) := by decide +kernel
theorem dX8_quarrel_12 : decode cX8_quarrel 12 = .ok (.invokevirtual 281, 3) := by decide +kernel
theorem dX8_quarrel_15 : decode cX8_quarrel 15 = .ok (.istore_n 2, 1) := by decide +kernel
theorem dX8_quarrel_16 : decode cX8_quarrel 16 = .ok (.iload_n 2, 1) := by decide +kernel
theorem dX8_quarrel_17 : decode cX8_quarrel 17 = .ok (.invokestatic 284, 3) := by decide +kernel
theorem dX8_quarrel_20 : decode cX8_quarrel 20 = .ok (.iconst 2, 1) := by decide +kernel
theorem dX8_quarrel_21 : decode cX8_quarrel 21 = .ok (.if_icmp .ge 5, 3) := by decide +kernel
theorem dX8_quarrel_24 : decode cX8_quarrel 24 = .ok (.iconst 0, 1) := by decide +kernel
theorem dX8_quarrel_25 : decode cX8_quarrel 25 = .ok (.ireturn, 1) := by decide +kernel
theorem dX8_quarrel_26 : decode cX8_quarrel 26 = .ok (.iconst 0, 1) := by decide +kernel
theorem dX8_quarrel_27 : decode cX8_quarrel 27 = .ok (.istore_n 3, 1) := by decide +kernel
theorem dX8_quarrel_28 : decode cX8_quarrel 28 = .ok (.iload_n 2, 1) := by decide +kernel
theorem dX8_quarrel_29 : decode cX8_quarrel 29 = .ok (.iload_n 3, 1) := by decide +kernel
theorem dX8_quarrel_30 : decode cX8_quarrel 30 = .ok (.invokestatic 318, 3) := by decide +kernel
theorem dX8_quarrel_33 : decode cX8_quarrel 33 = .ok (.ifCond .ne 9, 3) := by decide +kernel
theorem dX8_quarrel_36 : decode cX8_quarrel 36 = .ok (.iinc 3 1, 3) := by decide +kernel
theorem dX8_quarrel_39 : decode cX8_quarrel 39 = .ok (.goto (-11), 3) := by decide +kernel
theorem dX8_quarrel_42 : decode cX8_quarrel 42 = .ok (.iload_n 3, 1) := by decide +kernel
theorem dX8_quarrel_43 : decode cX8_quarrel 43 = .ok (.iconst 1, 1) := by decide +kernel
theorem dX8_quarrel_44 : decode cX8_quarrel 44 = .ok (.iadd, 1) := by decide +kernel
theorem dX8_quarrel_45 : decode cX8_quarrel 45 = .ok (.istore 4, 2) := by decide +kernel
theorem dX8_quarrel_47 : decode cX8_quarrel 47 = .ok (.iload_n 2, 1) := by decide +kernel
theorem dX8_quarrel_48 : decode cX8_quarrel 48 = .ok (.iload 4, 2) := by decide +kernel
theorem dX8_quarrel_50 : decode cX8_quarrel 50 = .ok (.invokestatic 318, 3) := by decide +kernel
theorem dX8_quarrel_53 : decode cX8_quarrel 53 = .ok (.ifCond .ne 9, 3) := by decide +kernel
theorem dX8_quarrel_56 : decode cX8_quarrel 56 = .ok (.iinc 4 1, 3) := by decide +kernel
theorem dX8_quarrel_59 : decode cX8_quarrel 59 = .ok (.goto (-12), 3) := by decide +kernel
theorem dX8_quarrel_62 : decode cX8_quarrel 62 = .ok (.iconst 0, 1) := by decide +kernel
theorem dX8_quarrel_63 : decode cX8_quarrel 63 = .ok (.istore 5, 2) := by decide +kernel
theorem dX8_quarrel_65 : decode cX8_quarrel 65 = .ok (.iconst 0, 1) := by decide +kernel
theorem dX8_quarrel_66 : decode cX8_quarrel 66 = .ok (.istore 6, 2) := by decide +kernel
theorem dX8_quarrel_68 : decode cX8_quarrel 68 = .ok (.iload 6, 2) := by decide +kernel
theorem dX8_quarrel_70 : decode cX8_quarrel 70 = .ok (.iconst 4, 1) := by decide +kernel
theorem dX8_quarrel_71 : decode cX8_quarrel 71 = .ok (.if_icmp .ge 41, 3) := by decide +kernel
theorem dX8_quarrel_74 : decode cX8_quarrel 74 = .ok (.iload 5, 2) := by decide +kernel
theorem dX8_quarrel_76 : decode cX8_quarrel 76 = .ok (.aload_n 0, 1) := by decide +kernel
theorem dX8_quarrel_77 : decode cX8_quarrel 77 = .ok (.iload_n 3, 1) := by decide +kernel
theorem dX8_quarrel_78 : decode cX8_quarrel 78 = .ok (.iconst 4, 1) := by decide +kernel
theorem dX8_quarrel_79 : decode cX8_quarrel 79 = .ok (.iload 6, 2) := by decide +kernel
theorem dX8_quarrel_81 : decode cX8_quarrel 81 = .ok (.iadd, 1) := by decide +kernel
theorem dX8_quarrel_82 : decode cX8_quarrel 82 = .ok (.invokevirtual 77, 3) := by decide +kernel
theorem dX8_quarrel_85 : decode cX8_quarrel 85 = .ok (.aload_n 0, 1) := by decide +kernel
theorem dX8_quarrel_86 : decode cX8_quarrel 86 = .ok (.iload 4, 2) := by decide +kernel
theorem dX8_quarrel_88 : decode cX8_quarrel 88 = .ok (.iconst 4, 1) := by decide +kernel
theorem dX8_quarrel_89 : decode cX8_quarrel 89 = .ok (.iload 6, 2) := by decide +kernel
theorem dX8_quarrel_91 : decode cX8_quarrel 91 = .ok (.iadd, 1) := by decide +kernel
theorem dX8_quarrel_92 : decode cX8_quarrel 92 = .ok (.invokevirtual 77, 3) := by decide +kernel
theorem dX8_quarrel_95 : decode cX8_quarrel 95 = .ok (.if_icmp .eq 7, 3) := by decide +kernel
theorem dX8_quarrel_98 : decode cX8_quarrel 98 = .ok (.iconst 1, 1) := by decide +kernel
theorem dX8_quarrel_99 : decode cX8_quarrel 99 = .ok (.goto 4, 3) := by decide +kernel
theorem dX8_quarrel_102 : decode cX8_quarrel 102 = .ok (.iconst 0, 1) := by decide +kernel
theorem dX8_quarrel_103 : decode cX8_quarrel 103 = .ok (.iadd, 1) := by decide +kernel
theorem dX8_quarrel_104 : decode cX8_quarrel 104 = .ok (.istore 5, 2) := by decide +kernel
theorem dX8_quarrel_106 : decode cX8_quarrel 106 = .ok (.iinc 6 1, 3) := by decide +kernel
theorem dX8_quarrel_109 : decode cX8_quarrel 109 = .ok (.goto (-41), 3) := by decide +kernel
theorem dX8_quarrel_112 : decode cX8_quarrel 112 = .ok (.iload 5, 2) := by decide +kernel
theorem dX8_quarrel_114 : decode cX8_quarrel 114 = .ok (.ireturn, 1) := by decide +kernel
theorem dX8_shown_0 : decode cX8_shown 0 = .ok (.iload_n 1, 1) := by decide +kernel
theorem dX8_shown_1 : decode cX8_shown 1 = .ok (.iconst (-1), 1) := by decide +kernel
theorem dX8_shown_2 : decode cX8_shown 2 = .ok (.if_icmp .ne 13, 3) := by decide +kernel
theorem dX8_shown_5 : decode cX8_shown 5 = .ok (.aload_n 0, 1) := by decide +kernel
theorem dX8_shown_6 : decode cX8_shown 6 = .ok (.getfield 7, 3) := by decide +kernel
theorem dX8_shown_9 : decode cX8_shown 9 = .ok (.bipush 6, 2) := by decide +kernel
theorem dX8_shown_11 : decode cX8_shown 11 = .ok (.iconst 0, 1) := by decide +kernel
theorem dX8_shown_12 : decode cX8_shown 12 = .ok (.iastore, 1) := by decide +kernel
theorem dX8_shown_13 : decode cX8_shown 13 = .ok (.iconst 0, 1) := by decide +kernel
theorem dX8_shown_14 : decode cX8_shown 14 = .ok (.ireturn, 1) := by decide +kernel
theorem dX8_shown_15 : decode cX8_shown 15 = .ok (.aload_n 0, 1) := by decide +kernel
theorem dX8_shown_16 : decode cX8_shown 16 = .ok (.iload_n 1, 1) := by decide +kernel
theorem dX8_shown_17 : decode cX8_shown 17 = .ok (.invokevirtual 262, 3) := by decide +kernel
theorem dX8_shown_20 : decode cX8_shown 20 = .ok (.ifCond .eq 14, 3) := by decide +kernel
theorem dX8_shown_23 : decode cX8_shown 23 = .ok (.aload_n 0, 1) := by decide +kernel
theorem dX8_shown_24 : decode cX8_shown 24 = .ok (.getfield 7, 3) := by decide +kernel
theorem dX8_shown_27 : decode cX8_shown 27 = .ok (.bipush 6, 2) := by decide +kernel
theorem dX8_shown_29 : decode cX8_shown 29 = .ok (.iaload, 1) := by decide +kernel
theorem dX8_shown_30 : decode cX8_shown 30 = .ok (.iconst 4, 1) := by decide +kernel
theorem dX8_shown_31 : decode cX8_shown 31 = .ok (.if_icmp .ne 6, 3) := by decide +kernel
theorem dX8_shown_34 : decode cX8_shown 34 = .ok (.bipush (-2), 2) := by decide +kernel
theorem dX8_shown_36 : decode cX8_shown 36 = .ok (.ireturn, 1) := by decide +kernel
theorem dX8_shown_37 : decode cX8_shown 37 = .ok (.aload_n 0, 1) := by decide +kernel
theorem dX8_shown_38 : decode cX8_shown 38 = .ok (.getfield 7, 3) := by decide +kernel
theorem dX8_shown_41 : decode cX8_shown 41 = .ok (.bipush 16, 2) := by decide +kernel
theorem dX8_shown_43 : decode cX8_shown 43 = .ok (.aload_n 0, 1) := by decide +kernel
theorem dX8_shown_44 : decode cX8_shown 44 = .ok (.getfield 7, 3) := by decide +kernel
theorem dX8_shown_47 : decode cX8_shown 47 = .ok (.bipush 6, 2) := by decide +kernel
theorem dX8_shown_49 : decode cX8_shown 49 = .ok (.iaload, 1) := by decide +kernel
theorem dX8_shown_50 : decode cX8_shown 50 = .ok (.iadd, 1) := by decide +kernel
theorem dX8_shown_51 : decode cX8_shown 51 = .ok (.iload_n 1, 1) := by decide +kernel
theorem dX8_shown_52 : decode cX8_shown 52 = .ok (.iastore, 1) := by decide +kernel
theorem dX8_shown_53 : decode cX8_shown 53 = .ok (.aload_n 0, 1) := by decide +kernel
theorem dX8_shown_54 : decode cX8_shown 54 = .ok (.getfield 7, 3) := by decide +kernel
theorem dX8_shown_57 : decode cX8_shown 57 = .ok (.bipush 6, 2) := by decide +kernel
theorem dX8_shown_59 : decode cX8_shown 59 = .ok (.dup2, 1) := by decide +kernel
theorem dX8_shown_60 : decode cX8_shown 60 = .ok (.iaload, 1) := by decide +kernel
theorem dX8_shown_61 : decode cX8_shown 61 = .ok (.iconst 1, 1) := by decide +kernel
theorem dX8_shown_62 : decode cX8_shown 62 = .ok (.iadd, 1) := by decide +kernel
theorem dX8_shown_63 : decode cX8_shown 63 = .ok (.iastore, 1) := by decide +kernel
theorem dX8_shown_64 : decode cX8_shown 64 = .ok (.aload_n 0, 1) := by decide +kernel
theorem dX8_shown_65 : decode cX8_shown 65 = .ok (.getfield 7, 3) := by decide +kernel
theorem dX8_shown_68 : decode cX8_shown 68 = .ok (.bipush 6, 2) := by decide +kernel
theorem dX8_shown_70 : decode cX8_shown 70 = .ok (.iaload, 1) := by decide +kernel
theorem dX8_shown_71 : decode cX8_shown 71 = .ok (.ireturn, 1) := by decide +kernel
theorem dX8_shownAt_0 : decode cX8_shownAt 0 = .ok (.iload_n 1, 1) := by decide +kernel
theorem dX8_shownAt_1 : decode cX8_shownAt 1 = .ok (.aload_n 0, 1) := by decide +kernel
theorem dX8_shownAt_2 : decode cX8_shownAt 2 = .ok (.getfield 7, 3) := by decide +kernel
theorem dX8_shownAt_5 : decode cX8_shownAt 5 = .ok (.bipush 6, 2) := by decide +kernel
theorem dX8_shownAt_7 : decode cX8_shownAt 7 = .ok (.iaload, 1) := by decide +kernel
theorem dX8_shownAt_8 : decode cX8_shownAt 8 = .ok (.if_icmp .ge 15, 3) := by decide +kernel
theorem dX8_shownAt_11 : decode cX8_shownAt 11 = .ok (.aload_n 0, 1) := by decide +kernel
theorem dX8_shownAt_12 : decode cX8_shownAt 12 = .ok (.getfield 7, 3) := by decide +kernel
theorem dX8_shownAt_15 : decode cX8_shownAt 15 = .ok (.bipush 16, 2) := by decide +kernel
theorem dX8_shownAt_17 : decode cX8_shownAt 17 = .ok (.iload_n 1, 1) := by decide +kernel
theorem dX8_shownAt_18 : decode cX8_shownAt 18 = .ok (.iadd, 1) := by decide +kernel
theorem dX8_shownAt_19 : decode cX8_shownAt 19 = .ok (.iaload, 1) := by decide +kernel
theorem dX8_shownAt_20 : decode cX8_shownAt 20 = .ok (.goto 4, 3) := by decide +kernel
theorem dX8_shownAt_23 : decode cX8_shownAt 23 = .ok (.iconst (-1), 1) := by decide +kernel
theorem dX8_shownAt_24 : decode cX8_shownAt 24 = .ok (.ireturn, 1) := by decide +kernel
theorem dX8_goOn_0 : decode cX8_goOn 0 = .ok (.iconst 0, 1) := by decide +kernel
theorem dX8_goOn_1 : decode cX8_goOn 1 = .ok (.istore_n 3, 1) := by decide +kernel
theorem dX8_goOn_2 : decode cX8_goOn 2 = .ok (.iload_n 3, 1) := by decide +kernel
theorem dX8_goOn_3 : decode cX8_goOn 3 = .ok (.iconst 4, 1) := by decide +kernel
theorem dX8_goOn_4 : decode cX8_goOn 4 = .ok (.if_icmp .ge 31, 3) := by decide +kernel
theorem dX8_goOn_7 : decode cX8_goOn 7 = .ok (.aload_n 0, 1) := by decide +kernel
theorem dX8_goOn_8 : decode cX8_goOn 8 = .ok (.getfield 52, 3) := by decide +kernel
theorem dX8_goOn_11 : decode cX8_goOn 11 = .ok (.iconst 4, 1) := by decide +kernel
theorem dX8_goOn_12 : decode cX8_goOn 12 = .ok (.iload_n 2, 1) := by decide +kernel
theorem dX8_goOn_13 : decode cX8_goOn 13 = .ok (.imul, 1) := by decide +kernel
theorem dX8_goOn_14 : decode cX8_goOn 14 = .ok (.iconst 4, 1) := by decide +kernel
theorem dX8_goOn_15 : decode cX8_goOn 15 = .ok (.iadd, 1) := by decide +kernel
theorem dX8_goOn_16 : decode cX8_goOn 16 = .ok (.iload_n 3, 1) := by decide +kernel
theorem dX8_goOn_17 : decode cX8_goOn 17 = .ok (.iadd, 1) := by decide +kernel
theorem dX8_goOn_18 : decode cX8_goOn 18 = .ok (.aload_n 0, 1) := by decide +kernel
theorem dX8_goOn_19 : decode cX8_goOn 19 = .ok (.getfield 52, 3) := by decide +kernel
theorem dX8_goOn_22 : decode cX8_goOn 22 = .ok (.iconst 4, 1) := by decide +kernel
theorem dX8_goOn_23 : decode cX8_goOn 23 = .ok (.iload_n 2, 1) := by decide +kernel
theorem dX8_goOn_24 : decode cX8_goOn 24 = .ok (.imul, 1) := by decide +kernel
theorem dX8_goOn_25 : decode cX8_goOn 25 = .ok (.iload_n 3, 1) := by decide +kernel
theorem dX8_goOn_26 : decode cX8_goOn 26 = .ok (.iadd, 1) := by decide +kernel
theorem dX8_goOn_27 : decode cX8_goOn 27 = .ok (.iaload, 1) := by decide +kernel
theorem dX8_goOn_28 : decode cX8_goOn 28 = .ok (.iastore, 1) := by decide +kernel
theorem dX8_goOn_29 : decode cX8_goOn 29 = .ok (.iinc 3 1, 3) := by decide +kernel
theorem dX8_goOn_32 : decode cX8_goOn 32 = .ok (.goto (-30), 3) := by decide +kernel
theorem dX8_goOn_35 : decode cX8_goOn 35 = .ok (.aload_n 0, 1) := by decide +kernel
theorem dX8_goOn_36 : decode cX8_goOn 36 = .ok (.getfield 49, 3) := by decide +kernel
theorem dX8_goOn_39 : decode cX8_goOn 39 = .ok (.iload_n 2, 1) := by decide +kernel
theorem dX8_goOn_40 : decode cX8_goOn 40 = .ok (.iaload, 1) := by decide +kernel
theorem dX8_goOn_41 : decode cX8_goOn 41 = .ok (.bipush 8, 2) := by decide +kernel
theorem dX8_goOn_43 : decode cX8_goOn 43 = .ok (.idiv, 1) := by decide +kernel
theorem dX8_goOn_44 : decode cX8_goOn 44 = .ok (.istore_n 3, 1) := by decide +kernel
theorem dX8_goOn_45 : decode cX8_goOn 45 = .ok (.iconst 0, 1) := by decide +kernel
theorem dX8_goOn_46 : decode cX8_goOn 46 = .ok (.istore 4, 2) := by decide +kernel
theorem dX8_goOn_48 : decode cX8_goOn 48 = .ok (.iconst 0, 1) := by decide +kernel
theorem dX8_goOn_49 : decode cX8_goOn 49 = .ok (.istore 5, 2) := by decide +kernel
theorem dX8_goOn_51 : decode cX8_goOn 51 = .ok (.iload 5, 2) := by decide +kernel
theorem dX8_goOn_53 : decode cX8_goOn 53 = .ok (.iconst 4, 1) := by decide +kernel
theorem dX8_goOn_54 : decode cX8_goOn 54 = .ok (.if_icmp .ge 33, 3) := by decide +kernel
theorem dX8_goOn_57 : decode cX8_goOn 57 = .ok (.iload 4, 2) := by decide +kernel
theorem dX8_goOn_59 : decode cX8_goOn 59 = .ok (.aload_n 0, 1) := by decide +kernel
theorem dX8_goOn_60 : decode cX8_goOn 60 = .ok (.getfield 52, 3) := by decide +kernel
theorem dX8_goOn_63 : decode cX8_goOn 63 = .ok (.iconst 4, 1) := by decide +kernel
theorem dX8_goOn_64 : decode cX8_goOn 64 = .ok (.iload_n 2, 1) := by decide +kernel
theorem dX8_goOn_65 : decode cX8_goOn 65 = .ok (.imul, 1) := by decide +kernel
theorem dX8_goOn_66 : decode cX8_goOn 66 = .ok (.iload 5, 2) := by decide +kernel
theorem dX8_goOn_68 : decode cX8_goOn 68 = .ok (.iadd, 1) := by decide +kernel
theorem dX8_goOn_69 : decode cX8_goOn 69 = .ok (.iaload, 1) := by decide +kernel
theorem dX8_goOn_70 : decode cX8_goOn 70 = .ok (.ifCond .lt 7, 3) := by decide +kernel
theorem dX8_goOn_73 : decode cX8_goOn 73 = .ok (.iconst 1, 1) := by decide +kernel
theorem dX8_goOn_74 : decode cX8_goOn 74 = .ok (.goto 4, 3) := by decide +kernel
theorem dX8_goOn_77 : decode cX8_goOn 77 = .ok (.iconst 0, 1) := by decide +kernel
theorem dX8_goOn_78 : decode cX8_goOn 78 = .ok (.iadd, 1) := by decide +kernel
theorem dX8_goOn_79 : decode cX8_goOn 79 = .ok (.istore 4, 2) := by decide +kernel
theorem dX8_goOn_81 : decode cX8_goOn 81 = .ok (.iinc 5 1, 3) := by decide +kernel
theorem dX8_goOn_84 : decode cX8_goOn 84 = .ok (.goto (-33), 3) := by decide +kernel
theorem dX8_goOn_87 : decode cX8_goOn 87 = .ok (.aload_n 0, 1) := by decide +kernel
theorem dX8_goOn_88 : decode cX8_goOn 88 = .ok (.iload_n 1, 1) := by decide +kernel
theorem dX8_goOn_89 : decode cX8_goOn 89 = .ok (.iconst 2, 1) := by decide +kernel
theorem dX8_goOn_90 : decode cX8_goOn 90 = .ok (.invokevirtual 77, 3) := by decide +kernel
theorem dX8_goOn_93 : decode cX8_goOn 93 = .ok (.iload_n 3, 1) := by decide +kernel
theorem dX8_goOn_94 : decode cX8_goOn 94 = .ok (.if_icmp .ne 33, 3) := by decide +kernel
theorem dX8_goOn_97 : decode cX8_goOn 97 = .ok (.aload_n 0, 1) := by decide +kernel
theorem dX8_goOn_98 : decode cX8_goOn 98 = .ok (.iload_n 1, 1) := by decide +kernel
theorem dX8_goOn_99 : decode cX8_goOn 99 = .ok (.aload_n 0, 1) := by decide +kernel
theorem dX8_goOn_100 : decode cX8_goOn 100 = .ok (.getfield 7, 3) := by decide +kernel
theorem dX8_goOn_103 : decode cX8_goOn 103 = .ok (.iconst 2, 1) := by decide +kernel
theorem dX8_goOn_104 : decode cX8_goOn 104 = .ok (.iaload, 1) := by decide +kernel
theorem dX8_goOn_105 : decode cX8_goOn 105 = .ok (.iload_n 2, 1) := by decide +kernel
theorem dX8_goOn_106 : decode cX8_goOn 106 = .ok (.iadd, 1) := by decide +kernel
theorem dX8_goOn_107 : decode cX8_goOn 107 = .ok (.iconst 1, 1) := by decide +kernel
theorem dX8_goOn_108 : decode cX8_goOn 108 = .ok (.iadd, 1) := by decide +kernel
theorem dX8_goOn_109 : decode cX8_goOn 109 = .ok (.iload 4, 2) := by decide +kernel
theorem dX8_goOn_111 : decode cX8_goOn 111 = .ok (.aload_n 0, 1) := by decide +kernel
theorem dX8_goOn_112 : decode cX8_goOn 112 = .ok (.getfield 49, 3) := by decide +kernel
theorem dX8_goOn_115 : decode cX8_goOn 115 = .ok (.iload_n 2, 1) := by decide +kernel
theorem dX8_goOn_116 : decode cX8_goOn 116 = .ok (.iaload, 1) := by decide +kernel
theorem dX8_goOn_117 : decode cX8_goOn 117 = .ok (.bipush 8, 2) := by decide +kernel
theorem dX8_goOn_119 : decode cX8_goOn 119 = .ok (.irem, 1) := by decide +kernel
theorem dX8_goOn_120 : decode cX8_goOn 120 = .ok (.iload_n 3, 1) := by decide +kernel
theorem dX8_goOn_121 : decode cX8_goOn 121 = .ok (.invokevirtual 271, 3) := by decide +kernel
theorem dX8_goOn_124 : decode cX8_goOn 124 = .ok (.ifCond .ne 4, 3) := by decide +kernel
theorem dX8_goOn_127 : decode cX8_goOn 127 = .ok (.return_, 1) := by decide +kernel
theorem dX8_goOn_128 : decode cX8_goOn 128 = .ok (.aload_n 0, 1) := by decide +kernel
theorem dX8_goOn_129 : decode cX8_goOn 129 = .ok (.iload_n 1, 1) := by decide +kernel
theorem dX8_goOn_130 : decode cX8_goOn 130 = .ok (.iconst 1, 1) := by decide +kernel
theorem dX8_goOn_131 : decode cX8_goOn 131 = .ok (.invokevirtual 77, 3) := by decide +kernel
theorem dX8_goOn_134 : decode cX8_goOn 134 = .ok (.istore 5, 2) := by decide +kernel
theorem dX8_goOn_136 : decode cX8_goOn 136 = .ok (.iload 5, 2) := by decide +kernel
theorem dX8_goOn_138 : decode cX8_goOn 138 = .ok (.ifCond .lt 68, 3) := by decide +kernel
theorem dX8_goOn_141 : decode cX8_goOn 141 = .ok (.iconst 3, 1) := by decide +kernel
theorem dX8_goOn_142 : decode cX8_goOn 142 = .ok (.istore 6, 2) := by decide +kernel
theorem dX8_goOn_144 : decode cX8_goOn 144 = .ok (.iload 6, 2) := by decide +kernel
theorem dX8_goOn_146 : decode cX8_goOn 146 = .ok (.ifCond .le 35, 3) := by decide +kernel
theorem dX8_goOn_149 : decode cX8_goOn 149 = .ok (.aload_n 0, 1) := by decide +kernel
theorem dX8_goOn_150 : decode cX8_goOn 150 = .ok (.getfield 52, 3) := by decide +kernel
theorem dX8_goOn_153 : decode cX8_goOn 153 = .ok (.iconst 4, 1) := by decide +kernel
theorem dX8_goOn_154 : decode cX8_goOn 154 = .ok (.iload_n 2, 1) := by decide +kernel
theorem dX8_goOn_155 : decode cX8_goOn 155 = .ok (.imul, 1) := by decide +kernel
theorem dX8_goOn_156 : decode cX8_goOn 156 = .ok (.iconst 4, 1) := by decide +kernel
theorem dX8_goOn_157 : decode cX8_goOn 157 = .ok (.iadd, 1) := by decide +kernel
theorem dX8_goOn_158 : decode cX8_goOn 158 = .ok (.iload 6, 2) := by decide +kernel
theorem dX8_goOn_160 : decode cX8_goOn 160 = .ok (.iadd, 1) := by decide +kernel
theorem dX8_goOn_161 : decode cX8_goOn 161 = .ok (.aload_n 0, 1) := by decide +kernel
theorem dX8_goOn_162 : decode cX8_goOn 162 = .ok (.getfield 52, 3) := by decide +kernel
theorem dX8_goOn_165 : decode cX8_goOn 165 = .ok (.iconst 4, 1) := by decide +kernel
theorem dX8_goOn_166 : decode cX8_goOn 166 = .ok (.iload_n 2, 1) := by decide +kernel
theorem dX8_goOn_167 : decode cX8_goOn 167 = .ok (.imul, 1) := by decide +kernel
theorem dX8_goOn_168 : decode cX8_goOn 168 = .ok (.iconst 3, 1) := by decide +kernel
theorem dX8_goOn_169 : decode cX8_goOn 169 = .ok (.iadd, 1) := by decide +kernel
theorem dX8_goOn_170 : decode cX8_goOn 170 = .ok (.iload 6, 2) := by decide +kernel
theorem dX8_goOn_172 : decode cX8_goOn 172 = .ok (.iadd, 1) := by decide +kernel
theorem dX8_goOn_173 : decode cX8_goOn 173 = .ok (.iaload, 1) := by decide +kernel
theorem dX8_goOn_174 : decode cX8_goOn 174 = .ok (.iastore, 1) := by decide +kernel
theorem dX8_goOn_175 : decode cX8_goOn 175 = .ok (.iinc 6 (-1), 3) := by decide +kernel
theorem dX8_goOn_178 : decode cX8_goOn 178 = .ok (.goto (-34), 3) := by decide +kernel
theorem dX8_goOn_181 : decode cX8_goOn 181 = .ok (.aload_n 0, 1) := by decide +kernel
theorem dX8_goOn_182 : decode cX8_goOn 182 = .ok (.getfield 52, 3) := by decide +kernel
theorem dX8_goOn_185 : decode cX8_goOn 185 = .ok (.iconst 4, 1) := by decide +kernel
theorem dX8_goOn_186 : decode cX8_goOn 186 = .ok (.iload_n 2, 1) := by decide +kernel
theorem dX8_goOn_187 : decode cX8_goOn 187 = .ok (.imul, 1) := by decide +kernel
theorem dX8_goOn_188 : decode cX8_goOn 188 = .ok (.iconst 4, 1) := by decide +kernel
theorem dX8_goOn_189 : decode cX8_goOn 189 = .ok (.iadd, 1) := by decide +kernel
theorem dX8_goOn_190 : decode cX8_goOn 190 = .ok (.aload_n 0, 1) := by decide +kernel
theorem dX8_goOn_191 : decode cX8_goOn 191 = .ok (.getfield 49, 3) := by decide +kernel
theorem dX8_goOn_194 : decode cX8_goOn 194 = .ok (.iload_n 2, 1) := by decide +kernel
theorem dX8_goOn_195 : decode cX8_goOn 195 = .ok (.iaload, 1) := by decide +kernel
theorem dX8_goOn_196 : decode cX8_goOn 196 = .ok (.bipush 8, 2) := by decide +kernel
theorem dX8_goOn_198 : decode cX8_goOn 198 = .ok (.irem, 1) := by decide +kernel
theorem dX8_goOn_199 : decode cX8_goOn 199 = .ok (.iastore, 1) := by decide +kernel
theorem dX8_goOn_200 : decode cX8_goOn 200 = .ok (.iinc 5 (-1), 3) := by decide +kernel
theorem dX8_goOn_203 : decode cX8_goOn 203 = .ok (.goto (-67), 3) := by decide +kernel
theorem dX8_goOn_206 : decode cX8_goOn 206 = .ok (.return_, 1) := by decide +kernel
theorem dX8_isShown_0 : decode cX8_isShown 0 = .ok (.iconst 0, 1) := by decide +kernel
theorem dX8_isShown_1 : decode cX8_isShown 1 = .ok (.istore_n 2, 1) := by decide +kernel
theorem dX8_isShown_2 : decode cX8_isShown 2 = .ok (.iload_n 2, 1) := by decide +kernel
theorem dX8_isShown_3 : decode cX8_isShown 3 = .ok (.iconst 4, 1) := by decide +kernel
theorem dX8_isShown_4 : decode cX8_isShown 4 = .ok (.if_icmp .ge 29, 3) := by decide +kernel
theorem dX8_isShown_7 : decode cX8_isShown 7 = .ok (.aload_n 0, 1) := by decide +kernel
theorem dX8_isShown_8 : decode cX8_isShown 8 = .ok (.getfield 52, 3) := by decide +kernel
theorem dX8_isShown_11 : decode cX8_isShown 11 = .ok (.iconst 4, 1) := by decide +kernel
theorem dX8_isShown_12 : decode cX8_isShown 12 = .ok (.iload_n 1, 1) := by decide +kernel
theorem dX8_isShown_13 : decode cX8_isShown 13 = .ok (.imul, 1) := by decide +kernel
theorem dX8_isShown_14 : decode cX8_isShown 14 = .ok (.iload_n 2, 1) := by decide +kernel
theorem dX8_isShown_15 : decode cX8_isShown 15 = .ok (.iadd, 1) := by decide +kernel
theorem dX8_isShown_16 : decode cX8_isShown 16 = .ok (.iaload, 1) := by decide +kernel
theorem dX8_isShown_17 : decode cX8_isShown 17 = .ok (.aload_n 0, 1) := by decide +kernel
theorem dX8_isShown_18 : decode cX8_isShown 18 = .ok (.iload_n 2, 1) := by decide +kernel
theorem dX8_isShown_19 : decode cX8_isShown 19 = .ok (.invokevirtual 328, 3) := by decide +kernel
theorem dX8_isShown_22 : decode cX8_isShown 22 = .ok (.if_icmp .eq 5, 3) := by decide +kernel
theorem dX8_isShown_25 : decode cX8_isShown 25 = .ok (.iconst 0, 1) := by decide +kernel
theorem dX8_isShown_26 : decode cX8_isShown 26 = .ok (.ireturn, 1) := by decide +kernel
theorem dX8_isShown_27 : decode cX8_isShown 27 = .ok (.iinc 2 1, 3) := by decide +kernel
theorem dX8_isShown_30 : decode cX8_isShown 30 = .ok (.goto (-28), 3) := by decide +kernel
theorem dX8_isShown_33 : decode cX8_isShown 33 = .ok (.iconst 1, 1) := by decide +kernel
theorem dX8_isShown_34 : decode cX8_isShown 34 = .ok (.ireturn, 1) := by decide +kernel
theorem dX8_count_0 : decode cX8_count 0 = .ok (.aload_n 0, 1) := by decide +kernel
theorem dX8_count_1 : decode cX8_count 1 = .ok (.iload_n 1, 1) := by decide +kernel
theorem dX8_count_2 : decode cX8_count 2 = .ok (.invokevirtual 331, 3) := by decide +kernel
theorem dX8_count_5 : decode cX8_count 5 = .ok (.ifCond .ne 4, 3) := by decide +kernel
theorem dX8_count_8 : decode cX8_count 8 = .ok (.return_, 1) := by decide +kernel
theorem dX8_count_9 : decode cX8_count 9 = .ok (.iconst 0, 1) := by decide +kernel
theorem dX8_count_10 : decode cX8_count 10 = .ok (.istore_n 2, 1) := by decide +kernel
theorem dX8_count_11 : decode cX8_count 11 = .ok (.iconst 0, 1) := by decide +kernel
theorem dX8_count_12 : decode cX8_count 12 = .ok (.istore_n 3, 1) := by decide +kernel
theorem dX8_count_13 : decode cX8_count 13 = .ok (.iload_n 3, 1) := by decide +kernel
theorem dX8_count_14 : decode cX8_count 14 = .ok (.iload_n 1, 1) := by decide +kernel
theorem dX8_count_15 : decode cX8_count 15 = .ok (.if_icmp .ge 42, 3) := by decide +kernel
theorem dX8_count_18 : decode cX8_count 18 = .ok (.iload_n 2, 1) := by decide +kernel
theorem dX8_count_19 : decode cX8_count 19 = .ok (.iconst 1, 1) := by decide +kernel
theorem dX8_count_20 : decode cX8_count 20 = .ok (.aload_n 0, 1) := by decide +kernel
theorem dX8_count_21 : decode cX8_count 21 = .ok (.getfield 49, 3) := by decide +kernel
theorem dX8_count_24 : decode cX8_count 24 = .ok (.iload_n 3, 1) := by decide +kernel
theorem dX8_count_25 : decode cX8_count 25 = .ok (.iaload, 1) := by decide +kernel
theorem dX8_count_26 : decode cX8_count 26 = .ok (.bipush 8, 2) := by decide +kernel
theorem dX8_count_28 : decode cX8_count 28 = .ok (.idiv, 1) := by decide +kernel
theorem dX8_count_29 : decode cX8_count 29 = .ok (.ishl, 1) := by decide +kernel
theorem dX8_count_30 : decode cX8_count 30 = .ok (.ior, 1) := by decide +kernel
theorem dX8_count_31 : decode cX8_count 31 = .ok (.istore_n 2, 1) := by decide +kernel
theorem dX8_count_32 : decode cX8_count 32 = .ok (.aload_n 0, 1) := by decide +kernel
theorem dX8_count_33 : decode cX8_count 33 = .ok (.getfield 334, 3) := by decide +kernel
theorem dX8_count_36 : decode cX8_count 36 = .ok (.ifCond .ne 15, 3) := by decide +kernel
theorem dX8_count_39 : decode cX8_count 39 = .ok (.aload_n 0, 1) := by decide +kernel
theorem dX8_count_40 : decode cX8_count 40 = .ok (.getfield 55, 3) := by decide +kernel
theorem dX8_count_43 : decode cX8_count 43 = .ok (.iload_n 3, 1) := by decide +kernel
theorem dX8_count_44 : decode cX8_count 44 = .ok (.aload_n 0, 1) := by decide +kernel
theorem dX8_count_45 : decode cX8_count 45 = .ok (.getfield 49, 3) := by decide +kernel
theorem dX8_count_48 : decode cX8_count 48 = .ok (.iload_n 3, 1) := by decide +kernel
theorem dX8_count_49 : decode cX8_count 49 = .ok (.iaload, 1) := by decide +kernel
theorem dX8_count_50 : decode cX8_count 50 = .ok (.iastore, 1) := by decide +kernel
theorem dX8_count_51 : decode cX8_count 51 = .ok (.iinc 3 1, 3) := by decide +kernel
theorem dX8_count_54 : decode cX8_count 54 = .ok (.goto (-41), 3) := by decide +kernel
theorem dX8_count_57 : decode cX8_count 57 = .ok (.aload_n 0, 1) := by decide +kernel
theorem dX8_count_58 : decode cX8_count 58 = .ok (.aload_n 0, 1) := by decide +kernel
theorem dX8_count_59 : decode cX8_count 59 = .ok (.getfield 334, 3) := by decide +kernel
theorem dX8_count_62 : decode cX8_count 62 = .ok (.ifCond .ne 7, 3) := by decide +kernel
theorem dX8_count_65 : decode cX8_count 65 = .ok (.iload_n 2, 1) := by decide +kernel
theorem dX8_count_66 : decode cX8_count 66 = .ok (.goto 9, 3) := by decide +kernel
theorem dX8_count_69 : decode cX8_count 69 = .ok (.aload_n 0, 1) := by decide +kernel
theorem dX8_count_70 : decode cX8_count 70 = .ok (.getfield 337, 3) := by decide +kernel
theorem dX8_count_73 : decode cX8_count 73 = .ok (.iload_n 2, 1) := by decide +kernel
theorem dX8_count_74 : decode cX8_count 74 = .ok (.iand, 1) := by decide +kernel
theorem dX8_count_75 : decode cX8_count 75 = .ok (.putfield 337, 3) := by decide +kernel
theorem dX8_count_78 : decode cX8_count 78 = .ok (.aload_n 0, 1) := by decide +kernel
theorem dX8_count_79 : decode cX8_count 79 = .ok (.dup, 1) := by decide +kernel
theorem dX8_count_80 : decode cX8_count 80 = .ok (.getfield 334, 3) := by decide +kernel
theorem dX8_count_83 : decode cX8_count 83 = .ok (.iconst 1, 1) := by decide +kernel
theorem dX8_count_84 : decode cX8_count 84 = .ok (.iadd, 1) := by decide +kernel
theorem dX8_count_85 : decode cX8_count 85 = .ok (.putfield 334, 3) := by decide +kernel
theorem dX8_count_88 : decode cX8_count 88 = .ok (.return_, 1) := by decide +kernel
theorem dX8_goThrough_0 : decode cX8_goThrough 0 = .ok (.iconst 0, 1) := by decide +kernel
theorem dX8_goThrough_1 : decode cX8_goThrough 1 = .ok (.istore_n 3, 1) := by decide +kernel
theorem dX8_goThrough_2 : decode cX8_goThrough 2 = .ok (.aload_n 0, 1) := by decide +kernel
theorem dX8_goThrough_3 : decode cX8_goThrough 3 = .ok (.getfield 49, 3) := by decide +kernel
theorem dX8_goThrough_6 : decode cX8_goThrough 6 = .ok (.iconst 0, 1) := by decide +kernel
theorem dX8_goThrough_7 : decode cX8_goThrough 7 = .ok (.iconst (-1), 1) := by decide +kernel
theorem dX8_goThrough_8 : decode cX8_goThrough 8 = .ok (.iastore, 1) := by decide +kernel
theorem dX8_goThrough_9 : decode cX8_goThrough 9 = .ok (.iload_n 3, 1) := by decide +kernel
theorem dX8_goThrough_10 : decode cX8_goThrough 10 = .ok (.ifCond .lt 90, 3) := by decide +kernel
theorem dX8_goThrough_13 : decode cX8_goThrough 13 = .ok (.aload_n 0, 1) := by decide +kernel
theorem dX8_goThrough_14 : decode cX8_goThrough 14 = .ok (.getfield 49, 3) := by decide +kernel
theorem dX8_goThrough_17 : decode cX8_goThrough 17 = .ok (.iload_n 3, 1) := by decide +kernel
theorem dX8_goThrough_18 : decode cX8_goThrough 18 = .ok (.dup2, 1) := by decide +kernel
theorem dX8_goThrough_19 : decode cX8_goThrough 19 = .ok (.iaload, 1) := by decide +kernel
theorem dX8_goThrough_20 : decode cX8_goThrough 20 = .ok (.iconst 1, 1) := by decide +kernel
theorem dX8_goThrough_21 : decode cX8_goThrough 21 = .ok (.iadd, 1) := by decide +kernel
theorem dX8_goThrough_22 : decode cX8_goThrough 22 = .ok (.iastore, 1) := by decide +kernel
theorem dX8_goThrough_23 : decode cX8_goThrough 23 = .ok (.aload_n 0, 1) := by decide +kernel
theorem dX8_goThrough_24 : decode cX8_goThrough 24 = .ok (.getfield 49, 3) := by decide +kernel
theorem dX8_goThrough_27 : decode cX8_goThrough 27 = .ok (.iload_n 3, 1) := by decide +kernel
theorem dX8_goThrough_28 : decode cX8_goThrough 28 = .ok (.iaload, 1) := by decide +kernel
theorem dX8_goThrough_29 : decode cX8_goThrough 29 = .ok (.bipush 8, 2) := by decide +kernel
theorem dX8_goThrough_31 : decode cX8_goThrough 31 = .ok (.aload_n 0, 1) := by decide +kernel
theorem dX8_goThrough_32 : decode cX8_goThrough 32 = .ok (.getfield 58, 3) := by decide +kernel
theorem dX8_goThrough_35 : decode cX8_goThrough 35 = .ok (.imul, 1) := by decide +kernel
theorem dX8_goThrough_36 : decode cX8_goThrough 36 = .ok (.if_icmp .lt 9, 3) := by decide +kernel
theorem dX8_goThrough_39 : decode cX8_goThrough 39 = .ok (.iinc 3 (-1), 3) := by decide +kernel
theorem dX8_goThrough_42 : decode cX8_goThrough 42 = .ok (.goto (-33), 3) := by decide +kernel
theorem dX8_goThrough_45 : decode cX8_goThrough 45 = .ok (.aload_n 0, 1) := by decide +kernel
theorem dX8_goThrough_46 : decode cX8_goThrough 46 = .ok (.getfield 49, 3) := by decide +kernel
theorem dX8_goThrough_49 : decode cX8_goThrough 49 = .ok (.iload_n 3, 1) := by decide +kernel
theorem dX8_goThrough_50 : decode cX8_goThrough 50 = .ok (.iaload, 1) := by decide +kernel
theorem dX8_goThrough_51 : decode cX8_goThrough 51 = .ok (.bipush 8, 2) := by decide +kernel
theorem dX8_goThrough_53 : decode cX8_goThrough 53 = .ok (.irem, 1) := by decide +kernel
theorem dX8_goThrough_54 : decode cX8_goThrough 54 = .ok (.aload_n 0, 1) := by decide +kernel
theorem dX8_goThrough_55 : decode cX8_goThrough 55 = .ok (.getfield 7, 3) := by decide +kernel
theorem dX8_goThrough_58 : decode cX8_goThrough 58 = .ok (.iconst 0, 1) := by decide +kernel
theorem dX8_goThrough_59 : decode cX8_goThrough 59 = .ok (.iaload, 1) := by decide +kernel
theorem dX8_goThrough_60 : decode cX8_goThrough 60 = .ok (.if_icmp .lt 6, 3) := by decide +kernel
theorem dX8_goThrough_63 : decode cX8_goThrough 63 = .ok (.goto (-54), 3) := by decide +kernel
theorem dX8_goThrough_66 : decode cX8_goThrough 66 = .ok (.aload_n 0, 1) := by decide +kernel
theorem dX8_goThrough_67 : decode cX8_goThrough 67 = .ok (.iload_n 1, 1) := by decide +kernel
theorem dX8_goThrough_68 : decode cX8_goThrough 68 = .ok (.iload_n 3, 1) := by decide +kernel
theorem dX8_goThrough_69 : decode cX8_goThrough 69 = .ok (.invokevirtual 340, 3) := by decide +kernel
theorem dX8_goThrough_72 : decode cX8_goThrough 72 = .ok (.iload_n 3, 1) := by decide +kernel
theorem dX8_goThrough_73 : decode cX8_goThrough 73 = .ok (.iconst 1, 1) := by decide +kernel
theorem dX8_goThrough_74 : decode cX8_goThrough 74 = .ok (.iadd, 1) := by decide +kernel
theorem dX8_goThrough_75 : decode cX8_goThrough 75 = .ok (.iload_n 2, 1) := by decide +kernel
theorem dX8_goThrough_76 : decode cX8_goThrough 76 = .ok (.if_icmp .ge 16, 3) := by decide +kernel
theorem dX8_goThrough_79 : decode cX8_goThrough 79 = .ok (.iinc 3 1, 3) := by decide +kernel
theorem dX8_goThrough_82 : decode cX8_goThrough 82 = .ok (.aload_n 0, 1) := by decide +kernel
theorem dX8_goThrough_83 : decode cX8_goThrough 83 = .ok (.getfield 49, 3) := by decide +kernel
theorem dX8_goThrough_86 : decode cX8_goThrough 86 = .ok (.iload_n 3, 1) := by decide +kernel
theorem dX8_goThrough_87 : decode cX8_goThrough 87 = .ok (.iconst (-1), 1) := by decide +kernel
theorem dX8_goThrough_88 : decode cX8_goThrough 88 = .ok (.iastore, 1) := by decide +kernel
theorem dX8_goThrough_89 : decode cX8_goThrough 89 = .ok (.goto (-80), 3) := by decide +kernel
theorem dX8_goThrough_92 : decode cX8_goThrough 92 = .ok (.aload_n 0, 1) := by decide +kernel
theorem dX8_goThrough_93 : decode cX8_goThrough 93 = .ok (.iload_n 2, 1) := by decide +kernel
theorem dX8_goThrough_94 : decode cX8_goThrough 94 = .ok (.invokevirtual 343, 3) := by decide +kernel
theorem dX8_goThrough_97 : decode cX8_goThrough 97 = .ok (.goto (-88), 3) := by decide +kernel
theorem dX8_goThrough_100 : decode cX8_goThrough 100 = .ok (.return_, 1) := by decide +kernel
theorem dX8_how_0 : decode cX8_how 0 = .ok (.aload_n 0, 1) := by decide +kernel
theorem dX8_how_1 : decode cX8_how 1 = .ok (.iload_n 1, 1) := by decide +kernel
theorem dX8_how_2 : decode cX8_how 2 = .ok (.invokevirtual 278, 3) := by decide +kernel
theorem dX8_how_5 : decode cX8_how 5 = .ok (.ifCond .eq 18, 3) := by decide +kernel
theorem dX8_how_8 : decode cX8_how 8 = .ok (.iload_n 2, 1) := by decide +kernel
theorem dX8_how_9 : decode cX8_how 9 = .ok (.iconst 0, 1) := by decide +kernel
theorem dX8_how_10 : decode cX8_how 10 = .ok (.iconst 3, 1) := by decide +kernel
theorem dX8_how_11 : decode cX8_how 11 = .ok (.invokestatic 69, 3) := by decide +kernel
theorem dX8_how_14 : decode cX8_how 14 = .ok (.ifCond .eq 9, 3) := by decide +kernel
theorem dX8_how_17 : decode cX8_how 17 = .ok (.iload_n 3, 1) := by decide +kernel
theorem dX8_how_18 : decode cX8_how 18 = .ok (.bipush (-2), 2) := by decide +kernel
theorem dX8_how_20 : decode cX8_how 20 = .ok (.if_icmp .ge 6, 3) := by decide +kernel
theorem dX8_how_23 : decode cX8_how 23 = .ok (.bipush (-3), 2) := by decide +kernel
theorem dX8_how_25 : decode cX8_how 25 = .ok (.ireturn, 1) := by decide +kernel
theorem dX8_how_26 : decode cX8_how 26 = .ok (.aload_n 0, 1) := by decide +kernel
theorem dX8_how_27 : decode cX8_how 27 = .ok (.iconst 0, 1) := by decide +kernel
theorem dX8_how_28 : decode cX8_how 28 = .ok (.putfield 334, 3) := by decide +kernel
theorem dX8_how_31 : decode cX8_how 31 = .ok (.aload_n 0, 1) := by decide +kernel
theorem dX8_how_32 : decode cX8_how 32 = .ok (.iconst 0, 1) := by decide +kernel
theorem dX8_how_33 : decode cX8_how 33 = .ok (.putfield 337, 3) := by decide +kernel
theorem dX8_how_36 : decode cX8_how 36 = .ok (.iconst 0, 1) := by decide +kernel
theorem dX8_how_37 : decode cX8_how 37 = .ok (.istore 4, 2) := by decide +kernel
theorem dX8_how_39 : decode cX8_how 39 = .ok (.iload 4, 2) := by decide +kernel
theorem dX8_how_41 : decode cX8_how 41 = .ok (.iconst 4, 1) := by decide +kernel
theorem dX8_how_42 : decode cX8_how 42 = .ok (.if_icmp .ge 25, 3) := by decide +kernel
theorem dX8_how_45 : decode cX8_how 45 = .ok (.aload_n 0, 1) := by decide +kernel
theorem dX8_how_46 : decode cX8_how 46 = .ok (.getfield 52, 3) := by decide +kernel
theorem dX8_how_49 : decode cX8_how 49 = .ok (.iload 4, 2) := by decide +kernel
theorem dX8_how_51 : decode cX8_how 51 = .ok (.aload_n 0, 1) := by decide +kernel
theorem dX8_how_52 : decode cX8_how 52 = .ok (.iload_n 1, 1) := by decide +kernel
theorem dX8_how_53 : decode cX8_how 53 = .ok (.iconst 4, 1) := by decide +kernel
theorem dX8_how_54 : decode cX8_how 54 = .ok (.iload 4, 2) := by decide +kernel
theorem dX8_how_56 : decode cX8_how 56 = .ok (.iadd, 1) := by decide +kernel
theorem dX8_how_57 : decode cX8_how 57 = .ok (.invokevirtual 77, 3) := by decide +kernel
theorem dX8_how_60 : decode cX8_how 60 = .ok (.iastore, 1) := by decide +kernel
theorem dX8_how_61 : decode cX8_how 61 = .ok (.iinc 4 1, 3) := by decide +kernel
theorem dX8_how_64 : decode cX8_how 64 = .ok (.goto (-25), 3) := by decide +kernel
theorem dX8_how_67 : decode cX8_how 67 = .ok (.iload_n 2, 1) := by decide +kernel
theorem dX8_how_68 : decode cX8_how 68 = .ok (.ifCond .ne 11, 3) := by decide +kernel
theorem dX8_how_71 : decode cX8_how 71 = .ok (.aload_n 0, 1) := by decide +kernel
theorem dX8_how_72 : decode cX8_how 72 = .ok (.iconst 0, 1) := by decide +kernel
theorem dX8_how_73 : decode cX8_how 73 = .ok (.invokevirtual 343, 3) := by decide +kernel
theorem dX8_how_76 : decode cX8_how 76 = .ok (.goto 23, 3) := by decide +kernel
theorem dX8_how_79 : decode cX8_how 79 = .ok (.aload_n 0, 1) := by decide +kernel
theorem dX8_how_80 : decode cX8_how 80 = .ok (.getfield 7, 3) := by decide +kernel
theorem dX8_how_83 : decode cX8_how 83 = .ok (.iconst 2, 1) := by decide +kernel
theorem dX8_how_84 : decode cX8_how 84 = .ok (.iaload, 1) := by decide +kernel
theorem dX8_how_85 : decode cX8_how 85 = .ok (.iload_n 2, 1) := by decide +kernel
theorem dX8_how_86 : decode cX8_how 86 = .ok (.iadd, 1) := by decide +kernel
theorem dX8_how_87 : decode cX8_how 87 = .ok (.sipush 999, 3) := by decide +kernel
theorem dX8_how_90 : decode cX8_how 90 = .ok (.if_icmp .gt 9, 3) := by decide +kernel
theorem dX8_how_93 : decode cX8_how 93 = .ok (.aload_n 0, 1) := by decide +kernel
theorem dX8_how_94 : decode cX8_how 94 = .ok (.iload_n 1, 1) := by decide +kernel
theorem dX8_how_95 : decode cX8_how 95 = .ok (.iload_n 2, 1) := by decide +kernel
theorem dX8_how_96 : decode cX8_how 96 = .ok (.invokevirtual 346, 3) := by decide +kernel
theorem dX8_how_99 : decode cX8_how 99 = .ok (.iload_n 3, 1) := by decide +kernel
theorem dX8_how_100 : decode cX8_how 100 = .ok (.iconst (-1), 1) := by decide +kernel
theorem dX8_how_101 : decode cX8_how 101 = .ok (.if_icmp .ne 10, 3) := by decide +kernel
theorem dX8_how_104 : decode cX8_how 104 = .ok (.aload_n 0, 1) := by decide +kernel
theorem dX8_how_105 : decode cX8_how 105 = .ok (.getfield 334, 3) := by decide +kernel
theorem dX8_how_108 : decode cX8_how 108 = .ok (.goto 39, 3) := by decide +kernel
theorem dX8_how_111 : decode cX8_how 111 = .ok (.iload_n 3, 1) := by decide +kernel
theorem dX8_how_112 : decode cX8_how 112 = .ok (.bipush (-2), 2) := by decide +kernel
theorem dX8_how_114 : decode cX8_how 114 = .ok (.if_icmp .ne 10, 3) := by decide +kernel
theorem dX8_how_117 : decode cX8_how 117 = .ok (.aload_n 0, 1) := by decide +kernel
theorem dX8_how_118 : decode cX8_how 118 = .ok (.getfield 337, 3) := by decide +kernel
theorem dX8_how_121 : decode cX8_how 121 = .ok (.goto 26, 3) := by decide +kernel
theorem dX8_how_124 : decode cX8_how 124 = .ok (.aload_n 0, 1) := by decide +kernel
theorem dX8_how_125 : decode cX8_how 125 = .ok (.getfield 334, 3) := by decide +kernel
theorem dX8_how_128 : decode cX8_how 128 = .ok (.ifCond .le 17, 3) := by decide +kernel
theorem dX8_how_131 : decode cX8_how 131 = .ok (.iload_n 3, 1) := by decide +kernel
theorem dX8_how_132 : decode cX8_how 132 = .ok (.iload_n 2, 1) := by decide +kernel
theorem dX8_how_133 : decode cX8_how 133 = .ok (.if_icmp .ge 12, 3) := by decide +kernel
theorem dX8_how_136 : decode cX8_how 136 = .ok (.aload_n 0, 1) := by decide +kernel
theorem dX8_how_137 : decode cX8_how 137 = .ok (.getfield 55, 3) := by decide +kernel
theorem dX8_how_140 : decode cX8_how 140 = .ok (.iload_n 3, 1) := by decide +kernel
theorem dX8_how_141 : decode cX8_how 141 = .ok (.iaload, 1) := by decide +kernel
theorem dX8_how_142 : decode cX8_how 142 = .ok (.goto 5, 3) := by decide +kernel
theorem dX8_how_145 : decode cX8_how 145 = .ok (.bipush (-3), 2) := by decide +kernel
theorem dX8_how_147 : decode cX8_how 147 = .ok (.ireturn, 1) := by decide +kernel
theorem dX8_isSupper_0 : decode cX8_isSupper 0 = .ok (.aload_n 0, 1) := by decide +kernel
theorem dX8_isSupper_1 : decode cX8_isSupper 1 = .ok (.getfield 7, 3) := by decide +kernel
theorem dX8_isSupper_4 : decode cX8_isSupper 4 = .ok (.aload_n 0, 1) := by decide +kernel
theorem dX8_isSupper_5 : decode cX8_isSupper 5 = .ok (.getfield 16, 3) := by decide +kernel
theorem dX8_isSupper_8 : decode cX8_isSupper 8 = .ok (.invokestatic 65, 3) := by decide +kernel
theorem dX8_isSupper_11 : decode cX8_isSupper 11 = .ok (.aload_n 0, 1) := by decide +kernel
theorem dX8_isSupper_12 : decode cX8_isSupper 12 = .ok (.iload_n 3, 1) := by decide +kernel
theorem dX8_isSupper_13 : decode cX8_isSupper 13 = .ok (.iload 4, 2) := by decide +kernel
theorem dX8_isSupper_15 : decode cX8_isSupper 15 = .ok (.invokevirtual 290, 3) := by decide +kernel
theorem dX8_isSupper_18 : decode cX8_isSupper 18 = .ok (.aload_n 0, 1) := by decide +kernel
theorem dX8_isSupper_19 : decode cX8_isSupper 19 = .ok (.iload_n 1, 1) := by decide +kernel
theorem dX8_isSupper_20 : decode cX8_isSupper 20 = .ok (.invokevirtual 312, 3) := by decide +kernel
theorem dX8_isSupper_23 : decode cX8_isSupper 23 = .ok (.iconst 1, 1) := by decide +kernel
theorem dX8_isSupper_24 : decode cX8_isSupper 24 = .ok (.istore 5, 2) := by decide +kernel
theorem dX8_isSupper_26 : decode cX8_isSupper 26 = .ok (.iconst 0, 1) := by decide +kernel
theorem dX8_isSupper_27 : decode cX8_isSupper 27 = .ok (.istore 6, 2) := by decide +kernel
theorem dX8_isSupper_29 : decode cX8_isSupper 29 = .ok (.iload 6, 2) := by decide +kernel
theorem dX8_isSupper_31 : decode cX8_isSupper 31 = .ok (.iconst 4, 1) := by decide +kernel
theorem dX8_isSupper_32 : decode cX8_isSupper 32 = .ok (.if_icmp .ge 39, 3) := by decide +kernel
theorem dX8_isSupper_35 : decode cX8_isSupper 35 = .ok (.iload 5, 2) := by decide +kernel
theorem dX8_isSupper_37 : decode cX8_isSupper 37 = .ok (.ifCond .eq 25, 3) := by decide +kernel
theorem dX8_isSupper_40 : decode cX8_isSupper 40 = .ok (.aload_n 0, 1) := by decide +kernel
theorem dX8_isSupper_41 : decode cX8_isSupper 41 = .ok (.iload_n 2, 1) := by decide +kernel
theorem dX8_isSupper_42 : decode cX8_isSupper 42 = .ok (.iconst 4, 1) := by decide +kernel
theorem dX8_isSupper_43 : decode cX8_isSupper 43 = .ok (.iload 6, 2) := by decide +kernel
theorem dX8_isSupper_45 : decode cX8_isSupper 45 = .ok (.iadd, 1) := by decide +kernel
theorem dX8_isSupper_46 : decode cX8_isSupper 46 = .ok (.invokevirtual 77, 3) := by decide +kernel
theorem dX8_isSupper_49 : decode cX8_isSupper 49 = .ok (.aload_n 0, 1) := by decide +kernel
theorem dX8_isSupper_50 : decode cX8_isSupper 50 = .ok (.iload 6, 2) := by decide +kernel
theorem dX8_isSupper_52 : decode cX8_isSupper 52 = .ok (.invokevirtual 328, 3) := by decide +kernel
theorem dX8_isSupper_55 : decode cX8_isSupper 55 = .ok (.if_icmp .ne 7, 3) := by decide +kernel
theorem dX8_isSupper_58 : decode cX8_isSupper 58 = .ok (.iconst 1, 1) := by decide +kernel
theorem dX8_isSupper_59 : decode cX8_isSupper 59 = .ok (.goto 4, 3) := by decide +kernel
theorem dX8_isSupper_62 : decode cX8_isSupper 62 = .ok (.iconst 0, 1) := by decide +kernel
theorem dX8_isSupper_63 : decode cX8_isSupper 63 = .ok (.istore 5, 2) := by decide +kernel
theorem dX8_isSupper_65 : decode cX8_isSupper 65 = .ok (.iinc 6 1, 3) := by decide +kernel
theorem dX8_isSupper_68 : decode cX8_isSupper 68 = .ok (.goto (-39), 3) := by decide +kernel
theorem dX8_isSupper_71 : decode cX8_isSupper 71 = .ok (.aload_n 0, 1) := by decide +kernel
theorem dX8_isSupper_72 : decode cX8_isSupper 72 = .ok (.getfield 16, 3) := by decide +kernel
theorem dX8_isSupper_75 : decode cX8_isSupper 75 = .ok (.aload_n 0, 1) := by decide +kernel
theorem dX8_isSupper_76 : decode cX8_isSupper 76 = .ok (.getfield 7, 3) := by decide +kernel
theorem dX8_isSupper_79 : decode cX8_isSupper 79 = .ok (.invokestatic 65, 3) := by decide +kernel
theorem dX8_isSupper_82 : decode cX8_isSupper 82 = .ok (.iload 5, 2) := by decide +kernel
theorem dX8_isSupper_84 : decode cX8_isSupper 84 = .ok (.ireturn, 1) := by decide +kernel
theorem dX8_supper_0 : decode cX8_supper 0 = .ok (.aload_n 0, 1) := by decide +kernel
theorem dX8_supper_1 : decode cX8_supper 1 = .ok (.iload_n 1, 1) := by decide +kernel
theorem dX8_supper_2 : decode cX8_supper 2 = .ok (.invokevirtual 229, 3) := by decide +kernel
theorem dX8_supper_5 : decode cX8_supper 5 = .ok (.ifCond .eq 16, 3) := by decide +kernel
theorem dX8_supper_8 : decode cX8_supper 8 = .ok (.aload_n 0, 1) := by decide +kernel
theorem dX8_supper_9 : decode cX8_supper 9 = .ok (.iload_n 2, 1) := by decide +kernel
theorem dX8_supper_10 : decode cX8_supper 10 = .ok (.invokevirtual 278, 3) := by decide +kernel
theorem dX8_supper_13 : decode cX8_supper 13 = .ok (.ifCond .eq 8, 3) := by decide +kernel
theorem dX8_supper_16 : decode cX8_supper 16 = .ok (.iload_n 3, 1) := by decide +kernel
theorem dX8_supper_17 : decode cX8_supper 17 = .ok (.iconst (-1), 1) := by decide +kernel
theorem dX8_supper_18 : decode cX8_supper 18 = .ok (.if_icmp .ge 5, 3) := by decide +kernel
theorem dX8_supper_21 : decode cX8_supper 21 = .ok (.iconst (-1), 1) := by decide +kernel
theorem dX8_supper_22 : decode cX8_supper 22 = .ok (.ireturn, 1) := by decide +kernel
theorem dX8_supper_23 : decode cX8_supper 23 = .ok (.iconst 0, 1) := by decide +kernel
theorem dX8_supper_24 : decode cX8_supper 24 = .ok (.istore 4, 2) := by decide +kernel
theorem dX8_supper_26 : decode cX8_supper 26 = .ok (.iconst 0, 1) := by decide +kernel
theorem dX8_supper_27 : decode cX8_supper 27 = .ok (.istore 5, 2) := by decide +kernel
theorem dX8_supper_29 : decode cX8_supper 29 = .ok (.iload 5, 2) := by decide +kernel
theorem dX8_supper_31 : decode cX8_supper 31 = .ok (.aload_n 0, 1) := by decide +kernel
theorem dX8_supper_32 : decode cX8_supper 32 = .ok (.getfield 7, 3) := by decide +kernel
theorem dX8_supper_35 : decode cX8_supper 35 = .ok (.iconst 1, 1) := by decide +kernel
theorem dX8_supper_36 : decode cX8_supper 36 = .ok (.iaload, 1) := by decide +kernel
theorem dX8_supper_37 : decode cX8_supper 37 = .ok (.if_icmp .ge 66, 3) := by decide +kernel
theorem dX8_supper_40 : decode cX8_supper 40 = .ok (.iload 5, 2) := by decide +kernel
theorem dX8_supper_42 : decode cX8_supper 42 = .ok (.iconst 1, 1) := by decide +kernel
theorem dX8_supper_43 : decode cX8_supper 43 = .ok (.iadd, 1) := by decide +kernel
theorem dX8_supper_44 : decode cX8_supper 44 = .ok (.istore 6, 2) := by decide +kernel
theorem dX8_supper_46 : decode cX8_supper 46 = .ok (.iload 6, 2) := by decide +kernel
theorem dX8_supper_48 : decode cX8_supper 48 = .ok (.aload_n 0, 1) := by decide +kernel
theorem dX8_supper_49 : decode cX8_supper 49 = .ok (.getfield 7, 3) := by decide +kernel
theorem dX8_supper_52 : decode cX8_supper 52 = .ok (.iconst 1, 1) := by decide +kernel
theorem dX8_supper_53 : decode cX8_supper 53 = .ok (.iaload, 1) := by decide +kernel
theorem dX8_supper_54 : decode cX8_supper 54 = .ok (.if_icmp .ge 43, 3) := by decide +kernel
theorem dX8_supper_57 : decode cX8_supper 57 = .ok (.aload_n 0, 1) := by decide +kernel
theorem dX8_supper_58 : decode cX8_supper 58 = .ok (.iload_n 1, 1) := by decide +kernel
theorem dX8_supper_59 : decode cX8_supper 59 = .ok (.iload_n 2, 1) := by decide +kernel
theorem dX8_supper_60 : decode cX8_supper 60 = .ok (.iload 5, 2) := by decide +kernel
theorem dX8_supper_62 : decode cX8_supper 62 = .ok (.iload 6, 2) := by decide +kernel
theorem dX8_supper_64 : decode cX8_supper 64 = .ok (.invokevirtual 349, 3) := by decide +kernel
theorem dX8_supper_67 : decode cX8_supper 67 = .ok (.ifCond .ne 6, 3) := by decide +kernel
theorem dX8_supper_70 : decode cX8_supper 70 = .ok (.goto 21, 3) := by decide +kernel
theorem dX8_supper_73 : decode cX8_supper 73 = .ok (.iload 4, 2) := by decide +kernel
theorem dX8_supper_75 : decode cX8_supper 75 = .ok (.iload_n 3, 1) := by decide +kernel
theorem dX8_supper_76 : decode cX8_supper 76 = .ok (.if_icmp .ne 12, 3) := by decide +kernel
theorem dX8_supper_79 : decode cX8_supper 79 = .ok (.bipush 8, 2) := by decide +kernel
theorem dX8_supper_81 : decode cX8_supper 81 = .ok (.iload 5, 2) := by decide +kernel
theorem dX8_supper_83 : decode cX8_supper 83 = .ok (.imul, 1) := by decide +kernel
theorem dX8_supper_84 : decode cX8_supper 84 = .ok (.iload 6, 2) := by decide +kernel
theorem dX8_supper_86 : decode cX8_supper 86 = .ok (.iadd, 1) := by decide +kernel
theorem dX8_supper_87 : decode cX8_supper 87 = .ok (.ireturn, 1) := by decide +kernel
theorem dX8_supper_88 : decode cX8_supper 88 = .ok (.iinc 4 1, 3) := by decide +kernel
theorem dX8_supper_91 : decode cX8_supper 91 = .ok (.iinc 6 1, 3) := by decide +kernel
theorem dX8_supper_94 : decode cX8_supper 94 = .ok (.goto (-48), 3) := by decide +kernel
theorem dX8_supper_97 : decode cX8_supper 97 = .ok (.iinc 5 1, 3) := by decide +kernel
theorem dX8_supper_100 : decode cX8_supper 100 = .ok (.goto (-71), 3) := by decide +kernel
theorem dX8_supper_103 : decode cX8_supper 103 = .ok (.iload_n 3, 1) := by decide +kernel
theorem dX8_supper_104 : decode cX8_supper 104 = .ok (.iconst (-1), 1) := by decide +kernel
theorem dX8_supper_105 : decode cX8_supper 105 = .ok (.if_icmp .ne 8, 3) := by decide +kernel
theorem dX8_supper_108 : decode cX8_supper 108 = .ok (.iload 4, 2) := by decide +kernel
theorem dX8_supper_110 : decode cX8_supper 110 = .ok (.goto 4, 3) := by decide +kernel
theorem dX8_supper_113 : decode cX8_supper 113 = .ok (.iconst (-1), 1) := by decide +kernel
theorem dX8_supper_114 : decode cX8_supper 114 = .ok (.ireturn, 1) := by decide +kernel
theorem dX8_image_0 : decode cX8_image 0 = .ok (.aload_n 0, 1) := by decide +kernel
theorem dX8_image_1 : decode cX8_image 1 = .ok (.getfield 7, 3) := by decide +kernel
theorem dX8_image_4 : decode cX8_image 4 = .ok (.aload_n 0, 1) := by decide +kernel
theorem dX8_image_5 : decode cX8_image 5 = .ok (.getfield 13, 3) := by decide +kernel
theorem dX8_image_8 : decode cX8_image 8 = .ok (.invokestatic 65, 3) := by decide +kernel
theorem dX8_image_11 : decode cX8_image 11 = .ok (.aload_n 0, 1) := by decide +kernel
theorem dX8_image_12 : decode cX8_image 12 = .ok (.getfield 7, 3) := by decide +kernel
theorem dX8_image_15 : decode cX8_image 15 = .ok (.iconst 2, 1) := by decide +kernel
theorem dX8_image_16 : decode cX8_image 16 = .ok (.iaload, 1) := by decide +kernel
theorem dX8_image_17 : decode cX8_image 17 = .ok (.ireturn, 1) := by decide +kernel
theorem dX8_back_0 : decode cX8_back 0 = .ok (.aload_n 0, 1) := by decide +kernel
theorem dX8_back_1 : decode cX8_back 1 = .ok (.getfield 13, 3) := by decide +kernel
theorem dX8_back_4 : decode cX8_back 4 = .ok (.aload_n 0, 1) := by decide +kernel
theorem dX8_back_5 : decode cX8_back 5 = .ok (.getfield 7, 3) := by decide +kernel
theorem dX8_back_8 : decode cX8_back 8 = .ok (.invokestatic 65, 3) := by decide +kernel
theorem dX8_back_11 : decode cX8_back 11 = .ok (.aload_n 0, 1) := by decide +kernel
theorem dX8_back_12 : decode cX8_back 12 = .ok (.getfield 7, 3) := by decide +kernel
theorem dX8_back_15 : decode cX8_back 15 = .ok (.iconst 2, 1) := by decide +kernel
theorem dX8_back_16 : decode cX8_back 16 = .ok (.iaload, 1) := by decide +kernel
theorem dX8_back_17 : decode cX8_back 17 = .ok (.ireturn, 1) := by decide +kernel
theorem dX8_about_0 : decode cX8_about 0 = .ok (.iload_n 1, 1) := by decide +kernel
theorem dX8_about_1 : decode cX8_about 1 = .ok (.bipush 10, 2) := by decide +kernel
theorem dX8_about_3 : decode cX8_about 3 = .ok (.bipush 9, 2) := by decide +kernel
theorem dX8_about_5 : decode cX8_about 5 = .ok (.aload_n 0, 1) := by decide +kernel
theorem dX8_about_6 : decode cX8_about 6 = .ok (.getfield 7, 3) := by decide +kernel
theorem dX8_about_9 : decode cX8_about 9 = .ok (.iconst 0, 1) := by decide +kernel
theorem dX8_about_10 : decode cX8_about 10 = .ok (.iaload, 1) := by decide +kernel
theorem dX8_about_11 : decode cX8_about 11 = .ok (.iadd, 1) := by decide +kernel
theorem dX8_about_12 : decode cX8_about 12 = .ok (.invokestatic 69, 3) := by decide +kernel
theorem dX8_about_15 : decode cX8_about 15 = .ok (.ifCond .eq 16, 3) := by decide +kernel
theorem dX8_about_18 : decode cX8_about 18 = .ok (.aload_n 0, 1) := by decide +kernel
theorem dX8_about_19 : decode cX8_about 19 = .ok (.getfield 7, 3) := by decide +kernel
theorem dX8_about_22 : decode cX8_about 22 = .ok (.bipush 8, 2) := by decide +kernel
theorem dX8_about_24 : decode cX8_about 24 = .ok (.iload_n 1, 1) := by decide +kernel
theorem dX8_about_25 : decode cX8_about 25 = .ok (.iadd, 1) := by decide +kernel
theorem dX8_about_26 : decode cX8_about 26 = .ok (.bipush 10, 2) := by decide +kernel
theorem dX8_about_28 : decode cX8_about 28 = .ok (.isub, 1) := by decide +kernel
theorem dX8_about_29 : decode cX8_about 29 = .ok (.iaload, 1) := by decide +kernel
theorem dX8_about_30 : decode cX8_about 30 = .ok (.ireturn, 1) := by decide +kernel
theorem dX8_about_31 : decode cX8_about 31 = .ok (.iload_n 1, 1) := by decide +kernel
theorem dX8_about_32 : decode cX8_about 32 = .ok (.bipush 20, 2) := by decide +kernel
theorem dX8_about_34 : decode cX8_about 34 = .ok (.bipush 19, 2) := by decide +kernel
theorem dX8_about_36 : decode cX8_about 36 = .ok (.aload_n 0, 1) := by decide +kernel
theorem dX8_about_37 : decode cX8_about 37 = .ok (.getfield 58, 3) := by decide +kernel
theorem dX8_about_40 : decode cX8_about 40 = .ok (.iadd, 1) := by decide +kernel
theorem dX8_about_41 : decode cX8_about 41 = .ok (.invokestatic 69, 3) := by decide +kernel
theorem dX8_about_44 : decode cX8_about 44 = .ok (.ifCond .eq 12, 3) := by decide +kernel
theorem dX8_about_47 : decode cX8_about 47 = .ok (.aload_n 0, 1) := by decide +kernel
theorem dX8_about_48 : decode cX8_about 48 = .ok (.iload_n 1, 1) := by decide +kernel
theorem dX8_about_49 : decode cX8_about 49 = .ok (.bipush 20, 2) := by decide +kernel
theorem dX8_about_51 : decode cX8_about 51 = .ok (.isub, 1) := by decide +kernel
theorem dX8_about_52 : decode cX8_about 52 = .ok (.invokevirtual 281, 3) := by decide +kernel
theorem dX8_about_55 : decode cX8_about 55 = .ok (.ireturn, 1) := by decide +kernel
theorem dX8_about_56 : decode cX8_about 56 = .ok (.iload_n 1, 1) := by decide +kernel
theorem dX8_about_57 : decode cX8_about 57 = .ok (.ifCond .ne 10, 3) := by decide +kernel
theorem dX8_about_60 : decode cX8_about 60 = .ok (.aload_n 0, 1) := by decide +kernel
theorem dX8_about_61 : decode cX8_about 61 = .ok (.getfield 58, 3) := by decide +kernel
theorem dX8_about_64 : decode cX8_about 64 = .ok (.goto 39, 3) := by decide +kernel
theorem dX8_about_67 : decode cX8_about 67 = .ok (.iload_n 1, 1) := by decide +kernel
theorem dX8_about_68 : decode cX8_about 68 = .ok (.iconst 1, 1) := by decide +kernel
theorem dX8_about_69 : decode cX8_about 69 = .ok (.bipush 7, 2) := by decide +kernel
theorem dX8_about_71 : decode cX8_about 71 = .ok (.invokestatic 69, 3) := by decide +kernel
theorem dX8_about_74 : decode cX8_about 74 = .ok (.ifCond .eq 14, 3) := by decide +kernel
theorem dX8_about_77 : decode cX8_about 77 = .ok (.aload_n 0, 1) := by decide +kernel
theorem dX8_about_78 : decode cX8_about 78 = .ok (.getfield 7, 3) := by decide +kernel
theorem dX8_about_81 : decode cX8_about 81 = .ok (.iload_n 1, 1) := by decide +kernel
theorem dX8_about_82 : decode cX8_about 82 = .ok (.iconst 1, 1) := by decide +kernel
theorem dX8_about_83 : decode cX8_about 83 = .ok (.isub, 1) := by decide +kernel
theorem dX8_about_84 : decode cX8_about 84 = .ok (.iaload, 1) := by decide +kernel
theorem dX8_about_85 : decode cX8_about 85 = .ok (.goto 18, 3) := by decide +kernel
theorem dX8_about_88 : decode cX8_about 88 = .ok (.iload_n 1, 1) := by decide +kernel
theorem dX8_about_89 : decode cX8_about 89 = .ok (.bipush 8, 2) := by decide +kernel
theorem dX8_about_91 : decode cX8_about 91 = .ok (.if_icmp .ne 10, 3) := by decide +kernel
theorem dX8_about_94 : decode cX8_about 94 = .ok (.aload_n 0, 1) := by decide +kernel
theorem dX8_about_95 : decode cX8_about 95 = .ok (.getfield 81, 3) := by decide +kernel
theorem dX8_about_98 : decode cX8_about 98 = .ok (.goto 5, 3) := by decide +kernel
theorem dX8_about_101 : decode cX8_about 101 = .ok (.bipush (-2), 2) := by decide +kernel
theorem dX8_about_103 : decode cX8_about 103 = .ok (.ireturn, 1) := by decide +kernel
theorem dJ6_bitCount_0f7a4_0 : decode cJ6_bitCount_0f7a4 0 = .ok (.iload_n 0, 1) := by decide +kernel
theorem dJ6_bitCount_0f7a4_1 : decode cJ6_bitCount_0f7a4 1 = .ok (.iload_n 0, 1) := by decide +kernel
theorem dJ6_bitCount_0f7a4_2 : decode cJ6_bitCount_0f7a4 2 = .ok (.iconst 1, 1) := by decide +kernel
theorem dJ6_bitCount_0f7a4_3 : decode cJ6_bitCount_0f7a4 3 = .ok (.iushr, 1) := by decide +kernel
theorem dJ6_bitCount_0f7a4_4 : decode cJ6_bitCount_0f7a4 4 = .ok (.ldc_w 265, 3) := by decide +kernel
theorem dJ6_bitCount_0f7a4_7 : decode cJ6_bitCount_0f7a4 7 = .ok (.iand, 1) := by decide +kernel
theorem dJ6_bitCount_0f7a4_8 : decode cJ6_bitCount_0f7a4 8 = .ok (.isub, 1) := by decide +kernel
theorem dJ6_bitCount_0f7a4_9 : decode cJ6_bitCount_0f7a4 9 = .ok (.istore_n 0, 1) := by decide +kernel
theorem dJ6_bitCount_0f7a4_10 : decode cJ6_bitCount_0f7a4 10 = .ok (.iload_n 0, 1) := by decide +kernel
theorem dJ6_bitCount_0f7a4_11 : decode cJ6_bitCount_0f7a4 11 = .ok (.ldc_w 266, 3) := by decide +kernel
theorem dJ6_bitCount_0f7a4_14 : decode cJ6_bitCount_0f7a4 14 = .ok (.iand, 1) := by decide +kernel
theorem dJ6_bitCount_0f7a4_15 : decode cJ6_bitCount_0f7a4 15 = .ok (.iload_n 0, 1) := by decide +kernel
theorem dJ6_bitCount_0f7a4_16 : decode cJ6_bitCount_0f7a4 16 = .ok (.iconst 2, 1) := by decide +kernel
theorem dJ6_bitCount_0f7a4_17 : decode cJ6_bitCount_0f7a4 17 = .ok (.iushr, 1) := by decide +kernel
theorem dJ6_bitCount_0f7a4_18 : decode cJ6_bitCount_0f7a4 18 = .ok (.ldc_w 266, 3) := by decide +kernel
theorem dJ6_bitCount_0f7a4_21 : decode cJ6_bitCount_0f7a4 21 = .ok (.iand, 1) := by decide +kernel
theorem dJ6_bitCount_0f7a4_22 : decode cJ6_bitCount_0f7a4 22 = .ok (.iadd, 1) := by decide +kernel
theorem dJ6_bitCount_0f7a4_23 : decode cJ6_bitCount_0f7a4 23 = .ok (.istore_n 0, 1) := by decide +kernel
theorem dJ6_bitCount_0f7a4_24 : decode cJ6_bitCount_0f7a4 24 = .ok (.iload_n 0, 1) := by decide +kernel
theorem dJ6_bitCount_0f7a4_25 : decode cJ6_bitCount_0f7a4 25 = .ok (.iload_n 0, 1) := by decide +kernel
theorem dJ6_bitCount_0f7a4_26 : decode cJ6_bitCount_0f7a4 26 = .ok (.iconst 4, 1) := by decide +kernel
theorem dJ6_bitCount_0f7a4_27 : decode cJ6_bitCount_0f7a4 27 = .ok (.iushr, 1) := by decide +kernel
theorem dJ6_bitCount_0f7a4_28 : decode cJ6_bitCount_0f7a4 28 = .ok (.iadd, 1) := by decide +kernel
theorem dJ6_bitCount_0f7a4_29 : decode cJ6_bitCount_0f7a4 29 = .ok (.ldc_w 267, 3) := by decide +kernel
theorem dJ6_bitCount_0f7a4_32 : decode cJ6_bitCount_0f7a4 32 = .ok (.iand, 1) := by decide +kernel
theorem dJ6_bitCount_0f7a4_33 : decode cJ6_bitCount_0f7a4 33 = .ok (.istore_n 0, 1) := by decide +kernel
theorem dJ6_bitCount_0f7a4_34 : decode cJ6_bitCount_0f7a4 34 = .ok (.iload_n 0, 1) := by decide +kernel
theorem dJ6_bitCount_0f7a4_35 : decode cJ6_bitCount_0f7a4 35 = .ok (.iload_n 0, 1) := by decide +kernel
theorem dJ6_bitCount_0f7a4_36 : decode cJ6_bitCount_0f7a4 36 = .ok (.bipush 8, 2) := by decide +kernel
theorem dJ6_bitCount_0f7a4_38 : decode cJ6_bitCount_0f7a4 38 = .ok (.iushr, 1) := by decide +kernel
theorem dJ6_bitCount_0f7a4_39 : decode cJ6_bitCount_0f7a4 39 = .ok (.iadd, 1) := by decide +kernel
theorem dJ6_bitCount_0f7a4_40 : decode cJ6_bitCount_0f7a4 40 = .ok (.istore_n 0, 1) := by decide +kernel
theorem dJ6_bitCount_0f7a4_41 : decode cJ6_bitCount_0f7a4 41 = .ok (.iload_n 0, 1) := by decide +kernel
theorem dJ6_bitCount_0f7a4_42 : decode cJ6_bitCount_0f7a4 42 = .ok (.iload_n 0, 1) := by decide +kernel
theorem dJ6_bitCount_0f7a4_43 : decode cJ6_bitCount_0f7a4 43 = .ok (.bipush 16, 2) := by decide +kernel
theorem dJ6_bitCount_0f7a4_45 : decode cJ6_bitCount_0f7a4 45 = .ok (.iushr, 1) := by decide +kernel
theorem dJ6_bitCount_0f7a4_46 : decode cJ6_bitCount_0f7a4 46 = .ok (.iadd, 1) := by decide +kernel
theorem dJ6_bitCount_0f7a4_47 : decode cJ6_bitCount_0f7a4 47 = .ok (.istore_n 0, 1) := by decide +kernel
theorem dJ6_bitCount_0f7a4_48 : decode cJ6_bitCount_0f7a4 48 = .ok (.iload_n 0, 1) := by decide +kernel
theorem dJ6_bitCount_0f7a4_49 : decode cJ6_bitCount_0f7a4 49 = .ok (.bipush 63, 2) := by decide +kernel
theorem dJ6_bitCount_0f7a4_51 : decode cJ6_bitCount_0f7a4 51 = .ok (.iand, 1) := by decide +kernel
theorem dJ6_bitCount_0f7a4_52 : decode cJ6_bitCount_0f7a4 52 = .ok (.ireturn, 1) := by decide +kernel
theorem dJ9_max_7cf53_0 : decode cJ9_max_7cf53 0 = .ok (.iload_n 0, 1) := by decide +kernel
theorem dJ9_max_7cf53_1 : decode cJ9_max_7cf53 1 = .ok (.iload_n 1, 1) := by decide +kernel
theorem dJ9_max_7cf53_2 : decode cJ9_max_7cf53 2 = .ok (.if_icmp .lt 7, 3) := by decide +kernel
theorem dJ9_max_7cf53_5 : decode cJ9_max_7cf53 5 = .ok (.iload_n 0, 1) := by decide +kernel
theorem dJ9_max_7cf53_6 : decode cJ9_max_7cf53 6 = .ok (.goto 4, 3) := by decide +kernel
theorem dJ9_max_7cf53_9 : decode cJ9_max_7cf53 9 = .ok (.iload_n 1, 1) := by decide +kernel
theorem dJ9_max_7cf53_10 : decode cJ9_max_7cf53 10 = .ok (.ireturn, 1) := by decide +kernel
theorem dJ9_min_7cf53_0 : decode cJ9_min_7cf53 0 = .ok (.iload_n 0, 1) := by decide +kernel
theorem dJ9_min_7cf53_1 : decode cJ9_min_7cf53 1 = .ok (.iload_n 1, 1) := by decide +kernel
theorem dJ9_min_7cf53_2 : decode cJ9_min_7cf53 2 = .ok (.if_icmp .gt 7, 3) := by decide +kernel
theorem dJ9_min_7cf53_5 : decode cJ9_min_7cf53 5 = .ok (.iload_n 0, 1) := by decide +kernel
theorem dJ9_min_7cf53_6 : decode cJ9_min_7cf53 6 = .ok (.goto 4, 3) := by decide +kernel
theorem dJ9_min_7cf53_9 : decode cJ9_min_7cf53 9 = .ok (.iload_n 1, 1) := by decide +kernel
theorem dJ9_min_7cf53_10 : decode cJ9_min_7cf53 10 = .ok (.ireturn, 1) := by decide +kernel
theorem dJ0_length_8abf5_0 : decode cJ0_length_8abf5 0 = .ok (.aload_n 0, 1) := by decide +kernel
theorem dJ0_length_8abf5_1 : decode cJ0_length_8abf5 1 = .ok (.getfield 9, 3) := by decide +kernel
theorem dJ0_length_8abf5_4 : decode cJ0_length_8abf5 4 = .ok (.arraylength, 1) := by decide +kernel
theorem dJ0_length_8abf5_5 : decode cJ0_length_8abf5 5 = .ok (.aload_n 0, 1) := by decide +kernel
theorem dJ0_length_8abf5_6 : decode cJ0_length_8abf5 6 = .ok (.invokevirtual 335, 3) := by decide +kernel
theorem dJ0_length_8abf5_9 : decode cJ0_length_8abf5 9 = .ok (.ishr, 1) := by decide +kernel
theorem dJ0_length_8abf5_10 : decode cJ0_length_8abf5 10 = .ok (.ireturn, 1) := by decide +kernel
theorem dJ0_charAt_5068e_0 : decode cJ0_charAt_5068e 0 = .ok (.aload_n 0, 1) := by decide +kernel
theorem dJ0_charAt_5068e_1 : decode cJ0_charAt_5068e 1 = .ok (.invokevirtual 492, 3) := by decide +kernel
theorem dJ0_charAt_5068e_4 : decode cJ0_charAt_5068e 4 = .ok (.ifCond .eq 12, 3) := by decide +kernel
theorem dJ0_charAt_5068e_7 : decode cJ0_charAt_5068e 7 = .ok (.aload_n 0, 1) := by decide +kernel
theorem dJ0_charAt_5068e_8 : decode cJ0_charAt_5068e 8 = .ok (.getfield 9, 3) := by decide +kernel
theorem dJ0_charAt_5068e_11 : decode cJ0_charAt_5068e 11 = .ok (.iload_n 1, 1) := by decide +kernel
theorem dJ0_charAt_5068e_12 : decode cJ0_charAt_5068e 12 = .ok (.invokestatic 495, 3) := by decide +kernel
theorem dJ0_charAt_5068e_15 : decode cJ0_charAt_5068e 15 = .ok (.ireturn, 1) := by decide +kernel
theorem dJ0_charAt_5068e_16 : decode cJ0_charAt_5068e 16 = .ok (.aload_n 0, 1) := by decide +kernel
theorem dJ0_charAt_5068e_17 : decode cJ0_charAt_5068e 17 = .ok (.getfield 9, 3) := by decide +kernel
theorem dJ0_charAt_5068e_20 : decode cJ0_charAt_5068e 20 = .ok (.iload_n 1, 1) := by decide +kernel
theorem dJ0_charAt_5068e_21 : decode cJ0_charAt_5068e 21 = .ok (.invokestatic 498, 3) := by decide +kernel
theorem dJ0_charAt_5068e_24 : decode cJ0_charAt_5068e 24 = .ok (.ireturn, 1) := by decide +kernel
theorem dJ0_coder_7d493_0 : decode cJ0_coder_7d493 0 = .ok (.getstatic 38, 3) := by decide +kernel
theorem dJ0_coder_7d493_3 : decode cJ0_coder_7d493 3 = .ok (.ifCond .eq 10, 3) := by decide +kernel
theorem dJ0_coder_7d493_6 : decode cJ0_coder_7d493 6 = .ok (.aload_n 0, 1) := by decide +kernel
theorem dJ0_coder_7d493_7 : decode cJ0_coder_7d493 7 = .ok (.getfield 15, 3) := by decide +kernel
theorem dJ0_coder_7d493_10 : decode cJ0_coder_7d493 10 = .ok (.goto 4, 3) := by decide +kernel
theorem dJ0_coder_7d493_13 : decode cJ0_coder_7d493 13 = .ok (.iconst 1, 1) := by decide +kernel
theorem dJ0_coder_7d493_14 : decode cJ0_coder_7d493 14 = .ok (.ireturn, 1) := by decide +kernel
theorem dJ0_isLatin1_aae02_0 : decode cJ0_isLatin1_aae02 0 = .ok (.getstatic 38, 3) := by decide +kernel
theorem dJ0_isLatin1_aae02_3 : decode cJ0_isLatin1_aae02 3 = .ok (.ifCond .eq 14, 3) := by decide +kernel
theorem dJ0_isLatin1_aae02_6 : decode cJ0_isLatin1_aae02 6 = .ok (.aload_n 0, 1) := by decide +kernel
theorem dJ0_isLatin1_aae02_7 : decode cJ0_isLatin1_aae02 7 = .ok (.getfield 15, 3) := by decide +kernel
theorem dJ0_isLatin1_aae02_10 : decode cJ0_isLatin1_aae02 10 = .ok (.ifCond .ne 7, 3) := by decide +kernel
theorem dJ0_isLatin1_aae02_13 : decode cJ0_isLatin1_aae02 13 = .ok (.iconst 1, 1) := by decide +kernel
theorem dJ0_isLatin1_aae02_14 : decode cJ0_isLatin1_aae02 14 = .ok (.goto 4, 3) := by decide +kernel
theorem dJ0_isLatin1_aae02_17 : decode cJ0_isLatin1_aae02 17 = .ok (.iconst 0, 1) := by decide +kernel
theorem dJ0_isLatin1_aae02_18 : decode cJ0_isLatin1_aae02 18 = .ok (.ireturn, 1) := by decide +kernel
theorem dJ0_checkIndex_df160_0 : decode cJ0_checkIndex_df160 0 = .ok (.iload_n 0, 1) := by decide +kernel
theorem dJ0_checkIndex_df160_1 : decode cJ0_checkIndex_df160 1 = .ok (.iload_n 1, 1) := by decide +kernel
theorem dJ0_checkIndex_df160_2 : decode cJ0_checkIndex_df160 2 = .ok (.getstatic 1053, 3) := by decide +kernel
theorem dJ0_checkIndex_df160_5 : decode cJ0_checkIndex_df160 5 = .ok (.invokestatic 1059, 3) := by decide +kernel
theorem dJ0_checkIndex_df160_8 : decode cJ0_checkIndex_df160 8 = .ok (.pop, 1) := by decide +kernel
theorem dJ0_checkIndex_df160_9 : decode cJ0_checkIndex_df160 9 = .ok (.return_, 1) := by decide +kernel
theorem dJ1_charAt_3b067_0 : decode cJ1_charAt_3b067 0 = .ok (.iload_n 1, 1) := by decide +kernel
theorem dJ1_charAt_3b067_1 : decode cJ1_charAt_3b067 1 = .ok (.aload_n 0, 1) := by decide +kernel
theorem dJ1_charAt_3b067_2 : decode cJ1_charAt_3b067 2 = .ok (.arraylength, 1) := by decide +kernel
theorem dJ1_charAt_3b067_3 : decode cJ1_charAt_3b067 3 = .ok (.invokestatic 9, 3) := by decide +kernel
theorem dJ1_charAt_3b067_6 : decode cJ1_charAt_3b067 6 = .ok (.aload_n 0, 1) := by decide +kernel
theorem dJ1_charAt_3b067_7 : decode cJ1_charAt_3b067 7 = .ok (.iload_n 1, 1) := by decide +kernel
theorem dJ1_charAt_3b067_8 : decode cJ1_charAt_3b067 8 = .ok (.baload, 1) := by decide +kernel
theorem dJ1_charAt_3b067_9 : decode cJ1_charAt_3b067 9 = .ok (.sipush 255, 3) := by decide +kernel
theorem dJ1_charAt_3b067_12 : decode cJ1_charAt_3b067 12 = .ok (.iand, 1) := by decide +kernel
theorem dJ1_charAt_3b067_13 : decode cJ1_charAt_3b067 13 = .ok (.i2c, 1) := by decide +kernel
theorem dJ1_charAt_3b067_14 : decode cJ1_charAt_3b067 14 = .ok (.ireturn, 1) := by decide +kernel
theorem dJ2_getChar_3b067_0 : decode cJ2_getChar_3b067 0 = .ok (.getstatic 44, 3) := by decide +kernel
theorem dJ2_getChar_3b067_3 : decode cJ2_getChar_3b067 3 = .ok (.ifCond .ne 25, 3) := by decide +kernel
theorem dJ2_getChar_3b067_6 : decode cJ2_getChar_3b067 6 = .ok (.iload_n 1, 1) := by decide +kernel
theorem dJ2_getChar_3b067_7 : decode cJ2_getChar_3b067 7 = .ok (.ifCond .lt 11, 3) := by decide +kernel
theorem dJ2_getChar_3b067_10 : decode cJ2_getChar_3b067 10 = .ok (.iload_n 1, 1) := by decide +kernel
theorem dJ2_getChar_3b067_11 : decode cJ2_getChar_3b067 11 = .ok (.aload_n 0, 1) := by decide +kernel
theorem dJ2_getChar_3b067_12 : decode cJ2_getChar_3b067 12 = .ok (.invokestatic 48, 3) := by decide +kernel
theorem dJ2_getChar_3b067_15 : decode cJ2_getChar_3b067 15 = .ok (.if_icmp .lt 13, 3) := by decide +kernel
theorem dJ2_getChar_3b067_18 : decode cJ2_getChar_3b067 18 = .ok (.new 52, 3) := by decide +kernel
theorem dJ2_getChar_3b067_21 : decode cJ2_getChar_3b067 21 = .ok (.dup, 1) := by decide +kernel
theorem dJ2_getChar_3b067_22 : decode cJ2_getChar_3b067 22 = .ok (.ldc 54, 2) := by decide +kernel
theorem dJ2_getChar_3b067_24 : decode cJ2_getChar_3b067 24 = .ok (.invokespecial 56, 3) := by decide +kernel
theorem dJ2_getChar_3b067_27 : decode cJ2_getChar_3b067 27 = .ok (.athrow, 1) := by decide +kernel
theorem dJ2_getChar_3b067_28 : decode cJ2_getChar_3b067 28 = .ok (.iload_n 1, 1) := by decide +kernel
theorem dJ2_getChar_3b067_29 : decode cJ2_getChar_3b067 29 = .ok (.iconst 1, 1) := by decide +kernel
theorem dJ2_getChar_3b067_30 : decode cJ2_getChar_3b067 30 = .ok (.ishl, 1) := by decide +kernel
theorem dJ2_getChar_3b067_31 : decode cJ2_getChar_3b067 31 = .ok (.istore_n 1, 1) := by decide +kernel
theorem dJ2_getChar_3b067_32 : decode cJ2_getChar_3b067 32 = .ok (.aload_n 0, 1) := by decide +kernel
theorem dJ2_getChar_3b067_33 : decode cJ2_getChar_3b067 33 = .ok (.iload_n 1, 1) := by decide +kernel
theorem dJ2_getChar_3b067_34 : decode cJ2_getChar_3b067 34 = .ok (.iinc 1 1, 3) := by decide +kernel
theorem dJ2_getChar_3b067_37 : decode cJ2_getChar_3b067 37 = .ok (.baload, 1) := by decide +kernel
theorem dJ2_getChar_3b067_38 : decode cJ2_getChar_3b067 38 = .ok (.sipush 255, 3) := by decide +kernel
theorem dJ2_getChar_3b067_41 : decode cJ2_getChar_3b067 41 = .ok (.iand, 1) := by decide +kernel
theorem dJ2_getChar_3b067_42 : decode cJ2_getChar_3b067 42 = .ok (.getstatic 59, 3) := by decide +kernel
theorem dJ2_getChar_3b067_45 : decode cJ2_getChar_3b067 45 = .ok (.ishl, 1) := by decide +kernel
theorem dJ2_getChar_3b067_46 : decode cJ2_getChar_3b067 46 = .ok (.aload_n 0, 1) := by decide +kernel
theorem dJ2_getChar_3b067_47 : decode cJ2_getChar_3b067 47 = .ok (.iload_n 1, 1) := by decide +kernel
theorem dJ2_getChar_3b067_48 : decode cJ2_getChar_3b067 48 = .ok (.baload, 1) := by decide +kernel
theorem dJ2_getChar_3b067_49 : decode cJ2_getChar_3b067 49 = .ok (.sipush 255, 3) := by decide +kernel
theorem dJ2_getChar_3b067_52 : decode cJ2_getChar_3b067 52 = .ok (.iand, 1) := by decide +kernel
theorem dJ2_getChar_3b067_53 : decode cJ2_getChar_3b067 53 = .ok (.getstatic 63, 3) := by decide +kernel
theorem dJ2_getChar_3b067_56 : decode cJ2_getChar_3b067 56 = .ok (.ishl, 1) := by decide +kernel
theorem dJ2_getChar_3b067_57 : decode cJ2_getChar_3b067 57 = .ok (.ior, 1) := by decide +kernel
theorem dJ2_getChar_3b067_58 : decode cJ2_getChar_3b067 58 = .ok (.i2c, 1) := by decide +kernel
theorem dJ2_getChar_3b067_59 : decode cJ2_getChar_3b067 59 = .ok (.ireturn, 1) := by decide +kernel
theorem dJ2_length_9d52b_0 : decode cJ2_length_9d52b 0 = .ok (.aload_n 0, 1) := by decide +kernel
theorem dJ2_length_9d52b_1 : decode cJ2_length_9d52b 1 = .ok (.arraylength, 1) := by decide +kernel
theorem dJ2_length_9d52b_2 : decode cJ2_length_9d52b 2 = .ok (.iconst 1, 1) := by decide +kernel
theorem dJ2_length_9d52b_3 : decode cJ2_length_9d52b 3 = .ok (.ishr, 1) := by decide +kernel
theorem dJ2_length_9d52b_4 : decode cJ2_length_9d52b 4 = .ok (.ireturn, 1) := by decide +kernel
theorem dJ2_charAt_3b067_0 : decode cJ2_charAt_3b067 0 = .ok (.iload_n 1, 1) := by decide +kernel
theorem dJ2_charAt_3b067_1 : decode cJ2_charAt_3b067 1 = .ok (.aload_n 0, 1) := by decide +kernel
theorem dJ2_charAt_3b067_2 : decode cJ2_charAt_3b067 2 = .ok (.invokestatic 67, 3) := by decide +kernel
theorem dJ2_charAt_3b067_5 : decode cJ2_charAt_3b067 5 = .ok (.aload_n 0, 1) := by decide +kernel
theorem dJ2_charAt_3b067_6 : decode cJ2_charAt_3b067 6 = .ok (.iload_n 1, 1) := by decide +kernel
theorem dJ2_charAt_3b067_7 : decode cJ2_charAt_3b067 7 = .ok (.invokestatic 71, 3) := by decide +kernel
theorem dJ2_charAt_3b067_10 : decode cJ2_charAt_3b067 10 = .ok (.ireturn, 1) := by decide +kernel
theorem dJ2_checkIndex_2214a_0 : decode cJ2_checkIndex_2214a 0 = .ok (.iload_n 0, 1) := by decide +kernel
theorem dJ2_checkIndex_2214a_1 : decode cJ2_checkIndex_2214a 1 = .ok (.aload_n 1, 1) := by decide +kernel
theorem dJ2_checkIndex_2214a_2 : decode cJ2_checkIndex_2214a 2 = .ok (.invokestatic 48, 3) := by decide +kernel
theorem dJ2_checkIndex_2214a_5 : decode cJ2_checkIndex_2214a 5 = .ok (.invokestatic 414, 3) := by decide +kernel
theorem dJ2_checkIndex_2214a_8 : decode cJ2_checkIndex_2214a 8 = .ok (.return_, 1) := by decide +kernel
theorem dJ7_fill_53178_0 : decode cJ7_fill_53178 0 = .ok (.iconst 0, 1) := by decide +kernel
theorem dJ7_fill_53178_1 : decode cJ7_fill_53178 1 = .ok (.istore_n 2, 1) := by decide +kernel
theorem dJ7_fill_53178_2 : decode cJ7_fill_53178 2 = .ok (.aload_n 0, 1) := by decide +kernel
theorem dJ7_fill_53178_3 : decode cJ7_fill_53178 3 = .ok (.arraylength, 1) := by decide +kernel
theorem dJ7_fill_53178_4 : decode cJ7_fill_53178 4 = .ok (.istore_n 3, 1) := by decide +kernel
theorem dJ7_fill_53178_5 : decode cJ7_fill_53178 5 = .ok (.iload_n 2, 1) := by decide +kernel
theorem dJ7_fill_53178_6 : decode cJ7_fill_53178 6 = .ok (.iload_n 3, 1) := by decide +kernel
theorem dJ7_fill_53178_7 : decode cJ7_fill_53178 7 = .ok (.if_icmp .ge 13, 3) := by decide +kernel
theorem dJ7_fill_53178_10 : decode cJ7_fill_53178 10 = .ok (.aload_n 0, 1) := by decide +kernel
theorem dJ7_fill_53178_11 : decode cJ7_fill_53178 11 = .ok (.iload_n 2, 1) := by decide +kernel
theorem dJ7_fill_53178_12 : decode cJ7_fill_53178 12 = .ok (.iload_n 1, 1) := by decide +kernel
theorem dJ7_fill_53178_13 : decode cJ7_fill_53178 13 = .ok (.iastore, 1) := by decide +kernel
theorem dJ7_fill_53178_14 : decode cJ7_fill_53178 14 = .ok (.iinc 2 1, 3) := by decide +kernel
theorem dJ7_fill_53178_17 : decode cJ7_fill_53178 17 = .ok (.goto (-12), 3) := by decide +kernel
theorem dJ7_fill_53178_20 : decode cJ7_fill_53178 20 = .ok (.return_, 1) := by decide +kernel
theorem dJ3_checkIndex_8e157_0 : decode cJ3_checkIndex_8e157 0 = .ok (.iload_n 0, 1) := by decide +kernel
theorem dJ3_checkIndex_8e157_1 : decode cJ3_checkIndex_8e157 1 = .ok (.ifCond .lt 8, 3) := by decide +kernel
theorem dJ3_checkIndex_8e157_4 : decode cJ3_checkIndex_8e157 4 = .ok (.iload_n 0, 1) := by decide +kernel
theorem dJ3_checkIndex_8e157_5 : decode cJ3_checkIndex_8e157 5 = .ok (.iload_n 1, 1) := by decide +kernel
theorem dJ3_checkIndex_8e157_6 : decode cJ3_checkIndex_8e157 6 = .ok (.if_icmp .lt 10, 3) := by decide +kernel
theorem dJ3_checkIndex_8e157_9 : decode cJ3_checkIndex_8e157 9 = .ok (.aload_n 2, 1) := by decide +kernel
theorem dJ3_checkIndex_8e157_10 : decode cJ3_checkIndex_8e157 10 = .ok (.iload_n 0, 1) := by decide +kernel
theorem dJ3_checkIndex_8e157_11 : decode cJ3_checkIndex_8e157 11 = .ok (.iload_n 1, 1) := by decide +kernel
theorem dJ3_checkIndex_8e157_12 : decode cJ3_checkIndex_8e157 12 = .ok (.invokestatic 95, 3) := by decide +kernel
theorem dJ3_checkIndex_8e157_15 : decode cJ3_checkIndex_8e157 15 = .ok (.athrow, 1) := by decide +kernel
theorem dJ3_checkIndex_8e157_16 : decode cJ3_checkIndex_8e157 16 = .ok (.iload_n 0, 1) := by decide +kernel
theorem dJ3_checkIndex_8e157_17 : decode cJ3_checkIndex_8e157 17 = .ok (.ireturn, 1) := by decide +kernel
theorem dL_cell_0 : decode cL_cell 0 = .ok (.iload_n 1, 1) := by decide +kernel
theorem dL_cell_1 : decode cL_cell 1 = .ok (.aload_n 0, 1) := by decide +kernel
theorem dL_cell_2 : decode cL_cell 2 = .ok (.arraylength, 1) := by decide +kernel
theorem dL_cell_3 : decode cL_cell 3 = .ok (.if_icmp .ge 9, 3) := by decide +kernel
theorem dL_cell_6 : decode cL_cell 6 = .ok (.aload_n 0, 1) := by decide +kernel
theorem dL_cell_7 : decode cL_cell 7 = .ok (.iload_n 1, 1) := by decide +kernel
theorem dL_cell_8 : decode cL_cell 8 = .ok (.iaload, 1) := by decide +kernel
theorem dL_cell_9 : decode cL_cell 9 = .ok (.goto 4, 3) := by decide +kernel
theorem dL_cell_12 : decode cL_cell 12 = .ok (.iconst 0, 1) := by decide +kernel
theorem dL_cell_13 : decode cL_cell 13 = .ok (.ireturn, 1) := by decide +kernel
theorem dL_law_0 : decode cL_law 0 = .ok (.new 7, 3) := by decide +kernel
theorem dL_law_3 : decode cL_law 3 = .ok (.dup, 1) := by decide +kernel
theorem dL_law_4 : decode cL_law 4 = .ok (.aload_n 0, 1) := by decide +kernel
theorem dL_law_5 : decode cL_law 5 = .ok (.iconst 0, 1) := by decide +kernel
theorem dL_law_6 : decode cL_law 6 = .ok (.invokestatic 9, 3) := by decide +kernel
theorem dL_law_9 : decode cL_law 9 = .ok (.invokespecial 15, 3) := by decide +kernel
theorem dL_law_12 : decode cL_law 12 = .ok (.astore_n 1, 1) := by decide +kernel
theorem dL_law_13 : decode cL_law 13 = .ok (.new 18, 3) := by decide +kernel
theorem dL_law_16 : decode cL_law 16 = .ok (.dup, 1) := by decide +kernel
theorem dL_law_17 : decode cL_law 17 = .ok (.aload_n 0, 1) := by decide +kernel
theorem dL_law_18 : decode cL_law 18 = .ok (.iconst 0, 1) := by decide +kernel
theorem dL_law_19 : decode cL_law 19 = .ok (.invokestatic 9, 3) := by decide +kernel
theorem dL_law_22 : decode cL_law 22 = .ok (.invokespecial 20, 3) := by decide +kernel
theorem dL_law_25 : decode cL_law 25 = .ok (.astore_n 2, 1) := by decide +kernel
theorem dL_law_26 : decode cL_law 26 = .ok (.iconst 1, 1) := by decide +kernel
theorem dL_law_27 : decode cL_law 27 = .ok (.istore_n 3, 1) := by decide +kernel
theorem dL_law_28 : decode cL_law 28 = .ok (.iload_n 3, 1) := by decide +kernel
theorem dL_law_29 : decode cL_law 29 = .ok (.aload_n 0, 1) := by decide +kernel
theorem dL_law_30 : decode cL_law 30 = .ok (.arraylength, 1) := by decide +kernel
theorem dL_law_31 : decode cL_law 31 = .ok (.bipush 6, 2) := by decide +kernel
theorem dL_law_33 : decode cL_law 33 = .ok (.isub, 1) := by decide +kernel
theorem dL_law_34 : decode cL_law 34 = .ok (.if_icmp .gt 812, 3) := by decide +kernel
theorem dL_law_37 : decode cL_law 37 = .ok (.aload_n 0, 1) := by decide +kernel
theorem dL_law_38 : decode cL_law 38 = .ok (.iload_n 3, 1) := by decide +kernel
theorem dL_law_39 : decode cL_law 39 = .ok (.iaload, 1) := by decide +kernel
theorem dL_law_40 : decode cL_law 40 = .ok (.bipush 31, 2) := by decide +kernel
theorem dL_law_42 : decode cL_law 42 = .ok (.iand, 1) := by decide +kernel
theorem dL_law_43 : decode cL_law 43 = .ok (.tableswitch 797 0 23 #[109, 132, 181, 244, 267, 280, 303, 326, 359, 392, 425, 448, 471, 504, 517, 550, 593, 616, 639, 662, 705, 748, 761, 774], 109) := by decide +kernel
theorem dL_law_152 : decode cL_law 152 = .ok (.aload_n 1, 1) := by decide +kernel
theorem dL_law_153 : decode cL_law 153 = .ok (.aload_n 0, 1) := by decide +kernel
theorem dL_law_154 : decode cL_law 154 = .ok (.iload_n 3, 1) := by decide +kernel
theorem dL_law_155 : decode cL_law 155 = .ok (.iconst 1, 1) := by decide +kernel
theorem dL_law_156 : decode cL_law 156 = .ok (.iadd, 1) := by decide +kernel
theorem dL_law_157 : decode cL_law 157 = .ok (.iaload, 1) := by decide +kernel
theorem dL_law_158 : decode cL_law 158 = .ok (.invokevirtual 21, 3) := by decide +kernel
theorem dL_law_161 : decode cL_law 161 = .ok (.aload_n 2, 1) := by decide +kernel
theorem dL_law_162 : decode cL_law 162 = .ok (.aload_n 0, 1) := by decide +kernel
theorem dL_law_163 : decode cL_law 163 = .ok (.iload_n 3, 1) := by decide +kernel
theorem dL_law_164 : decode cL_law 164 = .ok (.iconst 1, 1) := by decide +kernel
theorem dL_law_165 : decode cL_law 165 = .ok (.iadd, 1) := by decide +kernel
theorem dL_law_166 : decode cL_law 166 = .ok (.iaload, 1) := by decide +kernel
theorem dL_law_167 : decode cL_law 167 = .ok (.invokevirtual 25, 3) := by decide +kernel
theorem dL_law_170 : decode cL_law 170 = .ok (.if_icmp .eq 670, 3) := by decide +kernel
theorem dL_law_173 : decode cL_law 173 = .ok (.iconst 0, 1) := by decide +kernel
theorem dL_law_174 : decode cL_law 174 = .ok (.ireturn, 1) := by decide +kernel
theorem dL_law_175 : decode cL_law 175 = .ok (.aload_n 1, 1) := by decide +kernel
theorem dL_law_176 : decode cL_law 176 = .ok (.aload_n 0, 1) := by decide +kernel
theorem dL_law_177 : decode cL_law 177 = .ok (.iload_n 3, 1) := by decide +kernel
theorem dL_law_178 : decode cL_law 178 = .ok (.iconst 1, 1) := by decide +kernel
theorem dL_law_179 : decode cL_law 179 = .ok (.iadd, 1) := by decide +kernel
theorem dL_law_180 : decode cL_law 180 = .ok (.iaload, 1) := by decide +kernel
theorem dL_law_181 : decode cL_law 181 = .ok (.aload_n 0, 1) := by decide +kernel
theorem dL_law_182 : decode cL_law 182 = .ok (.iload_n 3, 1) := by decide +kernel
theorem dL_law_183 : decode cL_law 183 = .ok (.iconst 2, 1) := by decide +kernel
theorem dL_law_184 : decode cL_law 184 = .ok (.iadd, 1) := by decide +kernel
theorem dL_law_185 : decode cL_law 185 = .ok (.iaload, 1) := by decide +kernel
theorem dL_law_186 : decode cL_law 186 = .ok (.ifCond .eq 7, 3) := by decide +kernel
theorem dL_law_189 : decode cL_law 189 = .ok (.iconst 1, 1) := by decide +kernel
theorem dL_law_190 : decode cL_law 190 = .ok (.goto 4, 3) := by decide +kernel
theorem dL_law_193 : decode cL_law 193 = .ok (.iconst 0, 1) := by decide +kernel
theorem dL_law_194 : decode cL_law 194 = .ok (.invokevirtual 26, 3) := by decide +kernel
theorem dL_law_197 : decode cL_law 197 = .ok (.aload_n 2, 1) := by decide +kernel
theorem dL_law_198 : decode cL_law 198 = .ok (.aload_n 0, 1) := by decide +kernel
theorem dL_law_199 : decode cL_law 199 = .ok (.iload_n 3, 1) := by decide +kernel
theorem dL_law_200 : decode cL_law 200 = .ok (.iconst 1, 1) := by decide +kernel
theorem dL_law_201 : decode cL_law 201 = .ok (.iadd, 1) := by decide +kernel
theorem dL_law_202 : decode cL_law 202 = .ok (.iaload, 1) := by decide +kernel
theorem dL_law_203 : decode cL_law 203 = .ok (.aload_n 0, 1) := by decide +kernel
theorem dL_law_204 : decode cL_law 204 = .ok (.iload_n 3, 1) := by decide +kernel
theorem dL_law_205 : decode cL_law 205 = .ok (.iconst 2, 1) := by decide +kernel
theorem dL_law_206 : decode cL_law 206 = .ok (.iadd, 1) := by decide +kernel
theorem dL_law_207 : decode cL_law 207 = .ok (.iaload, 1) := by decide +kernel
theorem dL_law_208 : decode cL_law 208 = .ok (.ifCond .eq 7, 3) := by decide +kernel
theorem dL_law_211 : decode cL_law 211 = .ok (.iconst 1, 1) := by decide +kernel
theorem dL_law_212 : decode cL_law 212 = .ok (.goto 4, 3) := by decide +kernel
theorem dL_law_215 : decode cL_law 215 = .ok (.iconst 0, 1) := by decide +kernel
theorem dL_law_216 : decode cL_law 216 = .ok (.invokevirtual 30, 3) := by decide +kernel
theorem dL_law_219 : decode cL_law 219 = .ok (.if_icmp .eq 621, 3) := by decide +kernel
theorem dL_law_222 : decode cL_law 222 = .ok (.iconst 0, 1) := by decide +kernel
theorem dL_law_223 : decode cL_law 223 = .ok (.ireturn, 1) := by decide +kernel
theorem dL_law_224 : decode cL_law 224 = .ok (.aload_n 1, 1) := by decide +kernel
theorem dL_law_225 : decode cL_law 225 = .ok (.aload_n 0, 1) := by decide +kernel
theorem dL_law_226 : decode cL_law 226 = .ok (.iload_n 3, 1) := by decide +kernel
theorem dL_law_227 : decode cL_law 227 = .ok (.iconst 1, 1) := by decide +kernel
theorem dL_law_228 : decode cL_law 228 = .ok (.iadd, 1) := by decide +kernel
theorem dL_law_229 : decode cL_law 229 = .ok (.iaload, 1) := by decide +kernel
theorem dL_law_230 : decode cL_law 230 = .ok (.aload_n 0, 1) := by decide +kernel
theorem dL_law_231 : decode cL_law 231 = .ok (.iload_n 3, 1) := by decide +kernel
theorem dL_law_232 : decode cL_law 232 = .ok (.iconst 2, 1) := by decide +kernel
theorem dL_law_233 : decode cL_law 233 = .ok (.iadd, 1) := by decide +kernel
theorem dL_law_234 : decode cL_law 234 = .ok (.iaload, 1) := by decide +kernel
theorem dL_law_235 : decode cL_law 235 = .ok (.aload_n 0, 1) := by decide +kernel
theorem dL_law_236 : decode cL_law 236 = .ok (.iload_n 3, 1) := by decide +kernel
theorem dL_law_237 : decode cL_law 237 = .ok (.iconst 3, 1) := by decide +kernel
theorem dL_law_238 : decode cL_law 238 = .ok (.iadd, 1) := by decide +kernel
theorem dL_law_239 : decode cL_law 239 = .ok (.iaload, 1) := by decide +kernel
theorem dL_law_240 : decode cL_law 240 = .ok (.aload_n 0, 1) := by decide +kernel
theorem dL_law_241 : decode cL_law 241 = .ok (.iload_n 3, 1) := by decide +kernel
theorem dL_law_242 : decode cL_law 242 = .ok (.iconst 4, 1) := by decide +kernel
theorem dL_law_243 : decode cL_law 243 = .ok (.iadd, 1) := by decide +kernel
theorem dL_law_244 : decode cL_law 244 = .ok (.iaload, 1) := by decide +kernel
theorem dL_law_245 : decode cL_law 245 = .ok (.aload_n 0, 1) := by decide +kernel
theorem dL_law_246 : decode cL_law 246 = .ok (.iload_n 3, 1) := by decide +kernel
theorem dL_law_247 : decode cL_law 247 = .ok (.iconst 5, 1) := by decide +kernel
theorem dL_law_248 : decode cL_law 248 = .ok (.iadd, 1) := by decide +kernel
theorem dL_law_249 : decode cL_law 249 = .ok (.iaload, 1) := by decide +kernel
theorem dL_law_250 : decode cL_law 250 = .ok (.invokevirtual 31, 3) := by decide +kernel
theorem dL_law_253 : decode cL_law 253 = .ok (.aload_n 2, 1) := by decide +kernel
theorem dL_law_254 : decode cL_law 254 = .ok (.aload_n 0, 1) := by decide +kernel
theorem dL_law_255 : decode cL_law 255 = .ok (.iload_n 3, 1) := by decide +kernel
theorem dL_law_256 : decode cL_law 256 = .ok (.iconst 1, 1) := by decide +kernel
theorem dL_law_257 : decode cL_law 257 = .ok (.iadd, 1) := by decide +kernel
theorem dL_law_258 : decode cL_law 258 = .ok (.iaload, 1) := by decide +kernel
theorem dL_law_259 : decode cL_law 259 = .ok (.aload_n 0, 1) := by decide +kernel
theorem dL_law_260 : decode cL_law 260 = .ok (.iload_n 3, 1) := by decide +kernel
theorem dL_law_261 : decode cL_law 261 = .ok (.iconst 2, 1) := by decide +kernel
theorem dL_law_262 : decode cL_law 262 = .ok (.iadd, 1) := by decide +kernel
theorem dL_law_263 : decode cL_law 263 = .ok (.iaload, 1) := by decide +kernel
theorem dL_law_264 : decode cL_law 264 = .ok (.aload_n 0, 1) := by decide +kernel
theorem dL_law_265 : decode cL_law 265 = .ok (.iload_n 3, 1) := by decide +kernel
theorem dL_law_266 : decode cL_law 266 = .ok (.iconst 3, 1) := by decide +kernel
theorem dL_law_267 : decode cL_law 267 = .ok (.iadd, 1) := by decide +kernel
theorem dL_law_268 : decode cL_law 268 = .ok (.iaload, 1) := by decide +kernel
theorem dL_law_269 : decode cL_law 269 = .ok (.aload_n 0, 1) := by decide +kernel
theorem dL_law_270 : decode cL_law 270 = .ok (.iload_n 3, 1) := by decide +kernel
theorem dL_law_271 : decode cL_law 271 = .ok (.iconst 4, 1) := by decide +kernel
theorem dL_law_272 : decode cL_law 272 = .ok (.iadd, 1) := by decide +kernel
theorem dL_law_273 : decode cL_law 273 = .ok (.iaload, 1) := by decide +kernel
theorem dL_law_274 : decode cL_law 274 = .ok (.aload_n 0, 1) := by decide +kernel
theorem dL_law_275 : decode cL_law 275 = .ok (.iload_n 3, 1) := by decide +kernel
theorem dL_law_276 : decode cL_law 276 = .ok (.iconst 5, 1) := by decide +kernel
theorem dL_law_277 : decode cL_law 277 = .ok (.iadd, 1) := by decide +kernel
theorem dL_law_278 : decode cL_law 278 = .ok (.iaload, 1) := by decide +kernel
theorem dL_law_279 : decode cL_law 279 = .ok (.invokevirtual 35, 3) := by decide +kernel
theorem dL_law_282 : decode cL_law 282 = .ok (.if_icmp .eq 558, 3) := by decide +kernel
theorem dL_law_285 : decode cL_law 285 = .ok (.iconst 0, 1) := by decide +kernel
theorem dL_law_286 : decode cL_law 286 = .ok (.ireturn, 1) := by decide +kernel
theorem dL_law_287 : decode cL_law 287 = .ok (.aload_n 1, 1) := by decide +kernel
theorem dL_law_288 : decode cL_law 288 = .ok (.aload_n 0, 1) := by decide +kernel
theorem dL_law_289 : decode cL_law 289 = .ok (.iload_n 3, 1) := by decide +kernel
theorem dL_law_290 : decode cL_law 290 = .ok (.iconst 1, 1) := by decide +kernel
theorem dL_law_291 : decode cL_law 291 = .ok (.iadd, 1) := by decide +kernel
theorem dL_law_292 : decode cL_law 292 = .ok (.iaload, 1) := by decide +kernel
theorem dL_law_293 : decode cL_law 293 = .ok (.invokevirtual 36, 3) := by decide +kernel
theorem dL_law_296 : decode cL_law 296 = .ok (.aload_n 2, 1) := by decide +kernel
theorem dL_law_297 : decode cL_law 297 = .ok (.aload_n 0, 1) := by decide +kernel
theorem dL_law_298 : decode cL_law 298 = .ok (.iload_n 3, 1) := by decide +kernel
theorem dL_law_299 : decode cL_law 299 = .ok (.iconst 1, 1) := by decide +kernel
theorem dL_law_300 : decode cL_law 300 = .ok (.iadd, 1) := by decide +kernel
theorem dL_law_301 : decode cL_law 301 = .ok (.iaload, 1) := by decide +kernel
theorem dL_law_302 : decode cL_law 302 = .ok (.invokevirtual 39, 3) := by decide +kernel
theorem dL_law_305 : decode cL_law 305 = .ok (.if_icmp .eq 535, 3) := by decide +kernel
theorem dL_law_308 : decode cL_law 308 = .ok (.iconst 0, 1) := by decide +kernel
theorem dL_law_309 : decode cL_law 309 = .ok (.ireturn, 1) := by decide +kernel
theorem dL_law_310 : decode cL_law 310 = .ok (.aload_n 1, 1) := by decide +kernel
theorem dL_law_311 : decode cL_law 311 = .ok (.invokevirtual 40, 3) := by decide +kernel
theorem dL_law_314 : decode cL_law 314 = .ok (.aload_n 2, 1) := by decide +kernel
theorem dL_law_315 : decode cL_law 315 = .ok (.invokevirtual 44, 3) := by decide +kernel
theorem dL_law_318 : decode cL_law 318 = .ok (.if_icmp .eq 522, 3) := by decide +kernel
theorem dL_law_321 : decode cL_law 321 = .ok (.iconst 0, 1) := by decide +kernel
theorem dL_law_322 : decode cL_law 322 = .ok (.ireturn, 1) := by decide +kernel
theorem dL_law_323 : decode cL_law 323 = .ok (.aload_n 1, 1) := by decide +kernel
theorem dL_law_324 : decode cL_law 324 = .ok (.aload_n 0, 1) := by decide +kernel
theorem dL_law_325 : decode cL_law 325 = .ok (.iload_n 3, 1) := by decide +kernel
theorem dL_law_326 : decode cL_law 326 = .ok (.iconst 1, 1) := by decide +kernel
theorem dL_law_327 : decode cL_law 327 = .ok (.iadd, 1) := by decide +kernel
theorem dL_law_328 : decode cL_law 328 = .ok (.iaload, 1) := by decide +kernel
theorem dL_law_329 : decode cL_law 329 = .ok (.invokevirtual 45, 3) := by decide +kernel
theorem dL_law_332 : decode cL_law 332 = .ok (.aload_n 2, 1) := by decide +kernel
theorem dL_law_333 : decode cL_law 333 = .ok (.aload_n 0, 1) := by decide +kernel
theorem dL_law_334 : decode cL_law 334 = .ok (.iload_n 3, 1) := by decide +kernel
theorem dL_law_335 : decode cL_law 335 = .ok (.iconst 1, 1) := by decide +kernel
theorem dL_law_336 : decode cL_law 336 = .ok (.iadd, 1) := by decide +kernel
theorem dL_law_337 : decode cL_law 337 = .ok (.iaload, 1) := by decide +kernel
theorem dL_law_338 : decode cL_law 338 = .ok (.invokevirtual 48, 3) := by decide +kernel
theorem dL_law_341 : decode cL_law 341 = .ok (.if_icmp .eq 499, 3) := by decide +kernel
theorem dL_law_344 : decode cL_law 344 = .ok (.iconst 0, 1) := by decide +kernel
theorem dL_law_345 : decode cL_law 345 = .ok (.ireturn, 1) := by decide +kernel
theorem dL_law_346 : decode cL_law 346 = .ok (.aload_n 1, 1) := by decide +kernel
theorem dL_law_347 : decode cL_law 347 = .ok (.aload_n 0, 1) := by decide +kernel
theorem dL_law_348 : decode cL_law 348 = .ok (.iload_n 3, 1) := by decide +kernel
theorem dL_law_349 : decode cL_law 349 = .ok (.iconst 1, 1) := by decide +kernel
theorem dL_law_350 : decode cL_law 350 = .ok (.iadd, 1) := by decide +kernel
theorem dL_law_351 : decode cL_law 351 = .ok (.iaload, 1) := by decide +kernel
theorem dL_law_352 : decode cL_law 352 = .ok (.invokevirtual 49, 3) := by decide +kernel
theorem dL_law_355 : decode cL_law 355 = .ok (.aload_n 2, 1) := by decide +kernel
theorem dL_law_356 : decode cL_law 356 = .ok (.aload_n 0, 1) := by decide +kernel
theorem dL_law_357 : decode cL_law 357 = .ok (.iload_n 3, 1) := by decide +kernel
theorem dL_law_358 : decode cL_law 358 = .ok (.iconst 1, 1) := by decide +kernel
theorem dL_law_359 : decode cL_law 359 = .ok (.iadd, 1) := by decide +kernel
theorem dL_law_360 : decode cL_law 360 = .ok (.iaload, 1) := by decide +kernel
theorem dL_law_361 : decode cL_law 361 = .ok (.invokevirtual 53, 3) := by decide +kernel
theorem dL_law_364 : decode cL_law 364 = .ok (.if_icmp .eq 476, 3) := by decide +kernel
theorem dL_law_367 : decode cL_law 367 = .ok (.iconst 0, 1) := by decide +kernel
theorem dL_law_368 : decode cL_law 368 = .ok (.ireturn, 1) := by decide +kernel
theorem dL_law_369 : decode cL_law 369 = .ok (.aload_n 1, 1) := by decide +kernel
theorem dL_law_370 : decode cL_law 370 = .ok (.aload_n 0, 1) := by decide +kernel
theorem dL_law_371 : decode cL_law 371 = .ok (.iload_n 3, 1) := by decide +kernel
theorem dL_law_372 : decode cL_law 372 = .ok (.iconst 1, 1) := by decide +kernel
theorem dL_law_373 : decode cL_law 373 = .ok (.iadd, 1) := by decide +kernel
theorem dL_law_374 : decode cL_law 374 = .ok (.iaload, 1) := by decide +kernel
theorem dL_law_375 : decode cL_law 375 = .ok (.aload_n 0, 1) := by decide +kernel
theorem dL_law_376 : decode cL_law 376 = .ok (.iload_n 3, 1) := by decide +kernel
theorem dL_law_377 : decode cL_law 377 = .ok (.iconst 2, 1) := by decide +kernel
theorem dL_law_378 : decode cL_law 378 = .ok (.iadd, 1) := by decide +kernel
theorem dL_law_379 : decode cL_law 379 = .ok (.iaload, 1) := by decide +kernel
theorem dL_law_380 : decode cL_law 380 = .ok (.invokevirtual 54, 3) := by decide +kernel
theorem dL_law_383 : decode cL_law 383 = .ok (.aload_n 2, 1) := by decide +kernel
theorem dL_law_384 : decode cL_law 384 = .ok (.aload_n 0, 1) := by decide +kernel
theorem dL_law_385 : decode cL_law 385 = .ok (.iload_n 3, 1) := by decide +kernel
theorem dL_law_386 : decode cL_law 386 = .ok (.iconst 1, 1) := by decide +kernel
theorem dL_law_387 : decode cL_law 387 = .ok (.iadd, 1) := by decide +kernel
theorem dL_law_388 : decode cL_law 388 = .ok (.iaload, 1) := by decide +kernel
theorem dL_law_389 : decode cL_law 389 = .ok (.aload_n 0, 1) := by decide +kernel
theorem dL_law_390 : decode cL_law 390 = .ok (.iload_n 3, 1) := by decide +kernel
theorem dL_law_391 : decode cL_law 391 = .ok (.iconst 2, 1) := by decide +kernel
theorem dL_law_392 : decode cL_law 392 = .ok (.iadd, 1) := by decide +kernel
theorem dL_law_393 : decode cL_law 393 = .ok (.iaload, 1) := by decide +kernel
theorem dL_law_394 : decode cL_law 394 = .ok (.invokevirtual 58, 3) := by decide +kernel
theorem dL_law_397 : decode cL_law 397 = .ok (.if_icmp .eq 443, 3) := by decide +kernel
theorem dL_law_400 : decode cL_law 400 = .ok (.iconst 0, 1) := by decide +kernel
theorem dL_law_401 : decode cL_law 401 = .ok (.ireturn, 1) := by decide +kernel
theorem dL_law_402 : decode cL_law 402 = .ok (.aload_n 1, 1) := by decide +kernel
theorem dL_law_403 : decode cL_law 403 = .ok (.aload_n 0, 1) := by decide +kernel
theorem dL_law_404 : decode cL_law 404 = .ok (.iload_n 3, 1) := by decide +kernel
theorem dL_law_405 : decode cL_law 405 = .ok (.iconst 1, 1) := by decide +kernel
theorem dL_law_406 : decode cL_law 406 = .ok (.iadd, 1) := by decide +kernel
theorem dL_law_407 : decode cL_law 407 = .ok (.iaload, 1) := by decide +kernel
theorem dL_law_408 : decode cL_law 408 = .ok (.aload_n 0, 1) := by decide +kernel
theorem dL_law_409 : decode cL_law 409 = .ok (.iload_n 3, 1) := by decide +kernel
theorem dL_law_410 : decode cL_law 410 = .ok (.iconst 2, 1) := by decide +kernel
theorem dL_law_411 : decode cL_law 411 = .ok (.iadd, 1) := by decide +kernel
theorem dL_law_412 : decode cL_law 412 = .ok (.iaload, 1) := by decide +kernel
theorem dL_law_413 : decode cL_law 413 = .ok (.invokevirtual 59, 3) := by decide +kernel
theorem dL_law_416 : decode cL_law 416 = .ok (.aload_n 2, 1) := by decide +kernel
theorem dL_law_417 : decode cL_law 417 = .ok (.aload_n 0, 1) := by decide +kernel
theorem dL_law_418 : decode cL_law 418 = .ok (.iload_n 3, 1) := by decide +kernel
theorem dL_law_419 : decode cL_law 419 = .ok (.iconst 1, 1) := by decide +kernel
theorem dL_law_420 : decode cL_law 420 = .ok (.iadd, 1) := by decide +kernel
theorem dL_law_421 : decode cL_law 421 = .ok (.iaload, 1) := by decide +kernel
theorem dL_law_422 : decode cL_law 422 = .ok (.aload_n 0, 1) := by decide +kernel
theorem dL_law_423 : decode cL_law 423 = .ok (.iload_n 3, 1) := by decide +kernel
theorem dL_law_424 : decode cL_law 424 = .ok (.iconst 2, 1) := by decide +kernel
theorem dL_law_425 : decode cL_law 425 = .ok (.iadd, 1) := by decide +kernel
theorem dL_law_426 : decode cL_law 426 = .ok (.iaload, 1) := by decide +kernel
theorem dL_law_427 : decode cL_law 427 = .ok (.invokevirtual 63, 3) := by decide +kernel
theorem dL_law_430 : decode cL_law 430 = .ok (.if_icmp .eq 410, 3) := by decide +kernel
theorem dL_law_433 : decode cL_law 433 = .ok (.iconst 0, 1) := by decide +kernel
theorem dL_law_434 : decode cL_law 434 = .ok (.ireturn, 1) := by decide +kernel
theorem dL_law_435 : decode cL_law 435 = .ok (.aload_n 1, 1) := by decide +kernel
theorem dL_law_436 : decode cL_law 436 = .ok (.aload_n 0, 1) := by decide +kernel
theorem dL_law_437 : decode cL_law 437 = .ok (.iload_n 3, 1) := by decide +kernel
theorem dL_law_438 : decode cL_law 438 = .ok (.iconst 1, 1) := by decide +kernel
theorem dL_law_439 : decode cL_law 439 = .ok (.iadd, 1) := by decide +kernel
theorem dL_law_440 : decode cL_law 440 = .ok (.iaload, 1) := by decide +kernel
theorem dL_law_441 : decode cL_law 441 = .ok (.aload_n 0, 1) := by decide +kernel
theorem dL_law_442 : decode cL_law 442 = .ok (.iload_n 3, 1) := by decide +kernel
theorem dL_law_443 : decode cL_law 443 = .ok (.iconst 2, 1) := by decide +kernel
theorem dL_law_444 : decode cL_law 444 = .ok (.iadd, 1) := by decide +kernel
theorem dL_law_445 : decode cL_law 445 = .ok (.iaload, 1) := by decide +kernel
theorem dL_law_446 : decode cL_law 446 = .ok (.invokevirtual 64, 3) := by decide +kernel
theorem dL_law_449 : decode cL_law 449 = .ok (.aload_n 2, 1) := by decide +kernel
theorem dL_law_450 : decode cL_law 450 = .ok (.aload_n 0, 1) := by decide +kernel
theorem dL_law_451 : decode cL_law 451 = .ok (.iload_n 3, 1) := by decide +kernel
theorem dL_law_452 : decode cL_law 452 = .ok (.iconst 1, 1) := by decide +kernel
theorem dL_law_453 : decode cL_law 453 = .ok (.iadd, 1) := by decide +kernel
theorem dL_law_454 : decode cL_law 454 = .ok (.iaload, 1) := by decide +kernel
theorem dL_law_455 : decode cL_law 455 = .ok (.aload_n 0, 1) := by decide +kernel
theorem dL_law_456 : decode cL_law 456 = .ok (.iload_n 3, 1) := by decide +kernel
theorem dL_law_457 : decode cL_law 457 = .ok (.iconst 2, 1) := by decide +kernel
theorem dL_law_458 : decode cL_law 458 = .ok (.iadd, 1) := by decide +kernel
theorem dL_law_459 : decode cL_law 459 = .ok (.iaload, 1) := by decide +kernel
theorem dL_law_460 : decode cL_law 460 = .ok (.invokevirtual 67, 3) := by decide +kernel
theorem dL_law_463 : decode cL_law 463 = .ok (.if_icmp .eq 377, 3) := by decide +kernel
theorem dL_law_466 : decode cL_law 466 = .ok (.iconst 0, 1) := by decide +kernel
theorem dL_law_467 : decode cL_law 467 = .ok (.ireturn, 1) := by decide +kernel
theorem dL_law_468 : decode cL_law 468 = .ok (.aload_n 1, 1) := by decide +kernel
theorem dL_law_469 : decode cL_law 469 = .ok (.aload_n 0, 1) := by decide +kernel
theorem dL_law_470 : decode cL_law 470 = .ok (.iload_n 3, 1) := by decide +kernel
theorem dL_law_471 : decode cL_law 471 = .ok (.iconst 1, 1) := by decide +kernel
theorem dL_law_472 : decode cL_law 472 = .ok (.iadd, 1) := by decide +kernel
theorem dL_law_473 : decode cL_law 473 = .ok (.iaload, 1) := by decide +kernel
theorem dL_law_474 : decode cL_law 474 = .ok (.invokevirtual 68, 3) := by decide +kernel
theorem dL_law_477 : decode cL_law 477 = .ok (.aload_n 2, 1) := by decide +kernel
theorem dL_law_478 : decode cL_law 478 = .ok (.aload_n 0, 1) := by decide +kernel
theorem dL_law_479 : decode cL_law 479 = .ok (.iload_n 3, 1) := by decide +kernel
theorem dL_law_480 : decode cL_law 480 = .ok (.iconst 1, 1) := by decide +kernel
theorem dL_law_481 : decode cL_law 481 = .ok (.iadd, 1) := by decide +kernel
theorem dL_law_482 : decode cL_law 482 = .ok (.iaload, 1) := by decide +kernel
theorem dL_law_483 : decode cL_law 483 = .ok (.invokevirtual 71, 3) := by decide +kernel
theorem dL_law_486 : decode cL_law 486 = .ok (.if_icmp .eq 354, 3) := by decide +kernel
theorem dL_law_489 : decode cL_law 489 = .ok (.iconst 0, 1) := by decide +kernel
theorem dL_law_490 : decode cL_law 490 = .ok (.ireturn, 1) := by decide +kernel
theorem dL_law_491 : decode cL_law 491 = .ok (.aload_n 1, 1) := by decide +kernel
theorem dL_law_492 : decode cL_law 492 = .ok (.aload_n 0, 1) := by decide +kernel
theorem dL_law_493 : decode cL_law 493 = .ok (.iload_n 3, 1) := by decide +kernel
theorem dL_law_494 : decode cL_law 494 = .ok (.iconst 1, 1) := by decide +kernel
theorem dL_law_495 : decode cL_law 495 = .ok (.iadd, 1) := by decide +kernel
theorem dL_law_496 : decode cL_law 496 = .ok (.iaload, 1) := by decide +kernel
theorem dL_law_497 : decode cL_law 497 = .ok (.invokevirtual 72, 3) := by decide +kernel
theorem dL_law_500 : decode cL_law 500 = .ok (.aload_n 2, 1) := by decide +kernel
theorem dL_law_501 : decode cL_law 501 = .ok (.aload_n 0, 1) := by decide +kernel
theorem dL_law_502 : decode cL_law 502 = .ok (.iload_n 3, 1) := by decide +kernel
theorem dL_law_503 : decode cL_law 503 = .ok (.iconst 1, 1) := by decide +kernel
theorem dL_law_504 : decode cL_law 504 = .ok (.iadd, 1) := by decide +kernel
theorem dL_law_505 : decode cL_law 505 = .ok (.iaload, 1) := by decide +kernel
theorem dL_law_506 : decode cL_law 506 = .ok (.invokevirtual 75, 3) := by decide +kernel
theorem dL_law_509 : decode cL_law 509 = .ok (.if_icmp .eq 331, 3) := by decide +kernel
theorem dL_law_512 : decode cL_law 512 = .ok (.iconst 0, 1) := by decide +kernel
theorem dL_law_513 : decode cL_law 513 = .ok (.ireturn, 1) := by decide +kernel
theorem dL_law_514 : decode cL_law 514 = .ok (.aload_n 1, 1) := by decide +kernel
theorem dL_law_515 : decode cL_law 515 = .ok (.aload_n 0, 1) := by decide +kernel
theorem dL_law_516 : decode cL_law 516 = .ok (.iload_n 3, 1) := by decide +kernel
theorem dL_law_517 : decode cL_law 517 = .ok (.iconst 1, 1) := by decide +kernel
theorem dL_law_518 : decode cL_law 518 = .ok (.iadd, 1) := by decide +kernel
theorem dL_law_519 : decode cL_law 519 = .ok (.iaload, 1) := by decide +kernel
theorem dL_law_520 : decode cL_law 520 = .ok (.aload_n 0, 1) := by decide +kernel
theorem dL_law_521 : decode cL_law 521 = .ok (.iload_n 3, 1) := by decide +kernel
theorem dL_law_522 : decode cL_law 522 = .ok (.iconst 2, 1) := by decide +kernel
theorem dL_law_523 : decode cL_law 523 = .ok (.iadd, 1) := by decide +kernel
theorem dL_law_524 : decode cL_law 524 = .ok (.iaload, 1) := by decide +kernel
theorem dL_law_525 : decode cL_law 525 = .ok (.invokevirtual 76, 3) := by decide +kernel
theorem dL_law_528 : decode cL_law 528 = .ok (.aload_n 2, 1) := by decide +kernel
theorem dL_law_529 : decode cL_law 529 = .ok (.aload_n 0, 1) := by decide +kernel
theorem dL_law_530 : decode cL_law 530 = .ok (.iload_n 3, 1) := by decide +kernel
theorem dL_law_531 : decode cL_law 531 = .ok (.iconst 1, 1) := by decide +kernel
theorem dL_law_532 : decode cL_law 532 = .ok (.iadd, 1) := by decide +kernel
theorem dL_law_533 : decode cL_law 533 = .ok (.iaload, 1) := by decide +kernel
theorem dL_law_534 : decode cL_law 534 = .ok (.aload_n 0, 1) := by decide +kernel
theorem dL_law_535 : decode cL_law 535 = .ok (.iload_n 3, 1) := by decide +kernel
theorem dL_law_536 : decode cL_law 536 = .ok (.iconst 2, 1) := by decide +kernel
theorem dL_law_537 : decode cL_law 537 = .ok (.iadd, 1) := by decide +kernel
theorem dL_law_538 : decode cL_law 538 = .ok (.iaload, 1) := by decide +kernel
theorem dL_law_539 : decode cL_law 539 = .ok (.invokevirtual 79, 3) := by decide +kernel
theorem dL_law_542 : decode cL_law 542 = .ok (.if_icmp .eq 298, 3) := by decide +kernel
theorem dL_law_545 : decode cL_law 545 = .ok (.iconst 0, 1) := by decide +kernel
theorem dL_law_546 : decode cL_law 546 = .ok (.ireturn, 1) := by decide +kernel
theorem dL_law_547 : decode cL_law 547 = .ok (.aload_n 1, 1) := by decide +kernel
theorem dL_law_548 : decode cL_law 548 = .ok (.invokevirtual 80, 3) := by decide +kernel
theorem dL_law_551 : decode cL_law 551 = .ok (.aload_n 2, 1) := by decide +kernel
theorem dL_law_552 : decode cL_law 552 = .ok (.invokevirtual 83, 3) := by decide +kernel
theorem dL_law_555 : decode cL_law 555 = .ok (.if_icmp .eq 285, 3) := by decide +kernel
theorem dL_law_558 : decode cL_law 558 = .ok (.iconst 0, 1) := by decide +kernel
theorem dL_law_559 : decode cL_law 559 = .ok (.ireturn, 1) := by decide +kernel
theorem dL_law_560 : decode cL_law 560 = .ok (.aload_n 1, 1) := by decide +kernel
theorem dL_law_561 : decode cL_law 561 = .ok (.aload_n 0, 1) := by decide +kernel
theorem dL_law_562 : decode cL_law 562 = .ok (.iload_n 3, 1) := by decide +kernel
theorem dL_law_563 : decode cL_law 563 = .ok (.iconst 1, 1) := by decide +kernel
theorem dL_law_564 : decode cL_law 564 = .ok (.iadd, 1) := by decide +kernel
theorem dL_law_565 : decode cL_law 565 = .ok (.iaload, 1) := by decide +kernel
theorem dL_law_566 : decode cL_law 566 = .ok (.aload_n 0, 1) := by decide +kernel
theorem dL_law_567 : decode cL_law 567 = .ok (.iload_n 3, 1) := by decide +kernel
theorem dL_law_568 : decode cL_law 568 = .ok (.iconst 2, 1) := by decide +kernel
theorem dL_law_569 : decode cL_law 569 = .ok (.iadd, 1) := by decide +kernel
theorem dL_law_570 : decode cL_law 570 = .ok (.iaload, 1) := by decide +kernel
theorem dL_law_571 : decode cL_law 571 = .ok (.invokevirtual 84, 3) := by decide +kernel
theorem dL_law_574 : decode cL_law 574 = .ok (.aload_n 2, 1) := by decide +kernel
theorem dL_law_575 : decode cL_law 575 = .ok (.aload_n 0, 1) := by decide +kernel
theorem dL_law_576 : decode cL_law 576 = .ok (.iload_n 3, 1) := by decide +kernel
theorem dL_law_577 : decode cL_law 577 = .ok (.iconst 1, 1) := by decide +kernel
theorem dL_law_578 : decode cL_law 578 = .ok (.iadd, 1) := by decide +kernel
theorem dL_law_579 : decode cL_law 579 = .ok (.iaload, 1) := by decide +kernel
theorem dL_law_580 : decode cL_law 580 = .ok (.aload_n 0, 1) := by decide +kernel
theorem dL_law_581 : decode cL_law 581 = .ok (.iload_n 3, 1) := by decide +kernel
theorem dL_law_582 : decode cL_law 582 = .ok (.iconst 2, 1) := by decide +kernel
theorem dL_law_583 : decode cL_law 583 = .ok (.iadd, 1) := by decide +kernel
theorem dL_law_584 : decode cL_law 584 = .ok (.iaload, 1) := by decide +kernel
theorem dL_law_585 : decode cL_law 585 = .ok (.invokevirtual 87, 3) := by decide +kernel
theorem dL_law_588 : decode cL_law 588 = .ok (.if_icmp .eq 252, 3) := by decide +kernel
theorem dL_law_591 : decode cL_law 591 = .ok (.iconst 0, 1) := by decide +kernel
theorem dL_law_592 : decode cL_law 592 = .ok (.ireturn, 1) := by decide +kernel
theorem dL_law_593 : decode cL_law 593 = .ok (.aload_n 1, 1) := by decide +kernel
theorem dL_law_594 : decode cL_law 594 = .ok (.aload_n 0, 1) := by decide +kernel
theorem dL_law_595 : decode cL_law 595 = .ok (.iload_n 3, 1) := by decide +kernel
theorem dL_law_596 : decode cL_law 596 = .ok (.iconst 1, 1) := by decide +kernel
theorem dL_law_597 : decode cL_law 597 = .ok (.iadd, 1) := by decide +kernel
theorem dL_law_598 : decode cL_law 598 = .ok (.iaload, 1) := by decide +kernel
theorem dL_law_599 : decode cL_law 599 = .ok (.aload_n 0, 1) := by decide +kernel
theorem dL_law_600 : decode cL_law 600 = .ok (.iload_n 3, 1) := by decide +kernel
theorem dL_law_601 : decode cL_law 601 = .ok (.iconst 2, 1) := by decide +kernel
theorem dL_law_602 : decode cL_law 602 = .ok (.iadd, 1) := by decide +kernel
theorem dL_law_603 : decode cL_law 603 = .ok (.iaload, 1) := by decide +kernel
theorem dL_law_604 : decode cL_law 604 = .ok (.aload_n 0, 1) := by decide +kernel
theorem dL_law_605 : decode cL_law 605 = .ok (.iload_n 3, 1) := by decide +kernel
theorem dL_law_606 : decode cL_law 606 = .ok (.iconst 3, 1) := by decide +kernel
theorem dL_law_607 : decode cL_law 607 = .ok (.iadd, 1) := by decide +kernel
theorem dL_law_608 : decode cL_law 608 = .ok (.iaload, 1) := by decide +kernel
theorem dL_law_609 : decode cL_law 609 = .ok (.invokevirtual 88, 3) := by decide +kernel
theorem dL_law_612 : decode cL_law 612 = .ok (.aload_n 2, 1) := by decide +kernel
theorem dL_law_613 : decode cL_law 613 = .ok (.aload_n 0, 1) := by decide +kernel
theorem dL_law_614 : decode cL_law 614 = .ok (.iload_n 3, 1) := by decide +kernel
theorem dL_law_615 : decode cL_law 615 = .ok (.iconst 1, 1) := by decide +kernel
theorem dL_law_616 : decode cL_law 616 = .ok (.iadd, 1) := by decide +kernel
theorem dL_law_617 : decode cL_law 617 = .ok (.iaload, 1) := by decide +kernel
theorem dL_law_618 : decode cL_law 618 = .ok (.aload_n 0, 1) := by decide +kernel
theorem dL_law_619 : decode cL_law 619 = .ok (.iload_n 3, 1) := by decide +kernel
theorem dL_law_620 : decode cL_law 620 = .ok (.iconst 2, 1) := by decide +kernel
theorem dL_law_621 : decode cL_law 621 = .ok (.iadd, 1) := by decide +kernel
theorem dL_law_622 : decode cL_law 622 = .ok (.iaload, 1) := by decide +kernel
theorem dL_law_623 : decode cL_law 623 = .ok (.aload_n 0, 1) := by decide +kernel
theorem dL_law_624 : decode cL_law 624 = .ok (.iload_n 3, 1) := by decide +kernel
theorem dL_law_625 : decode cL_law 625 = .ok (.iconst 3, 1) := by decide +kernel
theorem dL_law_626 : decode cL_law 626 = .ok (.iadd, 1) := by decide +kernel
theorem dL_law_627 : decode cL_law 627 = .ok (.iaload, 1) := by decide +kernel
theorem dL_law_628 : decode cL_law 628 = .ok (.invokevirtual 92, 3) := by decide +kernel
theorem dL_law_631 : decode cL_law 631 = .ok (.if_icmp .eq 209, 3) := by decide +kernel
theorem dL_law_634 : decode cL_law 634 = .ok (.iconst 0, 1) := by decide +kernel
theorem dL_law_635 : decode cL_law 635 = .ok (.ireturn, 1) := by decide +kernel
theorem dL_law_636 : decode cL_law 636 = .ok (.aload_n 1, 1) := by decide +kernel
theorem dL_law_637 : decode cL_law 637 = .ok (.aload_n 0, 1) := by decide +kernel
theorem dL_law_638 : decode cL_law 638 = .ok (.iload_n 3, 1) := by decide +kernel
theorem dL_law_639 : decode cL_law 639 = .ok (.iconst 1, 1) := by decide +kernel
theorem dL_law_640 : decode cL_law 640 = .ok (.iadd, 1) := by decide +kernel
theorem dL_law_641 : decode cL_law 641 = .ok (.iaload, 1) := by decide +kernel
theorem dL_law_642 : decode cL_law 642 = .ok (.invokevirtual 93, 3) := by decide +kernel
theorem dL_law_645 : decode cL_law 645 = .ok (.aload_n 2, 1) := by decide +kernel
theorem dL_law_646 : decode cL_law 646 = .ok (.aload_n 0, 1) := by decide +kernel
theorem dL_law_647 : decode cL_law 647 = .ok (.iload_n 3, 1) := by decide +kernel
theorem dL_law_648 : decode cL_law 648 = .ok (.iconst 1, 1) := by decide +kernel
theorem dL_law_649 : decode cL_law 649 = .ok (.iadd, 1) := by decide +kernel
theorem dL_law_650 : decode cL_law 650 = .ok (.iaload, 1) := by decide +kernel
theorem dL_law_651 : decode cL_law 651 = .ok (.invokevirtual 96, 3) := by decide +kernel
theorem dL_law_654 : decode cL_law 654 = .ok (.if_icmp .eq 186, 3) := by decide +kernel
theorem dL_law_657 : decode cL_law 657 = .ok (.iconst 0, 1) := by decide +kernel
theorem dL_law_658 : decode cL_law 658 = .ok (.ireturn, 1) := by decide +kernel
theorem dL_law_659 : decode cL_law 659 = .ok (.aload_n 1, 1) := by decide +kernel
theorem dL_law_660 : decode cL_law 660 = .ok (.aload_n 0, 1) := by decide +kernel
theorem dL_law_661 : decode cL_law 661 = .ok (.iload_n 3, 1) := by decide +kernel
theorem dL_law_662 : decode cL_law 662 = .ok (.iconst 1, 1) := by decide +kernel
theorem dL_law_663 : decode cL_law 663 = .ok (.iadd, 1) := by decide +kernel
theorem dL_law_664 : decode cL_law 664 = .ok (.iaload, 1) := by decide +kernel
theorem dL_law_665 : decode cL_law 665 = .ok (.invokevirtual 97, 3) := by decide +kernel
theorem dL_law_668 : decode cL_law 668 = .ok (.aload_n 2, 1) := by decide +kernel
theorem dL_law_669 : decode cL_law 669 = .ok (.aload_n 0, 1) := by decide +kernel
theorem dL_law_670 : decode cL_law 670 = .ok (.iload_n 3, 1) := by decide +kernel
theorem dL_law_671 : decode cL_law 671 = .ok (.iconst 1, 1) := by decide +kernel
theorem dL_law_672 : decode cL_law 672 = .ok (.iadd, 1) := by decide +kernel
theorem dL_law_673 : decode cL_law 673 = .ok (.iaload, 1) := by decide +kernel
theorem dL_law_674 : decode cL_law 674 = .ok (.invokevirtual 100, 3) := by decide +kernel
theorem dL_law_677 : decode cL_law 677 = .ok (.if_icmp .eq 163, 3) := by decide +kernel
theorem dL_law_680 : decode cL_law 680 = .ok (.iconst 0, 1) := by decide +kernel
theorem dL_law_681 : decode cL_law 681 = .ok (.ireturn, 1) := by decide +kernel
theorem dL_law_682 : decode cL_law 682 = .ok (.aload_n 1, 1) := by decide +kernel
theorem dL_law_683 : decode cL_law 683 = .ok (.aload_n 0, 1) := by decide +kernel
theorem dL_law_684 : decode cL_law 684 = .ok (.iload_n 3, 1) := by decide +kernel
theorem dL_law_685 : decode cL_law 685 = .ok (.iconst 1, 1) := by decide +kernel
theorem dL_law_686 : decode cL_law 686 = .ok (.iadd, 1) := by decide +kernel
theorem dL_law_687 : decode cL_law 687 = .ok (.iaload, 1) := by decide +kernel
theorem dL_law_688 : decode cL_law 688 = .ok (.invokevirtual 101, 3) := by decide +kernel
theorem dL_law_691 : decode cL_law 691 = .ok (.aload_n 2, 1) := by decide +kernel
theorem dL_law_692 : decode cL_law 692 = .ok (.aload_n 0, 1) := by decide +kernel
theorem dL_law_693 : decode cL_law 693 = .ok (.iload_n 3, 1) := by decide +kernel
theorem dL_law_694 : decode cL_law 694 = .ok (.iconst 1, 1) := by decide +kernel
theorem dL_law_695 : decode cL_law 695 = .ok (.iadd, 1) := by decide +kernel
theorem dL_law_696 : decode cL_law 696 = .ok (.iaload, 1) := by decide +kernel
theorem dL_law_697 : decode cL_law 697 = .ok (.invokevirtual 104, 3) := by decide +kernel
theorem dL_law_700 : decode cL_law 700 = .ok (.if_icmp .eq 140, 3) := by decide +kernel
theorem dL_law_703 : decode cL_law 703 = .ok (.iconst 0, 1) := by decide +kernel
theorem dL_law_704 : decode cL_law 704 = .ok (.ireturn, 1) := by decide +kernel
theorem dL_law_705 : decode cL_law 705 = .ok (.aload_n 1, 1) := by decide +kernel
theorem dL_law_706 : decode cL_law 706 = .ok (.aload_n 0, 1) := by decide +kernel
theorem dL_law_707 : decode cL_law 707 = .ok (.iload_n 3, 1) := by decide +kernel
theorem dL_law_708 : decode cL_law 708 = .ok (.iconst 1, 1) := by decide +kernel
theorem dL_law_709 : decode cL_law 709 = .ok (.iadd, 1) := by decide +kernel
theorem dL_law_710 : decode cL_law 710 = .ok (.iaload, 1) := by decide +kernel
