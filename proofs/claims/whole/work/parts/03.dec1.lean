theorem dX7_text_25 : decode cX7_text 25 = .ok (.aload_n 0, 1) := by decide +kernel
theorem dX7_text_26 : decode cX7_text 26 = .ok (.getfield 26, 3) := by decide +kernel
theorem dX7_text_29 : decode cX7_text 29 = .ok (.aload_n 0, 1) := by decide +kernel
theorem dX7_text_30 : decode cX7_text 30 = .ok (.getfield 33, 3) := by decide +kernel
theorem dX7_text_33 : decode cX7_text 33 = .ok (.getfield 100, 3) := by decide +kernel
theorem dX7_text_36 : decode cX7_text 36 = .ok (.aaload, 1) := by decide +kernel
theorem dX7_text_37 : decode cX7_text 37 = .ok (.invokevirtual 103, 3) := by decide +kernel
theorem dX7_text_40 : decode cX7_text 40 = .ok (.iconst 0, 1) := by decide +kernel
theorem dX7_text_41 : decode cX7_text 41 = .ok (.istore_n 1, 1) := by decide +kernel
theorem dX7_text_42 : decode cX7_text 42 = .ok (.iload_n 1, 1) := by decide +kernel
theorem dX7_text_43 : decode cX7_text 43 = .ok (.sipush 300, 3) := by decide +kernel
theorem dX7_text_46 : decode cX7_text 46 = .ok (.if_icmp .ge 26, 3) := by decide +kernel
theorem dX7_text_49 : decode cX7_text 49 = .ok (.aload_n 0, 1) := by decide +kernel
theorem dX7_text_50 : decode cX7_text 50 = .ok (.getfield 20, 3) := by decide +kernel
theorem dX7_text_53 : decode cX7_text 53 = .ok (.invokevirtual 107, 3) := by decide +kernel
theorem dX7_text_56 : decode cX7_text 56 = .ok (.ifCond .eq 16, 3) := by decide +kernel
theorem dX7_text_59 : decode cX7_text 59 = .ok (.aload_n 0, 1) := by decide +kernel
theorem dX7_text_60 : decode cX7_text 60 = .ok (.getfield 20, 3) := by decide +kernel
theorem dX7_text_63 : decode cX7_text 63 = .ok (.invokevirtual 111, 3) := by decide +kernel
theorem dX7_text_66 : decode cX7_text 66 = .ok (.iinc 1 1, 3) := by decide +kernel
theorem dX7_text_69 : decode cX7_text 69 = .ok (.goto (-27), 3) := by decide +kernel
theorem dX7_text_72 : decode cX7_text 72 = .ok (.aload_n 0, 1) := by decide +kernel
theorem dX7_text_73 : decode cX7_text 73 = .ok (.iconst 0, 1) := by decide +kernel
theorem dX7_text_74 : decode cX7_text 74 = .ok (.putfield 13, 3) := by decide +kernel
theorem dX7_text_77 : decode cX7_text 77 = .ok (.aload_n 0, 1) := by decide +kernel
theorem dX7_text_78 : decode cX7_text 78 = .ok (.getfield 20, 3) := by decide +kernel
theorem dX7_text_81 : decode cX7_text 81 = .ok (.getfield 114, 3) := by decide +kernel
theorem dX7_text_84 : decode cX7_text 84 = .ok (.ifCond .eq 5, 3) := by decide +kernel
theorem dX7_text_87 : decode cX7_text 87 = .ok (.iconst (-1), 1) := by decide +kernel
theorem dX7_text_88 : decode cX7_text 88 = .ok (.ireturn, 1) := by decide +kernel
theorem dX7_text_89 : decode cX7_text 89 = .ok (.aload_n 0, 1) := by decide +kernel
theorem dX7_text_90 : decode cX7_text 90 = .ok (.getfield 33, 3) := by decide +kernel
theorem dX7_text_93 : decode cX7_text 93 = .ok (.dup, 1) := by decide +kernel
theorem dX7_text_94 : decode cX7_text 94 = .ok (.getfield 100, 3) := by decide +kernel
theorem dX7_text_97 : decode cX7_text 97 = .ok (.iconst 1, 1) := by decide +kernel
theorem dX7_text_98 : decode cX7_text 98 = .ok (.iadd, 1) := by decide +kernel
theorem dX7_text_99 : decode cX7_text 99 = .ok (.putfield 100, 3) := by decide +kernel
theorem dX7_text_102 : decode cX7_text 102 = .ok (.aload_n 0, 1) := by decide +kernel
theorem dX7_text_103 : decode cX7_text 103 = .ok (.getfield 33, 3) := by decide +kernel
theorem dX7_text_106 : decode cX7_text 106 = .ok (.getfield 100, 3) := by decide +kernel
theorem dX7_text_109 : decode cX7_text 109 = .ok (.iconst 1, 1) := by decide +kernel
theorem dX7_text_110 : decode cX7_text 110 = .ok (.isub, 1) := by decide +kernel
theorem dX7_text_111 : decode cX7_text 111 = .ok (.ireturn, 1) := by decide +kernel
theorem dX7_fault_0 : decode cX7_fault 0 = .ok (.iload_n 1, 1) := by decide +kernel
theorem dX7_fault_1 : decode cX7_fault 1 = .ok (.ifCond .ne 11, 3) := by decide +kernel
theorem dX7_fault_4 : decode cX7_fault 4 = .ok (.aload_n 0, 1) := by decide +kernel
theorem dX7_fault_5 : decode cX7_fault 5 = .ok (.getfield 20, 3) := by decide +kernel
theorem dX7_fault_8 : decode cX7_fault 8 = .ok (.getfield 114, 3) := by decide +kernel
theorem dX7_fault_11 : decode cX7_fault 11 = .ok (.ireturn, 1) := by decide +kernel
theorem dX7_fault_12 : decode cX7_fault 12 = .ok (.iload_n 1, 1) := by decide +kernel
theorem dX7_fault_13 : decode cX7_fault 13 = .ok (.iconst 1, 1) := by decide +kernel
theorem dX7_fault_14 : decode cX7_fault 14 = .ok (.if_icmp .ne 13, 3) := by decide +kernel
theorem dX7_fault_17 : decode cX7_fault 17 = .ok (.aload_n 0, 1) := by decide +kernel
theorem dX7_fault_18 : decode cX7_fault 18 = .ok (.getfield 20, 3) := by decide +kernel
theorem dX7_fault_21 : decode cX7_fault 21 = .ok (.getfield 117, 3) := by decide +kernel
theorem dX7_fault_24 : decode cX7_fault 24 = .ok (.goto 4, 3) := by decide +kernel
theorem dX7_fault_27 : decode cX7_fault 27 = .ok (.iconst (-1), 1) := by decide +kernel
theorem dX7_fault_28 : decode cX7_fault 28 = .ok (.ireturn, 1) := by decide +kernel
theorem dX7_by_0 : decode cX7_by 0 = .ok (.iload_n 1, 1) := by decide +kernel
theorem dX7_by_1 : decode cX7_by 1 = .ok (.iconst (-1), 1) := by decide +kernel
theorem dX7_by_2 : decode cX7_by 2 = .ok (.if_icmp .eq 13, 3) := by decide +kernel
theorem dX7_by_5 : decode cX7_by 5 = .ok (.aload_n 0, 1) := by decide +kernel
theorem dX7_by_6 : decode cX7_by 6 = .ok (.iload_n 1, 1) := by decide +kernel
theorem dX7_by_7 : decode cX7_by 7 = .ok (.invokevirtual 120, 3) := by decide +kernel
theorem dX7_by_10 : decode cX7_by 10 = .ok (.ifCond .ne 5, 3) := by decide +kernel
theorem dX7_by_13 : decode cX7_by 13 = .ok (.iconst 0, 1) := by decide +kernel
theorem dX7_by_14 : decode cX7_by 14 = .ok (.ireturn, 1) := by decide +kernel
theorem dX7_by_15 : decode cX7_by 15 = .ok (.aload_n 0, 1) := by decide +kernel
theorem dX7_by_16 : decode cX7_by 16 = .ok (.getfield 33, 3) := by decide +kernel
theorem dX7_by_19 : decode cX7_by 19 = .ok (.iload_n 1, 1) := by decide +kernel
theorem dX7_by_20 : decode cX7_by 20 = .ok (.putfield 124, 3) := by decide +kernel
theorem dX7_by_23 : decode cX7_by 23 = .ok (.iconst 1, 1) := by decide +kernel
theorem dX7_by_24 : decode cX7_by 24 = .ok (.ireturn, 1) := by decide +kernel
theorem dX7_touch_0 : decode cX7_touch 0 = .ok (.aload_n 0, 1) := by decide +kernel
theorem dX7_touch_1 : decode cX7_touch 1 = .ok (.iconst 2, 1) := by decide +kernel
theorem dX7_touch_2 : decode cX7_touch 2 = .ok (.iload_n 1, 1) := by decide +kernel
theorem dX7_touch_3 : decode cX7_touch 3 = .ok (.iload_n 2, 1) := by decide +kernel
theorem dX7_touch_4 : decode cX7_touch 4 = .ok (.invokevirtual 127, 3) := by decide +kernel
theorem dX7_touch_7 : decode cX7_touch 7 = .ok (.ireturn, 1) := by decide +kernel
theorem dX7_put_0 : decode cX7_put 0 = .ok (.aload_n 0, 1) := by decide +kernel
theorem dX7_put_1 : decode cX7_put 1 = .ok (.iconst 3, 1) := by decide +kernel
theorem dX7_put_2 : decode cX7_put 2 = .ok (.iload_n 1, 1) := by decide +kernel
theorem dX7_put_3 : decode cX7_put 3 = .ok (.iload_n 2, 1) := by decide +kernel
theorem dX7_put_4 : decode cX7_put 4 = .ok (.invokevirtual 127, 3) := by decide +kernel
theorem dX7_put_7 : decode cX7_put 7 = .ok (.iconst (-1), 1) := by decide +kernel
theorem dX7_put_8 : decode cX7_put 8 = .ok (.if_icmp .eq 7, 3) := by decide +kernel
theorem dX7_put_11 : decode cX7_put 11 = .ok (.iconst 1, 1) := by decide +kernel
theorem dX7_put_12 : decode cX7_put 12 = .ok (.goto 4, 3) := by decide +kernel
theorem dX7_put_15 : decode cX7_put 15 = .ok (.iconst 0, 1) := by decide +kernel
theorem dX7_put_16 : decode cX7_put 16 = .ok (.ireturn, 1) := by decide +kernel
theorem dX7_swap_0 : decode cX7_swap 0 = .ok (.aload_n 0, 1) := by decide +kernel
theorem dX7_swap_1 : decode cX7_swap 1 = .ok (.iconst 5, 1) := by decide +kernel
theorem dX7_swap_2 : decode cX7_swap 2 = .ok (.iload_n 1, 1) := by decide +kernel
theorem dX7_swap_3 : decode cX7_swap 3 = .ok (.iload_n 2, 1) := by decide +kernel
theorem dX7_swap_4 : decode cX7_swap 4 = .ok (.invokevirtual 127, 3) := by decide +kernel
theorem dX7_swap_7 : decode cX7_swap 7 = .ok (.iconst (-1), 1) := by decide +kernel
theorem dX7_swap_8 : decode cX7_swap 8 = .ok (.if_icmp .eq 7, 3) := by decide +kernel
theorem dX7_swap_11 : decode cX7_swap 11 = .ok (.iconst 1, 1) := by decide +kernel
theorem dX7_swap_12 : decode cX7_swap 12 = .ok (.goto 4, 3) := by decide +kernel
theorem dX7_swap_15 : decode cX7_swap 15 = .ok (.iconst 0, 1) := by decide +kernel
theorem dX7_swap_16 : decode cX7_swap 16 = .ok (.ireturn, 1) := by decide +kernel
theorem dX7_polish_0 : decode cX7_polish 0 = .ok (.aload_n 0, 1) := by decide +kernel
theorem dX7_polish_1 : decode cX7_polish 1 = .ok (.bipush 6, 2) := by decide +kernel
theorem dX7_polish_3 : decode cX7_polish 3 = .ok (.iload_n 1, 1) := by decide +kernel
theorem dX7_polish_4 : decode cX7_polish 4 = .ok (.iconst (-1), 1) := by decide +kernel
theorem dX7_polish_5 : decode cX7_polish 5 = .ok (.invokevirtual 127, 3) := by decide +kernel
theorem dX7_polish_8 : decode cX7_polish 8 = .ok (.ireturn, 1) := by decide +kernel
theorem dX7_played_0 : decode cX7_played 0 = .ok (.aload_n 0, 1) := by decide +kernel
theorem dX7_played_1 : decode cX7_played 1 = .ok (.iload_n 1, 1) := by decide +kernel
theorem dX7_played_2 : decode cX7_played 2 = .ok (.invokevirtual 120, 3) := by decide +kernel
theorem dX7_played_5 : decode cX7_played 5 = .ok (.ifCond .ne 6, 3) := by decide +kernel
theorem dX7_played_8 : decode cX7_played 8 = .ok (.bipush (-2), 2) := by decide +kernel
theorem dX7_played_10 : decode cX7_played 10 = .ok (.ireturn, 1) := by decide +kernel
theorem dX7_played_11 : decode cX7_played 11 = .ok (.aload_n 0, 1) := by decide +kernel
theorem dX7_played_12 : decode cX7_played 12 = .ok (.getfield 26, 3) := by decide +kernel
theorem dX7_played_15 : decode cX7_played 15 = .ok (.iload_n 1, 1) := by decide +kernel
theorem dX7_played_16 : decode cX7_played 16 = .ok (.aaload, 1) := by decide +kernel
theorem dX7_played_17 : decode cX7_played 17 = .ok (.astore_n 2, 1) := by decide +kernel
theorem dX7_played_18 : decode cX7_played 18 = .ok (.iconst 0, 1) := by decide +kernel
theorem dX7_played_19 : decode cX7_played 19 = .ok (.istore_n 3, 1) := by decide +kernel
theorem dX7_played_20 : decode cX7_played 20 = .ok (.iload_n 3, 1) := by decide +kernel
theorem dX7_played_21 : decode cX7_played 21 = .ok (.aload_n 2, 1) := by decide +kernel
theorem dX7_played_22 : decode cX7_played 22 = .ok (.getfield 131, 3) := by decide +kernel
theorem dX7_played_25 : decode cX7_played 25 = .ok (.if_icmp .ge 45, 3) := by decide +kernel
theorem dX7_played_28 : decode cX7_played 28 = .ok (.aload_n 2, 1) := by decide +kernel
theorem dX7_played_29 : decode cX7_played 29 = .ok (.iload_n 3, 1) := by decide +kernel
theorem dX7_played_30 : decode cX7_played 30 = .ok (.invokevirtual 134, 3) := by decide +kernel
theorem dX7_played_33 : decode cX7_played 33 = .ok (.ifCond .eq 31, 3) := by decide +kernel
theorem dX7_played_36 : decode cX7_played 36 = .ok (.aload_n 0, 1) := by decide +kernel
theorem dX7_played_37 : decode cX7_played 37 = .ok (.aload_n 2, 1) := by decide +kernel
theorem dX7_played_38 : decode cX7_played 38 = .ok (.getfield 137, 3) := by decide +kernel
theorem dX7_played_41 : decode cX7_played 41 = .ok (.iload_n 3, 1) := by decide +kernel
theorem dX7_played_42 : decode cX7_played 42 = .ok (.iaload, 1) := by decide +kernel
theorem dX7_played_43 : decode cX7_played 43 = .ok (.aload_n 2, 1) := by decide +kernel
theorem dX7_played_44 : decode cX7_played 44 = .ok (.getfield 140, 3) := by decide +kernel
theorem dX7_played_47 : decode cX7_played 47 = .ok (.iload_n 3, 1) := by decide +kernel
theorem dX7_played_48 : decode cX7_played 48 = .ok (.iaload, 1) := by decide +kernel
theorem dX7_played_49 : decode cX7_played 49 = .ok (.aload_n 2, 1) := by decide +kernel
theorem dX7_played_50 : decode cX7_played 50 = .ok (.getfield 143, 3) := by decide +kernel
theorem dX7_played_53 : decode cX7_played 53 = .ok (.iload_n 3, 1) := by decide +kernel
theorem dX7_played_54 : decode cX7_played 54 = .ok (.iaload, 1) := by decide +kernel
theorem dX7_played_55 : decode cX7_played 55 = .ok (.invokevirtual 127, 3) := by decide +kernel
theorem dX7_played_58 : decode cX7_played 58 = .ok (.iconst (-1), 1) := by decide +kernel
theorem dX7_played_59 : decode cX7_played 59 = .ok (.if_icmp .ne 5, 3) := by decide +kernel
theorem dX7_played_62 : decode cX7_played 62 = .ok (.iload_n 3, 1) := by decide +kernel
theorem dX7_played_63 : decode cX7_played 63 = .ok (.ireturn, 1) := by decide +kernel
theorem dX7_played_64 : decode cX7_played 64 = .ok (.iinc 3 1, 3) := by decide +kernel
theorem dX7_played_67 : decode cX7_played 67 = .ok (.goto (-47), 3) := by decide +kernel
theorem dX7_played_70 : decode cX7_played 70 = .ok (.iconst (-1), 1) := by decide +kernel
theorem dX7_played_71 : decode cX7_played 71 = .ok (.ireturn, 1) := by decide +kernel
theorem dX7_cat_0 : decode cX7_cat 0 = .ok (.iload_n 1, 1) := by decide +kernel
theorem dX7_cat_1 : decode cX7_cat 1 = .ok (.ifCond .lt 32, 3) := by decide +kernel
theorem dX7_cat_4 : decode cX7_cat 4 = .ok (.iload_n 1, 1) := by decide +kernel
theorem dX7_cat_5 : decode cX7_cat 5 = .ok (.sipush 9999, 3) := by decide +kernel
theorem dX7_cat_8 : decode cX7_cat 8 = .ok (.if_icmp .gt 25, 3) := by decide +kernel
theorem dX7_cat_11 : decode cX7_cat 11 = .ok (.iload_n 2, 1) := by decide +kernel
theorem dX7_cat_12 : decode cX7_cat 12 = .ok (.iconst 1, 1) := by decide +kernel
theorem dX7_cat_13 : decode cX7_cat 13 = .ok (.if_icmp .lt 20, 3) := by decide +kernel
theorem dX7_cat_16 : decode cX7_cat 16 = .ok (.iload_n 2, 1) := by decide +kernel
theorem dX7_cat_17 : decode cX7_cat 17 = .ok (.bipush 40, 2) := by decide +kernel
theorem dX7_cat_19 : decode cX7_cat 19 = .ok (.if_icmp .gt 14, 3) := by decide +kernel
theorem dX7_cat_22 : decode cX7_cat 22 = .ok (.aload_n 0, 1) := by decide +kernel
theorem dX7_cat_23 : decode cX7_cat 23 = .ok (.getfield 33, 3) := by decide +kernel
theorem dX7_cat_26 : decode cX7_cat 26 = .ok (.getfield 87, 3) := by decide +kernel
theorem dX7_cat_29 : decode cX7_cat 29 = .ok (.iconst 1, 1) := by decide +kernel
theorem dX7_cat_30 : decode cX7_cat 30 = .ok (.if_icmp .ge 5, 3) := by decide +kernel
theorem dX7_cat_33 : decode cX7_cat 33 = .ok (.iconst (-1), 1) := by decide +kernel
theorem dX7_cat_34 : decode cX7_cat 34 = .ok (.ireturn, 1) := by decide +kernel
theorem dX7_cat_35 : decode cX7_cat 35 = .ok (.aload_n 0, 1) := by decide +kernel
theorem dX7_cat_36 : decode cX7_cat 36 = .ok (.getfield 33, 3) := by decide +kernel
theorem dX7_cat_39 : decode cX7_cat 39 = .ok (.getfield 146, 3) := by decide +kernel
theorem dX7_cat_42 : decode cX7_cat 42 = .ok (.aload_n 0, 1) := by decide +kernel
theorem dX7_cat_43 : decode cX7_cat 43 = .ok (.getfield 33, 3) := by decide +kernel
theorem dX7_cat_46 : decode cX7_cat 46 = .ok (.getfield 150, 3) := by decide +kernel
theorem dX7_cat_49 : decode cX7_cat 49 = .ok (.invokevirtual 153, 3) := by decide +kernel
theorem dX7_cat_52 : decode cX7_cat 52 = .ok (.iload_n 1, 1) := by decide +kernel
theorem dX7_cat_53 : decode cX7_cat 53 = .ok (.bipush 6, 2) := by decide +kernel
theorem dX7_cat_55 : decode cX7_cat 55 = .ok (.imul, 1) := by decide +kernel
theorem dX7_cat_56 : decode cX7_cat 56 = .ok (.iconst 1, 1) := by decide +kernel
theorem dX7_cat_57 : decode cX7_cat 57 = .ok (.iadd, 1) := by decide +kernel
theorem dX7_cat_58 : decode cX7_cat 58 = .ok (.istore_n 3, 1) := by decide +kernel
theorem dX7_cat_59 : decode cX7_cat 59 = .ok (.iconst 0, 1) := by decide +kernel
theorem dX7_cat_60 : decode cX7_cat 60 = .ok (.istore 4, 2) := by decide +kernel
theorem dX7_cat_62 : decode cX7_cat 62 = .ok (.iconst 0, 1) := by decide +kernel
theorem dX7_cat_63 : decode cX7_cat 63 = .ok (.istore 5, 2) := by decide +kernel
theorem dX7_cat_65 : decode cX7_cat 65 = .ok (.iload 5, 2) := by decide +kernel
theorem dX7_cat_67 : decode cX7_cat 67 = .ok (.iload_n 2, 1) := by decide +kernel
theorem dX7_cat_68 : decode cX7_cat 68 = .ok (.if_icmp .ge 65, 3) := by decide +kernel
theorem dX7_cat_71 : decode cX7_cat 71 = .ok (.iload_n 3, 1) := by decide +kernel
theorem dX7_cat_72 : decode cX7_cat 72 = .ok (.aload_n 0, 1) := by decide +kernel
theorem dX7_cat_73 : decode cX7_cat 73 = .ok (.getfield 33, 3) := by decide +kernel
theorem dX7_cat_76 : decode cX7_cat 76 = .ok (.getfield 87, 3) := by decide +kernel
theorem dX7_cat_79 : decode cX7_cat 79 = .ok (.irem, 1) := by decide +kernel
theorem dX7_cat_80 : decode cX7_cat 80 = .ok (.istore 6, 2) := by decide +kernel
theorem dX7_cat_82 : decode cX7_cat 82 = .ok (.iload_n 3, 1) := by decide +kernel
theorem dX7_cat_83 : decode cX7_cat 83 = .ok (.invokestatic 159, 3) := by decide +kernel
theorem dX7_cat_86 : decode cX7_cat 86 = .ok (.istore_n 3, 1) := by decide +kernel
theorem dX7_cat_87 : decode cX7_cat 87 = .ok (.iload_n 3, 1) := by decide +kernel
theorem dX7_cat_88 : decode cX7_cat 88 = .ok (.aload_n 0, 1) := by decide +kernel
theorem dX7_cat_89 : decode cX7_cat 89 = .ok (.getfield 33, 3) := by decide +kernel
theorem dX7_cat_92 : decode cX7_cat 92 = .ok (.getfield 87, 3) := by decide +kernel
theorem dX7_cat_95 : decode cX7_cat 95 = .ok (.irem, 1) := by decide +kernel
theorem dX7_cat_96 : decode cX7_cat 96 = .ok (.istore 7, 2) := by decide +kernel
theorem dX7_cat_98 : decode cX7_cat 98 = .ok (.iload_n 3, 1) := by decide +kernel
theorem dX7_cat_99 : decode cX7_cat 99 = .ok (.invokestatic 159, 3) := by decide +kernel
theorem dX7_cat_102 : decode cX7_cat 102 = .ok (.istore_n 3, 1) := by decide +kernel
theorem dX7_cat_103 : decode cX7_cat 103 = .ok (.iload 6, 2) := by decide +kernel
theorem dX7_cat_105 : decode cX7_cat 105 = .ok (.iload 7, 2) := by decide +kernel
theorem dX7_cat_107 : decode cX7_cat 107 = .ok (.if_icmp .eq 20, 3) := by decide +kernel
theorem dX7_cat_110 : decode cX7_cat 110 = .ok (.aload_n 0, 1) := by decide +kernel
theorem dX7_cat_111 : decode cX7_cat 111 = .ok (.getfield 33, 3) := by decide +kernel
theorem dX7_cat_114 : decode cX7_cat 114 = .ok (.getfield 150, 3) := by decide +kernel
theorem dX7_cat_117 : decode cX7_cat 117 = .ok (.iload 6, 2) := by decide +kernel
theorem dX7_cat_119 : decode cX7_cat 119 = .ok (.iload 7, 2) := by decide +kernel
theorem dX7_cat_121 : decode cX7_cat 121 = .ok (.invokevirtual 163, 3) := by decide +kernel
theorem dX7_cat_124 : decode cX7_cat 124 = .ok (.iinc 4 1, 3) := by decide +kernel
theorem dX7_cat_127 : decode cX7_cat 127 = .ok (.iinc 5 1, 3) := by decide +kernel
theorem dX7_cat_130 : decode cX7_cat 130 = .ok (.goto (-65), 3) := by decide +kernel
theorem dX7_cat_133 : decode cX7_cat 133 = .ok (.iload 4, 2) := by decide +kernel
theorem dX7_cat_135 : decode cX7_cat 135 = .ok (.ireturn, 1) := by decide +kernel
theorem dX7_undo_0 : decode cX7_undo 0 = .ok (.aload_n 0, 1) := by decide +kernel
theorem dX7_undo_1 : decode cX7_undo 1 = .ok (.getfield 33, 3) := by decide +kernel
theorem dX7_undo_4 : decode cX7_undo 4 = .ok (.getfield 146, 3) := by decide +kernel
theorem dX7_undo_7 : decode cX7_undo 7 = .ok (.aload_n 0, 1) := by decide +kernel
theorem dX7_undo_8 : decode cX7_undo 8 = .ok (.getfield 33, 3) := by decide +kernel
theorem dX7_undo_11 : decode cX7_undo 11 = .ok (.getfield 150, 3) := by decide +kernel
theorem dX7_undo_14 : decode cX7_undo 14 = .ok (.invokevirtual 167, 3) := by decide +kernel
theorem dX7_undo_17 : decode cX7_undo 17 = .ok (.ifCond .eq 16, 3) := by decide +kernel
theorem dX7_undo_20 : decode cX7_undo 20 = .ok (.aload_n 0, 1) := by decide +kernel
theorem dX7_undo_21 : decode cX7_undo 21 = .ok (.getfield 33, 3) := by decide +kernel
theorem dX7_undo_24 : decode cX7_undo 24 = .ok (.getfield 146, 3) := by decide +kernel
theorem dX7_undo_27 : decode cX7_undo 27 = .ok (.getfield 171, 3) := by decide +kernel
theorem dX7_undo_30 : decode cX7_undo 30 = .ok (.goto 4, 3) := by decide +kernel
theorem dX7_undo_33 : decode cX7_undo 33 = .ok (.iconst (-1), 1) := by decide +kernel
theorem dX7_undo_34 : decode cX7_undo 34 = .ok (.ireturn, 1) := by decide +kernel
theorem dX7_of_0 : decode cX7_of 0 = .ok (.aload_n 0, 1) := by decide +kernel
theorem dX7_of_1 : decode cX7_of 1 = .ok (.iload_n 1, 1) := by decide +kernel
theorem dX7_of_2 : decode cX7_of 2 = .ok (.invokevirtual 174, 3) := by decide +kernel
theorem dX7_of_5 : decode cX7_of 5 = .ok (.ifCond .ne 6, 3) := by decide +kernel
theorem dX7_of_8 : decode cX7_of 8 = .ok (.bipush (-2), 2) := by decide +kernel
theorem dX7_of_10 : decode cX7_of 10 = .ok (.ireturn, 1) := by decide +kernel
theorem dX7_of_11 : decode cX7_of 11 = .ok (.iload_n 2, 1) := by decide +kernel
theorem dX7_of_12 : decode cX7_of 12 = .ok (.ifCond .lt 25, 3) := by decide +kernel
theorem dX7_of_15 : decode cX7_of 15 = .ok (.iload_n 2, 1) := by decide +kernel
theorem dX7_of_16 : decode cX7_of 16 = .ok (.iconst 4, 1) := by decide +kernel
theorem dX7_of_17 : decode cX7_of 17 = .ok (.if_icmp .ge 20, 3) := by decide +kernel
theorem dX7_of_20 : decode cX7_of 20 = .ok (.aload_n 0, 1) := by decide +kernel
theorem dX7_of_21 : decode cX7_of 21 = .ok (.getfield 33, 3) := by decide +kernel
theorem dX7_of_24 : decode cX7_of 24 = .ok (.getfield 150, 3) := by decide +kernel
theorem dX7_of_27 : decode cX7_of 27 = .ok (.getfield 177, 3) := by decide +kernel
theorem dX7_of_30 : decode cX7_of 30 = .ok (.iload_n 1, 1) := by decide +kernel
theorem dX7_of_31 : decode cX7_of 31 = .ok (.iaload, 1) := by decide +kernel
theorem dX7_of_32 : decode cX7_of 32 = .ok (.iload_n 2, 1) := by decide +kernel
theorem dX7_of_33 : decode cX7_of 33 = .ok (.invokestatic 180, 3) := by decide +kernel
theorem dX7_of_36 : decode cX7_of 36 = .ok (.ireturn, 1) := by decide +kernel
theorem dX7_of_37 : decode cX7_of 37 = .ok (.iload_n 2, 1) := by decide +kernel
theorem dX7_of_38 : decode cX7_of 38 = .ok (.tableswitch 86 4 8 #[34, 47, 60, 70, 80], 34) := by decide +kernel
theorem dX7_of_72 : decode cX7_of 72 = .ok (.aload_n 0, 1) := by decide +kernel
theorem dX7_of_73 : decode cX7_of 73 = .ok (.getfield 33, 3) := by decide +kernel
theorem dX7_of_76 : decode cX7_of 76 = .ok (.getfield 150, 3) := by decide +kernel
theorem dX7_of_79 : decode cX7_of 79 = .ok (.getfield 183, 3) := by decide +kernel
theorem dX7_of_82 : decode cX7_of 82 = .ok (.iload_n 1, 1) := by decide +kernel
theorem dX7_of_83 : decode cX7_of 83 = .ok (.iaload, 1) := by decide +kernel
theorem dX7_of_84 : decode cX7_of 84 = .ok (.ireturn, 1) := by decide +kernel
theorem dX7_of_85 : decode cX7_of 85 = .ok (.aload_n 0, 1) := by decide +kernel
theorem dX7_of_86 : decode cX7_of 86 = .ok (.getfield 33, 3) := by decide +kernel
theorem dX7_of_89 : decode cX7_of 89 = .ok (.getfield 150, 3) := by decide +kernel
theorem dX7_of_92 : decode cX7_of 92 = .ok (.getfield 186, 3) := by decide +kernel
theorem dX7_of_95 : decode cX7_of 95 = .ok (.iload_n 1, 1) := by decide +kernel
theorem dX7_of_96 : decode cX7_of 96 = .ok (.iaload, 1) := by decide +kernel
theorem dX7_of_97 : decode cX7_of 97 = .ok (.ireturn, 1) := by decide +kernel
theorem dX7_of_98 : decode cX7_of 98 = .ok (.aload_n 0, 1) := by decide +kernel
theorem dX7_of_99 : decode cX7_of 99 = .ok (.getfield 33, 3) := by decide +kernel
theorem dX7_of_102 : decode cX7_of 102 = .ok (.getfield 90, 3) := by decide +kernel
theorem dX7_of_105 : decode cX7_of 105 = .ok (.iload_n 1, 1) := by decide +kernel
theorem dX7_of_106 : decode cX7_of 106 = .ok (.iaload, 1) := by decide +kernel
theorem dX7_of_107 : decode cX7_of 107 = .ok (.ireturn, 1) := by decide +kernel
theorem dX7_of_108 : decode cX7_of 108 = .ok (.aload_n 0, 1) := by decide +kernel
theorem dX7_of_109 : decode cX7_of 109 = .ok (.getfield 33, 3) := by decide +kernel
theorem dX7_of_112 : decode cX7_of 112 = .ok (.getfield 93, 3) := by decide +kernel
theorem dX7_of_115 : decode cX7_of 115 = .ok (.iload_n 1, 1) := by decide +kernel
theorem dX7_of_116 : decode cX7_of 116 = .ok (.iaload, 1) := by decide +kernel
theorem dX7_of_117 : decode cX7_of 117 = .ok (.ireturn, 1) := by decide +kernel
theorem dX7_of_118 : decode cX7_of 118 = .ok (.aload_n 0, 1) := by decide +kernel
theorem dX7_of_119 : decode cX7_of 119 = .ok (.iload_n 1, 1) := by decide +kernel
theorem dX7_of_120 : decode cX7_of 120 = .ok (.invokevirtual 189, 3) := by decide +kernel
theorem dX7_of_123 : decode cX7_of 123 = .ok (.ireturn, 1) := by decide +kernel
theorem dX7_of_124 : decode cX7_of 124 = .ok (.bipush (-2), 2) := by decide +kernel
theorem dX7_of_126 : decode cX7_of 126 = .ok (.ireturn, 1) := by decide +kernel
theorem dX7_told_0 : decode cX7_told 0 = .ok (.aload_n 0, 1) := by decide +kernel
theorem dX7_told_1 : decode cX7_told 1 = .ok (.iload_n 1, 1) := by decide +kernel
theorem dX7_told_2 : decode cX7_told 2 = .ok (.invokevirtual 120, 3) := by decide +kernel
theorem dX7_told_5 : decode cX7_told 5 = .ok (.ifCond .eq 20, 3) := by decide +kernel
theorem dX7_told_8 : decode cX7_told 8 = .ok (.aload_n 0, 1) := by decide +kernel
theorem dX7_told_9 : decode cX7_told 9 = .ok (.iload_n 2, 1) := by decide +kernel
theorem dX7_told_10 : decode cX7_told 10 = .ok (.invokevirtual 174, 3) := by decide +kernel
theorem dX7_told_13 : decode cX7_told 13 = .ok (.ifCond .eq 12, 3) := by decide +kernel
theorem dX7_told_16 : decode cX7_told 16 = .ok (.iload_n 3, 1) := by decide +kernel
theorem dX7_told_17 : decode cX7_told 17 = .ok (.ifCond .lt 8, 3) := by decide +kernel
theorem dX7_told_20 : decode cX7_told 20 = .ok (.iload_n 3, 1) := by decide +kernel
theorem dX7_told_21 : decode cX7_told 21 = .ok (.iconst 4, 1) := by decide +kernel
theorem dX7_told_22 : decode cX7_told 22 = .ok (.if_icmp .lt 6, 3) := by decide +kernel
theorem dX7_told_25 : decode cX7_told 25 = .ok (.bipush (-2), 2) := by decide +kernel
theorem dX7_told_27 : decode cX7_told 27 = .ok (.ireturn, 1) := by decide +kernel
theorem dX7_told_28 : decode cX7_told 28 = .ok (.aload_n 0, 1) := by decide +kernel
theorem dX7_told_29 : decode cX7_told 29 = .ok (.getfield 43, 3) := by decide +kernel
theorem dX7_told_32 : decode cX7_told 32 = .ok (.aload_n 0, 1) := by decide +kernel
theorem dX7_told_33 : decode cX7_told 33 = .ok (.getfield 33, 3) := by decide +kernel
theorem dX7_told_36 : decode cX7_told 36 = .ok (.getfield 150, 3) := by decide +kernel
theorem dX7_told_39 : decode cX7_told 39 = .ok (.invokevirtual 192, 3) := by decide +kernel
theorem dX7_told_42 : decode cX7_told 42 = .ok (.aload_n 0, 1) := by decide +kernel
theorem dX7_told_43 : decode cX7_told 43 = .ok (.aload_n 0, 1) := by decide +kernel
theorem dX7_told_44 : decode cX7_told 44 = .ok (.getfield 26, 3) := by decide +kernel
theorem dX7_told_47 : decode cX7_told 47 = .ok (.iload_n 1, 1) := by decide +kernel
theorem dX7_told_48 : decode cX7_told 48 = .ok (.aaload, 1) := by decide +kernel
theorem dX7_told_49 : decode cX7_told 49 = .ok (.invokevirtual 195, 3) := by decide +kernel
theorem dX7_told_52 : decode cX7_told 52 = .ok (.aload_n 0, 1) := by decide +kernel
theorem dX7_told_53 : decode cX7_told 53 = .ok (.getfield 43, 3) := by decide +kernel
theorem dX7_told_56 : decode cX7_told 56 = .ok (.getfield 177, 3) := by decide +kernel
theorem dX7_told_59 : decode cX7_told 59 = .ok (.iload_n 2, 1) := by decide +kernel
theorem dX7_told_60 : decode cX7_told 60 = .ok (.iaload, 1) := by decide +kernel
theorem dX7_told_61 : decode cX7_told 61 = .ok (.iload_n 3, 1) := by decide +kernel
theorem dX7_told_62 : decode cX7_told 62 = .ok (.invokestatic 180, 3) := by decide +kernel
theorem dX7_told_65 : decode cX7_told 65 = .ok (.ireturn, 1) := by decide +kernel
theorem dX7_verdict_0 : decode cX7_verdict 0 = .ok (.iload_n 1, 1) := by decide +kernel
theorem dX7_verdict_1 : decode cX7_verdict 1 = .ok (.ifCond .lt 16, 3) := by decide +kernel
theorem dX7_verdict_4 : decode cX7_verdict 4 = .ok (.iload_n 1, 1) := by decide +kernel
theorem dX7_verdict_5 : decode cX7_verdict 5 = .ok (.iconst 1, 1) := by decide +kernel
theorem dX7_verdict_6 : decode cX7_verdict 6 = .ok (.aload_n 0, 1) := by decide +kernel
theorem dX7_verdict_7 : decode cX7_verdict 7 = .ok (.getfield 33, 3) := by decide +kernel
theorem dX7_verdict_10 : decode cX7_verdict 10 = .ok (.getfield 100, 3) := by decide +kernel
theorem dX7_verdict_13 : decode cX7_verdict 13 = .ok (.ishl, 1) := by decide +kernel
theorem dX7_verdict_14 : decode cX7_verdict 14 = .ok (.if_icmp .lt 5, 3) := by decide +kernel
theorem dX7_verdict_17 : decode cX7_verdict 17 = .ok (.iconst (-1), 1) := by decide +kernel
theorem dX7_verdict_18 : decode cX7_verdict 18 = .ok (.ireturn, 1) := by decide +kernel
theorem dX7_verdict_19 : decode cX7_verdict 19 = .ok (.iload_n 1, 1) := by decide +kernel
theorem dX7_verdict_20 : decode cX7_verdict 20 = .ok (.invokestatic 199, 3) := by decide +kernel
theorem dX7_verdict_23 : decode cX7_verdict 23 = .ok (.iconst 2, 1) := by decide +kernel
theorem dX7_verdict_24 : decode cX7_verdict 24 = .ok (.if_icmp .ge 5, 3) := by decide +kernel
theorem dX7_verdict_27 : decode cX7_verdict 27 = .ok (.iconst 0, 1) := by decide +kernel
theorem dX7_verdict_28 : decode cX7_verdict 28 = .ok (.ireturn, 1) := by decide +kernel
theorem dX7_verdict_29 : decode cX7_verdict 29 = .ok (.aload_n 0, 1) := by decide +kernel
theorem dX7_verdict_30 : decode cX7_verdict 30 = .ok (.iload_n 1, 1) := by decide +kernel
theorem dX7_verdict_31 : decode cX7_verdict 31 = .ok (.invokevirtual 204, 3) := by decide +kernel
theorem dX7_verdict_34 : decode cX7_verdict 34 = .ok (.iconst 1, 1) := by decide +kernel
theorem dX7_verdict_35 : decode cX7_verdict 35 = .ok (.aload_n 0, 1) := by decide +kernel
theorem dX7_verdict_36 : decode cX7_verdict 36 = .ok (.getfield 33, 3) := by decide +kernel
theorem dX7_verdict_39 : decode cX7_verdict 39 = .ok (.getfield 87, 3) := by decide +kernel
theorem dX7_verdict_42 : decode cX7_verdict 42 = .ok (.ishl, 1) := by decide +kernel
theorem dX7_verdict_43 : decode cX7_verdict 43 = .ok (.iconst 1, 1) := by decide +kernel
theorem dX7_verdict_44 : decode cX7_verdict 44 = .ok (.isub, 1) := by decide +kernel
theorem dX7_verdict_45 : decode cX7_verdict 45 = .ok (.istore_n 2, 1) := by decide +kernel
theorem dX7_verdict_46 : decode cX7_verdict 46 = .ok (.aload_n 0, 1) := by decide +kernel
theorem dX7_verdict_47 : decode cX7_verdict 47 = .ok (.iload_n 2, 1) := by decide +kernel
theorem dX7_verdict_48 : decode cX7_verdict 48 = .ok (.iload_n 1, 1) := by decide +kernel
theorem dX7_verdict_49 : decode cX7_verdict 49 = .ok (.invokevirtual 207, 3) := by decide +kernel
theorem dX7_verdict_52 : decode cX7_verdict 52 = .ok (.ifCond .ne 5, 3) := by decide +kernel
theorem dX7_verdict_55 : decode cX7_verdict 55 = .ok (.iconst (-1), 1) := by decide +kernel
theorem dX7_verdict_56 : decode cX7_verdict 56 = .ok (.ireturn, 1) := by decide +kernel
theorem dX7_verdict_57 : decode cX7_verdict 57 = .ok (.iconst 0, 1) := by decide +kernel
theorem dX7_verdict_58 : decode cX7_verdict 58 = .ok (.istore_n 3, 1) := by decide +kernel
theorem dX7_verdict_59 : decode cX7_verdict 59 = .ok (.iload_n 3, 1) := by decide +kernel
theorem dX7_verdict_60 : decode cX7_verdict 60 = .ok (.aload_n 0, 1) := by decide +kernel
theorem dX7_verdict_61 : decode cX7_verdict 61 = .ok (.getfield 33, 3) := by decide +kernel
theorem dX7_verdict_64 : decode cX7_verdict 64 = .ok (.getfield 87, 3) := by decide +kernel
theorem dX7_verdict_67 : decode cX7_verdict 67 = .ok (.if_icmp .ge 20, 3) := by decide +kernel
theorem dX7_verdict_70 : decode cX7_verdict 70 = .ok (.aload_n 0, 1) := by decide +kernel
theorem dX7_verdict_71 : decode cX7_verdict 71 = .ok (.getfield 65, 3) := by decide +kernel
theorem dX7_verdict_74 : decode cX7_verdict 74 = .ok (.iload_n 3, 1) := by decide +kernel
theorem dX7_verdict_75 : decode cX7_verdict 75 = .ok (.aload_n 0, 1) := by decide +kernel
theorem dX7_verdict_76 : decode cX7_verdict 76 = .ok (.iload_n 3, 1) := by decide +kernel
theorem dX7_verdict_77 : decode cX7_verdict 77 = .ok (.invokevirtual 189, 3) := by decide +kernel
theorem dX7_verdict_80 : decode cX7_verdict 80 = .ok (.iastore, 1) := by decide +kernel
theorem dX7_verdict_81 : decode cX7_verdict 81 = .ok (.iinc 3 1, 3) := by decide +kernel
theorem dX7_verdict_84 : decode cX7_verdict 84 = .ok (.goto (-25), 3) := by decide +kernel
theorem dX7_verdict_87 : decode cX7_verdict 87 = .ok (.iload_n 2, 1) := by decide +kernel
theorem dX7_verdict_88 : decode cX7_verdict 88 = .ok (.istore_n 3, 1) := by decide +kernel
theorem dX7_verdict_89 : decode cX7_verdict 89 = .ok (.iload_n 2, 1) := by decide +kernel
theorem dX7_verdict_90 : decode cX7_verdict 90 = .ok (.iconst 1, 1) := by decide +kernel
theorem dX7_verdict_91 : decode cX7_verdict 91 = .ok (.isub, 1) := by decide +kernel
theorem dX7_verdict_92 : decode cX7_verdict 92 = .ok (.istore 4, 2) := by decide +kernel
theorem dX7_verdict_94 : decode cX7_verdict 94 = .ok (.iload 4, 2) := by decide +kernel
theorem dX7_verdict_96 : decode cX7_verdict 96 = .ok (.ifCond .le 32, 3) := by decide +kernel
theorem dX7_verdict_99 : decode cX7_verdict 99 = .ok (.aload_n 0, 1) := by decide +kernel
theorem dX7_verdict_100 : decode cX7_verdict 100 = .ok (.iload 4, 2) := by decide +kernel
theorem dX7_verdict_102 : decode cX7_verdict 102 = .ok (.iload_n 3, 1) := by decide +kernel
theorem dX7_verdict_103 : decode cX7_verdict 103 = .ok (.invokevirtual 211, 3) := by decide +kernel
theorem dX7_verdict_106 : decode cX7_verdict 106 = .ok (.ifCond .eq 16, 3) := by decide +kernel
theorem dX7_verdict_109 : decode cX7_verdict 109 = .ok (.aload_n 0, 1) := by decide +kernel
theorem dX7_verdict_110 : decode cX7_verdict 110 = .ok (.iload 4, 2) := by decide +kernel
theorem dX7_verdict_112 : decode cX7_verdict 112 = .ok (.iload_n 1, 1) := by decide +kernel
theorem dX7_verdict_113 : decode cX7_verdict 113 = .ok (.invokevirtual 207, 3) := by decide +kernel
theorem dX7_verdict_116 : decode cX7_verdict 116 = .ok (.ifCond .eq 6, 3) := by decide +kernel
theorem dX7_verdict_119 : decode cX7_verdict 119 = .ok (.iload 4, 2) := by decide +kernel
theorem dX7_verdict_121 : decode cX7_verdict 121 = .ok (.istore_n 3, 1) := by decide +kernel
theorem dX7_verdict_122 : decode cX7_verdict 122 = .ok (.iinc 4 (-1), 3) := by decide +kernel
theorem dX7_verdict_125 : decode cX7_verdict 125 = .ok (.goto (-31), 3) := by decide +kernel
theorem dX7_verdict_128 : decode cX7_verdict 128 = .ok (.iload_n 3, 1) := by decide +kernel
theorem dX7_verdict_129 : decode cX7_verdict 129 = .ok (.ireturn, 1) := by decide +kernel
theorem dX7_quarrel_0 : decode cX7_quarrel 0 = .ok (.aload_n 0, 1) := by decide +kernel
theorem dX7_quarrel_1 : decode cX7_quarrel 1 = .ok (.iload_n 1, 1) := by decide +kernel
theorem dX7_quarrel_2 : decode cX7_quarrel 2 = .ok (.invokevirtual 214, 3) := by decide +kernel
theorem dX7_quarrel_5 : decode cX7_quarrel 5 = .ok (.ifCond .ne 5, 3) := by decide +kernel
theorem dX7_quarrel_8 : decode cX7_quarrel 8 = .ok (.iconst (-1), 1) := by decide +kernel
theorem dX7_quarrel_9 : decode cX7_quarrel 9 = .ok (.ireturn, 1) := by decide +kernel
theorem dX7_quarrel_10 : decode cX7_quarrel 10 = .ok (.iconst (-1), 1) := by decide +kernel
theorem dX7_quarrel_11 : decode cX7_quarrel 11 = .ok (.istore_n 2, 1) := by decide +kernel
theorem dX7_quarrel_12 : decode cX7_quarrel 12 = .ok (.iconst 0, 1) := by decide +kernel
theorem dX7_quarrel_13 : decode cX7_quarrel 13 = .ok (.istore_n 3, 1) := by decide +kernel
theorem dX7_quarrel_14 : decode cX7_quarrel 14 = .ok (.iload_n 3, 1) := by decide +kernel
theorem dX7_quarrel_15 : decode cX7_quarrel 15 = .ok (.aload_n 0, 1) := by decide +kernel
theorem dX7_quarrel_16 : decode cX7_quarrel 16 = .ok (.getfield 33, 3) := by decide +kernel
theorem dX7_quarrel_19 : decode cX7_quarrel 19 = .ok (.getfield 87, 3) := by decide +kernel
theorem dX7_quarrel_22 : decode cX7_quarrel 22 = .ok (.if_icmp .ge 60, 3) := by decide +kernel
theorem dX7_quarrel_25 : decode cX7_quarrel 25 = .ok (.aload_n 0, 1) := by decide +kernel
theorem dX7_quarrel_26 : decode cX7_quarrel 26 = .ok (.getfield 33, 3) := by decide +kernel
theorem dX7_quarrel_29 : decode cX7_quarrel 29 = .ok (.getfield 150, 3) := by decide +kernel
theorem dX7_quarrel_32 : decode cX7_quarrel 32 = .ok (.getfield 183, 3) := by decide +kernel
theorem dX7_quarrel_35 : decode cX7_quarrel 35 = .ok (.iload_n 3, 1) := by decide +kernel
theorem dX7_quarrel_36 : decode cX7_quarrel 36 = .ok (.iaload, 1) := by decide +kernel
theorem dX7_quarrel_37 : decode cX7_quarrel 37 = .ok (.iload_n 1, 1) := by decide +kernel
theorem dX7_quarrel_38 : decode cX7_quarrel 38 = .ok (.if_icmp .ne 38, 3) := by decide +kernel
theorem dX7_quarrel_41 : decode cX7_quarrel 41 = .ok (.iload_n 2, 1) := by decide +kernel
theorem dX7_quarrel_42 : decode cX7_quarrel 42 = .ok (.iconst (-1), 1) := by decide +kernel
theorem dX7_quarrel_43 : decode cX7_quarrel 43 = .ok (.if_icmp .eq 31, 3) := by decide +kernel
theorem dX7_quarrel_46 : decode cX7_quarrel 46 = .ok (.aload_n 0, 1) := by decide +kernel
theorem dX7_quarrel_47 : decode cX7_quarrel 47 = .ok (.getfield 33, 3) := by decide +kernel
theorem dX7_quarrel_50 : decode cX7_quarrel 50 = .ok (.getfield 150, 3) := by decide +kernel
theorem dX7_quarrel_53 : decode cX7_quarrel 53 = .ok (.getfield 177, 3) := by decide +kernel
theorem dX7_quarrel_56 : decode cX7_quarrel 56 = .ok (.iload_n 2, 1) := by decide +kernel
theorem dX7_quarrel_57 : decode cX7_quarrel 57 = .ok (.iaload, 1) := by decide +kernel
theorem dX7_quarrel_58 : decode cX7_quarrel 58 = .ok (.aload_n 0, 1) := by decide +kernel
theorem dX7_quarrel_59 : decode cX7_quarrel 59 = .ok (.getfield 33, 3) := by decide +kernel
theorem dX7_quarrel_62 : decode cX7_quarrel 62 = .ok (.getfield 150, 3) := by decide +kernel
theorem dX7_quarrel_65 : decode cX7_quarrel 65 = .ok (.getfield 177, 3) := by decide +kernel
theorem dX7_quarrel_68 : decode cX7_quarrel 68 = .ok (.iload_n 3, 1) := by decide +kernel
theorem dX7_quarrel_69 : decode cX7_quarrel 69 = .ok (.iaload, 1) := by decide +kernel
theorem dX7_quarrel_70 : decode cX7_quarrel 70 = .ok (.invokestatic 217, 3) := by decide +kernel
theorem dX7_quarrel_73 : decode cX7_quarrel 73 = .ok (.ireturn, 1) := by decide +kernel
theorem dX7_quarrel_74 : decode cX7_quarrel 74 = .ok (.iload_n 3, 1) := by decide +kernel
theorem dX7_quarrel_75 : decode cX7_quarrel 75 = .ok (.istore_n 2, 1) := by decide +kernel
theorem dX7_quarrel_76 : decode cX7_quarrel 76 = .ok (.iinc 3 1, 3) := by decide +kernel
theorem dX7_quarrel_79 : decode cX7_quarrel 79 = .ok (.goto (-65), 3) := by decide +kernel
theorem dX7_quarrel_82 : decode cX7_quarrel 82 = .ok (.iconst 0, 1) := by decide +kernel
theorem dX7_quarrel_83 : decode cX7_quarrel 83 = .ok (.ireturn, 1) := by decide +kernel
theorem dX7_shown_0 : decode cX7_shown 0 = .ok (.iload_n 1, 1) := by decide +kernel
theorem dX7_shown_1 : decode cX7_shown 1 = .ok (.iconst (-1), 1) := by decide +kernel
theorem dX7_shown_2 : decode cX7_shown 2 = .ok (.if_icmp .ne 21, 3) := by decide +kernel
theorem dX7_shown_5 : decode cX7_shown 5 = .ok (.aload_n 0, 1) := by decide +kernel
theorem dX7_shown_6 : decode cX7_shown 6 = .ok (.getfield 33, 3) := by decide +kernel
theorem dX7_shown_9 : decode cX7_shown 9 = .ok (.iconst 0, 1) := by decide +kernel
theorem dX7_shown_10 : decode cX7_shown 10 = .ok (.putfield 220, 3) := by decide +kernel
theorem dX7_shown_13 : decode cX7_shown 13 = .ok (.aload_n 0, 1) := by decide +kernel
theorem dX7_shown_14 : decode cX7_shown 14 = .ok (.getfield 33, 3) := by decide +kernel
theorem dX7_shown_17 : decode cX7_shown 17 = .ok (.iconst 0, 1) := by decide +kernel
theorem dX7_shown_18 : decode cX7_shown 18 = .ok (.putfield 223, 3) := by decide +kernel
theorem dX7_shown_21 : decode cX7_shown 21 = .ok (.iconst 0, 1) := by decide +kernel
theorem dX7_shown_22 : decode cX7_shown 22 = .ok (.ireturn, 1) := by decide +kernel
theorem dX7_shown_23 : decode cX7_shown 23 = .ok (.aload_n 0, 1) := by decide +kernel
theorem dX7_shown_24 : decode cX7_shown 24 = .ok (.iload_n 1, 1) := by decide +kernel
theorem dX7_shown_25 : decode cX7_shown 25 = .ok (.invokevirtual 226, 3) := by decide +kernel
theorem dX7_shown_28 : decode cX7_shown 28 = .ok (.ifCond .eq 14, 3) := by decide +kernel
theorem dX7_shown_31 : decode cX7_shown 31 = .ok (.aload_n 0, 1) := by decide +kernel
theorem dX7_shown_32 : decode cX7_shown 32 = .ok (.getfield 33, 3) := by decide +kernel
theorem dX7_shown_35 : decode cX7_shown 35 = .ok (.getfield 223, 3) := by decide +kernel
theorem dX7_shown_38 : decode cX7_shown 38 = .ok (.iconst 4, 1) := by decide +kernel
theorem dX7_shown_39 : decode cX7_shown 39 = .ok (.if_icmp .lt 6, 3) := by decide +kernel
theorem dX7_shown_42 : decode cX7_shown 42 = .ok (.bipush (-2), 2) := by decide +kernel
theorem dX7_shown_44 : decode cX7_shown 44 = .ok (.ireturn, 1) := by decide +kernel
theorem dX7_shown_45 : decode cX7_shown 45 = .ok (.aload_n 0, 1) := by decide +kernel
theorem dX7_shown_46 : decode cX7_shown 46 = .ok (.getfield 33, 3) := by decide +kernel
theorem dX7_shown_49 : decode cX7_shown 49 = .ok (.aload_n 0, 1) := by decide +kernel
theorem dX7_shown_50 : decode cX7_shown 50 = .ok (.getfield 33, 3) := by decide +kernel
theorem dX7_shown_53 : decode cX7_shown 53 = .ok (.getfield 220, 3) := by decide +kernel
theorem dX7_shown_56 : decode cX7_shown 56 = .ok (.aload_n 0, 1) := by decide +kernel
theorem dX7_shown_57 : decode cX7_shown 57 = .ok (.getfield 33, 3) := by decide +kernel
theorem dX7_shown_60 : decode cX7_shown 60 = .ok (.getfield 223, 3) := by decide +kernel
theorem dX7_shown_63 : decode cX7_shown 63 = .ok (.iload_n 1, 1) := by decide +kernel
theorem dX7_shown_64 : decode cX7_shown 64 = .ok (.invokestatic 229, 3) := by decide +kernel
theorem dX7_shown_67 : decode cX7_shown 67 = .ok (.putfield 220, 3) := by decide +kernel
theorem dX7_shown_70 : decode cX7_shown 70 = .ok (.aload_n 0, 1) := by decide +kernel
theorem dX7_shown_71 : decode cX7_shown 71 = .ok (.getfield 33, 3) := by decide +kernel
theorem dX7_shown_74 : decode cX7_shown 74 = .ok (.dup, 1) := by decide +kernel
theorem dX7_shown_75 : decode cX7_shown 75 = .ok (.getfield 223, 3) := by decide +kernel
theorem dX7_shown_78 : decode cX7_shown 78 = .ok (.iconst 1, 1) := by decide +kernel
theorem dX7_shown_79 : decode cX7_shown 79 = .ok (.iadd, 1) := by decide +kernel
theorem dX7_shown_80 : decode cX7_shown 80 = .ok (.putfield 223, 3) := by decide +kernel
theorem dX7_shown_83 : decode cX7_shown 83 = .ok (.aload_n 0, 1) := by decide +kernel
theorem dX7_shown_84 : decode cX7_shown 84 = .ok (.getfield 33, 3) := by decide +kernel
theorem dX7_shown_87 : decode cX7_shown 87 = .ok (.getfield 223, 3) := by decide +kernel
theorem dX7_shown_90 : decode cX7_shown 90 = .ok (.ireturn, 1) := by decide +kernel
theorem dX7_how_0 : decode cX7_how 0 = .ok (.aload_n 0, 1) := by decide +kernel
theorem dX7_how_1 : decode cX7_how 1 = .ok (.iload_n 1, 1) := by decide +kernel
theorem dX7_how_2 : decode cX7_how 2 = .ok (.invokevirtual 174, 3) := by decide +kernel
theorem dX7_how_5 : decode cX7_how 5 = .ok (.ifCond .eq 23, 3) := by decide +kernel
theorem dX7_how_8 : decode cX7_how 8 = .ok (.iload_n 2, 1) := by decide +kernel
theorem dX7_how_9 : decode cX7_how 9 = .ok (.ifCond .lt 19, 3) := by decide +kernel
theorem dX7_how_12 : decode cX7_how 12 = .ok (.iload_n 2, 1) := by decide +kernel
theorem dX7_how_13 : decode cX7_how 13 = .ok (.iconst 3, 1) := by decide +kernel
theorem dX7_how_14 : decode cX7_how 14 = .ok (.if_icmp .gt 14, 3) := by decide +kernel
theorem dX7_how_17 : decode cX7_how 17 = .ok (.iload_n 3, 1) := by decide +kernel
theorem dX7_how_18 : decode cX7_how 18 = .ok (.bipush (-2), 2) := by decide +kernel
theorem dX7_how_20 : decode cX7_how 20 = .ok (.if_icmp .lt 8, 3) := by decide +kernel
theorem dX7_how_23 : decode cX7_how 23 = .ok (.iload_n 3, 1) := by decide +kernel
theorem dX7_how_24 : decode cX7_how 24 = .ok (.iload_n 2, 1) := by decide +kernel
theorem dX7_how_25 : decode cX7_how 25 = .ok (.if_icmp .lt 6, 3) := by decide +kernel
theorem dX7_how_28 : decode cX7_how 28 = .ok (.bipush (-3), 2) := by decide +kernel
theorem dX7_how_30 : decode cX7_how 30 = .ok (.ireturn, 1) := by decide +kernel
theorem dX7_how_31 : decode cX7_how 31 = .ok (.aload_n 0, 1) := by decide +kernel
theorem dX7_how_32 : decode cX7_how 32 = .ok (.iload_n 1, 1) := by decide +kernel
theorem dX7_how_33 : decode cX7_how 33 = .ok (.iload_n 2, 1) := by decide +kernel
theorem dX7_how_34 : decode cX7_how 34 = .ok (.invokevirtual 232, 3) := by decide +kernel
theorem dX7_how_37 : decode cX7_how 37 = .ok (.iload_n 3, 1) := by decide +kernel
theorem dX7_how_38 : decode cX7_how 38 = .ok (.iconst (-1), 1) := by decide +kernel
theorem dX7_how_39 : decode cX7_how 39 = .ok (.if_icmp .ne 11, 3) := by decide +kernel
theorem dX7_how_42 : decode cX7_how 42 = .ok (.aload_n 0, 1) := by decide +kernel
theorem dX7_how_43 : decode cX7_how 43 = .ok (.getfield 57, 3) := by decide +kernel
theorem dX7_how_46 : decode cX7_how 46 = .ok (.getfield 235, 3) := by decide +kernel
theorem dX7_how_49 : decode cX7_how 49 = .ok (.ireturn, 1) := by decide +kernel
theorem dX7_how_50 : decode cX7_how 50 = .ok (.iload_n 3, 1) := by decide +kernel
theorem dX7_how_51 : decode cX7_how 51 = .ok (.bipush (-2), 2) := by decide +kernel
theorem dX7_how_53 : decode cX7_how 53 = .ok (.if_icmp .ne 25, 3) := by decide +kernel
theorem dX7_how_56 : decode cX7_how 56 = .ok (.aload_n 0, 1) := by decide +kernel
theorem dX7_how_57 : decode cX7_how 57 = .ok (.getfield 57, 3) := by decide +kernel
theorem dX7_how_60 : decode cX7_how 60 = .ok (.getfield 235, 3) := by decide +kernel
theorem dX7_how_63 : decode cX7_how 63 = .ok (.ifCond .le 13, 3) := by decide +kernel
theorem dX7_how_66 : decode cX7_how 66 = .ok (.aload_n 0, 1) := by decide +kernel
theorem dX7_how_67 : decode cX7_how 67 = .ok (.getfield 57, 3) := by decide +kernel
theorem dX7_how_70 : decode cX7_how 70 = .ok (.getfield 238, 3) := by decide +kernel
theorem dX7_how_73 : decode cX7_how 73 = .ok (.goto 4, 3) := by decide +kernel
theorem dX7_how_76 : decode cX7_how 76 = .ok (.iconst 0, 1) := by decide +kernel
theorem dX7_how_77 : decode cX7_how 77 = .ok (.ireturn, 1) := by decide +kernel
theorem dX7_how_78 : decode cX7_how 78 = .ok (.aload_n 0, 1) := by decide +kernel
theorem dX7_how_79 : decode cX7_how 79 = .ok (.getfield 57, 3) := by decide +kernel
theorem dX7_how_82 : decode cX7_how 82 = .ok (.getfield 235, 3) := by decide +kernel
theorem dX7_how_85 : decode cX7_how 85 = .ok (.ifCond .le 15, 3) := by decide +kernel
theorem dX7_how_88 : decode cX7_how 88 = .ok (.aload_n 0, 1) := by decide +kernel
theorem dX7_how_89 : decode cX7_how 89 = .ok (.getfield 57, 3) := by decide +kernel
theorem dX7_how_92 : decode cX7_how 92 = .ok (.getfield 241, 3) := by decide +kernel
theorem dX7_how_95 : decode cX7_how 95 = .ok (.iload_n 3, 1) := by decide +kernel
theorem dX7_how_96 : decode cX7_how 96 = .ok (.iaload, 1) := by decide +kernel
theorem dX7_how_97 : decode cX7_how 97 = .ok (.goto 5, 3) := by decide +kernel
theorem dX7_how_100 : decode cX7_how 100 = .ok (.bipush (-3), 2) := by decide +kernel
theorem dX7_how_102 : decode cX7_how 102 = .ok (.ireturn, 1) := by decide +kernel
theorem dX7_supper_0 : decode cX7_supper 0 = .ok (.aload_n 0, 1) := by decide +kernel
theorem dX7_supper_1 : decode cX7_supper 1 = .ok (.iload_n 1, 1) := by decide +kernel
theorem dX7_supper_2 : decode cX7_supper 2 = .ok (.invokevirtual 120, 3) := by decide +kernel
theorem dX7_supper_5 : decode cX7_supper 5 = .ok (.ifCond .eq 16, 3) := by decide +kernel
theorem dX7_supper_8 : decode cX7_supper 8 = .ok (.aload_n 0, 1) := by decide +kernel
theorem dX7_supper_9 : decode cX7_supper 9 = .ok (.iload_n 2, 1) := by decide +kernel
theorem dX7_supper_10 : decode cX7_supper 10 = .ok (.invokevirtual 174, 3) := by decide +kernel
theorem dX7_supper_13 : decode cX7_supper 13 = .ok (.ifCond .eq 8, 3) := by decide +kernel
theorem dX7_supper_16 : decode cX7_supper 16 = .ok (.iload_n 3, 1) := by decide +kernel
theorem dX7_supper_17 : decode cX7_supper 17 = .ok (.iconst (-1), 1) := by decide +kernel
theorem dX7_supper_18 : decode cX7_supper 18 = .ok (.if_icmp .ge 5, 3) := by decide +kernel
theorem dX7_supper_21 : decode cX7_supper 21 = .ok (.iconst (-1), 1) := by decide +kernel
theorem dX7_supper_22 : decode cX7_supper 22 = .ok (.ireturn, 1) := by decide +kernel
theorem dX7_supper_23 : decode cX7_supper 23 = .ok (.iconst 0, 1) := by decide +kernel
theorem dX7_supper_24 : decode cX7_supper 24 = .ok (.istore 4, 2) := by decide +kernel
theorem dX7_supper_26 : decode cX7_supper 26 = .ok (.iconst 0, 1) := by decide +kernel
theorem dX7_supper_27 : decode cX7_supper 27 = .ok (.istore 5, 2) := by decide +kernel
theorem dX7_supper_29 : decode cX7_supper 29 = .ok (.iload 5, 2) := by decide +kernel
theorem dX7_supper_31 : decode cX7_supper 31 = .ok (.aload_n 0, 1) := by decide +kernel
theorem dX7_supper_32 : decode cX7_supper 32 = .ok (.getfield 33, 3) := by decide +kernel
theorem dX7_supper_35 : decode cX7_supper 35 = .ok (.getfield 87, 3) := by decide +kernel
theorem dX7_supper_38 : decode cX7_supper 38 = .ok (.if_icmp .ge 105, 3) := by decide +kernel
theorem dX7_supper_41 : decode cX7_supper 41 = .ok (.iload 5, 2) := by decide +kernel
theorem dX7_supper_43 : decode cX7_supper 43 = .ok (.iconst 1, 1) := by decide +kernel
theorem dX7_supper_44 : decode cX7_supper 44 = .ok (.iadd, 1) := by decide +kernel
theorem dX7_supper_45 : decode cX7_supper 45 = .ok (.istore 6, 2) := by decide +kernel
theorem dX7_supper_47 : decode cX7_supper 47 = .ok (.iload 6, 2) := by decide +kernel
theorem dX7_supper_49 : decode cX7_supper 49 = .ok (.aload_n 0, 1) := by decide +kernel
theorem dX7_supper_50 : decode cX7_supper 50 = .ok (.getfield 33, 3) := by decide +kernel
theorem dX7_supper_53 : decode cX7_supper 53 = .ok (.getfield 87, 3) := by decide +kernel
theorem dX7_supper_56 : decode cX7_supper 56 = .ok (.if_icmp .ge 81, 3) := by decide +kernel
theorem dX7_supper_59 : decode cX7_supper 59 = .ok (.aload_n 0, 1) := by decide +kernel
theorem dX7_supper_60 : decode cX7_supper 60 = .ok (.getfield 43, 3) := by decide +kernel
theorem dX7_supper_63 : decode cX7_supper 63 = .ok (.aload_n 0, 1) := by decide +kernel
theorem dX7_supper_64 : decode cX7_supper 64 = .ok (.getfield 33, 3) := by decide +kernel
theorem dX7_supper_67 : decode cX7_supper 67 = .ok (.getfield 150, 3) := by decide +kernel
theorem dX7_supper_70 : decode cX7_supper 70 = .ok (.invokevirtual 192, 3) := by decide +kernel
theorem dX7_supper_73 : decode cX7_supper 73 = .ok (.aload_n 0, 1) := by decide +kernel
theorem dX7_supper_74 : decode cX7_supper 74 = .ok (.getfield 43, 3) := by decide +kernel
theorem dX7_supper_77 : decode cX7_supper 77 = .ok (.iload 5, 2) := by decide +kernel
theorem dX7_supper_79 : decode cX7_supper 79 = .ok (.iload 6, 2) := by decide +kernel
theorem dX7_supper_81 : decode cX7_supper 81 = .ok (.invokevirtual 163, 3) := by decide +kernel
theorem dX7_supper_84 : decode cX7_supper 84 = .ok (.aload_n 0, 1) := by decide +kernel
theorem dX7_supper_85 : decode cX7_supper 85 = .ok (.aload_n 0, 1) := by decide +kernel
theorem dX7_supper_86 : decode cX7_supper 86 = .ok (.getfield 26, 3) := by decide +kernel
theorem dX7_supper_89 : decode cX7_supper 89 = .ok (.iload_n 1, 1) := by decide +kernel
theorem dX7_supper_90 : decode cX7_supper 90 = .ok (.aaload, 1) := by decide +kernel
theorem dX7_supper_91 : decode cX7_supper 91 = .ok (.invokevirtual 195, 3) := by decide +kernel
theorem dX7_supper_94 : decode cX7_supper 94 = .ok (.aload_n 0, 1) := by decide +kernel
theorem dX7_supper_95 : decode cX7_supper 95 = .ok (.getfield 43, 3) := by decide +kernel
theorem dX7_supper_98 : decode cX7_supper 98 = .ok (.getfield 177, 3) := by decide +kernel
theorem dX7_supper_101 : decode cX7_supper 101 = .ok (.iload_n 2, 1) := by decide +kernel
theorem dX7_supper_102 : decode cX7_supper 102 = .ok (.iaload, 1) := by decide +kernel
theorem dX7_supper_103 : decode cX7_supper 103 = .ok (.aload_n 0, 1) := by decide +kernel
theorem dX7_supper_104 : decode cX7_supper 104 = .ok (.getfield 33, 3) := by decide +kernel
theorem dX7_supper_107 : decode cX7_supper 107 = .ok (.getfield 220, 3) := by decide +kernel
theorem dX7_supper_110 : decode cX7_supper 110 = .ok (.if_icmp .ne 21, 3) := by decide +kernel
theorem dX7_supper_113 : decode cX7_supper 113 = .ok (.iload 4, 2) := by decide +kernel
theorem dX7_supper_115 : decode cX7_supper 115 = .ok (.iload_n 3, 1) := by decide +kernel
theorem dX7_supper_116 : decode cX7_supper 116 = .ok (.if_icmp .ne 12, 3) := by decide +kernel
theorem dX7_supper_119 : decode cX7_supper 119 = .ok (.bipush 8, 2) := by decide +kernel
theorem dX7_supper_121 : decode cX7_supper 121 = .ok (.iload 5, 2) := by decide +kernel
theorem dX7_supper_123 : decode cX7_supper 123 = .ok (.imul, 1) := by decide +kernel
theorem dX7_supper_124 : decode cX7_supper 124 = .ok (.iload 6, 2) := by decide +kernel
theorem dX7_supper_126 : decode cX7_supper 126 = .ok (.iadd, 1) := by decide +kernel
theorem dX7_supper_127 : decode cX7_supper 127 = .ok (.ireturn, 1) := by decide +kernel
theorem dX7_supper_128 : decode cX7_supper 128 = .ok (.iinc 4 1, 3) := by decide +kernel
theorem dX7_supper_131 : decode cX7_supper 131 = .ok (.iinc 6 1, 3) := by decide +kernel
theorem dX7_supper_134 : decode cX7_supper 134 = .ok (.goto (-87), 3) := by decide +kernel
theorem dX7_supper_137 : decode cX7_supper 137 = .ok (.iinc 5 1, 3) := by decide +kernel
theorem dX7_supper_140 : decode cX7_supper 140 = .ok (.goto (-111), 3) := by decide +kernel
theorem dX7_supper_143 : decode cX7_supper 143 = .ok (.iload_n 3, 1) := by decide +kernel
theorem dX7_supper_144 : decode cX7_supper 144 = .ok (.iconst (-1), 1) := by decide +kernel
theorem dX7_supper_145 : decode cX7_supper 145 = .ok (.if_icmp .ne 8, 3) := by decide +kernel
theorem dX7_supper_148 : decode cX7_supper 148 = .ok (.iload 4, 2) := by decide +kernel
theorem dX7_supper_150 : decode cX7_supper 150 = .ok (.goto 4, 3) := by decide +kernel
theorem dX7_supper_153 : decode cX7_supper 153 = .ok (.iconst (-1), 1) := by decide +kernel
theorem dX7_supper_154 : decode cX7_supper 154 = .ok (.ireturn, 1) := by decide +kernel
theorem dX7_image_0 : decode cX7_image 0 = .ok (.aload_n 0, 1) := by decide +kernel
theorem dX7_image_1 : decode cX7_image 1 = .ok (.getfield 37, 3) := by decide +kernel
theorem dX7_image_4 : decode cX7_image 4 = .ok (.aload_n 0, 1) := by decide +kernel
theorem dX7_image_5 : decode cX7_image 5 = .ok (.getfield 33, 3) := by decide +kernel
theorem dX7_image_8 : decode cX7_image 8 = .ok (.invokevirtual 244, 3) := by decide +kernel
theorem dX7_image_11 : decode cX7_image 11 = .ok (.aload_n 0, 1) := by decide +kernel
theorem dX7_image_12 : decode cX7_image 12 = .ok (.getfield 33, 3) := by decide +kernel
theorem dX7_image_15 : decode cX7_image 15 = .ok (.getfield 150, 3) := by decide +kernel
theorem dX7_image_18 : decode cX7_image 18 = .ok (.getfield 247, 3) := by decide +kernel
theorem dX7_image_21 : decode cX7_image 21 = .ok (.ireturn, 1) := by decide +kernel
theorem dX7_back_0 : decode cX7_back 0 = .ok (.aload_n 0, 1) := by decide +kernel
theorem dX7_back_1 : decode cX7_back 1 = .ok (.getfield 33, 3) := by decide +kernel
theorem dX7_back_4 : decode cX7_back 4 = .ok (.aload_n 0, 1) := by decide +kernel
theorem dX7_back_5 : decode cX7_back 5 = .ok (.getfield 37, 3) := by decide +kernel
theorem dX7_back_8 : decode cX7_back 8 = .ok (.invokevirtual 244, 3) := by decide +kernel
theorem dX7_back_11 : decode cX7_back 11 = .ok (.aload_n 0, 1) := by decide +kernel
theorem dX7_back_12 : decode cX7_back 12 = .ok (.getfield 33, 3) := by decide +kernel
theorem dX7_back_15 : decode cX7_back 15 = .ok (.getfield 150, 3) := by decide +kernel
theorem dX7_back_18 : decode cX7_back 18 = .ok (.getfield 247, 3) := by decide +kernel
theorem dX7_back_21 : decode cX7_back 21 = .ok (.ireturn, 1) := by decide +kernel
theorem dX7_about_0 : decode cX7_about 0 = .ok (.iload_n 1, 1) := by decide +kernel
theorem dX7_about_1 : decode cX7_about 1 = .ok (.bipush 20, 2) := by decide +kernel
theorem dX7_about_3 : decode cX7_about 3 = .ok (.if_icmp .lt 34, 3) := by decide +kernel
theorem dX7_about_6 : decode cX7_about 6 = .ok (.aload_n 0, 1) := by decide +kernel
theorem dX7_about_7 : decode cX7_about 7 = .ok (.iload_n 1, 1) := by decide +kernel
theorem dX7_about_8 : decode cX7_about 8 = .ok (.bipush 20, 2) := by decide +kernel
theorem dX7_about_10 : decode cX7_about 10 = .ok (.isub, 1) := by decide +kernel
theorem dX7_about_11 : decode cX7_about 11 = .ok (.invokevirtual 214, 3) := by decide +kernel
theorem dX7_about_14 : decode cX7_about 14 = .ok (.ifCond .eq 20, 3) := by decide +kernel
theorem dX7_about_17 : decode cX7_about 17 = .ok (.aload_n 0, 1) := by decide +kernel
theorem dX7_about_18 : decode cX7_about 18 = .ok (.getfield 33, 3) := by decide +kernel
theorem dX7_about_21 : decode cX7_about 21 = .ok (.getfield 150, 3) := by decide +kernel
theorem dX7_about_24 : decode cX7_about 24 = .ok (.iload_n 1, 1) := by decide +kernel
theorem dX7_about_25 : decode cX7_about 25 = .ok (.bipush 20, 2) := by decide +kernel
theorem dX7_about_27 : decode cX7_about 27 = .ok (.isub, 1) := by decide +kernel
theorem dX7_about_28 : decode cX7_about 28 = .ok (.invokevirtual 250, 3) := by decide +kernel
theorem dX7_about_31 : decode cX7_about 31 = .ok (.goto 5, 3) := by decide +kernel
theorem dX7_about_34 : decode cX7_about 34 = .ok (.bipush (-2), 2) := by decide +kernel
theorem dX7_about_36 : decode cX7_about 36 = .ok (.ireturn, 1) := by decide +kernel
theorem dX7_about_37 : decode cX7_about 37 = .ok (.iload_n 1, 1) := by decide +kernel
theorem dX7_about_38 : decode cX7_about 38 = .ok (.bipush 10, 2) := by decide +kernel
theorem dX7_about_40 : decode cX7_about 40 = .ok (.if_icmp .lt 32, 3) := by decide +kernel
theorem dX7_about_43 : decode cX7_about 43 = .ok (.aload_n 0, 1) := by decide +kernel
theorem dX7_about_44 : decode cX7_about 44 = .ok (.iload_n 1, 1) := by decide +kernel
theorem dX7_about_45 : decode cX7_about 45 = .ok (.bipush 10, 2) := by decide +kernel
theorem dX7_about_47 : decode cX7_about 47 = .ok (.isub, 1) := by decide +kernel
theorem dX7_about_48 : decode cX7_about 48 = .ok (.invokevirtual 226, 3) := by decide +kernel
theorem dX7_about_51 : decode cX7_about 51 = .ok (.ifCond .eq 18, 3) := by decide +kernel
theorem dX7_about_54 : decode cX7_about 54 = .ok (.aload_n 0, 1) := by decide +kernel
theorem dX7_about_55 : decode cX7_about 55 = .ok (.getfield 33, 3) := by decide +kernel
theorem dX7_about_58 : decode cX7_about 58 = .ok (.getfield 84, 3) := by decide +kernel
theorem dX7_about_61 : decode cX7_about 61 = .ok (.iload_n 1, 1) := by decide +kernel
theorem dX7_about_62 : decode cX7_about 62 = .ok (.bipush 10, 2) := by decide +kernel
theorem dX7_about_64 : decode cX7_about 64 = .ok (.isub, 1) := by decide +kernel
theorem dX7_about_65 : decode cX7_about 65 = .ok (.iaload, 1) := by decide +kernel
theorem dX7_about_66 : decode cX7_about 66 = .ok (.goto 5, 3) := by decide +kernel
theorem dX7_about_69 : decode cX7_about 69 = .ok (.bipush (-2), 2) := by decide +kernel
theorem dX7_about_71 : decode cX7_about 71 = .ok (.ireturn, 1) := by decide +kernel
theorem dX7_about_72 : decode cX7_about 72 = .ok (.iload_n 1, 1) := by decide +kernel
theorem dX7_about_73 : decode cX7_about 73 = .ok (.tableswitch 123 0 8 #[51, 56, 64, 72, 83, 91, 99, 110, 118], 51) := by decide +kernel
theorem dX7_about_124 : decode cX7_about 124 = .ok (.aload_n 0, 1) := by decide +kernel
theorem dX7_about_125 : decode cX7_about 125 = .ok (.getfield 77, 3) := by decide +kernel
theorem dX7_about_128 : decode cX7_about 128 = .ok (.ireturn, 1) := by decide +kernel
theorem dX7_about_129 : decode cX7_about 129 = .ok (.aload_n 0, 1) := by decide +kernel
theorem dX7_about_130 : decode cX7_about 130 = .ok (.getfield 33, 3) := by decide +kernel
theorem dX7_about_133 : decode cX7_about 133 = .ok (.getfield 81, 3) := by decide +kernel
theorem dX7_about_136 : decode cX7_about 136 = .ok (.ireturn, 1) := by decide +kernel
theorem dX7_about_137 : decode cX7_about 137 = .ok (.aload_n 0, 1) := by decide +kernel
theorem dX7_about_138 : decode cX7_about 138 = .ok (.getfield 33, 3) := by decide +kernel
theorem dX7_about_141 : decode cX7_about 141 = .ok (.getfield 87, 3) := by decide +kernel
theorem dX7_about_144 : decode cX7_about 144 = .ok (.ireturn, 1) := by decide +kernel
theorem dX7_about_145 : decode cX7_about 145 = .ok (.aload_n 0, 1) := by decide +kernel
theorem dX7_about_146 : decode cX7_about 146 = .ok (.getfield 33, 3) := by decide +kernel
theorem dX7_about_149 : decode cX7_about 149 = .ok (.getfield 150, 3) := by decide +kernel
theorem dX7_about_152 : decode cX7_about 152 = .ok (.getfield 247, 3) := by decide +kernel
theorem dX7_about_155 : decode cX7_about 155 = .ok (.ireturn, 1) := by decide +kernel
theorem dX7_about_156 : decode cX7_about 156 = .ok (.aload_n 0, 1) := by decide +kernel
theorem dX7_about_157 : decode cX7_about 157 = .ok (.getfield 33, 3) := by decide +kernel
theorem dX7_about_160 : decode cX7_about 160 = .ok (.getfield 100, 3) := by decide +kernel
theorem dX7_about_163 : decode cX7_about 163 = .ok (.ireturn, 1) := by decide +kernel
theorem dX7_about_164 : decode cX7_about 164 = .ok (.aload_n 0, 1) := by decide +kernel
theorem dX7_about_165 : decode cX7_about 165 = .ok (.getfield 33, 3) := by decide +kernel
theorem dX7_about_168 : decode cX7_about 168 = .ok (.getfield 124, 3) := by decide +kernel
theorem dX7_about_171 : decode cX7_about 171 = .ok (.ireturn, 1) := by decide +kernel
theorem dX7_about_172 : decode cX7_about 172 = .ok (.aload_n 0, 1) := by decide +kernel
theorem dX7_about_173 : decode cX7_about 173 = .ok (.getfield 33, 3) := by decide +kernel
theorem dX7_about_176 : decode cX7_about 176 = .ok (.getfield 146, 3) := by decide +kernel
theorem dX7_about_179 : decode cX7_about 179 = .ok (.getfield 171, 3) := by decide +kernel
theorem dX7_about_182 : decode cX7_about 182 = .ok (.ireturn, 1) := by decide +kernel
theorem dX7_about_183 : decode cX7_about 183 = .ok (.aload_n 0, 1) := by decide +kernel
theorem dX7_about_184 : decode cX7_about 184 = .ok (.getfield 33, 3) := by decide +kernel
theorem dX7_about_187 : decode cX7_about 187 = .ok (.getfield 223, 3) := by decide +kernel
theorem dX7_about_190 : decode cX7_about 190 = .ok (.ireturn, 1) := by decide +kernel
theorem dX7_about_191 : decode cX7_about 191 = .ok (.aload_n 0, 1) := by decide +kernel
theorem dX7_about_192 : decode cX7_about 192 = .ok (.getfield 13, 3) := by decide +kernel
theorem dX7_about_195 : decode cX7_about 195 = .ok (.ireturn, 1) := by decide +kernel
theorem dX7_about_196 : decode cX7_about 196 = .ok (.bipush (-2), 2) := by decide +kernel
theorem dX7_about_198 : decode cX7_about 198 = .ok (.ireturn, 1) := by decide +kernel
theorem dX7_isThing_0 : decode cX7_isThing 0 = .ok (.iload_n 1, 1) := by decide +kernel
theorem dX7_isThing_1 : decode cX7_isThing 1 = .ok (.ifCond .lt 18, 3) := by decide +kernel
theorem dX7_isThing_4 : decode cX7_isThing 4 = .ok (.iload_n 1, 1) := by decide +kernel
theorem dX7_isThing_5 : decode cX7_isThing 5 = .ok (.aload_n 0, 1) := by decide +kernel
theorem dX7_isThing_6 : decode cX7_isThing 6 = .ok (.getfield 33, 3) := by decide +kernel
theorem dX7_isThing_9 : decode cX7_isThing 9 = .ok (.getfield 81, 3) := by decide +kernel
theorem dX7_isThing_12 : decode cX7_isThing 12 = .ok (.if_icmp .ge 7, 3) := by decide +kernel
theorem dX7_isThing_15 : decode cX7_isThing 15 = .ok (.iconst 1, 1) := by decide +kernel
theorem dX7_isThing_16 : decode cX7_isThing 16 = .ok (.goto 4, 3) := by decide +kernel
theorem dX7_isThing_19 : decode cX7_isThing 19 = .ok (.iconst 0, 1) := by decide +kernel
theorem dX7_isThing_20 : decode cX7_isThing 20 = .ok (.ireturn, 1) := by decide +kernel
theorem dX7_isEye_0 : decode cX7_isEye 0 = .ok (.iload_n 1, 1) := by decide +kernel
theorem dX7_isEye_1 : decode cX7_isEye 1 = .ok (.ifCond .lt 18, 3) := by decide +kernel
theorem dX7_isEye_4 : decode cX7_isEye 4 = .ok (.iload_n 1, 1) := by decide +kernel
theorem dX7_isEye_5 : decode cX7_isEye 5 = .ok (.aload_n 0, 1) := by decide +kernel
theorem dX7_isEye_6 : decode cX7_isEye 6 = .ok (.getfield 33, 3) := by decide +kernel
theorem dX7_isEye_9 : decode cX7_isEye 9 = .ok (.getfield 87, 3) := by decide +kernel
theorem dX7_isEye_12 : decode cX7_isEye 12 = .ok (.if_icmp .ge 7, 3) := by decide +kernel
theorem dX7_isEye_15 : decode cX7_isEye 15 = .ok (.iconst 1, 1) := by decide +kernel
theorem dX7_isEye_16 : decode cX7_isEye 16 = .ok (.goto 4, 3) := by decide +kernel
theorem dX7_isEye_19 : decode cX7_isEye 19 = .ok (.iconst 0, 1) := by decide +kernel
theorem dX7_isEye_20 : decode cX7_isEye 20 = .ok (.ireturn, 1) := by decide +kernel
theorem dX7_isText_0 : decode cX7_isText 0 = .ok (.iload_n 1, 1) := by decide +kernel
theorem dX7_isText_1 : decode cX7_isText 1 = .ok (.ifCond .lt 18, 3) := by decide +kernel
theorem dX7_isText_4 : decode cX7_isText 4 = .ok (.iload_n 1, 1) := by decide +kernel
theorem dX7_isText_5 : decode cX7_isText 5 = .ok (.aload_n 0, 1) := by decide +kernel
theorem dX7_isText_6 : decode cX7_isText 6 = .ok (.getfield 33, 3) := by decide +kernel
theorem dX7_isText_9 : decode cX7_isText 9 = .ok (.getfield 100, 3) := by decide +kernel
theorem dX7_isText_12 : decode cX7_isText 12 = .ok (.if_icmp .ge 7, 3) := by decide +kernel
theorem dX7_isText_15 : decode cX7_isText 15 = .ok (.iconst 1, 1) := by decide +kernel
theorem dX7_isText_16 : decode cX7_isText 16 = .ok (.goto 4, 3) := by decide +kernel
theorem dX7_isText_19 : decode cX7_isText 19 = .ok (.iconst 0, 1) := by decide +kernel
theorem dX7_isText_20 : decode cX7_isText 20 = .ok (.ireturn, 1) := by decide +kernel
theorem dX7_isCourtier_0 : decode cX7_isCourtier 0 = .ok (.iload_n 1, 1) := by decide +kernel
theorem dX7_isCourtier_1 : decode cX7_isCourtier 1 = .ok (.ifCond .lt 15, 3) := by decide +kernel
theorem dX7_isCourtier_4 : decode cX7_isCourtier 4 = .ok (.iload_n 1, 1) := by decide +kernel
theorem dX7_isCourtier_5 : decode cX7_isCourtier 5 = .ok (.aload_n 0, 1) := by decide +kernel
theorem dX7_isCourtier_6 : decode cX7_isCourtier 6 = .ok (.getfield 77, 3) := by decide +kernel
theorem dX7_isCourtier_9 : decode cX7_isCourtier 9 = .ok (.if_icmp .ge 7, 3) := by decide +kernel
theorem dX7_isCourtier_12 : decode cX7_isCourtier 12 = .ok (.iconst 1, 1) := by decide +kernel
theorem dX7_isCourtier_13 : decode cX7_isCourtier 13 = .ok (.goto 4, 3) := by decide +kernel
theorem dX7_isCourtier_16 : decode cX7_isCourtier 16 = .ok (.iconst 0, 1) := by decide +kernel
theorem dX7_isCourtier_17 : decode cX7_isCourtier 17 = .ok (.ireturn, 1) := by decide +kernel
theorem dX7_addFourBytes_0 : decode cX7_addFourBytes 0 = .ok (.bipush 24, 2) := by decide +kernel
theorem dX7_addFourBytes_2 : decode cX7_addFourBytes 2 = .ok (.istore_n 2, 1) := by decide +kernel
theorem dX7_addFourBytes_3 : decode cX7_addFourBytes 3 = .ok (.iload_n 2, 1) := by decide +kernel
theorem dX7_addFourBytes_4 : decode cX7_addFourBytes 4 = .ok (.ifCond .lt 42, 3) := by decide +kernel
theorem dX7_addFourBytes_7 : decode cX7_addFourBytes 7 = .ok (.aload_n 0, 1) := by decide +kernel
theorem dX7_addFourBytes_8 : decode cX7_addFourBytes 8 = .ok (.getfield 13, 3) := by decide +kernel
theorem dX7_addFourBytes_11 : decode cX7_addFourBytes 11 = .ok (.sipush 300, 3) := by decide +kernel
theorem dX7_addFourBytes_14 : decode cX7_addFourBytes 14 = .ok (.if_icmp .ge 32, 3) := by decide +kernel
theorem dX7_addFourBytes_17 : decode cX7_addFourBytes 17 = .ok (.aload_n 0, 1) := by decide +kernel
theorem dX7_addFourBytes_18 : decode cX7_addFourBytes 18 = .ok (.getfield 9, 3) := by decide +kernel
theorem dX7_addFourBytes_21 : decode cX7_addFourBytes 21 = .ok (.aload_n 0, 1) := by decide +kernel
theorem dX7_addFourBytes_22 : decode cX7_addFourBytes 22 = .ok (.getfield 13, 3) := by decide +kernel
theorem dX7_addFourBytes_25 : decode cX7_addFourBytes 25 = .ok (.iload_n 1, 1) := by decide +kernel
theorem dX7_addFourBytes_26 : decode cX7_addFourBytes 26 = .ok (.iload_n 2, 1) := by decide +kernel
theorem dX7_addFourBytes_27 : decode cX7_addFourBytes 27 = .ok (.ishr, 1) := by decide +kernel
theorem dX7_addFourBytes_28 : decode cX7_addFourBytes 28 = .ok (.i2b, 1) := by decide +kernel
theorem dX7_addFourBytes_29 : decode cX7_addFourBytes 29 = .ok (.bastore, 1) := by decide +kernel
theorem dX7_addFourBytes_30 : decode cX7_addFourBytes 30 = .ok (.aload_n 0, 1) := by decide +kernel
theorem dX7_addFourBytes_31 : decode cX7_addFourBytes 31 = .ok (.dup, 1) := by decide +kernel
theorem dX7_addFourBytes_32 : decode cX7_addFourBytes 32 = .ok (.getfield 13, 3) := by decide +kernel
theorem dX7_addFourBytes_35 : decode cX7_addFourBytes 35 = .ok (.iconst 1, 1) := by decide +kernel
theorem dX7_addFourBytes_36 : decode cX7_addFourBytes 36 = .ok (.iadd, 1) := by decide +kernel
theorem dX7_addFourBytes_37 : decode cX7_addFourBytes 37 = .ok (.putfield 13, 3) := by decide +kernel
theorem dX7_addFourBytes_40 : decode cX7_addFourBytes 40 = .ok (.iinc 2 (-8), 3) := by decide +kernel
theorem dX7_addFourBytes_43 : decode cX7_addFourBytes 43 = .ok (.goto (-40), 3) := by decide +kernel
theorem dX7_addFourBytes_46 : decode cX7_addFourBytes 46 = .ok (.return_, 1) := by decide +kernel
theorem dX7_drawnAfter_0 : decode cX7_drawnAfter 0 = .ok (.iload_n 0, 1) := by decide +kernel
theorem dX7_drawnAfter_1 : decode cX7_drawnAfter 1 = .ok (.sipush 211, 3) := by decide +kernel
theorem dX7_drawnAfter_4 : decode cX7_drawnAfter 4 = .ok (.imul, 1) := by decide +kernel
theorem dX7_drawnAfter_5 : decode cX7_drawnAfter 5 = .ok (.bipush 83, 2) := by decide +kernel
theorem dX7_drawnAfter_7 : decode cX7_drawnAfter 7 = .ok (.iadd, 1) := by decide +kernel
theorem dX7_drawnAfter_8 : decode cX7_drawnAfter 8 = .ok (.sipush 30071, 3) := by decide +kernel
theorem dX7_drawnAfter_11 : decode cX7_drawnAfter 11 = .ok (.irem, 1) := by decide +kernel
theorem dX7_drawnAfter_12 : decode cX7_drawnAfter 12 = .ok (.ireturn, 1) := by decide +kernel
theorem dX7_byHand_0 : decode cX7_byHand 0 = .ok (.aload_n 0, 1) := by decide +kernel
theorem dX7_byHand_1 : decode cX7_byHand 1 = .ok (.aload_n 0, 1) := by decide +kernel
theorem dX7_byHand_2 : decode cX7_byHand 2 = .ok (.getfield 33, 3) := by decide +kernel
theorem dX7_byHand_5 : decode cX7_byHand 5 = .ok (.getfield 150, 3) := by decide +kernel
theorem dX7_byHand_8 : decode cX7_byHand 8 = .ok (.iload_n 1, 1) := by decide +kernel
theorem dX7_byHand_9 : decode cX7_byHand 9 = .ok (.iload_n 2, 1) := by decide +kernel
theorem dX7_byHand_10 : decode cX7_byHand 10 = .ok (.iload_n 3, 1) := by decide +kernel
theorem dX7_byHand_11 : decode cX7_byHand 11 = .ok (.invokevirtual 253, 3) := by decide +kernel
theorem dX7_byHand_14 : decode cX7_byHand 14 = .ok (.ifCond .ne 5, 3) := by decide +kernel
theorem dX7_byHand_17 : decode cX7_byHand 17 = .ok (.iconst (-1), 1) := by decide +kernel
theorem dX7_byHand_18 : decode cX7_byHand 18 = .ok (.ireturn, 1) := by decide +kernel
theorem dX7_byHand_19 : decode cX7_byHand 19 = .ok (.aload_n 0, 1) := by decide +kernel
theorem dX7_byHand_20 : decode cX7_byHand 20 = .ok (.getfield 33, 3) := by decide +kernel
theorem dX7_byHand_23 : decode cX7_byHand 23 = .ok (.getfield 146, 3) := by decide +kernel
theorem dX7_byHand_26 : decode cX7_byHand 26 = .ok (.aload_n 0, 1) := by decide +kernel
theorem dX7_byHand_27 : decode cX7_byHand 27 = .ok (.getfield 33, 3) := by decide +kernel
theorem dX7_byHand_30 : decode cX7_byHand 30 = .ok (.getfield 150, 3) := by decide +kernel
theorem dX7_byHand_33 : decode cX7_byHand 33 = .ok (.invokevirtual 153, 3) := by decide +kernel
theorem dX7_byHand_36 : decode cX7_byHand 36 = .ok (.aload_n 0, 1) := by decide +kernel
theorem dX7_byHand_37 : decode cX7_byHand 37 = .ok (.aload_n 0, 1) := by decide +kernel
theorem dX7_byHand_38 : decode cX7_byHand 38 = .ok (.getfield 33, 3) := by decide +kernel
theorem dX7_byHand_41 : decode cX7_byHand 41 = .ok (.getfield 150, 3) := by decide +kernel
theorem dX7_byHand_44 : decode cX7_byHand 44 = .ok (.iload_n 1, 1) := by decide +kernel
theorem dX7_byHand_45 : decode cX7_byHand 45 = .ok (.iload_n 2, 1) := by decide +kernel
theorem dX7_byHand_46 : decode cX7_byHand 46 = .ok (.iload_n 3, 1) := by decide +kernel
theorem dX7_byHand_47 : decode cX7_byHand 47 = .ok (.invokevirtual 257, 3) := by decide +kernel
theorem dX7_byHand_50 : decode cX7_byHand 50 = .ok (.ireturn, 1) := by decide +kernel
theorem dX7_tell_0 : decode cX7_tell 0 = .ok (.iconst 0, 1) := by decide +kernel
theorem dX7_tell_1 : decode cX7_tell 1 = .ok (.istore_n 2, 1) := by decide +kernel
theorem dX7_tell_2 : decode cX7_tell 2 = .ok (.iload_n 2, 1) := by decide +kernel
theorem dX7_tell_3 : decode cX7_tell 3 = .ok (.aload_n 1, 1) := by decide +kernel
theorem dX7_tell_4 : decode cX7_tell 4 = .ok (.getfield 131, 3) := by decide +kernel
theorem dX7_tell_7 : decode cX7_tell 7 = .ok (.if_icmp .ge 73, 3) := by decide +kernel
theorem dX7_tell_10 : decode cX7_tell 10 = .ok (.aload_n 1, 1) := by decide +kernel
theorem dX7_tell_11 : decode cX7_tell 11 = .ok (.iload_n 2, 1) := by decide +kernel
theorem dX7_tell_12 : decode cX7_tell 12 = .ok (.invokevirtual 134, 3) := by decide +kernel
theorem dX7_tell_15 : decode cX7_tell 15 = .ok (.ifCond .eq 59, 3) := by decide +kernel
theorem dX7_tell_18 : decode cX7_tell 18 = .ok (.aload_n 0, 1) := by decide +kernel
theorem dX7_tell_19 : decode cX7_tell 19 = .ok (.aload_n 0, 1) := by decide +kernel
theorem dX7_tell_20 : decode cX7_tell 20 = .ok (.getfield 43, 3) := by decide +kernel
theorem dX7_tell_23 : decode cX7_tell 23 = .ok (.aload_n 1, 1) := by decide +kernel
theorem dX7_tell_24 : decode cX7_tell 24 = .ok (.getfield 137, 3) := by decide +kernel
theorem dX7_tell_27 : decode cX7_tell 27 = .ok (.iload_n 2, 1) := by decide +kernel
theorem dX7_tell_28 : decode cX7_tell 28 = .ok (.iaload, 1) := by decide +kernel
theorem dX7_tell_29 : decode cX7_tell 29 = .ok (.aload_n 1, 1) := by decide +kernel
theorem dX7_tell_30 : decode cX7_tell 30 = .ok (.getfield 140, 3) := by decide +kernel
theorem dX7_tell_33 : decode cX7_tell 33 = .ok (.iload_n 2, 1) := by decide +kernel
theorem dX7_tell_34 : decode cX7_tell 34 = .ok (.iaload, 1) := by decide +kernel
theorem dX7_tell_35 : decode cX7_tell 35 = .ok (.aload_n 1, 1) := by decide +kernel
theorem dX7_tell_36 : decode cX7_tell 36 = .ok (.getfield 143, 3) := by decide +kernel
theorem dX7_tell_39 : decode cX7_tell 39 = .ok (.iload_n 2, 1) := by decide +kernel
theorem dX7_tell_40 : decode cX7_tell 40 = .ok (.iaload, 1) := by decide +kernel
theorem dX7_tell_41 : decode cX7_tell 41 = .ok (.invokevirtual 253, 3) := by decide +kernel
theorem dX7_tell_44 : decode cX7_tell 44 = .ok (.ifCond .eq 30, 3) := by decide +kernel
theorem dX7_tell_47 : decode cX7_tell 47 = .ok (.aload_n 0, 1) := by decide +kernel
theorem dX7_tell_48 : decode cX7_tell 48 = .ok (.aload_n 0, 1) := by decide +kernel
theorem dX7_tell_49 : decode cX7_tell 49 = .ok (.getfield 43, 3) := by decide +kernel
theorem dX7_tell_52 : decode cX7_tell 52 = .ok (.aload_n 1, 1) := by decide +kernel
theorem dX7_tell_53 : decode cX7_tell 53 = .ok (.getfield 137, 3) := by decide +kernel
theorem dX7_tell_56 : decode cX7_tell 56 = .ok (.iload_n 2, 1) := by decide +kernel
theorem dX7_tell_57 : decode cX7_tell 57 = .ok (.iaload, 1) := by decide +kernel
theorem dX7_tell_58 : decode cX7_tell 58 = .ok (.aload_n 1, 1) := by decide +kernel
theorem dX7_tell_59 : decode cX7_tell 59 = .ok (.getfield 140, 3) := by decide +kernel
theorem dX7_tell_62 : decode cX7_tell 62 = .ok (.iload_n 2, 1) := by decide +kernel
theorem dX7_tell_63 : decode cX7_tell 63 = .ok (.iaload, 1) := by decide +kernel
theorem dX7_tell_64 : decode cX7_tell 64 = .ok (.aload_n 1, 1) := by decide +kernel
theorem dX7_tell_65 : decode cX7_tell 65 = .ok (.getfield 143, 3) := by decide +kernel
theorem dX7_tell_68 : decode cX7_tell 68 = .ok (.iload_n 2, 1) := by decide +kernel
theorem dX7_tell_69 : decode cX7_tell 69 = .ok (.iaload, 1) := by decide +kernel
theorem dX7_tell_70 : decode cX7_tell 70 = .ok (.invokevirtual 257, 3) := by decide +kernel
theorem dX7_tell_73 : decode cX7_tell 73 = .ok (.pop, 1) := by decide +kernel
theorem dX7_tell_74 : decode cX7_tell 74 = .ok (.iinc 2 1, 3) := by decide +kernel
theorem dX7_tell_77 : decode cX7_tell 77 = .ok (.goto (-75), 3) := by decide +kernel
theorem dX7_tell_80 : decode cX7_tell 80 = .ok (.return_, 1) := by decide +kernel
theorem dX7_canBe_0 : decode cX7_canBe 0 = .ok (.iload_n 2, 1) := by decide +kernel
theorem dX7_canBe_1 : decode cX7_canBe 1 = .ok (.tableswitch 128 2 5 #[31, 64, 128, 99], 31) := by decide +kernel
theorem dX7_canBe_32 : decode cX7_canBe 32 = .ok (.aload_n 0, 1) := by decide +kernel
theorem dX7_canBe_33 : decode cX7_canBe 33 = .ok (.iload_n 3, 1) := by decide +kernel
theorem dX7_canBe_34 : decode cX7_canBe 34 = .ok (.invokevirtual 226, 3) := by decide +kernel
theorem dX7_canBe_37 : decode cX7_canBe 37 = .ok (.ifCond .eq 26, 3) := by decide +kernel
theorem dX7_canBe_40 : decode cX7_canBe 40 = .ok (.aload_n 0, 1) := by decide +kernel
theorem dX7_canBe_41 : decode cX7_canBe 41 = .ok (.iload 4, 2) := by decide +kernel
theorem dX7_canBe_43 : decode cX7_canBe 43 = .ok (.invokevirtual 214, 3) := by decide +kernel
theorem dX7_canBe_46 : decode cX7_canBe 46 = .ok (.ifCond .eq 17, 3) := by decide +kernel
theorem dX7_canBe_49 : decode cX7_canBe 49 = .ok (.aload_n 1, 1) := by decide +kernel
theorem dX7_canBe_50 : decode cX7_canBe 50 = .ok (.getfield 247, 3) := by decide +kernel
theorem dX7_canBe_53 : decode cX7_canBe 53 = .ok (.sipush 999, 3) := by decide +kernel
theorem dX7_canBe_56 : decode cX7_canBe 56 = .ok (.if_icmp .ge 7, 3) := by decide +kernel
theorem dX7_canBe_59 : decode cX7_canBe 59 = .ok (.iconst 1, 1) := by decide +kernel
theorem dX7_canBe_60 : decode cX7_canBe 60 = .ok (.goto 4, 3) := by decide +kernel
theorem dX7_canBe_63 : decode cX7_canBe 63 = .ok (.iconst 0, 1) := by decide +kernel
theorem dX7_canBe_64 : decode cX7_canBe 64 = .ok (.ireturn, 1) := by decide +kernel
theorem dX7_canBe_65 : decode cX7_canBe 65 = .ok (.aload_n 0, 1) := by decide +kernel
theorem dX7_canBe_66 : decode cX7_canBe 66 = .ok (.iload_n 3, 1) := by decide +kernel
theorem dX7_canBe_67 : decode cX7_canBe 67 = .ok (.invokevirtual 174, 3) := by decide +kernel
theorem dX7_canBe_70 : decode cX7_canBe 70 = .ok (.ifCond .eq 28, 3) := by decide +kernel
theorem dX7_canBe_73 : decode cX7_canBe 73 = .ok (.aload_n 1, 1) := by decide +kernel
theorem dX7_canBe_74 : decode cX7_canBe 74 = .ok (.getfield 183, 3) := by decide +kernel
theorem dX7_canBe_77 : decode cX7_canBe 77 = .ok (.iload_n 3, 1) := by decide +kernel
theorem dX7_canBe_78 : decode cX7_canBe 78 = .ok (.iaload, 1) := by decide +kernel
theorem dX7_canBe_79 : decode cX7_canBe 79 = .ok (.iload 4, 2) := by decide +kernel
theorem dX7_canBe_81 : decode cX7_canBe 81 = .ok (.if_icmp .eq 17, 3) := by decide +kernel
theorem dX7_canBe_84 : decode cX7_canBe 84 = .ok (.aload_n 0, 1) := by decide +kernel
theorem dX7_canBe_85 : decode cX7_canBe 85 = .ok (.aload_n 1, 1) := by decide +kernel
theorem dX7_canBe_86 : decode cX7_canBe 86 = .ok (.iload 4, 2) := by decide +kernel
theorem dX7_canBe_88 : decode cX7_canBe 88 = .ok (.invokevirtual 261, 3) := by decide +kernel
theorem dX7_canBe_91 : decode cX7_canBe 91 = .ok (.ifCond .eq 7, 3) := by decide +kernel
theorem dX7_canBe_94 : decode cX7_canBe 94 = .ok (.iconst 1, 1) := by decide +kernel
theorem dX7_canBe_95 : decode cX7_canBe 95 = .ok (.goto 4, 3) := by decide +kernel
theorem dX7_canBe_98 : decode cX7_canBe 98 = .ok (.iconst 0, 1) := by decide +kernel
theorem dX7_canBe_99 : decode cX7_canBe 99 = .ok (.ireturn, 1) := by decide +kernel
theorem dX7_canBe_100 : decode cX7_canBe 100 = .ok (.aload_n 0, 1) := by decide +kernel
theorem dX7_canBe_101 : decode cX7_canBe 101 = .ok (.iload_n 3, 1) := by decide +kernel
theorem dX7_canBe_102 : decode cX7_canBe 102 = .ok (.invokevirtual 174, 3) := by decide +kernel
theorem dX7_canBe_105 : decode cX7_canBe 105 = .ok (.ifCond .eq 22, 3) := by decide +kernel
theorem dX7_canBe_108 : decode cX7_canBe 108 = .ok (.aload_n 0, 1) := by decide +kernel
theorem dX7_canBe_109 : decode cX7_canBe 109 = .ok (.iload 4, 2) := by decide +kernel
theorem dX7_canBe_111 : decode cX7_canBe 111 = .ok (.invokevirtual 174, 3) := by decide +kernel
theorem dX7_canBe_114 : decode cX7_canBe 114 = .ok (.ifCond .eq 13, 3) := by decide +kernel
theorem dX7_canBe_117 : decode cX7_canBe 117 = .ok (.iload_n 3, 1) := by decide +kernel
theorem dX7_canBe_118 : decode cX7_canBe 118 = .ok (.iload 4, 2) := by decide +kernel
theorem dX7_canBe_120 : decode cX7_canBe 120 = .ok (.if_icmp .eq 7, 3) := by decide +kernel
theorem dX7_canBe_123 : decode cX7_canBe 123 = .ok (.iconst 1, 1) := by decide +kernel
theorem dX7_canBe_124 : decode cX7_canBe 124 = .ok (.goto 4, 3) := by decide +kernel
theorem dX7_canBe_127 : decode cX7_canBe 127 = .ok (.iconst 0, 1) := by decide +kernel
theorem dX7_canBe_128 : decode cX7_canBe 128 = .ok (.ireturn, 1) := by decide +kernel
theorem dX7_canBe_129 : decode cX7_canBe 129 = .ok (.aload_n 0, 1) := by decide +kernel
theorem dX7_canBe_130 : decode cX7_canBe 130 = .ok (.iload_n 3, 1) := by decide +kernel
theorem dX7_canBe_131 : decode cX7_canBe 131 = .ok (.invokevirtual 174, 3) := by decide +kernel
theorem dX7_canBe_134 : decode cX7_canBe 134 = .ok (.ireturn, 1) := by decide +kernel
theorem dX7_hasRoom_0 : decode cX7_hasRoom 0 = .ok (.iload_n 2, 1) := by decide +kernel
theorem dX7_hasRoom_1 : decode cX7_hasRoom 1 = .ok (.iconst (-1), 1) := by decide +kernel
theorem dX7_hasRoom_2 : decode cX7_hasRoom 2 = .ok (.if_icmp .eq 23, 3) := by decide +kernel
theorem dX7_hasRoom_5 : decode cX7_hasRoom 5 = .ok (.aload_n 0, 1) := by decide +kernel
theorem dX7_hasRoom_6 : decode cX7_hasRoom 6 = .ok (.iload_n 2, 1) := by decide +kernel
theorem dX7_hasRoom_7 : decode cX7_hasRoom 7 = .ok (.invokevirtual 214, 3) := by decide +kernel
theorem dX7_hasRoom_10 : decode cX7_hasRoom 10 = .ok (.ifCond .eq 19, 3) := by decide +kernel
theorem dX7_hasRoom_13 : decode cX7_hasRoom 13 = .ok (.aload_n 1, 1) := by decide +kernel
theorem dX7_hasRoom_14 : decode cX7_hasRoom 14 = .ok (.iload_n 2, 1) := by decide +kernel
theorem dX7_hasRoom_15 : decode cX7_hasRoom 15 = .ok (.invokevirtual 250, 3) := by decide +kernel
theorem dX7_hasRoom_18 : decode cX7_hasRoom 18 = .ok (.invokestatic 199, 3) := by decide +kernel
theorem dX7_hasRoom_21 : decode cX7_hasRoom 21 = .ok (.iconst 2, 1) := by decide +kernel
theorem dX7_hasRoom_22 : decode cX7_hasRoom 22 = .ok (.if_icmp .ge 7, 3) := by decide +kernel
theorem dX7_hasRoom_25 : decode cX7_hasRoom 25 = .ok (.iconst 1, 1) := by decide +kernel
theorem dX7_hasRoom_26 : decode cX7_hasRoom 26 = .ok (.goto 4, 3) := by decide +kernel
theorem dX7_hasRoom_29 : decode cX7_hasRoom 29 = .ok (.iconst 0, 1) := by decide +kernel
theorem dX7_hasRoom_30 : decode cX7_hasRoom 30 = .ok (.ireturn, 1) := by decide +kernel
theorem dX7_perform_0 : decode cX7_perform 0 = .ok (.iload_n 2, 1) := by decide +kernel
theorem dX7_perform_1 : decode cX7_perform 1 = .ok (.tableswitch 58 2 5 #[31, 40, 58, 49], 31) := by decide +kernel
theorem dX7_perform_32 : decode cX7_perform 32 = .ok (.aload_n 0, 1) := by decide +kernel
theorem dX7_perform_33 : decode cX7_perform 33 = .ok (.aload_n 1, 1) := by decide +kernel
theorem dX7_perform_34 : decode cX7_perform 34 = .ok (.iload_n 3, 1) := by decide +kernel
theorem dX7_perform_35 : decode cX7_perform 35 = .ok (.iload 4, 2) := by decide +kernel
theorem dX7_perform_37 : decode cX7_perform 37 = .ok (.invokevirtual 265, 3) := by decide +kernel
theorem dX7_perform_40 : decode cX7_perform 40 = .ok (.ireturn, 1) := by decide +kernel
theorem dX7_perform_41 : decode cX7_perform 41 = .ok (.aload_n 1, 1) := by decide +kernel
theorem dX7_perform_42 : decode cX7_perform 42 = .ok (.iload_n 3, 1) := by decide +kernel
theorem dX7_perform_43 : decode cX7_perform 43 = .ok (.iload 4, 2) := by decide +kernel
theorem dX7_perform_45 : decode cX7_perform 45 = .ok (.invokevirtual 269, 3) := by decide +kernel
theorem dX7_perform_48 : decode cX7_perform 48 = .ok (.iconst 0, 1) := by decide +kernel
theorem dX7_perform_49 : decode cX7_perform 49 = .ok (.ireturn, 1) := by decide +kernel
theorem dX7_perform_50 : decode cX7_perform 50 = .ok (.aload_n 1, 1) := by decide +kernel
theorem dX7_perform_51 : decode cX7_perform 51 = .ok (.iload_n 3, 1) := by decide +kernel
theorem dX7_perform_52 : decode cX7_perform 52 = .ok (.iload 4, 2) := by decide +kernel
theorem dX7_perform_54 : decode cX7_perform 54 = .ok (.invokevirtual 163, 3) := by decide +kernel
theorem dX7_perform_57 : decode cX7_perform 57 = .ok (.iconst 0, 1) := by decide +kernel
theorem dX7_perform_58 : decode cX7_perform 58 = .ok (.ireturn, 1) := by decide +kernel
theorem dX7_perform_59 : decode cX7_perform 59 = .ok (.aload_n 1, 1) := by decide +kernel
theorem dX7_perform_60 : decode cX7_perform 60 = .ok (.iload_n 3, 1) := by decide +kernel
theorem dX7_perform_61 : decode cX7_perform 61 = .ok (.invokevirtual 272, 3) := by decide +kernel
theorem dX7_perform_64 : decode cX7_perform 64 = .ok (.ireturn, 1) := by decide +kernel
theorem dX7_feel_0 : decode cX7_feel 0 = .ok (.aload_n 1, 1) := by decide +kernel
theorem dX7_feel_1 : decode cX7_feel 1 = .ok (.dup, 1) := by decide +kernel
theorem dX7_feel_2 : decode cX7_feel 2 = .ok (.getfield 247, 3) := by decide +kernel
theorem dX7_feel_5 : decode cX7_feel 5 = .ok (.iconst 1, 1) := by decide +kernel
theorem dX7_feel_6 : decode cX7_feel 6 = .ok (.iadd, 1) := by decide +kernel
theorem dX7_feel_7 : decode cX7_feel 7 = .ok (.putfield 247, 3) := by decide +kernel
theorem dX7_feel_10 : decode cX7_feel 10 = .ok (.iconst 0, 1) := by decide +kernel
theorem dX7_feel_11 : decode cX7_feel 11 = .ok (.istore 4, 2) := by decide +kernel
theorem dX7_feel_13 : decode cX7_feel 13 = .ok (.iconst 0, 1) := by decide +kernel
theorem dX7_feel_14 : decode cX7_feel 14 = .ok (.istore 5, 2) := by decide +kernel
theorem dX7_feel_16 : decode cX7_feel 16 = .ok (.iload 5, 2) := by decide +kernel
theorem dX7_feel_18 : decode cX7_feel 18 = .ok (.aload_n 0, 1) := by decide +kernel
theorem dX7_feel_19 : decode cX7_feel 19 = .ok (.getfield 33, 3) := by decide +kernel
theorem dX7_feel_22 : decode cX7_feel 22 = .ok (.getfield 87, 3) := by decide +kernel
theorem dX7_feel_25 : decode cX7_feel 25 = .ok (.if_icmp .ge 56, 3) := by decide +kernel
theorem dX7_feel_28 : decode cX7_feel 28 = .ok (.aload_n 1, 1) := by decide +kernel
theorem dX7_feel_29 : decode cX7_feel 29 = .ok (.getfield 183, 3) := by decide +kernel
theorem dX7_feel_32 : decode cX7_feel 32 = .ok (.iload 5, 2) := by decide +kernel
theorem dX7_feel_34 : decode cX7_feel 34 = .ok (.iaload, 1) := by decide +kernel
theorem dX7_feel_35 : decode cX7_feel 35 = .ok (.iload_n 3, 1) := by decide +kernel
theorem dX7_feel_36 : decode cX7_feel 36 = .ok (.if_icmp .ne 39, 3) := by decide +kernel
theorem dX7_feel_39 : decode cX7_feel 39 = .ok (.aload_n 0, 1) := by decide +kernel
theorem dX7_feel_40 : decode cX7_feel 40 = .ok (.aload_n 1, 1) := by decide +kernel
theorem dX7_feel_41 : decode cX7_feel 41 = .ok (.iload 5, 2) := by decide +kernel
theorem dX7_feel_43 : decode cX7_feel 43 = .ok (.iload_n 2, 1) := by decide +kernel
theorem dX7_feel_44 : decode cX7_feel 44 = .ok (.iload_n 3, 1) := by decide +kernel
theorem dX7_feel_45 : decode cX7_feel 45 = .ok (.invokevirtual 275, 3) := by decide +kernel
theorem dX7_feel_48 : decode cX7_feel 48 = .ok (.ifCond .eq 27, 3) := by decide +kernel
theorem dX7_feel_51 : decode cX7_feel 51 = .ok (.aload_n 1, 1) := by decide +kernel
theorem dX7_feel_52 : decode cX7_feel 52 = .ok (.getfield 177, 3) := by decide +kernel
theorem dX7_feel_55 : decode cX7_feel 55 = .ok (.iload 5, 2) := by decide +kernel
theorem dX7_feel_57 : decode cX7_feel 57 = .ok (.aload_n 0, 1) := by decide +kernel
theorem dX7_feel_58 : decode cX7_feel 58 = .ok (.aload_n 1, 1) := by decide +kernel
theorem dX7_feel_59 : decode cX7_feel 59 = .ok (.getfield 177, 3) := by decide +kernel
theorem dX7_feel_62 : decode cX7_feel 62 = .ok (.iload 5, 2) := by decide +kernel
theorem dX7_feel_64 : decode cX7_feel 64 = .ok (.iaload, 1) := by decide +kernel
theorem dX7_feel_65 : decode cX7_feel 65 = .ok (.iload 5, 2) := by decide +kernel
theorem dX7_feel_67 : decode cX7_feel 67 = .ok (.iload_n 2, 1) := by decide +kernel
theorem dX7_feel_68 : decode cX7_feel 68 = .ok (.invokevirtual 278, 3) := by decide +kernel
theorem dX7_feel_71 : decode cX7_feel 71 = .ok (.iastore, 1) := by decide +kernel
theorem dX7_feel_72 : decode cX7_feel 72 = .ok (.iinc 4 1, 3) := by decide +kernel
theorem dX7_feel_75 : decode cX7_feel 75 = .ok (.iinc 5 1, 3) := by decide +kernel
theorem dX7_feel_78 : decode cX7_feel 78 = .ok (.goto (-62), 3) := by decide +kernel
theorem dX7_feel_81 : decode cX7_feel 81 = .ok (.iload 4, 2) := by decide +kernel
theorem dX7_feel_83 : decode cX7_feel 83 = .ok (.ireturn, 1) := by decide +kernel
theorem dX7_learned_0 : decode cX7_learned 0 = .ok (.iload_n 1, 1) := by decide +kernel
theorem dX7_learned_1 : decode cX7_learned 1 = .ok (.iload_n 3, 1) := by decide +kernel
theorem dX7_learned_2 : decode cX7_learned 2 = .ok (.invokestatic 281, 3) := by decide +kernel
theorem dX7_learned_5 : decode cX7_learned 5 = .ok (.istore 4, 2) := by decide +kernel
theorem dX7_learned_7 : decode cX7_learned 7 = .ok (.aload_n 0, 1) := by decide +kernel
theorem dX7_learned_8 : decode cX7_learned 8 = .ok (.getfield 33, 3) := by decide +kernel
theorem dX7_learned_11 : decode cX7_learned 11 = .ok (.getfield 93, 3) := by decide +kernel
theorem dX7_learned_14 : decode cX7_learned 14 = .ok (.iload_n 2, 1) := by decide +kernel
theorem dX7_learned_15 : decode cX7_learned 15 = .ok (.iaload, 1) := by decide +kernel
theorem dX7_learned_16 : decode cX7_learned 16 = .ok (.iconst 1, 1) := by decide +kernel
theorem dX7_learned_17 : decode cX7_learned 17 = .ok (.if_icmp .ne 12, 3) := by decide +kernel
theorem dX7_learned_20 : decode cX7_learned 20 = .ok (.iload 4, 2) := by decide +kernel
theorem dX7_learned_22 : decode cX7_learned 22 = .ok (.iload_n 3, 1) := by decide +kernel
theorem dX7_learned_23 : decode cX7_learned 23 = .ok (.invokestatic 281, 3) := by decide +kernel
theorem dX7_learned_26 : decode cX7_learned 26 = .ok (.goto 5, 3) := by decide +kernel
theorem dX7_learned_29 : decode cX7_learned 29 = .ok (.iload 4, 2) := by decide +kernel
theorem dX7_learned_31 : decode cX7_learned 31 = .ok (.ireturn, 1) := by decide +kernel
theorem dX7_isSeen_0 : decode cX7_isSeen 0 = .ok (.aload_n 0, 1) := by decide +kernel
theorem dX7_isSeen_1 : decode cX7_isSeen 1 = .ok (.aload_n 0, 1) := by decide +kernel
theorem dX7_isSeen_2 : decode cX7_isSeen 2 = .ok (.getfield 33, 3) := by decide +kernel
theorem dX7_isSeen_5 : decode cX7_isSeen 5 = .ok (.getfield 124, 3) := by decide +kernel
theorem dX7_isSeen_8 : decode cX7_isSeen 8 = .ok (.invokevirtual 120, 3) := by decide +kernel
theorem dX7_isSeen_11 : decode cX7_isSeen 11 = .ok (.ifCond .ne 5, 3) := by decide +kernel
theorem dX7_isSeen_14 : decode cX7_isSeen 14 = .ok (.iconst 1, 1) := by decide +kernel
theorem dX7_isSeen_15 : decode cX7_isSeen 15 = .ok (.ireturn, 1) := by decide +kernel
theorem dX7_isSeen_16 : decode cX7_isSeen 16 = .ok (.aload_n 0, 1) := by decide +kernel
theorem dX7_isSeen_17 : decode cX7_isSeen 17 = .ok (.getfield 26, 3) := by decide +kernel
theorem dX7_isSeen_20 : decode cX7_isSeen 20 = .ok (.aload_n 0, 1) := by decide +kernel
theorem dX7_isSeen_21 : decode cX7_isSeen 21 = .ok (.getfield 33, 3) := by decide +kernel
theorem dX7_isSeen_24 : decode cX7_isSeen 24 = .ok (.getfield 124, 3) := by decide +kernel
theorem dX7_isSeen_27 : decode cX7_isSeen 27 = .ok (.aaload, 1) := by decide +kernel
theorem dX7_isSeen_28 : decode cX7_isSeen 28 = .ok (.astore 5, 2) := by decide +kernel
theorem dX7_isSeen_30 : decode cX7_isSeen 30 = .ok (.aload 5, 2) := by decide +kernel
theorem dX7_isSeen_32 : decode cX7_isSeen 32 = .ok (.getfield 284, 3) := by decide +kernel
theorem dX7_isSeen_35 : decode cX7_isSeen 35 = .ok (.iconst (-1), 1) := by decide +kernel
theorem dX7_isSeen_36 : decode cX7_isSeen 36 = .ok (.if_icmp .ne 5, 3) := by decide +kernel
theorem dX7_isSeen_39 : decode cX7_isSeen 39 = .ok (.iconst 1, 1) := by decide +kernel
theorem dX7_isSeen_40 : decode cX7_isSeen 40 = .ok (.ireturn, 1) := by decide +kernel
theorem dX7_isSeen_41 : decode cX7_isSeen 41 = .ok (.aload_n 0, 1) := by decide +kernel
theorem dX7_isSeen_42 : decode cX7_isSeen 42 = .ok (.aload_n 1, 1) := by decide +kernel
theorem dX7_isSeen_43 : decode cX7_isSeen 43 = .ok (.iload_n 2, 1) := by decide +kernel
theorem dX7_isSeen_44 : decode cX7_isSeen 44 = .ok (.invokevirtual 287, 3) := by decide +kernel
theorem dX7_isSeen_47 : decode cX7_isSeen 47 = .ok (.aload_n 0, 1) := by decide +kernel
theorem dX7_isSeen_48 : decode cX7_isSeen 48 = .ok (.getfield 50, 3) := by decide +kernel
theorem dX7_isSeen_51 : decode cX7_isSeen 51 = .ok (.iload_n 3, 1) := by decide +kernel
theorem dX7_isSeen_52 : decode cX7_isSeen 52 = .ok (.aload_n 0, 1) := by decide +kernel
theorem dX7_isSeen_53 : decode cX7_isSeen 53 = .ok (.getfield 33, 3) := by decide +kernel
theorem dX7_isSeen_56 : decode cX7_isSeen 56 = .ok (.getfield 84, 3) := by decide +kernel
theorem dX7_isSeen_59 : decode cX7_isSeen 59 = .ok (.iload_n 3, 1) := by decide +kernel
theorem dX7_isSeen_60 : decode cX7_isSeen 60 = .ok (.iaload, 1) := by decide +kernel
theorem dX7_isSeen_61 : decode cX7_isSeen 61 = .ok (.iload 4, 2) := by decide +kernel
theorem dX7_isSeen_63 : decode cX7_isSeen 63 = .ok (.invokevirtual 291, 3) := by decide +kernel
theorem dX7_isSeen_66 : decode cX7_isSeen 66 = .ok (.aload_n 0, 1) := by decide +kernel
theorem dX7_isSeen_67 : decode cX7_isSeen 67 = .ok (.getfield 50, 3) := by decide +kernel
theorem dX7_isSeen_70 : decode cX7_isSeen 70 = .ok (.aload 5, 2) := by decide +kernel
theorem dX7_isSeen_72 : decode cX7_isSeen 72 = .ok (.getfield 295, 3) := by decide +kernel
theorem dX7_isSeen_75 : decode cX7_isSeen 75 = .ok (.aload 5, 2) := by decide +kernel
theorem dX7_isSeen_77 : decode cX7_isSeen 77 = .ok (.getfield 284, 3) := by decide +kernel
theorem dX7_isSeen_80 : decode cX7_isSeen 80 = .ok (.aload 5, 2) := by decide +kernel
theorem dX7_isSeen_82 : decode cX7_isSeen 82 = .ok (.getfield 298, 3) := by decide +kernel
theorem dX7_isSeen_85 : decode cX7_isSeen 85 = .ok (.invokevirtual 301, 3) := by decide +kernel
theorem dX7_isSeen_88 : decode cX7_isSeen 88 = .ok (.ifCond .eq 7, 3) := by decide +kernel
theorem dX7_isSeen_91 : decode cX7_isSeen 91 = .ok (.iconst 1, 1) := by decide +kernel
theorem dX7_isSeen_92 : decode cX7_isSeen 92 = .ok (.goto 4, 3) := by decide +kernel
theorem dX7_isSeen_95 : decode cX7_isSeen 95 = .ok (.iconst 0, 1) := by decide +kernel
theorem dX7_isSeen_96 : decode cX7_isSeen 96 = .ok (.ireturn, 1) := by decide +kernel
theorem dX7_rubsOf_0 : decode cX7_rubsOf 0 = .ok (.aload_n 0, 1) := by decide +kernel
theorem dX7_rubsOf_1 : decode cX7_rubsOf 1 = .ok (.aload_n 0, 1) := by decide +kernel
theorem dX7_rubsOf_2 : decode cX7_rubsOf 2 = .ok (.getfield 33, 3) := by decide +kernel
theorem dX7_rubsOf_5 : decode cX7_rubsOf 5 = .ok (.getfield 124, 3) := by decide +kernel
theorem dX7_rubsOf_8 : decode cX7_rubsOf 8 = .ok (.invokevirtual 120, 3) := by decide +kernel
theorem dX7_rubsOf_11 : decode cX7_rubsOf 11 = .ok (.ifCond .ne 5, 3) := by decide +kernel
theorem dX7_rubsOf_14 : decode cX7_rubsOf 14 = .ok (.iconst 1, 1) := by decide +kernel
theorem dX7_rubsOf_15 : decode cX7_rubsOf 15 = .ok (.ireturn, 1) := by decide +kernel
theorem dX7_rubsOf_16 : decode cX7_rubsOf 16 = .ok (.aload_n 0, 1) := by decide +kernel
theorem dX7_rubsOf_17 : decode cX7_rubsOf 17 = .ok (.getfield 26, 3) := by decide +kernel
theorem dX7_rubsOf_20 : decode cX7_rubsOf 20 = .ok (.aload_n 0, 1) := by decide +kernel
theorem dX7_rubsOf_21 : decode cX7_rubsOf 21 = .ok (.getfield 33, 3) := by decide +kernel
theorem dX7_rubsOf_24 : decode cX7_rubsOf 24 = .ok (.getfield 124, 3) := by decide +kernel
theorem dX7_rubsOf_27 : decode cX7_rubsOf 27 = .ok (.aaload, 1) := by decide +kernel
theorem dX7_rubsOf_28 : decode cX7_rubsOf 28 = .ok (.astore_n 2, 1) := by decide +kernel
theorem dX7_rubsOf_29 : decode cX7_rubsOf 29 = .ok (.aload_n 2, 1) := by decide +kernel
theorem dX7_rubsOf_30 : decode cX7_rubsOf 30 = .ok (.getfield 305, 3) := by decide +kernel
theorem dX7_rubsOf_33 : decode cX7_rubsOf 33 = .ok (.iconst (-1), 1) := by decide +kernel
theorem dX7_rubsOf_34 : decode cX7_rubsOf 34 = .ok (.if_icmp .ne 5, 3) := by decide +kernel
theorem dX7_rubsOf_37 : decode cX7_rubsOf 37 = .ok (.iconst 1, 1) := by decide +kernel
theorem dX7_rubsOf_38 : decode cX7_rubsOf 38 = .ok (.ireturn, 1) := by decide +kernel
theorem dX7_rubsOf_39 : decode cX7_rubsOf 39 = .ok (.aload_n 0, 1) := by decide +kernel
theorem dX7_rubsOf_40 : decode cX7_rubsOf 40 = .ok (.aload_n 0, 1) := by decide +kernel
theorem dX7_rubsOf_41 : decode cX7_rubsOf 41 = .ok (.getfield 33, 3) := by decide +kernel
theorem dX7_rubsOf_44 : decode cX7_rubsOf 44 = .ok (.getfield 150, 3) := by decide +kernel
theorem dX7_rubsOf_47 : decode cX7_rubsOf 47 = .ok (.iload_n 1, 1) := by decide +kernel
theorem dX7_rubsOf_48 : decode cX7_rubsOf 48 = .ok (.invokevirtual 287, 3) := by decide +kernel
theorem dX7_rubsOf_51 : decode cX7_rubsOf 51 = .ok (.aload_n 0, 1) := by decide +kernel
theorem dX7_rubsOf_52 : decode cX7_rubsOf 52 = .ok (.getfield 50, 3) := by decide +kernel
theorem dX7_rubsOf_55 : decode cX7_rubsOf 55 = .ok (.aload_n 2, 1) := by decide +kernel
theorem dX7_rubsOf_56 : decode cX7_rubsOf 56 = .ok (.getfield 295, 3) := by decide +kernel
theorem dX7_rubsOf_59 : decode cX7_rubsOf 59 = .ok (.aload_n 2, 1) := by decide +kernel
theorem dX7_rubsOf_60 : decode cX7_rubsOf 60 = .ok (.getfield 305, 3) := by decide +kernel
theorem dX7_rubsOf_63 : decode cX7_rubsOf 63 = .ok (.aload_n 2, 1) := by decide +kernel
theorem dX7_rubsOf_64 : decode cX7_rubsOf 64 = .ok (.getfield 308, 3) := by decide +kernel
theorem dX7_rubsOf_67 : decode cX7_rubsOf 67 = .ok (.invokevirtual 301, 3) := by decide +kernel
theorem dX7_rubsOf_70 : decode cX7_rubsOf 70 = .ok (.istore_n 3, 1) := by decide +kernel
theorem dX7_rubsOf_71 : decode cX7_rubsOf 71 = .ok (.iconst 0, 1) := by decide +kernel
theorem dX7_rubsOf_72 : decode cX7_rubsOf 72 = .ok (.bipush 99, 2) := by decide +kernel
theorem dX7_rubsOf_74 : decode cX7_rubsOf 74 = .ok (.iload_n 3, 1) := by decide +kernel
theorem dX7_rubsOf_75 : decode cX7_rubsOf 75 = .ok (.invokestatic 68, 3) := by decide +kernel
theorem dX7_rubsOf_78 : decode cX7_rubsOf 78 = .ok (.invokestatic 74, 3) := by decide +kernel
theorem dX7_rubsOf_81 : decode cX7_rubsOf 81 = .ok (.ireturn, 1) := by decide +kernel
theorem dX7_nameEye_0 : decode cX7_nameEye 0 = .ok (.aload_n 0, 1) := by decide +kernel
theorem dX7_nameEye_1 : decode cX7_nameEye 1 = .ok (.getfield 50, 3) := by decide +kernel
theorem dX7_nameEye_4 : decode cX7_nameEye 4 = .ok (.iload_n 2, 1) := by decide +kernel
theorem dX7_nameEye_5 : decode cX7_nameEye 5 = .ok (.aload_n 0, 1) := by decide +kernel
theorem dX7_nameEye_6 : decode cX7_nameEye 6 = .ok (.getfield 33, 3) := by decide +kernel
theorem dX7_nameEye_9 : decode cX7_nameEye 9 = .ok (.getfield 90, 3) := by decide +kernel
theorem dX7_nameEye_12 : decode cX7_nameEye 12 = .ok (.iload_n 2, 1) := by decide +kernel
theorem dX7_nameEye_13 : decode cX7_nameEye 13 = .ok (.iaload, 1) := by decide +kernel
theorem dX7_nameEye_14 : decode cX7_nameEye 14 = .ok (.aload_n 0, 1) := by decide +kernel
theorem dX7_nameEye_15 : decode cX7_nameEye 15 = .ok (.getfield 33, 3) := by decide +kernel
theorem dX7_nameEye_18 : decode cX7_nameEye 18 = .ok (.getfield 93, 3) := by decide +kernel
theorem dX7_nameEye_21 : decode cX7_nameEye 21 = .ok (.iload_n 2, 1) := by decide +kernel
theorem dX7_nameEye_22 : decode cX7_nameEye 22 = .ok (.iaload, 1) := by decide +kernel
theorem dX7_nameEye_23 : decode cX7_nameEye 23 = .ok (.invokevirtual 311, 3) := by decide +kernel
theorem dX7_nameEye_26 : decode cX7_nameEye 26 = .ok (.aload_n 0, 1) := by decide +kernel
theorem dX7_nameEye_27 : decode cX7_nameEye 27 = .ok (.getfield 50, 3) := by decide +kernel
theorem dX7_nameEye_30 : decode cX7_nameEye 30 = .ok (.aload_n 1, 1) := by decide +kernel
theorem dX7_nameEye_31 : decode cX7_nameEye 31 = .ok (.getfield 247, 3) := by decide +kernel
theorem dX7_nameEye_34 : decode cX7_nameEye 34 = .ok (.aload_n 1, 1) := by decide +kernel
theorem dX7_nameEye_35 : decode cX7_nameEye 35 = .ok (.getfield 247, 3) := by decide +kernel
theorem dX7_nameEye_38 : decode cX7_nameEye 38 = .ok (.aload_n 1, 1) := by decide +kernel
theorem dX7_nameEye_39 : decode cX7_nameEye 39 = .ok (.getfield 186, 3) := by decide +kernel
theorem dX7_nameEye_42 : decode cX7_nameEye 42 = .ok (.iload_n 2, 1) := by decide +kernel
theorem dX7_nameEye_43 : decode cX7_nameEye 43 = .ok (.iaload, 1) := by decide +kernel
theorem dX7_nameEye_44 : decode cX7_nameEye 44 = .ok (.isub, 1) := by decide +kernel
theorem dX7_nameEye_45 : decode cX7_nameEye 45 = .ok (.aload_n 1, 1) := by decide +kernel
theorem dX7_nameEye_46 : decode cX7_nameEye 46 = .ok (.getfield 177, 3) := by decide +kernel
theorem dX7_nameEye_49 : decode cX7_nameEye 49 = .ok (.iload_n 2, 1) := by decide +kernel
theorem dX7_nameEye_50 : decode cX7_nameEye 50 = .ok (.iaload, 1) := by decide +kernel
theorem dX7_nameEye_51 : decode cX7_nameEye 51 = .ok (.invokestatic 313, 3) := by decide +kernel
theorem dX7_nameEye_54 : decode cX7_nameEye 54 = .ok (.invokevirtual 316, 3) := by decide +kernel
theorem dX7_nameEye_57 : decode cX7_nameEye 57 = .ok (.return_, 1) := by decide +kernel
theorem dX7_tellAll_0 : decode cX7_tellAll 0 = .ok (.iconst 0, 1) := by decide +kernel
theorem dX7_tellAll_1 : decode cX7_tellAll 1 = .ok (.istore_n 2, 1) := by decide +kernel
theorem dX7_tellAll_2 : decode cX7_tellAll 2 = .ok (.iload_n 2, 1) := by decide +kernel
theorem dX7_tellAll_3 : decode cX7_tellAll 3 = .ok (.aload_n 0, 1) := by decide +kernel
theorem dX7_tellAll_4 : decode cX7_tellAll 4 = .ok (.getfield 33, 3) := by decide +kernel
theorem dX7_tellAll_7 : decode cX7_tellAll 7 = .ok (.getfield 100, 3) := by decide +kernel
theorem dX7_tellAll_10 : decode cX7_tellAll 10 = .ok (.if_icmp .ge 63, 3) := by decide +kernel
theorem dX7_tellAll_13 : decode cX7_tellAll 13 = .ok (.iload_n 1, 1) := by decide +kernel
theorem dX7_tellAll_14 : decode cX7_tellAll 14 = .ok (.iload_n 2, 1) := by decide +kernel
theorem dX7_tellAll_15 : decode cX7_tellAll 15 = .ok (.ishr, 1) := by decide +kernel
theorem dX7_tellAll_16 : decode cX7_tellAll 16 = .ok (.iconst 1, 1) := by decide +kernel
theorem dX7_tellAll_17 : decode cX7_tellAll 17 = .ok (.iand, 1) := by decide +kernel
theorem dX7_tellAll_18 : decode cX7_tellAll 18 = .ok (.iconst 1, 1) := by decide +kernel
theorem dX7_tellAll_19 : decode cX7_tellAll 19 = .ok (.if_icmp .ne 48, 3) := by decide +kernel
theorem dX7_tellAll_22 : decode cX7_tellAll 22 = .ok (.aload_n 0, 1) := by decide +kernel
theorem dX7_tellAll_23 : decode cX7_tellAll 23 = .ok (.getfield 43, 3) := by decide +kernel
theorem dX7_tellAll_26 : decode cX7_tellAll 26 = .ok (.aload_n 0, 1) := by decide +kernel
theorem dX7_tellAll_27 : decode cX7_tellAll 27 = .ok (.getfield 33, 3) := by decide +kernel
theorem dX7_tellAll_30 : decode cX7_tellAll 30 = .ok (.getfield 150, 3) := by decide +kernel
theorem dX7_tellAll_33 : decode cX7_tellAll 33 = .ok (.invokevirtual 192, 3) := by decide +kernel
theorem dX7_tellAll_36 : decode cX7_tellAll 36 = .ok (.aload_n 0, 1) := by decide +kernel
theorem dX7_tellAll_37 : decode cX7_tellAll 37 = .ok (.aload_n 0, 1) := by decide +kernel
theorem dX7_tellAll_38 : decode cX7_tellAll 38 = .ok (.getfield 26, 3) := by decide +kernel
theorem dX7_tellAll_41 : decode cX7_tellAll 41 = .ok (.iload_n 2, 1) := by decide +kernel
theorem dX7_tellAll_42 : decode cX7_tellAll 42 = .ok (.aaload, 1) := by decide +kernel
theorem dX7_tellAll_43 : decode cX7_tellAll 43 = .ok (.invokevirtual 195, 3) := by decide +kernel
theorem dX7_tellAll_46 : decode cX7_tellAll 46 = .ok (.aload_n 0, 1) := by decide +kernel
theorem dX7_tellAll_47 : decode cX7_tellAll 47 = .ok (.getfield 43, 3) := by decide +kernel
theorem dX7_tellAll_50 : decode cX7_tellAll 50 = .ok (.getfield 177, 3) := by decide +kernel
theorem dX7_tellAll_53 : decode cX7_tellAll 53 = .ok (.iconst 0, 1) := by decide +kernel
theorem dX7_tellAll_54 : decode cX7_tellAll 54 = .ok (.aload_n 0, 1) := by decide +kernel
theorem dX7_tellAll_55 : decode cX7_tellAll 55 = .ok (.getfield 61, 3) := by decide +kernel
theorem dX7_tellAll_58 : decode cX7_tellAll 58 = .ok (.iload_n 2, 1) := by decide +kernel
theorem dX7_tellAll_59 : decode cX7_tellAll 59 = .ok (.bipush 8, 2) := by decide +kernel
theorem dX7_tellAll_61 : decode cX7_tellAll 61 = .ok (.imul, 1) := by decide +kernel
theorem dX7_tellAll_62 : decode cX7_tellAll 62 = .ok (.bipush 8, 2) := by decide +kernel
theorem dX7_tellAll_64 : decode cX7_tellAll 64 = .ok (.invokestatic 319, 3) := by decide +kernel
theorem dX7_tellAll_67 : decode cX7_tellAll 67 = .ok (.iinc 2 1, 3) := by decide +kernel
theorem dX7_tellAll_70 : decode cX7_tellAll 70 = .ok (.goto (-68), 3) := by decide +kernel
theorem dX7_tellAll_73 : decode cX7_tellAll 73 = .ok (.return_, 1) := by decide +kernel
theorem dX7_tellsApart_0 : decode cX7_tellsApart 0 = .ok (.iconst 0, 1) := by decide +kernel
theorem dX7_tellsApart_1 : decode cX7_tellsApart 1 = .ok (.istore_n 3, 1) := by decide +kernel
theorem dX7_tellsApart_2 : decode cX7_tellsApart 2 = .ok (.iload_n 3, 1) := by decide +kernel
theorem dX7_tellsApart_3 : decode cX7_tellsApart 3 = .ok (.aload_n 0, 1) := by decide +kernel
theorem dX7_tellsApart_4 : decode cX7_tellsApart 4 = .ok (.getfield 33, 3) := by decide +kernel
theorem dX7_tellsApart_7 : decode cX7_tellsApart 7 = .ok (.getfield 100, 3) := by decide +kernel
theorem dX7_tellsApart_10 : decode cX7_tellsApart 10 = .ok (.if_icmp .ge 77, 3) := by decide +kernel
theorem dX7_tellsApart_13 : decode cX7_tellsApart 13 = .ok (.iload_n 3, 1) := by decide +kernel
theorem dX7_tellsApart_14 : decode cX7_tellsApart 14 = .ok (.iconst 1, 1) := by decide +kernel
theorem dX7_tellsApart_15 : decode cX7_tellsApart 15 = .ok (.iadd, 1) := by decide +kernel
theorem dX7_tellsApart_16 : decode cX7_tellsApart 16 = .ok (.istore 4, 2) := by decide +kernel
theorem dX7_tellsApart_18 : decode cX7_tellsApart 18 = .ok (.iload 4, 2) := by decide +kernel
theorem dX7_tellsApart_20 : decode cX7_tellsApart 20 = .ok (.aload_n 0, 1) := by decide +kernel
theorem dX7_tellsApart_21 : decode cX7_tellsApart 21 = .ok (.getfield 33, 3) := by decide +kernel
theorem dX7_tellsApart_24 : decode cX7_tellsApart 24 = .ok (.getfield 100, 3) := by decide +kernel
theorem dX7_tellsApart_27 : decode cX7_tellsApart 27 = .ok (.if_icmp .ge 54, 3) := by decide +kernel
theorem dX7_tellsApart_30 : decode cX7_tellsApart 30 = .ok (.iload_n 2, 1) := by decide +kernel
theorem dX7_tellsApart_31 : decode cX7_tellsApart 31 = .ok (.iload_n 3, 1) := by decide +kernel
theorem dX7_tellsApart_32 : decode cX7_tellsApart 32 = .ok (.ishr, 1) := by decide +kernel
theorem dX7_tellsApart_33 : decode cX7_tellsApart 33 = .ok (.iload_n 2, 1) := by decide +kernel
theorem dX7_tellsApart_34 : decode cX7_tellsApart 34 = .ok (.iload 4, 2) := by decide +kernel
theorem dX7_tellsApart_36 : decode cX7_tellsApart 36 = .ok (.ishr, 1) := by decide +kernel
theorem dX7_tellsApart_37 : decode cX7_tellsApart 37 = .ok (.iand, 1) := by decide +kernel
theorem dX7_tellsApart_38 : decode cX7_tellsApart 38 = .ok (.iconst 1, 1) := by decide +kernel
theorem dX7_tellsApart_39 : decode cX7_tellsApart 39 = .ok (.iand, 1) := by decide +kernel
theorem dX7_tellsApart_40 : decode cX7_tellsApart 40 = .ok (.iconst 1, 1) := by decide +kernel
theorem dX7_tellsApart_41 : decode cX7_tellsApart 41 = .ok (.if_icmp .ne 7, 3) := by decide +kernel
theorem dX7_tellsApart_44 : decode cX7_tellsApart 44 = .ok (.iconst 1, 1) := by decide +kernel
theorem dX7_tellsApart_45 : decode cX7_tellsApart 45 = .ok (.goto 4, 3) := by decide +kernel
theorem dX7_tellsApart_48 : decode cX7_tellsApart 48 = .ok (.iconst 0, 1) := by decide +kernel
theorem dX7_tellsApart_49 : decode cX7_tellsApart 49 = .ok (.istore 5, 2) := by decide +kernel
theorem dX7_tellsApart_51 : decode cX7_tellsApart 51 = .ok (.iload 5, 2) := by decide +kernel
theorem dX7_tellsApart_53 : decode cX7_tellsApart 53 = .ok (.ifCond .eq 22, 3) := by decide +kernel
theorem dX7_tellsApart_56 : decode cX7_tellsApart 56 = .ok (.aload_n 0, 1) := by decide +kernel
theorem dX7_tellsApart_57 : decode cX7_tellsApart 57 = .ok (.iload_n 1, 1) := by decide +kernel
theorem dX7_tellsApart_58 : decode cX7_tellsApart 58 = .ok (.iload_n 3, 1) := by decide +kernel
theorem dX7_tellsApart_59 : decode cX7_tellsApart 59 = .ok (.bipush 8, 2) := by decide +kernel
theorem dX7_tellsApart_61 : decode cX7_tellsApart 61 = .ok (.imul, 1) := by decide +kernel
theorem dX7_tellsApart_62 : decode cX7_tellsApart 62 = .ok (.iload 4, 2) := by decide +kernel
theorem dX7_tellsApart_64 : decode cX7_tellsApart 64 = .ok (.bipush 8, 2) := by decide +kernel
theorem dX7_tellsApart_66 : decode cX7_tellsApart 66 = .ok (.imul, 1) := by decide +kernel
theorem dX7_tellsApart_67 : decode cX7_tellsApart 67 = .ok (.invokevirtual 325, 3) := by decide +kernel
theorem dX7_tellsApart_70 : decode cX7_tellsApart 70 = .ok (.ifCond .ne 5, 3) := by decide +kernel
theorem dX7_tellsApart_73 : decode cX7_tellsApart 73 = .ok (.iconst 0, 1) := by decide +kernel
theorem dX7_tellsApart_74 : decode cX7_tellsApart 74 = .ok (.ireturn, 1) := by decide +kernel
theorem dX7_tellsApart_75 : decode cX7_tellsApart 75 = .ok (.iinc 4 1, 3) := by decide +kernel
theorem dX7_tellsApart_78 : decode cX7_tellsApart 78 = .ok (.goto (-60), 3) := by decide +kernel
theorem dX7_tellsApart_81 : decode cX7_tellsApart 81 = .ok (.iinc 3 1, 3) := by decide +kernel
theorem dX7_tellsApart_84 : decode cX7_tellsApart 84 = .ok (.goto (-82), 3) := by decide +kernel
theorem dX7_tellsApart_87 : decode cX7_tellsApart 87 = .ok (.iconst 1, 1) := by decide +kernel
theorem dX7_tellsApart_88 : decode cX7_tellsApart 88 = .ok (.ireturn, 1) := by decide +kernel
theorem dX7_differ_0 : decode cX7_differ 0 = .ok (.iconst 0, 1) := by decide +kernel
theorem dX7_differ_1 : decode cX7_differ 1 = .ok (.istore 4, 2) := by decide +kernel
theorem dX7_differ_3 : decode cX7_differ 3 = .ok (.iload 4, 2) := by decide +kernel
theorem dX7_differ_5 : decode cX7_differ 5 = .ok (.aload_n 0, 1) := by decide +kernel
theorem dX7_differ_6 : decode cX7_differ 6 = .ok (.getfield 33, 3) := by decide +kernel
theorem dX7_differ_9 : decode cX7_differ 9 = .ok (.getfield 87, 3) := by decide +kernel
theorem dX7_differ_12 : decode cX7_differ 12 = .ok (.if_icmp .ge 42, 3) := by decide +kernel
theorem dX7_differ_15 : decode cX7_differ 15 = .ok (.iload_n 1, 1) := by decide +kernel
theorem dX7_differ_16 : decode cX7_differ 16 = .ok (.iload 4, 2) := by decide +kernel
theorem dX7_differ_18 : decode cX7_differ 18 = .ok (.ishr, 1) := by decide +kernel
theorem dX7_differ_19 : decode cX7_differ 19 = .ok (.iconst 1, 1) := by decide +kernel
theorem dX7_differ_20 : decode cX7_differ 20 = .ok (.iand, 1) := by decide +kernel
theorem dX7_differ_21 : decode cX7_differ 21 = .ok (.iconst 1, 1) := by decide +kernel
theorem dX7_differ_22 : decode cX7_differ 22 = .ok (.if_icmp .ne 26, 3) := by decide +kernel
theorem dX7_differ_25 : decode cX7_differ 25 = .ok (.aload_n 0, 1) := by decide +kernel
theorem dX7_differ_26 : decode cX7_differ 26 = .ok (.getfield 61, 3) := by decide +kernel
theorem dX7_differ_29 : decode cX7_differ 29 = .ok (.iload_n 2, 1) := by decide +kernel
theorem dX7_differ_30 : decode cX7_differ 30 = .ok (.iload 4, 2) := by decide +kernel
theorem dX7_differ_32 : decode cX7_differ 32 = .ok (.iadd, 1) := by decide +kernel
theorem dX7_differ_33 : decode cX7_differ 33 = .ok (.iaload, 1) := by decide +kernel
theorem dX7_differ_34 : decode cX7_differ 34 = .ok (.aload_n 0, 1) := by decide +kernel
theorem dX7_differ_35 : decode cX7_differ 35 = .ok (.getfield 61, 3) := by decide +kernel
theorem dX7_differ_38 : decode cX7_differ 38 = .ok (.iload_n 3, 1) := by decide +kernel
theorem dX7_differ_39 : decode cX7_differ 39 = .ok (.iload 4, 2) := by decide +kernel
theorem dX7_differ_41 : decode cX7_differ 41 = .ok (.iadd, 1) := by decide +kernel
theorem dX7_differ_42 : decode cX7_differ 42 = .ok (.iaload, 1) := by decide +kernel
theorem dX7_differ_43 : decode cX7_differ 43 = .ok (.if_icmp .eq 5, 3) := by decide +kernel
theorem dX7_differ_46 : decode cX7_differ 46 = .ok (.iconst 1, 1) := by decide +kernel
theorem dX7_differ_47 : decode cX7_differ 47 = .ok (.ireturn, 1) := by decide +kernel
theorem dX7_differ_48 : decode cX7_differ 48 = .ok (.iinc 4 1, 3) := by decide +kernel
theorem dX7_differ_51 : decode cX7_differ 51 = .ok (.goto (-48), 3) := by decide +kernel
theorem dX7_differ_54 : decode cX7_differ 54 = .ok (.iconst 0, 1) := by decide +kernel
theorem dX7_differ_55 : decode cX7_differ 55 = .ok (.ireturn, 1) := by decide +kernel
theorem dX7_isNoWorse_0 : decode cX7_isNoWorse 0 = .ok (.aload_n 0, 1) := by decide +kernel
theorem dX7_isNoWorse_1 : decode cX7_isNoWorse 1 = .ok (.iload_n 2, 1) := by decide +kernel
theorem dX7_isNoWorse_2 : decode cX7_isNoWorse 2 = .ok (.invokevirtual 329, 3) := by decide +kernel
theorem dX7_isNoWorse_5 : decode cX7_isNoWorse 5 = .ok (.aload_n 0, 1) := by decide +kernel
theorem dX7_isNoWorse_6 : decode cX7_isNoWorse 6 = .ok (.iload_n 1, 1) := by decide +kernel
theorem dX7_isNoWorse_7 : decode cX7_isNoWorse 7 = .ok (.invokevirtual 329, 3) := by decide +kernel
theorem dX7_isNoWorse_10 : decode cX7_isNoWorse 10 = .ok (.isub, 1) := by decide +kernel
theorem dX7_isNoWorse_11 : decode cX7_isNoWorse 11 = .ok (.istore_n 3, 1) := by decide +kernel
theorem dX7_isNoWorse_12 : decode cX7_isNoWorse 12 = .ok (.iload_n 3, 1) := by decide +kernel
theorem dX7_isNoWorse_13 : decode cX7_isNoWorse 13 = .ok (.ifCond .gt 18, 3) := by decide +kernel
theorem dX7_isNoWorse_16 : decode cX7_isNoWorse 16 = .ok (.iload_n 3, 1) := by decide +kernel
theorem dX7_isNoWorse_17 : decode cX7_isNoWorse 17 = .ok (.ifCond .ne 18, 3) := by decide +kernel
theorem dX7_isNoWorse_20 : decode cX7_isNoWorse 20 = .ok (.iload_n 1, 1) := by decide +kernel
theorem dX7_isNoWorse_21 : decode cX7_isNoWorse 21 = .ok (.invokestatic 199, 3) := by decide +kernel
theorem dX7_isNoWorse_24 : decode cX7_isNoWorse 24 = .ok (.iload_n 2, 1) := by decide +kernel
theorem dX7_isNoWorse_25 : decode cX7_isNoWorse 25 = .ok (.invokestatic 199, 3) := by decide +kernel
theorem dX7_isNoWorse_28 : decode cX7_isNoWorse 28 = .ok (.if_icmp .gt 7, 3) := by decide +kernel
theorem dX7_isNoWorse_31 : decode cX7_isNoWorse 31 = .ok (.iconst 1, 1) := by decide +kernel
theorem dX7_isNoWorse_32 : decode cX7_isNoWorse 32 = .ok (.goto 4, 3) := by decide +kernel
theorem dX7_isNoWorse_35 : decode cX7_isNoWorse 35 = .ok (.iconst 0, 1) := by decide +kernel
theorem dX7_isNoWorse_36 : decode cX7_isNoWorse 36 = .ok (.ireturn, 1) := by decide +kernel
theorem dX7_priceOf_0 : decode cX7_priceOf 0 = .ok (.iconst 0, 1) := by decide +kernel
theorem dX7_priceOf_1 : decode cX7_priceOf 1 = .ok (.istore_n 2, 1) := by decide +kernel
theorem dX7_priceOf_2 : decode cX7_priceOf 2 = .ok (.iconst 0, 1) := by decide +kernel
theorem dX7_priceOf_3 : decode cX7_priceOf 3 = .ok (.istore_n 3, 1) := by decide +kernel
theorem dX7_priceOf_4 : decode cX7_priceOf 4 = .ok (.iload_n 3, 1) := by decide +kernel
theorem dX7_priceOf_5 : decode cX7_priceOf 5 = .ok (.aload_n 0, 1) := by decide +kernel
theorem dX7_priceOf_6 : decode cX7_priceOf 6 = .ok (.getfield 33, 3) := by decide +kernel
theorem dX7_priceOf_9 : decode cX7_priceOf 9 = .ok (.getfield 87, 3) := by decide +kernel
theorem dX7_priceOf_12 : decode cX7_priceOf 12 = .ok (.if_icmp .ge 24, 3) := by decide +kernel
theorem dX7_priceOf_15 : decode cX7_priceOf 15 = .ok (.iload_n 2, 1) := by decide +kernel
theorem dX7_priceOf_16 : decode cX7_priceOf 16 = .ok (.aload_n 0, 1) := by decide +kernel
theorem dX7_priceOf_17 : decode cX7_priceOf 17 = .ok (.getfield 65, 3) := by decide +kernel
theorem dX7_priceOf_20 : decode cX7_priceOf 20 = .ok (.iload_n 3, 1) := by decide +kernel
theorem dX7_priceOf_21 : decode cX7_priceOf 21 = .ok (.iaload, 1) := by decide +kernel
theorem dX7_priceOf_22 : decode cX7_priceOf 22 = .ok (.iload_n 1, 1) := by decide +kernel
theorem dX7_priceOf_23 : decode cX7_priceOf 23 = .ok (.iload_n 3, 1) := by decide +kernel
theorem dX7_priceOf_24 : decode cX7_priceOf 24 = .ok (.ishr, 1) := by decide +kernel
theorem dX7_priceOf_25 : decode cX7_priceOf 25 = .ok (.iconst 1, 1) := by decide +kernel
theorem dX7_priceOf_26 : decode cX7_priceOf 26 = .ok (.iand, 1) := by decide +kernel
theorem dX7_priceOf_27 : decode cX7_priceOf 27 = .ok (.imul, 1) := by decide +kernel
theorem dX7_priceOf_28 : decode cX7_priceOf 28 = .ok (.iadd, 1) := by decide +kernel
theorem dX7_priceOf_29 : decode cX7_priceOf 29 = .ok (.istore_n 2, 1) := by decide +kernel
theorem dX7_priceOf_30 : decode cX7_priceOf 30 = .ok (.iinc 3 1, 3) := by decide +kernel
theorem dX7_priceOf_33 : decode cX7_priceOf 33 = .ok (.goto (-29), 3) := by decide +kernel
theorem dX7_priceOf_36 : decode cX7_priceOf 36 = .ok (.iload_n 2, 1) := by decide +kernel
theorem dX7_priceOf_37 : decode cX7_priceOf 37 = .ok (.ireturn, 1) := by decide +kernel
theorem dX7_findRows_0 : decode cX7_findRows 0 = .ok (.aload_n 0, 1) := by decide +kernel
theorem dX7_findRows_1 : decode cX7_findRows 1 = .ok (.getfield 43, 3) := by decide +kernel
theorem dX7_findRows_4 : decode cX7_findRows 4 = .ok (.aload_n 0, 1) := by decide +kernel
theorem dX7_findRows_5 : decode cX7_findRows 5 = .ok (.getfield 33, 3) := by decide +kernel
theorem dX7_findRows_8 : decode cX7_findRows 8 = .ok (.getfield 150, 3) := by decide +kernel
theorem dX7_findRows_11 : decode cX7_findRows 11 = .ok (.invokevirtual 192, 3) := by decide +kernel
theorem dX7_findRows_14 : decode cX7_findRows 14 = .ok (.aload_n 0, 1) := by decide +kernel
theorem dX7_findRows_15 : decode cX7_findRows 15 = .ok (.getfield 57, 3) := by decide +kernel
theorem dX7_findRows_18 : decode cX7_findRows 18 = .ok (.iload_n 1, 1) := by decide +kernel
theorem dX7_findRows_19 : decode cX7_findRows 19 = .ok (.iload_n 2, 1) := by decide +kernel
theorem dX7_findRows_20 : decode cX7_findRows 20 = .ok (.aload_n 0, 1) := by decide +kernel
theorem dX7_findRows_21 : decode cX7_findRows 21 = .ok (.getfield 43, 3) := by decide +kernel
theorem dX7_findRows_24 : decode cX7_findRows 24 = .ok (.getfield 183, 3) := by decide +kernel
theorem dX7_findRows_27 : decode cX7_findRows 27 = .ok (.iload_n 1, 1) := by decide +kernel
theorem dX7_findRows_28 : decode cX7_findRows 28 = .ok (.iaload, 1) := by decide +kernel
theorem dX7_findRows_29 : decode cX7_findRows 29 = .ok (.aload_n 0, 1) := by decide +kernel
theorem dX7_findRows_30 : decode cX7_findRows 30 = .ok (.getfield 77, 3) := by decide +kernel
theorem dX7_findRows_33 : decode cX7_findRows 33 = .ok (.invokevirtual 332, 3) := by decide +kernel
theorem dX7_findRows_36 : decode cX7_findRows 36 = .ok (.aload_n 0, 1) := by decide +kernel
theorem dX7_findRows_37 : decode cX7_findRows 37 = .ok (.getfield 43, 3) := by decide +kernel
theorem dX7_findRows_40 : decode cX7_findRows 40 = .ok (.getfield 247, 3) := by decide +kernel
theorem dX7_findRows_43 : decode cX7_findRows 43 = .ok (.iload_n 2, 1) := by decide +kernel
theorem dX7_findRows_44 : decode cX7_findRows 44 = .ok (.iadd, 1) := by decide +kernel
theorem dX7_findRows_45 : decode cX7_findRows 45 = .ok (.sipush 999, 3) := by decide +kernel
theorem dX7_findRows_48 : decode cX7_findRows 48 = .ok (.if_icmp .gt 19, 3) := by decide +kernel
theorem dX7_findRows_51 : decode cX7_findRows 51 = .ok (.aload_n 0, 1) := by decide +kernel
theorem dX7_findRows_52 : decode cX7_findRows 52 = .ok (.iconst 0, 1) := by decide +kernel
theorem dX7_findRows_53 : decode cX7_findRows 53 = .ok (.aload_n 0, 1) := by decide +kernel
theorem dX7_findRows_54 : decode cX7_findRows 54 = .ok (.getfield 43, 3) := by decide +kernel
theorem dX7_findRows_57 : decode cX7_findRows 57 = .ok (.getfield 177, 3) := by decide +kernel
theorem dX7_findRows_60 : decode cX7_findRows 60 = .ok (.iload_n 1, 1) := by decide +kernel
theorem dX7_findRows_61 : decode cX7_findRows 61 = .ok (.iaload, 1) := by decide +kernel
theorem dX7_findRows_62 : decode cX7_findRows 62 = .ok (.iconst 1, 1) := by decide +kernel
theorem dX7_findRows_63 : decode cX7_findRows 63 = .ok (.iconst 0, 1) := by decide +kernel
theorem dX7_findRows_64 : decode cX7_findRows 64 = .ok (.invokevirtual 335, 3) := by decide +kernel
theorem dX7_findRows_67 : decode cX7_findRows 67 = .ok (.return_, 1) := by decide +kernel
theorem dX7_goThroughRows_0 : decode cX7_goThroughRows 0 = .ok (.iload_n 1, 1) := by decide +kernel
theorem dX7_goThroughRows_1 : decode cX7_goThroughRows 1 = .ok (.aload_n 0, 1) := by decide +kernel
theorem dX7_goThroughRows_2 : decode cX7_goThroughRows 2 = .ok (.getfield 57, 3) := by decide +kernel
theorem dX7_goThroughRows_5 : decode cX7_goThroughRows 5 = .ok (.getfield 338, 3) := by decide +kernel
theorem dX7_goThroughRows_8 : decode cX7_goThroughRows 8 = .ok (.if_icmp .lt 25, 3) := by decide +kernel
theorem dX7_goThroughRows_11 : decode cX7_goThroughRows 11 = .ok (.iload_n 2, 1) := by decide +kernel
theorem dX7_goThroughRows_12 : decode cX7_goThroughRows 12 = .ok (.aload_n 0, 1) := by decide +kernel
theorem dX7_goThroughRows_13 : decode cX7_goThroughRows 13 = .ok (.getfield 33, 3) := by decide +kernel
theorem dX7_goThroughRows_16 : decode cX7_goThroughRows 16 = .ok (.getfield 220, 3) := by decide +kernel
theorem dX7_goThroughRows_19 : decode cX7_goThroughRows 19 = .ok (.if_icmp .ne 13, 3) := by decide +kernel
theorem dX7_goThroughRows_22 : decode cX7_goThroughRows 22 = .ok (.aload_n 0, 1) := by decide +kernel
theorem dX7_goThroughRows_23 : decode cX7_goThroughRows 23 = .ok (.getfield 57, 3) := by decide +kernel
theorem dX7_goThroughRows_26 : decode cX7_goThroughRows 26 = .ok (.iload_n 3, 1) := by decide +kernel
theorem dX7_goThroughRows_27 : decode cX7_goThroughRows 27 = .ok (.iload 4, 2) := by decide +kernel
theorem dX7_goThroughRows_29 : decode cX7_goThroughRows 29 = .ok (.invokevirtual 341, 3) := by decide +kernel
theorem dX7_goThroughRows_32 : decode cX7_goThroughRows 32 = .ok (.return_, 1) := by decide +kernel
theorem dX7_goThroughRows_33 : decode cX7_goThroughRows 33 = .ok (.aload_n 0, 1) := by decide +kernel
theorem dX7_goThroughRows_34 : decode cX7_goThroughRows 34 = .ok (.getfield 57, 3) := by decide +kernel
theorem dX7_goThroughRows_37 : decode cX7_goThroughRows 37 = .ok (.getfield 344, 3) := by decide +kernel
theorem dX7_goThroughRows_40 : decode cX7_goThroughRows 40 = .ok (.ifCond .eq 12, 3) := by decide +kernel
theorem dX7_goThroughRows_43 : decode cX7_goThroughRows 43 = .ok (.aload_n 0, 1) := by decide +kernel
theorem dX7_goThroughRows_44 : decode cX7_goThroughRows 44 = .ok (.iload_n 1, 1) := by decide +kernel
theorem dX7_goThroughRows_45 : decode cX7_goThroughRows 45 = .ok (.iload_n 2, 1) := by decide +kernel
theorem dX7_goThroughRows_46 : decode cX7_goThroughRows 46 = .ok (.iload_n 3, 1) := by decide +kernel
theorem dX7_goThroughRows_47 : decode cX7_goThroughRows 47 = .ok (.iload 4, 2) := by decide +kernel
theorem dX7_goThroughRows_49 : decode cX7_goThroughRows 49 = .ok (.invokevirtual 347, 3) := by decide +kernel
theorem dX7_goThroughRows_52 : decode cX7_goThroughRows 52 = .ok (.aload_n 0, 1) := by decide +kernel
theorem dX7_goThroughRows_53 : decode cX7_goThroughRows 53 = .ok (.getfield 57, 3) := by decide +kernel
theorem dX7_goThroughRows_56 : decode cX7_goThroughRows 56 = .ok (.getfield 344, 3) := by decide +kernel
theorem dX7_goThroughRows_59 : decode cX7_goThroughRows 59 = .ok (.iconst (-1), 1) := by decide +kernel
theorem dX7_goThroughRows_60 : decode cX7_goThroughRows 60 = .ok (.if_icmp .eq 12, 3) := by decide +kernel
theorem dX7_goThroughRows_63 : decode cX7_goThroughRows 63 = .ok (.aload_n 0, 1) := by decide +kernel
theorem dX7_goThroughRows_64 : decode cX7_goThroughRows 64 = .ok (.iload_n 1, 1) := by decide +kernel
theorem dX7_goThroughRows_65 : decode cX7_goThroughRows 65 = .ok (.iload_n 2, 1) := by decide +kernel
theorem dX7_goThroughRows_66 : decode cX7_goThroughRows 66 = .ok (.iload_n 3, 1) := by decide +kernel
theorem dX7_goThroughRows_67 : decode cX7_goThroughRows 67 = .ok (.iload 4, 2) := by decide +kernel
theorem dX7_goThroughRows_69 : decode cX7_goThroughRows 69 = .ok (.invokevirtual 350, 3) := by decide +kernel
theorem dX7_goThroughRows_72 : decode cX7_goThroughRows 72 = .ok (.aload_n 0, 1) := by decide +kernel
theorem dX7_goThroughRows_73 : decode cX7_goThroughRows 73 = .ok (.getfield 57, 3) := by decide +kernel
theorem dX7_goThroughRows_76 : decode cX7_goThroughRows 76 = .ok (.getfield 344, 3) := by decide +kernel
theorem dX7_goThroughRows_79 : decode cX7_goThroughRows 79 = .ok (.ifCond .ne 12, 3) := by decide +kernel
theorem dX7_goThroughRows_82 : decode cX7_goThroughRows 82 = .ok (.aload_n 0, 1) := by decide +kernel
theorem dX7_goThroughRows_83 : decode cX7_goThroughRows 83 = .ok (.iload_n 1, 1) := by decide +kernel
theorem dX7_goThroughRows_84 : decode cX7_goThroughRows 84 = .ok (.iload_n 2, 1) := by decide +kernel
theorem dX7_goThroughRows_85 : decode cX7_goThroughRows 85 = .ok (.iload_n 3, 1) := by decide +kernel
theorem dX7_goThroughRows_86 : decode cX7_goThroughRows 86 = .ok (.iload 4, 2) := by decide +kernel
theorem dX7_goThroughRows_88 : decode cX7_goThroughRows 88 = .ok (.invokevirtual 347, 3) := by decide +kernel
theorem dX7_goThroughRows_91 : decode cX7_goThroughRows 91 = .ok (.return_, 1) := by decide +kernel
theorem dX7_touchByOthers_0 : decode cX7_touchByOthers 0 = .ok (.aload_n 0, 1) := by decide +kernel
theorem dX7_touchByOthers_1 : decode cX7_touchByOthers 1 = .ok (.getfield 57, 3) := by decide +kernel
theorem dX7_touchByOthers_4 : decode cX7_touchByOthers 4 = .ok (.getfield 353, 3) := by decide +kernel
theorem dX7_touchByOthers_7 : decode cX7_touchByOthers 7 = .ok (.aload_n 0, 1) := by decide +kernel
theorem dX7_touchByOthers_8 : decode cX7_touchByOthers 8 = .ok (.getfield 33, 3) := by decide +kernel
theorem dX7_touchByOthers_11 : decode cX7_touchByOthers 11 = .ok (.getfield 81, 3) := by decide +kernel
theorem dX7_touchByOthers_14 : decode cX7_touchByOthers 14 = .ok (.imul, 1) := by decide +kernel
theorem dX7_touchByOthers_15 : decode cX7_touchByOthers 15 = .ok (.istore 5, 2) := by decide +kernel
theorem dX7_touchByOthers_17 : decode cX7_touchByOthers 17 = .ok (.iload 5, 2) := by decide +kernel
theorem dX7_touchByOthers_19 : decode cX7_touchByOthers 19 = .ok (.ifCond .le 43, 3) := by decide +kernel
theorem dX7_touchByOthers_22 : decode cX7_touchByOthers 22 = .ok (.iload_n 1, 1) := by decide +kernel
theorem dX7_touchByOthers_23 : decode cX7_touchByOthers 23 = .ok (.iconst 3, 1) := by decide +kernel
theorem dX7_touchByOthers_24 : decode cX7_touchByOthers 24 = .ok (.if_icmp .ge 38, 3) := by decide +kernel
theorem dX7_touchByOthers_27 : decode cX7_touchByOthers 27 = .ok (.aload_n 0, 1) := by decide +kernel
theorem dX7_touchByOthers_28 : decode cX7_touchByOthers 28 = .ok (.getfield 57, 3) := by decide +kernel
theorem dX7_touchByOthers_31 : decode cX7_touchByOthers 31 = .ok (.getfield 355, 3) := by decide +kernel
theorem dX7_touchByOthers_34 : decode cX7_touchByOthers 34 = .ok (.iload_n 1, 1) := by decide +kernel
theorem dX7_touchByOthers_35 : decode cX7_touchByOthers 35 = .ok (.bipush 8, 2) := by decide +kernel
theorem dX7_touchByOthers_37 : decode cX7_touchByOthers 37 = .ok (.aload_n 0, 1) := by decide +kernel
theorem dX7_touchByOthers_38 : decode cX7_touchByOthers 38 = .ok (.getfield 57, 3) := by decide +kernel
theorem dX7_touchByOthers_41 : decode cX7_touchByOthers 41 = .ok (.getfield 358, 3) := by decide +kernel
theorem dX7_touchByOthers_44 : decode cX7_touchByOthers 44 = .ok (.imul, 1) := by decide +kernel
theorem dX7_touchByOthers_45 : decode cX7_touchByOthers 45 = .ok (.iastore, 1) := by decide +kernel
theorem dX7_touchByOthers_46 : decode cX7_touchByOthers 46 = .ok (.aload_n 0, 1) := by decide +kernel
theorem dX7_touchByOthers_47 : decode cX7_touchByOthers 47 = .ok (.iload_n 1, 1) := by decide +kernel
theorem dX7_touchByOthers_48 : decode cX7_touchByOthers 48 = .ok (.iconst 1, 1) := by decide +kernel
theorem dX7_touchByOthers_49 : decode cX7_touchByOthers 49 = .ok (.iadd, 1) := by decide +kernel
theorem dX7_touchByOthers_50 : decode cX7_touchByOthers 50 = .ok (.iload_n 2, 1) := by decide +kernel
theorem dX7_touchByOthers_51 : decode cX7_touchByOthers 51 = .ok (.iload_n 3, 1) := by decide +kernel
theorem dX7_touchByOthers_52 : decode cX7_touchByOthers 52 = .ok (.iload 5, 2) := by decide +kernel
theorem dX7_touchByOthers_54 : decode cX7_touchByOthers 54 = .ok (.imul, 1) := by decide +kernel
theorem dX7_touchByOthers_55 : decode cX7_touchByOthers 55 = .ok (.iload 4, 2) := by decide +kernel
theorem dX7_touchByOthers_57 : decode cX7_touchByOthers 57 = .ok (.iconst 2, 1) := by decide +kernel
theorem dX7_touchByOthers_58 : decode cX7_touchByOthers 58 = .ok (.ior, 1) := by decide +kernel
theorem dX7_touchByOthers_59 : decode cX7_touchByOthers 59 = .ok (.invokevirtual 335, 3) := by decide +kernel
theorem dX7_touchByOthers_62 : decode cX7_touchByOthers 62 = .ok (.return_, 1) := by decide +kernel
theorem dX7_touchByWearer_0 : decode cX7_touchByWearer 0 = .ok (.aload_n 0, 1) := by decide +kernel
theorem dX7_touchByWearer_1 : decode cX7_touchByWearer 1 = .ok (.getfield 33, 3) := by decide +kernel
theorem dX7_touchByWearer_4 : decode cX7_touchByWearer 4 = .ok (.getfield 150, 3) := by decide +kernel
theorem dX7_touchByWearer_7 : decode cX7_touchByWearer 7 = .ok (.getfield 247, 3) := by decide +kernel
theorem dX7_touchByWearer_10 : decode cX7_touchByWearer 10 = .ok (.iload_n 1, 1) := by decide +kernel
theorem dX7_touchByWearer_11 : decode cX7_touchByWearer 11 = .ok (.iadd, 1) := by decide +kernel
theorem dX7_touchByWearer_12 : decode cX7_touchByWearer 12 = .ok (.iconst 1, 1) := by decide +kernel
theorem dX7_touchByWearer_13 : decode cX7_touchByWearer 13 = .ok (.iadd, 1) := by decide +kernel
theorem dX7_touchByWearer_14 : decode cX7_touchByWearer 14 = .ok (.istore 5, 2) := by decide +kernel
theorem dX7_touchByWearer_16 : decode cX7_touchByWearer 16 = .ok (.iconst 0, 1) := by decide +kernel
theorem dX7_touchByWearer_17 : decode cX7_touchByWearer 17 = .ok (.istore 6, 2) := by decide +kernel
theorem dX7_touchByWearer_19 : decode cX7_touchByWearer 19 = .ok (.iload 6, 2) := by decide +kernel
theorem dX7_touchByWearer_21 : decode cX7_touchByWearer 21 = .ok (.aload_n 0, 1) := by decide +kernel
theorem dX7_touchByWearer_22 : decode cX7_touchByWearer 22 = .ok (.getfield 33, 3) := by decide +kernel
theorem dX7_touchByWearer_25 : decode cX7_touchByWearer 25 = .ok (.getfield 81, 3) := by decide +kernel
theorem dX7_touchByWearer_28 : decode cX7_touchByWearer 28 = .ok (.if_icmp .ge 122, 3) := by decide +kernel
theorem dX7_touchByWearer_31 : decode cX7_touchByWearer 31 = .ok (.iload_n 1, 1) := by decide +kernel
theorem dX7_touchByWearer_32 : decode cX7_touchByWearer 32 = .ok (.iconst 3, 1) := by decide +kernel
theorem dX7_touchByWearer_33 : decode cX7_touchByWearer 33 = .ok (.if_icmp .ge 117, 3) := by decide +kernel
theorem dX7_touchByWearer_36 : decode cX7_touchByWearer 36 = .ok (.aload_n 0, 1) := by decide +kernel
theorem dX7_touchByWearer_37 : decode cX7_touchByWearer 37 = .ok (.getfield 43, 3) := by decide +kernel
theorem dX7_touchByWearer_40 : decode cX7_touchByWearer 40 = .ok (.iload 5, 2) := by decide +kernel
theorem dX7_touchByWearer_42 : decode cX7_touchByWearer 42 = .ok (.putfield 247, 3) := by decide +kernel
theorem dX7_touchByWearer_45 : decode cX7_touchByWearer 45 = .ok (.aload_n 0, 1) := by decide +kernel
theorem dX7_touchByWearer_46 : decode cX7_touchByWearer 46 = .ok (.getfield 43, 3) := by decide +kernel
theorem dX7_touchByWearer_49 : decode cX7_touchByWearer 49 = .ok (.getfield 177, 3) := by decide +kernel
theorem dX7_touchByWearer_52 : decode cX7_touchByWearer 52 = .ok (.aload_n 0, 1) := by decide +kernel
theorem dX7_touchByWearer_53 : decode cX7_touchByWearer 53 = .ok (.getfield 57, 3) := by decide +kernel
theorem dX7_touchByWearer_56 : decode cX7_touchByWearer 56 = .ok (.getfield 361, 3) := by decide +kernel
theorem dX7_touchByWearer_59 : decode cX7_touchByWearer 59 = .ok (.iload_n 2, 1) := by decide +kernel
theorem dX7_touchByWearer_60 : decode cX7_touchByWearer 60 = .ok (.iastore, 1) := by decide +kernel
theorem dX7_touchByWearer_61 : decode cX7_touchByWearer 61 = .ok (.aload_n 0, 1) := by decide +kernel
theorem dX7_touchByWearer_62 : decode cX7_touchByWearer 62 = .ok (.aload_n 0, 1) := by decide +kernel
theorem dX7_touchByWearer_63 : decode cX7_touchByWearer 63 = .ok (.getfield 43, 3) := by decide +kernel
theorem dX7_touchByWearer_66 : decode cX7_touchByWearer 66 = .ok (.aload_n 0, 1) := by decide +kernel
theorem dX7_touchByWearer_67 : decode cX7_touchByWearer 67 = .ok (.getfield 57, 3) := by decide +kernel
theorem dX7_touchByWearer_70 : decode cX7_touchByWearer 70 = .ok (.getfield 361, 3) := by decide +kernel
theorem dX7_touchByWearer_73 : decode cX7_touchByWearer 73 = .ok (.iload 6, 2) := by decide +kernel
theorem dX7_touchByWearer_75 : decode cX7_touchByWearer 75 = .ok (.aload_n 0, 1) := by decide +kernel
theorem dX7_touchByWearer_76 : decode cX7_touchByWearer 76 = .ok (.getfield 57, 3) := by decide +kernel
theorem dX7_touchByWearer_79 : decode cX7_touchByWearer 79 = .ok (.getfield 344, 3) := by decide +kernel
theorem dX7_touchByWearer_82 : decode cX7_touchByWearer 82 = .ok (.invokevirtual 275, 3) := by decide +kernel
theorem dX7_touchByWearer_85 : decode cX7_touchByWearer 85 = .ok (.istore 7, 2) := by decide +kernel
theorem dX7_touchByWearer_87 : decode cX7_touchByWearer 87 = .ok (.aload_n 0, 1) := by decide +kernel
theorem dX7_touchByWearer_88 : decode cX7_touchByWearer 88 = .ok (.getfield 57, 3) := by decide +kernel
theorem dX7_touchByWearer_91 : decode cX7_touchByWearer 91 = .ok (.getfield 355, 3) := by decide +kernel
theorem dX7_touchByWearer_94 : decode cX7_touchByWearer 94 = .ok (.iload_n 1, 1) := by decide +kernel
theorem dX7_touchByWearer_95 : decode cX7_touchByWearer 95 = .ok (.bipush 8, 2) := by decide +kernel
theorem dX7_touchByWearer_97 : decode cX7_touchByWearer 97 = .ok (.aload_n 0, 1) := by decide +kernel
theorem dX7_touchByWearer_98 : decode cX7_touchByWearer 98 = .ok (.getfield 57, 3) := by decide +kernel
theorem dX7_touchByWearer_101 : decode cX7_touchByWearer 101 = .ok (.getfield 344, 3) := by decide +kernel
theorem dX7_touchByWearer_104 : decode cX7_touchByWearer 104 = .ok (.imul, 1) := by decide +kernel
theorem dX7_touchByWearer_105 : decode cX7_touchByWearer 105 = .ok (.iload 6, 2) := by decide +kernel
theorem dX7_touchByWearer_107 : decode cX7_touchByWearer 107 = .ok (.iadd, 1) := by decide +kernel
theorem dX7_touchByWearer_108 : decode cX7_touchByWearer 108 = .ok (.iastore, 1) := by decide +kernel
theorem dX7_touchByWearer_109 : decode cX7_touchByWearer 109 = .ok (.aload_n 0, 1) := by decide +kernel
theorem dX7_touchByWearer_110 : decode cX7_touchByWearer 110 = .ok (.iload_n 1, 1) := by decide +kernel
theorem dX7_touchByWearer_111 : decode cX7_touchByWearer 111 = .ok (.iconst 1, 1) := by decide +kernel
theorem dX7_touchByWearer_112 : decode cX7_touchByWearer 112 = .ok (.iadd, 1) := by decide +kernel
theorem dX7_touchByWearer_113 : decode cX7_touchByWearer 113 = .ok (.iload 7, 2) := by decide +kernel
theorem dX7_touchByWearer_115 : decode cX7_touchByWearer 115 = .ok (.ifCond .eq 20, 3) := by decide +kernel
theorem dX7_touchByWearer_118 : decode cX7_touchByWearer 118 = .ok (.aload_n 0, 1) := by decide +kernel
theorem dX7_touchByWearer_119 : decode cX7_touchByWearer 119 = .ok (.iload_n 2, 1) := by decide +kernel
theorem dX7_touchByWearer_120 : decode cX7_touchByWearer 120 = .ok (.aload_n 0, 1) := by decide +kernel
theorem dX7_touchByWearer_121 : decode cX7_touchByWearer 121 = .ok (.getfield 57, 3) := by decide +kernel
theorem dX7_touchByWearer_124 : decode cX7_touchByWearer 124 = .ok (.getfield 361, 3) := by decide +kernel
theorem dX7_touchByWearer_127 : decode cX7_touchByWearer 127 = .ok (.iload 6, 2) := by decide +kernel
theorem dX7_touchByWearer_129 : decode cX7_touchByWearer 129 = .ok (.invokevirtual 278, 3) := by decide +kernel
theorem dX7_touchByWearer_132 : decode cX7_touchByWearer 132 = .ok (.goto 4, 3) := by decide +kernel
theorem dX7_touchByWearer_135 : decode cX7_touchByWearer 135 = .ok (.iload_n 2, 1) := by decide +kernel
theorem dX7_touchByWearer_136 : decode cX7_touchByWearer 136 = .ok (.iload_n 3, 1) := by decide +kernel
theorem dX7_touchByWearer_137 : decode cX7_touchByWearer 137 = .ok (.iload 4, 2) := by decide +kernel
theorem dX7_touchByWearer_139 : decode cX7_touchByWearer 139 = .ok (.iconst 1, 1) := by decide +kernel
theorem dX7_touchByWearer_140 : decode cX7_touchByWearer 140 = .ok (.ior, 1) := by decide +kernel
theorem dX7_touchByWearer_141 : decode cX7_touchByWearer 141 = .ok (.invokevirtual 335, 3) := by decide +kernel
theorem dX7_touchByWearer_144 : decode cX7_touchByWearer 144 = .ok (.iinc 6 1, 3) := by decide +kernel
theorem dX7_touchByWearer_147 : decode cX7_touchByWearer 147 = .ok (.goto (-128), 3) := by decide +kernel
theorem dX7_touchByWearer_150 : decode cX7_touchByWearer 150 = .ok (.return_, 1) := by decide +kernel
theorem dX8_init_0 : decode cX8_init 0 = .ok (.aload_n 0, 1) := by decide +kernel
theorem dX8_init_1 : decode cX8_init 1 = .ok (.invokespecial 1, 3) := by decide +kernel
theorem dX8_init_4 : decode cX8_init 4 = .ok (.aload_n 0, 1) := by decide +kernel
theorem dX8_init_5 : decode cX8_init 5 = .ok (.sipush 1584, 3) := by decide +kernel
theorem dX8_init_8 : decode cX8_init 8 = .ok (.newarray .int, 2) := by decide +kernel
theorem dX8_init_10 : decode cX8_init 10 = .ok (.putfield 7, 3) := by decide +kernel
theorem dX8_init_13 : decode cX8_init 13 = .ok (.aload_n 0, 1) := by decide +kernel
theorem dX8_init_14 : decode cX8_init 14 = .ok (.sipush 1584, 3) := by decide +kernel
theorem dX8_init_17 : decode cX8_init 17 = .ok (.newarray .int, 2) := by decide +kernel
theorem dX8_init_19 : decode cX8_init 19 = .ok (.putfield 13, 3) := by decide +kernel
theorem dX8_init_22 : decode cX8_init 22 = .ok (.aload_n 0, 1) := by decide +kernel
theorem dX8_init_23 : decode cX8_init 23 = .ok (.sipush 1584, 3) := by decide +kernel
theorem dX8_init_26 : decode cX8_init 26 = .ok (.newarray .int, 2) := by decide +kernel
theorem dX8_init_28 : decode cX8_init 28 = .ok (.putfield 16, 3) := by decide +kernel
theorem dX8_init_31 : decode cX8_init 31 = .ok (.aload_n 0, 1) := by decide +kernel
theorem dX8_init_32 : decode cX8_init 32 = .ok (.sipush 2720, 3) := by decide +kernel
theorem dX8_init_35 : decode cX8_init 35 = .ok (.newarray .int, 2) := by decide +kernel
theorem dX8_init_37 : decode cX8_init 37 = .ok (.putfield 19, 3) := by decide +kernel
theorem dX8_init_40 : decode cX8_init 40 = .ok (.aload_n 0, 1) := by decide +kernel
theorem dX8_init_41 : decode cX8_init 41 = .ok (.sipush 300, 3) := by decide +kernel
theorem dX8_init_44 : decode cX8_init 44 = .ok (.newarray .int, 2) := by decide +kernel
theorem dX8_init_46 : decode cX8_init 46 = .ok (.putfield 22, 3) := by decide +kernel
theorem dX8_init_49 : decode cX8_init 49 = .ok (.aload_n 0, 1) := by decide +kernel
theorem dX8_init_50 : decode cX8_init 50 = .ok (.iconst (-1), 1) := by decide +kernel
theorem dX8_init_51 : decode cX8_init 51 = .ok (.putfield 25, 3) := by decide +kernel
theorem dX8_init_54 : decode cX8_init 54 = .ok (.aload_n 0, 1) := by decide +kernel
theorem dX8_init_55 : decode cX8_init 55 = .ok (.iconst (-1), 1) := by decide +kernel
theorem dX8_init_56 : decode cX8_init 56 = .ok (.putfield 29, 3) := by decide +kernel
theorem dX8_init_59 : decode cX8_init 59 = .ok (.aload_n 0, 1) := by decide +kernel
theorem dX8_init_60 : decode cX8_init 60 = .ok (.sipush 160, 3) := by decide +kernel
theorem dX8_init_63 : decode cX8_init 63 = .ok (.newarray .int, 2) := by decide +kernel
theorem dX8_init_65 : decode cX8_init 65 = .ok (.putfield 32, 3) := by decide +kernel
theorem dX8_init_68 : decode cX8_init 68 = .ok (.aload_n 0, 1) := by decide +kernel
theorem dX8_init_69 : decode cX8_init 69 = .ok (.bipush 9, 2) := by decide +kernel
theorem dX8_init_71 : decode cX8_init 71 = .ok (.newarray .int, 2) := by decide +kernel
theorem dX8_init_73 : decode cX8_init 73 = .ok (.putfield 35, 3) := by decide +kernel
theorem dX8_init_76 : decode cX8_init 76 = .ok (.aload_n 0, 1) := by decide +kernel
theorem dX8_init_77 : decode cX8_init 77 = .ok (.sipush 330, 3) := by decide +kernel
theorem dX8_init_80 : decode cX8_init 80 = .ok (.newarray .long, 2) := by decide +kernel
theorem dX8_init_82 : decode cX8_init 82 = .ok (.putfield 38, 3) := by decide +kernel
theorem dX8_init_85 : decode cX8_init 85 = .ok (.aload_n 0, 1) := by decide +kernel
theorem dX8_init_86 : decode cX8_init 86 = .ok (.sipush 330, 3) := by decide +kernel
theorem dX8_init_89 : decode cX8_init 89 = .ok (.newarray .boolean, 2) := by decide +kernel
theorem dX8_init_91 : decode cX8_init 91 = .ok (.putfield 42, 3) := by decide +kernel
theorem dX8_init_94 : decode cX8_init 94 = .ok (.aload_n 0, 1) := by decide +kernel
theorem dX8_init_95 : decode cX8_init 95 = .ok (.sipush 128, 3) := by decide +kernel
theorem dX8_init_98 : decode cX8_init 98 = .ok (.newarray .int, 2) := by decide +kernel
theorem dX8_init_100 : decode cX8_init 100 = .ok (.putfield 46, 3) := by decide +kernel
theorem dX8_init_103 : decode cX8_init 103 = .ok (.aload_n 0, 1) := by decide +kernel
theorem dX8_init_104 : decode cX8_init 104 = .ok (.iconst 4, 1) := by decide +kernel
theorem dX8_init_105 : decode cX8_init 105 = .ok (.newarray .int, 2) := by decide +kernel
theorem dX8_init_107 : decode cX8_init 107 = .ok (.putfield 49, 3) := by decide +kernel
theorem dX8_init_110 : decode cX8_init 110 = .ok (.aload_n 0, 1) := by decide +kernel
theorem dX8_init_111 : decode cX8_init 111 = .ok (.bipush 16, 2) := by decide +kernel
theorem dX8_init_113 : decode cX8_init 113 = .ok (.newarray .int, 2) := by decide +kernel
theorem dX8_init_115 : decode cX8_init 115 = .ok (.putfield 52, 3) := by decide +kernel
theorem dX8_init_118 : decode cX8_init 118 = .ok (.aload_n 0, 1) := by decide +kernel
theorem dX8_init_119 : decode cX8_init 119 = .ok (.iconst 3, 1) := by decide +kernel
theorem dX8_init_120 : decode cX8_init 120 = .ok (.newarray .int, 2) := by decide +kernel
theorem dX8_init_122 : decode cX8_init 122 = .ok (.putfield 55, 3) := by decide +kernel
theorem dX8_init_125 : decode cX8_init 125 = .ok (.aload_n 0, 1) := by decide +kernel
theorem dX8_init_126 : decode cX8_init 126 = .ok (.iload_n 1, 1) := by decide +kernel
theorem dX8_init_127 : decode cX8_init 127 = .ok (.iconst 1, 1) := by decide +kernel
theorem dX8_init_128 : decode cX8_init 128 = .ok (.if_icmp .ge 7, 3) := by decide +kernel
theorem dX8_init_131 : decode cX8_init 131 = .ok (.iconst 1, 1) := by decide +kernel
theorem dX8_init_132 : decode cX8_init 132 = .ok (.goto 15, 3) := by decide +kernel
theorem dX8_init_135 : decode cX8_init 135 = .ok (.iload_n 1, 1) := by decide +kernel
theorem dX8_init_136 : decode cX8_init 136 = .ok (.bipush 6, 2) := by decide +kernel
theorem dX8_init_138 : decode cX8_init 138 = .ok (.if_icmp .le 8, 3) := by decide +kernel
theorem dX8_init_141 : decode cX8_init 141 = .ok (.bipush 6, 2) := by decide +kernel
theorem dX8_init_143 : decode cX8_init 143 = .ok (.goto 4, 3) := by decide +kernel
theorem dX8_init_146 : decode cX8_init 146 = .ok (.iload_n 1, 1) := by decide +kernel
theorem dX8_init_147 : decode cX8_init 147 = .ok (.putfield 58, 3) := by decide +kernel
theorem dX8_init_150 : decode cX8_init 150 = .ok (.aload_n 0, 1) := by decide +kernel
theorem dX8_init_151 : decode cX8_init 151 = .ok (.getfield 7, 3) := by decide +kernel
theorem dX8_init_154 : decode cX8_init 154 = .ok (.iconst 4, 1) := by decide +kernel
theorem dX8_init_155 : decode cX8_init 155 = .ok (.iconst (-1), 1) := by decide +kernel
theorem dX8_init_156 : decode cX8_init 156 = .ok (.iastore, 1) := by decide +kernel
theorem dX8_init_157 : decode cX8_init 157 = .ok (.iconst 0, 1) := by decide +kernel
theorem dX8_init_158 : decode cX8_init 158 = .ok (.istore_n 2, 1) := by decide +kernel
theorem dX8_init_159 : decode cX8_init 159 = .ok (.iload_n 2, 1) := by decide +kernel
theorem dX8_init_160 : decode cX8_init 160 = .ok (.bipush 8, 2) := by decide +kernel
theorem dX8_init_162 : decode cX8_init 162 = .ok (.if_icmp .ge 14, 3) := by decide +kernel
theorem dX8_init_165 : decode cX8_init 165 = .ok (.aload_n 0, 1) := by decide +kernel
theorem dX8_init_166 : decode cX8_init 166 = .ok (.iload_n 2, 1) := by decide +kernel
theorem dX8_init_167 : decode cX8_init 167 = .ok (.invokevirtual 61, 3) := by decide +kernel
theorem dX8_init_170 : decode cX8_init 170 = .ok (.iinc 2 1, 3) := by decide +kernel
theorem dX8_init_173 : decode cX8_init 173 = .ok (.goto (-14), 3) := by decide +kernel
theorem dX8_init_176 : decode cX8_init 176 = .ok (.aload_n 0, 1) := by decide +kernel
theorem dX8_init_177 : decode cX8_init 177 = .ok (.getfield 7, 3) := by decide +kernel
theorem dX8_init_180 : decode cX8_init 180 = .ok (.aload_n 0, 1) := by decide +kernel
theorem dX8_init_181 : decode cX8_init 181 = .ok (.getfield 13, 3) := by decide +kernel
theorem dX8_init_184 : decode cX8_init 184 = .ok (.invokestatic 65, 3) := by decide +kernel
theorem dX8_init_187 : decode cX8_init 187 = .ok (.return_, 1) := by decide +kernel
theorem dX8_copy_0 : decode cX8_copy 0 = .ok (.iconst 0, 1) := by decide +kernel
theorem dX8_copy_1 : decode cX8_copy 1 = .ok (.istore_n 2, 1) := by decide +kernel
theorem dX8_copy_2 : decode cX8_copy 2 = .ok (.iload_n 2, 1) := by decide +kernel
theorem dX8_copy_3 : decode cX8_copy 3 = .ok (.sipush 1584, 3) := by decide +kernel
theorem dX8_copy_6 : decode cX8_copy 6 = .ok (.if_icmp .ge 15, 3) := by decide +kernel
theorem dX8_copy_9 : decode cX8_copy 9 = .ok (.aload_n 1, 1) := by decide +kernel
theorem dX8_copy_10 : decode cX8_copy 10 = .ok (.iload_n 2, 1) := by decide +kernel
theorem dX8_copy_11 : decode cX8_copy 11 = .ok (.aload_n 0, 1) := by decide +kernel
theorem dX8_copy_12 : decode cX8_copy 12 = .ok (.iload_n 2, 1) := by decide +kernel
theorem dX8_copy_13 : decode cX8_copy 13 = .ok (.iaload, 1) := by decide +kernel
theorem dX8_copy_14 : decode cX8_copy 14 = .ok (.iastore, 1) := by decide +kernel
theorem dX8_copy_15 : decode cX8_copy 15 = .ok (.iinc 2 1, 3) := by decide +kernel
theorem dX8_copy_18 : decode cX8_copy 18 = .ok (.goto (-16), 3) := by decide +kernel
theorem dX8_copy_21 : decode cX8_copy 21 = .ok (.return_, 1) := by decide +kernel
theorem dX8_isIn_0 : decode cX8_isIn 0 = .ok (.iload_n 0, 1) := by decide +kernel
theorem dX8_isIn_1 : decode cX8_isIn 1 = .ok (.iload_n 1, 1) := by decide +kernel
theorem dX8_isIn_2 : decode cX8_isIn 2 = .ok (.if_icmp .lt 12, 3) := by decide +kernel
theorem dX8_isIn_5 : decode cX8_isIn 5 = .ok (.iload_n 0, 1) := by decide +kernel
theorem dX8_isIn_6 : decode cX8_isIn 6 = .ok (.iload_n 2, 1) := by decide +kernel
theorem dX8_isIn_7 : decode cX8_isIn 7 = .ok (.if_icmp .gt 7, 3) := by decide +kernel
theorem dX8_isIn_10 : decode cX8_isIn 10 = .ok (.iconst 1, 1) := by decide +kernel
theorem dX8_isIn_11 : decode cX8_isIn 11 = .ok (.goto 4, 3) := by decide +kernel
theorem dX8_isIn_14 : decode cX8_isIn 14 = .ok (.iconst 0, 1) := by decide +kernel
theorem dX8_isIn_15 : decode cX8_isIn 15 = .ok (.ireturn, 1) := by decide +kernel
theorem dX8_has_0 : decode cX8_has 0 = .ok (.iload_n 0, 1) := by decide +kernel
theorem dX8_has_1 : decode cX8_has 1 = .ok (.iload_n 1, 1) := by decide +kernel
theorem dX8_has_2 : decode cX8_has 2 = .ok (.ishr, 1) := by decide +kernel
theorem dX8_has_3 : decode cX8_has 3 = .ok (.iconst 1, 1) := by decide +kernel
theorem dX8_has_4 : decode cX8_has 4 = .ok (.iand, 1) := by decide +kernel
theorem dX8_has_5 : decode cX8_has 5 = .ok (.iconst 1, 1) := by decide +kernel
theorem dX8_has_6 : decode cX8_has 6 = .ok (.if_icmp .ne 7, 3) := by decide +kernel
theorem dX8_has_9 : decode cX8_has 9 = .ok (.iconst 1, 1) := by decide +kernel
theorem dX8_has_10 : decode cX8_has 10 = .ok (.goto 4, 3) := by decide +kernel
theorem dX8_has_13 : decode cX8_has 13 = .ok (.iconst 0, 1) := by decide +kernel
theorem dX8_has_14 : decode cX8_has 14 = .ok (.ireturn, 1) := by decide +kernel
theorem dX8_bits_0 : decode cX8_bits 0 = .ok (.iconst 0, 1) := by decide +kernel
theorem dX8_bits_1 : decode cX8_bits 1 = .ok (.istore_n 1, 1) := by decide +kernel
theorem dX8_bits_2 : decode cX8_bits 2 = .ok (.iconst 0, 1) := by decide +kernel
theorem dX8_bits_3 : decode cX8_bits 3 = .ok (.istore_n 2, 1) := by decide +kernel
theorem dX8_bits_4 : decode cX8_bits 4 = .ok (.iload_n 2, 1) := by decide +kernel
theorem dX8_bits_5 : decode cX8_bits 5 = .ok (.bipush 8, 2) := by decide +kernel
theorem dX8_bits_7 : decode cX8_bits 7 = .ok (.if_icmp .ge 17, 3) := by decide +kernel
theorem dX8_bits_10 : decode cX8_bits 10 = .ok (.iload_n 1, 1) := by decide +kernel
theorem dX8_bits_11 : decode cX8_bits 11 = .ok (.iload_n 0, 1) := by decide +kernel
theorem dX8_bits_12 : decode cX8_bits 12 = .ok (.iload_n 2, 1) := by decide +kernel
theorem dX8_bits_13 : decode cX8_bits 13 = .ok (.ishr, 1) := by decide +kernel
theorem dX8_bits_14 : decode cX8_bits 14 = .ok (.iconst 1, 1) := by decide +kernel
theorem dX8_bits_15 : decode cX8_bits 15 = .ok (.iand, 1) := by decide +kernel
theorem dX8_bits_16 : decode cX8_bits 16 = .ok (.iadd, 1) := by decide +kernel
theorem dX8_bits_17 : decode cX8_bits 17 = .ok (.istore_n 1, 1) := by decide +kernel
theorem dX8_bits_18 : decode cX8_bits 18 = .ok (.iinc 2 1, 3) := by decide +kernel
theorem dX8_bits_21 : decode cX8_bits 21 = .ok (.goto (-17), 3) := by decide +kernel
theorem dX8_bits_24 : decode cX8_bits 24 = .ok (.iload_n 1, 1) := by decide +kernel
theorem dX8_bits_25 : decode cX8_bits 25 = .ok (.ireturn, 1) := by decide +kernel
theorem dX8_isThing_0 : decode cX8_isThing 0 = .ok (.iload_n 1, 1) := by decide +kernel
theorem dX8_isThing_1 : decode cX8_isThing 1 = .ok (.iconst 0, 1) := by decide +kernel
theorem dX8_isThing_2 : decode cX8_isThing 2 = .ok (.aload_n 0, 1) := by decide +kernel
theorem dX8_isThing_3 : decode cX8_isThing 3 = .ok (.getfield 7, 3) := by decide +kernel
theorem dX8_isThing_6 : decode cX8_isThing 6 = .ok (.iconst 0, 1) := by decide +kernel
theorem dX8_isThing_7 : decode cX8_isThing 7 = .ok (.iaload, 1) := by decide +kernel
theorem dX8_isThing_8 : decode cX8_isThing 8 = .ok (.iconst 1, 1) := by decide +kernel
theorem dX8_isThing_9 : decode cX8_isThing 9 = .ok (.isub, 1) := by decide +kernel
theorem dX8_isThing_10 : decode cX8_isThing 10 = .ok (.invokestatic 69, 3) := by decide +kernel
theorem dX8_isThing_13 : decode cX8_isThing 13 = .ok (.ireturn, 1) := by decide +kernel
theorem dX8_isEye_0 : decode cX8_isEye 0 = .ok (.iload_n 1, 1) := by decide +kernel
theorem dX8_isEye_1 : decode cX8_isEye 1 = .ok (.iconst 0, 1) := by decide +kernel
theorem dX8_isEye_2 : decode cX8_isEye 2 = .ok (.aload_n 0, 1) := by decide +kernel
theorem dX8_isEye_3 : decode cX8_isEye 3 = .ok (.getfield 7, 3) := by decide +kernel
theorem dX8_isEye_6 : decode cX8_isEye 6 = .ok (.iconst 1, 1) := by decide +kernel
theorem dX8_isEye_7 : decode cX8_isEye 7 = .ok (.iaload, 1) := by decide +kernel
theorem dX8_isEye_8 : decode cX8_isEye 8 = .ok (.iconst 1, 1) := by decide +kernel
theorem dX8_isEye_9 : decode cX8_isEye 9 = .ok (.isub, 1) := by decide +kernel
theorem dX8_isEye_10 : decode cX8_isEye 10 = .ok (.invokestatic 69, 3) := by decide +kernel
theorem dX8_isEye_13 : decode cX8_isEye 13 = .ok (.ireturn, 1) := by decide +kernel
theorem dX8_isOne_0 : decode cX8_isOne 0 = .ok (.iload_n 1, 1) := by decide +kernel
theorem dX8_isOne_1 : decode cX8_isOne 1 = .ok (.iconst 0, 1) := by decide +kernel
theorem dX8_isOne_2 : decode cX8_isOne 2 = .ok (.aload_n 0, 1) := by decide +kernel
theorem dX8_isOne_3 : decode cX8_isOne 3 = .ok (.getfield 58, 3) := by decide +kernel
theorem dX8_isOne_6 : decode cX8_isOne 6 = .ok (.iconst 1, 1) := by decide +kernel
theorem dX8_isOne_7 : decode cX8_isOne 7 = .ok (.isub, 1) := by decide +kernel
theorem dX8_isOne_8 : decode cX8_isOne 8 = .ok (.invokestatic 69, 3) := by decide +kernel
theorem dX8_isOne_11 : decode cX8_isOne 11 = .ok (.ireturn, 1) := by decide +kernel
theorem dX8_get_0 : decode cX8_get 0 = .ok (.aload_n 0, 1) := by decide +kernel
theorem dX8_get_1 : decode cX8_get 1 = .ok (.getfield 7, 3) := by decide +kernel
theorem dX8_get_4 : decode cX8_get 4 = .ok (.bipush 20, 2) := by decide +kernel
theorem dX8_get_6 : decode cX8_get 6 = .ok (.bipush 8, 2) := by decide +kernel
theorem dX8_get_8 : decode cX8_get 8 = .ok (.iload_n 1, 1) := by decide +kernel
theorem dX8_get_9 : decode cX8_get 9 = .ok (.imul, 1) := by decide +kernel
theorem dX8_get_10 : decode cX8_get 10 = .ok (.iadd, 1) := by decide +kernel
theorem dX8_get_11 : decode cX8_get 11 = .ok (.iload_n 2, 1) := by decide +kernel
theorem dX8_get_12 : decode cX8_get 12 = .ok (.iadd, 1) := by decide +kernel
theorem dX8_get_13 : decode cX8_get 13 = .ok (.iaload, 1) := by decide +kernel
theorem dX8_get_14 : decode cX8_get 14 = .ok (.ireturn, 1) := by decide +kernel
theorem dX8_set_0 : decode cX8_set 0 = .ok (.aload_n 0, 1) := by decide +kernel
theorem dX8_set_1 : decode cX8_set 1 = .ok (.getfield 7, 3) := by decide +kernel
theorem dX8_set_4 : decode cX8_set 4 = .ok (.bipush 20, 2) := by decide +kernel
theorem dX8_set_6 : decode cX8_set 6 = .ok (.bipush 8, 2) := by decide +kernel
theorem dX8_set_8 : decode cX8_set 8 = .ok (.iload_n 1, 1) := by decide +kernel
theorem dX8_set_9 : decode cX8_set 9 = .ok (.imul, 1) := by decide +kernel
theorem dX8_set_10 : decode cX8_set 10 = .ok (.iadd, 1) := by decide +kernel
theorem dX8_set_11 : decode cX8_set 11 = .ok (.iload_n 2, 1) := by decide +kernel
theorem dX8_set_12 : decode cX8_set 12 = .ok (.iadd, 1) := by decide +kernel
theorem dX8_set_13 : decode cX8_set 13 = .ok (.iload_n 3, 1) := by decide +kernel
theorem dX8_set_14 : decode cX8_set 14 = .ok (.iastore, 1) := by decide +kernel
theorem dX8_set_15 : decode cX8_set 15 = .ok (.return_, 1) := by decide +kernel
theorem dX8_clear_0 : decode cX8_clear 0 = .ok (.aload_n 0, 1) := by decide +kernel
theorem dX8_clear_1 : decode cX8_clear 1 = .ok (.iload_n 1, 1) := by decide +kernel
theorem dX8_clear_2 : decode cX8_clear 2 = .ok (.iconst 2, 1) := by decide +kernel
theorem dX8_clear_3 : decode cX8_clear 3 = .ok (.iconst (-1), 1) := by decide +kernel
theorem dX8_clear_4 : decode cX8_clear 4 = .ok (.invokevirtual 73, 3) := by decide +kernel
theorem dX8_clear_7 : decode cX8_clear 7 = .ok (.aload_n 0, 1) := by decide +kernel
theorem dX8_clear_8 : decode cX8_clear 8 = .ok (.iload_n 1, 1) := by decide +kernel
theorem dX8_clear_9 : decode cX8_clear 9 = .ok (.iconst 3, 1) := by decide +kernel
theorem dX8_clear_10 : decode cX8_clear 10 = .ok (.iconst 0, 1) := by decide +kernel
theorem dX8_clear_11 : decode cX8_clear 11 = .ok (.invokevirtual 73, 3) := by decide +kernel
theorem dX8_clear_14 : decode cX8_clear 14 = .ok (.iconst 0, 1) := by decide +kernel
theorem dX8_clear_15 : decode cX8_clear 15 = .ok (.istore_n 2, 1) := by decide +kernel
theorem dX8_clear_16 : decode cX8_clear 16 = .ok (.iload_n 2, 1) := by decide +kernel
theorem dX8_clear_17 : decode cX8_clear 17 = .ok (.iconst 4, 1) := by decide +kernel
theorem dX8_clear_18 : decode cX8_clear 18 = .ok (.if_icmp .ge 18, 3) := by decide +kernel
theorem dX8_clear_21 : decode cX8_clear 21 = .ok (.aload_n 0, 1) := by decide +kernel
theorem dX8_clear_22 : decode cX8_clear 22 = .ok (.iload_n 1, 1) := by decide +kernel
theorem dX8_clear_23 : decode cX8_clear 23 = .ok (.iconst 4, 1) := by decide +kernel
theorem dX8_clear_24 : decode cX8_clear 24 = .ok (.iload_n 2, 1) := by decide +kernel
theorem dX8_clear_25 : decode cX8_clear 25 = .ok (.iadd, 1) := by decide +kernel
theorem dX8_clear_26 : decode cX8_clear 26 = .ok (.iconst (-1), 1) := by decide +kernel
theorem dX8_clear_27 : decode cX8_clear 27 = .ok (.invokevirtual 73, 3) := by decide +kernel
theorem dX8_clear_30 : decode cX8_clear 30 = .ok (.iinc 2 1, 3) := by decide +kernel
theorem dX8_clear_33 : decode cX8_clear 33 = .ok (.goto (-17), 3) := by decide +kernel
theorem dX8_clear_36 : decode cX8_clear 36 = .ok (.return_, 1) := by decide +kernel
theorem dX8_manyOf_0 : decode cX8_manyOf 0 = .ok (.iconst 0, 1) := by decide +kernel
theorem dX8_manyOf_1 : decode cX8_manyOf 1 = .ok (.istore_n 2, 1) := by decide +kernel
theorem dX8_manyOf_2 : decode cX8_manyOf 2 = .ok (.iconst 0, 1) := by decide +kernel
theorem dX8_manyOf_3 : decode cX8_manyOf 3 = .ok (.istore_n 3, 1) := by decide +kernel
theorem dX8_manyOf_4 : decode cX8_manyOf 4 = .ok (.iload_n 3, 1) := by decide +kernel
theorem dX8_manyOf_5 : decode cX8_manyOf 5 = .ok (.iconst 4, 1) := by decide +kernel
theorem dX8_manyOf_6 : decode cX8_manyOf 6 = .ok (.if_icmp .ge 28, 3) := by decide +kernel
theorem dX8_manyOf_9 : decode cX8_manyOf 9 = .ok (.iload_n 2, 1) := by decide +kernel
theorem dX8_manyOf_10 : decode cX8_manyOf 10 = .ok (.aload_n 0, 1) := by decide +kernel
theorem dX8_manyOf_11 : decode cX8_manyOf 11 = .ok (.iload_n 1, 1) := by decide +kernel
theorem dX8_manyOf_12 : decode cX8_manyOf 12 = .ok (.iconst 4, 1) := by decide +kernel
theorem dX8_manyOf_13 : decode cX8_manyOf 13 = .ok (.iload_n 3, 1) := by decide +kernel
theorem dX8_manyOf_14 : decode cX8_manyOf 14 = .ok (.iadd, 1) := by decide +kernel
theorem dX8_manyOf_15 : decode cX8_manyOf 15 = .ok (.invokevirtual 77, 3) := by decide +kernel
theorem dX8_manyOf_18 : decode cX8_manyOf 18 = .ok (.ifCond .lt 7, 3) := by decide +kernel
theorem dX8_manyOf_21 : decode cX8_manyOf 21 = .ok (.iconst 1, 1) := by decide +kernel
theorem dX8_manyOf_22 : decode cX8_manyOf 22 = .ok (.goto 4, 3) := by decide +kernel
theorem dX8_manyOf_25 : decode cX8_manyOf 25 = .ok (.iconst 0, 1) := by decide +kernel
theorem dX8_manyOf_26 : decode cX8_manyOf 26 = .ok (.iadd, 1) := by decide +kernel
theorem dX8_manyOf_27 : decode cX8_manyOf 27 = .ok (.istore_n 2, 1) := by decide +kernel
theorem dX8_manyOf_28 : decode cX8_manyOf 28 = .ok (.iinc 3 1, 3) := by decide +kernel
theorem dX8_manyOf_31 : decode cX8_manyOf 31 = .ok (.goto (-27), 3) := by decide +kernel
theorem dX8_manyOf_34 : decode cX8_manyOf 34 = .ok (.iload_n 2, 1) := by decide +kernel
theorem dX8_manyOf_35 : decode cX8_manyOf 35 = .ok (.ireturn, 1) := by decide +kernel
theorem dX8_wornBy_0 : decode cX8_wornBy 0 = .ok (.iconst 0, 1) := by decide +kernel
theorem dX8_wornBy_1 : decode cX8_wornBy 1 = .ok (.istore_n 2, 1) := by decide +kernel
theorem dX8_wornBy_2 : decode cX8_wornBy 2 = .ok (.iconst 0, 1) := by decide +kernel
theorem dX8_wornBy_3 : decode cX8_wornBy 3 = .ok (.istore_n 3, 1) := by decide +kernel
theorem dX8_wornBy_4 : decode cX8_wornBy 4 = .ok (.iload_n 3, 1) := by decide +kernel
theorem dX8_wornBy_5 : decode cX8_wornBy 5 = .ok (.aload_n 0, 1) := by decide +kernel
theorem dX8_wornBy_6 : decode cX8_wornBy 6 = .ok (.getfield 7, 3) := by decide +kernel
theorem dX8_wornBy_9 : decode cX8_wornBy 9 = .ok (.iconst 1, 1) := by decide +kernel
theorem dX8_wornBy_10 : decode cX8_wornBy 10 = .ok (.iaload, 1) := by decide +kernel
theorem dX8_wornBy_11 : decode cX8_wornBy 11 = .ok (.if_icmp .ge 29, 3) := by decide +kernel
theorem dX8_wornBy_14 : decode cX8_wornBy 14 = .ok (.iload_n 2, 1) := by decide +kernel
theorem dX8_wornBy_15 : decode cX8_wornBy 15 = .ok (.aload_n 0, 1) := by decide +kernel
theorem dX8_wornBy_16 : decode cX8_wornBy 16 = .ok (.iload_n 3, 1) := by decide +kernel
theorem dX8_wornBy_17 : decode cX8_wornBy 17 = .ok (.iconst 2, 1) := by decide +kernel
theorem dX8_wornBy_18 : decode cX8_wornBy 18 = .ok (.invokevirtual 77, 3) := by decide +kernel
theorem dX8_wornBy_21 : decode cX8_wornBy 21 = .ok (.iload_n 1, 1) := by decide +kernel
theorem dX8_wornBy_22 : decode cX8_wornBy 22 = .ok (.if_icmp .ne 9, 3) := by decide +kernel
theorem dX8_wornBy_25 : decode cX8_wornBy 25 = .ok (.iconst 1, 1) := by decide +kernel
theorem dX8_wornBy_26 : decode cX8_wornBy 26 = .ok (.iload_n 3, 1) := by decide +kernel
theorem dX8_wornBy_27 : decode cX8_wornBy 27 = .ok (.ishl, 1) := by decide +kernel
theorem dX8_wornBy_28 : decode cX8_wornBy 28 = .ok (.goto 4, 3) := by decide +kernel
theorem dX8_wornBy_31 : decode cX8_wornBy 31 = .ok (.iconst 0, 1) := by decide +kernel
theorem dX8_wornBy_32 : decode cX8_wornBy 32 = .ok (.ior, 1) := by decide +kernel
theorem dX8_wornBy_33 : decode cX8_wornBy 33 = .ok (.istore_n 2, 1) := by decide +kernel
theorem dX8_wornBy_34 : decode cX8_wornBy 34 = .ok (.iinc 3 1, 3) := by decide +kernel
theorem dX8_wornBy_37 : decode cX8_wornBy 37 = .ok (.goto (-33), 3) := by decide +kernel
theorem dX8_wornBy_40 : decode cX8_wornBy 40 = .ok (.iload_n 2, 1) := by decide +kernel
theorem dX8_wornBy_41 : decode cX8_wornBy 41 = .ok (.ireturn, 1) := by decide +kernel
theorem dX8_thing_0 : decode cX8_thing 0 = .ok (.iload_n 1, 1) := by decide +kernel
theorem dX8_thing_1 : decode cX8_thing 1 = .ok (.iconst 0, 1) := by decide +kernel
theorem dX8_thing_2 : decode cX8_thing 2 = .ok (.iconst 3, 1) := by decide +kernel
theorem dX8_thing_3 : decode cX8_thing 3 = .ok (.invokestatic 69, 3) := by decide +kernel
theorem dX8_thing_6 : decode cX8_thing 6 = .ok (.ifCond .eq 14, 3) := by decide +kernel
theorem dX8_thing_9 : decode cX8_thing 9 = .ok (.aload_n 0, 1) := by decide +kernel
theorem dX8_thing_10 : decode cX8_thing 10 = .ok (.getfield 7, 3) := by decide +kernel
theorem dX8_thing_13 : decode cX8_thing 13 = .ok (.iconst 0, 1) := by decide +kernel
theorem dX8_thing_14 : decode cX8_thing 14 = .ok (.iaload, 1) := by decide +kernel
theorem dX8_thing_15 : decode cX8_thing 15 = .ok (.bipush 8, 2) := by decide +kernel
theorem dX8_thing_17 : decode cX8_thing 17 = .ok (.if_icmp .ne 5, 3) := by decide +kernel
theorem dX8_thing_20 : decode cX8_thing 20 = .ok (.iconst (-1), 1) := by decide +kernel
theorem dX8_thing_21 : decode cX8_thing 21 = .ok (.ireturn, 1) := by decide +kernel
theorem dX8_thing_22 : decode cX8_thing 22 = .ok (.aload_n 0, 1) := by decide +kernel
theorem dX8_thing_23 : decode cX8_thing 23 = .ok (.getfield 7, 3) := by decide +kernel
theorem dX8_thing_26 : decode cX8_thing 26 = .ok (.bipush 8, 2) := by decide +kernel
theorem dX8_thing_28 : decode cX8_thing 28 = .ok (.aload_n 0, 1) := by decide +kernel
theorem dX8_thing_29 : decode cX8_thing 29 = .ok (.getfield 7, 3) := by decide +kernel
theorem dX8_thing_32 : decode cX8_thing 32 = .ok (.iconst 0, 1) := by decide +kernel
theorem dX8_thing_33 : decode cX8_thing 33 = .ok (.iaload, 1) := by decide +kernel
theorem dX8_thing_34 : decode cX8_thing 34 = .ok (.iadd, 1) := by decide +kernel
theorem dX8_thing_35 : decode cX8_thing 35 = .ok (.iload_n 1, 1) := by decide +kernel
theorem dX8_thing_36 : decode cX8_thing 36 = .ok (.iastore, 1) := by decide +kernel
theorem dX8_thing_37 : decode cX8_thing 37 = .ok (.aload_n 0, 1) := by decide +kernel
theorem dX8_thing_38 : decode cX8_thing 38 = .ok (.getfield 7, 3) := by decide +kernel
theorem dX8_thing_41 : decode cX8_thing 41 = .ok (.iconst 0, 1) := by decide +kernel
theorem dX8_thing_42 : decode cX8_thing 42 = .ok (.dup2, 1) := by decide +kernel
theorem dX8_thing_43 : decode cX8_thing 43 = .ok (.iaload, 1) := by decide +kernel
theorem dX8_thing_44 : decode cX8_thing 44 = .ok (.iconst 1, 1) := by decide +kernel
theorem dX8_thing_45 : decode cX8_thing 45 = .ok (.iadd, 1) := by decide +kernel
theorem dX8_thing_46 : decode cX8_thing 46 = .ok (.iastore, 1) := by decide +kernel
theorem dX8_thing_47 : decode cX8_thing 47 = .ok (.aload_n 0, 1) := by decide +kernel
theorem dX8_thing_48 : decode cX8_thing 48 = .ok (.getfield 7, 3) := by decide +kernel
theorem dX8_thing_51 : decode cX8_thing 51 = .ok (.iconst 0, 1) := by decide +kernel
theorem dX8_thing_52 : decode cX8_thing 52 = .ok (.iaload, 1) := by decide +kernel
theorem dX8_thing_53 : decode cX8_thing 53 = .ok (.iconst 1, 1) := by decide +kernel
theorem dX8_thing_54 : decode cX8_thing 54 = .ok (.isub, 1) := by decide +kernel
theorem dX8_thing_55 : decode cX8_thing 55 = .ok (.ireturn, 1) := by decide +kernel
theorem dX8_eye_0 : decode cX8_eye 0 = .ok (.iload_n 1, 1) := by decide +kernel
theorem dX8_eye_1 : decode cX8_eye 1 = .ok (.iconst 0, 1) := by decide +kernel
theorem dX8_eye_2 : decode cX8_eye 2 = .ok (.iconst 3, 1) := by decide +kernel
theorem dX8_eye_3 : decode cX8_eye 3 = .ok (.invokestatic 69, 3) := by decide +kernel
theorem dX8_eye_6 : decode cX8_eye 6 = .ok (.ifCond .eq 14, 3) := by decide +kernel
theorem dX8_eye_9 : decode cX8_eye 9 = .ok (.aload_n 0, 1) := by decide +kernel
theorem dX8_eye_10 : decode cX8_eye 10 = .ok (.getfield 7, 3) := by decide +kernel
theorem dX8_eye_13 : decode cX8_eye 13 = .ok (.iconst 1, 1) := by decide +kernel
theorem dX8_eye_14 : decode cX8_eye 14 = .ok (.iaload, 1) := by decide +kernel
theorem dX8_eye_15 : decode cX8_eye 15 = .ok (.bipush 8, 2) := by decide +kernel
theorem dX8_eye_17 : decode cX8_eye 17 = .ok (.if_icmp .ne 5, 3) := by decide +kernel
theorem dX8_eye_20 : decode cX8_eye 20 = .ok (.iconst (-1), 1) := by decide +kernel
theorem dX8_eye_21 : decode cX8_eye 21 = .ok (.ireturn, 1) := by decide +kernel
theorem dX8_eye_22 : decode cX8_eye 22 = .ok (.aload_n 0, 1) := by decide +kernel
theorem dX8_eye_23 : decode cX8_eye 23 = .ok (.getfield 7, 3) := by decide +kernel
theorem dX8_eye_26 : decode cX8_eye 26 = .ok (.iconst 1, 1) := by decide +kernel
theorem dX8_eye_27 : decode cX8_eye 27 = .ok (.iaload, 1) := by decide +kernel
theorem dX8_eye_28 : decode cX8_eye 28 = .ok (.istore_n 3, 1) := by decide +kernel
theorem dX8_eye_29 : decode cX8_eye 29 = .ok (.aload_n 0, 1) := by decide +kernel
theorem dX8_eye_30 : decode cX8_eye 30 = .ok (.iload_n 3, 1) := by decide +kernel
theorem dX8_eye_31 : decode cX8_eye 31 = .ok (.iconst 0, 1) := by decide +kernel
theorem dX8_eye_32 : decode cX8_eye 32 = .ok (.iload_n 1, 1) := by decide +kernel
theorem dX8_eye_33 : decode cX8_eye 33 = .ok (.invokevirtual 73, 3) := by decide +kernel
theorem dX8_eye_36 : decode cX8_eye 36 = .ok (.aload_n 0, 1) := by decide +kernel
theorem dX8_eye_37 : decode cX8_eye 37 = .ok (.iload_n 3, 1) := by decide +kernel
theorem dX8_eye_38 : decode cX8_eye 38 = .ok (.iconst 1, 1) := by decide +kernel
theorem dX8_eye_39 : decode cX8_eye 39 = .ok (.iload_n 2, 1) := by decide +kernel
theorem dX8_eye_40 : decode cX8_eye 40 = .ok (.ifCond .eq 7, 3) := by decide +kernel
theorem dX8_eye_43 : decode cX8_eye 43 = .ok (.iconst 1, 1) := by decide +kernel
theorem dX8_eye_44 : decode cX8_eye 44 = .ok (.goto 4, 3) := by decide +kernel
theorem dX8_eye_47 : decode cX8_eye 47 = .ok (.iconst 0, 1) := by decide +kernel
theorem dX8_eye_48 : decode cX8_eye 48 = .ok (.invokevirtual 73, 3) := by decide +kernel
theorem dX8_eye_51 : decode cX8_eye 51 = .ok (.aload_n 0, 1) := by decide +kernel
theorem dX8_eye_52 : decode cX8_eye 52 = .ok (.iload_n 3, 1) := by decide +kernel
theorem dX8_eye_53 : decode cX8_eye 53 = .ok (.invokevirtual 61, 3) := by decide +kernel
theorem dX8_eye_56 : decode cX8_eye 56 = .ok (.aload_n 0, 1) := by decide +kernel
theorem dX8_eye_57 : decode cX8_eye 57 = .ok (.getfield 7, 3) := by decide +kernel
theorem dX8_eye_60 : decode cX8_eye 60 = .ok (.iconst 1, 1) := by decide +kernel
theorem dX8_eye_61 : decode cX8_eye 61 = .ok (.dup2, 1) := by decide +kernel
theorem dX8_eye_62 : decode cX8_eye 62 = .ok (.iaload, 1) := by decide +kernel
theorem dX8_eye_63 : decode cX8_eye 63 = .ok (.iconst 1, 1) := by decide +kernel
theorem dX8_eye_64 : decode cX8_eye 64 = .ok (.iadd, 1) := by decide +kernel
theorem dX8_eye_65 : decode cX8_eye 65 = .ok (.iastore, 1) := by decide +kernel
theorem dX8_eye_66 : decode cX8_eye 66 = .ok (.iload_n 3, 1) := by decide +kernel
theorem dX8_eye_67 : decode cX8_eye 67 = .ok (.ireturn, 1) := by decide +kernel
theorem dX8_four_0 : decode cX8_four 0 = .ok (.bipush 24, 2) := by decide +kernel
theorem dX8_four_2 : decode cX8_four 2 = .ok (.istore_n 2, 1) := by decide +kernel
theorem dX8_four_3 : decode cX8_four 3 = .ok (.iload_n 2, 1) := by decide +kernel
theorem dX8_four_4 : decode cX8_four 4 = .ok (.ifCond .lt 35, 3) := by decide +kernel
theorem dX8_four_7 : decode cX8_four 7 = .ok (.aload_n 0, 1) := by decide +kernel
theorem dX8_four_8 : decode cX8_four 8 = .ok (.getfield 22, 3) := by decide +kernel
theorem dX8_four_11 : decode cX8_four 11 = .ok (.aload_n 0, 1) := by decide +kernel
theorem dX8_four_12 : decode cX8_four 12 = .ok (.getfield 81, 3) := by decide +kernel
theorem dX8_four_15 : decode cX8_four 15 = .ok (.iload_n 1, 1) := by decide +kernel
theorem dX8_four_16 : decode cX8_four 16 = .ok (.iload_n 2, 1) := by decide +kernel
theorem dX8_four_17 : decode cX8_four 17 = .ok (.ishr, 1) := by decide +kernel
theorem dX8_four_18 : decode cX8_four 18 = .ok (.sipush 255, 3) := by decide +kernel
theorem dX8_four_21 : decode cX8_four 21 = .ok (.iand, 1) := by decide +kernel
theorem dX8_four_22 : decode cX8_four 22 = .ok (.iastore, 1) := by decide +kernel
theorem dX8_four_23 : decode cX8_four 23 = .ok (.aload_n 0, 1) := by decide +kernel
theorem dX8_four_24 : decode cX8_four 24 = .ok (.dup, 1) := by decide +kernel
theorem dX8_four_25 : decode cX8_four 25 = .ok (.getfield 81, 3) := by decide +kernel
theorem dX8_four_28 : decode cX8_four 28 = .ok (.iconst 1, 1) := by decide +kernel
theorem dX8_four_29 : decode cX8_four 29 = .ok (.iadd, 1) := by decide +kernel
theorem dX8_four_30 : decode cX8_four 30 = .ok (.putfield 81, 3) := by decide +kernel
theorem dX8_four_33 : decode cX8_four 33 = .ok (.iinc 2 (-8), 3) := by decide +kernel
theorem dX8_four_36 : decode cX8_four 36 = .ok (.goto (-33), 3) := by decide +kernel
theorem dX8_four_39 : decode cX8_four 39 = .ok (.return_, 1) := by decide +kernel
theorem dX8_feed_0 : decode cX8_feed 0 = .ok (.aload_n 0, 1) := by decide +kernel
theorem dX8_feed_1 : decode cX8_feed 1 = .ok (.getfield 81, 3) := by decide +kernel
theorem dX8_feed_4 : decode cX8_feed 4 = .ok (.bipush 20, 2) := by decide +kernel
theorem dX8_feed_6 : decode cX8_feed 6 = .ok (.iadd, 1) := by decide +kernel
theorem dX8_feed_7 : decode cX8_feed 7 = .ok (.sipush 300, 3) := by decide +kernel
theorem dX8_feed_10 : decode cX8_feed 10 = .ok (.if_icmp .le 5, 3) := by decide +kernel
theorem dX8_feed_13 : decode cX8_feed 13 = .ok (.iconst (-1), 1) := by decide +kernel
theorem dX8_feed_14 : decode cX8_feed 14 = .ok (.ireturn, 1) := by decide +kernel
theorem dX8_feed_15 : decode cX8_feed 15 = .ok (.aload_n 0, 1) := by decide +kernel
theorem dX8_feed_16 : decode cX8_feed 16 = .ok (.iload_n 1, 1) := by decide +kernel
theorem dX8_feed_17 : decode cX8_feed 17 = .ok (.invokevirtual 84, 3) := by decide +kernel
theorem dX8_feed_20 : decode cX8_feed 20 = .ok (.aload_n 0, 1) := by decide +kernel
theorem dX8_feed_21 : decode cX8_feed 21 = .ok (.iload_n 2, 1) := by decide +kernel
theorem dX8_feed_22 : decode cX8_feed 22 = .ok (.invokevirtual 84, 3) := by decide +kernel
theorem dX8_feed_25 : decode cX8_feed 25 = .ok (.aload_n 0, 1) := by decide +kernel
theorem dX8_feed_26 : decode cX8_feed 26 = .ok (.iload_n 3, 1) := by decide +kernel
theorem dX8_feed_27 : decode cX8_feed 27 = .ok (.invokevirtual 84, 3) := by decide +kernel
theorem dX8_feed_30 : decode cX8_feed 30 = .ok (.aload_n 0, 1) := by decide +kernel
theorem dX8_feed_31 : decode cX8_feed 31 = .ok (.iload 4, 2) := by decide +kernel
theorem dX8_feed_33 : decode cX8_feed 33 = .ok (.invokevirtual 84, 3) := by decide +kernel
theorem dX8_feed_36 : decode cX8_feed 36 = .ok (.aload_n 0, 1) := by decide +kernel
theorem dX8_feed_37 : decode cX8_feed 37 = .ok (.iload 5, 2) := by decide +kernel
theorem dX8_feed_39 : decode cX8_feed 39 = .ok (.invokevirtual 84, 3) := by decide +kernel
theorem dX8_feed_42 : decode cX8_feed 42 = .ok (.aload_n 0, 1) := by decide +kernel
theorem dX8_feed_43 : decode cX8_feed 43 = .ok (.getfield 81, 3) := by decide +kernel
theorem dX8_feed_46 : decode cX8_feed 46 = .ok (.ireturn, 1) := by decide +kernel
theorem dX8_end_0 : decode cX8_end 0 = .ok (.iload_n 1, 1) := by decide +kernel
theorem dX8_end_1 : decode cX8_end 1 = .ok (.iconst 0, 1) := by decide +kernel
theorem dX8_end_2 : decode cX8_end 2 = .ok (.aload_n 0, 1) := by decide +kernel
theorem dX8_end_3 : decode cX8_end 3 = .ok (.getfield 81, 3) := by decide +kernel
theorem dX8_end_6 : decode cX8_end 6 = .ok (.invokestatic 69, 3) := by decide +kernel
theorem dX8_end_9 : decode cX8_end 9 = .ok (.ifCond .ne 5, 3) := by decide +kernel
theorem dX8_end_12 : decode cX8_end 12 = .ok (.iconst (-1), 1) := by decide +kernel
theorem dX8_end_13 : decode cX8_end 13 = .ok (.ireturn, 1) := by decide +kernel
theorem dX8_end_14 : decode cX8_end 14 = .ok (.aload_n 0, 1) := by decide +kernel
theorem dX8_end_15 : decode cX8_end 15 = .ok (.iload_n 1, 1) := by decide +kernel
theorem dX8_end_16 : decode cX8_end 16 = .ok (.putfield 81, 3) := by decide +kernel
theorem dX8_end_19 : decode cX8_end 19 = .ok (.iload_n 1, 1) := by decide +kernel
theorem dX8_end_20 : decode cX8_end 20 = .ok (.ireturn, 1) := by decide +kernel
theorem dX8_byteAt_0 : decode cX8_byteAt 0 = .ok (.iload_n 1, 1) := by decide +kernel
theorem dX8_byteAt_1 : decode cX8_byteAt 1 = .ok (.aload_n 0, 1) := by decide +kernel
theorem dX8_byteAt_2 : decode cX8_byteAt 2 = .ok (.getfield 81, 3) := by decide +kernel
theorem dX8_byteAt_5 : decode cX8_byteAt 5 = .ok (.if_icmp .ge 12, 3) := by decide +kernel
theorem dX8_byteAt_8 : decode cX8_byteAt 8 = .ok (.aload_n 0, 1) := by decide +kernel
theorem dX8_byteAt_9 : decode cX8_byteAt 9 = .ok (.getfield 22, 3) := by decide +kernel
theorem dX8_byteAt_12 : decode cX8_byteAt 12 = .ok (.iload_n 1, 1) := by decide +kernel
theorem dX8_byteAt_13 : decode cX8_byteAt 13 = .ok (.iaload, 1) := by decide +kernel
theorem dX8_byteAt_14 : decode cX8_byteAt 14 = .ok (.goto 4, 3) := by decide +kernel
theorem dX8_byteAt_17 : decode cX8_byteAt 17 = .ok (.iconst (-1), 1) := by decide +kernel
theorem dX8_byteAt_18 : decode cX8_byteAt 18 = .ok (.ireturn, 1) := by decide +kernel
theorem dX8_isLetter_0 : decode cX8_isLetter 0 = .ok (.iload_n 0, 1) := by decide +kernel
theorem dX8_isLetter_1 : decode cX8_isLetter 1 = .ok (.bipush 97, 2) := by decide +kernel
theorem dX8_isLetter_3 : decode cX8_isLetter 3 = .ok (.bipush 122, 2) := by decide +kernel
theorem dX8_isLetter_5 : decode cX8_isLetter 5 = .ok (.invokestatic 69, 3) := by decide +kernel
theorem dX8_isLetter_8 : decode cX8_isLetter 8 = .ok (.ifCond .ne 14, 3) := by decide +kernel
theorem dX8_isLetter_11 : decode cX8_isLetter 11 = .ok (.iload_n 0, 1) := by decide +kernel
theorem dX8_isLetter_12 : decode cX8_isLetter 12 = .ok (.bipush 65, 2) := by decide +kernel
theorem dX8_isLetter_14 : decode cX8_isLetter 14 = .ok (.bipush 90, 2) := by decide +kernel
theorem dX8_isLetter_16 : decode cX8_isLetter 16 = .ok (.invokestatic 69, 3) := by decide +kernel
theorem dX8_isLetter_19 : decode cX8_isLetter 19 = .ok (.ifCond .eq 7, 3) := by decide +kernel
theorem dX8_isLetter_22 : decode cX8_isLetter 22 = .ok (.iconst 1, 1) := by decide +kernel
theorem dX8_isLetter_23 : decode cX8_isLetter 23 = .ok (.goto 4, 3) := by decide +kernel
theorem dX8_isLetter_26 : decode cX8_isLetter 26 = .ok (.iconst 0, 1) := by decide +kernel
theorem dX8_isLetter_27 : decode cX8_isLetter 27 = .ok (.ireturn, 1) := by decide +kernel
theorem dX8_isDigit_0 : decode cX8_isDigit 0 = .ok (.iload_n 0, 1) := by decide +kernel
theorem dX8_isDigit_1 : decode cX8_isDigit 1 = .ok (.bipush 48, 2) := by decide +kernel
theorem dX8_isDigit_3 : decode cX8_isDigit 3 = .ok (.bipush 57, 2) := by decide +kernel
theorem dX8_isDigit_5 : decode cX8_isDigit 5 = .ok (.invokestatic 69, 3) := by decide +kernel
theorem dX8_isDigit_8 : decode cX8_isDigit 8 = .ok (.ireturn, 1) := by decide +kernel
theorem dX8_nextToken_0 : decode cX8_nextToken 0 = .ok (.aload_n 0, 1) := by decide +kernel
theorem dX8_nextToken_1 : decode cX8_nextToken 1 = .ok (.aload_n 0, 1) := by decide +kernel
theorem dX8_nextToken_2 : decode cX8_nextToken 2 = .ok (.getfield 87, 3) := by decide +kernel
theorem dX8_nextToken_5 : decode cX8_nextToken 5 = .ok (.invokevirtual 90, 3) := by decide +kernel
theorem dX8_nextToken_8 : decode cX8_nextToken 8 = .ok (.bipush 32, 2) := by decide +kernel
theorem dX8_nextToken_10 : decode cX8_nextToken 10 = .ok (.if_icmp .eq 16, 3) := by decide +kernel
theorem dX8_nextToken_13 : decode cX8_nextToken 13 = .ok (.aload_n 0, 1) := by decide +kernel
theorem dX8_nextToken_14 : decode cX8_nextToken 14 = .ok (.aload_n 0, 1) := by decide +kernel
theorem dX8_nextToken_15 : decode cX8_nextToken 15 = .ok (.getfield 87, 3) := by decide +kernel
theorem dX8_nextToken_18 : decode cX8_nextToken 18 = .ok (.invokevirtual 90, 3) := by decide +kernel
theorem dX8_nextToken_21 : decode cX8_nextToken 21 = .ok (.bipush 10, 2) := by decide +kernel
theorem dX8_nextToken_23 : decode cX8_nextToken 23 = .ok (.if_icmp .ne 16, 3) := by decide +kernel
theorem dX8_nextToken_26 : decode cX8_nextToken 26 = .ok (.aload_n 0, 1) := by decide +kernel
theorem dX8_nextToken_27 : decode cX8_nextToken 27 = .ok (.dup, 1) := by decide +kernel
theorem dX8_nextToken_28 : decode cX8_nextToken 28 = .ok (.getfield 87, 3) := by decide +kernel
theorem dX8_nextToken_31 : decode cX8_nextToken 31 = .ok (.iconst 1, 1) := by decide +kernel
theorem dX8_nextToken_32 : decode cX8_nextToken 32 = .ok (.iadd, 1) := by decide +kernel
theorem dX8_nextToken_33 : decode cX8_nextToken 33 = .ok (.putfield 87, 3) := by decide +kernel
theorem dX8_nextToken_36 : decode cX8_nextToken 36 = .ok (.goto (-36), 3) := by decide +kernel
theorem dX8_nextToken_39 : decode cX8_nextToken 39 = .ok (.aload_n 0, 1) := by decide +kernel
theorem dX8_nextToken_40 : decode cX8_nextToken 40 = .ok (.aload_n 0, 1) := by decide +kernel
theorem dX8_nextToken_41 : decode cX8_nextToken 41 = .ok (.getfield 87, 3) := by decide +kernel
theorem dX8_nextToken_44 : decode cX8_nextToken 44 = .ok (.putfield 94, 3) := by decide +kernel
theorem dX8_nextToken_47 : decode cX8_nextToken 47 = .ok (.aload_n 0, 1) := by decide +kernel
theorem dX8_nextToken_48 : decode cX8_nextToken 48 = .ok (.aload_n 0, 1) := by decide +kernel
theorem dX8_nextToken_49 : decode cX8_nextToken 49 = .ok (.getfield 87, 3) := by decide +kernel
