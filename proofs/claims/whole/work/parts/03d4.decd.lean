theorem dX10_dayGoes_35 : decode cX10_dayGoes 35 = .ok (.iaload, 1) := by decide +kernel
theorem dX10_dayGoes_36 : decode cX10_dayGoes 36 = .ok (.invokevirtual 356, 3) := by decide +kernel
theorem dX10_dayGoes_39 : decode cX10_dayGoes 39 = .ok (.istore_n 2, 1) := by decide +kernel
theorem dX10_dayGoes_40 : decode cX10_dayGoes 40 = .ok (.aload_n 0, 1) := by decide +kernel
theorem dX10_dayGoes_41 : decode cX10_dayGoes 41 = .ok (.getfield 72, 3) := by decide +kernel
theorem dX10_dayGoes_44 : decode cX10_dayGoes 44 = .ok (.iload_n 1, 1) := by decide +kernel
theorem dX10_dayGoes_45 : decode cX10_dayGoes 45 = .ok (.iconst 1, 1) := by decide +kernel
theorem dX10_dayGoes_46 : decode cX10_dayGoes 46 = .ok (.iadd, 1) := by decide +kernel
theorem dX10_dayGoes_47 : decode cX10_dayGoes 47 = .ok (.iaload, 1) := by decide +kernel
theorem dX10_dayGoes_48 : decode cX10_dayGoes 48 = .ok (.ifCond .ne 14, 3) := by decide +kernel
theorem dX10_dayGoes_51 : decode cX10_dayGoes 51 = .ok (.iload_n 2, 1) := by decide +kernel
theorem dX10_dayGoes_52 : decode cX10_dayGoes 52 = .ok (.iconst (-1), 1) := by decide +kernel
theorem dX10_dayGoes_53 : decode cX10_dayGoes 53 = .ok (.if_icmp .eq 9, 3) := by decide +kernel
theorem dX10_dayGoes_56 : decode cX10_dayGoes 56 = .ok (.aload_n 0, 1) := by decide +kernel
theorem dX10_dayGoes_57 : decode cX10_dayGoes 57 = .ok (.iload_n 1, 1) := by decide +kernel
theorem dX10_dayGoes_58 : decode cX10_dayGoes 58 = .ok (.iload_n 2, 1) := by decide +kernel
theorem dX10_dayGoes_59 : decode cX10_dayGoes 59 = .ok (.invokevirtual 359, 3) := by decide +kernel
theorem dX10_dayGoes_62 : decode cX10_dayGoes 62 = .ok (.iconst 0, 1) := by decide +kernel
theorem dX10_dayGoes_63 : decode cX10_dayGoes 63 = .ok (.istore_n 3, 1) := by decide +kernel
theorem dX10_dayGoes_64 : decode cX10_dayGoes 64 = .ok (.iload_n 3, 1) := by decide +kernel
theorem dX10_dayGoes_65 : decode cX10_dayGoes 65 = .ok (.aload_n 0, 1) := by decide +kernel
theorem dX10_dayGoes_66 : decode cX10_dayGoes 66 = .ok (.getfield 285, 3) := by decide +kernel
theorem dX10_dayGoes_69 : decode cX10_dayGoes 69 = .ok (.if_icmp .ge 49, 3) := by decide +kernel
theorem dX10_dayGoes_72 : decode cX10_dayGoes 72 = .ok (.aload_n 0, 1) := by decide +kernel
theorem dX10_dayGoes_73 : decode cX10_dayGoes 73 = .ok (.getfield 72, 3) := by decide +kernel
theorem dX10_dayGoes_76 : decode cX10_dayGoes 76 = .ok (.iload_n 1, 1) := by decide +kernel
theorem dX10_dayGoes_77 : decode cX10_dayGoes 77 = .ok (.iconst 2, 1) := by decide +kernel
theorem dX10_dayGoes_78 : decode cX10_dayGoes 78 = .ok (.iadd, 1) := by decide +kernel
theorem dX10_dayGoes_79 : decode cX10_dayGoes 79 = .ok (.iload_n 3, 1) := by decide +kernel
theorem dX10_dayGoes_80 : decode cX10_dayGoes 80 = .ok (.iadd, 1) := by decide +kernel
theorem dX10_dayGoes_81 : decode cX10_dayGoes 81 = .ok (.dup2, 1) := by decide +kernel
theorem dX10_dayGoes_82 : decode cX10_dayGoes 82 = .ok (.iaload, 1) := by decide +kernel
theorem dX10_dayGoes_83 : decode cX10_dayGoes 83 = .ok (.aload_n 0, 1) := by decide +kernel
theorem dX10_dayGoes_84 : decode cX10_dayGoes 84 = .ok (.iload_n 1, 1) := by decide +kernel
theorem dX10_dayGoes_85 : decode cX10_dayGoes 85 = .ok (.iload_n 3, 1) := by decide +kernel
theorem dX10_dayGoes_86 : decode cX10_dayGoes 86 = .ok (.invokevirtual 321, 3) := by decide +kernel
theorem dX10_dayGoes_89 : decode cX10_dayGoes 89 = .ok (.ifCond .le 20, 3) := by decide +kernel
theorem dX10_dayGoes_92 : decode cX10_dayGoes 92 = .ok (.aload_n 0, 1) := by decide +kernel
theorem dX10_dayGoes_93 : decode cX10_dayGoes 93 = .ok (.getfield 72, 3) := by decide +kernel
theorem dX10_dayGoes_96 : decode cX10_dayGoes 96 = .ok (.iload_n 1, 1) := by decide +kernel
theorem dX10_dayGoes_97 : decode cX10_dayGoes 97 = .ok (.iconst 2, 1) := by decide +kernel
theorem dX10_dayGoes_98 : decode cX10_dayGoes 98 = .ok (.iadd, 1) := by decide +kernel
theorem dX10_dayGoes_99 : decode cX10_dayGoes 99 = .ok (.iload_n 3, 1) := by decide +kernel
theorem dX10_dayGoes_100 : decode cX10_dayGoes 100 = .ok (.iadd, 1) := by decide +kernel
theorem dX10_dayGoes_101 : decode cX10_dayGoes 101 = .ok (.iaload, 1) := by decide +kernel
theorem dX10_dayGoes_102 : decode cX10_dayGoes 102 = .ok (.ifCond .le 7, 3) := by decide +kernel
theorem dX10_dayGoes_105 : decode cX10_dayGoes 105 = .ok (.iconst 1, 1) := by decide +kernel
theorem dX10_dayGoes_106 : decode cX10_dayGoes 106 = .ok (.goto 4, 3) := by decide +kernel
theorem dX10_dayGoes_109 : decode cX10_dayGoes 109 = .ok (.iconst 0, 1) := by decide +kernel
theorem dX10_dayGoes_110 : decode cX10_dayGoes 110 = .ok (.isub, 1) := by decide +kernel
theorem dX10_dayGoes_111 : decode cX10_dayGoes 111 = .ok (.iastore, 1) := by decide +kernel
theorem dX10_dayGoes_112 : decode cX10_dayGoes 112 = .ok (.iinc 3 1, 3) := by decide +kernel
theorem dX10_dayGoes_115 : decode cX10_dayGoes 115 = .ok (.goto (-51), 3) := by decide +kernel
theorem dX10_dayGoes_118 : decode cX10_dayGoes 118 = .ok (.aload_n 0, 1) := by decide +kernel
theorem dX10_dayGoes_119 : decode cX10_dayGoes 119 = .ok (.getfield 72, 3) := by decide +kernel
theorem dX10_dayGoes_122 : decode cX10_dayGoes 122 = .ok (.iload_n 1, 1) := by decide +kernel
theorem dX10_dayGoes_123 : decode cX10_dayGoes 123 = .ok (.iconst 0, 1) := by decide +kernel
theorem dX10_dayGoes_124 : decode cX10_dayGoes 124 = .ok (.iadd, 1) := by decide +kernel
theorem dX10_dayGoes_125 : decode cX10_dayGoes 125 = .ok (.dup2, 1) := by decide +kernel
theorem dX10_dayGoes_126 : decode cX10_dayGoes 126 = .ok (.iaload, 1) := by decide +kernel
theorem dX10_dayGoes_127 : decode cX10_dayGoes 127 = .ok (.iconst 1, 1) := by decide +kernel
theorem dX10_dayGoes_128 : decode cX10_dayGoes 128 = .ok (.iadd, 1) := by decide +kernel
theorem dX10_dayGoes_129 : decode cX10_dayGoes 129 = .ok (.iastore, 1) := by decide +kernel
theorem dX10_dayGoes_130 : decode cX10_dayGoes 130 = .ok (.return_, 1) := by decide +kernel
theorem dX10_daysGo_0 : decode cX10_daysGo 0 = .ok (.iconst 0, 1) := by decide +kernel
theorem dX10_daysGo_1 : decode cX10_daysGo 1 = .ok (.istore_n 2, 1) := by decide +kernel
theorem dX10_daysGo_2 : decode cX10_daysGo 2 = .ok (.iload_n 2, 1) := by decide +kernel
theorem dX10_daysGo_3 : decode cX10_daysGo 3 = .ok (.iload_n 1, 1) := by decide +kernel
theorem dX10_daysGo_4 : decode cX10_daysGo 4 = .ok (.if_icmp .ge 15, 3) := by decide +kernel
theorem dX10_daysGo_7 : decode cX10_daysGo 7 = .ok (.aload_n 0, 1) := by decide +kernel
theorem dX10_daysGo_8 : decode cX10_daysGo 8 = .ok (.bipush 80, 2) := by decide +kernel
theorem dX10_daysGo_10 : decode cX10_daysGo 10 = .ok (.invokevirtual 362, 3) := by decide +kernel
theorem dX10_daysGo_13 : decode cX10_daysGo 13 = .ok (.iinc 2 1, 3) := by decide +kernel
theorem dX10_daysGo_16 : decode cX10_daysGo 16 = .ok (.goto (-14), 3) := by decide +kernel
theorem dX10_daysGo_19 : decode cX10_daysGo 19 = .ok (.return_, 1) := by decide +kernel
theorem dX10_fansOf_0 : decode cX10_fansOf 0 = .ok (.iconst 0, 1) := by decide +kernel
theorem dX10_fansOf_1 : decode cX10_fansOf 1 = .ok (.istore_n 2, 1) := by decide +kernel
theorem dX10_fansOf_2 : decode cX10_fansOf 2 = .ok (.iconst 0, 1) := by decide +kernel
theorem dX10_fansOf_3 : decode cX10_fansOf 3 = .ok (.istore_n 3, 1) := by decide +kernel
theorem dX10_fansOf_4 : decode cX10_fansOf 4 = .ok (.iload_n 3, 1) := by decide +kernel
theorem dX10_fansOf_5 : decode cX10_fansOf 5 = .ok (.aload_n 0, 1) := by decide +kernel
theorem dX10_fansOf_6 : decode cX10_fansOf 6 = .ok (.getfield 288, 3) := by decide +kernel
theorem dX10_fansOf_9 : decode cX10_fansOf 9 = .ok (.if_icmp .ge 32, 3) := by decide +kernel
theorem dX10_fansOf_12 : decode cX10_fansOf 12 = .ok (.iload_n 2, 1) := by decide +kernel
theorem dX10_fansOf_13 : decode cX10_fansOf 13 = .ok (.aload_n 0, 1) := by decide +kernel
theorem dX10_fansOf_14 : decode cX10_fansOf 14 = .ok (.getfield 72, 3) := by decide +kernel
theorem dX10_fansOf_17 : decode cX10_fansOf 17 = .ok (.bipush 72, 2) := by decide +kernel
theorem dX10_fansOf_19 : decode cX10_fansOf 19 = .ok (.iload_n 3, 1) := by decide +kernel
theorem dX10_fansOf_20 : decode cX10_fansOf 20 = .ok (.iadd, 1) := by decide +kernel
theorem dX10_fansOf_21 : decode cX10_fansOf 21 = .ok (.iaload, 1) := by decide +kernel
theorem dX10_fansOf_22 : decode cX10_fansOf 22 = .ok (.iload_n 1, 1) := by decide +kernel
theorem dX10_fansOf_23 : decode cX10_fansOf 23 = .ok (.if_icmp .ne 9, 3) := by decide +kernel
theorem dX10_fansOf_26 : decode cX10_fansOf 26 = .ok (.iconst 1, 1) := by decide +kernel
theorem dX10_fansOf_27 : decode cX10_fansOf 27 = .ok (.iload_n 3, 1) := by decide +kernel
theorem dX10_fansOf_28 : decode cX10_fansOf 28 = .ok (.ishl, 1) := by decide +kernel
theorem dX10_fansOf_29 : decode cX10_fansOf 29 = .ok (.goto 4, 3) := by decide +kernel
theorem dX10_fansOf_32 : decode cX10_fansOf 32 = .ok (.iconst 0, 1) := by decide +kernel
theorem dX10_fansOf_33 : decode cX10_fansOf 33 = .ok (.ior, 1) := by decide +kernel
theorem dX10_fansOf_34 : decode cX10_fansOf 34 = .ok (.istore_n 2, 1) := by decide +kernel
theorem dX10_fansOf_35 : decode cX10_fansOf 35 = .ok (.iinc 3 1, 3) := by decide +kernel
theorem dX10_fansOf_38 : decode cX10_fansOf 38 = .ok (.goto (-34), 3) := by decide +kernel
theorem dX10_fansOf_41 : decode cX10_fansOf 41 = .ok (.iload_n 2, 1) := by decide +kernel
theorem dX10_fansOf_42 : decode cX10_fansOf 42 = .ok (.ireturn, 1) := by decide +kernel
theorem dX10_mutual_0 : decode cX10_mutual 0 = .ok (.iconst 0, 1) := by decide +kernel
theorem dX10_mutual_1 : decode cX10_mutual 1 = .ok (.istore_n 1, 1) := by decide +kernel
theorem dX10_mutual_2 : decode cX10_mutual 2 = .ok (.iconst 0, 1) := by decide +kernel
theorem dX10_mutual_3 : decode cX10_mutual 3 = .ok (.istore_n 2, 1) := by decide +kernel
theorem dX10_mutual_4 : decode cX10_mutual 4 = .ok (.iload_n 2, 1) := by decide +kernel
theorem dX10_mutual_5 : decode cX10_mutual 5 = .ok (.aload_n 0, 1) := by decide +kernel
theorem dX10_mutual_6 : decode cX10_mutual 6 = .ok (.getfield 288, 3) := by decide +kernel
theorem dX10_mutual_9 : decode cX10_mutual 9 = .ok (.if_icmp .ge 56, 3) := by decide +kernel
theorem dX10_mutual_12 : decode cX10_mutual 12 = .ok (.iconst 0, 1) := by decide +kernel
theorem dX10_mutual_13 : decode cX10_mutual 13 = .ok (.istore_n 3, 1) := by decide +kernel
theorem dX10_mutual_14 : decode cX10_mutual 14 = .ok (.iload_n 3, 1) := by decide +kernel
theorem dX10_mutual_15 : decode cX10_mutual 15 = .ok (.iload_n 2, 1) := by decide +kernel
theorem dX10_mutual_16 : decode cX10_mutual 16 = .ok (.if_icmp .ge 43, 3) := by decide +kernel
theorem dX10_mutual_19 : decode cX10_mutual 19 = .ok (.iload_n 1, 1) := by decide +kernel
theorem dX10_mutual_20 : decode cX10_mutual 20 = .ok (.aload_n 0, 1) := by decide +kernel
theorem dX10_mutual_21 : decode cX10_mutual 21 = .ok (.getfield 72, 3) := by decide +kernel
theorem dX10_mutual_24 : decode cX10_mutual 24 = .ok (.bipush 72, 2) := by decide +kernel
theorem dX10_mutual_26 : decode cX10_mutual 26 = .ok (.iload_n 2, 1) := by decide +kernel
theorem dX10_mutual_27 : decode cX10_mutual 27 = .ok (.iadd, 1) := by decide +kernel
theorem dX10_mutual_28 : decode cX10_mutual 28 = .ok (.iaload, 1) := by decide +kernel
theorem dX10_mutual_29 : decode cX10_mutual 29 = .ok (.iload_n 3, 1) := by decide +kernel
theorem dX10_mutual_30 : decode cX10_mutual 30 = .ok (.if_icmp .ne 20, 3) := by decide +kernel
theorem dX10_mutual_33 : decode cX10_mutual 33 = .ok (.aload_n 0, 1) := by decide +kernel
theorem dX10_mutual_34 : decode cX10_mutual 34 = .ok (.getfield 72, 3) := by decide +kernel
theorem dX10_mutual_37 : decode cX10_mutual 37 = .ok (.bipush 72, 2) := by decide +kernel
theorem dX10_mutual_39 : decode cX10_mutual 39 = .ok (.iload_n 3, 1) := by decide +kernel
theorem dX10_mutual_40 : decode cX10_mutual 40 = .ok (.iadd, 1) := by decide +kernel
theorem dX10_mutual_41 : decode cX10_mutual 41 = .ok (.iaload, 1) := by decide +kernel
theorem dX10_mutual_42 : decode cX10_mutual 42 = .ok (.iload_n 2, 1) := by decide +kernel
theorem dX10_mutual_43 : decode cX10_mutual 43 = .ok (.if_icmp .ne 7, 3) := by decide +kernel
theorem dX10_mutual_46 : decode cX10_mutual 46 = .ok (.iconst 1, 1) := by decide +kernel
theorem dX10_mutual_47 : decode cX10_mutual 47 = .ok (.goto 4, 3) := by decide +kernel
theorem dX10_mutual_50 : decode cX10_mutual 50 = .ok (.iconst 0, 1) := by decide +kernel
theorem dX10_mutual_51 : decode cX10_mutual 51 = .ok (.iadd, 1) := by decide +kernel
theorem dX10_mutual_52 : decode cX10_mutual 52 = .ok (.istore_n 1, 1) := by decide +kernel
theorem dX10_mutual_53 : decode cX10_mutual 53 = .ok (.iinc 3 1, 3) := by decide +kernel
theorem dX10_mutual_56 : decode cX10_mutual 56 = .ok (.goto (-42), 3) := by decide +kernel
theorem dX10_mutual_59 : decode cX10_mutual 59 = .ok (.iinc 2 1, 3) := by decide +kernel
theorem dX10_mutual_62 : decode cX10_mutual 62 = .ok (.goto (-58), 3) := by decide +kernel
theorem dX10_mutual_65 : decode cX10_mutual 65 = .ok (.iload_n 1, 1) := by decide +kernel
theorem dX10_mutual_66 : decode cX10_mutual 66 = .ok (.ireturn, 1) := by decide +kernel
theorem dX10_unthought_0 : decode cX10_unthought 0 = .ok (.iconst 0, 1) := by decide +kernel
theorem dX10_unthought_1 : decode cX10_unthought 1 = .ok (.istore_n 1, 1) := by decide +kernel
theorem dX10_unthought_2 : decode cX10_unthought 2 = .ok (.iconst 0, 1) := by decide +kernel
theorem dX10_unthought_3 : decode cX10_unthought 3 = .ok (.istore_n 2, 1) := by decide +kernel
theorem dX10_unthought_4 : decode cX10_unthought 4 = .ok (.iload_n 2, 1) := by decide +kernel
theorem dX10_unthought_5 : decode cX10_unthought 5 = .ok (.aload_n 0, 1) := by decide +kernel
theorem dX10_unthought_6 : decode cX10_unthought 6 = .ok (.getfield 288, 3) := by decide +kernel
theorem dX10_unthought_9 : decode cX10_unthought 9 = .ok (.if_icmp .ge 27, 3) := by decide +kernel
theorem dX10_unthought_12 : decode cX10_unthought 12 = .ok (.iload_n 1, 1) := by decide +kernel
theorem dX10_unthought_13 : decode cX10_unthought 13 = .ok (.aload_n 0, 1) := by decide +kernel
theorem dX10_unthought_14 : decode cX10_unthought 14 = .ok (.iload_n 2, 1) := by decide +kernel
theorem dX10_unthought_15 : decode cX10_unthought 15 = .ok (.invokevirtual 365, 3) := by decide +kernel
theorem dX10_unthought_18 : decode cX10_unthought 18 = .ok (.ifCond .ne 9, 3) := by decide +kernel
theorem dX10_unthought_21 : decode cX10_unthought 21 = .ok (.iconst 1, 1) := by decide +kernel
theorem dX10_unthought_22 : decode cX10_unthought 22 = .ok (.iload_n 2, 1) := by decide +kernel
theorem dX10_unthought_23 : decode cX10_unthought 23 = .ok (.ishl, 1) := by decide +kernel
theorem dX10_unthought_24 : decode cX10_unthought 24 = .ok (.goto 4, 3) := by decide +kernel
theorem dX10_unthought_27 : decode cX10_unthought 27 = .ok (.iconst 0, 1) := by decide +kernel
theorem dX10_unthought_28 : decode cX10_unthought 28 = .ok (.ior, 1) := by decide +kernel
theorem dX10_unthought_29 : decode cX10_unthought 29 = .ok (.istore_n 1, 1) := by decide +kernel
theorem dX10_unthought_30 : decode cX10_unthought 30 = .ok (.iinc 2 1, 3) := by decide +kernel
theorem dX10_unthought_33 : decode cX10_unthought 33 = .ok (.goto (-29), 3) := by decide +kernel
theorem dX10_unthought_36 : decode cX10_unthought 36 = .ok (.iload_n 1, 1) := by decide +kernel
theorem dX10_unthought_37 : decode cX10_unthought 37 = .ok (.ireturn, 1) := by decide +kernel
theorem dX10_count_0 : decode cX10_count 0 = .ok (.aload_n 0, 1) := by decide +kernel
theorem dX10_count_1 : decode cX10_count 1 = .ok (.iconst 0, 1) := by decide +kernel
theorem dX10_count_2 : decode cX10_count 2 = .ok (.putfield 111, 3) := by decide +kernel
theorem dX10_count_5 : decode cX10_count 5 = .ok (.aload_n 0, 1) := by decide +kernel
theorem dX10_count_6 : decode cX10_count 6 = .ok (.iload_n 1, 1) := by decide +kernel
theorem dX10_count_7 : decode cX10_count 7 = .ok (.iconst 0, 1) := by decide +kernel
theorem dX10_count_8 : decode cX10_count 8 = .ok (.bipush 15, 2) := by decide +kernel
theorem dX10_count_10 : decode cX10_count 10 = .ok (.invokestatic 368, 3) := by decide +kernel
theorem dX10_count_13 : decode cX10_count 13 = .ok (.iconst 1, 1) := by decide +kernel
theorem dX10_count_14 : decode cX10_count 14 = .ok (.invokevirtual 278, 3) := by decide +kernel
theorem dX10_count_17 : decode cX10_count 17 = .ok (.ifCond .ne 5, 3) := by decide +kernel
theorem dX10_count_20 : decode cX10_count 20 = .ok (.iconst 0, 1) := by decide +kernel
theorem dX10_count_21 : decode cX10_count 21 = .ok (.ireturn, 1) := by decide +kernel
theorem dX10_count_22 : decode cX10_count 22 = .ok (.iload_n 1, 1) := by decide +kernel
theorem dX10_count_23 : decode cX10_count 23 = .ok (.tableswitch 145 0 12 #[65, 70, 75, 82, 88, 95, 106, 112, 120, 125, 130, 135, 140], 65) := by decide +kernel
theorem dX10_count_88 : decode cX10_count 88 = .ok (.aload_n 0, 1) := by decide +kernel
theorem dX10_count_89 : decode cX10_count 89 = .ok (.getfield 285, 3) := by decide +kernel
theorem dX10_count_92 : decode cX10_count 92 = .ok (.ireturn, 1) := by decide +kernel
theorem dX10_count_93 : decode cX10_count 93 = .ok (.aload_n 0, 1) := by decide +kernel
theorem dX10_count_94 : decode cX10_count 94 = .ok (.getfield 288, 3) := by decide +kernel
theorem dX10_count_97 : decode cX10_count 97 = .ok (.ireturn, 1) := by decide +kernel
theorem dX10_count_98 : decode cX10_count 98 = .ok (.aload_n 0, 1) := by decide +kernel
theorem dX10_count_99 : decode cX10_count 99 = .ok (.getfield 72, 3) := by decide +kernel
theorem dX10_count_102 : decode cX10_count 102 = .ok (.iconst 0, 1) := by decide +kernel
theorem dX10_count_103 : decode cX10_count 103 = .ok (.iaload, 1) := by decide +kernel
theorem dX10_count_104 : decode cX10_count 104 = .ok (.ireturn, 1) := by decide +kernel
theorem dX10_count_105 : decode cX10_count 105 = .ok (.aload_n 0, 1) := by decide +kernel
theorem dX10_count_106 : decode cX10_count 106 = .ok (.iconst 0, 1) := by decide +kernel
theorem dX10_count_107 : decode cX10_count 107 = .ok (.invokevirtual 330, 3) := by decide +kernel
theorem dX10_count_110 : decode cX10_count 110 = .ok (.ireturn, 1) := by decide +kernel
theorem dX10_count_111 : decode cX10_count 111 = .ok (.aload_n 0, 1) := by decide +kernel
theorem dX10_count_112 : decode cX10_count 112 = .ok (.getfield 72, 3) := by decide +kernel
theorem dX10_count_115 : decode cX10_count 115 = .ok (.iconst 1, 1) := by decide +kernel
theorem dX10_count_116 : decode cX10_count 116 = .ok (.iaload, 1) := by decide +kernel
theorem dX10_count_117 : decode cX10_count 117 = .ok (.ireturn, 1) := by decide +kernel
theorem dX10_count_118 : decode cX10_count 118 = .ok (.aload_n 0, 1) := by decide +kernel
theorem dX10_count_119 : decode cX10_count 119 = .ok (.aload_n 0, 1) := by decide +kernel
theorem dX10_count_120 : decode cX10_count 120 = .ok (.getfield 72, 3) := by decide +kernel
theorem dX10_count_123 : decode cX10_count 123 = .ok (.iconst 0, 1) := by decide +kernel
theorem dX10_count_124 : decode cX10_count 124 = .ok (.iaload, 1) := by decide +kernel
theorem dX10_count_125 : decode cX10_count 125 = .ok (.invokevirtual 356, 3) := by decide +kernel
theorem dX10_count_128 : decode cX10_count 128 = .ok (.ireturn, 1) := by decide +kernel
theorem dX10_count_129 : decode cX10_count 129 = .ok (.aload_n 0, 1) := by decide +kernel
theorem dX10_count_130 : decode cX10_count 130 = .ok (.iconst 0, 1) := by decide +kernel
theorem dX10_count_131 : decode cX10_count 131 = .ok (.invokevirtual 372, 3) := by decide +kernel
theorem dX10_count_134 : decode cX10_count 134 = .ok (.ireturn, 1) := by decide +kernel
theorem dX10_count_135 : decode cX10_count 135 = .ok (.aload_n 0, 1) := by decide +kernel
theorem dX10_count_136 : decode cX10_count 136 = .ok (.iconst 0, 1) := by decide +kernel
theorem dX10_count_137 : decode cX10_count 137 = .ok (.bipush 64, 2) := by decide +kernel
theorem dX10_count_139 : decode cX10_count 139 = .ok (.invokevirtual 375, 3) := by decide +kernel
theorem dX10_count_142 : decode cX10_count 142 = .ok (.ireturn, 1) := by decide +kernel
theorem dX10_count_143 : decode cX10_count 143 = .ok (.aload_n 0, 1) := by decide +kernel
theorem dX10_count_144 : decode cX10_count 144 = .ok (.invokevirtual 378, 3) := by decide +kernel
theorem dX10_count_147 : decode cX10_count 147 = .ok (.ireturn, 1) := by decide +kernel
theorem dX10_count_148 : decode cX10_count 148 = .ok (.aload_n 0, 1) := by decide +kernel
theorem dX10_count_149 : decode cX10_count 149 = .ok (.invokevirtual 381, 3) := by decide +kernel
theorem dX10_count_152 : decode cX10_count 152 = .ok (.ireturn, 1) := by decide +kernel
theorem dX10_count_153 : decode cX10_count 153 = .ok (.aload_n 0, 1) := by decide +kernel
theorem dX10_count_154 : decode cX10_count 154 = .ok (.getfield 301, 3) := by decide +kernel
theorem dX10_count_157 : decode cX10_count 157 = .ok (.ireturn, 1) := by decide +kernel
theorem dX10_count_158 : decode cX10_count 158 = .ok (.aload_n 0, 1) := by decide +kernel
theorem dX10_count_159 : decode cX10_count 159 = .ok (.getfield 304, 3) := by decide +kernel
theorem dX10_count_162 : decode cX10_count 162 = .ok (.ireturn, 1) := by decide +kernel
theorem dX10_count_163 : decode cX10_count 163 = .ok (.aload_n 0, 1) := by decide +kernel
theorem dX10_count_164 : decode cX10_count 164 = .ok (.getfield 114, 3) := by decide +kernel
theorem dX10_count_167 : decode cX10_count 167 = .ok (.ireturn, 1) := by decide +kernel
theorem dX10_count_168 : decode cX10_count 168 = .ok (.aload_n 0, 1) := by decide +kernel
theorem dX10_count_169 : decode cX10_count 169 = .ok (.getfield 41, 3) := by decide +kernel
theorem dX10_count_172 : decode cX10_count 172 = .ok (.iload_n 1, 1) := by decide +kernel
theorem dX10_count_173 : decode cX10_count 173 = .ok (.bipush 13, 2) := by decide +kernel
theorem dX10_count_175 : decode cX10_count 175 = .ok (.isub, 1) := by decide +kernel
theorem dX10_count_176 : decode cX10_count 176 = .ok (.iaload, 1) := by decide +kernel
theorem dX10_count_177 : decode cX10_count 177 = .ok (.ireturn, 1) := by decide +kernel
theorem dX10_isBox_0 : decode cX10_isBox 0 = .ok (.aload_n 0, 1) := by decide +kernel
theorem dX10_isBox_1 : decode cX10_isBox 1 = .ok (.iload_n 1, 1) := by decide +kernel
theorem dX10_isBox_2 : decode cX10_isBox 2 = .ok (.ifCond .lt 15, 3) := by decide +kernel
theorem dX10_isBox_5 : decode cX10_isBox 5 = .ok (.iload_n 1, 1) := by decide +kernel
theorem dX10_isBox_6 : decode cX10_isBox 6 = .ok (.aload_n 0, 1) := by decide +kernel
theorem dX10_isBox_7 : decode cX10_isBox 7 = .ok (.getfield 285, 3) := by decide +kernel
theorem dX10_isBox_10 : decode cX10_isBox 10 = .ok (.if_icmp .ge 7, 3) := by decide +kernel
theorem dX10_isBox_13 : decode cX10_isBox 13 = .ok (.iconst 1, 1) := by decide +kernel
theorem dX10_isBox_14 : decode cX10_isBox 14 = .ok (.goto 4, 3) := by decide +kernel
theorem dX10_isBox_17 : decode cX10_isBox 17 = .ok (.iconst 0, 1) := by decide +kernel
theorem dX10_isBox_18 : decode cX10_isBox 18 = .ok (.iconst 1, 1) := by decide +kernel
theorem dX10_isBox_19 : decode cX10_isBox 19 = .ok (.invokevirtual 278, 3) := by decide +kernel
theorem dX10_isBox_22 : decode cX10_isBox 22 = .ok (.ireturn, 1) := by decide +kernel
theorem dX10_isPerson_0 : decode cX10_isPerson 0 = .ok (.aload_n 0, 1) := by decide +kernel
theorem dX10_isPerson_1 : decode cX10_isPerson 1 = .ok (.iload_n 1, 1) := by decide +kernel
theorem dX10_isPerson_2 : decode cX10_isPerson 2 = .ok (.ifCond .lt 15, 3) := by decide +kernel
theorem dX10_isPerson_5 : decode cX10_isPerson 5 = .ok (.iload_n 1, 1) := by decide +kernel
theorem dX10_isPerson_6 : decode cX10_isPerson 6 = .ok (.aload_n 0, 1) := by decide +kernel
theorem dX10_isPerson_7 : decode cX10_isPerson 7 = .ok (.getfield 288, 3) := by decide +kernel
theorem dX10_isPerson_10 : decode cX10_isPerson 10 = .ok (.if_icmp .ge 7, 3) := by decide +kernel
theorem dX10_isPerson_13 : decode cX10_isPerson 13 = .ok (.iconst 1, 1) := by decide +kernel
theorem dX10_isPerson_14 : decode cX10_isPerson 14 = .ok (.goto 4, 3) := by decide +kernel
theorem dX10_isPerson_17 : decode cX10_isPerson 17 = .ok (.iconst 0, 1) := by decide +kernel
theorem dX10_isPerson_18 : decode cX10_isPerson 18 = .ok (.iconst 1, 1) := by decide +kernel
theorem dX10_isPerson_19 : decode cX10_isPerson 19 = .ok (.invokevirtual 278, 3) := by decide +kernel
theorem dX10_isPerson_22 : decode cX10_isPerson 22 = .ok (.ireturn, 1) := by decide +kernel
theorem dX10_isWhat_0 : decode cX10_isWhat 0 = .ok (.aload_n 0, 1) := by decide +kernel
theorem dX10_isWhat_1 : decode cX10_isWhat 1 = .ok (.iload_n 1, 1) := by decide +kernel
theorem dX10_isWhat_2 : decode cX10_isWhat 2 = .ok (.iconst 0, 1) := by decide +kernel
theorem dX10_isWhat_3 : decode cX10_isWhat 3 = .ok (.iload_n 2, 1) := by decide +kernel
theorem dX10_isWhat_4 : decode cX10_isWhat 4 = .ok (.invokestatic 368, 3) := by decide +kernel
theorem dX10_isWhat_7 : decode cX10_isWhat 7 = .ok (.iconst 1, 1) := by decide +kernel
theorem dX10_isWhat_8 : decode cX10_isWhat 8 = .ok (.invokevirtual 278, 3) := by decide +kernel
theorem dX10_isWhat_11 : decode cX10_isWhat 11 = .ok (.ireturn, 1) := by decide +kernel
theorem dX10_isDays_0 : decode cX10_isDays 0 = .ok (.aload_n 0, 1) := by decide +kernel
theorem dX10_isDays_1 : decode cX10_isDays 1 = .ok (.iload_n 1, 1) := by decide +kernel
theorem dX10_isDays_2 : decode cX10_isDays 2 = .ok (.iload_n 2, 1) := by decide +kernel
theorem dX10_isDays_3 : decode cX10_isDays 3 = .ok (.bipush 40, 2) := by decide +kernel
theorem dX10_isDays_5 : decode cX10_isDays 5 = .ok (.invokestatic 368, 3) := by decide +kernel
theorem dX10_isDays_8 : decode cX10_isDays 8 = .ok (.iload_n 3, 1) := by decide +kernel
theorem dX10_isDays_9 : decode cX10_isDays 9 = .ok (.invokevirtual 278, 3) := by decide +kernel
theorem dX10_isDays_12 : decode cX10_isDays 12 = .ok (.ireturn, 1) := by decide +kernel
theorem dX10_nearBy_0 : decode cX10_nearBy 0 = .ok (.iconst 0, 1) := by decide +kernel
theorem dX10_nearBy_1 : decode cX10_nearBy 1 = .ok (.istore_n 2, 1) := by decide +kernel
theorem dX10_nearBy_2 : decode cX10_nearBy 2 = .ok (.iconst 0, 1) := by decide +kernel
theorem dX10_nearBy_3 : decode cX10_nearBy 3 = .ok (.istore_n 3, 1) := by decide +kernel
theorem dX10_nearBy_4 : decode cX10_nearBy 4 = .ok (.iload_n 3, 1) := by decide +kernel
theorem dX10_nearBy_5 : decode cX10_nearBy 5 = .ok (.aload_n 0, 1) := by decide +kernel
theorem dX10_nearBy_6 : decode cX10_nearBy 6 = .ok (.getfield 288, 3) := by decide +kernel
theorem dX10_nearBy_9 : decode cX10_nearBy 9 = .ok (.if_icmp .ge 28, 3) := by decide +kernel
theorem dX10_nearBy_12 : decode cX10_nearBy 12 = .ok (.iload_n 2, 1) := by decide +kernel
theorem dX10_nearBy_13 : decode cX10_nearBy 13 = .ok (.aload_n 0, 1) := by decide +kernel
theorem dX10_nearBy_14 : decode cX10_nearBy 14 = .ok (.iload_n 3, 1) := by decide +kernel
theorem dX10_nearBy_15 : decode cX10_nearBy 15 = .ok (.invokevirtual 336, 3) := by decide +kernel
theorem dX10_nearBy_18 : decode cX10_nearBy 18 = .ok (.iload_n 1, 1) := by decide +kernel
theorem dX10_nearBy_19 : decode cX10_nearBy 19 = .ok (.if_icmp .ne 9, 3) := by decide +kernel
theorem dX10_nearBy_22 : decode cX10_nearBy 22 = .ok (.iconst 1, 1) := by decide +kernel
theorem dX10_nearBy_23 : decode cX10_nearBy 23 = .ok (.iload_n 3, 1) := by decide +kernel
theorem dX10_nearBy_24 : decode cX10_nearBy 24 = .ok (.ishl, 1) := by decide +kernel
theorem dX10_nearBy_25 : decode cX10_nearBy 25 = .ok (.goto 4, 3) := by decide +kernel
theorem dX10_nearBy_28 : decode cX10_nearBy 28 = .ok (.iconst 0, 1) := by decide +kernel
theorem dX10_nearBy_29 : decode cX10_nearBy 29 = .ok (.ior, 1) := by decide +kernel
theorem dX10_nearBy_30 : decode cX10_nearBy 30 = .ok (.istore_n 2, 1) := by decide +kernel
theorem dX10_nearBy_31 : decode cX10_nearBy 31 = .ok (.iinc 3 1, 3) := by decide +kernel
theorem dX10_nearBy_34 : decode cX10_nearBy 34 = .ok (.goto (-30), 3) := by decide +kernel
theorem dX10_nearBy_37 : decode cX10_nearBy 37 = .ok (.iload_n 2, 1) := by decide +kernel
theorem dX10_nearBy_38 : decode cX10_nearBy 38 = .ok (.ireturn, 1) := by decide +kernel
theorem dX10_farthest_0 : decode cX10_farthest 0 = .ok (.iconst (-1), 1) := by decide +kernel
theorem dX10_farthest_1 : decode cX10_farthest 1 = .ok (.istore_n 2, 1) := by decide +kernel
theorem dX10_farthest_2 : decode cX10_farthest 2 = .ok (.iconst 0, 1) := by decide +kernel
theorem dX10_farthest_3 : decode cX10_farthest 3 = .ok (.istore_n 3, 1) := by decide +kernel
theorem dX10_farthest_4 : decode cX10_farthest 4 = .ok (.iload_n 3, 1) := by decide +kernel
theorem dX10_farthest_5 : decode cX10_farthest 5 = .ok (.aload_n 0, 1) := by decide +kernel
theorem dX10_farthest_6 : decode cX10_farthest 6 = .ok (.getfield 288, 3) := by decide +kernel
theorem dX10_farthest_9 : decode cX10_farthest 9 = .ok (.if_icmp .ge 58, 3) := by decide +kernel
theorem dX10_farthest_12 : decode cX10_farthest 12 = .ok (.aload_n 0, 1) := by decide +kernel
theorem dX10_farthest_13 : decode cX10_farthest 13 = .ok (.iload_n 3, 1) := by decide +kernel
theorem dX10_farthest_14 : decode cX10_farthest 14 = .ok (.invokevirtual 336, 3) := by decide +kernel
theorem dX10_farthest_17 : decode cX10_farthest 17 = .ok (.iload_n 1, 1) := by decide +kernel
theorem dX10_farthest_18 : decode cX10_farthest 18 = .ok (.if_icmp .ne 43, 3) := by decide +kernel
theorem dX10_farthest_21 : decode cX10_farthest 21 = .ok (.iload_n 2, 1) := by decide +kernel
theorem dX10_farthest_22 : decode cX10_farthest 22 = .ok (.iconst (-1), 1) := by decide +kernel
theorem dX10_farthest_23 : decode cX10_farthest 23 = .ok (.if_icmp .eq 36, 3) := by decide +kernel
theorem dX10_farthest_26 : decode cX10_farthest 26 = .ok (.aload_n 0, 1) := by decide +kernel
theorem dX10_farthest_27 : decode cX10_farthest 27 = .ok (.getfield 20, 3) := by decide +kernel
theorem dX10_farthest_30 : decode cX10_farthest 30 = .ok (.iload_n 3, 1) := by decide +kernel
theorem dX10_farthest_31 : decode cX10_farthest 31 = .ok (.iaload, 1) := by decide +kernel
theorem dX10_farthest_32 : decode cX10_farthest 32 = .ok (.aload_n 0, 1) := by decide +kernel
theorem dX10_farthest_33 : decode cX10_farthest 33 = .ok (.getfield 16, 3) := by decide +kernel
theorem dX10_farthest_36 : decode cX10_farthest 36 = .ok (.iload_n 1, 1) := by decide +kernel
theorem dX10_farthest_37 : decode cX10_farthest 37 = .ok (.iaload, 1) := by decide +kernel
theorem dX10_farthest_38 : decode cX10_farthest 38 = .ok (.invokestatic 318, 3) := by decide +kernel
theorem dX10_farthest_41 : decode cX10_farthest 41 = .ok (.aload_n 0, 1) := by decide +kernel
theorem dX10_farthest_42 : decode cX10_farthest 42 = .ok (.getfield 20, 3) := by decide +kernel
theorem dX10_farthest_45 : decode cX10_farthest 45 = .ok (.iload_n 2, 1) := by decide +kernel
theorem dX10_farthest_46 : decode cX10_farthest 46 = .ok (.iaload, 1) := by decide +kernel
theorem dX10_farthest_47 : decode cX10_farthest 47 = .ok (.aload_n 0, 1) := by decide +kernel
theorem dX10_farthest_48 : decode cX10_farthest 48 = .ok (.getfield 16, 3) := by decide +kernel
theorem dX10_farthest_51 : decode cX10_farthest 51 = .ok (.iload_n 1, 1) := by decide +kernel
theorem dX10_farthest_52 : decode cX10_farthest 52 = .ok (.iaload, 1) := by decide +kernel
theorem dX10_farthest_53 : decode cX10_farthest 53 = .ok (.invokestatic 318, 3) := by decide +kernel
theorem dX10_farthest_56 : decode cX10_farthest 56 = .ok (.if_icmp .le 5, 3) := by decide +kernel
theorem dX10_farthest_59 : decode cX10_farthest 59 = .ok (.iload_n 3, 1) := by decide +kernel
theorem dX10_farthest_60 : decode cX10_farthest 60 = .ok (.istore_n 2, 1) := by decide +kernel
theorem dX10_farthest_61 : decode cX10_farthest 61 = .ok (.iinc 3 1, 3) := by decide +kernel
theorem dX10_farthest_64 : decode cX10_farthest 64 = .ok (.goto (-60), 3) := by decide +kernel
theorem dX10_farthest_67 : decode cX10_farthest 67 = .ok (.iload_n 2, 1) := by decide +kernel
theorem dX10_farthest_68 : decode cX10_farthest 68 = .ok (.ireturn, 1) := by decide +kernel
theorem dX10_box_0 : decode cX10_box 0 = .ok (.aload_n 0, 1) := by decide +kernel
theorem dX10_box_1 : decode cX10_box 1 = .ok (.iconst 0, 1) := by decide +kernel
theorem dX10_box_2 : decode cX10_box 2 = .ok (.putfield 111, 3) := by decide +kernel
theorem dX10_box_5 : decode cX10_box 5 = .ok (.aload_n 0, 1) := by decide +kernel
theorem dX10_box_6 : decode cX10_box 6 = .ok (.iload_n 1, 1) := by decide +kernel
theorem dX10_box_7 : decode cX10_box 7 = .ok (.invokevirtual 384, 3) := by decide +kernel
theorem dX10_box_10 : decode cX10_box 10 = .ok (.ifCond .eq 12, 3) := by decide +kernel
theorem dX10_box_13 : decode cX10_box 13 = .ok (.aload_n 0, 1) := by decide +kernel
theorem dX10_box_14 : decode cX10_box 14 = .ok (.iload_n 2, 1) := by decide +kernel
theorem dX10_box_15 : decode cX10_box 15 = .ok (.iconst 4, 1) := by decide +kernel
theorem dX10_box_16 : decode cX10_box 16 = .ok (.invokevirtual 387, 3) := by decide +kernel
theorem dX10_box_19 : decode cX10_box 19 = .ok (.ifCond .ne 5, 3) := by decide +kernel
theorem dX10_box_22 : decode cX10_box 22 = .ok (.iconst 0, 1) := by decide +kernel
theorem dX10_box_23 : decode cX10_box 23 = .ok (.ireturn, 1) := by decide +kernel
theorem dX10_box_24 : decode cX10_box 24 = .ok (.iload_n 2, 1) := by decide +kernel
theorem dX10_box_25 : decode cX10_box 25 = .ok (.ifCond .ne 12, 3) := by decide +kernel
theorem dX10_box_28 : decode cX10_box 28 = .ok (.aload_n 0, 1) := by decide +kernel
theorem dX10_box_29 : decode cX10_box 29 = .ok (.getfield 16, 3) := by decide +kernel
theorem dX10_box_32 : decode cX10_box 32 = .ok (.iload_n 1, 1) := by decide +kernel
theorem dX10_box_33 : decode cX10_box 33 = .ok (.iaload, 1) := by decide +kernel
theorem dX10_box_34 : decode cX10_box 34 = .ok (.goto 51, 3) := by decide +kernel
theorem dX10_box_37 : decode cX10_box 37 = .ok (.iload_n 2, 1) := by decide +kernel
theorem dX10_box_38 : decode cX10_box 38 = .ok (.iconst 1, 1) := by decide +kernel
theorem dX10_box_39 : decode cX10_box 39 = .ok (.if_icmp .ne 14, 3) := by decide +kernel
theorem dX10_box_42 : decode cX10_box 42 = .ok (.aload_n 0, 1) := by decide +kernel
theorem dX10_box_43 : decode cX10_box 43 = .ok (.getfield 72, 3) := by decide +kernel
theorem dX10_box_46 : decode cX10_box 46 = .ok (.iconst 2, 1) := by decide +kernel
theorem dX10_box_47 : decode cX10_box 47 = .ok (.iload_n 1, 1) := by decide +kernel
theorem dX10_box_48 : decode cX10_box 48 = .ok (.iadd, 1) := by decide +kernel
theorem dX10_box_49 : decode cX10_box 49 = .ok (.iaload, 1) := by decide +kernel
theorem dX10_box_50 : decode cX10_box 50 = .ok (.goto 35, 3) := by decide +kernel
theorem dX10_box_53 : decode cX10_box 53 = .ok (.iload_n 2, 1) := by decide +kernel
theorem dX10_box_54 : decode cX10_box 54 = .ok (.iconst 2, 1) := by decide +kernel
theorem dX10_box_55 : decode cX10_box 55 = .ok (.if_icmp .ne 12, 3) := by decide +kernel
theorem dX10_box_58 : decode cX10_box 58 = .ok (.aload_n 0, 1) := by decide +kernel
theorem dX10_box_59 : decode cX10_box 59 = .ok (.iconst 0, 1) := by decide +kernel
theorem dX10_box_60 : decode cX10_box 60 = .ok (.iload_n 1, 1) := by decide +kernel
theorem dX10_box_61 : decode cX10_box 61 = .ok (.invokevirtual 321, 3) := by decide +kernel
theorem dX10_box_64 : decode cX10_box 64 = .ok (.goto 21, 3) := by decide +kernel
theorem dX10_box_67 : decode cX10_box 67 = .ok (.iload_n 2, 1) := by decide +kernel
theorem dX10_box_68 : decode cX10_box 68 = .ok (.iconst 3, 1) := by decide +kernel
theorem dX10_box_69 : decode cX10_box 69 = .ok (.if_icmp .ne 11, 3) := by decide +kernel
theorem dX10_box_72 : decode cX10_box 72 = .ok (.aload_n 0, 1) := by decide +kernel
theorem dX10_box_73 : decode cX10_box 73 = .ok (.iload_n 1, 1) := by decide +kernel
theorem dX10_box_74 : decode cX10_box 74 = .ok (.invokevirtual 391, 3) := by decide +kernel
theorem dX10_box_77 : decode cX10_box 77 = .ok (.goto 8, 3) := by decide +kernel
theorem dX10_box_80 : decode cX10_box 80 = .ok (.aload_n 0, 1) := by decide +kernel
theorem dX10_box_81 : decode cX10_box 81 = .ok (.iload_n 1, 1) := by decide +kernel
theorem dX10_box_82 : decode cX10_box 82 = .ok (.invokevirtual 394, 3) := by decide +kernel
theorem dX10_box_85 : decode cX10_box 85 = .ok (.ireturn, 1) := by decide +kernel
theorem dX10_person_0 : decode cX10_person 0 = .ok (.aload_n 0, 1) := by decide +kernel
theorem dX10_person_1 : decode cX10_person 1 = .ok (.iconst 0, 1) := by decide +kernel
theorem dX10_person_2 : decode cX10_person 2 = .ok (.putfield 111, 3) := by decide +kernel
theorem dX10_person_5 : decode cX10_person 5 = .ok (.aload_n 0, 1) := by decide +kernel
theorem dX10_person_6 : decode cX10_person 6 = .ok (.iload_n 1, 1) := by decide +kernel
theorem dX10_person_7 : decode cX10_person 7 = .ok (.invokevirtual 397, 3) := by decide +kernel
theorem dX10_person_10 : decode cX10_person 10 = .ok (.ifCond .eq 13, 3) := by decide +kernel
theorem dX10_person_13 : decode cX10_person 13 = .ok (.aload_n 0, 1) := by decide +kernel
theorem dX10_person_14 : decode cX10_person 14 = .ok (.iload_n 2, 1) := by decide +kernel
theorem dX10_person_15 : decode cX10_person 15 = .ok (.bipush 7, 2) := by decide +kernel
theorem dX10_person_17 : decode cX10_person 17 = .ok (.invokevirtual 387, 3) := by decide +kernel
theorem dX10_person_20 : decode cX10_person 20 = .ok (.ifCond .ne 5, 3) := by decide +kernel
theorem dX10_person_23 : decode cX10_person 23 = .ok (.iconst 0, 1) := by decide +kernel
theorem dX10_person_24 : decode cX10_person 24 = .ok (.ireturn, 1) := by decide +kernel
theorem dX10_person_25 : decode cX10_person 25 = .ok (.iload_n 2, 1) := by decide +kernel
theorem dX10_person_26 : decode cX10_person 26 = .ok (.tableswitch 98 0 6 #[42, 49, 56, 66, 76, 86, 92], 42) := by decide +kernel
theorem dX10_person_68 : decode cX10_person 68 = .ok (.aload_n 0, 1) := by decide +kernel
theorem dX10_person_69 : decode cX10_person 69 = .ok (.getfield 20, 3) := by decide +kernel
theorem dX10_person_72 : decode cX10_person 72 = .ok (.iload_n 1, 1) := by decide +kernel
theorem dX10_person_73 : decode cX10_person 73 = .ok (.iaload, 1) := by decide +kernel
theorem dX10_person_74 : decode cX10_person 74 = .ok (.ireturn, 1) := by decide +kernel
theorem dX10_person_75 : decode cX10_person 75 = .ok (.aload_n 0, 1) := by decide +kernel
theorem dX10_person_76 : decode cX10_person 76 = .ok (.getfield 23, 3) := by decide +kernel
theorem dX10_person_79 : decode cX10_person 79 = .ok (.iload_n 1, 1) := by decide +kernel
theorem dX10_person_80 : decode cX10_person 80 = .ok (.iaload, 1) := by decide +kernel
theorem dX10_person_81 : decode cX10_person 81 = .ok (.ireturn, 1) := by decide +kernel
theorem dX10_person_82 : decode cX10_person 82 = .ok (.aload_n 0, 1) := by decide +kernel
theorem dX10_person_83 : decode cX10_person 83 = .ok (.getfield 72, 3) := by decide +kernel
theorem dX10_person_86 : decode cX10_person 86 = .ok (.bipush 72, 2) := by decide +kernel
theorem dX10_person_88 : decode cX10_person 88 = .ok (.iload_n 1, 1) := by decide +kernel
theorem dX10_person_89 : decode cX10_person 89 = .ok (.iadd, 1) := by decide +kernel
theorem dX10_person_90 : decode cX10_person 90 = .ok (.iaload, 1) := by decide +kernel
theorem dX10_person_91 : decode cX10_person 91 = .ok (.ireturn, 1) := by decide +kernel
theorem dX10_person_92 : decode cX10_person 92 = .ok (.aload_n 0, 1) := by decide +kernel
theorem dX10_person_93 : decode cX10_person 93 = .ok (.getfield 72, 3) := by decide +kernel
theorem dX10_person_96 : decode cX10_person 96 = .ok (.bipush 56, 2) := by decide +kernel
theorem dX10_person_98 : decode cX10_person 98 = .ok (.iload_n 1, 1) := by decide +kernel
theorem dX10_person_99 : decode cX10_person 99 = .ok (.iadd, 1) := by decide +kernel
theorem dX10_person_100 : decode cX10_person 100 = .ok (.iaload, 1) := by decide +kernel
theorem dX10_person_101 : decode cX10_person 101 = .ok (.ireturn, 1) := by decide +kernel
theorem dX10_person_102 : decode cX10_person 102 = .ok (.aload_n 0, 1) := by decide +kernel
theorem dX10_person_103 : decode cX10_person 103 = .ok (.getfield 72, 3) := by decide +kernel
theorem dX10_person_106 : decode cX10_person 106 = .ok (.bipush 64, 2) := by decide +kernel
theorem dX10_person_108 : decode cX10_person 108 = .ok (.iload_n 1, 1) := by decide +kernel
theorem dX10_person_109 : decode cX10_person 109 = .ok (.iadd, 1) := by decide +kernel
theorem dX10_person_110 : decode cX10_person 110 = .ok (.iaload, 1) := by decide +kernel
theorem dX10_person_111 : decode cX10_person 111 = .ok (.ireturn, 1) := by decide +kernel
theorem dX10_person_112 : decode cX10_person 112 = .ok (.aload_n 0, 1) := by decide +kernel
theorem dX10_person_113 : decode cX10_person 113 = .ok (.iload_n 1, 1) := by decide +kernel
theorem dX10_person_114 : decode cX10_person 114 = .ok (.invokevirtual 336, 3) := by decide +kernel
theorem dX10_person_117 : decode cX10_person 117 = .ok (.ireturn, 1) := by decide +kernel
theorem dX10_person_118 : decode cX10_person 118 = .ok (.aload_n 0, 1) := by decide +kernel
theorem dX10_person_119 : decode cX10_person 119 = .ok (.iload_n 1, 1) := by decide +kernel
theorem dX10_person_120 : decode cX10_person 120 = .ok (.invokevirtual 365, 3) := by decide +kernel
theorem dX10_person_123 : decode cX10_person 123 = .ok (.ireturn, 1) := by decide +kernel
theorem dX10_person_124 : decode cX10_person 124 = .ok (.aload_n 0, 1) := by decide +kernel
theorem dX10_person_125 : decode cX10_person 125 = .ok (.iload_n 1, 1) := by decide +kernel
theorem dX10_person_126 : decode cX10_person 126 = .ok (.invokevirtual 336, 3) := by decide +kernel
theorem dX10_person_129 : decode cX10_person 129 = .ok (.iconst (-1), 1) := by decide +kernel
theorem dX10_person_130 : decode cX10_person 130 = .ok (.if_icmp .ne 7, 3) := by decide +kernel
theorem dX10_person_133 : decode cX10_person 133 = .ok (.iconst 0, 1) := by decide +kernel
theorem dX10_person_134 : decode cX10_person 134 = .ok (.goto 18, 3) := by decide +kernel
theorem dX10_person_137 : decode cX10_person 137 = .ok (.aload_n 0, 1) := by decide +kernel
theorem dX10_person_138 : decode cX10_person 138 = .ok (.aload_n 0, 1) := by decide +kernel
theorem dX10_person_139 : decode cX10_person 139 = .ok (.iload_n 1, 1) := by decide +kernel
theorem dX10_person_140 : decode cX10_person 140 = .ok (.invokevirtual 336, 3) := by decide +kernel
theorem dX10_person_143 : decode cX10_person 143 = .ok (.invokevirtual 391, 3) := by decide +kernel
theorem dX10_person_146 : decode cX10_person 146 = .ok (.iconst 1, 1) := by decide +kernel
theorem dX10_person_147 : decode cX10_person 147 = .ok (.iload_n 1, 1) := by decide +kernel
theorem dX10_person_148 : decode cX10_person 148 = .ok (.ishl, 1) := by decide +kernel
theorem dX10_person_149 : decode cX10_person 149 = .ok (.iconst (-1), 1) := by decide +kernel
theorem dX10_person_150 : decode cX10_person 150 = .ok (.ixor, 1) := by decide +kernel
theorem dX10_person_151 : decode cX10_person 151 = .ok (.iand, 1) := by decide +kernel
theorem dX10_person_152 : decode cX10_person 152 = .ok (.ireturn, 1) := by decide +kernel
theorem dX10_held_0 : decode cX10_held 0 = .ok (.aload_n 0, 1) := by decide +kernel
theorem dX10_held_1 : decode cX10_held 1 = .ok (.iconst 0, 1) := by decide +kernel
theorem dX10_held_2 : decode cX10_held 2 = .ok (.putfield 111, 3) := by decide +kernel
theorem dX10_held_5 : decode cX10_held 5 = .ok (.aload_n 0, 1) := by decide +kernel
theorem dX10_held_6 : decode cX10_held 6 = .ok (.iload_n 1, 1) := by decide +kernel
theorem dX10_held_7 : decode cX10_held 7 = .ok (.invokevirtual 384, 3) := by decide +kernel
theorem dX10_held_10 : decode cX10_held 10 = .ok (.ifCond .eq 28, 3) := by decide +kernel
theorem dX10_held_13 : decode cX10_held 13 = .ok (.aload_n 0, 1) := by decide +kernel
theorem dX10_held_14 : decode cX10_held 14 = .ok (.iload_n 2, 1) := by decide +kernel
theorem dX10_held_15 : decode cX10_held 15 = .ok (.invokevirtual 397, 3) := by decide +kernel
theorem dX10_held_18 : decode cX10_held 18 = .ok (.ifCond .eq 20, 3) := by decide +kernel
theorem dX10_held_21 : decode cX10_held 21 = .ok (.aload_n 0, 1) := by decide +kernel
theorem dX10_held_22 : decode cX10_held 22 = .ok (.getfield 72, 3) := by decide +kernel
theorem dX10_held_25 : decode cX10_held 25 = .ok (.bipush 8, 2) := by decide +kernel
theorem dX10_held_27 : decode cX10_held 27 = .ok (.bipush 8, 2) := by decide +kernel
theorem dX10_held_29 : decode cX10_held 29 = .ok (.iload_n 1, 1) := by decide +kernel
theorem dX10_held_30 : decode cX10_held 30 = .ok (.imul, 1) := by decide +kernel
theorem dX10_held_31 : decode cX10_held 31 = .ok (.iadd, 1) := by decide +kernel
theorem dX10_held_32 : decode cX10_held 32 = .ok (.iload_n 2, 1) := by decide +kernel
theorem dX10_held_33 : decode cX10_held 33 = .ok (.iadd, 1) := by decide +kernel
theorem dX10_held_34 : decode cX10_held 34 = .ok (.iaload, 1) := by decide +kernel
theorem dX10_held_35 : decode cX10_held 35 = .ok (.goto 4, 3) := by decide +kernel
theorem dX10_held_38 : decode cX10_held 38 = .ok (.iconst 0, 1) := by decide +kernel
theorem dX10_held_39 : decode cX10_held 39 = .ok (.ireturn, 1) := by decide +kernel
theorem dX10_days_0 : decode cX10_days 0 = .ok (.aload_n 0, 1) := by decide +kernel
theorem dX10_days_1 : decode cX10_days 1 = .ok (.iconst 0, 1) := by decide +kernel
theorem dX10_days_2 : decode cX10_days 2 = .ok (.putfield 111, 3) := by decide +kernel
theorem dX10_days_5 : decode cX10_days 5 = .ok (.iload_n 1, 1) := by decide +kernel
theorem dX10_days_6 : decode cX10_days 6 = .ok (.iconst 1, 1) := by decide +kernel
theorem dX10_days_7 : decode cX10_days 7 = .ok (.bipush 20, 2) := by decide +kernel
theorem dX10_days_9 : decode cX10_days 9 = .ok (.invokestatic 368, 3) := by decide +kernel
theorem dX10_days_12 : decode cX10_days 12 = .ok (.ifCond .eq 17, 3) := by decide +kernel
theorem dX10_days_15 : decode cX10_days 15 = .ok (.aload_n 0, 1) := by decide +kernel
theorem dX10_days_16 : decode cX10_days 16 = .ok (.getfield 72, 3) := by decide +kernel
theorem dX10_days_19 : decode cX10_days 19 = .ok (.iconst 0, 1) := by decide +kernel
theorem dX10_days_20 : decode cX10_days 20 = .ok (.iaload, 1) := by decide +kernel
theorem dX10_days_21 : decode cX10_days 21 = .ok (.iload_n 1, 1) := by decide +kernel
theorem dX10_days_22 : decode cX10_days 22 = .ok (.iadd, 1) := by decide +kernel
theorem dX10_days_23 : decode cX10_days 23 = .ok (.sipush 999, 3) := by decide +kernel
theorem dX10_days_26 : decode cX10_days 26 = .ok (.if_icmp .le 9, 3) := by decide +kernel
theorem dX10_days_29 : decode cX10_days 29 = .ok (.aload_n 0, 1) := by decide +kernel
theorem dX10_days_30 : decode cX10_days 30 = .ok (.iconst 1, 1) := by decide +kernel
theorem dX10_days_31 : decode cX10_days 31 = .ok (.invokevirtual 400, 3) := by decide +kernel
theorem dX10_days_34 : decode cX10_days 34 = .ok (.ireturn, 1) := by decide +kernel
theorem dX10_days_35 : decode cX10_days 35 = .ok (.aload_n 0, 1) := by decide +kernel
theorem dX10_days_36 : decode cX10_days 36 = .ok (.invokevirtual 403, 3) := by decide +kernel
theorem dX10_days_39 : decode cX10_days 39 = .ok (.iconst 0, 1) := by decide +kernel
theorem dX10_days_40 : decode cX10_days 40 = .ok (.istore_n 2, 1) := by decide +kernel
theorem dX10_days_41 : decode cX10_days 41 = .ok (.iload_n 2, 1) := by decide +kernel
theorem dX10_days_42 : decode cX10_days 42 = .ok (.iload_n 1, 1) := by decide +kernel
theorem dX10_days_43 : decode cX10_days 43 = .ok (.if_icmp .ge 14, 3) := by decide +kernel
theorem dX10_days_46 : decode cX10_days 46 = .ok (.aload_n 0, 1) := by decide +kernel
theorem dX10_days_47 : decode cX10_days 47 = .ok (.iconst 0, 1) := by decide +kernel
theorem dX10_days_48 : decode cX10_days 48 = .ok (.invokevirtual 362, 3) := by decide +kernel
theorem dX10_days_51 : decode cX10_days 51 = .ok (.iinc 2 1, 3) := by decide +kernel
theorem dX10_days_54 : decode cX10_days 54 = .ok (.goto (-13), 3) := by decide +kernel
theorem dX10_days_57 : decode cX10_days 57 = .ok (.aload_n 0, 1) := by decide +kernel
theorem dX10_days_58 : decode cX10_days 58 = .ok (.getfield 72, 3) := by decide +kernel
theorem dX10_days_61 : decode cX10_days 61 = .ok (.iconst 0, 1) := by decide +kernel
theorem dX10_days_62 : decode cX10_days 62 = .ok (.iaload, 1) := by decide +kernel
theorem dX10_days_63 : decode cX10_days 63 = .ok (.ireturn, 1) := by decide +kernel
theorem dX10_writes_0 : decode cX10_writes 0 = .ok (.aload_n 0, 1) := by decide +kernel
theorem dX10_writes_1 : decode cX10_writes 1 = .ok (.iload_n 1, 1) := by decide +kernel
theorem dX10_writes_2 : decode cX10_writes 2 = .ok (.aload_n 0, 1) := by decide +kernel
theorem dX10_writes_3 : decode cX10_writes 3 = .ok (.getfield 72, 3) := by decide +kernel
theorem dX10_writes_6 : decode cX10_writes 6 = .ok (.iload_n 1, 1) := by decide +kernel
theorem dX10_writes_7 : decode cX10_writes 7 = .ok (.bipush 72, 2) := by decide +kernel
theorem dX10_writes_9 : decode cX10_writes 9 = .ok (.iadd, 1) := by decide +kernel
theorem dX10_writes_10 : decode cX10_writes 10 = .ok (.iload_n 2, 1) := by decide +kernel
theorem dX10_writes_11 : decode cX10_writes 11 = .ok (.iadd, 1) := by decide +kernel
theorem dX10_writes_12 : decode cX10_writes 12 = .ok (.iaload, 1) := by decide +kernel
theorem dX10_writes_13 : decode cX10_writes 13 = .ok (.bipush 9, 2) := by decide +kernel
theorem dX10_writes_15 : decode cX10_writes 15 = .ok (.aload_n 0, 1) := by decide +kernel
theorem dX10_writes_16 : decode cX10_writes 16 = .ok (.iload_n 1, 1) := by decide +kernel
theorem dX10_writes_17 : decode cX10_writes 17 = .ok (.iload_n 2, 1) := by decide +kernel
theorem dX10_writes_18 : decode cX10_writes 18 = .ok (.invokevirtual 406, 3) := by decide +kernel
theorem dX10_writes_21 : decode cX10_writes 21 = .ok (.iadd, 1) := by decide +kernel
theorem dX10_writes_22 : decode cX10_writes 22 = .ok (.invokevirtual 346, 3) := by decide +kernel
theorem dX10_writes_25 : decode cX10_writes 25 = .ok (.iconst 0, 1) := by decide +kernel
theorem dX10_writes_26 : decode cX10_writes 26 = .ok (.istore_n 3, 1) := by decide +kernel
theorem dX10_writes_27 : decode cX10_writes 27 = .ok (.iload_n 3, 1) := by decide +kernel
theorem dX10_writes_28 : decode cX10_writes 28 = .ok (.aload_n 0, 1) := by decide +kernel
theorem dX10_writes_29 : decode cX10_writes 29 = .ok (.getfield 285, 3) := by decide +kernel
theorem dX10_writes_32 : decode cX10_writes 32 = .ok (.if_icmp .ge 26, 3) := by decide +kernel
theorem dX10_writes_35 : decode cX10_writes 35 = .ok (.aload_n 0, 1) := by decide +kernel
theorem dX10_writes_36 : decode cX10_writes 36 = .ok (.getfield 72, 3) := by decide +kernel
theorem dX10_writes_39 : decode cX10_writes 39 = .ok (.iload_n 1, 1) := by decide +kernel
theorem dX10_writes_40 : decode cX10_writes 40 = .ok (.bipush 8, 2) := by decide +kernel
theorem dX10_writes_42 : decode cX10_writes 42 = .ok (.iadd, 1) := by decide +kernel
theorem dX10_writes_43 : decode cX10_writes 43 = .ok (.bipush 8, 2) := by decide +kernel
theorem dX10_writes_45 : decode cX10_writes 45 = .ok (.iload_n 3, 1) := by decide +kernel
theorem dX10_writes_46 : decode cX10_writes 46 = .ok (.imul, 1) := by decide +kernel
theorem dX10_writes_47 : decode cX10_writes 47 = .ok (.iadd, 1) := by decide +kernel
theorem dX10_writes_48 : decode cX10_writes 48 = .ok (.iload_n 2, 1) := by decide +kernel
theorem dX10_writes_49 : decode cX10_writes 49 = .ok (.iadd, 1) := by decide +kernel
theorem dX10_writes_50 : decode cX10_writes 50 = .ok (.iconst 0, 1) := by decide +kernel
theorem dX10_writes_51 : decode cX10_writes 51 = .ok (.iastore, 1) := by decide +kernel
theorem dX10_writes_52 : decode cX10_writes 52 = .ok (.iinc 3 1, 3) := by decide +kernel
theorem dX10_writes_55 : decode cX10_writes 55 = .ok (.goto (-28), 3) := by decide +kernel
theorem dX10_writes_58 : decode cX10_writes 58 = .ok (.aload_n 0, 1) := by decide +kernel
theorem dX10_writes_59 : decode cX10_writes 59 = .ok (.getfield 72, 3) := by decide +kernel
theorem dX10_writes_62 : decode cX10_writes 62 = .ok (.iload_n 1, 1) := by decide +kernel
theorem dX10_writes_63 : decode cX10_writes 63 = .ok (.bipush 56, 2) := by decide +kernel
theorem dX10_writes_65 : decode cX10_writes 65 = .ok (.iadd, 1) := by decide +kernel
theorem dX10_writes_66 : decode cX10_writes 66 = .ok (.iload_n 2, 1) := by decide +kernel
theorem dX10_writes_67 : decode cX10_writes 67 = .ok (.iadd, 1) := by decide +kernel
theorem dX10_writes_68 : decode cX10_writes 68 = .ok (.iconst 0, 1) := by decide +kernel
theorem dX10_writes_69 : decode cX10_writes 69 = .ok (.iastore, 1) := by decide +kernel
theorem dX10_writes_70 : decode cX10_writes 70 = .ok (.return_, 1) := by decide +kernel
theorem dX10_write_0 : decode cX10_write 0 = .ok (.aload_n 0, 1) := by decide +kernel
theorem dX10_write_1 : decode cX10_write 1 = .ok (.iconst 0, 1) := by decide +kernel
theorem dX10_write_2 : decode cX10_write 2 = .ok (.putfield 111, 3) := by decide +kernel
theorem dX10_write_5 : decode cX10_write 5 = .ok (.aload_n 0, 1) := by decide +kernel
theorem dX10_write_6 : decode cX10_write 6 = .ok (.iload_n 1, 1) := by decide +kernel
theorem dX10_write_7 : decode cX10_write 7 = .ok (.invokevirtual 397, 3) := by decide +kernel
theorem dX10_write_10 : decode cX10_write 10 = .ok (.ifCond .ne 5, 3) := by decide +kernel
theorem dX10_write_13 : decode cX10_write 13 = .ok (.iconst 0, 1) := by decide +kernel
theorem dX10_write_14 : decode cX10_write 14 = .ok (.ireturn, 1) := by decide +kernel
theorem dX10_write_15 : decode cX10_write 15 = .ok (.aload_n 0, 1) := by decide +kernel
theorem dX10_write_16 : decode cX10_write 16 = .ok (.getfield 72, 3) := by decide +kernel
theorem dX10_write_19 : decode cX10_write 19 = .ok (.bipush 72, 2) := by decide +kernel
theorem dX10_write_21 : decode cX10_write 21 = .ok (.iload_n 1, 1) := by decide +kernel
theorem dX10_write_22 : decode cX10_write 22 = .ok (.iadd, 1) := by decide +kernel
theorem dX10_write_23 : decode cX10_write 23 = .ok (.iaload, 1) := by decide +kernel
theorem dX10_write_24 : decode cX10_write 24 = .ok (.iconst (-1), 1) := by decide +kernel
theorem dX10_write_25 : decode cX10_write 25 = .ok (.if_icmp .ne 9, 3) := by decide +kernel
theorem dX10_write_28 : decode cX10_write 28 = .ok (.aload_n 0, 1) := by decide +kernel
theorem dX10_write_29 : decode cX10_write 29 = .ok (.iconst 1, 1) := by decide +kernel
theorem dX10_write_30 : decode cX10_write 30 = .ok (.invokevirtual 400, 3) := by decide +kernel
theorem dX10_write_33 : decode cX10_write 33 = .ok (.ireturn, 1) := by decide +kernel
theorem dX10_write_34 : decode cX10_write 34 = .ok (.aload_n 0, 1) := by decide +kernel
theorem dX10_write_35 : decode cX10_write 35 = .ok (.invokevirtual 403, 3) := by decide +kernel
theorem dX10_write_38 : decode cX10_write 38 = .ok (.aload_n 0, 1) := by decide +kernel
theorem dX10_write_39 : decode cX10_write 39 = .ok (.iconst 0, 1) := by decide +kernel
theorem dX10_write_40 : decode cX10_write 40 = .ok (.iload_n 1, 1) := by decide +kernel
theorem dX10_write_41 : decode cX10_write 41 = .ok (.invokevirtual 409, 3) := by decide +kernel
theorem dX10_write_44 : decode cX10_write 44 = .ok (.aload_n 0, 1) := by decide +kernel
theorem dX10_write_45 : decode cX10_write 45 = .ok (.getfield 72, 3) := by decide +kernel
theorem dX10_write_48 : decode cX10_write 48 = .ok (.bipush 64, 2) := by decide +kernel
theorem dX10_write_50 : decode cX10_write 50 = .ok (.aload_n 0, 1) := by decide +kernel
theorem dX10_write_51 : decode cX10_write 51 = .ok (.getfield 72, 3) := by decide +kernel
theorem dX10_write_54 : decode cX10_write 54 = .ok (.bipush 72, 2) := by decide +kernel
theorem dX10_write_56 : decode cX10_write 56 = .ok (.iload_n 1, 1) := by decide +kernel
theorem dX10_write_57 : decode cX10_write 57 = .ok (.iadd, 1) := by decide +kernel
theorem dX10_write_58 : decode cX10_write 58 = .ok (.iaload, 1) := by decide +kernel
theorem dX10_write_59 : decode cX10_write 59 = .ok (.iadd, 1) := by decide +kernel
theorem dX10_write_60 : decode cX10_write 60 = .ok (.iaload, 1) := by decide +kernel
theorem dX10_write_61 : decode cX10_write 61 = .ok (.ireturn, 1) := by decide +kernel
theorem dX10_paint_0 : decode cX10_paint 0 = .ok (.aload_n 0, 1) := by decide +kernel
theorem dX10_paint_1 : decode cX10_paint 1 = .ok (.iconst 0, 1) := by decide +kernel
theorem dX10_paint_2 : decode cX10_paint 2 = .ok (.putfield 111, 3) := by decide +kernel
theorem dX10_paint_5 : decode cX10_paint 5 = .ok (.aload_n 0, 1) := by decide +kernel
theorem dX10_paint_6 : decode cX10_paint 6 = .ok (.iload_n 1, 1) := by decide +kernel
theorem dX10_paint_7 : decode cX10_paint 7 = .ok (.invokevirtual 384, 3) := by decide +kernel
theorem dX10_paint_10 : decode cX10_paint 10 = .ok (.ifCond .ne 5, 3) := by decide +kernel
theorem dX10_paint_13 : decode cX10_paint 13 = .ok (.iconst 0, 1) := by decide +kernel
theorem dX10_paint_14 : decode cX10_paint 14 = .ok (.ireturn, 1) := by decide +kernel
theorem dX10_paint_15 : decode cX10_paint 15 = .ok (.aload_n 0, 1) := by decide +kernel
theorem dX10_paint_16 : decode cX10_paint 16 = .ok (.getfield 72, 3) := by decide +kernel
theorem dX10_paint_19 : decode cX10_paint 19 = .ok (.iconst 2, 1) := by decide +kernel
theorem dX10_paint_20 : decode cX10_paint 20 = .ok (.iload_n 1, 1) := by decide +kernel
theorem dX10_paint_21 : decode cX10_paint 21 = .ok (.iadd, 1) := by decide +kernel
theorem dX10_paint_22 : decode cX10_paint 22 = .ok (.iaload, 1) := by decide +kernel
theorem dX10_paint_23 : decode cX10_paint 23 = .ok (.istore_n 2, 1) := by decide +kernel
theorem dX10_paint_24 : decode cX10_paint 24 = .ok (.iload_n 2, 1) := by decide +kernel
theorem dX10_paint_25 : decode cX10_paint 25 = .ok (.bipush 99, 2) := by decide +kernel
theorem dX10_paint_27 : decode cX10_paint 27 = .ok (.if_icmp .ne 9, 3) := by decide +kernel
theorem dX10_paint_30 : decode cX10_paint 30 = .ok (.aload_n 0, 1) := by decide +kernel
theorem dX10_paint_31 : decode cX10_paint 31 = .ok (.iconst 1, 1) := by decide +kernel
theorem dX10_paint_32 : decode cX10_paint 32 = .ok (.invokevirtual 400, 3) := by decide +kernel
theorem dX10_paint_35 : decode cX10_paint 35 = .ok (.ireturn, 1) := by decide +kernel
theorem dX10_paint_36 : decode cX10_paint 36 = .ok (.aload_n 0, 1) := by decide +kernel
theorem dX10_paint_37 : decode cX10_paint 37 = .ok (.invokevirtual 403, 3) := by decide +kernel
theorem dX10_paint_40 : decode cX10_paint 40 = .ok (.aload_n 0, 1) := by decide +kernel
theorem dX10_paint_41 : decode cX10_paint 41 = .ok (.getfield 72, 3) := by decide +kernel
theorem dX10_paint_44 : decode cX10_paint 44 = .ok (.iconst 2, 1) := by decide +kernel
theorem dX10_paint_45 : decode cX10_paint 45 = .ok (.iload_n 1, 1) := by decide +kernel
theorem dX10_paint_46 : decode cX10_paint 46 = .ok (.iadd, 1) := by decide +kernel
theorem dX10_paint_47 : decode cX10_paint 47 = .ok (.bipush 99, 2) := by decide +kernel
theorem dX10_paint_49 : decode cX10_paint 49 = .ok (.iastore, 1) := by decide +kernel
theorem dX10_paint_50 : decode cX10_paint 50 = .ok (.iload_n 2, 1) := by decide +kernel
theorem dX10_paint_51 : decode cX10_paint 51 = .ok (.ireturn, 1) := by decide +kernel
theorem dX10_turn_0 : decode cX10_turn 0 = .ok (.aload_n 0, 1) := by decide +kernel
theorem dX10_turn_1 : decode cX10_turn 1 = .ok (.iconst 0, 1) := by decide +kernel
theorem dX10_turn_2 : decode cX10_turn 2 = .ok (.putfield 111, 3) := by decide +kernel
theorem dX10_turn_5 : decode cX10_turn 5 = .ok (.aload_n 0, 1) := by decide +kernel
theorem dX10_turn_6 : decode cX10_turn 6 = .ok (.iload_n 1, 1) := by decide +kernel
theorem dX10_turn_7 : decode cX10_turn 7 = .ok (.invokevirtual 397, 3) := by decide +kernel
theorem dX10_turn_10 : decode cX10_turn 10 = .ok (.ifCond .eq 29, 3) := by decide +kernel
theorem dX10_turn_13 : decode cX10_turn 13 = .ok (.aload_n 0, 1) := by decide +kernel
theorem dX10_turn_14 : decode cX10_turn 14 = .ok (.iload_n 2, 1) := by decide +kernel
theorem dX10_turn_15 : decode cX10_turn 15 = .ok (.iconst (-1), 1) := by decide +kernel
theorem dX10_turn_16 : decode cX10_turn 16 = .ok (.if_icmp .lt 15, 3) := by decide +kernel
theorem dX10_turn_19 : decode cX10_turn 19 = .ok (.iload_n 2, 1) := by decide +kernel
theorem dX10_turn_20 : decode cX10_turn 20 = .ok (.aload_n 0, 1) := by decide +kernel
theorem dX10_turn_21 : decode cX10_turn 21 = .ok (.getfield 288, 3) := by decide +kernel
theorem dX10_turn_24 : decode cX10_turn 24 = .ok (.if_icmp .ge 7, 3) := by decide +kernel
theorem dX10_turn_27 : decode cX10_turn 27 = .ok (.iconst 1, 1) := by decide +kernel
theorem dX10_turn_28 : decode cX10_turn 28 = .ok (.goto 4, 3) := by decide +kernel
theorem dX10_turn_31 : decode cX10_turn 31 = .ok (.iconst 0, 1) := by decide +kernel
theorem dX10_turn_32 : decode cX10_turn 32 = .ok (.iconst 1, 1) := by decide +kernel
theorem dX10_turn_33 : decode cX10_turn 33 = .ok (.invokevirtual 278, 3) := by decide +kernel
theorem dX10_turn_36 : decode cX10_turn 36 = .ok (.ifCond .ne 5, 3) := by decide +kernel
theorem dX10_turn_39 : decode cX10_turn 39 = .ok (.iconst 0, 1) := by decide +kernel
theorem dX10_turn_40 : decode cX10_turn 40 = .ok (.ireturn, 1) := by decide +kernel
theorem dX10_turn_41 : decode cX10_turn 41 = .ok (.aload_n 0, 1) := by decide +kernel
theorem dX10_turn_42 : decode cX10_turn 42 = .ok (.getfield 72, 3) := by decide +kernel
theorem dX10_turn_45 : decode cX10_turn 45 = .ok (.bipush 72, 2) := by decide +kernel
theorem dX10_turn_47 : decode cX10_turn 47 = .ok (.iload_n 1, 1) := by decide +kernel
theorem dX10_turn_48 : decode cX10_turn 48 = .ok (.iadd, 1) := by decide +kernel
theorem dX10_turn_49 : decode cX10_turn 49 = .ok (.iaload, 1) := by decide +kernel
theorem dX10_turn_50 : decode cX10_turn 50 = .ok (.istore_n 3, 1) := by decide +kernel
theorem dX10_turn_51 : decode cX10_turn 51 = .ok (.iload_n 3, 1) := by decide +kernel
theorem dX10_turn_52 : decode cX10_turn 52 = .ok (.iload_n 2, 1) := by decide +kernel
theorem dX10_turn_53 : decode cX10_turn 53 = .ok (.if_icmp .eq 8, 3) := by decide +kernel
theorem dX10_turn_56 : decode cX10_turn 56 = .ok (.iload_n 1, 1) := by decide +kernel
theorem dX10_turn_57 : decode cX10_turn 57 = .ok (.iload_n 2, 1) := by decide +kernel
theorem dX10_turn_58 : decode cX10_turn 58 = .ok (.if_icmp .ne 11, 3) := by decide +kernel
theorem dX10_turn_61 : decode cX10_turn 61 = .ok (.aload_n 0, 1) := by decide +kernel
theorem dX10_turn_62 : decode cX10_turn 62 = .ok (.iconst 1, 1) := by decide +kernel
theorem dX10_turn_63 : decode cX10_turn 63 = .ok (.invokevirtual 400, 3) := by decide +kernel
theorem dX10_turn_66 : decode cX10_turn 66 = .ok (.iconst 1, 1) := by decide +kernel
theorem dX10_turn_67 : decode cX10_turn 67 = .ok (.isub, 1) := by decide +kernel
theorem dX10_turn_68 : decode cX10_turn 68 = .ok (.ireturn, 1) := by decide +kernel
theorem dX10_turn_69 : decode cX10_turn 69 = .ok (.aload_n 0, 1) := by decide +kernel
theorem dX10_turn_70 : decode cX10_turn 70 = .ok (.invokevirtual 403, 3) := by decide +kernel
theorem dX10_turn_73 : decode cX10_turn 73 = .ok (.aload_n 0, 1) := by decide +kernel
theorem dX10_turn_74 : decode cX10_turn 74 = .ok (.getfield 72, 3) := by decide +kernel
theorem dX10_turn_77 : decode cX10_turn 77 = .ok (.bipush 72, 2) := by decide +kernel
theorem dX10_turn_79 : decode cX10_turn 79 = .ok (.iload_n 1, 1) := by decide +kernel
theorem dX10_turn_80 : decode cX10_turn 80 = .ok (.iadd, 1) := by decide +kernel
theorem dX10_turn_81 : decode cX10_turn 81 = .ok (.iload_n 2, 1) := by decide +kernel
theorem dX10_turn_82 : decode cX10_turn 82 = .ok (.iastore, 1) := by decide +kernel
theorem dX10_turn_83 : decode cX10_turn 83 = .ok (.iload_n 3, 1) := by decide +kernel
theorem dX10_turn_84 : decode cX10_turn 84 = .ok (.ireturn, 1) := by decide +kernel
theorem dX10_strike_0 : decode cX10_strike 0 = .ok (.aload_n 0, 1) := by decide +kernel
theorem dX10_strike_1 : decode cX10_strike 1 = .ok (.iconst 0, 1) := by decide +kernel
theorem dX10_strike_2 : decode cX10_strike 2 = .ok (.putfield 111, 3) := by decide +kernel
theorem dX10_strike_5 : decode cX10_strike 5 = .ok (.aload_n 0, 1) := by decide +kernel
theorem dX10_strike_6 : decode cX10_strike 6 = .ok (.getfield 72, 3) := by decide +kernel
theorem dX10_strike_9 : decode cX10_strike 9 = .ok (.iconst 1, 1) := by decide +kernel
theorem dX10_strike_10 : decode cX10_strike 10 = .ok (.iaload, 1) := by decide +kernel
theorem dX10_strike_11 : decode cX10_strike 11 = .ok (.iconst 1, 1) := by decide +kernel
theorem dX10_strike_12 : decode cX10_strike 12 = .ok (.if_icmp .ne 7, 3) := by decide +kernel
theorem dX10_strike_15 : decode cX10_strike 15 = .ok (.iconst 1, 1) := by decide +kernel
theorem dX10_strike_16 : decode cX10_strike 16 = .ok (.goto 4, 3) := by decide +kernel
theorem dX10_strike_19 : decode cX10_strike 19 = .ok (.iconst 0, 1) := by decide +kernel
theorem dX10_strike_20 : decode cX10_strike 20 = .ok (.iload_n 1, 1) := by decide +kernel
theorem dX10_strike_21 : decode cX10_strike 21 = .ok (.if_icmp .ne 17, 3) := by decide +kernel
theorem dX10_strike_24 : decode cX10_strike 24 = .ok (.aload_n 0, 1) := by decide +kernel
theorem dX10_strike_25 : decode cX10_strike 25 = .ok (.iconst 1, 1) := by decide +kernel
theorem dX10_strike_26 : decode cX10_strike 26 = .ok (.invokevirtual 400, 3) := by decide +kernel
theorem dX10_strike_29 : decode cX10_strike 29 = .ok (.ifCond .le 7, 3) := by decide +kernel
theorem dX10_strike_32 : decode cX10_strike 32 = .ok (.iconst 1, 1) := by decide +kernel
theorem dX10_strike_33 : decode cX10_strike 33 = .ok (.goto 4, 3) := by decide +kernel
theorem dX10_strike_36 : decode cX10_strike 36 = .ok (.iconst 0, 1) := by decide +kernel
theorem dX10_strike_37 : decode cX10_strike 37 = .ok (.ireturn, 1) := by decide +kernel
theorem dX10_strike_38 : decode cX10_strike 38 = .ok (.aload_n 0, 1) := by decide +kernel
theorem dX10_strike_39 : decode cX10_strike 39 = .ok (.invokevirtual 403, 3) := by decide +kernel
theorem dX10_strike_42 : decode cX10_strike 42 = .ok (.aload_n 0, 1) := by decide +kernel
theorem dX10_strike_43 : decode cX10_strike 43 = .ok (.getfield 72, 3) := by decide +kernel
theorem dX10_strike_46 : decode cX10_strike 46 = .ok (.iconst 1, 1) := by decide +kernel
theorem dX10_strike_47 : decode cX10_strike 47 = .ok (.iload_n 1, 1) := by decide +kernel
theorem dX10_strike_48 : decode cX10_strike 48 = .ok (.ifCond .eq 7, 3) := by decide +kernel
theorem dX10_strike_51 : decode cX10_strike 51 = .ok (.iconst 1, 1) := by decide +kernel
theorem dX10_strike_52 : decode cX10_strike 52 = .ok (.goto 4, 3) := by decide +kernel
theorem dX10_strike_55 : decode cX10_strike 55 = .ok (.iconst 0, 1) := by decide +kernel
theorem dX10_strike_56 : decode cX10_strike 56 = .ok (.iastore, 1) := by decide +kernel
theorem dX10_strike_57 : decode cX10_strike 57 = .ok (.iconst 1, 1) := by decide +kernel
theorem dX10_strike_58 : decode cX10_strike 58 = .ok (.ireturn, 1) := by decide +kernel
theorem dX10_goesTo_0 : decode cX10_goesTo 0 = .ok (.aload_n 0, 1) := by decide +kernel
theorem dX10_goesTo_1 : decode cX10_goesTo 1 = .ok (.invokevirtual 412, 3) := by decide +kernel
theorem dX10_goesTo_4 : decode cX10_goesTo 4 = .ok (.aload_n 0, 1) := by decide +kernel
theorem dX10_goesTo_5 : decode cX10_goesTo 5 = .ok (.iload_n 1, 1) := by decide +kernel
theorem dX10_goesTo_6 : decode cX10_goesTo 6 = .ok (.invokevirtual 415, 3) := by decide +kernel
theorem dX10_goesTo_9 : decode cX10_goesTo 9 = .ok (.return_, 1) := by decide +kernel
theorem dX10_then_0 : decode cX10_then 0 = .ok (.aload_n 0, 1) := by decide +kernel
theorem dX10_then_1 : decode cX10_then 1 = .ok (.iconst 0, 1) := by decide +kernel
theorem dX10_then_2 : decode cX10_then 2 = .ok (.putfield 111, 3) := by decide +kernel
theorem dX10_then_5 : decode cX10_then 5 = .ok (.aload_n 0, 1) := by decide +kernel
theorem dX10_then_6 : decode cX10_then 6 = .ok (.iload_n 1, 1) := by decide +kernel
theorem dX10_then_7 : decode cX10_then 7 = .ok (.invokevirtual 384, 3) := by decide +kernel
theorem dX10_then_10 : decode cX10_then 10 = .ok (.ifCond .eq 22, 3) := by decide +kernel
theorem dX10_then_13 : decode cX10_then 13 = .ok (.aload_n 0, 1) := by decide +kernel
theorem dX10_then_14 : decode cX10_then 14 = .ok (.iload_n 3, 1) := by decide +kernel
theorem dX10_then_15 : decode cX10_then 15 = .ok (.iconst 1, 1) := by decide +kernel
theorem dX10_then_16 : decode cX10_then 16 = .ok (.invokevirtual 387, 3) := by decide +kernel
theorem dX10_then_19 : decode cX10_then 19 = .ok (.ifCond .eq 13, 3) := by decide +kernel
theorem dX10_then_22 : decode cX10_then 22 = .ok (.aload_n 0, 1) := by decide +kernel
theorem dX10_then_23 : decode cX10_then 23 = .ok (.iload_n 2, 1) := by decide +kernel
theorem dX10_then_24 : decode cX10_then 24 = .ok (.iconst 0, 1) := by decide +kernel
theorem dX10_then_25 : decode cX10_then 25 = .ok (.iconst 2, 1) := by decide +kernel
theorem dX10_then_26 : decode cX10_then 26 = .ok (.invokevirtual 418, 3) := by decide +kernel
theorem dX10_then_29 : decode cX10_then 29 = .ok (.ifCond .ne 5, 3) := by decide +kernel
theorem dX10_then_32 : decode cX10_then 32 = .ok (.iconst 0, 1) := by decide +kernel
theorem dX10_then_33 : decode cX10_then 33 = .ok (.ireturn, 1) := by decide +kernel
theorem dX10_then_34 : decode cX10_then 34 = .ok (.aload_n 0, 1) := by decide +kernel
theorem dX10_then_35 : decode cX10_then 35 = .ok (.iload_n 2, 1) := by decide +kernel
theorem dX10_then_36 : decode cX10_then 36 = .ok (.invokevirtual 421, 3) := by decide +kernel
theorem dX10_then_39 : decode cX10_then 39 = .ok (.iload_n 3, 1) := by decide +kernel
theorem dX10_then_40 : decode cX10_then 40 = .ok (.ifCond .ne 13, 3) := by decide +kernel
theorem dX10_then_43 : decode cX10_then 43 = .ok (.aload_n 0, 1) := by decide +kernel
theorem dX10_then_44 : decode cX10_then 44 = .ok (.bipush 80, 2) := by decide +kernel
theorem dX10_then_46 : decode cX10_then 46 = .ok (.iload_n 1, 1) := by decide +kernel
theorem dX10_then_47 : decode cX10_then 47 = .ok (.invokevirtual 321, 3) := by decide +kernel
theorem dX10_then_50 : decode cX10_then 50 = .ok (.goto 12, 3) := by decide +kernel
theorem dX10_then_53 : decode cX10_then 53 = .ok (.aload_n 0, 1) := by decide +kernel
theorem dX10_then_54 : decode cX10_then 54 = .ok (.getfield 72, 3) := by decide +kernel
theorem dX10_then_57 : decode cX10_then 57 = .ok (.bipush 82, 2) := by decide +kernel
theorem dX10_then_59 : decode cX10_then 59 = .ok (.iload_n 1, 1) := by decide +kernel
theorem dX10_then_60 : decode cX10_then 60 = .ok (.iadd, 1) := by decide +kernel
theorem dX10_then_61 : decode cX10_then 61 = .ok (.iaload, 1) := by decide +kernel
theorem dX10_then_62 : decode cX10_then 62 = .ok (.ireturn, 1) := by decide +kernel
theorem dX10_later_0 : decode cX10_later 0 = .ok (.aload_n 0, 1) := by decide +kernel
theorem dX10_later_1 : decode cX10_later 1 = .ok (.iconst 0, 1) := by decide +kernel
theorem dX10_later_2 : decode cX10_later 2 = .ok (.putfield 111, 3) := by decide +kernel
theorem dX10_later_5 : decode cX10_later 5 = .ok (.aload_n 0, 1) := by decide +kernel
theorem dX10_later_6 : decode cX10_later 6 = .ok (.iload_n 1, 1) := by decide +kernel
theorem dX10_later_7 : decode cX10_later 7 = .ok (.invokevirtual 397, 3) := by decide +kernel
theorem dX10_later_10 : decode cX10_later 10 = .ok (.ifCond .eq 22, 3) := by decide +kernel
theorem dX10_later_13 : decode cX10_later 13 = .ok (.aload_n 0, 1) := by decide +kernel
theorem dX10_later_14 : decode cX10_later 14 = .ok (.iload_n 3, 1) := by decide +kernel
theorem dX10_later_15 : decode cX10_later 15 = .ok (.iconst 1, 1) := by decide +kernel
theorem dX10_later_16 : decode cX10_later 16 = .ok (.invokevirtual 387, 3) := by decide +kernel
theorem dX10_later_19 : decode cX10_later 19 = .ok (.ifCond .eq 13, 3) := by decide +kernel
theorem dX10_later_22 : decode cX10_later 22 = .ok (.aload_n 0, 1) := by decide +kernel
theorem dX10_later_23 : decode cX10_later 23 = .ok (.iload_n 2, 1) := by decide +kernel
theorem dX10_later_24 : decode cX10_later 24 = .ok (.iconst 0, 1) := by decide +kernel
theorem dX10_later_25 : decode cX10_later 25 = .ok (.iconst 2, 1) := by decide +kernel
theorem dX10_later_26 : decode cX10_later 26 = .ok (.invokevirtual 418, 3) := by decide +kernel
theorem dX10_later_29 : decode cX10_later 29 = .ok (.ifCond .ne 5, 3) := by decide +kernel
theorem dX10_later_32 : decode cX10_later 32 = .ok (.iconst 0, 1) := by decide +kernel
theorem dX10_later_33 : decode cX10_later 33 = .ok (.ireturn, 1) := by decide +kernel
theorem dX10_later_34 : decode cX10_later 34 = .ok (.aload_n 0, 1) := by decide +kernel
theorem dX10_later_35 : decode cX10_later 35 = .ok (.iload_n 2, 1) := by decide +kernel
theorem dX10_later_36 : decode cX10_later 36 = .ok (.invokevirtual 421, 3) := by decide +kernel
theorem dX10_later_39 : decode cX10_later 39 = .ok (.aload_n 0, 1) := by decide +kernel
theorem dX10_later_40 : decode cX10_later 40 = .ok (.getfield 72, 3) := by decide +kernel
theorem dX10_later_43 : decode cX10_later 43 = .ok (.bipush 80, 2) := by decide +kernel
theorem dX10_later_45 : decode cX10_later 45 = .ok (.iload_n 3, 1) := by decide +kernel
theorem dX10_later_46 : decode cX10_later 46 = .ok (.ifCond .ne 8, 3) := by decide +kernel
theorem dX10_later_49 : decode cX10_later 49 = .ok (.bipush 56, 2) := by decide +kernel
theorem dX10_later_51 : decode cX10_later 51 = .ok (.goto 5, 3) := by decide +kernel
theorem dX10_later_54 : decode cX10_later 54 = .ok (.bipush 64, 2) := by decide +kernel
theorem dX10_later_56 : decode cX10_later 56 = .ok (.iadd, 1) := by decide +kernel
theorem dX10_later_57 : decode cX10_later 57 = .ok (.iload_n 1, 1) := by decide +kernel
theorem dX10_later_58 : decode cX10_later 58 = .ok (.iadd, 1) := by decide +kernel
theorem dX10_later_59 : decode cX10_later 59 = .ok (.iaload, 1) := by decide +kernel
theorem dX10_later_60 : decode cX10_later 60 = .ok (.ireturn, 1) := by decide +kernel
theorem dX10_first_0 : decode cX10_first 0 = .ok (.aload_n 0, 1) := by decide +kernel
theorem dX10_first_1 : decode cX10_first 1 = .ok (.iconst 0, 1) := by decide +kernel
theorem dX10_first_2 : decode cX10_first 2 = .ok (.putfield 111, 3) := by decide +kernel
theorem dX10_first_5 : decode cX10_first 5 = .ok (.aload_n 0, 1) := by decide +kernel
theorem dX10_first_6 : decode cX10_first 6 = .ok (.iload_n 1, 1) := by decide +kernel
theorem dX10_first_7 : decode cX10_first 7 = .ok (.invokevirtual 397, 3) := by decide +kernel
theorem dX10_first_10 : decode cX10_first 10 = .ok (.ifCond .ne 5, 3) := by decide +kernel
theorem dX10_first_13 : decode cX10_first 13 = .ok (.iconst 0, 1) := by decide +kernel
theorem dX10_first_14 : decode cX10_first 14 = .ok (.ireturn, 1) := by decide +kernel
theorem dX10_first_15 : decode cX10_first 15 = .ok (.aload_n 0, 1) := by decide +kernel
theorem dX10_first_16 : decode cX10_first 16 = .ok (.invokevirtual 412, 3) := by decide +kernel
theorem dX10_first_19 : decode cX10_first 19 = .ok (.iconst 1, 1) := by decide +kernel
theorem dX10_first_20 : decode cX10_first 20 = .ok (.istore_n 2, 1) := by decide +kernel
theorem dX10_first_21 : decode cX10_first 21 = .ok (.iload_n 2, 1) := by decide +kernel
theorem dX10_first_22 : decode cX10_first 22 = .ok (.bipush 40, 2) := by decide +kernel
theorem dX10_first_24 : decode cX10_first 24 = .ok (.if_icmp .gt 39, 3) := by decide +kernel
theorem dX10_first_27 : decode cX10_first 27 = .ok (.aload_n 0, 1) := by decide +kernel
theorem dX10_first_28 : decode cX10_first 28 = .ok (.bipush 80, 2) := by decide +kernel
theorem dX10_first_30 : decode cX10_first 30 = .ok (.invokevirtual 362, 3) := by decide +kernel
theorem dX10_first_33 : decode cX10_first 33 = .ok (.aload_n 0, 1) := by decide +kernel
theorem dX10_first_34 : decode cX10_first 34 = .ok (.getfield 72, 3) := by decide +kernel
theorem dX10_first_37 : decode cX10_first 37 = .ok (.sipush 144, 3) := by decide +kernel
theorem dX10_first_40 : decode cX10_first 40 = .ok (.iload_n 1, 1) := by decide +kernel
theorem dX10_first_41 : decode cX10_first 41 = .ok (.iadd, 1) := by decide +kernel
theorem dX10_first_42 : decode cX10_first 42 = .ok (.iaload, 1) := by decide +kernel
theorem dX10_first_43 : decode cX10_first 43 = .ok (.aload_n 0, 1) := by decide +kernel
theorem dX10_first_44 : decode cX10_first 44 = .ok (.getfield 72, 3) := by decide +kernel
theorem dX10_first_47 : decode cX10_first 47 = .ok (.bipush 64, 2) := by decide +kernel
theorem dX10_first_49 : decode cX10_first 49 = .ok (.iload_n 1, 1) := by decide +kernel
theorem dX10_first_50 : decode cX10_first 50 = .ok (.iadd, 1) := by decide +kernel
theorem dX10_first_51 : decode cX10_first 51 = .ok (.iaload, 1) := by decide +kernel
theorem dX10_first_52 : decode cX10_first 52 = .ok (.if_icmp .le 5, 3) := by decide +kernel
theorem dX10_first_55 : decode cX10_first 55 = .ok (.iload_n 2, 1) := by decide +kernel
theorem dX10_first_56 : decode cX10_first 56 = .ok (.ireturn, 1) := by decide +kernel
theorem dX10_first_57 : decode cX10_first 57 = .ok (.iinc 2 1, 3) := by decide +kernel
theorem dX10_first_60 : decode cX10_first 60 = .ok (.goto (-39), 3) := by decide +kernel
theorem dX10_first_63 : decode cX10_first 63 = .ok (.iconst (-1), 1) := by decide +kernel
theorem dX10_first_64 : decode cX10_first 64 = .ok (.ireturn, 1) := by decide +kernel
theorem dX10_full_0 : decode cX10_full 0 = .ok (.aload_n 0, 1) := by decide +kernel
theorem dX10_full_1 : decode cX10_full 1 = .ok (.iconst 0, 1) := by decide +kernel
theorem dX10_full_2 : decode cX10_full 2 = .ok (.putfield 111, 3) := by decide +kernel
theorem dX10_full_5 : decode cX10_full 5 = .ok (.aload_n 0, 1) := by decide +kernel
theorem dX10_full_6 : decode cX10_full 6 = .ok (.iload_n 1, 1) := by decide +kernel
theorem dX10_full_7 : decode cX10_full 7 = .ok (.invokevirtual 384, 3) := by decide +kernel
theorem dX10_full_10 : decode cX10_full 10 = .ok (.ifCond .eq 19, 3) := by decide +kernel
theorem dX10_full_13 : decode cX10_full 13 = .ok (.aload_n 0, 1) := by decide +kernel
theorem dX10_full_14 : decode cX10_full 14 = .ok (.iload_n 2, 1) := by decide +kernel
theorem dX10_full_15 : decode cX10_full 15 = .ok (.iconst 1, 1) := by decide +kernel
theorem dX10_full_16 : decode cX10_full 16 = .ok (.sipush 792, 3) := by decide +kernel
theorem dX10_full_19 : decode cX10_full 19 = .ok (.invokestatic 368, 3) := by decide +kernel
theorem dX10_full_22 : decode cX10_full 22 = .ok (.iconst 2, 1) := by decide +kernel
theorem dX10_full_23 : decode cX10_full 23 = .ok (.invokevirtual 278, 3) := by decide +kernel
theorem dX10_full_26 : decode cX10_full 26 = .ok (.ifCond .ne 5, 3) := by decide +kernel
theorem dX10_full_29 : decode cX10_full 29 = .ok (.iconst 0, 1) := by decide +kernel
theorem dX10_full_30 : decode cX10_full 30 = .ok (.ireturn, 1) := by decide +kernel
theorem dX10_full_31 : decode cX10_full 31 = .ok (.aload_n 0, 1) := by decide +kernel
theorem dX10_full_32 : decode cX10_full 32 = .ok (.invokevirtual 412, 3) := by decide +kernel
theorem dX10_full_35 : decode cX10_full 35 = .ok (.iconst 0, 1) := by decide +kernel
theorem dX10_full_36 : decode cX10_full 36 = .ok (.istore_n 3, 1) := by decide +kernel
theorem dX10_full_37 : decode cX10_full 37 = .ok (.iload_n 3, 1) := by decide +kernel
theorem dX10_full_38 : decode cX10_full 38 = .ok (.bipush 40, 2) := by decide +kernel
theorem dX10_full_40 : decode cX10_full 40 = .ok (.if_icmp .gt 28, 3) := by decide +kernel
theorem dX10_full_43 : decode cX10_full 43 = .ok (.aload_n 0, 1) := by decide +kernel
theorem dX10_full_44 : decode cX10_full 44 = .ok (.bipush 80, 2) := by decide +kernel
theorem dX10_full_46 : decode cX10_full 46 = .ok (.iload_n 1, 1) := by decide +kernel
theorem dX10_full_47 : decode cX10_full 47 = .ok (.invokevirtual 321, 3) := by decide +kernel
theorem dX10_full_50 : decode cX10_full 50 = .ok (.iload_n 2, 1) := by decide +kernel
theorem dX10_full_51 : decode cX10_full 51 = .ok (.if_icmp .lt 5, 3) := by decide +kernel
theorem dX10_full_54 : decode cX10_full 54 = .ok (.iload_n 3, 1) := by decide +kernel
theorem dX10_full_55 : decode cX10_full 55 = .ok (.ireturn, 1) := by decide +kernel
theorem dX10_full_56 : decode cX10_full 56 = .ok (.aload_n 0, 1) := by decide +kernel
theorem dX10_full_57 : decode cX10_full 57 = .ok (.bipush 80, 2) := by decide +kernel
theorem dX10_full_59 : decode cX10_full 59 = .ok (.invokevirtual 362, 3) := by decide +kernel
theorem dX10_full_62 : decode cX10_full 62 = .ok (.iinc 3 1, 3) := by decide +kernel
theorem dX10_full_65 : decode cX10_full 65 = .ok (.goto (-28), 3) := by decide +kernel
theorem dX10_full_68 : decode cX10_full 68 = .ok (.iconst (-1), 1) := by decide +kernel
theorem dX10_full_69 : decode cX10_full 69 = .ok (.ireturn, 1) := by decide +kernel
theorem dX10_fullest_0 : decode cX10_fullest 0 = .ok (.iconst (-1), 1) := by decide +kernel
theorem dX10_fullest_1 : decode cX10_fullest 1 = .ok (.istore_n 1, 1) := by decide +kernel
theorem dX10_fullest_2 : decode cX10_fullest 2 = .ok (.iconst 0, 1) := by decide +kernel
theorem dX10_fullest_3 : decode cX10_fullest 3 = .ok (.istore_n 2, 1) := by decide +kernel
theorem dX10_fullest_4 : decode cX10_fullest 4 = .ok (.iload_n 2, 1) := by decide +kernel
theorem dX10_fullest_5 : decode cX10_fullest 5 = .ok (.aload_n 0, 1) := by decide +kernel
theorem dX10_fullest_6 : decode cX10_fullest 6 = .ok (.getfield 285, 3) := by decide +kernel
theorem dX10_fullest_9 : decode cX10_fullest 9 = .ok (.if_icmp .ge 33, 3) := by decide +kernel
theorem dX10_fullest_12 : decode cX10_fullest 12 = .ok (.iload_n 1, 1) := by decide +kernel
theorem dX10_fullest_13 : decode cX10_fullest 13 = .ok (.iconst (-1), 1) := by decide +kernel
theorem dX10_fullest_14 : decode cX10_fullest 14 = .ok (.if_icmp .eq 20, 3) := by decide +kernel
theorem dX10_fullest_17 : decode cX10_fullest 17 = .ok (.aload_n 0, 1) := by decide +kernel
theorem dX10_fullest_18 : decode cX10_fullest 18 = .ok (.bipush 80, 2) := by decide +kernel
theorem dX10_fullest_20 : decode cX10_fullest 20 = .ok (.iload_n 2, 1) := by decide +kernel
theorem dX10_fullest_21 : decode cX10_fullest 21 = .ok (.invokevirtual 321, 3) := by decide +kernel
theorem dX10_fullest_24 : decode cX10_fullest 24 = .ok (.aload_n 0, 1) := by decide +kernel
theorem dX10_fullest_25 : decode cX10_fullest 25 = .ok (.bipush 80, 2) := by decide +kernel
theorem dX10_fullest_27 : decode cX10_fullest 27 = .ok (.iload_n 1, 1) := by decide +kernel
theorem dX10_fullest_28 : decode cX10_fullest 28 = .ok (.invokevirtual 321, 3) := by decide +kernel
theorem dX10_fullest_31 : decode cX10_fullest 31 = .ok (.if_icmp .le 5, 3) := by decide +kernel
theorem dX10_fullest_34 : decode cX10_fullest 34 = .ok (.iload_n 2, 1) := by decide +kernel
theorem dX10_fullest_35 : decode cX10_fullest 35 = .ok (.istore_n 1, 1) := by decide +kernel
theorem dX10_fullest_36 : decode cX10_fullest 36 = .ok (.iinc 2 1, 3) := by decide +kernel
theorem dX10_fullest_39 : decode cX10_fullest 39 = .ok (.goto (-35), 3) := by decide +kernel
theorem dX10_fullest_42 : decode cX10_fullest 42 = .ok (.iload_n 1, 1) := by decide +kernel
theorem dX10_fullest_43 : decode cX10_fullest 43 = .ok (.ireturn, 1) := by decide +kernel
theorem dX10_mostOf_0 : decode cX10_mostOf 0 = .ok (.iconst (-1), 1) := by decide +kernel
theorem dX10_mostOf_1 : decode cX10_mostOf 1 = .ok (.istore_n 2, 1) := by decide +kernel
theorem dX10_mostOf_2 : decode cX10_mostOf 2 = .ok (.iconst 0, 1) := by decide +kernel
theorem dX10_mostOf_3 : decode cX10_mostOf 3 = .ok (.istore_n 3, 1) := by decide +kernel
theorem dX10_mostOf_4 : decode cX10_mostOf 4 = .ok (.iload_n 3, 1) := by decide +kernel
theorem dX10_mostOf_5 : decode cX10_mostOf 5 = .ok (.aload_n 0, 1) := by decide +kernel
theorem dX10_mostOf_6 : decode cX10_mostOf 6 = .ok (.getfield 288, 3) := by decide +kernel
theorem dX10_mostOf_9 : decode cX10_mostOf 9 = .ok (.if_icmp .ge 41, 3) := by decide +kernel
theorem dX10_mostOf_12 : decode cX10_mostOf 12 = .ok (.iload_n 2, 1) := by decide +kernel
theorem dX10_mostOf_13 : decode cX10_mostOf 13 = .ok (.iconst (-1), 1) := by decide +kernel
theorem dX10_mostOf_14 : decode cX10_mostOf 14 = .ok (.if_icmp .eq 28, 3) := by decide +kernel
theorem dX10_mostOf_17 : decode cX10_mostOf 17 = .ok (.aload_n 0, 1) := by decide +kernel
theorem dX10_mostOf_18 : decode cX10_mostOf 18 = .ok (.getfield 72, 3) := by decide +kernel
theorem dX10_mostOf_21 : decode cX10_mostOf 21 = .ok (.bipush 80, 2) := by decide +kernel
theorem dX10_mostOf_23 : decode cX10_mostOf 23 = .ok (.iload_n 1, 1) := by decide +kernel
theorem dX10_mostOf_24 : decode cX10_mostOf 24 = .ok (.iadd, 1) := by decide +kernel
theorem dX10_mostOf_25 : decode cX10_mostOf 25 = .ok (.iload_n 3, 1) := by decide +kernel
theorem dX10_mostOf_26 : decode cX10_mostOf 26 = .ok (.iadd, 1) := by decide +kernel
theorem dX10_mostOf_27 : decode cX10_mostOf 27 = .ok (.iaload, 1) := by decide +kernel
theorem dX10_mostOf_28 : decode cX10_mostOf 28 = .ok (.aload_n 0, 1) := by decide +kernel
theorem dX10_mostOf_29 : decode cX10_mostOf 29 = .ok (.getfield 72, 3) := by decide +kernel
theorem dX10_mostOf_32 : decode cX10_mostOf 32 = .ok (.bipush 80, 2) := by decide +kernel
theorem dX10_mostOf_34 : decode cX10_mostOf 34 = .ok (.iload_n 1, 1) := by decide +kernel
theorem dX10_mostOf_35 : decode cX10_mostOf 35 = .ok (.iadd, 1) := by decide +kernel
theorem dX10_mostOf_36 : decode cX10_mostOf 36 = .ok (.iload_n 2, 1) := by decide +kernel
theorem dX10_mostOf_37 : decode cX10_mostOf 37 = .ok (.iadd, 1) := by decide +kernel
theorem dX10_mostOf_38 : decode cX10_mostOf 38 = .ok (.iaload, 1) := by decide +kernel
theorem dX10_mostOf_39 : decode cX10_mostOf 39 = .ok (.if_icmp .le 5, 3) := by decide +kernel
theorem dX10_mostOf_42 : decode cX10_mostOf 42 = .ok (.iload_n 3, 1) := by decide +kernel
theorem dX10_mostOf_43 : decode cX10_mostOf 43 = .ok (.istore_n 2, 1) := by decide +kernel
theorem dX10_mostOf_44 : decode cX10_mostOf 44 = .ok (.iinc 3 1, 3) := by decide +kernel
theorem dX10_mostOf_47 : decode cX10_mostOf 47 = .ok (.goto (-43), 3) := by decide +kernel
theorem dX10_mostOf_50 : decode cX10_mostOf 50 = .ok (.iload_n 2, 1) := by decide +kernel
theorem dX10_mostOf_51 : decode cX10_mostOf 51 = .ok (.ireturn, 1) := by decide +kernel
theorem dX10_emptyOnes_0 : decode cX10_emptyOnes 0 = .ok (.iconst 0, 1) := by decide +kernel
theorem dX10_emptyOnes_1 : decode cX10_emptyOnes 1 = .ok (.istore_n 1, 1) := by decide +kernel
theorem dX10_emptyOnes_2 : decode cX10_emptyOnes 2 = .ok (.iconst 0, 1) := by decide +kernel
theorem dX10_emptyOnes_3 : decode cX10_emptyOnes 3 = .ok (.istore_n 2, 1) := by decide +kernel
theorem dX10_emptyOnes_4 : decode cX10_emptyOnes 4 = .ok (.iload_n 2, 1) := by decide +kernel
theorem dX10_emptyOnes_5 : decode cX10_emptyOnes 5 = .ok (.aload_n 0, 1) := by decide +kernel
theorem dX10_emptyOnes_6 : decode cX10_emptyOnes 6 = .ok (.getfield 285, 3) := by decide +kernel
theorem dX10_emptyOnes_9 : decode cX10_emptyOnes 9 = .ok (.if_icmp .ge 29, 3) := by decide +kernel
theorem dX10_emptyOnes_12 : decode cX10_emptyOnes 12 = .ok (.iload_n 1, 1) := by decide +kernel
theorem dX10_emptyOnes_13 : decode cX10_emptyOnes 13 = .ok (.aload_n 0, 1) := by decide +kernel
theorem dX10_emptyOnes_14 : decode cX10_emptyOnes 14 = .ok (.bipush 80, 2) := by decide +kernel
theorem dX10_emptyOnes_16 : decode cX10_emptyOnes 16 = .ok (.iload_n 2, 1) := by decide +kernel
theorem dX10_emptyOnes_17 : decode cX10_emptyOnes 17 = .ok (.invokevirtual 321, 3) := by decide +kernel
theorem dX10_emptyOnes_20 : decode cX10_emptyOnes 20 = .ok (.ifCond .ne 9, 3) := by decide +kernel
theorem dX10_emptyOnes_23 : decode cX10_emptyOnes 23 = .ok (.iconst 1, 1) := by decide +kernel
theorem dX10_emptyOnes_24 : decode cX10_emptyOnes 24 = .ok (.iload_n 2, 1) := by decide +kernel
theorem dX10_emptyOnes_25 : decode cX10_emptyOnes 25 = .ok (.ishl, 1) := by decide +kernel
theorem dX10_emptyOnes_26 : decode cX10_emptyOnes 26 = .ok (.goto 4, 3) := by decide +kernel
theorem dX10_emptyOnes_29 : decode cX10_emptyOnes 29 = .ok (.iconst 0, 1) := by decide +kernel
theorem dX10_emptyOnes_30 : decode cX10_emptyOnes 30 = .ok (.ior, 1) := by decide +kernel
theorem dX10_emptyOnes_31 : decode cX10_emptyOnes 31 = .ok (.istore_n 1, 1) := by decide +kernel
theorem dX10_emptyOnes_32 : decode cX10_emptyOnes 32 = .ok (.iinc 2 1, 3) := by decide +kernel
theorem dX10_emptyOnes_35 : decode cX10_emptyOnes 35 = .ok (.goto (-31), 3) := by decide +kernel
theorem dX10_emptyOnes_38 : decode cX10_emptyOnes 38 = .ok (.iload_n 1, 1) := by decide +kernel
theorem dX10_emptyOnes_39 : decode cX10_emptyOnes 39 = .ok (.ireturn, 1) := by decide +kernel
theorem dX10_most_0 : decode cX10_most 0 = .ok (.aload_n 0, 1) := by decide +kernel
theorem dX10_most_1 : decode cX10_most 1 = .ok (.iconst 0, 1) := by decide +kernel
theorem dX10_most_2 : decode cX10_most 2 = .ok (.putfield 111, 3) := by decide +kernel
theorem dX10_most_5 : decode cX10_most 5 = .ok (.aload_n 0, 1) := by decide +kernel
theorem dX10_most_6 : decode cX10_most 6 = .ok (.iload_n 2, 1) := by decide +kernel
theorem dX10_most_7 : decode cX10_most 7 = .ok (.iconst 4, 1) := by decide +kernel
theorem dX10_most_8 : decode cX10_most 8 = .ok (.invokevirtual 387, 3) := by decide +kernel
theorem dX10_most_11 : decode cX10_most 11 = .ok (.ifCond .eq 13, 3) := by decide +kernel
theorem dX10_most_14 : decode cX10_most 14 = .ok (.aload_n 0, 1) := by decide +kernel
theorem dX10_most_15 : decode cX10_most 15 = .ok (.iload_n 1, 1) := by decide +kernel
theorem dX10_most_16 : decode cX10_most 16 = .ok (.iconst 0, 1) := by decide +kernel
theorem dX10_most_17 : decode cX10_most 17 = .ok (.iconst 2, 1) := by decide +kernel
theorem dX10_most_18 : decode cX10_most 18 = .ok (.invokevirtual 418, 3) := by decide +kernel
theorem dX10_most_21 : decode cX10_most 21 = .ok (.ifCond .ne 5, 3) := by decide +kernel
theorem dX10_most_24 : decode cX10_most 24 = .ok (.iconst 0, 1) := by decide +kernel
theorem dX10_most_25 : decode cX10_most 25 = .ok (.ireturn, 1) := by decide +kernel
theorem dX10_most_26 : decode cX10_most 26 = .ok (.iconst 0, 1) := by decide +kernel
theorem dX10_most_27 : decode cX10_most 27 = .ok (.istore_n 3, 1) := by decide +kernel
theorem dX10_most_28 : decode cX10_most 28 = .ok (.aload_n 0, 1) := by decide +kernel
theorem dX10_most_29 : decode cX10_most 29 = .ok (.invokevirtual 412, 3) := by decide +kernel
theorem dX10_most_32 : decode cX10_most 32 = .ok (.iconst 0, 1) := by decide +kernel
theorem dX10_most_33 : decode cX10_most 33 = .ok (.istore 4, 2) := by decide +kernel
theorem dX10_most_35 : decode cX10_most 35 = .ok (.iload 4, 2) := by decide +kernel
theorem dX10_most_37 : decode cX10_most 37 = .ok (.iload_n 1, 1) := by decide +kernel
theorem dX10_most_38 : decode cX10_most 38 = .ok (.if_icmp .ge 22, 3) := by decide +kernel
theorem dX10_most_41 : decode cX10_most 41 = .ok (.aload_n 0, 1) := by decide +kernel
theorem dX10_most_42 : decode cX10_most 42 = .ok (.bipush 80, 2) := by decide +kernel
theorem dX10_most_44 : decode cX10_most 44 = .ok (.invokevirtual 362, 3) := by decide +kernel
theorem dX10_most_47 : decode cX10_most 47 = .ok (.iload_n 3, 1) := by decide +kernel
theorem dX10_most_48 : decode cX10_most 48 = .ok (.aload_n 0, 1) := by decide +kernel
theorem dX10_most_49 : decode cX10_most 49 = .ok (.getfield 350, 3) := by decide +kernel
theorem dX10_most_52 : decode cX10_most 52 = .ok (.iadd, 1) := by decide +kernel
theorem dX10_most_53 : decode cX10_most 53 = .ok (.istore_n 3, 1) := by decide +kernel
theorem dX10_most_54 : decode cX10_most 54 = .ok (.iinc 4 1, 3) := by decide +kernel
theorem dX10_most_57 : decode cX10_most 57 = .ok (.goto (-22), 3) := by decide +kernel
theorem dX10_most_60 : decode cX10_most 60 = .ok (.iload_n 2, 1) := by decide +kernel
theorem dX10_most_61 : decode cX10_most 61 = .ok (.ifCond .ne 10, 3) := by decide +kernel
theorem dX10_most_64 : decode cX10_most 64 = .ok (.aload_n 0, 1) := by decide +kernel
theorem dX10_most_65 : decode cX10_most 65 = .ok (.invokevirtual 424, 3) := by decide +kernel
theorem dX10_most_68 : decode cX10_most 68 = .ok (.goto 44, 3) := by decide +kernel
theorem dX10_most_71 : decode cX10_most 71 = .ok (.iload_n 2, 1) := by decide +kernel
theorem dX10_most_72 : decode cX10_most 72 = .ok (.iconst 1, 1) := by decide +kernel
theorem dX10_most_73 : decode cX10_most 73 = .ok (.if_icmp .ne 12, 3) := by decide +kernel
theorem dX10_most_76 : decode cX10_most 76 = .ok (.aload_n 0, 1) := by decide +kernel
theorem dX10_most_77 : decode cX10_most 77 = .ok (.bipush 64, 2) := by decide +kernel
theorem dX10_most_79 : decode cX10_most 79 = .ok (.invokevirtual 427, 3) := by decide +kernel
theorem dX10_most_82 : decode cX10_most 82 = .ok (.goto 30, 3) := by decide +kernel
theorem dX10_most_85 : decode cX10_most 85 = .ok (.iload_n 2, 1) := by decide +kernel
theorem dX10_most_86 : decode cX10_most 86 = .ok (.iconst 2, 1) := by decide +kernel
theorem dX10_most_87 : decode cX10_most 87 = .ok (.if_icmp .ne 7, 3) := by decide +kernel
theorem dX10_most_90 : decode cX10_most 90 = .ok (.iload_n 3, 1) := by decide +kernel
theorem dX10_most_91 : decode cX10_most 91 = .ok (.goto 21, 3) := by decide +kernel
theorem dX10_most_94 : decode cX10_most 94 = .ok (.iload_n 2, 1) := by decide +kernel
theorem dX10_most_95 : decode cX10_most 95 = .ok (.iconst 3, 1) := by decide +kernel
theorem dX10_most_96 : decode cX10_most 96 = .ok (.if_icmp .ne 12, 3) := by decide +kernel
theorem dX10_most_99 : decode cX10_most 99 = .ok (.aload_n 0, 1) := by decide +kernel
theorem dX10_most_100 : decode cX10_most 100 = .ok (.bipush 56, 2) := by decide +kernel
theorem dX10_most_102 : decode cX10_most 102 = .ok (.invokevirtual 427, 3) := by decide +kernel
theorem dX10_most_105 : decode cX10_most 105 = .ok (.goto 7, 3) := by decide +kernel
theorem dX10_most_108 : decode cX10_most 108 = .ok (.aload_n 0, 1) := by decide +kernel
theorem dX10_most_109 : decode cX10_most 109 = .ok (.invokevirtual 430, 3) := by decide +kernel
theorem dX10_most_112 : decode cX10_most 112 = .ok (.ireturn, 1) := by decide +kernel
theorem dX10_pale_0 : decode cX10_pale 0 = .ok (.aload_n 0, 1) := by decide +kernel
theorem dX10_pale_1 : decode cX10_pale 1 = .ok (.iconst 0, 1) := by decide +kernel
theorem dX10_pale_2 : decode cX10_pale 2 = .ok (.putfield 111, 3) := by decide +kernel
theorem dX10_pale_5 : decode cX10_pale 5 = .ok (.aload_n 0, 1) := by decide +kernel
theorem dX10_pale_6 : decode cX10_pale 6 = .ok (.iload_n 1, 1) := by decide +kernel
theorem dX10_pale_7 : decode cX10_pale 7 = .ok (.invokevirtual 384, 3) := by decide +kernel
theorem dX10_pale_10 : decode cX10_pale 10 = .ok (.ifCond .eq 18, 3) := by decide +kernel
theorem dX10_pale_13 : decode cX10_pale 13 = .ok (.aload_n 0, 1) := by decide +kernel
theorem dX10_pale_14 : decode cX10_pale 14 = .ok (.iload_n 2, 1) := by decide +kernel
theorem dX10_pale_15 : decode cX10_pale 15 = .ok (.iconst 0, 1) := by decide +kernel
theorem dX10_pale_16 : decode cX10_pale 16 = .ok (.bipush 99, 2) := by decide +kernel
theorem dX10_pale_18 : decode cX10_pale 18 = .ok (.invokestatic 368, 3) := by decide +kernel
theorem dX10_pale_21 : decode cX10_pale 21 = .ok (.iconst 2, 1) := by decide +kernel
theorem dX10_pale_22 : decode cX10_pale 22 = .ok (.invokevirtual 278, 3) := by decide +kernel
theorem dX10_pale_25 : decode cX10_pale 25 = .ok (.ifCond .ne 5, 3) := by decide +kernel
theorem dX10_pale_28 : decode cX10_pale 28 = .ok (.iconst 0, 1) := by decide +kernel
theorem dX10_pale_29 : decode cX10_pale 29 = .ok (.ireturn, 1) := by decide +kernel
theorem dX10_pale_30 : decode cX10_pale 30 = .ok (.aload_n 0, 1) := by decide +kernel
theorem dX10_pale_31 : decode cX10_pale 31 = .ok (.invokevirtual 412, 3) := by decide +kernel
theorem dX10_pale_34 : decode cX10_pale 34 = .ok (.iconst 0, 1) := by decide +kernel
theorem dX10_pale_35 : decode cX10_pale 35 = .ok (.istore_n 3, 1) := by decide +kernel
theorem dX10_pale_36 : decode cX10_pale 36 = .ok (.iload_n 3, 1) := by decide +kernel
theorem dX10_pale_37 : decode cX10_pale 37 = .ok (.bipush 40, 2) := by decide +kernel
theorem dX10_pale_39 : decode cX10_pale 39 = .ok (.if_icmp .gt 30, 3) := by decide +kernel
theorem dX10_pale_42 : decode cX10_pale 42 = .ok (.aload_n 0, 1) := by decide +kernel
theorem dX10_pale_43 : decode cX10_pale 43 = .ok (.getfield 72, 3) := by decide +kernel
theorem dX10_pale_46 : decode cX10_pale 46 = .ok (.bipush 82, 2) := by decide +kernel
theorem dX10_pale_48 : decode cX10_pale 48 = .ok (.iload_n 1, 1) := by decide +kernel
theorem dX10_pale_49 : decode cX10_pale 49 = .ok (.iadd, 1) := by decide +kernel
theorem dX10_pale_50 : decode cX10_pale 50 = .ok (.iaload, 1) := by decide +kernel
theorem dX10_pale_51 : decode cX10_pale 51 = .ok (.iload_n 2, 1) := by decide +kernel
theorem dX10_pale_52 : decode cX10_pale 52 = .ok (.if_icmp .gt 5, 3) := by decide +kernel
theorem dX10_pale_55 : decode cX10_pale 55 = .ok (.iload_n 3, 1) := by decide +kernel
theorem dX10_pale_56 : decode cX10_pale 56 = .ok (.ireturn, 1) := by decide +kernel
theorem dX10_pale_57 : decode cX10_pale 57 = .ok (.aload_n 0, 1) := by decide +kernel
theorem dX10_pale_58 : decode cX10_pale 58 = .ok (.bipush 80, 2) := by decide +kernel
theorem dX10_pale_60 : decode cX10_pale 60 = .ok (.invokevirtual 362, 3) := by decide +kernel
theorem dX10_pale_63 : decode cX10_pale 63 = .ok (.iinc 3 1, 3) := by decide +kernel
theorem dX10_pale_66 : decode cX10_pale 66 = .ok (.goto (-30), 3) := by decide +kernel
theorem dX10_pale_69 : decode cX10_pale 69 = .ok (.iconst (-1), 1) := by decide +kernel
theorem dX10_pale_70 : decode cX10_pale 70 = .ok (.ireturn, 1) := by decide +kernel
theorem dX10_visits_0 : decode cX10_visits 0 = .ok (.aload_n 0, 1) := by decide +kernel
theorem dX10_visits_1 : decode cX10_visits 1 = .ok (.iconst 0, 1) := by decide +kernel
theorem dX10_visits_2 : decode cX10_visits 2 = .ok (.putfield 111, 3) := by decide +kernel
theorem dX10_visits_5 : decode cX10_visits 5 = .ok (.aload_n 0, 1) := by decide +kernel
theorem dX10_visits_6 : decode cX10_visits 6 = .ok (.iload_n 1, 1) := by decide +kernel
theorem dX10_visits_7 : decode cX10_visits 7 = .ok (.invokevirtual 384, 3) := by decide +kernel
theorem dX10_visits_10 : decode cX10_visits 10 = .ok (.ifCond .eq 18, 3) := by decide +kernel
theorem dX10_visits_13 : decode cX10_visits 13 = .ok (.aload_n 0, 1) := by decide +kernel
theorem dX10_visits_14 : decode cX10_visits 14 = .ok (.iload_n 2, 1) := by decide +kernel
theorem dX10_visits_15 : decode cX10_visits 15 = .ok (.iconst 1, 1) := by decide +kernel
theorem dX10_visits_16 : decode cX10_visits 16 = .ok (.bipush 60, 2) := by decide +kernel
theorem dX10_visits_18 : decode cX10_visits 18 = .ok (.invokestatic 368, 3) := by decide +kernel
theorem dX10_visits_21 : decode cX10_visits 21 = .ok (.iconst 2, 1) := by decide +kernel
theorem dX10_visits_22 : decode cX10_visits 22 = .ok (.invokevirtual 278, 3) := by decide +kernel
theorem dX10_visits_25 : decode cX10_visits 25 = .ok (.ifCond .ne 5, 3) := by decide +kernel
theorem dX10_visits_28 : decode cX10_visits 28 = .ok (.iconst 0, 1) := by decide +kernel
theorem dX10_visits_29 : decode cX10_visits 29 = .ok (.ireturn, 1) := by decide +kernel
theorem dX10_visits_30 : decode cX10_visits 30 = .ok (.iconst 0, 1) := by decide +kernel
theorem dX10_visits_31 : decode cX10_visits 31 = .ok (.istore_n 3, 1) := by decide +kernel
theorem dX10_visits_32 : decode cX10_visits 32 = .ok (.iconst 0, 1) := by decide +kernel
theorem dX10_visits_33 : decode cX10_visits 33 = .ok (.istore 4, 2) := by decide +kernel
theorem dX10_visits_35 : decode cX10_visits 35 = .ok (.iload 4, 2) := by decide +kernel
theorem dX10_visits_37 : decode cX10_visits 37 = .ok (.iload_n 2, 1) := by decide +kernel
theorem dX10_visits_38 : decode cX10_visits 38 = .ok (.if_icmp .ge 34, 3) := by decide +kernel
theorem dX10_visits_41 : decode cX10_visits 41 = .ok (.iload_n 3, 1) := by decide +kernel
theorem dX10_visits_42 : decode cX10_visits 42 = .ok (.aload_n 0, 1) := by decide +kernel
theorem dX10_visits_43 : decode cX10_visits 43 = .ok (.aload_n 0, 1) := by decide +kernel
theorem dX10_visits_44 : decode cX10_visits 44 = .ok (.getfield 72, 3) := by decide +kernel
theorem dX10_visits_47 : decode cX10_visits 47 = .ok (.iconst 0, 1) := by decide +kernel
theorem dX10_visits_48 : decode cX10_visits 48 = .ok (.iaload, 1) := by decide +kernel
theorem dX10_visits_49 : decode cX10_visits 49 = .ok (.iload 4, 2) := by decide +kernel
theorem dX10_visits_51 : decode cX10_visits 51 = .ok (.iadd, 1) := by decide +kernel
theorem dX10_visits_52 : decode cX10_visits 52 = .ok (.invokevirtual 356, 3) := by decide +kernel
theorem dX10_visits_55 : decode cX10_visits 55 = .ok (.iload_n 1, 1) := by decide +kernel
theorem dX10_visits_56 : decode cX10_visits 56 = .ok (.if_icmp .ne 7, 3) := by decide +kernel
theorem dX10_visits_59 : decode cX10_visits 59 = .ok (.iconst 1, 1) := by decide +kernel
theorem dX10_visits_60 : decode cX10_visits 60 = .ok (.goto 4, 3) := by decide +kernel
theorem dX10_visits_63 : decode cX10_visits 63 = .ok (.iconst 0, 1) := by decide +kernel
theorem dX10_visits_64 : decode cX10_visits 64 = .ok (.iadd, 1) := by decide +kernel
theorem dX10_visits_65 : decode cX10_visits 65 = .ok (.istore_n 3, 1) := by decide +kernel
theorem dX10_visits_66 : decode cX10_visits 66 = .ok (.iinc 4 1, 3) := by decide +kernel
theorem dX10_visits_69 : decode cX10_visits 69 = .ok (.goto (-34), 3) := by decide +kernel
theorem dX10_visits_72 : decode cX10_visits 72 = .ok (.iload_n 3, 1) := by decide +kernel
theorem dX10_visits_73 : decode cX10_visits 73 = .ok (.ireturn, 1) := by decide +kernel
theorem dX10_reds_0 : decode cX10_reds 0 = .ok (.aload_n 0, 1) := by decide +kernel
theorem dX10_reds_1 : decode cX10_reds 1 = .ok (.iconst 0, 1) := by decide +kernel
theorem dX10_reds_2 : decode cX10_reds 2 = .ok (.putfield 111, 3) := by decide +kernel
theorem dX10_reds_5 : decode cX10_reds 5 = .ok (.aload_n 0, 1) := by decide +kernel
theorem dX10_reds_6 : decode cX10_reds 6 = .ok (.iload_n 1, 1) := by decide +kernel
theorem dX10_reds_7 : decode cX10_reds 7 = .ok (.iconst 0, 1) := by decide +kernel
theorem dX10_reds_8 : decode cX10_reds 8 = .ok (.iconst 1, 1) := by decide +kernel
theorem dX10_reds_9 : decode cX10_reds 9 = .ok (.invokevirtual 418, 3) := by decide +kernel
theorem dX10_reds_12 : decode cX10_reds 12 = .ok (.ifCond .ne 5, 3) := by decide +kernel
theorem dX10_reds_15 : decode cX10_reds 15 = .ok (.iconst 0, 1) := by decide +kernel
theorem dX10_reds_16 : decode cX10_reds 16 = .ok (.ireturn, 1) := by decide +kernel
theorem dX10_reds_17 : decode cX10_reds 17 = .ok (.aload_n 0, 1) := by decide +kernel
theorem dX10_reds_18 : decode cX10_reds 18 = .ok (.iload_n 1, 1) := by decide +kernel
theorem dX10_reds_19 : decode cX10_reds 19 = .ok (.invokevirtual 421, 3) := by decide +kernel
theorem dX10_reds_22 : decode cX10_reds 22 = .ok (.iconst 0, 1) := by decide +kernel
theorem dX10_reds_23 : decode cX10_reds 23 = .ok (.istore_n 2, 1) := by decide +kernel
theorem dX10_reds_24 : decode cX10_reds 24 = .ok (.iconst 0, 1) := by decide +kernel
theorem dX10_reds_25 : decode cX10_reds 25 = .ok (.istore_n 3, 1) := by decide +kernel
theorem dX10_reds_26 : decode cX10_reds 26 = .ok (.iload_n 3, 1) := by decide +kernel
theorem dX10_reds_27 : decode cX10_reds 27 = .ok (.aload_n 0, 1) := by decide +kernel
theorem dX10_reds_28 : decode cX10_reds 28 = .ok (.getfield 285, 3) := by decide +kernel
theorem dX10_reds_31 : decode cX10_reds 31 = .ok (.if_icmp .ge 21, 3) := by decide +kernel
theorem dX10_reds_34 : decode cX10_reds 34 = .ok (.iload_n 2, 1) := by decide +kernel
theorem dX10_reds_35 : decode cX10_reds 35 = .ok (.aload_n 0, 1) := by decide +kernel
theorem dX10_reds_36 : decode cX10_reds 36 = .ok (.getfield 72, 3) := by decide +kernel
theorem dX10_reds_39 : decode cX10_reds 39 = .ok (.bipush 82, 2) := by decide +kernel
theorem dX10_reds_41 : decode cX10_reds 41 = .ok (.iload_n 3, 1) := by decide +kernel
theorem dX10_reds_42 : decode cX10_reds 42 = .ok (.iadd, 1) := by decide +kernel
theorem dX10_reds_43 : decode cX10_reds 43 = .ok (.iaload, 1) := by decide +kernel
theorem dX10_reds_44 : decode cX10_reds 44 = .ok (.iadd, 1) := by decide +kernel
theorem dX10_reds_45 : decode cX10_reds 45 = .ok (.istore_n 2, 1) := by decide +kernel
theorem dX10_reds_46 : decode cX10_reds 46 = .ok (.iinc 3 1, 3) := by decide +kernel
theorem dX10_reds_49 : decode cX10_reds 49 = .ok (.goto (-23), 3) := by decide +kernel
theorem dX10_reds_52 : decode cX10_reds 52 = .ok (.iload_n 2, 1) := by decide +kernel
theorem dX10_reds_53 : decode cX10_reds 53 = .ok (.ireturn, 1) := by decide +kernel
theorem dX10_quiet_0 : decode cX10_quiet 0 = .ok (.aload_n 0, 1) := by decide +kernel
theorem dX10_quiet_1 : decode cX10_quiet 1 = .ok (.iconst 0, 1) := by decide +kernel
theorem dX10_quiet_2 : decode cX10_quiet 2 = .ok (.putfield 111, 3) := by decide +kernel
theorem dX10_quiet_5 : decode cX10_quiet 5 = .ok (.aload_n 0, 1) := by decide +kernel
theorem dX10_quiet_6 : decode cX10_quiet 6 = .ok (.iload_n 1, 1) := by decide +kernel
theorem dX10_quiet_7 : decode cX10_quiet 7 = .ok (.invokevirtual 397, 3) := by decide +kernel
theorem dX10_quiet_10 : decode cX10_quiet 10 = .ok (.ifCond .eq 13, 3) := by decide +kernel
theorem dX10_quiet_13 : decode cX10_quiet 13 = .ok (.aload_n 0, 1) := by decide +kernel
theorem dX10_quiet_14 : decode cX10_quiet 14 = .ok (.iload_n 2, 1) := by decide +kernel
theorem dX10_quiet_15 : decode cX10_quiet 15 = .ok (.iconst 1, 1) := by decide +kernel
theorem dX10_quiet_16 : decode cX10_quiet 16 = .ok (.iconst 2, 1) := by decide +kernel
theorem dX10_quiet_17 : decode cX10_quiet 17 = .ok (.invokevirtual 418, 3) := by decide +kernel
theorem dX10_quiet_20 : decode cX10_quiet 20 = .ok (.ifCond .ne 5, 3) := by decide +kernel
theorem dX10_quiet_23 : decode cX10_quiet 23 = .ok (.iconst 0, 1) := by decide +kernel
theorem dX10_quiet_24 : decode cX10_quiet 24 = .ok (.ireturn, 1) := by decide +kernel
theorem dX10_quiet_25 : decode cX10_quiet 25 = .ok (.iconst 0, 1) := by decide +kernel
theorem dX10_quiet_26 : decode cX10_quiet 26 = .ok (.istore_n 3, 1) := by decide +kernel
theorem dX10_quiet_27 : decode cX10_quiet 27 = .ok (.iconst 0, 1) := by decide +kernel
theorem dX10_quiet_28 : decode cX10_quiet 28 = .ok (.istore 4, 2) := by decide +kernel
theorem dX10_quiet_30 : decode cX10_quiet 30 = .ok (.aload_n 0, 1) := by decide +kernel
theorem dX10_quiet_31 : decode cX10_quiet 31 = .ok (.invokevirtual 412, 3) := by decide +kernel
theorem dX10_quiet_34 : decode cX10_quiet 34 = .ok (.iconst 0, 1) := by decide +kernel
theorem dX10_quiet_35 : decode cX10_quiet 35 = .ok (.istore 5, 2) := by decide +kernel
theorem dX10_quiet_37 : decode cX10_quiet 37 = .ok (.iload 5, 2) := by decide +kernel
theorem dX10_quiet_39 : decode cX10_quiet 39 = .ok (.iload_n 2, 1) := by decide +kernel
theorem dX10_quiet_40 : decode cX10_quiet 40 = .ok (.if_icmp .ge 65, 3) := by decide +kernel
theorem dX10_quiet_43 : decode cX10_quiet 43 = .ok (.aload_n 0, 1) := by decide +kernel
theorem dX10_quiet_44 : decode cX10_quiet 44 = .ok (.getfield 72, 3) := by decide +kernel
theorem dX10_quiet_47 : decode cX10_quiet 47 = .ok (.sipush 144, 3) := by decide +kernel
theorem dX10_quiet_50 : decode cX10_quiet 50 = .ok (.iload_n 1, 1) := by decide +kernel
theorem dX10_quiet_51 : decode cX10_quiet 51 = .ok (.iadd, 1) := by decide +kernel
theorem dX10_quiet_52 : decode cX10_quiet 52 = .ok (.iaload, 1) := by decide +kernel
theorem dX10_quiet_53 : decode cX10_quiet 53 = .ok (.istore 6, 2) := by decide +kernel
theorem dX10_quiet_55 : decode cX10_quiet 55 = .ok (.aload_n 0, 1) := by decide +kernel
theorem dX10_quiet_56 : decode cX10_quiet 56 = .ok (.bipush 80, 2) := by decide +kernel
theorem dX10_quiet_58 : decode cX10_quiet 58 = .ok (.invokevirtual 362, 3) := by decide +kernel
theorem dX10_quiet_61 : decode cX10_quiet 61 = .ok (.aload_n 0, 1) := by decide +kernel
theorem dX10_quiet_62 : decode cX10_quiet 62 = .ok (.getfield 72, 3) := by decide +kernel
theorem dX10_quiet_65 : decode cX10_quiet 65 = .ok (.sipush 144, 3) := by decide +kernel
theorem dX10_quiet_68 : decode cX10_quiet 68 = .ok (.iload_n 1, 1) := by decide +kernel
theorem dX10_quiet_69 : decode cX10_quiet 69 = .ok (.iadd, 1) := by decide +kernel
theorem dX10_quiet_70 : decode cX10_quiet 70 = .ok (.iaload, 1) := by decide +kernel
theorem dX10_quiet_71 : decode cX10_quiet 71 = .ok (.iload 6, 2) := by decide +kernel
theorem dX10_quiet_73 : decode cX10_quiet 73 = .ok (.if_icmp .le 7, 3) := by decide +kernel
theorem dX10_quiet_76 : decode cX10_quiet 76 = .ok (.iconst 0, 1) := by decide +kernel
theorem dX10_quiet_77 : decode cX10_quiet 77 = .ok (.goto 7, 3) := by decide +kernel
theorem dX10_quiet_80 : decode cX10_quiet 80 = .ok (.iload 4, 2) := by decide +kernel
theorem dX10_quiet_82 : decode cX10_quiet 82 = .ok (.iconst 1, 1) := by decide +kernel
theorem dX10_quiet_83 : decode cX10_quiet 83 = .ok (.iadd, 1) := by decide +kernel
theorem dX10_quiet_84 : decode cX10_quiet 84 = .ok (.istore 4, 2) := by decide +kernel
theorem dX10_quiet_86 : decode cX10_quiet 86 = .ok (.iload 4, 2) := by decide +kernel
theorem dX10_quiet_88 : decode cX10_quiet 88 = .ok (.iload_n 3, 1) := by decide +kernel
theorem dX10_quiet_89 : decode cX10_quiet 89 = .ok (.if_icmp .le 8, 3) := by decide +kernel
theorem dX10_quiet_92 : decode cX10_quiet 92 = .ok (.iload 4, 2) := by decide +kernel
theorem dX10_quiet_94 : decode cX10_quiet 94 = .ok (.goto 4, 3) := by decide +kernel
theorem dX10_quiet_97 : decode cX10_quiet 97 = .ok (.iload_n 3, 1) := by decide +kernel
theorem dX10_quiet_98 : decode cX10_quiet 98 = .ok (.istore_n 3, 1) := by decide +kernel
theorem dX10_quiet_99 : decode cX10_quiet 99 = .ok (.iinc 5 1, 3) := by decide +kernel
theorem dX10_quiet_102 : decode cX10_quiet 102 = .ok (.goto (-65), 3) := by decide +kernel
theorem dX10_quiet_105 : decode cX10_quiet 105 = .ok (.iload_n 3, 1) := by decide +kernel
theorem dX10_quiet_106 : decode cX10_quiet 106 = .ok (.ireturn, 1) := by decide +kernel
theorem dX10_whose_0 : decode cX10_whose 0 = .ok (.aload_n 0, 1) := by decide +kernel
theorem dX10_whose_1 : decode cX10_whose 1 = .ok (.iconst 0, 1) := by decide +kernel
theorem dX10_whose_2 : decode cX10_whose 2 = .ok (.putfield 111, 3) := by decide +kernel
theorem dX10_whose_5 : decode cX10_whose 5 = .ok (.aload_n 0, 1) := by decide +kernel
theorem dX10_whose_6 : decode cX10_whose 6 = .ok (.iload_n 1, 1) := by decide +kernel
theorem dX10_whose_7 : decode cX10_whose 7 = .ok (.invokevirtual 384, 3) := by decide +kernel
theorem dX10_whose_10 : decode cX10_whose 10 = .ok (.ifCond .ne 5, 3) := by decide +kernel
theorem dX10_whose_13 : decode cX10_whose 13 = .ok (.iconst 0, 1) := by decide +kernel
theorem dX10_whose_14 : decode cX10_whose 14 = .ok (.ireturn, 1) := by decide +kernel
theorem dX10_whose_15 : decode cX10_whose 15 = .ok (.iconst (-1), 1) := by decide +kernel
theorem dX10_whose_16 : decode cX10_whose 16 = .ok (.istore_n 2, 1) := by decide +kernel
theorem dX10_whose_17 : decode cX10_whose 17 = .ok (.iconst 0, 1) := by decide +kernel
theorem dX10_whose_18 : decode cX10_whose 18 = .ok (.istore_n 3, 1) := by decide +kernel
theorem dX10_whose_19 : decode cX10_whose 19 = .ok (.iload_n 3, 1) := by decide +kernel
theorem dX10_whose_20 : decode cX10_whose 20 = .ok (.aload_n 0, 1) := by decide +kernel
theorem dX10_whose_21 : decode cX10_whose 21 = .ok (.getfield 288, 3) := by decide +kernel
theorem dX10_whose_24 : decode cX10_whose 24 = .ok (.if_icmp .ge 51, 3) := by decide +kernel
theorem dX10_whose_27 : decode cX10_whose 27 = .ok (.aload_n 0, 1) := by decide +kernel
theorem dX10_whose_28 : decode cX10_whose 28 = .ok (.getfield 72, 3) := by decide +kernel
theorem dX10_whose_31 : decode cX10_whose 31 = .ok (.bipush 8, 2) := by decide +kernel
theorem dX10_whose_33 : decode cX10_whose 33 = .ok (.bipush 8, 2) := by decide +kernel
theorem dX10_whose_35 : decode cX10_whose 35 = .ok (.iload_n 1, 1) := by decide +kernel
theorem dX10_whose_36 : decode cX10_whose 36 = .ok (.imul, 1) := by decide +kernel
theorem dX10_whose_37 : decode cX10_whose 37 = .ok (.iadd, 1) := by decide +kernel
theorem dX10_whose_38 : decode cX10_whose 38 = .ok (.iload_n 3, 1) := by decide +kernel
theorem dX10_whose_39 : decode cX10_whose 39 = .ok (.iadd, 1) := by decide +kernel
theorem dX10_whose_40 : decode cX10_whose 40 = .ok (.iaload, 1) := by decide +kernel
theorem dX10_whose_41 : decode cX10_whose 41 = .ok (.iload_n 2, 1) := by decide +kernel
theorem dX10_whose_42 : decode cX10_whose 42 = .ok (.iconst (-1), 1) := by decide +kernel
theorem dX10_whose_43 : decode cX10_whose 43 = .ok (.if_icmp .ne 7, 3) := by decide +kernel
theorem dX10_whose_46 : decode cX10_whose 46 = .ok (.iconst 0, 1) := by decide +kernel
theorem dX10_whose_47 : decode cX10_whose 47 = .ok (.goto 17, 3) := by decide +kernel
theorem dX10_whose_50 : decode cX10_whose 50 = .ok (.aload_n 0, 1) := by decide +kernel
theorem dX10_whose_51 : decode cX10_whose 51 = .ok (.getfield 72, 3) := by decide +kernel
theorem dX10_whose_54 : decode cX10_whose 54 = .ok (.bipush 8, 2) := by decide +kernel
theorem dX10_whose_56 : decode cX10_whose 56 = .ok (.bipush 8, 2) := by decide +kernel
theorem dX10_whose_58 : decode cX10_whose 58 = .ok (.iload_n 1, 1) := by decide +kernel
theorem dX10_whose_59 : decode cX10_whose 59 = .ok (.imul, 1) := by decide +kernel
theorem dX10_whose_60 : decode cX10_whose 60 = .ok (.iadd, 1) := by decide +kernel
theorem dX10_whose_61 : decode cX10_whose 61 = .ok (.iload_n 2, 1) := by decide +kernel
theorem dX10_whose_62 : decode cX10_whose 62 = .ok (.iadd, 1) := by decide +kernel
theorem dX10_whose_63 : decode cX10_whose 63 = .ok (.iaload, 1) := by decide +kernel
theorem dX10_whose_64 : decode cX10_whose 64 = .ok (.if_icmp .le 5, 3) := by decide +kernel
theorem dX10_whose_67 : decode cX10_whose 67 = .ok (.iload_n 3, 1) := by decide +kernel
theorem dX10_whose_68 : decode cX10_whose 68 = .ok (.istore_n 2, 1) := by decide +kernel
theorem dX10_whose_69 : decode cX10_whose 69 = .ok (.iinc 3 1, 3) := by decide +kernel
theorem dX10_whose_72 : decode cX10_whose 72 = .ok (.goto (-53), 3) := by decide +kernel
theorem dX10_whose_75 : decode cX10_whose 75 = .ok (.iload_n 2, 1) := by decide +kernel
theorem dX10_whose_76 : decode cX10_whose 76 = .ok (.ireturn, 1) := by decide +kernel
theorem dX10_goesOnFrom_0 : decode cX10_goesOnFrom 0 = .ok (.iconst 0, 1) := by decide +kernel
theorem dX10_goesOnFrom_1 : decode cX10_goesOnFrom 1 = .ok (.istore_n 2, 1) := by decide +kernel
theorem dX10_goesOnFrom_2 : decode cX10_goesOnFrom 2 = .ok (.aload_n 0, 1) := by decide +kernel
theorem dX10_goesOnFrom_3 : decode cX10_goesOnFrom 3 = .ok (.getfield 72, 3) := by decide +kernel
theorem dX10_goesOnFrom_6 : decode cX10_goesOnFrom 6 = .ok (.bipush 72, 2) := by decide +kernel
theorem dX10_goesOnFrom_8 : decode cX10_goesOnFrom 8 = .ok (.iload_n 1, 1) := by decide +kernel
theorem dX10_goesOnFrom_9 : decode cX10_goesOnFrom 9 = .ok (.iadd, 1) := by decide +kernel
theorem dX10_goesOnFrom_10 : decode cX10_goesOnFrom 10 = .ok (.iaload, 1) := by decide +kernel
theorem dX10_goesOnFrom_11 : decode cX10_goesOnFrom 11 = .ok (.istore_n 3, 1) := by decide +kernel
theorem dX10_goesOnFrom_12 : decode cX10_goesOnFrom 12 = .ok (.iload_n 3, 1) := by decide +kernel
theorem dX10_goesOnFrom_13 : decode cX10_goesOnFrom 13 = .ok (.iconst (-1), 1) := by decide +kernel
theorem dX10_goesOnFrom_14 : decode cX10_goesOnFrom 14 = .ok (.if_icmp .eq 30, 3) := by decide +kernel
theorem dX10_goesOnFrom_17 : decode cX10_goesOnFrom 17 = .ok (.iload_n 2, 1) := by decide +kernel
theorem dX10_goesOnFrom_18 : decode cX10_goesOnFrom 18 = .ok (.iload_n 3, 1) := by decide +kernel
theorem dX10_goesOnFrom_19 : decode cX10_goesOnFrom 19 = .ok (.ishr, 1) := by decide +kernel
theorem dX10_goesOnFrom_20 : decode cX10_goesOnFrom 20 = .ok (.iconst 1, 1) := by decide +kernel
theorem dX10_goesOnFrom_21 : decode cX10_goesOnFrom 21 = .ok (.iand, 1) := by decide +kernel
theorem dX10_goesOnFrom_22 : decode cX10_goesOnFrom 22 = .ok (.ifCond .ne 22, 3) := by decide +kernel
theorem dX10_goesOnFrom_25 : decode cX10_goesOnFrom 25 = .ok (.iload_n 2, 1) := by decide +kernel
theorem dX10_goesOnFrom_26 : decode cX10_goesOnFrom 26 = .ok (.iconst 1, 1) := by decide +kernel
theorem dX10_goesOnFrom_27 : decode cX10_goesOnFrom 27 = .ok (.iload_n 3, 1) := by decide +kernel
theorem dX10_goesOnFrom_28 : decode cX10_goesOnFrom 28 = .ok (.ishl, 1) := by decide +kernel
theorem dX10_goesOnFrom_29 : decode cX10_goesOnFrom 29 = .ok (.ior, 1) := by decide +kernel
theorem dX10_goesOnFrom_30 : decode cX10_goesOnFrom 30 = .ok (.istore_n 2, 1) := by decide +kernel
theorem dX10_goesOnFrom_31 : decode cX10_goesOnFrom 31 = .ok (.aload_n 0, 1) := by decide +kernel
theorem dX10_goesOnFrom_32 : decode cX10_goesOnFrom 32 = .ok (.getfield 72, 3) := by decide +kernel
theorem dX10_goesOnFrom_35 : decode cX10_goesOnFrom 35 = .ok (.bipush 72, 2) := by decide +kernel
theorem dX10_goesOnFrom_37 : decode cX10_goesOnFrom 37 = .ok (.iload_n 3, 1) := by decide +kernel
theorem dX10_goesOnFrom_38 : decode cX10_goesOnFrom 38 = .ok (.iadd, 1) := by decide +kernel
theorem dX10_goesOnFrom_39 : decode cX10_goesOnFrom 39 = .ok (.iaload, 1) := by decide +kernel
theorem dX10_goesOnFrom_40 : decode cX10_goesOnFrom 40 = .ok (.istore_n 3, 1) := by decide +kernel
theorem dX10_goesOnFrom_41 : decode cX10_goesOnFrom 41 = .ok (.goto (-29), 3) := by decide +kernel
theorem dX10_goesOnFrom_44 : decode cX10_goesOnFrom 44 = .ok (.iload_n 2, 1) := by decide +kernel
theorem dX10_goesOnFrom_45 : decode cX10_goesOnFrom 45 = .ok (.ireturn, 1) := by decide +kernel
theorem dX10_ring_0 : decode cX10_ring 0 = .ok (.aload_n 0, 1) := by decide +kernel
theorem dX10_ring_1 : decode cX10_ring 1 = .ok (.iconst 0, 1) := by decide +kernel
theorem dX10_ring_2 : decode cX10_ring 2 = .ok (.putfield 111, 3) := by decide +kernel
theorem dX10_ring_5 : decode cX10_ring 5 = .ok (.aload_n 0, 1) := by decide +kernel
theorem dX10_ring_6 : decode cX10_ring 6 = .ok (.iload_n 1, 1) := by decide +kernel
theorem dX10_ring_7 : decode cX10_ring 7 = .ok (.invokevirtual 397, 3) := by decide +kernel
theorem dX10_ring_10 : decode cX10_ring 10 = .ok (.ifCond .ne 5, 3) := by decide +kernel
theorem dX10_ring_13 : decode cX10_ring 13 = .ok (.iconst 0, 1) := by decide +kernel
theorem dX10_ring_14 : decode cX10_ring 14 = .ok (.ireturn, 1) := by decide +kernel
theorem dX10_ring_15 : decode cX10_ring 15 = .ok (.aload_n 0, 1) := by decide +kernel
theorem dX10_ring_16 : decode cX10_ring 16 = .ok (.iload_n 1, 1) := by decide +kernel
theorem dX10_ring_17 : decode cX10_ring 17 = .ok (.invokevirtual 433, 3) := by decide +kernel
theorem dX10_ring_20 : decode cX10_ring 20 = .ok (.istore_n 2, 1) := by decide +kernel
theorem dX10_ring_21 : decode cX10_ring 21 = .ok (.iload_n 2, 1) := by decide +kernel
theorem dX10_ring_22 : decode cX10_ring 22 = .ok (.iload_n 1, 1) := by decide +kernel
theorem dX10_ring_23 : decode cX10_ring 23 = .ok (.ishr, 1) := by decide +kernel
theorem dX10_ring_24 : decode cX10_ring 24 = .ok (.iconst 1, 1) := by decide +kernel
theorem dX10_ring_25 : decode cX10_ring 25 = .ok (.iand, 1) := by decide +kernel
theorem dX10_ring_26 : decode cX10_ring 26 = .ok (.iconst 1, 1) := by decide +kernel
theorem dX10_ring_27 : decode cX10_ring 27 = .ok (.if_icmp .ne 7, 3) := by decide +kernel
theorem dX10_ring_30 : decode cX10_ring 30 = .ok (.iload_n 2, 1) := by decide +kernel
theorem dX10_ring_31 : decode cX10_ring 31 = .ok (.goto 4, 3) := by decide +kernel
theorem dX10_ring_34 : decode cX10_ring 34 = .ok (.iconst 0, 1) := by decide +kernel
theorem dX10_ring_35 : decode cX10_ring 35 = .ok (.ireturn, 1) := by decide +kernel
theorem dX10_comesTo_0 : decode cX10_comesTo 0 = .ok (.aload_n 0, 1) := by decide +kernel
theorem dX10_comesTo_1 : decode cX10_comesTo 1 = .ok (.iconst 0, 1) := by decide +kernel
theorem dX10_comesTo_2 : decode cX10_comesTo 2 = .ok (.putfield 111, 3) := by decide +kernel
theorem dX10_comesTo_5 : decode cX10_comesTo 5 = .ok (.aload_n 0, 1) := by decide +kernel
theorem dX10_comesTo_6 : decode cX10_comesTo 6 = .ok (.iload_n 1, 1) := by decide +kernel
theorem dX10_comesTo_7 : decode cX10_comesTo 7 = .ok (.invokevirtual 397, 3) := by decide +kernel
theorem dX10_comesTo_10 : decode cX10_comesTo 10 = .ok (.ifCond .eq 11, 3) := by decide +kernel
theorem dX10_comesTo_13 : decode cX10_comesTo 13 = .ok (.aload_n 0, 1) := by decide +kernel
theorem dX10_comesTo_14 : decode cX10_comesTo 14 = .ok (.iload_n 1, 1) := by decide +kernel
theorem dX10_comesTo_15 : decode cX10_comesTo 15 = .ok (.invokevirtual 433, 3) := by decide +kernel
theorem dX10_comesTo_18 : decode cX10_comesTo 18 = .ok (.goto 4, 3) := by decide +kernel
theorem dX10_comesTo_21 : decode cX10_comesTo 21 = .ok (.iconst 0, 1) := by decide +kernel
theorem dX10_comesTo_22 : decode cX10_comesTo 22 = .ok (.ireturn, 1) := by decide +kernel
theorem dX10_steps_0 : decode cX10_steps 0 = .ok (.aload_n 0, 1) := by decide +kernel
theorem dX10_steps_1 : decode cX10_steps 1 = .ok (.iconst 0, 1) := by decide +kernel
theorem dX10_steps_2 : decode cX10_steps 2 = .ok (.putfield 111, 3) := by decide +kernel
theorem dX10_steps_5 : decode cX10_steps 5 = .ok (.aload_n 0, 1) := by decide +kernel
theorem dX10_steps_6 : decode cX10_steps 6 = .ok (.iload_n 1, 1) := by decide +kernel
theorem dX10_steps_7 : decode cX10_steps 7 = .ok (.invokevirtual 397, 3) := by decide +kernel
theorem dX10_steps_10 : decode cX10_steps 10 = .ok (.ifCond .eq 11, 3) := by decide +kernel
theorem dX10_steps_13 : decode cX10_steps 13 = .ok (.aload_n 0, 1) := by decide +kernel
theorem dX10_steps_14 : decode cX10_steps 14 = .ok (.iload_n 2, 1) := by decide +kernel
theorem dX10_steps_15 : decode cX10_steps 15 = .ok (.invokevirtual 397, 3) := by decide +kernel
theorem dX10_steps_18 : decode cX10_steps 18 = .ok (.ifCond .ne 5, 3) := by decide +kernel
theorem dX10_steps_21 : decode cX10_steps 21 = .ok (.iconst 0, 1) := by decide +kernel
theorem dX10_steps_22 : decode cX10_steps 22 = .ok (.ireturn, 1) := by decide +kernel
theorem dX10_steps_23 : decode cX10_steps 23 = .ok (.iload_n 1, 1) := by decide +kernel
theorem dX10_steps_24 : decode cX10_steps 24 = .ok (.istore_n 3, 1) := by decide +kernel
theorem dX10_steps_25 : decode cX10_steps 25 = .ok (.iconst 0, 1) := by decide +kernel
theorem dX10_steps_26 : decode cX10_steps 26 = .ok (.istore 4, 2) := by decide +kernel
theorem dX10_steps_28 : decode cX10_steps 28 = .ok (.iload 4, 2) := by decide +kernel
theorem dX10_steps_30 : decode cX10_steps 30 = .ok (.aload_n 0, 1) := by decide +kernel
theorem dX10_steps_31 : decode cX10_steps 31 = .ok (.getfield 288, 3) := by decide +kernel
theorem dX10_steps_34 : decode cX10_steps 34 = .ok (.if_icmp .ge 34, 3) := by decide +kernel
theorem dX10_steps_37 : decode cX10_steps 37 = .ok (.iload_n 3, 1) := by decide +kernel
theorem dX10_steps_38 : decode cX10_steps 38 = .ok (.iload_n 2, 1) := by decide +kernel
theorem dX10_steps_39 : decode cX10_steps 39 = .ok (.if_icmp .ne 6, 3) := by decide +kernel
theorem dX10_steps_42 : decode cX10_steps 42 = .ok (.iload 4, 2) := by decide +kernel
theorem dX10_steps_44 : decode cX10_steps 44 = .ok (.ireturn, 1) := by decide +kernel
theorem dX10_steps_45 : decode cX10_steps 45 = .ok (.aload_n 0, 1) := by decide +kernel
theorem dX10_steps_46 : decode cX10_steps 46 = .ok (.getfield 72, 3) := by decide +kernel
theorem dX10_steps_49 : decode cX10_steps 49 = .ok (.bipush 72, 2) := by decide +kernel
theorem dX10_steps_51 : decode cX10_steps 51 = .ok (.iload_n 3, 1) := by decide +kernel
theorem dX10_steps_52 : decode cX10_steps 52 = .ok (.iadd, 1) := by decide +kernel
theorem dX10_steps_53 : decode cX10_steps 53 = .ok (.iaload, 1) := by decide +kernel
theorem dX10_steps_54 : decode cX10_steps 54 = .ok (.istore_n 3, 1) := by decide +kernel
theorem dX10_steps_55 : decode cX10_steps 55 = .ok (.iload_n 3, 1) := by decide +kernel
theorem dX10_steps_56 : decode cX10_steps 56 = .ok (.iconst (-1), 1) := by decide +kernel
theorem dX10_steps_57 : decode cX10_steps 57 = .ok (.if_icmp .ne 5, 3) := by decide +kernel
theorem dX10_steps_60 : decode cX10_steps 60 = .ok (.iconst (-1), 1) := by decide +kernel
theorem dX10_steps_61 : decode cX10_steps 61 = .ok (.ireturn, 1) := by decide +kernel
theorem dX10_steps_62 : decode cX10_steps 62 = .ok (.iinc 4 1, 3) := by decide +kernel
theorem dX10_steps_65 : decode cX10_steps 65 = .ok (.goto (-37), 3) := by decide +kernel
theorem dX10_steps_68 : decode cX10_steps 68 = .ok (.iconst (-1), 1) := by decide +kernel
theorem dX10_steps_69 : decode cX10_steps 69 = .ok (.ireturn, 1) := by decide +kernel
theorem dX10_bestAt_0 : decode cX10_bestAt 0 = .ok (.aload_n 0, 1) := by decide +kernel
theorem dX10_bestAt_1 : decode cX10_bestAt 1 = .ok (.iconst 0, 1) := by decide +kernel
theorem dX10_bestAt_2 : decode cX10_bestAt 2 = .ok (.putfield 111, 3) := by decide +kernel
theorem dX10_bestAt_5 : decode cX10_bestAt 5 = .ok (.aload_n 0, 1) := by decide +kernel
theorem dX10_bestAt_6 : decode cX10_bestAt 6 = .ok (.iload_n 1, 1) := by decide +kernel
theorem dX10_bestAt_7 : decode cX10_bestAt 7 = .ok (.invokevirtual 397, 3) := by decide +kernel
theorem dX10_bestAt_10 : decode cX10_bestAt 10 = .ok (.ifCond .eq 13, 3) := by decide +kernel
theorem dX10_bestAt_13 : decode cX10_bestAt 13 = .ok (.aload_n 0, 1) := by decide +kernel
theorem dX10_bestAt_14 : decode cX10_bestAt 14 = .ok (.iload_n 2, 1) := by decide +kernel
theorem dX10_bestAt_15 : decode cX10_bestAt 15 = .ok (.iconst 1, 1) := by decide +kernel
theorem dX10_bestAt_16 : decode cX10_bestAt 16 = .ok (.iconst 2, 1) := by decide +kernel
theorem dX10_bestAt_17 : decode cX10_bestAt 17 = .ok (.invokevirtual 418, 3) := by decide +kernel
theorem dX10_bestAt_20 : decode cX10_bestAt 20 = .ok (.ifCond .ne 5, 3) := by decide +kernel
theorem dX10_bestAt_23 : decode cX10_bestAt 23 = .ok (.iconst 0, 1) := by decide +kernel
theorem dX10_bestAt_24 : decode cX10_bestAt 24 = .ok (.ireturn, 1) := by decide +kernel
theorem dX10_bestAt_25 : decode cX10_bestAt 25 = .ok (.iconst (-1), 1) := by decide +kernel
theorem dX10_bestAt_26 : decode cX10_bestAt 26 = .ok (.istore_n 3, 1) := by decide +kernel
theorem dX10_bestAt_27 : decode cX10_bestAt 27 = .ok (.iconst (-1), 1) := by decide +kernel
theorem dX10_bestAt_28 : decode cX10_bestAt 28 = .ok (.istore 4, 2) := by decide +kernel
theorem dX10_bestAt_30 : decode cX10_bestAt 30 = .ok (.iconst 0, 1) := by decide +kernel
theorem dX10_bestAt_31 : decode cX10_bestAt 31 = .ok (.istore 5, 2) := by decide +kernel
theorem dX10_bestAt_33 : decode cX10_bestAt 33 = .ok (.iload 5, 2) := by decide +kernel
theorem dX10_bestAt_35 : decode cX10_bestAt 35 = .ok (.aload_n 0, 1) := by decide +kernel
theorem dX10_bestAt_36 : decode cX10_bestAt 36 = .ok (.getfield 288, 3) := by decide +kernel
theorem dX10_bestAt_39 : decode cX10_bestAt 39 = .ok (.if_icmp .ge 74, 3) := by decide +kernel
theorem dX10_bestAt_42 : decode cX10_bestAt 42 = .ok (.iload 5, 2) := by decide +kernel
theorem dX10_bestAt_44 : decode cX10_bestAt 44 = .ok (.iload_n 1, 1) := by decide +kernel
theorem dX10_bestAt_45 : decode cX10_bestAt 45 = .ok (.if_icmp .ne 6, 3) := by decide +kernel
theorem dX10_bestAt_48 : decode cX10_bestAt 48 = .ok (.goto 59, 3) := by decide +kernel
theorem dX10_bestAt_51 : decode cX10_bestAt 51 = .ok (.aload_n 0, 1) := by decide +kernel
theorem dX10_bestAt_52 : decode cX10_bestAt 52 = .ok (.invokevirtual 412, 3) := by decide +kernel
theorem dX10_bestAt_55 : decode cX10_bestAt 55 = .ok (.aload_n 0, 1) := by decide +kernel
theorem dX10_bestAt_56 : decode cX10_bestAt 56 = .ok (.getfield 72, 3) := by decide +kernel
theorem dX10_bestAt_59 : decode cX10_bestAt 59 = .ok (.sipush 152, 3) := by decide +kernel
theorem dX10_bestAt_62 : decode cX10_bestAt 62 = .ok (.iload_n 1, 1) := by decide +kernel
theorem dX10_bestAt_63 : decode cX10_bestAt 63 = .ok (.iadd, 1) := by decide +kernel
theorem dX10_bestAt_64 : decode cX10_bestAt 64 = .ok (.iload 5, 2) := by decide +kernel
theorem dX10_bestAt_66 : decode cX10_bestAt 66 = .ok (.iastore, 1) := by decide +kernel
theorem dX10_bestAt_67 : decode cX10_bestAt 67 = .ok (.aload_n 0, 1) := by decide +kernel
theorem dX10_bestAt_68 : decode cX10_bestAt 68 = .ok (.iload_n 2, 1) := by decide +kernel
theorem dX10_bestAt_69 : decode cX10_bestAt 69 = .ok (.invokevirtual 415, 3) := by decide +kernel
theorem dX10_bestAt_72 : decode cX10_bestAt 72 = .ok (.aload_n 0, 1) := by decide +kernel
theorem dX10_bestAt_73 : decode cX10_bestAt 73 = .ok (.getfield 72, 3) := by decide +kernel
theorem dX10_bestAt_76 : decode cX10_bestAt 76 = .ok (.sipush 144, 3) := by decide +kernel
theorem dX10_bestAt_79 : decode cX10_bestAt 79 = .ok (.iload 5, 2) := by decide +kernel
theorem dX10_bestAt_81 : decode cX10_bestAt 81 = .ok (.iadd, 1) := by decide +kernel
theorem dX10_bestAt_82 : decode cX10_bestAt 82 = .ok (.iaload, 1) := by decide +kernel
theorem dX10_bestAt_83 : decode cX10_bestAt 83 = .ok (.iload 4, 2) := by decide +kernel
theorem dX10_bestAt_85 : decode cX10_bestAt 85 = .ok (.if_icmp .gt 6, 3) := by decide +kernel
theorem dX10_bestAt_88 : decode cX10_bestAt 88 = .ok (.goto 19, 3) := by decide +kernel
theorem dX10_bestAt_91 : decode cX10_bestAt 91 = .ok (.iload 5, 2) := by decide +kernel
theorem dX10_bestAt_93 : decode cX10_bestAt 93 = .ok (.istore_n 3, 1) := by decide +kernel
theorem dX10_bestAt_94 : decode cX10_bestAt 94 = .ok (.aload_n 0, 1) := by decide +kernel
theorem dX10_bestAt_95 : decode cX10_bestAt 95 = .ok (.getfield 72, 3) := by decide +kernel
theorem dX10_bestAt_98 : decode cX10_bestAt 98 = .ok (.sipush 144, 3) := by decide +kernel
theorem dX10_bestAt_101 : decode cX10_bestAt 101 = .ok (.iload 5, 2) := by decide +kernel
theorem dX10_bestAt_103 : decode cX10_bestAt 103 = .ok (.iadd, 1) := by decide +kernel
theorem dX10_bestAt_104 : decode cX10_bestAt 104 = .ok (.iaload, 1) := by decide +kernel
theorem dX10_bestAt_105 : decode cX10_bestAt 105 = .ok (.istore 4, 2) := by decide +kernel
theorem dX10_bestAt_107 : decode cX10_bestAt 107 = .ok (.iinc 5 1, 3) := by decide +kernel
theorem dX10_bestAt_110 : decode cX10_bestAt 110 = .ok (.goto (-77), 3) := by decide +kernel
theorem dX10_bestAt_113 : decode cX10_bestAt 113 = .ok (.iload_n 3, 1) := by decide +kernel
theorem dX10_bestAt_114 : decode cX10_bestAt 114 = .ok (.ireturn, 1) := by decide +kernel
theorem dX10_toCover_0 : decode cX10_toCover 0 = .ok (.aload_n 0, 1) := by decide +kernel
theorem dX10_toCover_1 : decode cX10_toCover 1 = .ok (.iconst 0, 1) := by decide +kernel
theorem dX10_toCover_2 : decode cX10_toCover 2 = .ok (.putfield 111, 3) := by decide +kernel
theorem dX10_toCover_5 : decode cX10_toCover 5 = .ok (.aload_n 0, 1) := by decide +kernel
theorem dX10_toCover_6 : decode cX10_toCover 6 = .ok (.iload_n 1, 1) := by decide +kernel
theorem dX10_toCover_7 : decode cX10_toCover 7 = .ok (.iconst 0, 1) := by decide +kernel
theorem dX10_toCover_8 : decode cX10_toCover 8 = .ok (.bipush 30, 2) := by decide +kernel
theorem dX10_toCover_10 : decode cX10_toCover 10 = .ok (.invokestatic 368, 3) := by decide +kernel
theorem dX10_toCover_13 : decode cX10_toCover 13 = .ok (.iconst 1, 1) := by decide +kernel
theorem dX10_toCover_14 : decode cX10_toCover 14 = .ok (.invokevirtual 278, 3) := by decide +kernel
theorem dX10_toCover_17 : decode cX10_toCover 17 = .ok (.ifCond .ne 5, 3) := by decide +kernel
theorem dX10_toCover_20 : decode cX10_toCover 20 = .ok (.iconst 0, 1) := by decide +kernel
theorem dX10_toCover_21 : decode cX10_toCover 21 = .ok (.ireturn, 1) := by decide +kernel
theorem dX10_toCover_22 : decode cX10_toCover 22 = .ok (.iconst (-1), 1) := by decide +kernel
theorem dX10_toCover_23 : decode cX10_toCover 23 = .ok (.istore_n 2, 1) := by decide +kernel
theorem dX10_toCover_24 : decode cX10_toCover 24 = .ok (.iconst 0, 1) := by decide +kernel
theorem dX10_toCover_25 : decode cX10_toCover 25 = .ok (.istore_n 3, 1) := by decide +kernel
theorem dX10_toCover_26 : decode cX10_toCover 26 = .ok (.iload_n 3, 1) := by decide +kernel
theorem dX10_toCover_27 : decode cX10_toCover 27 = .ok (.iconst 1, 1) := by decide +kernel
theorem dX10_toCover_28 : decode cX10_toCover 28 = .ok (.aload_n 0, 1) := by decide +kernel
theorem dX10_toCover_29 : decode cX10_toCover 29 = .ok (.getfield 285, 3) := by decide +kernel
theorem dX10_toCover_32 : decode cX10_toCover 32 = .ok (.ishl, 1) := by decide +kernel
theorem dX10_toCover_33 : decode cX10_toCover 33 = .ok (.if_icmp .ge 134, 3) := by decide +kernel
theorem dX10_toCover_36 : decode cX10_toCover 36 = .ok (.iconst 1, 1) := by decide +kernel
theorem dX10_toCover_37 : decode cX10_toCover 37 = .ok (.istore 4, 2) := by decide +kernel
theorem dX10_toCover_39 : decode cX10_toCover 39 = .ok (.iconst 0, 1) := by decide +kernel
theorem dX10_toCover_40 : decode cX10_toCover 40 = .ok (.istore 5, 2) := by decide +kernel
theorem dX10_toCover_42 : decode cX10_toCover 42 = .ok (.iload 5, 2) := by decide +kernel
theorem dX10_toCover_44 : decode cX10_toCover 44 = .ok (.aload_n 0, 1) := by decide +kernel
theorem dX10_toCover_45 : decode cX10_toCover 45 = .ok (.getfield 288, 3) := by decide +kernel
theorem dX10_toCover_48 : decode cX10_toCover 48 = .ok (.if_icmp .ge 90, 3) := by decide +kernel
theorem dX10_toCover_51 : decode cX10_toCover 51 = .ok (.iconst 0, 1) := by decide +kernel
theorem dX10_toCover_52 : decode cX10_toCover 52 = .ok (.istore 6, 2) := by decide +kernel
theorem dX10_toCover_54 : decode cX10_toCover 54 = .ok (.iconst 0, 1) := by decide +kernel
theorem dX10_toCover_55 : decode cX10_toCover 55 = .ok (.istore 7, 2) := by decide +kernel
theorem dX10_toCover_57 : decode cX10_toCover 57 = .ok (.iload 7, 2) := by decide +kernel
theorem dX10_toCover_59 : decode cX10_toCover 59 = .ok (.aload_n 0, 1) := by decide +kernel
theorem dX10_toCover_60 : decode cX10_toCover 60 = .ok (.getfield 285, 3) := by decide +kernel
theorem dX10_toCover_63 : decode cX10_toCover 63 = .ok (.if_icmp .ge 52, 3) := by decide +kernel
theorem dX10_toCover_66 : decode cX10_toCover 66 = .ok (.iload 6, 2) := by decide +kernel
theorem dX10_toCover_68 : decode cX10_toCover 68 = .ok (.ifCond .ne 34, 3) := by decide +kernel
theorem dX10_toCover_71 : decode cX10_toCover 71 = .ok (.iload_n 3, 1) := by decide +kernel
theorem dX10_toCover_72 : decode cX10_toCover 72 = .ok (.iload 7, 2) := by decide +kernel
theorem dX10_toCover_74 : decode cX10_toCover 74 = .ok (.ishr, 1) := by decide +kernel
theorem dX10_toCover_75 : decode cX10_toCover 75 = .ok (.iconst 1, 1) := by decide +kernel
theorem dX10_toCover_76 : decode cX10_toCover 76 = .ok (.iand, 1) := by decide +kernel
theorem dX10_toCover_77 : decode cX10_toCover 77 = .ok (.iconst 1, 1) := by decide +kernel
theorem dX10_toCover_78 : decode cX10_toCover 78 = .ok (.if_icmp .ne 28, 3) := by decide +kernel
theorem dX10_toCover_81 : decode cX10_toCover 81 = .ok (.aload_n 0, 1) := by decide +kernel
theorem dX10_toCover_82 : decode cX10_toCover 82 = .ok (.getfield 16, 3) := by decide +kernel
theorem dX10_toCover_85 : decode cX10_toCover 85 = .ok (.iload 7, 2) := by decide +kernel
theorem dX10_toCover_87 : decode cX10_toCover 87 = .ok (.iaload, 1) := by decide +kernel
theorem dX10_toCover_88 : decode cX10_toCover 88 = .ok (.aload_n 0, 1) := by decide +kernel
theorem dX10_toCover_89 : decode cX10_toCover 89 = .ok (.getfield 20, 3) := by decide +kernel
theorem dX10_toCover_92 : decode cX10_toCover 92 = .ok (.iload 5, 2) := by decide +kernel
theorem dX10_toCover_94 : decode cX10_toCover 94 = .ok (.iaload, 1) := by decide +kernel
theorem dX10_toCover_95 : decode cX10_toCover 95 = .ok (.invokestatic 318, 3) := by decide +kernel
theorem dX10_toCover_98 : decode cX10_toCover 98 = .ok (.iload_n 1, 1) := by decide +kernel
theorem dX10_toCover_99 : decode cX10_toCover 99 = .ok (.if_icmp .gt 7, 3) := by decide +kernel
theorem dX10_toCover_102 : decode cX10_toCover 102 = .ok (.iconst 1, 1) := by decide +kernel
theorem dX10_toCover_103 : decode cX10_toCover 103 = .ok (.goto 4, 3) := by decide +kernel
theorem dX10_toCover_106 : decode cX10_toCover 106 = .ok (.iconst 0, 1) := by decide +kernel
theorem dX10_toCover_107 : decode cX10_toCover 107 = .ok (.istore 6, 2) := by decide +kernel
theorem dX10_toCover_109 : decode cX10_toCover 109 = .ok (.iinc 7 1, 3) := by decide +kernel
theorem dX10_toCover_112 : decode cX10_toCover 112 = .ok (.goto (-55), 3) := by decide +kernel
theorem dX10_toCover_115 : decode cX10_toCover 115 = .ok (.iload 4, 2) := by decide +kernel
theorem dX10_toCover_117 : decode cX10_toCover 117 = .ok (.ifCond .eq 12, 3) := by decide +kernel
theorem dX10_toCover_120 : decode cX10_toCover 120 = .ok (.iload 6, 2) := by decide +kernel
theorem dX10_toCover_122 : decode cX10_toCover 122 = .ok (.ifCond .eq 7, 3) := by decide +kernel
theorem dX10_toCover_125 : decode cX10_toCover 125 = .ok (.iconst 1, 1) := by decide +kernel
theorem dX10_toCover_126 : decode cX10_toCover 126 = .ok (.goto 4, 3) := by decide +kernel
theorem dX10_toCover_129 : decode cX10_toCover 129 = .ok (.iconst 0, 1) := by decide +kernel
theorem dX10_toCover_130 : decode cX10_toCover 130 = .ok (.istore 4, 2) := by decide +kernel
theorem dX10_toCover_132 : decode cX10_toCover 132 = .ok (.iinc 5 1, 3) := by decide +kernel
theorem dX10_toCover_135 : decode cX10_toCover 135 = .ok (.goto (-93), 3) := by decide +kernel
theorem dX10_toCover_138 : decode cX10_toCover 138 = .ok (.iload 4, 2) := by decide +kernel
theorem dX10_toCover_140 : decode cX10_toCover 140 = .ok (.ifCond .eq 21, 3) := by decide +kernel
theorem dX10_toCover_143 : decode cX10_toCover 143 = .ok (.iload_n 2, 1) := by decide +kernel
theorem dX10_toCover_144 : decode cX10_toCover 144 = .ok (.iconst (-1), 1) := by decide +kernel
theorem dX10_toCover_145 : decode cX10_toCover 145 = .ok (.if_icmp .eq 14, 3) := by decide +kernel
theorem dX10_toCover_148 : decode cX10_toCover 148 = .ok (.iload_n 3, 1) := by decide +kernel
theorem dX10_toCover_149 : decode cX10_toCover 149 = .ok (.invokestatic 436, 3) := by decide +kernel
theorem dX10_toCover_152 : decode cX10_toCover 152 = .ok (.iload_n 2, 1) := by decide +kernel
theorem dX10_toCover_153 : decode cX10_toCover 153 = .ok (.invokestatic 436, 3) := by decide +kernel
theorem dX10_toCover_156 : decode cX10_toCover 156 = .ok (.if_icmp .ge 5, 3) := by decide +kernel
theorem dX10_toCover_159 : decode cX10_toCover 159 = .ok (.iload_n 3, 1) := by decide +kernel
theorem dX10_toCover_160 : decode cX10_toCover 160 = .ok (.istore_n 2, 1) := by decide +kernel
theorem dX10_toCover_161 : decode cX10_toCover 161 = .ok (.iinc 3 1, 3) := by decide +kernel
theorem dX10_toCover_164 : decode cX10_toCover 164 = .ok (.goto (-138), 3) := by decide +kernel
theorem dX10_toCover_167 : decode cX10_toCover 167 = .ok (.iload_n 2, 1) := by decide +kernel
theorem dX10_toCover_168 : decode cX10_toCover 168 = .ok (.ireturn, 1) := by decide +kernel
theorem dX10_waysTo_0 : decode cX10_waysTo 0 = .ok (.iconst 0, 1) := by decide +kernel
theorem dX10_waysTo_1 : decode cX10_waysTo 1 = .ok (.istore_n 3, 1) := by decide +kernel
theorem dX10_waysTo_2 : decode cX10_waysTo 2 = .ok (.iconst 0, 1) := by decide +kernel
theorem dX10_waysTo_3 : decode cX10_waysTo 3 = .ok (.istore 4, 2) := by decide +kernel
theorem dX10_waysTo_5 : decode cX10_waysTo 5 = .ok (.iload 4, 2) := by decide +kernel
theorem dX10_waysTo_7 : decode cX10_waysTo 7 = .ok (.aload_n 0, 1) := by decide +kernel
theorem dX10_waysTo_8 : decode cX10_waysTo 8 = .ok (.getfield 288, 3) := by decide +kernel
theorem dX10_waysTo_11 : decode cX10_waysTo 11 = .ok (.if_icmp .ge 67, 3) := by decide +kernel
theorem dX10_waysTo_14 : decode cX10_waysTo 14 = .ok (.iload_n 1, 1) := by decide +kernel
theorem dX10_waysTo_15 : decode cX10_waysTo 15 = .ok (.aload_n 0, 1) := by decide +kernel
theorem dX10_waysTo_16 : decode cX10_waysTo 16 = .ok (.getfield 20, 3) := by decide +kernel
theorem dX10_waysTo_19 : decode cX10_waysTo 19 = .ok (.iload 4, 2) := by decide +kernel
theorem dX10_waysTo_21 : decode cX10_waysTo 21 = .ok (.iaload, 1) := by decide +kernel
theorem dX10_waysTo_22 : decode cX10_waysTo 22 = .ok (.invokestatic 318, 3) := by decide +kernel
theorem dX10_waysTo_25 : decode cX10_waysTo 25 = .ok (.istore 5, 2) := by decide +kernel
theorem dX10_waysTo_27 : decode cX10_waysTo 27 = .ok (.iload_n 3, 1) := by decide +kernel
theorem dX10_waysTo_28 : decode cX10_waysTo 28 = .ok (.iload_n 2, 1) := by decide +kernel
theorem dX10_waysTo_29 : decode cX10_waysTo 29 = .ok (.ifCond .eq 39, 3) := by decide +kernel
theorem dX10_waysTo_32 : decode cX10_waysTo 32 = .ok (.aload_n 0, 1) := by decide +kernel
theorem dX10_waysTo_33 : decode cX10_waysTo 33 = .ok (.getfield 285, 3) := by decide +kernel
theorem dX10_waysTo_36 : decode cX10_waysTo 36 = .ok (.ifCond .le 32, 3) := by decide +kernel
theorem dX10_waysTo_39 : decode cX10_waysTo 39 = .ok (.iload 5, 2) := by decide +kernel
theorem dX10_waysTo_41 : decode cX10_waysTo 41 = .ok (.aload_n 0, 1) := by decide +kernel
theorem dX10_waysTo_42 : decode cX10_waysTo 42 = .ok (.getfield 16, 3) := by decide +kernel
theorem dX10_waysTo_45 : decode cX10_waysTo 45 = .ok (.aload_n 0, 1) := by decide +kernel
theorem dX10_waysTo_46 : decode cX10_waysTo 46 = .ok (.iload 4, 2) := by decide +kernel
theorem dX10_waysTo_48 : decode cX10_waysTo 48 = .ok (.invokevirtual 336, 3) := by decide +kernel
theorem dX10_waysTo_51 : decode cX10_waysTo 51 = .ok (.iaload, 1) := by decide +kernel
theorem dX10_waysTo_52 : decode cX10_waysTo 52 = .ok (.aload_n 0, 1) := by decide +kernel
theorem dX10_waysTo_53 : decode cX10_waysTo 53 = .ok (.getfield 20, 3) := by decide +kernel
theorem dX10_waysTo_56 : decode cX10_waysTo 56 = .ok (.iload 4, 2) := by decide +kernel
theorem dX10_waysTo_58 : decode cX10_waysTo 58 = .ok (.iaload, 1) := by decide +kernel
theorem dX10_waysTo_59 : decode cX10_waysTo 59 = .ok (.invokestatic 318, 3) := by decide +kernel
theorem dX10_waysTo_62 : decode cX10_waysTo 62 = .ok (.invokestatic 333, 3) := by decide +kernel
theorem dX10_waysTo_65 : decode cX10_waysTo 65 = .ok (.goto 5, 3) := by decide +kernel
theorem dX10_waysTo_68 : decode cX10_waysTo 68 = .ok (.iload 5, 2) := by decide +kernel
theorem dX10_waysTo_70 : decode cX10_waysTo 70 = .ok (.iadd, 1) := by decide +kernel
theorem dX10_waysTo_71 : decode cX10_waysTo 71 = .ok (.istore_n 3, 1) := by decide +kernel
theorem dX10_waysTo_72 : decode cX10_waysTo 72 = .ok (.iinc 4 1, 3) := by decide +kernel
theorem dX10_waysTo_75 : decode cX10_waysTo 75 = .ok (.goto (-70), 3) := by decide +kernel
theorem dX10_waysTo_78 : decode cX10_waysTo 78 = .ok (.iload_n 3, 1) := by decide +kernel
theorem dX10_waysTo_79 : decode cX10_waysTo 79 = .ok (.ireturn, 1) := by decide +kernel
theorem dX10_bestPlace_0 : decode cX10_bestPlace 0 = .ok (.iconst 0, 1) := by decide +kernel
theorem dX10_bestPlace_1 : decode cX10_bestPlace 1 = .ok (.istore_n 2, 1) := by decide +kernel
theorem dX10_bestPlace_2 : decode cX10_bestPlace 2 = .ok (.iconst 1, 1) := by decide +kernel
theorem dX10_bestPlace_3 : decode cX10_bestPlace 3 = .ok (.istore_n 3, 1) := by decide +kernel
theorem dX10_bestPlace_4 : decode cX10_bestPlace 4 = .ok (.iload_n 3, 1) := by decide +kernel
theorem dX10_bestPlace_5 : decode cX10_bestPlace 5 = .ok (.bipush 30, 2) := by decide +kernel
theorem dX10_bestPlace_7 : decode cX10_bestPlace 7 = .ok (.if_icmp .gt 26, 3) := by decide +kernel
theorem dX10_bestPlace_10 : decode cX10_bestPlace 10 = .ok (.aload_n 0, 1) := by decide +kernel
theorem dX10_bestPlace_11 : decode cX10_bestPlace 11 = .ok (.iload_n 3, 1) := by decide +kernel
theorem dX10_bestPlace_12 : decode cX10_bestPlace 12 = .ok (.iload_n 1, 1) := by decide +kernel
theorem dX10_bestPlace_13 : decode cX10_bestPlace 13 = .ok (.invokevirtual 439, 3) := by decide +kernel
theorem dX10_bestPlace_16 : decode cX10_bestPlace 16 = .ok (.aload_n 0, 1) := by decide +kernel
theorem dX10_bestPlace_17 : decode cX10_bestPlace 17 = .ok (.iload_n 2, 1) := by decide +kernel
theorem dX10_bestPlace_18 : decode cX10_bestPlace 18 = .ok (.iload_n 1, 1) := by decide +kernel
theorem dX10_bestPlace_19 : decode cX10_bestPlace 19 = .ok (.invokevirtual 439, 3) := by decide +kernel
theorem dX10_bestPlace_22 : decode cX10_bestPlace 22 = .ok (.if_icmp .ge 5, 3) := by decide +kernel
theorem dX10_bestPlace_25 : decode cX10_bestPlace 25 = .ok (.iload_n 3, 1) := by decide +kernel
theorem dX10_bestPlace_26 : decode cX10_bestPlace 26 = .ok (.istore_n 2, 1) := by decide +kernel
theorem dX10_bestPlace_27 : decode cX10_bestPlace 27 = .ok (.iinc 3 1, 3) := by decide +kernel
theorem dX10_bestPlace_30 : decode cX10_bestPlace 30 = .ok (.goto (-26), 3) := by decide +kernel
theorem dX10_bestPlace_33 : decode cX10_bestPlace 33 = .ok (.iload_n 2, 1) := by decide +kernel
theorem dX10_bestPlace_34 : decode cX10_bestPlace 34 = .ok (.ireturn, 1) := by decide +kernel
theorem dX10_oneMore_0 : decode cX10_oneMore 0 = .ok (.aload_n 0, 1) := by decide +kernel
theorem dX10_oneMore_1 : decode cX10_oneMore 1 = .ok (.iconst 0, 1) := by decide +kernel
theorem dX10_oneMore_2 : decode cX10_oneMore 2 = .ok (.putfield 111, 3) := by decide +kernel
theorem dX10_oneMore_5 : decode cX10_oneMore 5 = .ok (.aload_n 0, 1) := by decide +kernel
theorem dX10_oneMore_6 : decode cX10_oneMore 6 = .ok (.iload_n 1, 1) := by decide +kernel
theorem dX10_oneMore_7 : decode cX10_oneMore 7 = .ok (.iconst 1, 1) := by decide +kernel
theorem dX10_oneMore_8 : decode cX10_oneMore 8 = .ok (.invokevirtual 387, 3) := by decide +kernel
theorem dX10_oneMore_11 : decode cX10_oneMore 11 = .ok (.ifCond .ne 5, 3) := by decide +kernel
theorem dX10_oneMore_14 : decode cX10_oneMore 14 = .ok (.iconst 0, 1) := by decide +kernel
theorem dX10_oneMore_15 : decode cX10_oneMore 15 = .ok (.ireturn, 1) := by decide +kernel
theorem dX10_oneMore_16 : decode cX10_oneMore 16 = .ok (.aload_n 0, 1) := by decide +kernel
theorem dX10_oneMore_17 : decode cX10_oneMore 17 = .ok (.iconst 1, 1) := by decide +kernel
theorem dX10_oneMore_18 : decode cX10_oneMore 18 = .ok (.invokevirtual 443, 3) := by decide +kernel
theorem dX10_oneMore_21 : decode cX10_oneMore 21 = .ok (.istore_n 2, 1) := by decide +kernel
theorem dX10_oneMore_22 : decode cX10_oneMore 22 = .ok (.iload_n 1, 1) := by decide +kernel
theorem dX10_oneMore_23 : decode cX10_oneMore 23 = .ok (.ifCond .ne 7, 3) := by decide +kernel
theorem dX10_oneMore_26 : decode cX10_oneMore 26 = .ok (.iload_n 2, 1) := by decide +kernel
theorem dX10_oneMore_27 : decode cX10_oneMore 27 = .ok (.goto 9, 3) := by decide +kernel
theorem dX10_oneMore_30 : decode cX10_oneMore 30 = .ok (.aload_n 0, 1) := by decide +kernel
theorem dX10_oneMore_31 : decode cX10_oneMore 31 = .ok (.iload_n 2, 1) := by decide +kernel
theorem dX10_oneMore_32 : decode cX10_oneMore 32 = .ok (.iconst 1, 1) := by decide +kernel
theorem dX10_oneMore_33 : decode cX10_oneMore 33 = .ok (.invokevirtual 439, 3) := by decide +kernel
theorem dX10_oneMore_36 : decode cX10_oneMore 36 = .ok (.ireturn, 1) := by decide +kernel
theorem dX10_middle_0 : decode cX10_middle 0 = .ok (.aload_n 0, 1) := by decide +kernel
theorem dX10_middle_1 : decode cX10_middle 1 = .ok (.iconst 0, 1) := by decide +kernel
theorem dX10_middle_2 : decode cX10_middle 2 = .ok (.putfield 111, 3) := by decide +kernel
theorem dX10_middle_5 : decode cX10_middle 5 = .ok (.aload_n 0, 1) := by decide +kernel
theorem dX10_middle_6 : decode cX10_middle 6 = .ok (.iconst 0, 1) := by decide +kernel
theorem dX10_middle_7 : decode cX10_middle 7 = .ok (.invokevirtual 443, 3) := by decide +kernel
theorem dX10_middle_10 : decode cX10_middle 10 = .ok (.ireturn, 1) := by decide +kernel
theorem dX10_swaps_0 : decode cX10_swaps 0 = .ok (.aload_n 0, 1) := by decide +kernel
theorem dX10_swaps_1 : decode cX10_swaps 1 = .ok (.getfield 87, 3) := by decide +kernel
theorem dX10_swaps_4 : decode cX10_swaps 4 = .ok (.iload_n 1, 1) := by decide +kernel
theorem dX10_swaps_5 : decode cX10_swaps 5 = .ok (.iaload, 1) := by decide +kernel
theorem dX10_swaps_6 : decode cX10_swaps 6 = .ok (.istore_n 3, 1) := by decide +kernel
theorem dX10_swaps_7 : decode cX10_swaps 7 = .ok (.aload_n 0, 1) := by decide +kernel
theorem dX10_swaps_8 : decode cX10_swaps 8 = .ok (.getfield 87, 3) := by decide +kernel
theorem dX10_swaps_11 : decode cX10_swaps 11 = .ok (.iload_n 1, 1) := by decide +kernel
theorem dX10_swaps_12 : decode cX10_swaps 12 = .ok (.aload_n 0, 1) := by decide +kernel
theorem dX10_swaps_13 : decode cX10_swaps 13 = .ok (.getfield 87, 3) := by decide +kernel
theorem dX10_swaps_16 : decode cX10_swaps 16 = .ok (.iload_n 2, 1) := by decide +kernel
theorem dX10_swaps_17 : decode cX10_swaps 17 = .ok (.iaload, 1) := by decide +kernel
theorem dX10_swaps_18 : decode cX10_swaps 18 = .ok (.iastore, 1) := by decide +kernel
theorem dX10_swaps_19 : decode cX10_swaps 19 = .ok (.aload_n 0, 1) := by decide +kernel
theorem dX10_swaps_20 : decode cX10_swaps 20 = .ok (.getfield 87, 3) := by decide +kernel
theorem dX10_swaps_23 : decode cX10_swaps 23 = .ok (.iload_n 2, 1) := by decide +kernel
theorem dX10_swaps_24 : decode cX10_swaps 24 = .ok (.iload_n 3, 1) := by decide +kernel
theorem dX10_swaps_25 : decode cX10_swaps 25 = .ok (.iastore, 1) := by decide +kernel
theorem dX10_swaps_26 : decode cX10_swaps 26 = .ok (.return_, 1) := by decide +kernel
theorem dX10_nextOrder_0 : decode cX10_nextOrder 0 = .ok (.aload_n 0, 1) := by decide +kernel
theorem dX10_nextOrder_1 : decode cX10_nextOrder 1 = .ok (.getfield 285, 3) := by decide +kernel
theorem dX10_nextOrder_4 : decode cX10_nextOrder 4 = .ok (.iconst 2, 1) := by decide +kernel
theorem dX10_nextOrder_5 : decode cX10_nextOrder 5 = .ok (.isub, 1) := by decide +kernel
theorem dX10_nextOrder_6 : decode cX10_nextOrder 6 = .ok (.istore_n 1, 1) := by decide +kernel
theorem dX10_nextOrder_7 : decode cX10_nextOrder 7 = .ok (.iload_n 1, 1) := by decide +kernel
theorem dX10_nextOrder_8 : decode cX10_nextOrder 8 = .ok (.ifCond .lt 26, 3) := by decide +kernel
theorem dX10_nextOrder_11 : decode cX10_nextOrder 11 = .ok (.aload_n 0, 1) := by decide +kernel
theorem dX10_nextOrder_12 : decode cX10_nextOrder 12 = .ok (.getfield 87, 3) := by decide +kernel
theorem dX10_nextOrder_15 : decode cX10_nextOrder 15 = .ok (.iload_n 1, 1) := by decide +kernel
theorem dX10_nextOrder_16 : decode cX10_nextOrder 16 = .ok (.iaload, 1) := by decide +kernel
theorem dX10_nextOrder_17 : decode cX10_nextOrder 17 = .ok (.aload_n 0, 1) := by decide +kernel
theorem dX10_nextOrder_18 : decode cX10_nextOrder 18 = .ok (.getfield 87, 3) := by decide +kernel
theorem dX10_nextOrder_21 : decode cX10_nextOrder 21 = .ok (.iload_n 1, 1) := by decide +kernel
theorem dX10_nextOrder_22 : decode cX10_nextOrder 22 = .ok (.iconst 1, 1) := by decide +kernel
theorem dX10_nextOrder_23 : decode cX10_nextOrder 23 = .ok (.iadd, 1) := by decide +kernel
theorem dX10_nextOrder_24 : decode cX10_nextOrder 24 = .ok (.iaload, 1) := by decide +kernel
theorem dX10_nextOrder_25 : decode cX10_nextOrder 25 = .ok (.if_icmp .le 9, 3) := by decide +kernel
theorem dX10_nextOrder_28 : decode cX10_nextOrder 28 = .ok (.iinc 1 (-1), 3) := by decide +kernel
theorem dX10_nextOrder_31 : decode cX10_nextOrder 31 = .ok (.goto (-24), 3) := by decide +kernel
theorem dX10_nextOrder_34 : decode cX10_nextOrder 34 = .ok (.iload_n 1, 1) := by decide +kernel
theorem dX10_nextOrder_35 : decode cX10_nextOrder 35 = .ok (.ifCond .ge 5, 3) := by decide +kernel
theorem dX10_nextOrder_38 : decode cX10_nextOrder 38 = .ok (.iconst 0, 1) := by decide +kernel
theorem dX10_nextOrder_39 : decode cX10_nextOrder 39 = .ok (.ireturn, 1) := by decide +kernel
theorem dX10_nextOrder_40 : decode cX10_nextOrder 40 = .ok (.aload_n 0, 1) := by decide +kernel
theorem dX10_nextOrder_41 : decode cX10_nextOrder 41 = .ok (.getfield 285, 3) := by decide +kernel
theorem dX10_nextOrder_44 : decode cX10_nextOrder 44 = .ok (.iconst 1, 1) := by decide +kernel
theorem dX10_nextOrder_45 : decode cX10_nextOrder 45 = .ok (.isub, 1) := by decide +kernel
theorem dX10_nextOrder_46 : decode cX10_nextOrder 46 = .ok (.istore_n 2, 1) := by decide +kernel
theorem dX10_nextOrder_47 : decode cX10_nextOrder 47 = .ok (.aload_n 0, 1) := by decide +kernel
theorem dX10_nextOrder_48 : decode cX10_nextOrder 48 = .ok (.getfield 87, 3) := by decide +kernel
theorem dX10_nextOrder_51 : decode cX10_nextOrder 51 = .ok (.iload_n 2, 1) := by decide +kernel
theorem dX10_nextOrder_52 : decode cX10_nextOrder 52 = .ok (.iaload, 1) := by decide +kernel
theorem dX10_nextOrder_53 : decode cX10_nextOrder 53 = .ok (.aload_n 0, 1) := by decide +kernel
theorem dX10_nextOrder_54 : decode cX10_nextOrder 54 = .ok (.getfield 87, 3) := by decide +kernel
theorem dX10_nextOrder_57 : decode cX10_nextOrder 57 = .ok (.iload_n 1, 1) := by decide +kernel
theorem dX10_nextOrder_58 : decode cX10_nextOrder 58 = .ok (.iaload, 1) := by decide +kernel
theorem dX10_nextOrder_59 : decode cX10_nextOrder 59 = .ok (.if_icmp .ge 9, 3) := by decide +kernel
theorem dX10_nextOrder_62 : decode cX10_nextOrder 62 = .ok (.iinc 2 (-1), 3) := by decide +kernel
theorem dX10_nextOrder_65 : decode cX10_nextOrder 65 = .ok (.goto (-18), 3) := by decide +kernel
theorem dX10_nextOrder_68 : decode cX10_nextOrder 68 = .ok (.aload_n 0, 1) := by decide +kernel
theorem dX10_nextOrder_69 : decode cX10_nextOrder 69 = .ok (.iload_n 1, 1) := by decide +kernel
theorem dX10_nextOrder_70 : decode cX10_nextOrder 70 = .ok (.iload_n 2, 1) := by decide +kernel
theorem dX10_nextOrder_71 : decode cX10_nextOrder 71 = .ok (.invokevirtual 447, 3) := by decide +kernel
theorem dX10_nextOrder_74 : decode cX10_nextOrder 74 = .ok (.aload_n 0, 1) := by decide +kernel
theorem dX10_nextOrder_75 : decode cX10_nextOrder 75 = .ok (.getfield 285, 3) := by decide +kernel
theorem dX10_nextOrder_78 : decode cX10_nextOrder 78 = .ok (.iconst 1, 1) := by decide +kernel
theorem dX10_nextOrder_79 : decode cX10_nextOrder 79 = .ok (.isub, 1) := by decide +kernel
theorem dX10_nextOrder_80 : decode cX10_nextOrder 80 = .ok (.istore_n 2, 1) := by decide +kernel
theorem dX10_nextOrder_81 : decode cX10_nextOrder 81 = .ok (.iload_n 1, 1) := by decide +kernel
theorem dX10_nextOrder_82 : decode cX10_nextOrder 82 = .ok (.iconst 1, 1) := by decide +kernel
theorem dX10_nextOrder_83 : decode cX10_nextOrder 83 = .ok (.iadd, 1) := by decide +kernel
theorem dX10_nextOrder_84 : decode cX10_nextOrder 84 = .ok (.istore_n 3, 1) := by decide +kernel
theorem dX10_nextOrder_85 : decode cX10_nextOrder 85 = .ok (.iload_n 3, 1) := by decide +kernel
theorem dX10_nextOrder_86 : decode cX10_nextOrder 86 = .ok (.iload_n 2, 1) := by decide +kernel
theorem dX10_nextOrder_87 : decode cX10_nextOrder 87 = .ok (.if_icmp .ge 18, 3) := by decide +kernel
theorem dX10_nextOrder_90 : decode cX10_nextOrder 90 = .ok (.aload_n 0, 1) := by decide +kernel
theorem dX10_nextOrder_91 : decode cX10_nextOrder 91 = .ok (.iload_n 3, 1) := by decide +kernel
theorem dX10_nextOrder_92 : decode cX10_nextOrder 92 = .ok (.iload_n 2, 1) := by decide +kernel
theorem dX10_nextOrder_93 : decode cX10_nextOrder 93 = .ok (.invokevirtual 447, 3) := by decide +kernel
theorem dX10_nextOrder_96 : decode cX10_nextOrder 96 = .ok (.iinc 2 (-1), 3) := by decide +kernel
theorem dX10_nextOrder_99 : decode cX10_nextOrder 99 = .ok (.iinc 3 1, 3) := by decide +kernel
theorem dX10_nextOrder_102 : decode cX10_nextOrder 102 = .ok (.goto (-17), 3) := by decide +kernel
theorem dX10_nextOrder_105 : decode cX10_nextOrder 105 = .ok (.iconst 1, 1) := by decide +kernel
theorem dX10_nextOrder_106 : decode cX10_nextOrder 106 = .ok (.ireturn, 1) := by decide +kernel
theorem dX10_order_0 : decode cX10_order 0 = .ok (.aload_n 0, 1) := by decide +kernel
theorem dX10_order_1 : decode cX10_order 1 = .ok (.iconst 0, 1) := by decide +kernel
theorem dX10_order_2 : decode cX10_order 2 = .ok (.putfield 111, 3) := by decide +kernel
theorem dX10_order_5 : decode cX10_order 5 = .ok (.aload_n 0, 1) := by decide +kernel
theorem dX10_order_6 : decode cX10_order 6 = .ok (.iload_n 1, 1) := by decide +kernel
theorem dX10_order_7 : decode cX10_order 7 = .ok (.iconst (-1), 1) := by decide +kernel
theorem dX10_order_8 : decode cX10_order 8 = .ok (.if_icmp .lt 15, 3) := by decide +kernel
theorem dX10_order_11 : decode cX10_order 11 = .ok (.iload_n 1, 1) := by decide +kernel
theorem dX10_order_12 : decode cX10_order 12 = .ok (.aload_n 0, 1) := by decide +kernel
theorem dX10_order_13 : decode cX10_order 13 = .ok (.getfield 285, 3) := by decide +kernel
theorem dX10_order_16 : decode cX10_order 16 = .ok (.if_icmp .ge 7, 3) := by decide +kernel
theorem dX10_order_19 : decode cX10_order 19 = .ok (.iconst 1, 1) := by decide +kernel
theorem dX10_order_20 : decode cX10_order 20 = .ok (.goto 4, 3) := by decide +kernel
theorem dX10_order_23 : decode cX10_order 23 = .ok (.iconst 0, 1) := by decide +kernel
theorem dX10_order_24 : decode cX10_order 24 = .ok (.iconst 1, 1) := by decide +kernel
theorem dX10_order_25 : decode cX10_order 25 = .ok (.invokevirtual 278, 3) := by decide +kernel
theorem dX10_order_28 : decode cX10_order 28 = .ok (.ifCond .ne 5, 3) := by decide +kernel
theorem dX10_order_31 : decode cX10_order 31 = .ok (.iconst 0, 1) := by decide +kernel
theorem dX10_order_32 : decode cX10_order 32 = .ok (.ireturn, 1) := by decide +kernel
theorem dX10_order_33 : decode cX10_order 33 = .ok (.aload_n 0, 1) := by decide +kernel
theorem dX10_order_34 : decode cX10_order 34 = .ok (.getfield 285, 3) := by decide +kernel
theorem dX10_order_37 : decode cX10_order 37 = .ok (.ifCond .ne 5, 3) := by decide +kernel
theorem dX10_order_40 : decode cX10_order 40 = .ok (.iconst (-1), 1) := by decide +kernel
theorem dX10_order_41 : decode cX10_order 41 = .ok (.ireturn, 1) := by decide +kernel
theorem dX10_order_42 : decode cX10_order 42 = .ok (.iconst 0, 1) := by decide +kernel
theorem dX10_order_43 : decode cX10_order 43 = .ok (.istore_n 2, 1) := by decide +kernel
theorem dX10_order_44 : decode cX10_order 44 = .ok (.iload_n 2, 1) := by decide +kernel
theorem dX10_order_45 : decode cX10_order 45 = .ok (.aload_n 0, 1) := by decide +kernel
theorem dX10_order_46 : decode cX10_order 46 = .ok (.getfield 285, 3) := by decide +kernel
theorem dX10_order_49 : decode cX10_order 49 = .ok (.if_icmp .ge 16, 3) := by decide +kernel
theorem dX10_order_52 : decode cX10_order 52 = .ok (.aload_n 0, 1) := by decide +kernel
theorem dX10_order_53 : decode cX10_order 53 = .ok (.getfield 87, 3) := by decide +kernel
theorem dX10_order_56 : decode cX10_order 56 = .ok (.iload_n 2, 1) := by decide +kernel
theorem dX10_order_57 : decode cX10_order 57 = .ok (.iload_n 2, 1) := by decide +kernel
theorem dX10_order_58 : decode cX10_order 58 = .ok (.iastore, 1) := by decide +kernel
theorem dX10_order_59 : decode cX10_order 59 = .ok (.iinc 2 1, 3) := by decide +kernel
theorem dX10_order_62 : decode cX10_order 62 = .ok (.goto (-18), 3) := by decide +kernel
theorem dX10_order_65 : decode cX10_order 65 = .ok (.iconst (-1), 1) := by decide +kernel
theorem dX10_order_66 : decode cX10_order 66 = .ok (.istore_n 2, 1) := by decide +kernel
theorem dX10_order_67 : decode cX10_order 67 = .ok (.iconst 1, 1) := by decide +kernel
theorem dX10_order_68 : decode cX10_order 68 = .ok (.istore_n 3, 1) := by decide +kernel
theorem dX10_order_69 : decode cX10_order 69 = .ok (.aload_n 0, 1) := by decide +kernel
theorem dX10_order_70 : decode cX10_order 70 = .ok (.iconst 1, 1) := by decide +kernel
theorem dX10_order_71 : decode cX10_order 71 = .ok (.putfield 315, 3) := by decide +kernel
theorem dX10_order_74 : decode cX10_order 74 = .ok (.iload_n 3, 1) := by decide +kernel
theorem dX10_order_75 : decode cX10_order 75 = .ok (.ifCond .eq 58, 3) := by decide +kernel
theorem dX10_order_78 : decode cX10_order 78 = .ok (.aload_n 0, 1) := by decide +kernel
theorem dX10_order_79 : decode cX10_order 79 = .ok (.aload_n 0, 1) := by decide +kernel
theorem dX10_order_80 : decode cX10_order 80 = .ok (.getfield 285, 3) := by decide +kernel
theorem dX10_order_83 : decode cX10_order 83 = .ok (.invokevirtual 421, 3) := by decide +kernel
theorem dX10_order_86 : decode cX10_order 86 = .ok (.aload_n 0, 1) := by decide +kernel
theorem dX10_order_87 : decode cX10_order 87 = .ok (.bipush 80, 2) := by decide +kernel
theorem dX10_order_89 : decode cX10_order 89 = .ok (.bipush 64, 2) := by decide +kernel
theorem dX10_order_91 : decode cX10_order 91 = .ok (.invokevirtual 375, 3) := by decide +kernel
theorem dX10_order_94 : decode cX10_order 94 = .ok (.aload_n 0, 1) := by decide +kernel
theorem dX10_order_95 : decode cX10_order 95 = .ok (.iconst 0, 1) := by decide +kernel
theorem dX10_order_96 : decode cX10_order 96 = .ok (.bipush 64, 2) := by decide +kernel
theorem dX10_order_98 : decode cX10_order 98 = .ok (.invokevirtual 375, 3) := by decide +kernel
theorem dX10_order_101 : decode cX10_order 101 = .ok (.isub, 1) := by decide +kernel
theorem dX10_order_102 : decode cX10_order 102 = .ok (.istore 4, 2) := by decide +kernel
theorem dX10_order_104 : decode cX10_order 104 = .ok (.iload 4, 2) := by decide +kernel
theorem dX10_order_106 : decode cX10_order 106 = .ok (.iload_n 2, 1) := by decide +kernel
theorem dX10_order_107 : decode cX10_order 107 = .ok (.if_icmp .le 18, 3) := by decide +kernel
theorem dX10_order_110 : decode cX10_order 110 = .ok (.iload 4, 2) := by decide +kernel
theorem dX10_order_112 : decode cX10_order 112 = .ok (.istore_n 2, 1) := by decide +kernel
theorem dX10_order_113 : decode cX10_order 113 = .ok (.aload_n 0, 1) := by decide +kernel
theorem dX10_order_114 : decode cX10_order 114 = .ok (.aload_n 0, 1) := by decide +kernel
theorem dX10_order_115 : decode cX10_order 115 = .ok (.getfield 87, 3) := by decide +kernel
theorem dX10_order_118 : decode cX10_order 118 = .ok (.aload_n 0, 1) := by decide +kernel
theorem dX10_order_119 : decode cX10_order 119 = .ok (.getfield 90, 3) := by decide +kernel
theorem dX10_order_122 : decode cX10_order 122 = .ok (.invokevirtual 297, 3) := by decide +kernel
theorem dX10_order_125 : decode cX10_order 125 = .ok (.aload_n 0, 1) := by decide +kernel
theorem dX10_order_126 : decode cX10_order 126 = .ok (.invokevirtual 450, 3) := by decide +kernel
theorem dX10_order_129 : decode cX10_order 129 = .ok (.istore_n 3, 1) := by decide +kernel
theorem dX10_order_130 : decode cX10_order 130 = .ok (.goto (-56), 3) := by decide +kernel
theorem dX10_order_133 : decode cX10_order 133 = .ok (.aload_n 0, 1) := by decide +kernel
theorem dX10_order_134 : decode cX10_order 134 = .ok (.iconst 0, 1) := by decide +kernel
theorem dX10_order_135 : decode cX10_order 135 = .ok (.putfield 315, 3) := by decide +kernel
theorem dX10_order_138 : decode cX10_order 138 = .ok (.iload_n 1, 1) := by decide +kernel
theorem dX10_order_139 : decode cX10_order 139 = .ok (.iconst (-1), 1) := by decide +kernel
theorem dX10_order_140 : decode cX10_order 140 = .ok (.if_icmp .ne 7, 3) := by decide +kernel
theorem dX10_order_143 : decode cX10_order 143 = .ok (.iload_n 2, 1) := by decide +kernel
theorem dX10_order_144 : decode cX10_order 144 = .ok (.goto 9, 3) := by decide +kernel
theorem dX10_order_147 : decode cX10_order 147 = .ok (.aload_n 0, 1) := by decide +kernel
theorem dX10_order_148 : decode cX10_order 148 = .ok (.getfield 90, 3) := by decide +kernel
theorem dX10_order_151 : decode cX10_order 151 = .ok (.iload_n 1, 1) := by decide +kernel
theorem dX10_order_152 : decode cX10_order 152 = .ok (.iaload, 1) := by decide +kernel
theorem dX10_order_153 : decode cX10_order 153 = .ok (.ireturn, 1) := by decide +kernel
theorem dX10_note_0 : decode cX10_note 0 = .ok (.aload_n 0, 1) := by decide +kernel
theorem dX10_note_1 : decode cX10_note 1 = .ok (.iconst 0, 1) := by decide +kernel
theorem dX10_note_2 : decode cX10_note 2 = .ok (.putfield 111, 3) := by decide +kernel
theorem dX10_note_5 : decode cX10_note 5 = .ok (.aload_n 0, 1) := by decide +kernel
theorem dX10_note_6 : decode cX10_note 6 = .ok (.iload_n 1, 1) := by decide +kernel
theorem dX10_note_7 : decode cX10_note 7 = .ok (.invokevirtual 397, 3) := by decide +kernel
theorem dX10_note_10 : decode cX10_note 10 = .ok (.ifCond .ne 5, 3) := by decide +kernel
theorem dX10_note_13 : decode cX10_note 13 = .ok (.iconst 0, 1) := by decide +kernel
theorem dX10_note_14 : decode cX10_note 14 = .ok (.ireturn, 1) := by decide +kernel
theorem dX10_note_15 : decode cX10_note 15 = .ok (.aload_n 0, 1) := by decide +kernel
theorem dX10_note_16 : decode cX10_note 16 = .ok (.getfield 304, 3) := by decide +kernel
theorem dX10_note_19 : decode cX10_note 19 = .ok (.bipush 8, 2) := by decide +kernel
theorem dX10_note_21 : decode cX10_note 21 = .ok (.if_icmp .eq 24, 3) := by decide +kernel
theorem dX10_note_24 : decode cX10_note 24 = .ok (.iload_n 2, 1) := by decide +kernel
theorem dX10_note_25 : decode cX10_note 25 = .ok (.iconst 0, 1) := by decide +kernel
theorem dX10_note_26 : decode cX10_note 26 = .ok (.bipush 20, 2) := by decide +kernel
theorem dX10_note_28 : decode cX10_note 28 = .ok (.invokestatic 368, 3) := by decide +kernel
theorem dX10_note_31 : decode cX10_note 31 = .ok (.ifCond .eq 14, 3) := by decide +kernel
theorem dX10_note_34 : decode cX10_note 34 = .ok (.iload_n 3, 1) := by decide +kernel
theorem dX10_note_35 : decode cX10_note 35 = .ok (.iconst 0, 1) := by decide +kernel
theorem dX10_note_36 : decode cX10_note 36 = .ok (.sipush 9999, 3) := by decide +kernel
theorem dX10_note_39 : decode cX10_note 39 = .ok (.invokestatic 368, 3) := by decide +kernel
theorem dX10_note_42 : decode cX10_note 42 = .ok (.ifCond .ne 9, 3) := by decide +kernel
theorem dX10_note_45 : decode cX10_note 45 = .ok (.aload_n 0, 1) := by decide +kernel
theorem dX10_note_46 : decode cX10_note 46 = .ok (.iconst 2, 1) := by decide +kernel
theorem dX10_note_47 : decode cX10_note 47 = .ok (.invokevirtual 400, 3) := by decide +kernel
theorem dX10_note_50 : decode cX10_note 50 = .ok (.ireturn, 1) := by decide +kernel
theorem dX10_note_51 : decode cX10_note 51 = .ok (.aload_n 0, 1) := by decide +kernel
theorem dX10_note_52 : decode cX10_note 52 = .ok (.getfield 93, 3) := by decide +kernel
theorem dX10_note_55 : decode cX10_note 55 = .ok (.iconst 3, 1) := by decide +kernel
theorem dX10_note_56 : decode cX10_note 56 = .ok (.aload_n 0, 1) := by decide +kernel
theorem dX10_note_57 : decode cX10_note 57 = .ok (.getfield 304, 3) := by decide +kernel
theorem dX10_note_60 : decode cX10_note 60 = .ok (.imul, 1) := by decide +kernel
theorem dX10_note_61 : decode cX10_note 61 = .ok (.iload_n 1, 1) := by decide +kernel
theorem dX10_note_62 : decode cX10_note 62 = .ok (.iastore, 1) := by decide +kernel
theorem dX10_note_63 : decode cX10_note 63 = .ok (.aload_n 0, 1) := by decide +kernel
theorem dX10_note_64 : decode cX10_note 64 = .ok (.getfield 93, 3) := by decide +kernel
theorem dX10_note_67 : decode cX10_note 67 = .ok (.iconst 3, 1) := by decide +kernel
theorem dX10_note_68 : decode cX10_note 68 = .ok (.aload_n 0, 1) := by decide +kernel
theorem dX10_note_69 : decode cX10_note 69 = .ok (.getfield 304, 3) := by decide +kernel
theorem dX10_note_72 : decode cX10_note 72 = .ok (.imul, 1) := by decide +kernel
theorem dX10_note_73 : decode cX10_note 73 = .ok (.iconst 1, 1) := by decide +kernel
theorem dX10_note_74 : decode cX10_note 74 = .ok (.iadd, 1) := by decide +kernel
theorem dX10_note_75 : decode cX10_note 75 = .ok (.iload_n 2, 1) := by decide +kernel
theorem dX10_note_76 : decode cX10_note 76 = .ok (.iastore, 1) := by decide +kernel
theorem dX10_note_77 : decode cX10_note 77 = .ok (.aload_n 0, 1) := by decide +kernel
theorem dX10_note_78 : decode cX10_note 78 = .ok (.getfield 93, 3) := by decide +kernel
theorem dX10_note_81 : decode cX10_note 81 = .ok (.iconst 3, 1) := by decide +kernel
theorem dX10_note_82 : decode cX10_note 82 = .ok (.aload_n 0, 1) := by decide +kernel
theorem dX10_note_83 : decode cX10_note 83 = .ok (.getfield 304, 3) := by decide +kernel
theorem dX10_note_86 : decode cX10_note 86 = .ok (.imul, 1) := by decide +kernel
theorem dX10_note_87 : decode cX10_note 87 = .ok (.iconst 2, 1) := by decide +kernel
theorem dX10_note_88 : decode cX10_note 88 = .ok (.iadd, 1) := by decide +kernel
theorem dX10_note_89 : decode cX10_note 89 = .ok (.iload_n 3, 1) := by decide +kernel
theorem dX10_note_90 : decode cX10_note 90 = .ok (.iastore, 1) := by decide +kernel
theorem dX10_note_91 : decode cX10_note 91 = .ok (.aload_n 0, 1) := by decide +kernel
theorem dX10_note_92 : decode cX10_note 92 = .ok (.dup, 1) := by decide +kernel
theorem dX10_note_93 : decode cX10_note 93 = .ok (.getfield 304, 3) := by decide +kernel
theorem dX10_note_96 : decode cX10_note 96 = .ok (.iconst 1, 1) := by decide +kernel
theorem dX10_note_97 : decode cX10_note 97 = .ok (.iadd, 1) := by decide +kernel
theorem dX10_note_98 : decode cX10_note 98 = .ok (.putfield 304, 3) := by decide +kernel
theorem dX10_note_101 : decode cX10_note 101 = .ok (.aload_n 0, 1) := by decide +kernel
theorem dX10_note_102 : decode cX10_note 102 = .ok (.getfield 304, 3) := by decide +kernel
theorem dX10_note_105 : decode cX10_note 105 = .ok (.ireturn, 1) := by decide +kernel
theorem dX10_forget_0 : decode cX10_forget 0 = .ok (.aload_n 0, 1) := by decide +kernel
theorem dX10_forget_1 : decode cX10_forget 1 = .ok (.iconst 0, 1) := by decide +kernel
theorem dX10_forget_2 : decode cX10_forget 2 = .ok (.putfield 111, 3) := by decide +kernel
theorem dX10_forget_5 : decode cX10_forget 5 = .ok (.aload_n 0, 1) := by decide +kernel
theorem dX10_forget_6 : decode cX10_forget 6 = .ok (.iconst 0, 1) := by decide +kernel
theorem dX10_forget_7 : decode cX10_forget 7 = .ok (.putfield 304, 3) := by decide +kernel
theorem dX10_forget_10 : decode cX10_forget 10 = .ok (.return_, 1) := by decide +kernel
theorem dX10_isNoted_0 : decode cX10_isNoted 0 = .ok (.iconst 0, 1) := by decide +kernel
theorem dX10_isNoted_1 : decode cX10_isNoted 1 = .ok (.istore_n 1, 1) := by decide +kernel
theorem dX10_isNoted_2 : decode cX10_isNoted 2 = .ok (.iload_n 1, 1) := by decide +kernel
theorem dX10_isNoted_3 : decode cX10_isNoted 3 = .ok (.bipush 20, 2) := by decide +kernel
theorem dX10_isNoted_5 : decode cX10_isNoted 5 = .ok (.if_icmp .gt 114, 3) := by decide +kernel
theorem dX10_isNoted_8 : decode cX10_isNoted 8 = .ok (.iconst 0, 1) := by decide +kernel
theorem dX10_isNoted_9 : decode cX10_isNoted 9 = .ok (.istore_n 2, 1) := by decide +kernel
theorem dX10_isNoted_10 : decode cX10_isNoted 10 = .ok (.iload_n 2, 1) := by decide +kernel
theorem dX10_isNoted_11 : decode cX10_isNoted 11 = .ok (.aload_n 0, 1) := by decide +kernel
theorem dX10_isNoted_12 : decode cX10_isNoted 12 = .ok (.getfield 304, 3) := by decide +kernel
theorem dX10_isNoted_15 : decode cX10_isNoted 15 = .ok (.if_icmp .ge 55, 3) := by decide +kernel
theorem dX10_isNoted_18 : decode cX10_isNoted 18 = .ok (.aload_n 0, 1) := by decide +kernel
theorem dX10_isNoted_19 : decode cX10_isNoted 19 = .ok (.getfield 93, 3) := by decide +kernel
theorem dX10_isNoted_22 : decode cX10_isNoted 22 = .ok (.iconst 3, 1) := by decide +kernel
theorem dX10_isNoted_23 : decode cX10_isNoted 23 = .ok (.iload_n 2, 1) := by decide +kernel
theorem dX10_isNoted_24 : decode cX10_isNoted 24 = .ok (.imul, 1) := by decide +kernel
theorem dX10_isNoted_25 : decode cX10_isNoted 25 = .ok (.iconst 1, 1) := by decide +kernel
theorem dX10_isNoted_26 : decode cX10_isNoted 26 = .ok (.iadd, 1) := by decide +kernel
theorem dX10_isNoted_27 : decode cX10_isNoted 27 = .ok (.iaload, 1) := by decide +kernel
theorem dX10_isNoted_28 : decode cX10_isNoted 28 = .ok (.iload_n 1, 1) := by decide +kernel
theorem dX10_isNoted_29 : decode cX10_isNoted 29 = .ok (.if_icmp .ne 35, 3) := by decide +kernel
theorem dX10_isNoted_32 : decode cX10_isNoted 32 = .ok (.aload_n 0, 1) := by decide +kernel
theorem dX10_isNoted_33 : decode cX10_isNoted 33 = .ok (.getfield 72, 3) := by decide +kernel
theorem dX10_isNoted_36 : decode cX10_isNoted 36 = .ok (.sipush 144, 3) := by decide +kernel
theorem dX10_isNoted_39 : decode cX10_isNoted 39 = .ok (.aload_n 0, 1) := by decide +kernel
theorem dX10_isNoted_40 : decode cX10_isNoted 40 = .ok (.getfield 93, 3) := by decide +kernel
theorem dX10_isNoted_43 : decode cX10_isNoted 43 = .ok (.iconst 3, 1) := by decide +kernel
theorem dX10_isNoted_44 : decode cX10_isNoted 44 = .ok (.iload_n 2, 1) := by decide +kernel
theorem dX10_isNoted_45 : decode cX10_isNoted 45 = .ok (.imul, 1) := by decide +kernel
theorem dX10_isNoted_46 : decode cX10_isNoted 46 = .ok (.iaload, 1) := by decide +kernel
theorem dX10_isNoted_47 : decode cX10_isNoted 47 = .ok (.iadd, 1) := by decide +kernel
theorem dX10_isNoted_48 : decode cX10_isNoted 48 = .ok (.iaload, 1) := by decide +kernel
theorem dX10_isNoted_49 : decode cX10_isNoted 49 = .ok (.aload_n 0, 1) := by decide +kernel
theorem dX10_isNoted_50 : decode cX10_isNoted 50 = .ok (.getfield 93, 3) := by decide +kernel
theorem dX10_isNoted_53 : decode cX10_isNoted 53 = .ok (.iconst 3, 1) := by decide +kernel
theorem dX10_isNoted_54 : decode cX10_isNoted 54 = .ok (.iload_n 2, 1) := by decide +kernel
theorem dX10_isNoted_55 : decode cX10_isNoted 55 = .ok (.imul, 1) := by decide +kernel
theorem dX10_isNoted_56 : decode cX10_isNoted 56 = .ok (.iconst 2, 1) := by decide +kernel
theorem dX10_isNoted_57 : decode cX10_isNoted 57 = .ok (.iadd, 1) := by decide +kernel
theorem dX10_isNoted_58 : decode cX10_isNoted 58 = .ok (.iaload, 1) := by decide +kernel
theorem dX10_isNoted_59 : decode cX10_isNoted 59 = .ok (.if_icmp .eq 5, 3) := by decide +kernel
theorem dX10_isNoted_62 : decode cX10_isNoted 62 = .ok (.iconst 0, 1) := by decide +kernel
theorem dX10_isNoted_63 : decode cX10_isNoted 63 = .ok (.ireturn, 1) := by decide +kernel
theorem dX10_isNoted_64 : decode cX10_isNoted 64 = .ok (.iinc 2 1, 3) := by decide +kernel
theorem dX10_isNoted_67 : decode cX10_isNoted 67 = .ok (.goto (-57), 3) := by decide +kernel
theorem dX10_isNoted_70 : decode cX10_isNoted 70 = .ok (.iload_n 1, 1) := by decide +kernel
theorem dX10_isNoted_71 : decode cX10_isNoted 71 = .ok (.iconst 5, 1) := by decide +kernel
theorem dX10_isNoted_72 : decode cX10_isNoted 72 = .ok (.if_icmp .ne 35, 3) := by decide +kernel
theorem dX10_isNoted_75 : decode cX10_isNoted 75 = .ok (.iconst 0, 1) := by decide +kernel
theorem dX10_isNoted_76 : decode cX10_isNoted 76 = .ok (.istore_n 2, 1) := by decide +kernel
theorem dX10_isNoted_77 : decode cX10_isNoted 77 = .ok (.iload_n 2, 1) := by decide +kernel
theorem dX10_isNoted_78 : decode cX10_isNoted 78 = .ok (.aload_n 0, 1) := by decide +kernel
theorem dX10_isNoted_79 : decode cX10_isNoted 79 = .ok (.getfield 288, 3) := by decide +kernel
theorem dX10_isNoted_82 : decode cX10_isNoted 82 = .ok (.if_icmp .ge 25, 3) := by decide +kernel
theorem dX10_isNoted_85 : decode cX10_isNoted 85 = .ok (.aload_n 0, 1) := by decide +kernel
theorem dX10_isNoted_86 : decode cX10_isNoted 86 = .ok (.getfield 96, 3) := by decide +kernel
theorem dX10_isNoted_89 : decode cX10_isNoted 89 = .ok (.iload_n 2, 1) := by decide +kernel
theorem dX10_isNoted_90 : decode cX10_isNoted 90 = .ok (.aload_n 0, 1) := by decide +kernel
theorem dX10_isNoted_91 : decode cX10_isNoted 91 = .ok (.getfield 72, 3) := by decide +kernel
theorem dX10_isNoted_94 : decode cX10_isNoted 94 = .ok (.sipush 144, 3) := by decide +kernel
theorem dX10_isNoted_97 : decode cX10_isNoted 97 = .ok (.iload_n 2, 1) := by decide +kernel
theorem dX10_isNoted_98 : decode cX10_isNoted 98 = .ok (.iadd, 1) := by decide +kernel
theorem dX10_isNoted_99 : decode cX10_isNoted 99 = .ok (.iaload, 1) := by decide +kernel
theorem dX10_isNoted_100 : decode cX10_isNoted 100 = .ok (.iastore, 1) := by decide +kernel
theorem dX10_isNoted_101 : decode cX10_isNoted 101 = .ok (.iinc 2 1, 3) := by decide +kernel
theorem dX10_isNoted_104 : decode cX10_isNoted 104 = .ok (.goto (-27), 3) := by decide +kernel
theorem dX10_isNoted_107 : decode cX10_isNoted 107 = .ok (.aload_n 0, 1) := by decide +kernel
theorem dX10_isNoted_108 : decode cX10_isNoted 108 = .ok (.bipush 80, 2) := by decide +kernel
theorem dX10_isNoted_110 : decode cX10_isNoted 110 = .ok (.invokevirtual 362, 3) := by decide +kernel
theorem dX10_isNoted_113 : decode cX10_isNoted 113 = .ok (.iinc 1 1, 3) := by decide +kernel
theorem dX10_isNoted_116 : decode cX10_isNoted 116 = .ok (.goto (-114), 3) := by decide +kernel
theorem dX10_isNoted_119 : decode cX10_isNoted 119 = .ok (.iconst 1, 1) := by decide +kernel
theorem dX10_isNoted_120 : decode cX10_isNoted 120 = .ok (.ireturn, 1) := by decide +kernel
theorem dX10_isGuess_0 : decode cX10_isGuess 0 = .ok (.iload_n 1, 1) := by decide +kernel
theorem dX10_isGuess_1 : decode cX10_isGuess 1 = .ok (.bipush 8, 2) := by decide +kernel
theorem dX10_isGuess_3 : decode cX10_isGuess 3 = .ok (.idiv, 1) := by decide +kernel
theorem dX10_isGuess_4 : decode cX10_isGuess 4 = .ok (.istore_n 2, 1) := by decide +kernel
theorem dX10_isGuess_5 : decode cX10_isGuess 5 = .ok (.iload_n 1, 1) := by decide +kernel
theorem dX10_isGuess_6 : decode cX10_isGuess 6 = .ok (.bipush 8, 2) := by decide +kernel
theorem dX10_isGuess_8 : decode cX10_isGuess 8 = .ok (.irem, 1) := by decide +kernel
theorem dX10_isGuess_9 : decode cX10_isGuess 9 = .ok (.istore_n 3, 1) := by decide +kernel
theorem dX10_isGuess_10 : decode cX10_isGuess 10 = .ok (.iload_n 3, 1) := by decide +kernel
theorem dX10_isGuess_11 : decode cX10_isGuess 11 = .ok (.aload_n 0, 1) := by decide +kernel
theorem dX10_isGuess_12 : decode cX10_isGuess 12 = .ok (.getfield 288, 3) := by decide +kernel
theorem dX10_isGuess_15 : decode cX10_isGuess 15 = .ok (.if_icmp .ge 21, 3) := by decide +kernel
theorem dX10_isGuess_18 : decode cX10_isGuess 18 = .ok (.iload_n 3, 1) := by decide +kernel
theorem dX10_isGuess_19 : decode cX10_isGuess 19 = .ok (.iload_n 2, 1) := by decide +kernel
theorem dX10_isGuess_20 : decode cX10_isGuess 20 = .ok (.if_icmp .eq 16, 3) := by decide +kernel
theorem dX10_isGuess_23 : decode cX10_isGuess 23 = .ok (.aload_n 0, 1) := by decide +kernel
theorem dX10_isGuess_24 : decode cX10_isGuess 24 = .ok (.getfield 72, 3) := by decide +kernel
theorem dX10_isGuess_27 : decode cX10_isGuess 27 = .ok (.bipush 72, 2) := by decide +kernel
theorem dX10_isGuess_29 : decode cX10_isGuess 29 = .ok (.iload_n 2, 1) := by decide +kernel
theorem dX10_isGuess_30 : decode cX10_isGuess 30 = .ok (.iadd, 1) := by decide +kernel
theorem dX10_isGuess_31 : decode cX10_isGuess 31 = .ok (.iaload, 1) := by decide +kernel
theorem dX10_isGuess_32 : decode cX10_isGuess 32 = .ok (.iload_n 3, 1) := by decide +kernel
theorem dX10_isGuess_33 : decode cX10_isGuess 33 = .ok (.if_icmp .ne 5, 3) := by decide +kernel
theorem dX10_isGuess_36 : decode cX10_isGuess 36 = .ok (.iconst 0, 1) := by decide +kernel
theorem dX10_isGuess_37 : decode cX10_isGuess 37 = .ok (.ireturn, 1) := by decide +kernel
theorem dX10_isGuess_38 : decode cX10_isGuess 38 = .ok (.aload_n 0, 1) := by decide +kernel
theorem dX10_isGuess_39 : decode cX10_isGuess 39 = .ok (.invokevirtual 412, 3) := by decide +kernel
theorem dX10_isGuess_42 : decode cX10_isGuess 42 = .ok (.aload_n 0, 1) := by decide +kernel
theorem dX10_isGuess_43 : decode cX10_isGuess 43 = .ok (.getfield 72, 3) := by decide +kernel
theorem dX10_isGuess_46 : decode cX10_isGuess 46 = .ok (.sipush 152, 3) := by decide +kernel
theorem dX10_isGuess_49 : decode cX10_isGuess 49 = .ok (.iload_n 2, 1) := by decide +kernel
theorem dX10_isGuess_50 : decode cX10_isGuess 50 = .ok (.iadd, 1) := by decide +kernel
theorem dX10_isGuess_51 : decode cX10_isGuess 51 = .ok (.iload_n 3, 1) := by decide +kernel
theorem dX10_isGuess_52 : decode cX10_isGuess 52 = .ok (.iastore, 1) := by decide +kernel
theorem dX10_isGuess_53 : decode cX10_isGuess 53 = .ok (.aload_n 0, 1) := by decide +kernel
theorem dX10_isGuess_54 : decode cX10_isGuess 54 = .ok (.invokevirtual 453, 3) := by decide +kernel
theorem dX10_isGuess_57 : decode cX10_isGuess 57 = .ok (.ireturn, 1) := by decide +kernel
theorem dX10_thought_0 : decode cX10_thought 0 = .ok (.aload_n 0, 1) := by decide +kernel
theorem dX10_thought_1 : decode cX10_thought 1 = .ok (.iconst 0, 1) := by decide +kernel
theorem dX10_thought_2 : decode cX10_thought 2 = .ok (.putfield 111, 3) := by decide +kernel
theorem dX10_thought_5 : decode cX10_thought 5 = .ok (.aload_n 0, 1) := by decide +kernel
theorem dX10_thought_6 : decode cX10_thought 6 = .ok (.iload_n 1, 1) := by decide +kernel
theorem dX10_thought_7 : decode cX10_thought 7 = .ok (.iconst 2, 1) := by decide +kernel
theorem dX10_thought_8 : decode cX10_thought 8 = .ok (.invokevirtual 387, 3) := by decide +kernel
theorem dX10_thought_11 : decode cX10_thought 11 = .ok (.ifCond .ne 5, 3) := by decide +kernel
theorem dX10_thought_14 : decode cX10_thought 14 = .ok (.iconst 0, 1) := by decide +kernel
theorem dX10_thought_15 : decode cX10_thought 15 = .ok (.ireturn, 1) := by decide +kernel
theorem dX10_thought_16 : decode cX10_thought 16 = .ok (.iload_n 1, 1) := by decide +kernel
theorem dX10_thought_17 : decode cX10_thought 17 = .ok (.iconst 2, 1) := by decide +kernel
theorem dX10_thought_18 : decode cX10_thought 18 = .ok (.if_icmp .ne 20, 3) := by decide +kernel
theorem dX10_thought_21 : decode cX10_thought 21 = .ok (.aload_n 0, 1) := by decide +kernel
theorem dX10_thought_22 : decode cX10_thought 22 = .ok (.invokevirtual 412, 3) := by decide +kernel
theorem dX10_thought_25 : decode cX10_thought 25 = .ok (.aload_n 0, 1) := by decide +kernel
theorem dX10_thought_26 : decode cX10_thought 26 = .ok (.invokevirtual 453, 3) := by decide +kernel
theorem dX10_thought_29 : decode cX10_thought 29 = .ok (.ifCond .eq 7, 3) := by decide +kernel
theorem dX10_thought_32 : decode cX10_thought 32 = .ok (.iconst 1, 1) := by decide +kernel
theorem dX10_thought_33 : decode cX10_thought 33 = .ok (.goto 4, 3) := by decide +kernel
theorem dX10_thought_36 : decode cX10_thought 36 = .ok (.iconst 0, 1) := by decide +kernel
theorem dX10_thought_37 : decode cX10_thought 37 = .ok (.ireturn, 1) := by decide +kernel
theorem dX10_thought_38 : decode cX10_thought 38 = .ok (.iconst 0, 1) := by decide +kernel
theorem dX10_thought_39 : decode cX10_thought 39 = .ok (.istore_n 2, 1) := by decide +kernel
theorem dX10_thought_40 : decode cX10_thought 40 = .ok (.iconst (-1), 1) := by decide +kernel
theorem dX10_thought_41 : decode cX10_thought 41 = .ok (.istore_n 3, 1) := by decide +kernel
theorem dX10_thought_42 : decode cX10_thought 42 = .ok (.iconst 0, 1) := by decide +kernel
theorem dX10_thought_43 : decode cX10_thought 43 = .ok (.istore 4, 2) := by decide +kernel
theorem dX10_thought_45 : decode cX10_thought 45 = .ok (.iload 4, 2) := by decide +kernel
theorem dX10_thought_47 : decode cX10_thought 47 = .ok (.bipush 8, 2) := by decide +kernel
theorem dX10_thought_49 : decode cX10_thought 49 = .ok (.aload_n 0, 1) := by decide +kernel
theorem dX10_thought_50 : decode cX10_thought 50 = .ok (.getfield 288, 3) := by decide +kernel
theorem dX10_thought_53 : decode cX10_thought 53 = .ok (.imul, 1) := by decide +kernel
theorem dX10_thought_54 : decode cX10_thought 54 = .ok (.if_icmp .ge 44, 3) := by decide +kernel
theorem dX10_thought_57 : decode cX10_thought 57 = .ok (.aload_n 0, 1) := by decide +kernel
theorem dX10_thought_58 : decode cX10_thought 58 = .ok (.iload 4, 2) := by decide +kernel
theorem dX10_thought_60 : decode cX10_thought 60 = .ok (.invokevirtual 456, 3) := by decide +kernel
theorem dX10_thought_63 : decode cX10_thought 63 = .ok (.ifCond .ne 6, 3) := by decide +kernel
theorem dX10_thought_66 : decode cX10_thought 66 = .ok (.goto 26, 3) := by decide +kernel
theorem dX10_thought_69 : decode cX10_thought 69 = .ok (.iinc 2 1, 3) := by decide +kernel
theorem dX10_thought_72 : decode cX10_thought 72 = .ok (.iload_n 3, 1) := by decide +kernel
theorem dX10_thought_73 : decode cX10_thought 73 = .ok (.iconst (-1), 1) := by decide +kernel
theorem dX10_thought_74 : decode cX10_thought 74 = .ok (.if_icmp .ne 18, 3) := by decide +kernel
theorem dX10_thought_77 : decode cX10_thought 77 = .ok (.iload 4, 2) := by decide +kernel
theorem dX10_thought_79 : decode cX10_thought 79 = .ok (.bipush 8, 2) := by decide +kernel
theorem dX10_thought_81 : decode cX10_thought 81 = .ok (.idiv, 1) := by decide +kernel
theorem dX10_thought_82 : decode cX10_thought 82 = .ok (.bipush 10, 2) := by decide +kernel
theorem dX10_thought_84 : decode cX10_thought 84 = .ok (.imul, 1) := by decide +kernel
theorem dX10_thought_85 : decode cX10_thought 85 = .ok (.iload 4, 2) := by decide +kernel
theorem dX10_thought_87 : decode cX10_thought 87 = .ok (.bipush 8, 2) := by decide +kernel
theorem dX10_thought_89 : decode cX10_thought 89 = .ok (.irem, 1) := by decide +kernel
theorem dX10_thought_90 : decode cX10_thought 90 = .ok (.iadd, 1) := by decide +kernel
theorem dX10_thought_91 : decode cX10_thought 91 = .ok (.istore_n 3, 1) := by decide +kernel
theorem dX10_thought_92 : decode cX10_thought 92 = .ok (.iinc 4 1, 3) := by decide +kernel
theorem dX10_thought_95 : decode cX10_thought 95 = .ok (.goto (-50), 3) := by decide +kernel
theorem dX10_thought_98 : decode cX10_thought 98 = .ok (.iload_n 1, 1) := by decide +kernel
theorem dX10_thought_99 : decode cX10_thought 99 = .ok (.ifCond .ne 7, 3) := by decide +kernel
theorem dX10_thought_102 : decode cX10_thought 102 = .ok (.iload_n 2, 1) := by decide +kernel
theorem dX10_thought_103 : decode cX10_thought 103 = .ok (.goto 4, 3) := by decide +kernel
theorem dX10_thought_106 : decode cX10_thought 106 = .ok (.iload_n 3, 1) := by decide +kernel
theorem dX10_thought_107 : decode cX10_thought 107 = .ok (.ireturn, 1) := by decide +kernel
theorem dX10_ask_0 : decode cX10_ask 0 = .ok (.aload_n 0, 1) := by decide +kernel
theorem dX10_ask_1 : decode cX10_ask 1 = .ok (.iconst 0, 1) := by decide +kernel
theorem dX10_ask_2 : decode cX10_ask 2 = .ok (.putfield 111, 3) := by decide +kernel
theorem dX10_ask_5 : decode cX10_ask 5 = .ok (.aload_n 0, 1) := by decide +kernel
theorem dX10_ask_6 : decode cX10_ask 6 = .ok (.iload_n 1, 1) := by decide +kernel
theorem dX10_ask_7 : decode cX10_ask 7 = .ok (.iconst 1, 1) := by decide +kernel
theorem dX10_ask_8 : decode cX10_ask 8 = .ok (.invokevirtual 387, 3) := by decide +kernel
theorem dX10_ask_11 : decode cX10_ask 11 = .ok (.ifCond .ne 5, 3) := by decide +kernel
theorem dX10_ask_14 : decode cX10_ask 14 = .ok (.iconst 0, 1) := by decide +kernel
theorem dX10_ask_15 : decode cX10_ask 15 = .ok (.ireturn, 1) := by decide +kernel
theorem dX10_ask_16 : decode cX10_ask 16 = .ok (.iconst 0, 1) := by decide +kernel
theorem dX10_ask_17 : decode cX10_ask 17 = .ok (.istore_n 2, 1) := by decide +kernel
theorem dX10_ask_18 : decode cX10_ask 18 = .ok (.iconst 0, 1) := by decide +kernel
theorem dX10_ask_19 : decode cX10_ask 19 = .ok (.istore_n 3, 1) := by decide +kernel
theorem dX10_ask_20 : decode cX10_ask 20 = .ok (.iload_n 3, 1) := by decide +kernel
theorem dX10_ask_21 : decode cX10_ask 21 = .ok (.bipush 8, 2) := by decide +kernel
theorem dX10_ask_23 : decode cX10_ask 23 = .ok (.aload_n 0, 1) := by decide +kernel
theorem dX10_ask_24 : decode cX10_ask 24 = .ok (.getfield 288, 3) := by decide +kernel
theorem dX10_ask_27 : decode cX10_ask 27 = .ok (.imul, 1) := by decide +kernel
theorem dX10_ask_28 : decode cX10_ask 28 = .ok (.if_icmp .ge 60, 3) := by decide +kernel
theorem dX10_ask_31 : decode cX10_ask 31 = .ok (.aload_n 0, 1) := by decide +kernel
theorem dX10_ask_32 : decode cX10_ask 32 = .ok (.iload_n 3, 1) := by decide +kernel
theorem dX10_ask_33 : decode cX10_ask 33 = .ok (.invokevirtual 456, 3) := by decide +kernel
theorem dX10_ask_36 : decode cX10_ask 36 = .ok (.ifCond .ne 6, 3) := by decide +kernel
theorem dX10_ask_39 : decode cX10_ask 39 = .ok (.goto 43, 3) := by decide +kernel
theorem dX10_ask_42 : decode cX10_ask 42 = .ok (.iconst 0, 1) := by decide +kernel
theorem dX10_ask_43 : decode cX10_ask 43 = .ok (.istore 4, 2) := by decide +kernel
theorem dX10_ask_45 : decode cX10_ask 45 = .ok (.iload 4, 2) := by decide +kernel
theorem dX10_ask_47 : decode cX10_ask 47 = .ok (.aload_n 0, 1) := by decide +kernel
theorem dX10_ask_48 : decode cX10_ask 48 = .ok (.getfield 288, 3) := by decide +kernel
theorem dX10_ask_51 : decode cX10_ask 51 = .ok (.if_icmp .ge 28, 3) := by decide +kernel
theorem dX10_ask_54 : decode cX10_ask 54 = .ok (.aload_n 0, 1) := by decide +kernel
theorem dX10_ask_55 : decode cX10_ask 55 = .ok (.getfield 99, 3) := by decide +kernel
theorem dX10_ask_58 : decode cX10_ask 58 = .ok (.bipush 8, 2) := by decide +kernel
theorem dX10_ask_60 : decode cX10_ask 60 = .ok (.iload_n 2, 1) := by decide +kernel
theorem dX10_ask_61 : decode cX10_ask 61 = .ok (.imul, 1) := by decide +kernel
theorem dX10_ask_62 : decode cX10_ask 62 = .ok (.iload 4, 2) := by decide +kernel
theorem dX10_ask_64 : decode cX10_ask 64 = .ok (.iadd, 1) := by decide +kernel
theorem dX10_ask_65 : decode cX10_ask 65 = .ok (.aload_n 0, 1) := by decide +kernel
theorem dX10_ask_66 : decode cX10_ask 66 = .ok (.getfield 96, 3) := by decide +kernel
theorem dX10_ask_69 : decode cX10_ask 69 = .ok (.iload 4, 2) := by decide +kernel
theorem dX10_ask_71 : decode cX10_ask 71 = .ok (.iaload, 1) := by decide +kernel
theorem dX10_ask_72 : decode cX10_ask 72 = .ok (.iastore, 1) := by decide +kernel
theorem dX10_ask_73 : decode cX10_ask 73 = .ok (.iinc 4 1, 3) := by decide +kernel
theorem dX10_ask_76 : decode cX10_ask 76 = .ok (.goto (-31), 3) := by decide +kernel
theorem dX10_ask_79 : decode cX10_ask 79 = .ok (.iinc 2 1, 3) := by decide +kernel
theorem dX10_ask_82 : decode cX10_ask 82 = .ok (.iinc 3 1, 3) := by decide +kernel
theorem dX10_ask_85 : decode cX10_ask 85 = .ok (.goto (-65), 3) := by decide +kernel
theorem dX10_ask_88 : decode cX10_ask 88 = .ok (.iconst (-1), 1) := by decide +kernel
theorem dX10_ask_89 : decode cX10_ask 89 = .ok (.istore_n 3, 1) := by decide +kernel
theorem dX10_ask_90 : decode cX10_ask 90 = .ok (.iconst 0, 1) := by decide +kernel
theorem dX10_ask_91 : decode cX10_ask 91 = .ok (.istore 4, 2) := by decide +kernel
theorem dX10_ask_93 : decode cX10_ask 93 = .ok (.iconst 0, 1) := by decide +kernel
theorem dX10_ask_94 : decode cX10_ask 94 = .ok (.istore 5, 2) := by decide +kernel
theorem dX10_ask_96 : decode cX10_ask 96 = .ok (.iload 5, 2) := by decide +kernel
theorem dX10_ask_98 : decode cX10_ask 98 = .ok (.aload_n 0, 1) := by decide +kernel
theorem dX10_ask_99 : decode cX10_ask 99 = .ok (.getfield 288, 3) := by decide +kernel
theorem dX10_ask_102 : decode cX10_ask 102 = .ok (.if_icmp .ge 119, 3) := by decide +kernel
theorem dX10_ask_105 : decode cX10_ask 105 = .ok (.iconst 0, 1) := by decide +kernel
theorem dX10_ask_106 : decode cX10_ask 106 = .ok (.istore 6, 2) := by decide +kernel
theorem dX10_ask_108 : decode cX10_ask 108 = .ok (.iconst 0, 1) := by decide +kernel
theorem dX10_ask_109 : decode cX10_ask 109 = .ok (.istore 7, 2) := by decide +kernel
theorem dX10_ask_111 : decode cX10_ask 111 = .ok (.iload 7, 2) := by decide +kernel
theorem dX10_ask_113 : decode cX10_ask 113 = .ok (.iload_n 2, 1) := by decide +kernel
theorem dX10_ask_114 : decode cX10_ask 114 = .ok (.if_icmp .ge 84, 3) := by decide +kernel
theorem dX10_ask_117 : decode cX10_ask 117 = .ok (.iconst 1, 1) := by decide +kernel
theorem dX10_ask_118 : decode cX10_ask 118 = .ok (.istore 8, 2) := by decide +kernel
theorem dX10_ask_120 : decode cX10_ask 120 = .ok (.iconst 0, 1) := by decide +kernel
theorem dX10_ask_121 : decode cX10_ask 121 = .ok (.istore 9, 2) := by decide +kernel
theorem dX10_ask_123 : decode cX10_ask 123 = .ok (.iload 9, 2) := by decide +kernel
theorem dX10_ask_125 : decode cX10_ask 125 = .ok (.iload 7, 2) := by decide +kernel
theorem dX10_ask_127 : decode cX10_ask 127 = .ok (.if_icmp .ge 50, 3) := by decide +kernel
theorem dX10_ask_130 : decode cX10_ask 130 = .ok (.iload 8, 2) := by decide +kernel
theorem dX10_ask_132 : decode cX10_ask 132 = .ok (.ifCond .eq 45, 3) := by decide +kernel
theorem dX10_ask_135 : decode cX10_ask 135 = .ok (.aload_n 0, 1) := by decide +kernel
theorem dX10_ask_136 : decode cX10_ask 136 = .ok (.getfield 99, 3) := by decide +kernel
theorem dX10_ask_139 : decode cX10_ask 139 = .ok (.bipush 8, 2) := by decide +kernel
theorem dX10_ask_141 : decode cX10_ask 141 = .ok (.iload 7, 2) := by decide +kernel
theorem dX10_ask_143 : decode cX10_ask 143 = .ok (.imul, 1) := by decide +kernel
theorem dX10_ask_144 : decode cX10_ask 144 = .ok (.iload 5, 2) := by decide +kernel
theorem dX10_ask_146 : decode cX10_ask 146 = .ok (.iadd, 1) := by decide +kernel
theorem dX10_ask_147 : decode cX10_ask 147 = .ok (.iaload, 1) := by decide +kernel
theorem dX10_ask_148 : decode cX10_ask 148 = .ok (.aload_n 0, 1) := by decide +kernel
theorem dX10_ask_149 : decode cX10_ask 149 = .ok (.getfield 99, 3) := by decide +kernel
theorem dX10_ask_152 : decode cX10_ask 152 = .ok (.bipush 8, 2) := by decide +kernel
theorem dX10_ask_154 : decode cX10_ask 154 = .ok (.iload 9, 2) := by decide +kernel
theorem dX10_ask_156 : decode cX10_ask 156 = .ok (.imul, 1) := by decide +kernel
theorem dX10_ask_157 : decode cX10_ask 157 = .ok (.iload 5, 2) := by decide +kernel
theorem dX10_ask_159 : decode cX10_ask 159 = .ok (.iadd, 1) := by decide +kernel
theorem dX10_ask_160 : decode cX10_ask 160 = .ok (.iaload, 1) := by decide +kernel
theorem dX10_ask_161 : decode cX10_ask 161 = .ok (.if_icmp .eq 7, 3) := by decide +kernel
theorem dX10_ask_164 : decode cX10_ask 164 = .ok (.iconst 1, 1) := by decide +kernel
theorem dX10_ask_165 : decode cX10_ask 165 = .ok (.goto 4, 3) := by decide +kernel
theorem dX10_ask_168 : decode cX10_ask 168 = .ok (.iconst 0, 1) := by decide +kernel
theorem dX10_ask_169 : decode cX10_ask 169 = .ok (.istore 8, 2) := by decide +kernel
theorem dX10_ask_171 : decode cX10_ask 171 = .ok (.iinc 9 1, 3) := by decide +kernel
theorem dX10_ask_174 : decode cX10_ask 174 = .ok (.goto (-51), 3) := by decide +kernel
theorem dX10_ask_177 : decode cX10_ask 177 = .ok (.iload 6, 2) := by decide +kernel
theorem dX10_ask_179 : decode cX10_ask 179 = .ok (.iload 8, 2) := by decide +kernel
theorem dX10_ask_181 : decode cX10_ask 181 = .ok (.ifCond .eq 7, 3) := by decide +kernel
theorem dX10_ask_184 : decode cX10_ask 184 = .ok (.iconst 1, 1) := by decide +kernel
theorem dX10_ask_185 : decode cX10_ask 185 = .ok (.goto 4, 3) := by decide +kernel
theorem dX10_ask_188 : decode cX10_ask 188 = .ok (.iconst 0, 1) := by decide +kernel
theorem dX10_ask_189 : decode cX10_ask 189 = .ok (.iadd, 1) := by decide +kernel
theorem dX10_ask_190 : decode cX10_ask 190 = .ok (.istore 6, 2) := by decide +kernel
theorem dX10_ask_192 : decode cX10_ask 192 = .ok (.iinc 7 1, 3) := by decide +kernel
theorem dX10_ask_195 : decode cX10_ask 195 = .ok (.goto (-84), 3) := by decide +kernel
theorem dX10_ask_198 : decode cX10_ask 198 = .ok (.iload 6, 2) := by decide +kernel
theorem dX10_ask_200 : decode cX10_ask 200 = .ok (.iload 4, 2) := by decide +kernel
theorem dX10_ask_202 : decode cX10_ask 202 = .ok (.if_icmp .gt 6, 3) := by decide +kernel
theorem dX10_ask_205 : decode cX10_ask 205 = .ok (.goto 10, 3) := by decide +kernel
theorem dX10_ask_208 : decode cX10_ask 208 = .ok (.iload 5, 2) := by decide +kernel
theorem dX10_ask_210 : decode cX10_ask 210 = .ok (.istore_n 3, 1) := by decide +kernel
theorem dX10_ask_211 : decode cX10_ask 211 = .ok (.iload 6, 2) := by decide +kernel
theorem dX10_ask_213 : decode cX10_ask 213 = .ok (.istore 4, 2) := by decide +kernel
theorem dX10_ask_215 : decode cX10_ask 215 = .ok (.iinc 5 1, 3) := by decide +kernel
theorem dX10_ask_218 : decode cX10_ask 218 = .ok (.goto (-122), 3) := by decide +kernel
theorem dX10_ask_221 : decode cX10_ask 221 = .ok (.iload_n 1, 1) := by decide +kernel
theorem dX10_ask_222 : decode cX10_ask 222 = .ok (.ifCond .ne 7, 3) := by decide +kernel
theorem dX10_ask_225 : decode cX10_ask 225 = .ok (.iload_n 3, 1) := by decide +kernel
theorem dX10_ask_226 : decode cX10_ask 226 = .ok (.goto 5, 3) := by decide +kernel
theorem dX10_ask_229 : decode cX10_ask 229 = .ok (.iload 4, 2) := by decide +kernel
theorem dX10_ask_231 : decode cX10_ask 231 = .ok (.ireturn, 1) := by decide +kernel
theorem dX10_wetNights_0 : decode cX10_wetNights 0 = .ok (.aload_n 0, 1) := by decide +kernel
theorem dX10_wetNights_1 : decode cX10_wetNights 1 = .ok (.iconst 0, 1) := by decide +kernel
theorem dX10_wetNights_2 : decode cX10_wetNights 2 = .ok (.putfield 111, 3) := by decide +kernel
theorem dX10_wetNights_5 : decode cX10_wetNights 5 = .ok (.aload_n 0, 1) := by decide +kernel
theorem dX10_wetNights_6 : decode cX10_wetNights 6 = .ok (.iload_n 1, 1) := by decide +kernel
theorem dX10_wetNights_7 : decode cX10_wetNights 7 = .ok (.invokevirtual 397, 3) := by decide +kernel
theorem dX10_wetNights_10 : decode cX10_wetNights 10 = .ok (.ifCond .eq 47, 3) := by decide +kernel
theorem dX10_wetNights_13 : decode cX10_wetNights 13 = .ok (.aload_n 0, 1) := by decide +kernel
theorem dX10_wetNights_14 : decode cX10_wetNights 14 = .ok (.iload_n 2, 1) := by decide +kernel
theorem dX10_wetNights_15 : decode cX10_wetNights 15 = .ok (.iconst 0, 1) := by decide +kernel
theorem dX10_wetNights_16 : decode cX10_wetNights 16 = .ok (.sipush 9999, 3) := by decide +kernel
theorem dX10_wetNights_19 : decode cX10_wetNights 19 = .ok (.invokestatic 368, 3) := by decide +kernel
theorem dX10_wetNights_22 : decode cX10_wetNights 22 = .ok (.ifCond .eq 27, 3) := by decide +kernel
theorem dX10_wetNights_25 : decode cX10_wetNights 25 = .ok (.iload_n 3, 1) := by decide +kernel
theorem dX10_wetNights_26 : decode cX10_wetNights 26 = .ok (.iconst 1, 1) := by decide +kernel
theorem dX10_wetNights_27 : decode cX10_wetNights 27 = .ok (.iconst 5, 1) := by decide +kernel
theorem dX10_wetNights_28 : decode cX10_wetNights 28 = .ok (.invokestatic 368, 3) := by decide +kernel
theorem dX10_wetNights_31 : decode cX10_wetNights 31 = .ok (.ifCond .eq 18, 3) := by decide +kernel
theorem dX10_wetNights_34 : decode cX10_wetNights 34 = .ok (.iload 4, 2) := by decide +kernel
theorem dX10_wetNights_36 : decode cX10_wetNights 36 = .ok (.iconst 0, 1) := by decide +kernel
theorem dX10_wetNights_37 : decode cX10_wetNights 37 = .ok (.bipush 10, 2) := by decide +kernel
theorem dX10_wetNights_39 : decode cX10_wetNights 39 = .ok (.invokestatic 368, 3) := by decide +kernel
theorem dX10_wetNights_42 : decode cX10_wetNights 42 = .ok (.ifCond .eq 7, 3) := by decide +kernel
theorem dX10_wetNights_45 : decode cX10_wetNights 45 = .ok (.iconst 1, 1) := by decide +kernel
theorem dX10_wetNights_46 : decode cX10_wetNights 46 = .ok (.goto 4, 3) := by decide +kernel
theorem dX10_wetNights_49 : decode cX10_wetNights 49 = .ok (.iconst 0, 1) := by decide +kernel
theorem dX10_wetNights_50 : decode cX10_wetNights 50 = .ok (.iconst 2, 1) := by decide +kernel
theorem dX10_wetNights_51 : decode cX10_wetNights 51 = .ok (.invokevirtual 278, 3) := by decide +kernel
theorem dX10_wetNights_54 : decode cX10_wetNights 54 = .ok (.ifCond .ne 5, 3) := by decide +kernel
theorem dX10_wetNights_57 : decode cX10_wetNights 57 = .ok (.iconst 0, 1) := by decide +kernel
theorem dX10_wetNights_58 : decode cX10_wetNights 58 = .ok (.ireturn, 1) := by decide +kernel
theorem dX10_wetNights_59 : decode cX10_wetNights 59 = .ok (.iconst 0, 1) := by decide +kernel
theorem dX10_wetNights_60 : decode cX10_wetNights 60 = .ok (.istore 5, 2) := by decide +kernel
theorem dX10_wetNights_62 : decode cX10_wetNights 62 = .ok (.iconst 0, 1) := by decide +kernel
theorem dX10_wetNights_63 : decode cX10_wetNights 63 = .ok (.istore 6, 2) := by decide +kernel
theorem dX10_wetNights_65 : decode cX10_wetNights 65 = .ok (.iload 6, 2) := by decide +kernel
theorem dX10_wetNights_67 : decode cX10_wetNights 67 = .ok (.iconst 1, 1) := by decide +kernel
theorem dX10_wetNights_68 : decode cX10_wetNights 68 = .ok (.iload_n 3, 1) := by decide +kernel
theorem dX10_wetNights_69 : decode cX10_wetNights 69 = .ok (.ishl, 1) := by decide +kernel
theorem dX10_wetNights_70 : decode cX10_wetNights 70 = .ok (.if_icmp .ge 115, 3) := by decide +kernel
theorem dX10_wetNights_73 : decode cX10_wetNights 73 = .ok (.iconst 1, 1) := by decide +kernel
theorem dX10_wetNights_74 : decode cX10_wetNights 74 = .ok (.istore 7, 2) := by decide +kernel
theorem dX10_wetNights_76 : decode cX10_wetNights 76 = .ok (.aload_n 0, 1) := by decide +kernel
theorem dX10_wetNights_77 : decode cX10_wetNights 77 = .ok (.invokevirtual 412, 3) := by decide +kernel
theorem dX10_wetNights_80 : decode cX10_wetNights 80 = .ok (.iconst 0, 1) := by decide +kernel
theorem dX10_wetNights_81 : decode cX10_wetNights 81 = .ok (.istore 8, 2) := by decide +kernel
theorem dX10_wetNights_83 : decode cX10_wetNights 83 = .ok (.iload 8, 2) := by decide +kernel
theorem dX10_wetNights_85 : decode cX10_wetNights 85 = .ok (.iload_n 3, 1) := by decide +kernel
theorem dX10_wetNights_86 : decode cX10_wetNights 86 = .ok (.if_icmp .ge 68, 3) := by decide +kernel
theorem dX10_wetNights_89 : decode cX10_wetNights 89 = .ok (.iload 6, 2) := by decide +kernel
theorem dX10_wetNights_91 : decode cX10_wetNights 91 = .ok (.iload 8, 2) := by decide +kernel
theorem dX10_wetNights_93 : decode cX10_wetNights 93 = .ok (.ishr, 1) := by decide +kernel
theorem dX10_wetNights_94 : decode cX10_wetNights 94 = .ok (.iconst 1, 1) := by decide +kernel
theorem dX10_wetNights_95 : decode cX10_wetNights 95 = .ok (.iand, 1) := by decide +kernel
theorem dX10_wetNights_96 : decode cX10_wetNights 96 = .ok (.iconst 1, 1) := by decide +kernel
theorem dX10_wetNights_97 : decode cX10_wetNights 97 = .ok (.if_icmp .ne 7, 3) := by decide +kernel
theorem dX10_wetNights_100 : decode cX10_wetNights 100 = .ok (.iconst 1, 1) := by decide +kernel
theorem dX10_wetNights_101 : decode cX10_wetNights 101 = .ok (.goto 4, 3) := by decide +kernel
theorem dX10_wetNights_104 : decode cX10_wetNights 104 = .ok (.iconst 0, 1) := by decide +kernel
theorem dX10_wetNights_105 : decode cX10_wetNights 105 = .ok (.istore 9, 2) := by decide +kernel
theorem dX10_wetNights_107 : decode cX10_wetNights 107 = .ok (.iload 7, 2) := by decide +kernel
theorem dX10_wetNights_109 : decode cX10_wetNights 109 = .ok (.iload 9, 2) := by decide +kernel
theorem dX10_wetNights_111 : decode cX10_wetNights 111 = .ok (.ifCond .eq 8, 3) := by decide +kernel
theorem dX10_wetNights_114 : decode cX10_wetNights 114 = .ok (.iload 4, 2) := by decide +kernel
theorem dX10_wetNights_116 : decode cX10_wetNights 116 = .ok (.goto 8, 3) := by decide +kernel
theorem dX10_wetNights_119 : decode cX10_wetNights 119 = .ok (.bipush 10, 2) := by decide +kernel
theorem dX10_wetNights_121 : decode cX10_wetNights 121 = .ok (.iload 4, 2) := by decide +kernel
theorem dX10_wetNights_123 : decode cX10_wetNights 123 = .ok (.isub, 1) := by decide +kernel
theorem dX10_wetNights_124 : decode cX10_wetNights 124 = .ok (.imul, 1) := by decide +kernel
theorem dX10_wetNights_125 : decode cX10_wetNights 125 = .ok (.istore 7, 2) := by decide +kernel
theorem dX10_wetNights_127 : decode cX10_wetNights 127 = .ok (.aload_n 0, 1) := by decide +kernel
theorem dX10_wetNights_128 : decode cX10_wetNights 128 = .ok (.iload 9, 2) := by decide +kernel
theorem dX10_wetNights_130 : decode cX10_wetNights 130 = .ok (.ifCond .eq 8, 3) := by decide +kernel
theorem dX10_wetNights_133 : decode cX10_wetNights 133 = .ok (.bipush 9, 2) := by decide +kernel
theorem dX10_wetNights_135 : decode cX10_wetNights 135 = .ok (.goto 4, 3) := by decide +kernel
theorem dX10_wetNights_138 : decode cX10_wetNights 138 = .ok (.iconst 0, 1) := by decide +kernel
theorem dX10_wetNights_139 : decode cX10_wetNights 139 = .ok (.putfield 84, 3) := by decide +kernel
theorem dX10_wetNights_142 : decode cX10_wetNights 142 = .ok (.aload_n 0, 1) := by decide +kernel
theorem dX10_wetNights_143 : decode cX10_wetNights 143 = .ok (.bipush 80, 2) := by decide +kernel
theorem dX10_wetNights_145 : decode cX10_wetNights 145 = .ok (.invokevirtual 362, 3) := by decide +kernel
theorem dX10_wetNights_148 : decode cX10_wetNights 148 = .ok (.iinc 8 1, 3) := by decide +kernel
theorem dX10_wetNights_151 : decode cX10_wetNights 151 = .ok (.goto (-68), 3) := by decide +kernel
theorem dX10_wetNights_154 : decode cX10_wetNights 154 = .ok (.iload 5, 2) := by decide +kernel
theorem dX10_wetNights_156 : decode cX10_wetNights 156 = .ok (.aload_n 0, 1) := by decide +kernel
theorem dX10_wetNights_157 : decode cX10_wetNights 157 = .ok (.getfield 72, 3) := by decide +kernel
theorem dX10_wetNights_160 : decode cX10_wetNights 160 = .ok (.sipush 144, 3) := by decide +kernel
theorem dX10_wetNights_163 : decode cX10_wetNights 163 = .ok (.iload_n 1, 1) := by decide +kernel
theorem dX10_wetNights_164 : decode cX10_wetNights 164 = .ok (.iadd, 1) := by decide +kernel
theorem dX10_wetNights_165 : decode cX10_wetNights 165 = .ok (.iaload, 1) := by decide +kernel
theorem dX10_wetNights_166 : decode cX10_wetNights 166 = .ok (.iload_n 2, 1) := by decide +kernel
theorem dX10_wetNights_167 : decode cX10_wetNights 167 = .ok (.if_icmp .lt 8, 3) := by decide +kernel
theorem dX10_wetNights_170 : decode cX10_wetNights 170 = .ok (.iload 7, 2) := by decide +kernel
theorem dX10_wetNights_172 : decode cX10_wetNights 172 = .ok (.goto 4, 3) := by decide +kernel
theorem dX10_wetNights_175 : decode cX10_wetNights 175 = .ok (.iconst 0, 1) := by decide +kernel
theorem dX10_wetNights_176 : decode cX10_wetNights 176 = .ok (.iadd, 1) := by decide +kernel
theorem dX10_wetNights_177 : decode cX10_wetNights 177 = .ok (.istore 5, 2) := by decide +kernel
theorem dX10_wetNights_179 : decode cX10_wetNights 179 = .ok (.iinc 6 1, 3) := by decide +kernel
theorem dX10_wetNights_182 : decode cX10_wetNights 182 = .ok (.goto (-117), 3) := by decide +kernel
theorem dX10_wetNights_185 : decode cX10_wetNights 185 = .ok (.aload_n 0, 1) := by decide +kernel
theorem dX10_wetNights_186 : decode cX10_wetNights 186 = .ok (.iconst (-1), 1) := by decide +kernel
theorem dX10_wetNights_187 : decode cX10_wetNights 187 = .ok (.putfield 84, 3) := by decide +kernel
theorem dX10_wetNights_190 : decode cX10_wetNights 190 = .ok (.iload 5, 2) := by decide +kernel
theorem dX10_wetNights_192 : decode cX10_wetNights 192 = .ok (.ireturn, 1) := by decide +kernel
theorem dX10_gains_0 : decode cX10_gains 0 = .ok (.aload_n 0, 1) := by decide +kernel
theorem dX10_gains_1 : decode cX10_gains 1 = .ok (.invokevirtual 412, 3) := by decide +kernel
theorem dX10_gains_4 : decode cX10_gains 4 = .ok (.iload_n 3, 1) := by decide +kernel
theorem dX10_gains_5 : decode cX10_gains 5 = .ok (.iconst 1, 1) := by decide +kernel
theorem dX10_gains_6 : decode cX10_gains 6 = .ok (.if_icmp .ne 15, 3) := by decide +kernel
theorem dX10_gains_9 : decode cX10_gains 9 = .ok (.iload_n 1, 1) := by decide +kernel
theorem dX10_gains_10 : decode cX10_gains 10 = .ok (.iload_n 2, 1) := by decide +kernel
theorem dX10_gains_11 : decode cX10_gains 11 = .ok (.if_icmp .ge 10, 3) := by decide +kernel
theorem dX10_gains_14 : decode cX10_gains 14 = .ok (.aload_n 0, 1) := by decide +kernel
theorem dX10_gains_15 : decode cX10_gains 15 = .ok (.bipush 80, 2) := by decide +kernel
theorem dX10_gains_17 : decode cX10_gains 17 = .ok (.iload_n 1, 1) := by decide +kernel
theorem dX10_gains_18 : decode cX10_gains 18 = .ok (.invokevirtual 409, 3) := by decide +kernel
theorem dX10_gains_21 : decode cX10_gains 21 = .ok (.iload 4, 2) := by decide +kernel
theorem dX10_gains_23 : decode cX10_gains 23 = .ok (.iconst 1, 1) := by decide +kernel
theorem dX10_gains_24 : decode cX10_gains 24 = .ok (.if_icmp .ne 10, 3) := by decide +kernel
theorem dX10_gains_27 : decode cX10_gains 27 = .ok (.aload_n 0, 1) := by decide +kernel
theorem dX10_gains_28 : decode cX10_gains 28 = .ok (.bipush 80, 2) := by decide +kernel
theorem dX10_gains_30 : decode cX10_gains 30 = .ok (.iload_n 2, 1) := by decide +kernel
theorem dX10_gains_31 : decode cX10_gains 31 = .ok (.invokevirtual 409, 3) := by decide +kernel
theorem dX10_gains_34 : decode cX10_gains 34 = .ok (.iload_n 3, 1) := by decide +kernel
theorem dX10_gains_35 : decode cX10_gains 35 = .ok (.iconst 1, 1) := by decide +kernel
theorem dX10_gains_36 : decode cX10_gains 36 = .ok (.if_icmp .ne 15, 3) := by decide +kernel
theorem dX10_gains_39 : decode cX10_gains 39 = .ok (.iload_n 1, 1) := by decide +kernel
theorem dX10_gains_40 : decode cX10_gains 40 = .ok (.iload_n 2, 1) := by decide +kernel
theorem dX10_gains_41 : decode cX10_gains 41 = .ok (.if_icmp .le 10, 3) := by decide +kernel
theorem dX10_gains_44 : decode cX10_gains 44 = .ok (.aload_n 0, 1) := by decide +kernel
theorem dX10_gains_45 : decode cX10_gains 45 = .ok (.bipush 80, 2) := by decide +kernel
theorem dX10_gains_47 : decode cX10_gains 47 = .ok (.iload_n 1, 1) := by decide +kernel
theorem dX10_gains_48 : decode cX10_gains 48 = .ok (.invokevirtual 409, 3) := by decide +kernel
theorem dX10_gains_51 : decode cX10_gains 51 = .ok (.aload_n 0, 1) := by decide +kernel
theorem dX10_gains_52 : decode cX10_gains 52 = .ok (.iconst 3, 1) := by decide +kernel
theorem dX10_gains_53 : decode cX10_gains 53 = .ok (.invokevirtual 415, 3) := by decide +kernel
theorem dX10_gains_56 : decode cX10_gains 56 = .ok (.aload_n 0, 1) := by decide +kernel
theorem dX10_gains_57 : decode cX10_gains 57 = .ok (.getfield 72, 3) := by decide +kernel
theorem dX10_gains_60 : decode cX10_gains 60 = .ok (.sipush 144, 3) := by decide +kernel
theorem dX10_gains_63 : decode cX10_gains 63 = .ok (.iload_n 1, 1) := by decide +kernel
theorem dX10_gains_64 : decode cX10_gains 64 = .ok (.iadd, 1) := by decide +kernel
theorem dX10_gains_65 : decode cX10_gains 65 = .ok (.iaload, 1) := by decide +kernel
theorem dX10_gains_66 : decode cX10_gains 66 = .ok (.iconst 5, 1) := by decide +kernel
theorem dX10_gains_67 : decode cX10_gains 67 = .ok (.idiv, 1) := by decide +kernel
theorem dX10_gains_68 : decode cX10_gains 68 = .ok (.aload_n 0, 1) := by decide +kernel
theorem dX10_gains_69 : decode cX10_gains 69 = .ok (.getfield 72, 3) := by decide +kernel
theorem dX10_gains_72 : decode cX10_gains 72 = .ok (.sipush 136, 3) := by decide +kernel
theorem dX10_gains_75 : decode cX10_gains 75 = .ok (.iload_n 1, 1) := by decide +kernel
theorem dX10_gains_76 : decode cX10_gains 76 = .ok (.iadd, 1) := by decide +kernel
theorem dX10_gains_77 : decode cX10_gains 77 = .ok (.iaload, 1) := by decide +kernel
theorem dX10_gains_78 : decode cX10_gains 78 = .ok (.iconst 5, 1) := by decide +kernel
theorem dX10_gains_79 : decode cX10_gains 79 = .ok (.idiv, 1) := by decide +kernel
theorem dX10_gains_80 : decode cX10_gains 80 = .ok (.isub, 1) := by decide +kernel
theorem dX10_gains_81 : decode cX10_gains 81 = .ok (.iconst 2, 1) := by decide +kernel
theorem dX10_gains_82 : decode cX10_gains 82 = .ok (.iload_n 3, 1) := by decide +kernel
theorem dX10_gains_83 : decode cX10_gains 83 = .ok (.imul, 1) := by decide +kernel
theorem dX10_gains_84 : decode cX10_gains 84 = .ok (.isub, 1) := by decide +kernel
theorem dX10_gains_85 : decode cX10_gains 85 = .ok (.ireturn, 1) := by decide +kernel
theorem dX10_game_0 : decode cX10_game 0 = .ok (.aload_n 0, 1) := by decide +kernel
theorem dX10_game_1 : decode cX10_game 1 = .ok (.iconst 0, 1) := by decide +kernel
theorem dX10_game_2 : decode cX10_game 2 = .ok (.putfield 111, 3) := by decide +kernel
theorem dX10_game_5 : decode cX10_game 5 = .ok (.aload_n 0, 1) := by decide +kernel
theorem dX10_game_6 : decode cX10_game 6 = .ok (.iload_n 1, 1) := by decide +kernel
theorem dX10_game_7 : decode cX10_game 7 = .ok (.invokevirtual 397, 3) := by decide +kernel
theorem dX10_game_10 : decode cX10_game 10 = .ok (.ifCond .eq 38, 3) := by decide +kernel
theorem dX10_game_13 : decode cX10_game 13 = .ok (.aload_n 0, 1) := by decide +kernel
theorem dX10_game_14 : decode cX10_game 14 = .ok (.iload_n 2, 1) := by decide +kernel
theorem dX10_game_15 : decode cX10_game 15 = .ok (.invokevirtual 397, 3) := by decide +kernel
theorem dX10_game_18 : decode cX10_game 18 = .ok (.ifCond .eq 30, 3) := by decide +kernel
theorem dX10_game_21 : decode cX10_game 21 = .ok (.aload_n 0, 1) := by decide +kernel
theorem dX10_game_22 : decode cX10_game 22 = .ok (.iload_n 3, 1) := by decide +kernel
theorem dX10_game_23 : decode cX10_game 23 = .ok (.iconst 1, 1) := by decide +kernel
theorem dX10_game_24 : decode cX10_game 24 = .ok (.invokevirtual 387, 3) := by decide +kernel
theorem dX10_game_27 : decode cX10_game 27 = .ok (.ifCond .eq 21, 3) := by decide +kernel
theorem dX10_game_30 : decode cX10_game 30 = .ok (.aload_n 0, 1) := by decide +kernel
theorem dX10_game_31 : decode cX10_game 31 = .ok (.iload_n 1, 1) := by decide +kernel
theorem dX10_game_32 : decode cX10_game 32 = .ok (.iload_n 2, 1) := by decide +kernel
theorem dX10_game_33 : decode cX10_game 33 = .ok (.if_icmp .eq 7, 3) := by decide +kernel
theorem dX10_game_36 : decode cX10_game 36 = .ok (.iconst 1, 1) := by decide +kernel
theorem dX10_game_37 : decode cX10_game 37 = .ok (.goto 4, 3) := by decide +kernel
theorem dX10_game_40 : decode cX10_game 40 = .ok (.iconst 0, 1) := by decide +kernel
theorem dX10_game_41 : decode cX10_game 41 = .ok (.iconst 2, 1) := by decide +kernel
theorem dX10_game_42 : decode cX10_game 42 = .ok (.invokevirtual 278, 3) := by decide +kernel
theorem dX10_game_45 : decode cX10_game 45 = .ok (.ifCond .ne 5, 3) := by decide +kernel
theorem dX10_game_48 : decode cX10_game 48 = .ok (.iconst 0, 1) := by decide +kernel
theorem dX10_game_49 : decode cX10_game 49 = .ok (.ireturn, 1) := by decide +kernel
theorem dX10_game_50 : decode cX10_game 50 = .ok (.aload_n 0, 1) := by decide +kernel
theorem dX10_game_51 : decode cX10_game 51 = .ok (.getfield 72, 3) := by decide +kernel
theorem dX10_game_54 : decode cX10_game 54 = .ok (.bipush 72, 2) := by decide +kernel
theorem dX10_game_56 : decode cX10_game 56 = .ok (.iload_n 1, 1) := by decide +kernel
theorem dX10_game_57 : decode cX10_game 57 = .ok (.iadd, 1) := by decide +kernel
theorem dX10_game_58 : decode cX10_game 58 = .ok (.iaload, 1) := by decide +kernel
theorem dX10_game_59 : decode cX10_game 59 = .ok (.iconst (-1), 1) := by decide +kernel
theorem dX10_game_60 : decode cX10_game 60 = .ok (.if_icmp .eq 16, 3) := by decide +kernel
theorem dX10_game_63 : decode cX10_game 63 = .ok (.aload_n 0, 1) := by decide +kernel
theorem dX10_game_64 : decode cX10_game 64 = .ok (.getfield 72, 3) := by decide +kernel
theorem dX10_game_67 : decode cX10_game 67 = .ok (.bipush 72, 2) := by decide +kernel
theorem dX10_game_69 : decode cX10_game 69 = .ok (.iload_n 2, 1) := by decide +kernel
theorem dX10_game_70 : decode cX10_game 70 = .ok (.iadd, 1) := by decide +kernel
theorem dX10_game_71 : decode cX10_game 71 = .ok (.iaload, 1) := by decide +kernel
theorem dX10_game_72 : decode cX10_game 72 = .ok (.iconst (-1), 1) := by decide +kernel
theorem dX10_game_73 : decode cX10_game 73 = .ok (.if_icmp .ne 5, 3) := by decide +kernel
theorem dX10_game_76 : decode cX10_game 76 = .ok (.iconst (-1), 1) := by decide +kernel
theorem dX10_game_77 : decode cX10_game 77 = .ok (.ireturn, 1) := by decide +kernel
theorem dX10_game_78 : decode cX10_game 78 = .ok (.iconst 0, 1) := by decide +kernel
theorem dX10_game_79 : decode cX10_game 79 = .ok (.istore 4, 2) := by decide +kernel
theorem dX10_game_81 : decode cX10_game 81 = .ok (.iconst (-1), 1) := by decide +kernel
theorem dX10_game_82 : decode cX10_game 82 = .ok (.istore 5, 2) := by decide +kernel
theorem dX10_game_84 : decode cX10_game 84 = .ok (.iconst 0, 1) := by decide +kernel
theorem dX10_game_85 : decode cX10_game 85 = .ok (.istore 6, 2) := by decide +kernel
theorem dX10_game_87 : decode cX10_game 87 = .ok (.iload 6, 2) := by decide +kernel
theorem dX10_game_89 : decode cX10_game 89 = .ok (.iconst 4, 1) := by decide +kernel
theorem dX10_game_90 : decode cX10_game 90 = .ok (.if_icmp .ge 93, 3) := by decide +kernel
theorem dX10_game_93 : decode cX10_game 93 = .ok (.iload 6, 2) := by decide +kernel
theorem dX10_game_95 : decode cX10_game 95 = .ok (.iconst 2, 1) := by decide +kernel
theorem dX10_game_96 : decode cX10_game 96 = .ok (.idiv, 1) := by decide +kernel
theorem dX10_game_97 : decode cX10_game 97 = .ok (.istore 7, 2) := by decide +kernel
theorem dX10_game_99 : decode cX10_game 99 = .ok (.iload 6, 2) := by decide +kernel
theorem dX10_game_101 : decode cX10_game 101 = .ok (.iconst 2, 1) := by decide +kernel
theorem dX10_game_102 : decode cX10_game 102 = .ok (.irem, 1) := by decide +kernel
theorem dX10_game_103 : decode cX10_game 103 = .ok (.istore 8, 2) := by decide +kernel
theorem dX10_game_105 : decode cX10_game 105 = .ok (.aload_n 0, 1) := by decide +kernel
theorem dX10_game_106 : decode cX10_game 106 = .ok (.iload_n 1, 1) := by decide +kernel
theorem dX10_game_107 : decode cX10_game 107 = .ok (.iload_n 2, 1) := by decide +kernel
theorem dX10_game_108 : decode cX10_game 108 = .ok (.iconst 1, 1) := by decide +kernel
theorem dX10_game_109 : decode cX10_game 109 = .ok (.iload 7, 2) := by decide +kernel
theorem dX10_game_111 : decode cX10_game 111 = .ok (.isub, 1) := by decide +kernel
theorem dX10_game_112 : decode cX10_game 112 = .ok (.iload 8, 2) := by decide +kernel
theorem dX10_game_114 : decode cX10_game 114 = .ok (.invokevirtual 459, 3) := by decide +kernel
theorem dX10_game_117 : decode cX10_game 117 = .ok (.aload_n 0, 1) := by decide +kernel
theorem dX10_game_118 : decode cX10_game 118 = .ok (.iload_n 1, 1) := by decide +kernel
theorem dX10_game_119 : decode cX10_game 119 = .ok (.iload_n 2, 1) := by decide +kernel
theorem dX10_game_120 : decode cX10_game 120 = .ok (.iload 7, 2) := by decide +kernel
theorem dX10_game_122 : decode cX10_game 122 = .ok (.iload 8, 2) := by decide +kernel
theorem dX10_game_124 : decode cX10_game 124 = .ok (.invokevirtual 459, 3) := by decide +kernel
theorem dX10_game_127 : decode cX10_game 127 = .ok (.if_icmp .gt 50, 3) := by decide +kernel
theorem dX10_game_130 : decode cX10_game 130 = .ok (.aload_n 0, 1) := by decide +kernel
theorem dX10_game_131 : decode cX10_game 131 = .ok (.iload_n 2, 1) := by decide +kernel
theorem dX10_game_132 : decode cX10_game 132 = .ok (.iload_n 1, 1) := by decide +kernel
theorem dX10_game_133 : decode cX10_game 133 = .ok (.iconst 1, 1) := by decide +kernel
theorem dX10_game_134 : decode cX10_game 134 = .ok (.iload 8, 2) := by decide +kernel
theorem dX10_game_136 : decode cX10_game 136 = .ok (.isub, 1) := by decide +kernel
theorem dX10_game_137 : decode cX10_game 137 = .ok (.iload 7, 2) := by decide +kernel
theorem dX10_game_139 : decode cX10_game 139 = .ok (.invokevirtual 459, 3) := by decide +kernel
theorem dX10_game_142 : decode cX10_game 142 = .ok (.aload_n 0, 1) := by decide +kernel
theorem dX10_game_143 : decode cX10_game 143 = .ok (.iload_n 2, 1) := by decide +kernel
theorem dX10_game_144 : decode cX10_game 144 = .ok (.iload_n 1, 1) := by decide +kernel
theorem dX10_game_145 : decode cX10_game 145 = .ok (.iload 8, 2) := by decide +kernel
theorem dX10_game_147 : decode cX10_game 147 = .ok (.iload 7, 2) := by decide +kernel
theorem dX10_game_149 : decode cX10_game 149 = .ok (.invokevirtual 459, 3) := by decide +kernel
theorem dX10_game_152 : decode cX10_game 152 = .ok (.if_icmp .le 6, 3) := by decide +kernel
theorem dX10_game_155 : decode cX10_game 155 = .ok (.goto 22, 3) := by decide +kernel
theorem dX10_game_158 : decode cX10_game 158 = .ok (.iinc 4 1, 3) := by decide +kernel
theorem dX10_game_161 : decode cX10_game 161 = .ok (.iload 5, 2) := by decide +kernel
theorem dX10_game_163 : decode cX10_game 163 = .ok (.iconst (-1), 1) := by decide +kernel
theorem dX10_game_164 : decode cX10_game 164 = .ok (.if_icmp .ne 13, 3) := by decide +kernel
theorem dX10_game_167 : decode cX10_game 167 = .ok (.bipush 10, 2) := by decide +kernel
theorem dX10_game_169 : decode cX10_game 169 = .ok (.iload 7, 2) := by decide +kernel
theorem dX10_game_171 : decode cX10_game 171 = .ok (.imul, 1) := by decide +kernel
theorem dX10_game_172 : decode cX10_game 172 = .ok (.iload 8, 2) := by decide +kernel
theorem dX10_game_174 : decode cX10_game 174 = .ok (.iadd, 1) := by decide +kernel
theorem dX10_game_175 : decode cX10_game 175 = .ok (.istore 5, 2) := by decide +kernel
theorem dX10_game_177 : decode cX10_game 177 = .ok (.iinc 6 1, 3) := by decide +kernel
theorem dX10_game_180 : decode cX10_game 180 = .ok (.goto (-93), 3) := by decide +kernel
theorem dX10_game_183 : decode cX10_game 183 = .ok (.iload_n 3, 1) := by decide +kernel
theorem dX10_game_184 : decode cX10_game 184 = .ok (.ifCond .ne 8, 3) := by decide +kernel
theorem dX10_game_187 : decode cX10_game 187 = .ok (.iload 4, 2) := by decide +kernel
theorem dX10_game_189 : decode cX10_game 189 = .ok (.goto 5, 3) := by decide +kernel
theorem dX10_game_192 : decode cX10_game 192 = .ok (.iload 5, 2) := by decide +kernel
theorem dX10_game_194 : decode cX10_game 194 = .ok (.ireturn, 1) := by decide +kernel
theorem dX10_draw_0 : decode cX10_draw 0 = .ok (.aload_n 0, 1) := by decide +kernel
theorem dX10_draw_1 : decode cX10_draw 1 = .ok (.aload_n 0, 1) := by decide +kernel
theorem dX10_draw_2 : decode cX10_draw 2 = .ok (.getfield 462, 3) := by decide +kernel
theorem dX10_draw_5 : decode cX10_draw 5 = .ok (.ldc_w 465, 3) := by decide +kernel
theorem dX10_draw_8 : decode cX10_draw 8 = .ok (.imul, 1) := by decide +kernel
theorem dX10_draw_9 : decode cX10_draw 9 = .ok (.sipush 12345, 3) := by decide +kernel
theorem dX10_draw_12 : decode cX10_draw 12 = .ok (.iadd, 1) := by decide +kernel
theorem dX10_draw_13 : decode cX10_draw 13 = .ok (.putfield 462, 3) := by decide +kernel
theorem dX10_draw_16 : decode cX10_draw 16 = .ok (.aload_n 0, 1) := by decide +kernel
theorem dX10_draw_17 : decode cX10_draw 17 = .ok (.getfield 462, 3) := by decide +kernel
theorem dX10_draw_20 : decode cX10_draw 20 = .ok (.bipush 16, 2) := by decide +kernel
theorem dX10_draw_22 : decode cX10_draw 22 = .ok (.ishr, 1) := by decide +kernel
theorem dX10_draw_23 : decode cX10_draw 23 = .ok (.sipush 32767, 3) := by decide +kernel
theorem dX10_draw_26 : decode cX10_draw 26 = .ok (.iand, 1) := by decide +kernel
theorem dX10_draw_27 : decode cX10_draw 27 = .ok (.iload_n 1, 1) := by decide +kernel
theorem dX10_draw_28 : decode cX10_draw 28 = .ok (.irem, 1) := by decide +kernel
theorem dX10_draw_29 : decode cX10_draw 29 = .ok (.ireturn, 1) := by decide +kernel
theorem dX10_happens_0 : decode cX10_happens 0 = .ok (.aload_n 0, 1) := by decide +kernel
theorem dX10_happens_1 : decode cX10_happens 1 = .ok (.aload_n 0, 1) := by decide +kernel
theorem dX10_happens_2 : decode cX10_happens 2 = .ok (.getfield 288, 3) := by decide +kernel
theorem dX10_happens_5 : decode cX10_happens 5 = .ok (.invokevirtual 466, 3) := by decide +kernel
theorem dX10_happens_8 : decode cX10_happens 8 = .ok (.istore_n 1, 1) := by decide +kernel
theorem dX10_happens_9 : decode cX10_happens 9 = .ok (.aload_n 0, 1) := by decide +kernel
theorem dX10_happens_10 : decode cX10_happens 10 = .ok (.bipush 6, 2) := by decide +kernel
theorem dX10_happens_12 : decode cX10_happens 12 = .ok (.invokevirtual 466, 3) := by decide +kernel
theorem dX10_happens_15 : decode cX10_happens 15 = .ok (.istore_n 2, 1) := by decide +kernel
theorem dX10_happens_16 : decode cX10_happens 16 = .ok (.iload_n 2, 1) := by decide +kernel
theorem dX10_happens_17 : decode cX10_happens 17 = .ok (.ifCond .ne 24, 3) := by decide +kernel
theorem dX10_happens_20 : decode cX10_happens 20 = .ok (.aload_n 0, 1) := by decide +kernel
theorem dX10_happens_21 : decode cX10_happens 21 = .ok (.getfield 72, 3) := by decide +kernel
theorem dX10_happens_24 : decode cX10_happens 24 = .ok (.sipush 152, 3) := by decide +kernel
theorem dX10_happens_27 : decode cX10_happens 27 = .ok (.iload_n 1, 1) := by decide +kernel
theorem dX10_happens_28 : decode cX10_happens 28 = .ok (.iadd, 1) := by decide +kernel
theorem dX10_happens_29 : decode cX10_happens 29 = .ok (.iaload, 1) := by decide +kernel
theorem dX10_happens_30 : decode cX10_happens 30 = .ok (.iconst (-1), 1) := by decide +kernel
theorem dX10_happens_31 : decode cX10_happens 31 = .ok (.if_icmp .eq 10, 3) := by decide +kernel
theorem dX10_happens_34 : decode cX10_happens 34 = .ok (.aload_n 0, 1) := by decide +kernel
theorem dX10_happens_35 : decode cX10_happens 35 = .ok (.bipush 80, 2) := by decide +kernel
theorem dX10_happens_37 : decode cX10_happens 37 = .ok (.iload_n 1, 1) := by decide +kernel
theorem dX10_happens_38 : decode cX10_happens 38 = .ok (.invokevirtual 409, 3) := by decide +kernel
theorem dX10_happens_41 : decode cX10_happens 41 = .ok (.iload_n 2, 1) := by decide +kernel
theorem dX10_happens_42 : decode cX10_happens 42 = .ok (.iconst 1, 1) := by decide +kernel
theorem dX10_happens_43 : decode cX10_happens 43 = .ok (.if_icmp .ne 32, 3) := by decide +kernel
theorem dX10_happens_46 : decode cX10_happens 46 = .ok (.aload_n 0, 1) := by decide +kernel
theorem dX10_happens_47 : decode cX10_happens 47 = .ok (.aload_n 0, 1) := by decide +kernel
theorem dX10_happens_48 : decode cX10_happens 48 = .ok (.getfield 288, 3) := by decide +kernel
theorem dX10_happens_51 : decode cX10_happens 51 = .ok (.invokevirtual 466, 3) := by decide +kernel
theorem dX10_happens_54 : decode cX10_happens 54 = .ok (.istore_n 3, 1) := by decide +kernel
theorem dX10_happens_55 : decode cX10_happens 55 = .ok (.aload_n 0, 1) := by decide +kernel
theorem dX10_happens_56 : decode cX10_happens 56 = .ok (.getfield 72, 3) := by decide +kernel
theorem dX10_happens_59 : decode cX10_happens 59 = .ok (.sipush 152, 3) := by decide +kernel
theorem dX10_happens_62 : decode cX10_happens 62 = .ok (.iload_n 1, 1) := by decide +kernel
theorem dX10_happens_63 : decode cX10_happens 63 = .ok (.iadd, 1) := by decide +kernel
theorem dX10_happens_64 : decode cX10_happens 64 = .ok (.iload_n 3, 1) := by decide +kernel
theorem dX10_happens_65 : decode cX10_happens 65 = .ok (.iload_n 1, 1) := by decide +kernel
theorem dX10_happens_66 : decode cX10_happens 66 = .ok (.if_icmp .ne 7, 3) := by decide +kernel
theorem dX10_happens_69 : decode cX10_happens 69 = .ok (.iconst (-1), 1) := by decide +kernel
theorem dX10_happens_70 : decode cX10_happens 70 = .ok (.goto 4, 3) := by decide +kernel
theorem dX10_happens_73 : decode cX10_happens 73 = .ok (.iload_n 3, 1) := by decide +kernel
theorem dX10_happens_74 : decode cX10_happens 74 = .ok (.iastore, 1) := by decide +kernel
theorem dX10_happens_75 : decode cX10_happens 75 = .ok (.iload_n 2, 1) := by decide +kernel
theorem dX10_happens_76 : decode cX10_happens 76 = .ok (.iconst 2, 1) := by decide +kernel
theorem dX10_happens_77 : decode cX10_happens 77 = .ok (.if_icmp .ne 19, 3) := by decide +kernel
theorem dX10_happens_80 : decode cX10_happens 80 = .ok (.aload_n 0, 1) := by decide +kernel
theorem dX10_happens_81 : decode cX10_happens 81 = .ok (.getfield 72, 3) := by decide +kernel
theorem dX10_happens_84 : decode cX10_happens 84 = .ok (.bipush 81, 2) := by decide +kernel
theorem dX10_happens_86 : decode cX10_happens 86 = .ok (.iconst 1, 1) := by decide +kernel
theorem dX10_happens_87 : decode cX10_happens 87 = .ok (.aload_n 0, 1) := by decide +kernel
theorem dX10_happens_88 : decode cX10_happens 88 = .ok (.getfield 72, 3) := by decide +kernel
theorem dX10_happens_91 : decode cX10_happens 91 = .ok (.bipush 81, 2) := by decide +kernel
theorem dX10_happens_93 : decode cX10_happens 93 = .ok (.iaload, 1) := by decide +kernel
theorem dX10_happens_94 : decode cX10_happens 94 = .ok (.isub, 1) := by decide +kernel
theorem dX10_happens_95 : decode cX10_happens 95 = .ok (.iastore, 1) := by decide +kernel
theorem dX10_happens_96 : decode cX10_happens 96 = .ok (.return_, 1) := by decide +kernel
theorem dX10_years_0 : decode cX10_years 0 = .ok (.aload_n 0, 1) := by decide +kernel
theorem dX10_years_1 : decode cX10_years 1 = .ok (.iconst 0, 1) := by decide +kernel
theorem dX10_years_2 : decode cX10_years 2 = .ok (.putfield 111, 3) := by decide +kernel
theorem dX10_years_5 : decode cX10_years 5 = .ok (.aload_n 0, 1) := by decide +kernel
theorem dX10_years_6 : decode cX10_years 6 = .ok (.iload_n 3, 1) := by decide +kernel
theorem dX10_years_7 : decode cX10_years 7 = .ok (.iconst 2, 1) := by decide +kernel
theorem dX10_years_8 : decode cX10_years 8 = .ok (.invokevirtual 387, 3) := by decide +kernel
theorem dX10_years_11 : decode cX10_years 11 = .ok (.ifCond .eq 13, 3) := by decide +kernel
theorem dX10_years_14 : decode cX10_years 14 = .ok (.aload_n 0, 1) := by decide +kernel
theorem dX10_years_15 : decode cX10_years 15 = .ok (.iload_n 2, 1) := by decide +kernel
theorem dX10_years_16 : decode cX10_years 16 = .ok (.iconst 0, 1) := by decide +kernel
theorem dX10_years_17 : decode cX10_years 17 = .ok (.iconst 2, 1) := by decide +kernel
theorem dX10_years_18 : decode cX10_years 18 = .ok (.invokevirtual 418, 3) := by decide +kernel
theorem dX10_years_21 : decode cX10_years 21 = .ok (.ifCond .ne 5, 3) := by decide +kernel
theorem dX10_years_24 : decode cX10_years 24 = .ok (.iconst 0, 1) := by decide +kernel
theorem dX10_years_25 : decode cX10_years 25 = .ok (.ireturn, 1) := by decide +kernel
theorem dX10_years_26 : decode cX10_years 26 = .ok (.aload_n 0, 1) := by decide +kernel
theorem dX10_years_27 : decode cX10_years 27 = .ok (.invokevirtual 412, 3) := by decide +kernel
theorem dX10_years_30 : decode cX10_years 30 = .ok (.aload_n 0, 1) := by decide +kernel
theorem dX10_years_31 : decode cX10_years 31 = .ok (.iload_n 1, 1) := by decide +kernel
theorem dX10_years_32 : decode cX10_years 32 = .ok (.putfield 462, 3) := by decide +kernel
theorem dX10_years_35 : decode cX10_years 35 = .ok (.iconst 0, 1) := by decide +kernel
theorem dX10_years_36 : decode cX10_years 36 = .ok (.istore 4, 2) := by decide +kernel
theorem dX10_years_38 : decode cX10_years 38 = .ok (.iload 4, 2) := by decide +kernel
theorem dX10_years_40 : decode cX10_years 40 = .ok (.iload_n 2, 1) := by decide +kernel
theorem dX10_years_41 : decode cX10_years 41 = .ok (.if_icmp .ge 36, 3) := by decide +kernel
theorem dX10_years_44 : decode cX10_years 44 = .ok (.aload_n 0, 1) := by decide +kernel
theorem dX10_years_45 : decode cX10_years 45 = .ok (.aload_n 0, 1) := by decide +kernel
theorem dX10_years_46 : decode cX10_years 46 = .ok (.bipush 10, 2) := by decide +kernel
theorem dX10_years_48 : decode cX10_years 48 = .ok (.invokevirtual 466, 3) := by decide +kernel
theorem dX10_years_51 : decode cX10_years 51 = .ok (.putfield 84, 3) := by decide +kernel
theorem dX10_years_54 : decode cX10_years 54 = .ok (.aload_n 0, 1) := by decide +kernel
theorem dX10_years_55 : decode cX10_years 55 = .ok (.getfield 288, 3) := by decide +kernel
theorem dX10_years_58 : decode cX10_years 58 = .ok (.ifCond .le 7, 3) := by decide +kernel
theorem dX10_years_61 : decode cX10_years 61 = .ok (.aload_n 0, 1) := by decide +kernel
theorem dX10_years_62 : decode cX10_years 62 = .ok (.invokevirtual 469, 3) := by decide +kernel
theorem dX10_years_65 : decode cX10_years 65 = .ok (.aload_n 0, 1) := by decide +kernel
theorem dX10_years_66 : decode cX10_years 66 = .ok (.bipush 80, 2) := by decide +kernel
theorem dX10_years_68 : decode cX10_years 68 = .ok (.invokevirtual 362, 3) := by decide +kernel
theorem dX10_years_71 : decode cX10_years 71 = .ok (.iinc 4 1, 3) := by decide +kernel
theorem dX10_years_74 : decode cX10_years 74 = .ok (.goto (-36), 3) := by decide +kernel
theorem dX10_years_77 : decode cX10_years 77 = .ok (.aload_n 0, 1) := by decide +kernel
theorem dX10_years_78 : decode cX10_years 78 = .ok (.iconst (-1), 1) := by decide +kernel
theorem dX10_years_79 : decode cX10_years 79 = .ok (.putfield 84, 3) := by decide +kernel
theorem dX10_years_82 : decode cX10_years 82 = .ok (.iload_n 3, 1) := by decide +kernel
theorem dX10_years_83 : decode cX10_years 83 = .ok (.ifCond .ne 22, 3) := by decide +kernel
theorem dX10_years_86 : decode cX10_years 86 = .ok (.aload_n 0, 1) := by decide +kernel
theorem dX10_years_87 : decode cX10_years 87 = .ok (.bipush 80, 2) := by decide +kernel
theorem dX10_years_89 : decode cX10_years 89 = .ok (.bipush 64, 2) := by decide +kernel
theorem dX10_years_91 : decode cX10_years 91 = .ok (.invokevirtual 375, 3) := by decide +kernel
theorem dX10_years_94 : decode cX10_years 94 = .ok (.aload_n 0, 1) := by decide +kernel
theorem dX10_years_95 : decode cX10_years 95 = .ok (.iconst 0, 1) := by decide +kernel
theorem dX10_years_96 : decode cX10_years 96 = .ok (.bipush 64, 2) := by decide +kernel
theorem dX10_years_98 : decode cX10_years 98 = .ok (.invokevirtual 375, 3) := by decide +kernel
theorem dX10_years_101 : decode cX10_years 101 = .ok (.isub, 1) := by decide +kernel
theorem dX10_years_102 : decode cX10_years 102 = .ok (.goto 25, 3) := by decide +kernel
theorem dX10_years_105 : decode cX10_years 105 = .ok (.iload_n 3, 1) := by decide +kernel
theorem dX10_years_106 : decode cX10_years 106 = .ok (.iconst 1, 1) := by decide +kernel
theorem dX10_years_107 : decode cX10_years 107 = .ok (.if_icmp .ne 14, 3) := by decide +kernel
theorem dX10_years_110 : decode cX10_years 110 = .ok (.aload_n 0, 1) := by decide +kernel
theorem dX10_years_111 : decode cX10_years 111 = .ok (.bipush 80, 2) := by decide +kernel
theorem dX10_years_113 : decode cX10_years 113 = .ok (.bipush 56, 2) := by decide +kernel
theorem dX10_years_115 : decode cX10_years 115 = .ok (.invokevirtual 375, 3) := by decide +kernel
theorem dX10_years_118 : decode cX10_years 118 = .ok (.goto 9, 3) := by decide +kernel
theorem dX10_years_121 : decode cX10_years 121 = .ok (.aload_n 0, 1) := by decide +kernel
theorem dX10_years_122 : decode cX10_years 122 = .ok (.bipush 80, 2) := by decide +kernel
theorem dX10_years_124 : decode cX10_years 124 = .ok (.invokevirtual 372, 3) := by decide +kernel
theorem dX10_years_127 : decode cX10_years 127 = .ok (.ireturn, 1) := by decide +kernel
theorem dX10_image_0 : decode cX10_image 0 = .ok (.aload_n 0, 1) := by decide +kernel
theorem dX10_image_1 : decode cX10_image 1 = .ok (.iconst 0, 1) := by decide +kernel
theorem dX10_image_2 : decode cX10_image 2 = .ok (.putfield 111, 3) := by decide +kernel
theorem dX10_image_5 : decode cX10_image 5 = .ok (.aload_n 0, 1) := by decide +kernel
theorem dX10_image_6 : decode cX10_image 6 = .ok (.iconst 1, 1) := by decide +kernel
theorem dX10_image_7 : decode cX10_image 7 = .ok (.putfield 307, 3) := by decide +kernel
theorem dX10_image_10 : decode cX10_image 10 = .ok (.aload_n 0, 1) := by decide +kernel
theorem dX10_image_11 : decode cX10_image 11 = .ok (.aload_n 0, 1) := by decide +kernel
theorem dX10_image_12 : decode cX10_image 12 = .ok (.getfield 301, 3) := by decide +kernel
theorem dX10_image_15 : decode cX10_image 15 = .ok (.putfield 472, 3) := by decide +kernel
theorem dX10_image_18 : decode cX10_image 18 = .ok (.aload_n 0, 1) := by decide +kernel
theorem dX10_image_19 : decode cX10_image 19 = .ok (.aload_n 0, 1) := by decide +kernel
theorem dX10_image_20 : decode cX10_image 20 = .ok (.getfield 304, 3) := by decide +kernel
theorem dX10_image_23 : decode cX10_image 23 = .ok (.putfield 475, 3) := by decide +kernel
theorem dX10_image_26 : decode cX10_image 26 = .ok (.iconst 0, 1) := by decide +kernel
theorem dX10_image_27 : decode cX10_image 27 = .ok (.istore_n 1, 1) := by decide +kernel
theorem dX10_image_28 : decode cX10_image 28 = .ok (.iload_n 1, 1) := by decide +kernel
theorem dX10_image_29 : decode cX10_image 29 = .ok (.bipush 80, 2) := by decide +kernel
theorem dX10_image_31 : decode cX10_image 31 = .ok (.if_icmp .ge 21, 3) := by decide +kernel
theorem dX10_image_34 : decode cX10_image 34 = .ok (.aload_n 0, 1) := by decide +kernel
theorem dX10_image_35 : decode cX10_image 35 = .ok (.getfield 102, 3) := by decide +kernel
theorem dX10_image_38 : decode cX10_image 38 = .ok (.iload_n 1, 1) := by decide +kernel
theorem dX10_image_39 : decode cX10_image 39 = .ok (.aload_n 0, 1) := by decide +kernel
theorem dX10_image_40 : decode cX10_image 40 = .ok (.getfield 72, 3) := by decide +kernel
theorem dX10_image_43 : decode cX10_image 43 = .ok (.iload_n 1, 1) := by decide +kernel
theorem dX10_image_44 : decode cX10_image 44 = .ok (.iaload, 1) := by decide +kernel
theorem dX10_image_45 : decode cX10_image 45 = .ok (.iastore, 1) := by decide +kernel
theorem dX10_image_46 : decode cX10_image 46 = .ok (.iinc 1 1, 3) := by decide +kernel
theorem dX10_image_49 : decode cX10_image 49 = .ok (.goto (-21), 3) := by decide +kernel
theorem dX10_image_52 : decode cX10_image 52 = .ok (.aload_n 0, 1) := by decide +kernel
theorem dX10_image_53 : decode cX10_image 53 = .ok (.aload_n 0, 1) := by decide +kernel
theorem dX10_image_54 : decode cX10_image 54 = .ok (.getfield 75, 3) := by decide +kernel
theorem dX10_image_57 : decode cX10_image 57 = .ok (.aload_n 0, 1) := by decide +kernel
theorem dX10_image_58 : decode cX10_image 58 = .ok (.getfield 105, 3) := by decide +kernel
theorem dX10_image_61 : decode cX10_image 61 = .ok (.invokevirtual 297, 3) := by decide +kernel
theorem dX10_image_64 : decode cX10_image 64 = .ok (.aload_n 0, 1) := by decide +kernel
theorem dX10_image_65 : decode cX10_image 65 = .ok (.aload_n 0, 1) := by decide +kernel
theorem dX10_image_66 : decode cX10_image 66 = .ok (.getfield 93, 3) := by decide +kernel
theorem dX10_image_69 : decode cX10_image 69 = .ok (.aload_n 0, 1) := by decide +kernel
theorem dX10_image_70 : decode cX10_image 70 = .ok (.getfield 108, 3) := by decide +kernel
theorem dX10_image_73 : decode cX10_image 73 = .ok (.invokevirtual 297, 3) := by decide +kernel
theorem dX10_image_76 : decode cX10_image 76 = .ok (.return_, 1) := by decide +kernel
theorem dX10_restore_0 : decode cX10_restore 0 = .ok (.aload_n 0, 1) := by decide +kernel
theorem dX10_restore_1 : decode cX10_restore 1 = .ok (.iconst 0, 1) := by decide +kernel
theorem dX10_restore_2 : decode cX10_restore 2 = .ok (.putfield 111, 3) := by decide +kernel
theorem dX10_restore_5 : decode cX10_restore 5 = .ok (.aload_n 0, 1) := by decide +kernel
theorem dX10_restore_6 : decode cX10_restore 6 = .ok (.getfield 307, 3) := by decide +kernel
theorem dX10_restore_9 : decode cX10_restore 9 = .ok (.ifCond .ne 5, 3) := by decide +kernel
theorem dX10_restore_12 : decode cX10_restore 12 = .ok (.iconst 0, 1) := by decide +kernel
theorem dX10_restore_13 : decode cX10_restore 13 = .ok (.ireturn, 1) := by decide +kernel
theorem dX10_restore_14 : decode cX10_restore 14 = .ok (.aload_n 0, 1) := by decide +kernel
theorem dX10_restore_15 : decode cX10_restore 15 = .ok (.aload_n 0, 1) := by decide +kernel
theorem dX10_restore_16 : decode cX10_restore 16 = .ok (.getfield 472, 3) := by decide +kernel
theorem dX10_restore_19 : decode cX10_restore 19 = .ok (.putfield 301, 3) := by decide +kernel
theorem dX10_restore_22 : decode cX10_restore 22 = .ok (.aload_n 0, 1) := by decide +kernel
theorem dX10_restore_23 : decode cX10_restore 23 = .ok (.aload_n 0, 1) := by decide +kernel
theorem dX10_restore_24 : decode cX10_restore 24 = .ok (.getfield 475, 3) := by decide +kernel
theorem dX10_restore_27 : decode cX10_restore 27 = .ok (.putfield 304, 3) := by decide +kernel
theorem dX10_restore_30 : decode cX10_restore 30 = .ok (.iconst 0, 1) := by decide +kernel
theorem dX10_restore_31 : decode cX10_restore 31 = .ok (.istore_n 1, 1) := by decide +kernel
theorem dX10_restore_32 : decode cX10_restore 32 = .ok (.iload_n 1, 1) := by decide +kernel
theorem dX10_restore_33 : decode cX10_restore 33 = .ok (.bipush 80, 2) := by decide +kernel
theorem dX10_restore_35 : decode cX10_restore 35 = .ok (.if_icmp .ge 21, 3) := by decide +kernel
theorem dX10_restore_38 : decode cX10_restore 38 = .ok (.aload_n 0, 1) := by decide +kernel
theorem dX10_restore_39 : decode cX10_restore 39 = .ok (.getfield 72, 3) := by decide +kernel
theorem dX10_restore_42 : decode cX10_restore 42 = .ok (.iload_n 1, 1) := by decide +kernel
theorem dX10_restore_43 : decode cX10_restore 43 = .ok (.aload_n 0, 1) := by decide +kernel
theorem dX10_restore_44 : decode cX10_restore 44 = .ok (.getfield 102, 3) := by decide +kernel
theorem dX10_restore_47 : decode cX10_restore 47 = .ok (.iload_n 1, 1) := by decide +kernel
theorem dX10_restore_48 : decode cX10_restore 48 = .ok (.iaload, 1) := by decide +kernel
theorem dX10_restore_49 : decode cX10_restore 49 = .ok (.iastore, 1) := by decide +kernel
theorem dX10_restore_50 : decode cX10_restore 50 = .ok (.iinc 1 1, 3) := by decide +kernel
theorem dX10_restore_53 : decode cX10_restore 53 = .ok (.goto (-21), 3) := by decide +kernel
theorem dX10_restore_56 : decode cX10_restore 56 = .ok (.aload_n 0, 1) := by decide +kernel
theorem dX10_restore_57 : decode cX10_restore 57 = .ok (.aload_n 0, 1) := by decide +kernel
theorem dX10_restore_58 : decode cX10_restore 58 = .ok (.getfield 105, 3) := by decide +kernel
theorem dX10_restore_61 : decode cX10_restore 61 = .ok (.aload_n 0, 1) := by decide +kernel
theorem dX10_restore_62 : decode cX10_restore 62 = .ok (.getfield 75, 3) := by decide +kernel
theorem dX10_restore_65 : decode cX10_restore 65 = .ok (.invokevirtual 297, 3) := by decide +kernel
theorem dX10_restore_68 : decode cX10_restore 68 = .ok (.aload_n 0, 1) := by decide +kernel
theorem dX10_restore_69 : decode cX10_restore 69 = .ok (.aload_n 0, 1) := by decide +kernel
theorem dX10_restore_70 : decode cX10_restore 70 = .ok (.getfield 108, 3) := by decide +kernel
theorem dX10_restore_73 : decode cX10_restore 73 = .ok (.aload_n 0, 1) := by decide +kernel
theorem dX10_restore_74 : decode cX10_restore 74 = .ok (.getfield 93, 3) := by decide +kernel
theorem dX10_restore_77 : decode cX10_restore 77 = .ok (.invokevirtual 297, 3) := by decide +kernel
theorem dX10_restore_80 : decode cX10_restore 80 = .ok (.iconst 1, 1) := by decide +kernel
theorem dX10_restore_81 : decode cX10_restore 81 = .ok (.ireturn, 1) := by decide +kernel
