theorem dX9_init_0 : decode cX9_init 0 = .ok (.aload_n 0, 1) := by decide +kernel
theorem dX9_init_1 : decode cX9_init 1 = .ok (.invokespecial 3, 3) := by decide +kernel
theorem dX9_init_4 : decode cX9_init 4 = .ok (.aload_n 0, 1) := by decide +kernel
theorem dX9_init_5 : decode cX9_init 5 = .ok (.sipush 700, 3) := by decide +kernel
theorem dX9_init_8 : decode cX9_init 8 = .ok (.newarray .byte, 2) := by decide +kernel
theorem dX9_init_10 : decode cX9_init 10 = .ok (.putfield 9, 3) := by decide +kernel
theorem dX9_init_13 : decode cX9_init 13 = .ok (.aload_n 0, 1) := by decide +kernel
theorem dX9_init_14 : decode cX9_init 14 = .ok (.iconst 0, 1) := by decide +kernel
theorem dX9_init_15 : decode cX9_init 15 = .ok (.putfield 13, 3) := by decide +kernel
theorem dX9_init_18 : decode cX9_init 18 = .ok (.aload_n 0, 1) := by decide +kernel
theorem dX9_init_19 : decode cX9_init 19 = .ok (.new 17, 3) := by decide +kernel
theorem dX9_init_22 : decode cX9_init 22 = .ok (.dup, 1) := by decide +kernel
theorem dX9_init_23 : decode cX9_init 23 = .ok (.invokespecial 19, 3) := by decide +kernel
theorem dX9_init_26 : decode cX9_init 26 = .ok (.putfield 20, 3) := by decide +kernel
theorem dX9_init_29 : decode cX9_init 29 = .ok (.aload_n 0, 1) := by decide +kernel
theorem dX9_init_30 : decode cX9_init 30 = .ok (.iconst (-1), 1) := by decide +kernel
theorem dX9_init_31 : decode cX9_init 31 = .ok (.putfield 24, 3) := by decide +kernel
theorem dX9_init_34 : decode cX9_init 34 = .ok (.aload_n 0, 1) := by decide +kernel
theorem dX9_init_35 : decode cX9_init 35 = .ok (.iconst 3, 1) := by decide +kernel
theorem dX9_init_36 : decode cX9_init 36 = .ok (.newarray .int, 2) := by decide +kernel
theorem dX9_init_38 : decode cX9_init 38 = .ok (.putfield 27, 3) := by decide +kernel
theorem dX9_init_41 : decode cX9_init 41 = .ok (.aload_n 0, 1) := by decide +kernel
theorem dX9_init_42 : decode cX9_init 42 = .ok (.new 31, 3) := by decide +kernel
theorem dX9_init_45 : decode cX9_init 45 = .ok (.dup, 1) := by decide +kernel
theorem dX9_init_46 : decode cX9_init 46 = .ok (.invokespecial 33, 3) := by decide +kernel
theorem dX9_init_49 : decode cX9_init 49 = .ok (.putfield 34, 3) := by decide +kernel
theorem dX9_init_52 : decode cX9_init 52 = .ok (.aload_n 0, 1) := by decide +kernel
theorem dX9_init_53 : decode cX9_init 53 = .ok (.new 31, 3) := by decide +kernel
theorem dX9_init_56 : decode cX9_init 56 = .ok (.dup, 1) := by decide +kernel
theorem dX9_init_57 : decode cX9_init 57 = .ok (.invokespecial 33, 3) := by decide +kernel
theorem dX9_init_60 : decode cX9_init 60 = .ok (.putfield 38, 3) := by decide +kernel
theorem dX9_init_63 : decode cX9_init 63 = .ok (.aload_n 0, 1) := by decide +kernel
theorem dX9_init_64 : decode cX9_init 64 = .ok (.new 41, 3) := by decide +kernel
theorem dX9_init_67 : decode cX9_init 67 = .ok (.dup, 1) := by decide +kernel
theorem dX9_init_68 : decode cX9_init 68 = .ok (.invokespecial 43, 3) := by decide +kernel
theorem dX9_init_71 : decode cX9_init 71 = .ok (.putfield 44, 3) := by decide +kernel
theorem dX9_init_74 : decode cX9_init 74 = .ok (.aload_n 0, 1) := by decide +kernel
theorem dX9_init_75 : decode cX9_init 75 = .ok (.new 41, 3) := by decide +kernel
theorem dX9_init_78 : decode cX9_init 78 = .ok (.dup, 1) := by decide +kernel
theorem dX9_init_79 : decode cX9_init 79 = .ok (.invokespecial 43, 3) := by decide +kernel
theorem dX9_init_82 : decode cX9_init 82 = .ok (.putfield 48, 3) := by decide +kernel
theorem dX9_init_85 : decode cX9_init 85 = .ok (.aload_n 0, 1) := by decide +kernel
theorem dX9_init_86 : decode cX9_init 86 = .ok (.new 51, 3) := by decide +kernel
theorem dX9_init_89 : decode cX9_init 89 = .ok (.dup, 1) := by decide +kernel
theorem dX9_init_90 : decode cX9_init 90 = .ok (.invokespecial 53, 3) := by decide +kernel
theorem dX9_init_93 : decode cX9_init 93 = .ok (.putfield 54, 3) := by decide +kernel
theorem dX9_init_96 : decode cX9_init 96 = .ok (.aload_n 0, 1) := by decide +kernel
theorem dX9_init_97 : decode cX9_init 97 = .ok (.new 58, 3) := by decide +kernel
theorem dX9_init_100 : decode cX9_init 100 = .ok (.dup, 1) := by decide +kernel
theorem dX9_init_101 : decode cX9_init 101 = .ok (.invokespecial 60, 3) := by decide +kernel
theorem dX9_init_104 : decode cX9_init 104 = .ok (.putfield 61, 3) := by decide +kernel
theorem dX9_init_107 : decode cX9_init 107 = .ok (.aload_n 0, 1) := by decide +kernel
theorem dX9_init_108 : decode cX9_init 108 = .ok (.iconst 0, 1) := by decide +kernel
theorem dX9_init_109 : decode cX9_init 109 = .ok (.putfield 65, 3) := by decide +kernel
theorem dX9_init_112 : decode cX9_init 112 = .ok (.aload_n 0, 1) := by decide +kernel
theorem dX9_init_113 : decode cX9_init 113 = .ok (.new 41, 3) := by decide +kernel
theorem dX9_init_116 : decode cX9_init 116 = .ok (.dup, 1) := by decide +kernel
theorem dX9_init_117 : decode cX9_init 117 = .ok (.invokespecial 43, 3) := by decide +kernel
theorem dX9_init_120 : decode cX9_init 120 = .ok (.putfield 69, 3) := by decide +kernel
theorem dX9_init_123 : decode cX9_init 123 = .ok (.aload_n 0, 1) := by decide +kernel
theorem dX9_init_124 : decode cX9_init 124 = .ok (.new 51, 3) := by decide +kernel
theorem dX9_init_127 : decode cX9_init 127 = .ok (.dup, 1) := by decide +kernel
theorem dX9_init_128 : decode cX9_init 128 = .ok (.invokespecial 53, 3) := by decide +kernel
theorem dX9_init_131 : decode cX9_init 131 = .ok (.putfield 72, 3) := by decide +kernel
theorem dX9_init_134 : decode cX9_init 134 = .ok (.aload_n 0, 1) := by decide +kernel
theorem dX9_init_135 : decode cX9_init 135 = .ok (.new 58, 3) := by decide +kernel
theorem dX9_init_138 : decode cX9_init 138 = .ok (.dup, 1) := by decide +kernel
theorem dX9_init_139 : decode cX9_init 139 = .ok (.invokespecial 60, 3) := by decide +kernel
theorem dX9_init_142 : decode cX9_init 142 = .ok (.putfield 75, 3) := by decide +kernel
theorem dX9_init_145 : decode cX9_init 145 = .ok (.aload_n 0, 1) := by decide +kernel
theorem dX9_init_146 : decode cX9_init 146 = .ok (.new 78, 3) := by decide +kernel
theorem dX9_init_149 : decode cX9_init 149 = .ok (.dup, 1) := by decide +kernel
theorem dX9_init_150 : decode cX9_init 150 = .ok (.invokespecial 80, 3) := by decide +kernel
theorem dX9_init_153 : decode cX9_init 153 = .ok (.putfield 81, 3) := by decide +kernel
theorem dX9_init_156 : decode cX9_init 156 = .ok (.aload_n 0, 1) := by decide +kernel
theorem dX9_init_157 : decode cX9_init 157 = .ok (.sipush 512, 3) := by decide +kernel
theorem dX9_init_160 : decode cX9_init 160 = .ok (.newarray .int, 2) := by decide +kernel
theorem dX9_init_162 : decode cX9_init 162 = .ok (.putfield 85, 3) := by decide +kernel
theorem dX9_init_165 : decode cX9_init 165 = .ok (.aload_n 0, 1) := by decide +kernel
theorem dX9_init_166 : decode cX9_init 166 = .ok (.bipush 8, 2) := by decide +kernel
theorem dX9_init_168 : decode cX9_init 168 = .ok (.newarray .int, 2) := by decide +kernel
theorem dX9_init_170 : decode cX9_init 170 = .ok (.putfield 88, 3) := by decide +kernel
theorem dX9_init_173 : decode cX9_init 173 = .ok (.aload_n 0, 1) := by decide +kernel
theorem dX9_init_174 : decode cX9_init 174 = .ok (.iconst 0, 1) := by decide +kernel
theorem dX9_init_175 : decode cX9_init 175 = .ok (.putfield 91, 3) := by decide +kernel
theorem dX9_init_178 : decode cX9_init 178 = .ok (.return_, 1) := by decide +kernel
theorem dX9_feed_0 : decode cX9_feed 0 = .ok (.aload_n 0, 1) := by decide +kernel
theorem dX9_feed_1 : decode cX9_feed 1 = .ok (.getfield 13, 3) := by decide +kernel
theorem dX9_feed_4 : decode cX9_feed 4 = .ok (.sipush 680, 3) := by decide +kernel
theorem dX9_feed_7 : decode cX9_feed 7 = .ok (.if_icmp .le 5, 3) := by decide +kernel
theorem dX9_feed_10 : decode cX9_feed 10 = .ok (.iconst (-1), 1) := by decide +kernel
theorem dX9_feed_11 : decode cX9_feed 11 = .ok (.ireturn, 1) := by decide +kernel
theorem dX9_feed_12 : decode cX9_feed 12 = .ok (.aload_n 0, 1) := by decide +kernel
theorem dX9_feed_13 : decode cX9_feed 13 = .ok (.iload_n 1, 1) := by decide +kernel
theorem dX9_feed_14 : decode cX9_feed 14 = .ok (.invokevirtual 94, 3) := by decide +kernel
theorem dX9_feed_17 : decode cX9_feed 17 = .ok (.aload_n 0, 1) := by decide +kernel
theorem dX9_feed_18 : decode cX9_feed 18 = .ok (.iload_n 2, 1) := by decide +kernel
theorem dX9_feed_19 : decode cX9_feed 19 = .ok (.invokevirtual 94, 3) := by decide +kernel
theorem dX9_feed_22 : decode cX9_feed 22 = .ok (.aload_n 0, 1) := by decide +kernel
theorem dX9_feed_23 : decode cX9_feed 23 = .ok (.iload_n 3, 1) := by decide +kernel
theorem dX9_feed_24 : decode cX9_feed 24 = .ok (.invokevirtual 94, 3) := by decide +kernel
theorem dX9_feed_27 : decode cX9_feed 27 = .ok (.aload_n 0, 1) := by decide +kernel
theorem dX9_feed_28 : decode cX9_feed 28 = .ok (.iload 4, 2) := by decide +kernel
theorem dX9_feed_30 : decode cX9_feed 30 = .ok (.invokevirtual 94, 3) := by decide +kernel
theorem dX9_feed_33 : decode cX9_feed 33 = .ok (.aload_n 0, 1) := by decide +kernel
theorem dX9_feed_34 : decode cX9_feed 34 = .ok (.iload 5, 2) := by decide +kernel
theorem dX9_feed_36 : decode cX9_feed 36 = .ok (.invokevirtual 94, 3) := by decide +kernel
theorem dX9_feed_39 : decode cX9_feed 39 = .ok (.aload_n 0, 1) := by decide +kernel
theorem dX9_feed_40 : decode cX9_feed 40 = .ok (.getfield 13, 3) := by decide +kernel
theorem dX9_feed_43 : decode cX9_feed 43 = .ok (.ireturn, 1) := by decide +kernel
theorem dX9_putBytes_0 : decode cX9_putBytes 0 = .ok (.bipush 24, 2) := by decide +kernel
theorem dX9_putBytes_2 : decode cX9_putBytes 2 = .ok (.istore_n 2, 1) := by decide +kernel
theorem dX9_putBytes_3 : decode cX9_putBytes 3 = .ok (.iload_n 2, 1) := by decide +kernel
theorem dX9_putBytes_4 : decode cX9_putBytes 4 = .ok (.ifCond .lt 44, 3) := by decide +kernel
theorem dX9_putBytes_7 : decode cX9_putBytes 7 = .ok (.aload_n 0, 1) := by decide +kernel
theorem dX9_putBytes_8 : decode cX9_putBytes 8 = .ok (.getfield 13, 3) := by decide +kernel
theorem dX9_putBytes_11 : decode cX9_putBytes 11 = .ok (.aload_n 0, 1) := by decide +kernel
theorem dX9_putBytes_12 : decode cX9_putBytes 12 = .ok (.getfield 9, 3) := by decide +kernel
theorem dX9_putBytes_15 : decode cX9_putBytes 15 = .ok (.arraylength, 1) := by decide +kernel
theorem dX9_putBytes_16 : decode cX9_putBytes 16 = .ok (.if_icmp .ge 26, 3) := by decide +kernel
theorem dX9_putBytes_19 : decode cX9_putBytes 19 = .ok (.aload_n 0, 1) := by decide +kernel
theorem dX9_putBytes_20 : decode cX9_putBytes 20 = .ok (.getfield 9, 3) := by decide +kernel
theorem dX9_putBytes_23 : decode cX9_putBytes 23 = .ok (.aload_n 0, 1) := by decide +kernel
theorem dX9_putBytes_24 : decode cX9_putBytes 24 = .ok (.getfield 13, 3) := by decide +kernel
theorem dX9_putBytes_27 : decode cX9_putBytes 27 = .ok (.iload_n 1, 1) := by decide +kernel
theorem dX9_putBytes_28 : decode cX9_putBytes 28 = .ok (.iload_n 2, 1) := by decide +kernel
theorem dX9_putBytes_29 : decode cX9_putBytes 29 = .ok (.iushr, 1) := by decide +kernel
theorem dX9_putBytes_30 : decode cX9_putBytes 30 = .ok (.i2b, 1) := by decide +kernel
theorem dX9_putBytes_31 : decode cX9_putBytes 31 = .ok (.bastore, 1) := by decide +kernel
theorem dX9_putBytes_32 : decode cX9_putBytes 32 = .ok (.aload_n 0, 1) := by decide +kernel
theorem dX9_putBytes_33 : decode cX9_putBytes 33 = .ok (.dup, 1) := by decide +kernel
theorem dX9_putBytes_34 : decode cX9_putBytes 34 = .ok (.getfield 13, 3) := by decide +kernel
theorem dX9_putBytes_37 : decode cX9_putBytes 37 = .ok (.iconst 1, 1) := by decide +kernel
theorem dX9_putBytes_38 : decode cX9_putBytes 38 = .ok (.iadd, 1) := by decide +kernel
theorem dX9_putBytes_39 : decode cX9_putBytes 39 = .ok (.putfield 13, 3) := by decide +kernel
theorem dX9_putBytes_42 : decode cX9_putBytes 42 = .ok (.iinc 2 (-8), 3) := by decide +kernel
theorem dX9_putBytes_45 : decode cX9_putBytes 45 = .ok (.goto (-42), 3) := by decide +kernel
theorem dX9_putBytes_48 : decode cX9_putBytes 48 = .ok (.return_, 1) := by decide +kernel
theorem dX9_city_0 : decode cX9_city 0 = .ok (.iload_n 1, 1) := by decide +kernel
theorem dX9_city_1 : decode cX9_city 1 = .ok (.ifCond .lt 11, 3) := by decide +kernel
theorem dX9_city_4 : decode cX9_city 4 = .ok (.iload_n 1, 1) := by decide +kernel
theorem dX9_city_5 : decode cX9_city 5 = .ok (.aload_n 0, 1) := by decide +kernel
theorem dX9_city_6 : decode cX9_city 6 = .ok (.getfield 13, 3) := by decide +kernel
theorem dX9_city_9 : decode cX9_city 9 = .ok (.if_icmp .le 13, 3) := by decide +kernel
theorem dX9_city_12 : decode cX9_city 12 = .ok (.new 98, 3) := by decide +kernel
theorem dX9_city_15 : decode cX9_city 15 = .ok (.dup, 1) := by decide +kernel
theorem dX9_city_16 : decode cX9_city 16 = .ok (.ldc 100, 2) := by decide +kernel
theorem dX9_city_18 : decode cX9_city 18 = .ok (.invokespecial 102, 3) := by decide +kernel
theorem dX9_city_21 : decode cX9_city 21 = .ok (.athrow, 1) := by decide +kernel
theorem dX9_city_22 : decode cX9_city 22 = .ok (.aload_n 0, 1) := by decide +kernel
theorem dX9_city_23 : decode cX9_city 23 = .ok (.iconst 0, 1) := by decide +kernel
theorem dX9_city_24 : decode cX9_city 24 = .ok (.putfield 13, 3) := by decide +kernel
theorem dX9_city_27 : decode cX9_city 27 = .ok (.aload_n 0, 1) := by decide +kernel
theorem dX9_city_28 : decode cX9_city 28 = .ok (.getfield 20, 3) := by decide +kernel
theorem dX9_city_31 : decode cX9_city 31 = .ok (.aload_n 0, 1) := by decide +kernel
theorem dX9_city_32 : decode cX9_city 32 = .ok (.getfield 9, 3) := by decide +kernel
theorem dX9_city_35 : decode cX9_city 35 = .ok (.iload_n 1, 1) := by decide +kernel
theorem dX9_city_36 : decode cX9_city 36 = .ok (.aload_n 0, 1) := by decide +kernel
theorem dX9_city_37 : decode cX9_city 37 = .ok (.getfield 38, 3) := by decide +kernel
theorem dX9_city_40 : decode cX9_city 40 = .ok (.invokevirtual 105, 3) := by decide +kernel
theorem dX9_city_43 : decode cX9_city 43 = .ok (.istore_n 2, 1) := by decide +kernel
theorem dX9_city_44 : decode cX9_city 44 = .ok (.aload_n 0, 1) := by decide +kernel
theorem dX9_city_45 : decode cX9_city 45 = .ok (.aload_n 0, 1) := by decide +kernel
theorem dX9_city_46 : decode cX9_city 46 = .ok (.getfield 20, 3) := by decide +kernel
theorem dX9_city_49 : decode cX9_city 49 = .ok (.invokevirtual 109, 3) := by decide +kernel
theorem dX9_city_52 : decode cX9_city 52 = .ok (.putfield 24, 3) := by decide +kernel
theorem dX9_city_55 : decode cX9_city 55 = .ok (.iload_n 2, 1) := by decide +kernel
theorem dX9_city_56 : decode cX9_city 56 = .ok (.ifCond .eq 15, 3) := by decide +kernel
theorem dX9_city_59 : decode cX9_city 59 = .ok (.aload_n 0, 1) := by decide +kernel
theorem dX9_city_60 : decode cX9_city 60 = .ok (.getfield 27, 3) := by decide +kernel
theorem dX9_city_63 : decode cX9_city 63 = .ok (.iconst 0, 1) := by decide +kernel
theorem dX9_city_64 : decode cX9_city 64 = .ok (.dup2, 1) := by decide +kernel
theorem dX9_city_65 : decode cX9_city 65 = .ok (.iaload, 1) := by decide +kernel
theorem dX9_city_66 : decode cX9_city 66 = .ok (.iconst 1, 1) := by decide +kernel
theorem dX9_city_67 : decode cX9_city 67 = .ok (.iadd, 1) := by decide +kernel
theorem dX9_city_68 : decode cX9_city 68 = .ok (.iastore, 1) := by decide +kernel
theorem dX9_city_69 : decode cX9_city 69 = .ok (.iload_n 2, 1) := by decide +kernel
theorem dX9_city_70 : decode cX9_city 70 = .ok (.ireturn, 1) := by decide +kernel
theorem dX9_city_71 : decode cX9_city 71 = .ok (.aload_n 0, 1) := by decide +kernel
theorem dX9_city_72 : decode cX9_city 72 = .ok (.getfield 34, 3) := by decide +kernel
theorem dX9_city_75 : decode cX9_city 75 = .ok (.astore_n 3, 1) := by decide +kernel
theorem dX9_city_76 : decode cX9_city 76 = .ok (.aload_n 0, 1) := by decide +kernel
theorem dX9_city_77 : decode cX9_city 77 = .ok (.aload_n 0, 1) := by decide +kernel
theorem dX9_city_78 : decode cX9_city 78 = .ok (.getfield 38, 3) := by decide +kernel
theorem dX9_city_81 : decode cX9_city 81 = .ok (.putfield 34, 3) := by decide +kernel
theorem dX9_city_84 : decode cX9_city 84 = .ok (.aload_n 0, 1) := by decide +kernel
theorem dX9_city_85 : decode cX9_city 85 = .ok (.aload_n 3, 1) := by decide +kernel
theorem dX9_city_86 : decode cX9_city 86 = .ok (.putfield 38, 3) := by decide +kernel
theorem dX9_city_89 : decode cX9_city 89 = .ok (.aload_n 0, 1) := by decide +kernel
theorem dX9_city_90 : decode cX9_city 90 = .ok (.getfield 44, 3) := by decide +kernel
theorem dX9_city_93 : decode cX9_city 93 = .ok (.aload_n 0, 1) := by decide +kernel
theorem dX9_city_94 : decode cX9_city 94 = .ok (.getfield 34, 3) := by decide +kernel
theorem dX9_city_97 : decode cX9_city 97 = .ok (.invokevirtual 113, 3) := by decide +kernel
theorem dX9_city_100 : decode cX9_city 100 = .ok (.aload_n 0, 1) := by decide +kernel
theorem dX9_city_101 : decode cX9_city 101 = .ok (.getfield 54, 3) := by decide +kernel
theorem dX9_city_104 : decode cX9_city 104 = .ok (.invokevirtual 117, 3) := by decide +kernel
theorem dX9_city_107 : decode cX9_city 107 = .ok (.aload_n 0, 1) := by decide +kernel
theorem dX9_city_108 : decode cX9_city 108 = .ok (.getfield 61, 3) := by decide +kernel
theorem dX9_city_111 : decode cX9_city 111 = .ok (.invokevirtual 120, 3) := by decide +kernel
theorem dX9_city_114 : decode cX9_city 114 = .ok (.aload_n 0, 1) := by decide +kernel
theorem dX9_city_115 : decode cX9_city 115 = .ok (.iconst 0, 1) := by decide +kernel
theorem dX9_city_116 : decode cX9_city 116 = .ok (.putfield 65, 3) := by decide +kernel
theorem dX9_city_119 : decode cX9_city 119 = .ok (.aload_n 0, 1) := by decide +kernel
theorem dX9_city_120 : decode cX9_city 120 = .ok (.getfield 81, 3) := by decide +kernel
theorem dX9_city_123 : decode cX9_city 123 = .ok (.invokevirtual 121, 3) := by decide +kernel
theorem dX9_city_126 : decode cX9_city 126 = .ok (.iconst 0, 1) := by decide +kernel
theorem dX9_city_127 : decode cX9_city 127 = .ok (.ireturn, 1) := by decide +kernel
theorem dX9_fault_0 : decode cX9_fault 0 = .ok (.aload_n 0, 1) := by decide +kernel
theorem dX9_fault_1 : decode cX9_fault 1 = .ok (.getfield 24, 3) := by decide +kernel
theorem dX9_fault_4 : decode cX9_fault 4 = .ok (.ireturn, 1) := by decide +kernel
theorem dX9_count_0 : decode cX9_count 0 = .ok (.iload_n 1, 1) := by decide +kernel
theorem dX9_count_1 : decode cX9_count 1 = .ok (.tableswitch 231 0 15 #[79, 87, 95, 103, 118, 134, 149, 157, 165, 177, 189, 197, 205, 210, 217, 224], 79) := by decide +kernel
theorem dX9_count_80 : decode cX9_count 80 = .ok (.aload_n 0, 1) := by decide +kernel
theorem dX9_count_81 : decode cX9_count 81 = .ok (.getfield 34, 3) := by decide +kernel
theorem dX9_count_84 : decode cX9_count 84 = .ok (.getfield 122, 3) := by decide +kernel
theorem dX9_count_87 : decode cX9_count 87 = .ok (.ireturn, 1) := by decide +kernel
theorem dX9_count_88 : decode cX9_count 88 = .ok (.aload_n 0, 1) := by decide +kernel
theorem dX9_count_89 : decode cX9_count 89 = .ok (.getfield 34, 3) := by decide +kernel
theorem dX9_count_92 : decode cX9_count 92 = .ok (.getfield 125, 3) := by decide +kernel
theorem dX9_count_95 : decode cX9_count 95 = .ok (.ireturn, 1) := by decide +kernel
theorem dX9_count_96 : decode cX9_count 96 = .ok (.aload_n 0, 1) := by decide +kernel
theorem dX9_count_97 : decode cX9_count 97 = .ok (.getfield 44, 3) := by decide +kernel
theorem dX9_count_100 : decode cX9_count 100 = .ok (.invokevirtual 128, 3) := by decide +kernel
theorem dX9_count_103 : decode cX9_count 103 = .ok (.ireturn, 1) := by decide +kernel
theorem dX9_count_104 : decode cX9_count 104 = .ok (.aload_n 0, 1) := by decide +kernel
theorem dX9_count_105 : decode cX9_count 105 = .ok (.getfield 34, 3) := by decide +kernel
theorem dX9_count_108 : decode cX9_count 108 = .ok (.aload_n 0, 1) := by decide +kernel
theorem dX9_count_109 : decode cX9_count 109 = .ok (.getfield 44, 3) := by decide +kernel
theorem dX9_count_112 : decode cX9_count 112 = .ok (.invokevirtual 128, 3) := by decide +kernel
theorem dX9_count_115 : decode cX9_count 115 = .ok (.invokevirtual 131, 3) := by decide +kernel
theorem dX9_count_118 : decode cX9_count 118 = .ok (.ireturn, 1) := by decide +kernel
theorem dX9_count_119 : decode cX9_count 119 = .ok (.aload_n 0, 1) := by decide +kernel
theorem dX9_count_120 : decode cX9_count 120 = .ok (.getfield 44, 3) := by decide +kernel
theorem dX9_count_123 : decode cX9_count 123 = .ok (.invokevirtual 135, 3) := by decide +kernel
theorem dX9_count_126 : decode cX9_count 126 = .ok (.ifCond .eq 7, 3) := by decide +kernel
theorem dX9_count_129 : decode cX9_count 129 = .ok (.iconst 1, 1) := by decide +kernel
theorem dX9_count_130 : decode cX9_count 130 = .ok (.goto 4, 3) := by decide +kernel
theorem dX9_count_133 : decode cX9_count 133 = .ok (.iconst 0, 1) := by decide +kernel
theorem dX9_count_134 : decode cX9_count 134 = .ok (.ireturn, 1) := by decide +kernel
theorem dX9_count_135 : decode cX9_count 135 = .ok (.aload_n 0, 1) := by decide +kernel
theorem dX9_count_136 : decode cX9_count 136 = .ok (.getfield 34, 3) := by decide +kernel
theorem dX9_count_139 : decode cX9_count 139 = .ok (.aload_n 0, 1) := by decide +kernel
theorem dX9_count_140 : decode cX9_count 140 = .ok (.getfield 44, 3) := by decide +kernel
theorem dX9_count_143 : decode cX9_count 143 = .ok (.invokevirtual 128, 3) := by decide +kernel
theorem dX9_count_146 : decode cX9_count 146 = .ok (.invokevirtual 139, 3) := by decide +kernel
theorem dX9_count_149 : decode cX9_count 149 = .ok (.ireturn, 1) := by decide +kernel
theorem dX9_count_150 : decode cX9_count 150 = .ok (.aload_n 0, 1) := by decide +kernel
theorem dX9_count_151 : decode cX9_count 151 = .ok (.getfield 44, 3) := by decide +kernel
theorem dX9_count_154 : decode cX9_count 154 = .ok (.invokevirtual 142, 3) := by decide +kernel
theorem dX9_count_157 : decode cX9_count 157 = .ok (.ireturn, 1) := by decide +kernel
theorem dX9_count_158 : decode cX9_count 158 = .ok (.aload_n 0, 1) := by decide +kernel
theorem dX9_count_159 : decode cX9_count 159 = .ok (.getfield 44, 3) := by decide +kernel
theorem dX9_count_162 : decode cX9_count 162 = .ok (.invokevirtual 145, 3) := by decide +kernel
theorem dX9_count_165 : decode cX9_count 165 = .ok (.ireturn, 1) := by decide +kernel
theorem dX9_count_166 : decode cX9_count 166 = .ok (.aload_n 0, 1) := by decide +kernel
theorem dX9_count_167 : decode cX9_count 167 = .ok (.getfield 34, 3) := by decide +kernel
theorem dX9_count_170 : decode cX9_count 170 = .ok (.aload_n 0, 1) := by decide +kernel
theorem dX9_count_171 : decode cX9_count 171 = .ok (.getfield 44, 3) := by decide +kernel
theorem dX9_count_174 : decode cX9_count 174 = .ok (.invokevirtual 148, 3) := by decide +kernel
theorem dX9_count_177 : decode cX9_count 177 = .ok (.ireturn, 1) := by decide +kernel
theorem dX9_count_178 : decode cX9_count 178 = .ok (.aload_n 0, 1) := by decide +kernel
theorem dX9_count_179 : decode cX9_count 179 = .ok (.getfield 34, 3) := by decide +kernel
theorem dX9_count_182 : decode cX9_count 182 = .ok (.aload_n 0, 1) := by decide +kernel
theorem dX9_count_183 : decode cX9_count 183 = .ok (.getfield 44, 3) := by decide +kernel
theorem dX9_count_186 : decode cX9_count 186 = .ok (.invokevirtual 152, 3) := by decide +kernel
theorem dX9_count_189 : decode cX9_count 189 = .ok (.ireturn, 1) := by decide +kernel
theorem dX9_count_190 : decode cX9_count 190 = .ok (.aload_n 0, 1) := by decide +kernel
theorem dX9_count_191 : decode cX9_count 191 = .ok (.getfield 54, 3) := by decide +kernel
theorem dX9_count_194 : decode cX9_count 194 = .ok (.getfield 155, 3) := by decide +kernel
theorem dX9_count_197 : decode cX9_count 197 = .ok (.ireturn, 1) := by decide +kernel
theorem dX9_count_198 : decode cX9_count 198 = .ok (.aload_n 0, 1) := by decide +kernel
theorem dX9_count_199 : decode cX9_count 199 = .ok (.getfield 61, 3) := by decide +kernel
theorem dX9_count_202 : decode cX9_count 202 = .ok (.getfield 158, 3) := by decide +kernel
theorem dX9_count_205 : decode cX9_count 205 = .ok (.ireturn, 1) := by decide +kernel
theorem dX9_count_206 : decode cX9_count 206 = .ok (.aload_n 0, 1) := by decide +kernel
theorem dX9_count_207 : decode cX9_count 207 = .ok (.getfield 13, 3) := by decide +kernel
theorem dX9_count_210 : decode cX9_count 210 = .ok (.ireturn, 1) := by decide +kernel
theorem dX9_count_211 : decode cX9_count 211 = .ok (.aload_n 0, 1) := by decide +kernel
theorem dX9_count_212 : decode cX9_count 212 = .ok (.getfield 27, 3) := by decide +kernel
theorem dX9_count_215 : decode cX9_count 215 = .ok (.iconst 0, 1) := by decide +kernel
theorem dX9_count_216 : decode cX9_count 216 = .ok (.iaload, 1) := by decide +kernel
theorem dX9_count_217 : decode cX9_count 217 = .ok (.ireturn, 1) := by decide +kernel
theorem dX9_count_218 : decode cX9_count 218 = .ok (.aload_n 0, 1) := by decide +kernel
theorem dX9_count_219 : decode cX9_count 219 = .ok (.getfield 27, 3) := by decide +kernel
theorem dX9_count_222 : decode cX9_count 222 = .ok (.iconst 1, 1) := by decide +kernel
theorem dX9_count_223 : decode cX9_count 223 = .ok (.iaload, 1) := by decide +kernel
theorem dX9_count_224 : decode cX9_count 224 = .ok (.ireturn, 1) := by decide +kernel
theorem dX9_count_225 : decode cX9_count 225 = .ok (.aload_n 0, 1) := by decide +kernel
theorem dX9_count_226 : decode cX9_count 226 = .ok (.getfield 27, 3) := by decide +kernel
theorem dX9_count_229 : decode cX9_count 229 = .ok (.iconst 2, 1) := by decide +kernel
theorem dX9_count_230 : decode cX9_count 230 = .ok (.iaload, 1) := by decide +kernel
theorem dX9_count_231 : decode cX9_count 231 = .ok (.ireturn, 1) := by decide +kernel
theorem dX9_count_232 : decode cX9_count 232 = .ok (.new 159, 3) := by decide +kernel
theorem dX9_count_235 : decode cX9_count 235 = .ok (.dup, 1) := by decide +kernel
theorem dX9_count_236 : decode cX9_count 236 = .ok (.ldc 161, 2) := by decide +kernel
theorem dX9_count_238 : decode cX9_count 238 = .ok (.invokespecial 163, 3) := by decide +kernel
theorem dX9_count_241 : decode cX9_count 241 = .ok (.athrow, 1) := by decide +kernel
theorem dX9_box_0 : decode cX9_box 0 = .ok (.aload_n 0, 1) := by decide +kernel
theorem dX9_box_1 : decode cX9_box 1 = .ok (.iload_n 1, 1) := by decide +kernel
theorem dX9_box_2 : decode cX9_box 2 = .ok (.invokevirtual 164, 3) := by decide +kernel
theorem dX9_box_5 : decode cX9_box 5 = .ok (.iload_n 2, 1) := by decide +kernel
theorem dX9_box_6 : decode cX9_box 6 = .ok (.tableswitch 80 0 4 #[34, 44, 53, 62, 71], 34) := by decide +kernel
theorem dX9_box_40 : decode cX9_box 40 = .ok (.aload_n 0, 1) := by decide +kernel
theorem dX9_box_41 : decode cX9_box 41 = .ok (.getfield 34, 3) := by decide +kernel
theorem dX9_box_44 : decode cX9_box 44 = .ok (.getfield 167, 3) := by decide +kernel
theorem dX9_box_47 : decode cX9_box 47 = .ok (.iload_n 1, 1) := by decide +kernel
theorem dX9_box_48 : decode cX9_box 48 = .ok (.iaload, 1) := by decide +kernel
theorem dX9_box_49 : decode cX9_box 49 = .ok (.ireturn, 1) := by decide +kernel
theorem dX9_box_50 : decode cX9_box 50 = .ok (.aload_n 0, 1) := by decide +kernel
theorem dX9_box_51 : decode cX9_box 51 = .ok (.getfield 44, 3) := by decide +kernel
theorem dX9_box_54 : decode cX9_box 54 = .ok (.iload_n 1, 1) := by decide +kernel
theorem dX9_box_55 : decode cX9_box 55 = .ok (.invokevirtual 170, 3) := by decide +kernel
theorem dX9_box_58 : decode cX9_box 58 = .ok (.ireturn, 1) := by decide +kernel
theorem dX9_box_59 : decode cX9_box 59 = .ok (.aload_n 0, 1) := by decide +kernel
theorem dX9_box_60 : decode cX9_box 60 = .ok (.getfield 44, 3) := by decide +kernel
theorem dX9_box_63 : decode cX9_box 63 = .ok (.iload_n 1, 1) := by decide +kernel
theorem dX9_box_64 : decode cX9_box 64 = .ok (.invokevirtual 173, 3) := by decide +kernel
theorem dX9_box_67 : decode cX9_box 67 = .ok (.ireturn, 1) := by decide +kernel
theorem dX9_box_68 : decode cX9_box 68 = .ok (.aload_n 0, 1) := by decide +kernel
theorem dX9_box_69 : decode cX9_box 69 = .ok (.getfield 34, 3) := by decide +kernel
theorem dX9_box_72 : decode cX9_box 72 = .ok (.iload_n 1, 1) := by decide +kernel
theorem dX9_box_73 : decode cX9_box 73 = .ok (.invokevirtual 176, 3) := by decide +kernel
theorem dX9_box_76 : decode cX9_box 76 = .ok (.ireturn, 1) := by decide +kernel
theorem dX9_box_77 : decode cX9_box 77 = .ok (.aload_n 0, 1) := by decide +kernel
theorem dX9_box_78 : decode cX9_box 78 = .ok (.getfield 34, 3) := by decide +kernel
theorem dX9_box_81 : decode cX9_box 81 = .ok (.iload_n 1, 1) := by decide +kernel
theorem dX9_box_82 : decode cX9_box 82 = .ok (.invokevirtual 179, 3) := by decide +kernel
theorem dX9_box_85 : decode cX9_box 85 = .ok (.ireturn, 1) := by decide +kernel
theorem dX9_box_86 : decode cX9_box 86 = .ok (.new 159, 3) := by decide +kernel
theorem dX9_box_89 : decode cX9_box 89 = .ok (.dup, 1) := by decide +kernel
theorem dX9_box_90 : decode cX9_box 90 = .ok (.ldc 161, 2) := by decide +kernel
theorem dX9_box_92 : decode cX9_box 92 = .ok (.invokespecial 163, 3) := by decide +kernel
theorem dX9_box_95 : decode cX9_box 95 = .ok (.athrow, 1) := by decide +kernel
theorem dX9_person_0 : decode cX9_person 0 = .ok (.aload_n 0, 1) := by decide +kernel
theorem dX9_person_1 : decode cX9_person 1 = .ok (.iload_n 1, 1) := by decide +kernel
theorem dX9_person_2 : decode cX9_person 2 = .ok (.invokevirtual 182, 3) := by decide +kernel
theorem dX9_person_5 : decode cX9_person 5 = .ok (.iload_n 2, 1) := by decide +kernel
theorem dX9_person_6 : decode cX9_person 6 = .ok (.tableswitch 125 0 7 #[46, 56, 66, 75, 84, 93, 103, 116], 46) := by decide +kernel
theorem dX9_person_52 : decode cX9_person 52 = .ok (.aload_n 0, 1) := by decide +kernel
theorem dX9_person_53 : decode cX9_person 53 = .ok (.getfield 34, 3) := by decide +kernel
theorem dX9_person_56 : decode cX9_person 56 = .ok (.getfield 185, 3) := by decide +kernel
theorem dX9_person_59 : decode cX9_person 59 = .ok (.iload_n 1, 1) := by decide +kernel
theorem dX9_person_60 : decode cX9_person 60 = .ok (.iaload, 1) := by decide +kernel
theorem dX9_person_61 : decode cX9_person 61 = .ok (.ireturn, 1) := by decide +kernel
theorem dX9_person_62 : decode cX9_person 62 = .ok (.aload_n 0, 1) := by decide +kernel
theorem dX9_person_63 : decode cX9_person 63 = .ok (.getfield 34, 3) := by decide +kernel
theorem dX9_person_66 : decode cX9_person 66 = .ok (.getfield 188, 3) := by decide +kernel
theorem dX9_person_69 : decode cX9_person 69 = .ok (.iload_n 1, 1) := by decide +kernel
theorem dX9_person_70 : decode cX9_person 70 = .ok (.iaload, 1) := by decide +kernel
theorem dX9_person_71 : decode cX9_person 71 = .ok (.ireturn, 1) := by decide +kernel
theorem dX9_person_72 : decode cX9_person 72 = .ok (.aload_n 0, 1) := by decide +kernel
theorem dX9_person_73 : decode cX9_person 73 = .ok (.getfield 44, 3) := by decide +kernel
theorem dX9_person_76 : decode cX9_person 76 = .ok (.iload_n 1, 1) := by decide +kernel
theorem dX9_person_77 : decode cX9_person 77 = .ok (.invokevirtual 191, 3) := by decide +kernel
theorem dX9_person_80 : decode cX9_person 80 = .ok (.ireturn, 1) := by decide +kernel
theorem dX9_person_81 : decode cX9_person 81 = .ok (.aload_n 0, 1) := by decide +kernel
theorem dX9_person_82 : decode cX9_person 82 = .ok (.getfield 44, 3) := by decide +kernel
theorem dX9_person_85 : decode cX9_person 85 = .ok (.iload_n 1, 1) := by decide +kernel
theorem dX9_person_86 : decode cX9_person 86 = .ok (.invokevirtual 194, 3) := by decide +kernel
theorem dX9_person_89 : decode cX9_person 89 = .ok (.ireturn, 1) := by decide +kernel
theorem dX9_person_90 : decode cX9_person 90 = .ok (.aload_n 0, 1) := by decide +kernel
theorem dX9_person_91 : decode cX9_person 91 = .ok (.getfield 44, 3) := by decide +kernel
theorem dX9_person_94 : decode cX9_person 94 = .ok (.iload_n 1, 1) := by decide +kernel
theorem dX9_person_95 : decode cX9_person 95 = .ok (.invokevirtual 197, 3) := by decide +kernel
theorem dX9_person_98 : decode cX9_person 98 = .ok (.ireturn, 1) := by decide +kernel
theorem dX9_person_99 : decode cX9_person 99 = .ok (.aload_n 0, 1) := by decide +kernel
theorem dX9_person_100 : decode cX9_person 100 = .ok (.getfield 34, 3) := by decide +kernel
theorem dX9_person_103 : decode cX9_person 103 = .ok (.getfield 200, 3) := by decide +kernel
theorem dX9_person_106 : decode cX9_person 106 = .ok (.iload_n 1, 1) := by decide +kernel
theorem dX9_person_107 : decode cX9_person 107 = .ok (.iaload, 1) := by decide +kernel
theorem dX9_person_108 : decode cX9_person 108 = .ok (.ireturn, 1) := by decide +kernel
theorem dX9_person_109 : decode cX9_person 109 = .ok (.aload_n 0, 1) := by decide +kernel
theorem dX9_person_110 : decode cX9_person 110 = .ok (.getfield 34, 3) := by decide +kernel
theorem dX9_person_113 : decode cX9_person 113 = .ok (.aload_n 0, 1) := by decide +kernel
theorem dX9_person_114 : decode cX9_person 114 = .ok (.getfield 44, 3) := by decide +kernel
theorem dX9_person_117 : decode cX9_person 117 = .ok (.iload_n 1, 1) := by decide +kernel
theorem dX9_person_118 : decode cX9_person 118 = .ok (.invokevirtual 203, 3) := by decide +kernel
theorem dX9_person_121 : decode cX9_person 121 = .ok (.ireturn, 1) := by decide +kernel
theorem dX9_person_122 : decode cX9_person 122 = .ok (.aload_n 0, 1) := by decide +kernel
theorem dX9_person_123 : decode cX9_person 123 = .ok (.getfield 34, 3) := by decide +kernel
theorem dX9_person_126 : decode cX9_person 126 = .ok (.iload_n 1, 1) := by decide +kernel
theorem dX9_person_127 : decode cX9_person 127 = .ok (.invokevirtual 207, 3) := by decide +kernel
theorem dX9_person_130 : decode cX9_person 130 = .ok (.ireturn, 1) := by decide +kernel
theorem dX9_person_131 : decode cX9_person 131 = .ok (.new 159, 3) := by decide +kernel
theorem dX9_person_134 : decode cX9_person 134 = .ok (.dup, 1) := by decide +kernel
theorem dX9_person_135 : decode cX9_person 135 = .ok (.ldc 161, 2) := by decide +kernel
theorem dX9_person_137 : decode cX9_person 137 = .ok (.invokespecial 163, 3) := by decide +kernel
theorem dX9_person_140 : decode cX9_person 140 = .ok (.athrow, 1) := by decide +kernel
theorem dX9_held_0 : decode cX9_held 0 = .ok (.aload_n 0, 1) := by decide +kernel
theorem dX9_held_1 : decode cX9_held 1 = .ok (.iload_n 1, 1) := by decide +kernel
theorem dX9_held_2 : decode cX9_held 2 = .ok (.invokevirtual 164, 3) := by decide +kernel
theorem dX9_held_5 : decode cX9_held 5 = .ok (.aload_n 0, 1) := by decide +kernel
theorem dX9_held_6 : decode cX9_held 6 = .ok (.iload_n 2, 1) := by decide +kernel
theorem dX9_held_7 : decode cX9_held 7 = .ok (.invokevirtual 182, 3) := by decide +kernel
theorem dX9_held_10 : decode cX9_held 10 = .ok (.aload_n 0, 1) := by decide +kernel
theorem dX9_held_11 : decode cX9_held 11 = .ok (.getfield 44, 3) := by decide +kernel
theorem dX9_held_14 : decode cX9_held 14 = .ok (.iload_n 1, 1) := by decide +kernel
theorem dX9_held_15 : decode cX9_held 15 = .ok (.iload_n 2, 1) := by decide +kernel
theorem dX9_held_16 : decode cX9_held 16 = .ok (.invokevirtual 210, 3) := by decide +kernel
theorem dX9_held_19 : decode cX9_held 19 = .ok (.ireturn, 1) := by decide +kernel
theorem dX9_days_0 : decode cX9_days 0 = .ok (.iload_n 1, 1) := by decide +kernel
theorem dX9_days_1 : decode cX9_days 1 = .ok (.iconst 1, 1) := by decide +kernel
theorem dX9_days_2 : decode cX9_days 2 = .ok (.if_icmp .lt 24, 3) := by decide +kernel
theorem dX9_days_5 : decode cX9_days 5 = .ok (.iload_n 1, 1) := by decide +kernel
theorem dX9_days_6 : decode cX9_days 6 = .ok (.bipush 20, 2) := by decide +kernel
theorem dX9_days_8 : decode cX9_days 8 = .ok (.if_icmp .gt 18, 3) := by decide +kernel
theorem dX9_days_11 : decode cX9_days 11 = .ok (.aload_n 0, 1) := by decide +kernel
theorem dX9_days_12 : decode cX9_days 12 = .ok (.getfield 44, 3) := by decide +kernel
theorem dX9_days_15 : decode cX9_days 15 = .ok (.invokevirtual 128, 3) := by decide +kernel
theorem dX9_days_18 : decode cX9_days 18 = .ok (.iload_n 1, 1) := by decide +kernel
theorem dX9_days_19 : decode cX9_days 19 = .ok (.iadd, 1) := by decide +kernel
theorem dX9_days_20 : decode cX9_days 20 = .ok (.sipush 999, 3) := by decide +kernel
theorem dX9_days_23 : decode cX9_days 23 = .ok (.if_icmp .le 15, 3) := by decide +kernel
theorem dX9_days_26 : decode cX9_days 26 = .ok (.aload_n 0, 1) := by decide +kernel
theorem dX9_days_27 : decode cX9_days 27 = .ok (.getfield 27, 3) := by decide +kernel
theorem dX9_days_30 : decode cX9_days 30 = .ok (.iconst 1, 1) := by decide +kernel
theorem dX9_days_31 : decode cX9_days 31 = .ok (.dup2, 1) := by decide +kernel
theorem dX9_days_32 : decode cX9_days 32 = .ok (.iaload, 1) := by decide +kernel
theorem dX9_days_33 : decode cX9_days 33 = .ok (.iconst 1, 1) := by decide +kernel
theorem dX9_days_34 : decode cX9_days 34 = .ok (.iadd, 1) := by decide +kernel
theorem dX9_days_35 : decode cX9_days 35 = .ok (.iastore, 1) := by decide +kernel
theorem dX9_days_36 : decode cX9_days 36 = .ok (.iconst (-1), 1) := by decide +kernel
theorem dX9_days_37 : decode cX9_days 37 = .ok (.ireturn, 1) := by decide +kernel
theorem dX9_days_38 : decode cX9_days 38 = .ok (.aload_n 0, 1) := by decide +kernel
theorem dX9_days_39 : decode cX9_days 39 = .ok (.getfield 54, 3) := by decide +kernel
theorem dX9_days_42 : decode cX9_days 42 = .ok (.aload_n 0, 1) := by decide +kernel
theorem dX9_days_43 : decode cX9_days 43 = .ok (.getfield 44, 3) := by decide +kernel
theorem dX9_days_46 : decode cX9_days 46 = .ok (.invokevirtual 214, 3) := by decide +kernel
theorem dX9_days_49 : decode cX9_days 49 = .ok (.iconst 0, 1) := by decide +kernel
theorem dX9_days_50 : decode cX9_days 50 = .ok (.istore_n 2, 1) := by decide +kernel
theorem dX9_days_51 : decode cX9_days 51 = .ok (.iload_n 2, 1) := by decide +kernel
theorem dX9_days_52 : decode cX9_days 52 = .ok (.iload_n 1, 1) := by decide +kernel
theorem dX9_days_53 : decode cX9_days 53 = .ok (.if_icmp .ge 21, 3) := by decide +kernel
theorem dX9_days_56 : decode cX9_days 56 = .ok (.aload_n 0, 1) := by decide +kernel
theorem dX9_days_57 : decode cX9_days 57 = .ok (.getfield 34, 3) := by decide +kernel
theorem dX9_days_60 : decode cX9_days 60 = .ok (.aload_n 0, 1) := by decide +kernel
theorem dX9_days_61 : decode cX9_days 61 = .ok (.getfield 44, 3) := by decide +kernel
theorem dX9_days_64 : decode cX9_days 64 = .ok (.invokevirtual 218, 3) := by decide +kernel
theorem dX9_days_67 : decode cX9_days 67 = .ok (.pop, 1) := by decide +kernel
theorem dX9_days_68 : decode cX9_days 68 = .ok (.iinc 2 1, 3) := by decide +kernel
theorem dX9_days_71 : decode cX9_days 71 = .ok (.goto (-20), 3) := by decide +kernel
theorem dX9_days_74 : decode cX9_days 74 = .ok (.aload_n 0, 1) := by decide +kernel
theorem dX9_days_75 : decode cX9_days 75 = .ok (.getfield 44, 3) := by decide +kernel
theorem dX9_days_78 : decode cX9_days 78 = .ok (.invokevirtual 128, 3) := by decide +kernel
theorem dX9_days_81 : decode cX9_days 81 = .ok (.ireturn, 1) := by decide +kernel
theorem dX9_write_0 : decode cX9_write 0 = .ok (.aload_n 0, 1) := by decide +kernel
theorem dX9_write_1 : decode cX9_write 1 = .ok (.iload_n 1, 1) := by decide +kernel
theorem dX9_write_2 : decode cX9_write 2 = .ok (.invokevirtual 182, 3) := by decide +kernel
theorem dX9_write_5 : decode cX9_write 5 = .ok (.aload_n 0, 1) := by decide +kernel
theorem dX9_write_6 : decode cX9_write 6 = .ok (.getfield 44, 3) := by decide +kernel
theorem dX9_write_9 : decode cX9_write 9 = .ok (.iload_n 1, 1) := by decide +kernel
theorem dX9_write_10 : decode cX9_write 10 = .ok (.invokevirtual 191, 3) := by decide +kernel
theorem dX9_write_13 : decode cX9_write 13 = .ok (.istore_n 2, 1) := by decide +kernel
theorem dX9_write_14 : decode cX9_write 14 = .ok (.iload_n 2, 1) := by decide +kernel
theorem dX9_write_15 : decode cX9_write 15 = .ok (.iconst (-1), 1) := by decide +kernel
theorem dX9_write_16 : decode cX9_write 16 = .ok (.if_icmp .ne 15, 3) := by decide +kernel
theorem dX9_write_19 : decode cX9_write 19 = .ok (.aload_n 0, 1) := by decide +kernel
theorem dX9_write_20 : decode cX9_write 20 = .ok (.getfield 27, 3) := by decide +kernel
theorem dX9_write_23 : decode cX9_write 23 = .ok (.iconst 1, 1) := by decide +kernel
theorem dX9_write_24 : decode cX9_write 24 = .ok (.dup2, 1) := by decide +kernel
theorem dX9_write_25 : decode cX9_write 25 = .ok (.iaload, 1) := by decide +kernel
theorem dX9_write_26 : decode cX9_write 26 = .ok (.iconst 1, 1) := by decide +kernel
theorem dX9_write_27 : decode cX9_write 27 = .ok (.iadd, 1) := by decide +kernel
theorem dX9_write_28 : decode cX9_write 28 = .ok (.iastore, 1) := by decide +kernel
theorem dX9_write_29 : decode cX9_write 29 = .ok (.iconst (-1), 1) := by decide +kernel
theorem dX9_write_30 : decode cX9_write 30 = .ok (.ireturn, 1) := by decide +kernel
theorem dX9_write_31 : decode cX9_write 31 = .ok (.aload_n 0, 1) := by decide +kernel
theorem dX9_write_32 : decode cX9_write 32 = .ok (.getfield 54, 3) := by decide +kernel
theorem dX9_write_35 : decode cX9_write 35 = .ok (.aload_n 0, 1) := by decide +kernel
theorem dX9_write_36 : decode cX9_write 36 = .ok (.getfield 44, 3) := by decide +kernel
theorem dX9_write_39 : decode cX9_write 39 = .ok (.invokevirtual 214, 3) := by decide +kernel
theorem dX9_write_42 : decode cX9_write 42 = .ok (.aload_n 0, 1) := by decide +kernel
theorem dX9_write_43 : decode cX9_write 43 = .ok (.getfield 44, 3) := by decide +kernel
theorem dX9_write_46 : decode cX9_write 46 = .ok (.iload_n 1, 1) := by decide +kernel
theorem dX9_write_47 : decode cX9_write 47 = .ok (.invokevirtual 221, 3) := by decide +kernel
theorem dX9_write_50 : decode cX9_write 50 = .ok (.aload_n 0, 1) := by decide +kernel
theorem dX9_write_51 : decode cX9_write 51 = .ok (.getfield 44, 3) := by decide +kernel
theorem dX9_write_54 : decode cX9_write 54 = .ok (.iload_n 2, 1) := by decide +kernel
theorem dX9_write_55 : decode cX9_write 55 = .ok (.invokevirtual 197, 3) := by decide +kernel
theorem dX9_write_58 : decode cX9_write 58 = .ok (.ireturn, 1) := by decide +kernel
theorem dX9_paint_0 : decode cX9_paint 0 = .ok (.aload_n 0, 1) := by decide +kernel
theorem dX9_paint_1 : decode cX9_paint 1 = .ok (.iload_n 1, 1) := by decide +kernel
theorem dX9_paint_2 : decode cX9_paint 2 = .ok (.invokevirtual 164, 3) := by decide +kernel
theorem dX9_paint_5 : decode cX9_paint 5 = .ok (.aload_n 0, 1) := by decide +kernel
theorem dX9_paint_6 : decode cX9_paint 6 = .ok (.getfield 44, 3) := by decide +kernel
theorem dX9_paint_9 : decode cX9_paint 9 = .ok (.iload_n 1, 1) := by decide +kernel
theorem dX9_paint_10 : decode cX9_paint 10 = .ok (.invokevirtual 170, 3) := by decide +kernel
theorem dX9_paint_13 : decode cX9_paint 13 = .ok (.istore_n 2, 1) := by decide +kernel
theorem dX9_paint_14 : decode cX9_paint 14 = .ok (.iload_n 2, 1) := by decide +kernel
theorem dX9_paint_15 : decode cX9_paint 15 = .ok (.bipush 99, 2) := by decide +kernel
theorem dX9_paint_17 : decode cX9_paint 17 = .ok (.if_icmp .ne 15, 3) := by decide +kernel
theorem dX9_paint_20 : decode cX9_paint 20 = .ok (.aload_n 0, 1) := by decide +kernel
theorem dX9_paint_21 : decode cX9_paint 21 = .ok (.getfield 27, 3) := by decide +kernel
theorem dX9_paint_24 : decode cX9_paint 24 = .ok (.iconst 1, 1) := by decide +kernel
theorem dX9_paint_25 : decode cX9_paint 25 = .ok (.dup2, 1) := by decide +kernel
theorem dX9_paint_26 : decode cX9_paint 26 = .ok (.iaload, 1) := by decide +kernel
theorem dX9_paint_27 : decode cX9_paint 27 = .ok (.iconst 1, 1) := by decide +kernel
theorem dX9_paint_28 : decode cX9_paint 28 = .ok (.iadd, 1) := by decide +kernel
theorem dX9_paint_29 : decode cX9_paint 29 = .ok (.iastore, 1) := by decide +kernel
theorem dX9_paint_30 : decode cX9_paint 30 = .ok (.iconst (-1), 1) := by decide +kernel
theorem dX9_paint_31 : decode cX9_paint 31 = .ok (.ireturn, 1) := by decide +kernel
theorem dX9_paint_32 : decode cX9_paint 32 = .ok (.aload_n 0, 1) := by decide +kernel
theorem dX9_paint_33 : decode cX9_paint 33 = .ok (.getfield 54, 3) := by decide +kernel
theorem dX9_paint_36 : decode cX9_paint 36 = .ok (.aload_n 0, 1) := by decide +kernel
theorem dX9_paint_37 : decode cX9_paint 37 = .ok (.getfield 44, 3) := by decide +kernel
theorem dX9_paint_40 : decode cX9_paint 40 = .ok (.invokevirtual 214, 3) := by decide +kernel
theorem dX9_paint_43 : decode cX9_paint 43 = .ok (.aload_n 0, 1) := by decide +kernel
theorem dX9_paint_44 : decode cX9_paint 44 = .ok (.getfield 44, 3) := by decide +kernel
theorem dX9_paint_47 : decode cX9_paint 47 = .ok (.iload_n 1, 1) := by decide +kernel
theorem dX9_paint_48 : decode cX9_paint 48 = .ok (.bipush 99, 2) := by decide +kernel
theorem dX9_paint_50 : decode cX9_paint 50 = .ok (.invokevirtual 224, 3) := by decide +kernel
theorem dX9_paint_53 : decode cX9_paint 53 = .ok (.iload_n 2, 1) := by decide +kernel
theorem dX9_paint_54 : decode cX9_paint 54 = .ok (.ireturn, 1) := by decide +kernel
theorem dX9_turn_0 : decode cX9_turn 0 = .ok (.aload_n 0, 1) := by decide +kernel
theorem dX9_turn_1 : decode cX9_turn 1 = .ok (.iload_n 1, 1) := by decide +kernel
theorem dX9_turn_2 : decode cX9_turn 2 = .ok (.invokevirtual 182, 3) := by decide +kernel
theorem dX9_turn_5 : decode cX9_turn 5 = .ok (.iload_n 2, 1) := by decide +kernel
theorem dX9_turn_6 : decode cX9_turn 6 = .ok (.iconst (-1), 1) := by decide +kernel
theorem dX9_turn_7 : decode cX9_turn 7 = .ok (.if_icmp .eq 8, 3) := by decide +kernel
theorem dX9_turn_10 : decode cX9_turn 10 = .ok (.aload_n 0, 1) := by decide +kernel
theorem dX9_turn_11 : decode cX9_turn 11 = .ok (.iload_n 2, 1) := by decide +kernel
theorem dX9_turn_12 : decode cX9_turn 12 = .ok (.invokevirtual 182, 3) := by decide +kernel
theorem dX9_turn_15 : decode cX9_turn 15 = .ok (.aload_n 0, 1) := by decide +kernel
theorem dX9_turn_16 : decode cX9_turn 16 = .ok (.getfield 44, 3) := by decide +kernel
theorem dX9_turn_19 : decode cX9_turn 19 = .ok (.iload_n 1, 1) := by decide +kernel
theorem dX9_turn_20 : decode cX9_turn 20 = .ok (.invokevirtual 191, 3) := by decide +kernel
theorem dX9_turn_23 : decode cX9_turn 23 = .ok (.istore_n 3, 1) := by decide +kernel
theorem dX9_turn_24 : decode cX9_turn 24 = .ok (.iload_n 2, 1) := by decide +kernel
theorem dX9_turn_25 : decode cX9_turn 25 = .ok (.iload_n 3, 1) := by decide +kernel
theorem dX9_turn_26 : decode cX9_turn 26 = .ok (.if_icmp .eq 8, 3) := by decide +kernel
theorem dX9_turn_29 : decode cX9_turn 29 = .ok (.iload_n 2, 1) := by decide +kernel
theorem dX9_turn_30 : decode cX9_turn 30 = .ok (.iload_n 1, 1) := by decide +kernel
theorem dX9_turn_31 : decode cX9_turn 31 = .ok (.if_icmp .ne 16, 3) := by decide +kernel
theorem dX9_turn_34 : decode cX9_turn 34 = .ok (.aload_n 0, 1) := by decide +kernel
theorem dX9_turn_35 : decode cX9_turn 35 = .ok (.getfield 27, 3) := by decide +kernel
theorem dX9_turn_38 : decode cX9_turn 38 = .ok (.iconst 1, 1) := by decide +kernel
theorem dX9_turn_39 : decode cX9_turn 39 = .ok (.dup2, 1) := by decide +kernel
theorem dX9_turn_40 : decode cX9_turn 40 = .ok (.iaload, 1) := by decide +kernel
theorem dX9_turn_41 : decode cX9_turn 41 = .ok (.iconst 1, 1) := by decide +kernel
theorem dX9_turn_42 : decode cX9_turn 42 = .ok (.iadd, 1) := by decide +kernel
theorem dX9_turn_43 : decode cX9_turn 43 = .ok (.iastore, 1) := by decide +kernel
theorem dX9_turn_44 : decode cX9_turn 44 = .ok (.bipush (-2), 2) := by decide +kernel
theorem dX9_turn_46 : decode cX9_turn 46 = .ok (.ireturn, 1) := by decide +kernel
theorem dX9_turn_47 : decode cX9_turn 47 = .ok (.aload_n 0, 1) := by decide +kernel
theorem dX9_turn_48 : decode cX9_turn 48 = .ok (.getfield 54, 3) := by decide +kernel
theorem dX9_turn_51 : decode cX9_turn 51 = .ok (.aload_n 0, 1) := by decide +kernel
theorem dX9_turn_52 : decode cX9_turn 52 = .ok (.getfield 44, 3) := by decide +kernel
theorem dX9_turn_55 : decode cX9_turn 55 = .ok (.invokevirtual 214, 3) := by decide +kernel
theorem dX9_turn_58 : decode cX9_turn 58 = .ok (.aload_n 0, 1) := by decide +kernel
theorem dX9_turn_59 : decode cX9_turn 59 = .ok (.getfield 44, 3) := by decide +kernel
theorem dX9_turn_62 : decode cX9_turn 62 = .ok (.iload_n 1, 1) := by decide +kernel
theorem dX9_turn_63 : decode cX9_turn 63 = .ok (.iload_n 2, 1) := by decide +kernel
theorem dX9_turn_64 : decode cX9_turn 64 = .ok (.invokevirtual 228, 3) := by decide +kernel
theorem dX9_turn_67 : decode cX9_turn 67 = .ok (.iload_n 3, 1) := by decide +kernel
theorem dX9_turn_68 : decode cX9_turn 68 = .ok (.ireturn, 1) := by decide +kernel
theorem dX9_strike_0 : decode cX9_strike 0 = .ok (.iload_n 1, 1) := by decide +kernel
theorem dX9_strike_1 : decode cX9_strike 1 = .ok (.aload_n 0, 1) := by decide +kernel
theorem dX9_strike_2 : decode cX9_strike 2 = .ok (.getfield 44, 3) := by decide +kernel
theorem dX9_strike_5 : decode cX9_strike 5 = .ok (.invokevirtual 135, 3) := by decide +kernel
theorem dX9_strike_8 : decode cX9_strike 8 = .ok (.if_icmp .ne 15, 3) := by decide +kernel
theorem dX9_strike_11 : decode cX9_strike 11 = .ok (.aload_n 0, 1) := by decide +kernel
theorem dX9_strike_12 : decode cX9_strike 12 = .ok (.getfield 27, 3) := by decide +kernel
theorem dX9_strike_15 : decode cX9_strike 15 = .ok (.iconst 1, 1) := by decide +kernel
theorem dX9_strike_16 : decode cX9_strike 16 = .ok (.dup2, 1) := by decide +kernel
theorem dX9_strike_17 : decode cX9_strike 17 = .ok (.iaload, 1) := by decide +kernel
theorem dX9_strike_18 : decode cX9_strike 18 = .ok (.iconst 1, 1) := by decide +kernel
theorem dX9_strike_19 : decode cX9_strike 19 = .ok (.iadd, 1) := by decide +kernel
theorem dX9_strike_20 : decode cX9_strike 20 = .ok (.iastore, 1) := by decide +kernel
theorem dX9_strike_21 : decode cX9_strike 21 = .ok (.iconst 0, 1) := by decide +kernel
theorem dX9_strike_22 : decode cX9_strike 22 = .ok (.ireturn, 1) := by decide +kernel
theorem dX9_strike_23 : decode cX9_strike 23 = .ok (.aload_n 0, 1) := by decide +kernel
theorem dX9_strike_24 : decode cX9_strike 24 = .ok (.getfield 54, 3) := by decide +kernel
theorem dX9_strike_27 : decode cX9_strike 27 = .ok (.aload_n 0, 1) := by decide +kernel
theorem dX9_strike_28 : decode cX9_strike 28 = .ok (.getfield 44, 3) := by decide +kernel
theorem dX9_strike_31 : decode cX9_strike 31 = .ok (.invokevirtual 214, 3) := by decide +kernel
theorem dX9_strike_34 : decode cX9_strike 34 = .ok (.aload_n 0, 1) := by decide +kernel
theorem dX9_strike_35 : decode cX9_strike 35 = .ok (.getfield 44, 3) := by decide +kernel
theorem dX9_strike_38 : decode cX9_strike 38 = .ok (.iload_n 1, 1) := by decide +kernel
theorem dX9_strike_39 : decode cX9_strike 39 = .ok (.invokevirtual 231, 3) := by decide +kernel
theorem dX9_strike_42 : decode cX9_strike 42 = .ok (.iconst 1, 1) := by decide +kernel
theorem dX9_strike_43 : decode cX9_strike 43 = .ok (.ireturn, 1) := by decide +kernel
theorem dX9_undo_0 : decode cX9_undo 0 = .ok (.aload_n 0, 1) := by decide +kernel
theorem dX9_undo_1 : decode cX9_undo 1 = .ok (.getfield 54, 3) := by decide +kernel
theorem dX9_undo_4 : decode cX9_undo 4 = .ok (.getfield 155, 3) := by decide +kernel
theorem dX9_undo_7 : decode cX9_undo 7 = .ok (.ifCond .ne 5, 3) := by decide +kernel
theorem dX9_undo_10 : decode cX9_undo 10 = .ok (.iconst (-1), 1) := by decide +kernel
theorem dX9_undo_11 : decode cX9_undo 11 = .ok (.ireturn, 1) := by decide +kernel
theorem dX9_undo_12 : decode cX9_undo 12 = .ok (.aload_n 0, 1) := by decide +kernel
theorem dX9_undo_13 : decode cX9_undo 13 = .ok (.getfield 54, 3) := by decide +kernel
theorem dX9_undo_16 : decode cX9_undo 16 = .ok (.aload_n 0, 1) := by decide +kernel
theorem dX9_undo_17 : decode cX9_undo 17 = .ok (.getfield 44, 3) := by decide +kernel
theorem dX9_undo_20 : decode cX9_undo 20 = .ok (.invokevirtual 235, 3) := by decide +kernel
theorem dX9_undo_23 : decode cX9_undo 23 = .ok (.aload_n 0, 1) := by decide +kernel
theorem dX9_undo_24 : decode cX9_undo 24 = .ok (.getfield 54, 3) := by decide +kernel
theorem dX9_undo_27 : decode cX9_undo 27 = .ok (.getfield 155, 3) := by decide +kernel
theorem dX9_undo_30 : decode cX9_undo 30 = .ok (.ireturn, 1) := by decide +kernel
theorem dX9_then_0 : decode cX9_then 0 = .ok (.aload_n 0, 1) := by decide +kernel
theorem dX9_then_1 : decode cX9_then 1 = .ok (.iload_n 1, 1) := by decide +kernel
theorem dX9_then_2 : decode cX9_then 2 = .ok (.invokevirtual 164, 3) := by decide +kernel
theorem dX9_then_5 : decode cX9_then 5 = .ok (.iload_n 3, 1) := by decide +kernel
theorem dX9_then_6 : decode cX9_then 6 = .ok (.iconst 1, 1) := by decide +kernel
theorem dX9_then_7 : decode cX9_then 7 = .ok (.invokestatic 238, 3) := by decide +kernel
theorem dX9_then_10 : decode cX9_then 10 = .ok (.iload_n 2, 1) := by decide +kernel
theorem dX9_then_11 : decode cX9_then 11 = .ok (.iconst 0, 1) := by decide +kernel
theorem dX9_then_12 : decode cX9_then 12 = .ok (.bipush 40, 2) := by decide +kernel
theorem dX9_then_14 : decode cX9_then 14 = .ok (.invokestatic 241, 3) := by decide +kernel
theorem dX9_then_17 : decode cX9_then 17 = .ok (.aload_n 0, 1) := by decide +kernel
theorem dX9_then_18 : decode cX9_then 18 = .ok (.iload_n 2, 1) := by decide +kernel
theorem dX9_then_19 : decode cX9_then 19 = .ok (.invokevirtual 245, 3) := by decide +kernel
theorem dX9_then_22 : decode cX9_then 22 = .ok (.pop, 1) := by decide +kernel
theorem dX9_then_23 : decode cX9_then 23 = .ok (.iload_n 3, 1) := by decide +kernel
theorem dX9_then_24 : decode cX9_then 24 = .ok (.ifCond .ne 14, 3) := by decide +kernel
theorem dX9_then_27 : decode cX9_then 27 = .ok (.aload_n 0, 1) := by decide +kernel
theorem dX9_then_28 : decode cX9_then 28 = .ok (.getfield 48, 3) := by decide +kernel
theorem dX9_then_31 : decode cX9_then 31 = .ok (.iload_n 1, 1) := by decide +kernel
theorem dX9_then_32 : decode cX9_then 32 = .ok (.invokevirtual 173, 3) := by decide +kernel
theorem dX9_then_35 : decode cX9_then 35 = .ok (.goto 11, 3) := by decide +kernel
theorem dX9_then_38 : decode cX9_then 38 = .ok (.aload_n 0, 1) := by decide +kernel
theorem dX9_then_39 : decode cX9_then 39 = .ok (.getfield 48, 3) := by decide +kernel
theorem dX9_then_42 : decode cX9_then 42 = .ok (.iload_n 1, 1) := by decide +kernel
theorem dX9_then_43 : decode cX9_then 43 = .ok (.invokevirtual 170, 3) := by decide +kernel
theorem dX9_then_46 : decode cX9_then 46 = .ok (.ireturn, 1) := by decide +kernel
theorem dX9_later_0 : decode cX9_later 0 = .ok (.aload_n 0, 1) := by decide +kernel
theorem dX9_later_1 : decode cX9_later 1 = .ok (.iload_n 1, 1) := by decide +kernel
theorem dX9_later_2 : decode cX9_later 2 = .ok (.invokevirtual 182, 3) := by decide +kernel
theorem dX9_later_5 : decode cX9_later 5 = .ok (.iload_n 3, 1) := by decide +kernel
theorem dX9_later_6 : decode cX9_later 6 = .ok (.iconst 1, 1) := by decide +kernel
theorem dX9_later_7 : decode cX9_later 7 = .ok (.invokestatic 238, 3) := by decide +kernel
theorem dX9_later_10 : decode cX9_later 10 = .ok (.iload_n 2, 1) := by decide +kernel
theorem dX9_later_11 : decode cX9_later 11 = .ok (.iconst 0, 1) := by decide +kernel
theorem dX9_later_12 : decode cX9_later 12 = .ok (.bipush 40, 2) := by decide +kernel
theorem dX9_later_14 : decode cX9_later 14 = .ok (.invokestatic 241, 3) := by decide +kernel
theorem dX9_later_17 : decode cX9_later 17 = .ok (.aload_n 0, 1) := by decide +kernel
theorem dX9_later_18 : decode cX9_later 18 = .ok (.iload_n 2, 1) := by decide +kernel
theorem dX9_later_19 : decode cX9_later 19 = .ok (.invokevirtual 245, 3) := by decide +kernel
theorem dX9_later_22 : decode cX9_later 22 = .ok (.pop, 1) := by decide +kernel
theorem dX9_later_23 : decode cX9_later 23 = .ok (.iload_n 3, 1) := by decide +kernel
theorem dX9_later_24 : decode cX9_later 24 = .ok (.ifCond .ne 14, 3) := by decide +kernel
theorem dX9_later_27 : decode cX9_later 27 = .ok (.aload_n 0, 1) := by decide +kernel
theorem dX9_later_28 : decode cX9_later 28 = .ok (.getfield 48, 3) := by decide +kernel
theorem dX9_later_31 : decode cX9_later 31 = .ok (.iload_n 1, 1) := by decide +kernel
theorem dX9_later_32 : decode cX9_later 32 = .ok (.invokevirtual 194, 3) := by decide +kernel
theorem dX9_later_35 : decode cX9_later 35 = .ok (.goto 11, 3) := by decide +kernel
theorem dX9_later_38 : decode cX9_later 38 = .ok (.aload_n 0, 1) := by decide +kernel
theorem dX9_later_39 : decode cX9_later 39 = .ok (.getfield 48, 3) := by decide +kernel
theorem dX9_later_42 : decode cX9_later 42 = .ok (.iload_n 1, 1) := by decide +kernel
theorem dX9_later_43 : decode cX9_later 43 = .ok (.invokevirtual 197, 3) := by decide +kernel
theorem dX9_later_46 : decode cX9_later 46 = .ok (.ireturn, 1) := by decide +kernel
theorem dX9_first_0 : decode cX9_first 0 = .ok (.aload_n 0, 1) := by decide +kernel
theorem dX9_first_1 : decode cX9_first 1 = .ok (.iload_n 1, 1) := by decide +kernel
theorem dX9_first_2 : decode cX9_first 2 = .ok (.invokevirtual 182, 3) := by decide +kernel
theorem dX9_first_5 : decode cX9_first 5 = .ok (.aload_n 0, 1) := by decide +kernel
theorem dX9_first_6 : decode cX9_first 6 = .ok (.getfield 48, 3) := by decide +kernel
theorem dX9_first_9 : decode cX9_first 9 = .ok (.aload_n 0, 1) := by decide +kernel
theorem dX9_first_10 : decode cX9_first 10 = .ok (.getfield 44, 3) := by decide +kernel
theorem dX9_first_13 : decode cX9_first 13 = .ok (.invokevirtual 248, 3) := by decide +kernel
theorem dX9_first_16 : decode cX9_first 16 = .ok (.iconst 1, 1) := by decide +kernel
theorem dX9_first_17 : decode cX9_first 17 = .ok (.istore_n 2, 1) := by decide +kernel
theorem dX9_first_18 : decode cX9_first 18 = .ok (.iload_n 2, 1) := by decide +kernel
theorem dX9_first_19 : decode cX9_first 19 = .ok (.bipush 40, 2) := by decide +kernel
theorem dX9_first_21 : decode cX9_first 21 = .ok (.if_icmp .gt 42, 3) := by decide +kernel
theorem dX9_first_24 : decode cX9_first 24 = .ok (.aload_n 0, 1) := by decide +kernel
theorem dX9_first_25 : decode cX9_first 25 = .ok (.getfield 34, 3) := by decide +kernel
theorem dX9_first_28 : decode cX9_first 28 = .ok (.aload_n 0, 1) := by decide +kernel
theorem dX9_first_29 : decode cX9_first 29 = .ok (.getfield 48, 3) := by decide +kernel
theorem dX9_first_32 : decode cX9_first 32 = .ok (.invokevirtual 218, 3) := by decide +kernel
theorem dX9_first_35 : decode cX9_first 35 = .ok (.pop, 1) := by decide +kernel
theorem dX9_first_36 : decode cX9_first 36 = .ok (.aload_n 0, 1) := by decide +kernel
theorem dX9_first_37 : decode cX9_first 37 = .ok (.getfield 48, 3) := by decide +kernel
theorem dX9_first_40 : decode cX9_first 40 = .ok (.iload_n 1, 1) := by decide +kernel
theorem dX9_first_41 : decode cX9_first 41 = .ok (.invokevirtual 197, 3) := by decide +kernel
theorem dX9_first_44 : decode cX9_first 44 = .ok (.aload_n 0, 1) := by decide +kernel
theorem dX9_first_45 : decode cX9_first 45 = .ok (.getfield 44, 3) := by decide +kernel
theorem dX9_first_48 : decode cX9_first 48 = .ok (.iload_n 1, 1) := by decide +kernel
theorem dX9_first_49 : decode cX9_first 49 = .ok (.invokevirtual 197, 3) := by decide +kernel
theorem dX9_first_52 : decode cX9_first 52 = .ok (.if_icmp .le 5, 3) := by decide +kernel
theorem dX9_first_55 : decode cX9_first 55 = .ok (.iload_n 2, 1) := by decide +kernel
theorem dX9_first_56 : decode cX9_first 56 = .ok (.ireturn, 1) := by decide +kernel
theorem dX9_first_57 : decode cX9_first 57 = .ok (.iinc 2 1, 3) := by decide +kernel
theorem dX9_first_60 : decode cX9_first 60 = .ok (.goto (-42), 3) := by decide +kernel
theorem dX9_first_63 : decode cX9_first 63 = .ok (.iconst (-1), 1) := by decide +kernel
theorem dX9_first_64 : decode cX9_first 64 = .ok (.ireturn, 1) := by decide +kernel
theorem dX9_full_0 : decode cX9_full 0 = .ok (.aload_n 0, 1) := by decide +kernel
theorem dX9_full_1 : decode cX9_full 1 = .ok (.iload_n 1, 1) := by decide +kernel
theorem dX9_full_2 : decode cX9_full 2 = .ok (.invokevirtual 164, 3) := by decide +kernel
theorem dX9_full_5 : decode cX9_full 5 = .ok (.iload_n 2, 1) := by decide +kernel
theorem dX9_full_6 : decode cX9_full 6 = .ok (.iconst 1, 1) := by decide +kernel
theorem dX9_full_7 : decode cX9_full 7 = .ok (.sipush 792, 3) := by decide +kernel
theorem dX9_full_10 : decode cX9_full 10 = .ok (.invokestatic 241, 3) := by decide +kernel
theorem dX9_full_13 : decode cX9_full 13 = .ok (.aload_n 0, 1) := by decide +kernel
theorem dX9_full_14 : decode cX9_full 14 = .ok (.getfield 48, 3) := by decide +kernel
theorem dX9_full_17 : decode cX9_full 17 = .ok (.aload_n 0, 1) := by decide +kernel
theorem dX9_full_18 : decode cX9_full 18 = .ok (.getfield 44, 3) := by decide +kernel
theorem dX9_full_21 : decode cX9_full 21 = .ok (.invokevirtual 248, 3) := by decide +kernel
theorem dX9_full_24 : decode cX9_full 24 = .ok (.iconst 0, 1) := by decide +kernel
theorem dX9_full_25 : decode cX9_full 25 = .ok (.istore_n 3, 1) := by decide +kernel
theorem dX9_full_26 : decode cX9_full 26 = .ok (.iload_n 3, 1) := by decide +kernel
theorem dX9_full_27 : decode cX9_full 27 = .ok (.bipush 40, 2) := by decide +kernel
theorem dX9_full_29 : decode cX9_full 29 = .ok (.if_icmp .gt 35, 3) := by decide +kernel
theorem dX9_full_32 : decode cX9_full 32 = .ok (.aload_n 0, 1) := by decide +kernel
theorem dX9_full_33 : decode cX9_full 33 = .ok (.getfield 48, 3) := by decide +kernel
theorem dX9_full_36 : decode cX9_full 36 = .ok (.iload_n 1, 1) := by decide +kernel
theorem dX9_full_37 : decode cX9_full 37 = .ok (.invokevirtual 173, 3) := by decide +kernel
theorem dX9_full_40 : decode cX9_full 40 = .ok (.iload_n 2, 1) := by decide +kernel
theorem dX9_full_41 : decode cX9_full 41 = .ok (.if_icmp .lt 5, 3) := by decide +kernel
theorem dX9_full_44 : decode cX9_full 44 = .ok (.iload_n 3, 1) := by decide +kernel
theorem dX9_full_45 : decode cX9_full 45 = .ok (.ireturn, 1) := by decide +kernel
theorem dX9_full_46 : decode cX9_full 46 = .ok (.aload_n 0, 1) := by decide +kernel
theorem dX9_full_47 : decode cX9_full 47 = .ok (.getfield 34, 3) := by decide +kernel
theorem dX9_full_50 : decode cX9_full 50 = .ok (.aload_n 0, 1) := by decide +kernel
theorem dX9_full_51 : decode cX9_full 51 = .ok (.getfield 48, 3) := by decide +kernel
theorem dX9_full_54 : decode cX9_full 54 = .ok (.invokevirtual 218, 3) := by decide +kernel
theorem dX9_full_57 : decode cX9_full 57 = .ok (.pop, 1) := by decide +kernel
theorem dX9_full_58 : decode cX9_full 58 = .ok (.iinc 3 1, 3) := by decide +kernel
theorem dX9_full_61 : decode cX9_full 61 = .ok (.goto (-35), 3) := by decide +kernel
theorem dX9_full_64 : decode cX9_full 64 = .ok (.iconst (-1), 1) := by decide +kernel
theorem dX9_full_65 : decode cX9_full 65 = .ok (.ireturn, 1) := by decide +kernel
theorem dX9_most_0 : decode cX9_most 0 = .ok (.iload_n 2, 1) := by decide +kernel
theorem dX9_most_1 : decode cX9_most 1 = .ok (.iconst 4, 1) := by decide +kernel
theorem dX9_most_2 : decode cX9_most 2 = .ok (.invokestatic 238, 3) := by decide +kernel
theorem dX9_most_5 : decode cX9_most 5 = .ok (.iload_n 1, 1) := by decide +kernel
theorem dX9_most_6 : decode cX9_most 6 = .ok (.iconst 0, 1) := by decide +kernel
theorem dX9_most_7 : decode cX9_most 7 = .ok (.bipush 40, 2) := by decide +kernel
theorem dX9_most_9 : decode cX9_most 9 = .ok (.invokestatic 241, 3) := by decide +kernel
theorem dX9_most_12 : decode cX9_most 12 = .ok (.aload_n 0, 1) := by decide +kernel
theorem dX9_most_13 : decode cX9_most 13 = .ok (.iload_n 1, 1) := by decide +kernel
theorem dX9_most_14 : decode cX9_most 14 = .ok (.invokevirtual 245, 3) := by decide +kernel
theorem dX9_most_17 : decode cX9_most 17 = .ok (.istore_n 3, 1) := by decide +kernel
theorem dX9_most_18 : decode cX9_most 18 = .ok (.iload_n 2, 1) := by decide +kernel
theorem dX9_most_19 : decode cX9_most 19 = .ok (.tableswitch 67 0 3 #[29, 41, 53, 55], 29) := by decide +kernel
theorem dX9_most_48 : decode cX9_most 48 = .ok (.aload_n 0, 1) := by decide +kernel
theorem dX9_most_49 : decode cX9_most 49 = .ok (.getfield 34, 3) := by decide +kernel
theorem dX9_most_52 : decode cX9_most 52 = .ok (.aload_n 0, 1) := by decide +kernel
theorem dX9_most_53 : decode cX9_most 53 = .ok (.getfield 48, 3) := by decide +kernel
theorem dX9_most_56 : decode cX9_most 56 = .ok (.invokevirtual 251, 3) := by decide +kernel
theorem dX9_most_59 : decode cX9_most 59 = .ok (.ireturn, 1) := by decide +kernel
theorem dX9_most_60 : decode cX9_most 60 = .ok (.aload_n 0, 1) := by decide +kernel
theorem dX9_most_61 : decode cX9_most 61 = .ok (.getfield 34, 3) := by decide +kernel
theorem dX9_most_64 : decode cX9_most 64 = .ok (.aload_n 0, 1) := by decide +kernel
theorem dX9_most_65 : decode cX9_most 65 = .ok (.getfield 48, 3) := by decide +kernel
theorem dX9_most_68 : decode cX9_most 68 = .ok (.invokevirtual 254, 3) := by decide +kernel
theorem dX9_most_71 : decode cX9_most 71 = .ok (.ireturn, 1) := by decide +kernel
theorem dX9_most_72 : decode cX9_most 72 = .ok (.iload_n 3, 1) := by decide +kernel
theorem dX9_most_73 : decode cX9_most 73 = .ok (.ireturn, 1) := by decide +kernel
theorem dX9_most_74 : decode cX9_most 74 = .ok (.aload_n 0, 1) := by decide +kernel
theorem dX9_most_75 : decode cX9_most 75 = .ok (.getfield 34, 3) := by decide +kernel
theorem dX9_most_78 : decode cX9_most 78 = .ok (.aload_n 0, 1) := by decide +kernel
theorem dX9_most_79 : decode cX9_most 79 = .ok (.getfield 48, 3) := by decide +kernel
theorem dX9_most_82 : decode cX9_most 82 = .ok (.invokevirtual 257, 3) := by decide +kernel
theorem dX9_most_85 : decode cX9_most 85 = .ok (.ireturn, 1) := by decide +kernel
theorem dX9_most_86 : decode cX9_most 86 = .ok (.aload_n 0, 1) := by decide +kernel
theorem dX9_most_87 : decode cX9_most 87 = .ok (.getfield 34, 3) := by decide +kernel
theorem dX9_most_90 : decode cX9_most 90 = .ok (.aload_n 0, 1) := by decide +kernel
theorem dX9_most_91 : decode cX9_most 91 = .ok (.getfield 48, 3) := by decide +kernel
theorem dX9_most_94 : decode cX9_most 94 = .ok (.invokevirtual 260, 3) := by decide +kernel
theorem dX9_most_97 : decode cX9_most 97 = .ok (.ireturn, 1) := by decide +kernel
theorem dX9_lookAhead_0 : decode cX9_lookAhead 0 = .ok (.aload_n 0, 1) := by decide +kernel
theorem dX9_lookAhead_1 : decode cX9_lookAhead 1 = .ok (.getfield 48, 3) := by decide +kernel
theorem dX9_lookAhead_4 : decode cX9_lookAhead 4 = .ok (.aload_n 0, 1) := by decide +kernel
theorem dX9_lookAhead_5 : decode cX9_lookAhead 5 = .ok (.getfield 44, 3) := by decide +kernel
theorem dX9_lookAhead_8 : decode cX9_lookAhead 8 = .ok (.invokevirtual 248, 3) := by decide +kernel
theorem dX9_lookAhead_11 : decode cX9_lookAhead 11 = .ok (.iconst 0, 1) := by decide +kernel
theorem dX9_lookAhead_12 : decode cX9_lookAhead 12 = .ok (.istore_n 2, 1) := by decide +kernel
theorem dX9_lookAhead_13 : decode cX9_lookAhead 13 = .ok (.iconst 0, 1) := by decide +kernel
theorem dX9_lookAhead_14 : decode cX9_lookAhead 14 = .ok (.istore_n 3, 1) := by decide +kernel
theorem dX9_lookAhead_15 : decode cX9_lookAhead 15 = .ok (.iload_n 3, 1) := by decide +kernel
theorem dX9_lookAhead_16 : decode cX9_lookAhead 16 = .ok (.iload_n 1, 1) := by decide +kernel
theorem dX9_lookAhead_17 : decode cX9_lookAhead 17 = .ok (.if_icmp .ge 23, 3) := by decide +kernel
theorem dX9_lookAhead_20 : decode cX9_lookAhead 20 = .ok (.iload_n 2, 1) := by decide +kernel
theorem dX9_lookAhead_21 : decode cX9_lookAhead 21 = .ok (.aload_n 0, 1) := by decide +kernel
theorem dX9_lookAhead_22 : decode cX9_lookAhead 22 = .ok (.getfield 34, 3) := by decide +kernel
theorem dX9_lookAhead_25 : decode cX9_lookAhead 25 = .ok (.aload_n 0, 1) := by decide +kernel
theorem dX9_lookAhead_26 : decode cX9_lookAhead 26 = .ok (.getfield 48, 3) := by decide +kernel
theorem dX9_lookAhead_29 : decode cX9_lookAhead 29 = .ok (.invokevirtual 218, 3) := by decide +kernel
theorem dX9_lookAhead_32 : decode cX9_lookAhead 32 = .ok (.iadd, 1) := by decide +kernel
theorem dX9_lookAhead_33 : decode cX9_lookAhead 33 = .ok (.istore_n 2, 1) := by decide +kernel
theorem dX9_lookAhead_34 : decode cX9_lookAhead 34 = .ok (.iinc 3 1, 3) := by decide +kernel
theorem dX9_lookAhead_37 : decode cX9_lookAhead 37 = .ok (.goto (-22), 3) := by decide +kernel
theorem dX9_lookAhead_40 : decode cX9_lookAhead 40 = .ok (.iload_n 2, 1) := by decide +kernel
theorem dX9_lookAhead_41 : decode cX9_lookAhead 41 = .ok (.ireturn, 1) := by decide +kernel
theorem dX9_ring_0 : decode cX9_ring 0 = .ok (.aload_n 0, 1) := by decide +kernel
theorem dX9_ring_1 : decode cX9_ring 1 = .ok (.iload_n 1, 1) := by decide +kernel
theorem dX9_ring_2 : decode cX9_ring 2 = .ok (.invokevirtual 182, 3) := by decide +kernel
theorem dX9_ring_5 : decode cX9_ring 5 = .ok (.aload_n 0, 1) := by decide +kernel
theorem dX9_ring_6 : decode cX9_ring 6 = .ok (.getfield 34, 3) := by decide +kernel
theorem dX9_ring_9 : decode cX9_ring 9 = .ok (.aload_n 0, 1) := by decide +kernel
theorem dX9_ring_10 : decode cX9_ring 10 = .ok (.getfield 44, 3) := by decide +kernel
theorem dX9_ring_13 : decode cX9_ring 13 = .ok (.iload_n 1, 1) := by decide +kernel
theorem dX9_ring_14 : decode cX9_ring 14 = .ok (.invokevirtual 263, 3) := by decide +kernel
theorem dX9_ring_17 : decode cX9_ring 17 = .ok (.istore_n 2, 1) := by decide +kernel
theorem dX9_ring_18 : decode cX9_ring 18 = .ok (.iload_n 2, 1) := by decide +kernel
theorem dX9_ring_19 : decode cX9_ring 19 = .ok (.iload_n 1, 1) := by decide +kernel
theorem dX9_ring_20 : decode cX9_ring 20 = .ok (.ishr, 1) := by decide +kernel
theorem dX9_ring_21 : decode cX9_ring 21 = .ok (.iconst 1, 1) := by decide +kernel
theorem dX9_ring_22 : decode cX9_ring 22 = .ok (.iand, 1) := by decide +kernel
theorem dX9_ring_23 : decode cX9_ring 23 = .ok (.iconst 1, 1) := by decide +kernel
theorem dX9_ring_24 : decode cX9_ring 24 = .ok (.if_icmp .ne 7, 3) := by decide +kernel
theorem dX9_ring_27 : decode cX9_ring 27 = .ok (.iload_n 2, 1) := by decide +kernel
theorem dX9_ring_28 : decode cX9_ring 28 = .ok (.goto 4, 3) := by decide +kernel
theorem dX9_ring_31 : decode cX9_ring 31 = .ok (.iconst 0, 1) := by decide +kernel
theorem dX9_ring_32 : decode cX9_ring 32 = .ok (.ireturn, 1) := by decide +kernel
theorem dX9_comesTo_0 : decode cX9_comesTo 0 = .ok (.aload_n 0, 1) := by decide +kernel
theorem dX9_comesTo_1 : decode cX9_comesTo 1 = .ok (.iload_n 1, 1) := by decide +kernel
theorem dX9_comesTo_2 : decode cX9_comesTo 2 = .ok (.invokevirtual 182, 3) := by decide +kernel
theorem dX9_comesTo_5 : decode cX9_comesTo 5 = .ok (.aload_n 0, 1) := by decide +kernel
theorem dX9_comesTo_6 : decode cX9_comesTo 6 = .ok (.getfield 34, 3) := by decide +kernel
theorem dX9_comesTo_9 : decode cX9_comesTo 9 = .ok (.aload_n 0, 1) := by decide +kernel
theorem dX9_comesTo_10 : decode cX9_comesTo 10 = .ok (.getfield 44, 3) := by decide +kernel
theorem dX9_comesTo_13 : decode cX9_comesTo 13 = .ok (.iload_n 1, 1) := by decide +kernel
theorem dX9_comesTo_14 : decode cX9_comesTo 14 = .ok (.invokevirtual 263, 3) := by decide +kernel
theorem dX9_comesTo_17 : decode cX9_comesTo 17 = .ok (.ireturn, 1) := by decide +kernel
theorem dX9_toCover_0 : decode cX9_toCover 0 = .ok (.iload_n 1, 1) := by decide +kernel
theorem dX9_toCover_1 : decode cX9_toCover 1 = .ok (.iconst 0, 1) := by decide +kernel
theorem dX9_toCover_2 : decode cX9_toCover 2 = .ok (.bipush 30, 2) := by decide +kernel
theorem dX9_toCover_4 : decode cX9_toCover 4 = .ok (.invokestatic 241, 3) := by decide +kernel
theorem dX9_toCover_7 : decode cX9_toCover 7 = .ok (.aload_n 0, 1) := by decide +kernel
theorem dX9_toCover_8 : decode cX9_toCover 8 = .ok (.getfield 34, 3) := by decide +kernel
theorem dX9_toCover_11 : decode cX9_toCover 11 = .ok (.iload_n 1, 1) := by decide +kernel
theorem dX9_toCover_12 : decode cX9_toCover 12 = .ok (.invokevirtual 266, 3) := by decide +kernel
theorem dX9_toCover_15 : decode cX9_toCover 15 = .ok (.ireturn, 1) := by decide +kernel
theorem dX9_oneMore_0 : decode cX9_oneMore 0 = .ok (.iload_n 1, 1) := by decide +kernel
theorem dX9_oneMore_1 : decode cX9_oneMore 1 = .ok (.iconst 1, 1) := by decide +kernel
theorem dX9_oneMore_2 : decode cX9_oneMore 2 = .ok (.invokestatic 238, 3) := by decide +kernel
theorem dX9_oneMore_5 : decode cX9_oneMore 5 = .ok (.aload_n 0, 1) := by decide +kernel
theorem dX9_oneMore_6 : decode cX9_oneMore 6 = .ok (.getfield 34, 3) := by decide +kernel
theorem dX9_oneMore_9 : decode cX9_oneMore 9 = .ok (.iconst 1, 1) := by decide +kernel
theorem dX9_oneMore_10 : decode cX9_oneMore 10 = .ok (.invokevirtual 269, 3) := by decide +kernel
theorem dX9_oneMore_13 : decode cX9_oneMore 13 = .ok (.istore_n 2, 1) := by decide +kernel
theorem dX9_oneMore_14 : decode cX9_oneMore 14 = .ok (.iload_n 1, 1) := by decide +kernel
theorem dX9_oneMore_15 : decode cX9_oneMore 15 = .ok (.ifCond .ne 7, 3) := by decide +kernel
theorem dX9_oneMore_18 : decode cX9_oneMore 18 = .ok (.iload_n 2, 1) := by decide +kernel
theorem dX9_oneMore_19 : decode cX9_oneMore 19 = .ok (.goto 12, 3) := by decide +kernel
theorem dX9_oneMore_22 : decode cX9_oneMore 22 = .ok (.aload_n 0, 1) := by decide +kernel
theorem dX9_oneMore_23 : decode cX9_oneMore 23 = .ok (.getfield 34, 3) := by decide +kernel
theorem dX9_oneMore_26 : decode cX9_oneMore 26 = .ok (.iload_n 2, 1) := by decide +kernel
theorem dX9_oneMore_27 : decode cX9_oneMore 27 = .ok (.iconst 1, 1) := by decide +kernel
theorem dX9_oneMore_28 : decode cX9_oneMore 28 = .ok (.invokevirtual 273, 3) := by decide +kernel
theorem dX9_oneMore_31 : decode cX9_oneMore 31 = .ok (.ireturn, 1) := by decide +kernel
theorem dX9_order_0 : decode cX9_order 0 = .ok (.iload_n 1, 1) := by decide +kernel
theorem dX9_order_1 : decode cX9_order 1 = .ok (.iconst (-1), 1) := by decide +kernel
theorem dX9_order_2 : decode cX9_order 2 = .ok (.if_icmp .eq 11, 3) := by decide +kernel
theorem dX9_order_5 : decode cX9_order 5 = .ok (.aload_n 0, 1) := by decide +kernel
theorem dX9_order_6 : decode cX9_order 6 = .ok (.iload_n 1, 1) := by decide +kernel
theorem dX9_order_7 : decode cX9_order 7 = .ok (.invokevirtual 164, 3) := by decide +kernel
theorem dX9_order_10 : decode cX9_order 10 = .ok (.goto 15, 3) := by decide +kernel
theorem dX9_order_13 : decode cX9_order 13 = .ok (.aload_n 0, 1) := by decide +kernel
theorem dX9_order_14 : decode cX9_order 14 = .ok (.getfield 34, 3) := by decide +kernel
theorem dX9_order_17 : decode cX9_order 17 = .ok (.getfield 122, 3) := by decide +kernel
theorem dX9_order_20 : decode cX9_order 20 = .ok (.ifCond .ne 5, 3) := by decide +kernel
theorem dX9_order_23 : decode cX9_order 23 = .ok (.iconst (-1), 1) := by decide +kernel
theorem dX9_order_24 : decode cX9_order 24 = .ok (.ireturn, 1) := by decide +kernel
theorem dX9_order_25 : decode cX9_order 25 = .ok (.aload_n 0, 1) := by decide +kernel
theorem dX9_order_26 : decode cX9_order 26 = .ok (.getfield 81, 3) := by decide +kernel
theorem dX9_order_29 : decode cX9_order 29 = .ok (.aload_n 0, 1) := by decide +kernel
theorem dX9_order_30 : decode cX9_order 30 = .ok (.getfield 34, 3) := by decide +kernel
theorem dX9_order_33 : decode cX9_order 33 = .ok (.aload_n 0, 1) := by decide +kernel
theorem dX9_order_34 : decode cX9_order 34 = .ok (.getfield 44, 3) := by decide +kernel
theorem dX9_order_37 : decode cX9_order 37 = .ok (.invokevirtual 277, 3) := by decide +kernel
theorem dX9_order_40 : decode cX9_order 40 = .ok (.iload_n 1, 1) := by decide +kernel
theorem dX9_order_41 : decode cX9_order 41 = .ok (.iconst (-1), 1) := by decide +kernel
theorem dX9_order_42 : decode cX9_order 42 = .ok (.if_icmp .ne 13, 3) := by decide +kernel
theorem dX9_order_45 : decode cX9_order 45 = .ok (.aload_n 0, 1) := by decide +kernel
theorem dX9_order_46 : decode cX9_order 46 = .ok (.getfield 81, 3) := by decide +kernel
theorem dX9_order_49 : decode cX9_order 49 = .ok (.invokevirtual 281, 3) := by decide +kernel
theorem dX9_order_52 : decode cX9_order 52 = .ok (.goto 11, 3) := by decide +kernel
theorem dX9_order_55 : decode cX9_order 55 = .ok (.aload_n 0, 1) := by decide +kernel
theorem dX9_order_56 : decode cX9_order 56 = .ok (.getfield 81, 3) := by decide +kernel
theorem dX9_order_59 : decode cX9_order 59 = .ok (.iload_n 1, 1) := by decide +kernel
theorem dX9_order_60 : decode cX9_order 60 = .ok (.invokevirtual 284, 3) := by decide +kernel
theorem dX9_order_63 : decode cX9_order 63 = .ok (.ireturn, 1) := by decide +kernel
theorem dX9_note_0 : decode cX9_note 0 = .ok (.aload_n 0, 1) := by decide +kernel
theorem dX9_note_1 : decode cX9_note 1 = .ok (.iload_n 1, 1) := by decide +kernel
theorem dX9_note_2 : decode cX9_note 2 = .ok (.invokevirtual 182, 3) := by decide +kernel
theorem dX9_note_5 : decode cX9_note 5 = .ok (.aload_n 0, 1) := by decide +kernel
theorem dX9_note_6 : decode cX9_note 6 = .ok (.getfield 61, 3) := by decide +kernel
theorem dX9_note_9 : decode cX9_note 9 = .ok (.getfield 158, 3) := by decide +kernel
theorem dX9_note_12 : decode cX9_note 12 = .ok (.bipush 8, 2) := by decide +kernel
theorem dX9_note_14 : decode cX9_note 14 = .ok (.if_icmp .ge 24, 3) := by decide +kernel
theorem dX9_note_17 : decode cX9_note 17 = .ok (.iload_n 2, 1) := by decide +kernel
theorem dX9_note_18 : decode cX9_note 18 = .ok (.ifCond .lt 20, 3) := by decide +kernel
theorem dX9_note_21 : decode cX9_note 21 = .ok (.iload_n 2, 1) := by decide +kernel
theorem dX9_note_22 : decode cX9_note 22 = .ok (.bipush 20, 2) := by decide +kernel
theorem dX9_note_24 : decode cX9_note 24 = .ok (.if_icmp .gt 14, 3) := by decide +kernel
theorem dX9_note_27 : decode cX9_note 27 = .ok (.iload_n 3, 1) := by decide +kernel
theorem dX9_note_28 : decode cX9_note 28 = .ok (.ifCond .lt 10, 3) := by decide +kernel
theorem dX9_note_31 : decode cX9_note 31 = .ok (.iload_n 3, 1) := by decide +kernel
theorem dX9_note_32 : decode cX9_note 32 = .ok (.sipush 9999, 3) := by decide +kernel
theorem dX9_note_35 : decode cX9_note 35 = .ok (.if_icmp .le 15, 3) := by decide +kernel
theorem dX9_note_38 : decode cX9_note 38 = .ok (.aload_n 0, 1) := by decide +kernel
theorem dX9_note_39 : decode cX9_note 39 = .ok (.getfield 27, 3) := by decide +kernel
theorem dX9_note_42 : decode cX9_note 42 = .ok (.iconst 2, 1) := by decide +kernel
theorem dX9_note_43 : decode cX9_note 43 = .ok (.dup2, 1) := by decide +kernel
theorem dX9_note_44 : decode cX9_note 44 = .ok (.iaload, 1) := by decide +kernel
theorem dX9_note_45 : decode cX9_note 45 = .ok (.iconst 1, 1) := by decide +kernel
theorem dX9_note_46 : decode cX9_note 46 = .ok (.iadd, 1) := by decide +kernel
theorem dX9_note_47 : decode cX9_note 47 = .ok (.iastore, 1) := by decide +kernel
theorem dX9_note_48 : decode cX9_note 48 = .ok (.iconst (-1), 1) := by decide +kernel
theorem dX9_note_49 : decode cX9_note 49 = .ok (.ireturn, 1) := by decide +kernel
theorem dX9_note_50 : decode cX9_note 50 = .ok (.aload_n 0, 1) := by decide +kernel
theorem dX9_note_51 : decode cX9_note 51 = .ok (.getfield 61, 3) := by decide +kernel
theorem dX9_note_54 : decode cX9_note 54 = .ok (.iload_n 1, 1) := by decide +kernel
theorem dX9_note_55 : decode cX9_note 55 = .ok (.iload_n 2, 1) := by decide +kernel
theorem dX9_note_56 : decode cX9_note 56 = .ok (.iload_n 3, 1) := by decide +kernel
theorem dX9_note_57 : decode cX9_note 57 = .ok (.invokevirtual 287, 3) := by decide +kernel
theorem dX9_note_60 : decode cX9_note 60 = .ok (.aload_n 0, 1) := by decide +kernel
theorem dX9_note_61 : decode cX9_note 61 = .ok (.getfield 61, 3) := by decide +kernel
theorem dX9_note_64 : decode cX9_note 64 = .ok (.getfield 158, 3) := by decide +kernel
theorem dX9_note_67 : decode cX9_note 67 = .ok (.ireturn, 1) := by decide +kernel
theorem dX9_forget_0 : decode cX9_forget 0 = .ok (.aload_n 0, 1) := by decide +kernel
theorem dX9_forget_1 : decode cX9_forget 1 = .ok (.getfield 61, 3) := by decide +kernel
theorem dX9_forget_4 : decode cX9_forget 4 = .ok (.invokevirtual 120, 3) := by decide +kernel
theorem dX9_forget_7 : decode cX9_forget 7 = .ok (.return_, 1) := by decide +kernel
theorem dX9_thought_0 : decode cX9_thought 0 = .ok (.iload_n 1, 1) := by decide +kernel
theorem dX9_thought_1 : decode cX9_thought 1 = .ok (.iconst 2, 1) := by decide +kernel
theorem dX9_thought_2 : decode cX9_thought 2 = .ok (.invokestatic 238, 3) := by decide +kernel
theorem dX9_thought_5 : decode cX9_thought 5 = .ok (.iload_n 1, 1) := by decide +kernel
theorem dX9_thought_6 : decode cX9_thought 6 = .ok (.iconst 2, 1) := by decide +kernel
theorem dX9_thought_7 : decode cX9_thought 7 = .ok (.if_icmp .ne 27, 3) := by decide +kernel
theorem dX9_thought_10 : decode cX9_thought 10 = .ok (.aload_n 0, 1) := by decide +kernel
theorem dX9_thought_11 : decode cX9_thought 11 = .ok (.getfield 48, 3) := by decide +kernel
theorem dX9_thought_14 : decode cX9_thought 14 = .ok (.aload_n 0, 1) := by decide +kernel
theorem dX9_thought_15 : decode cX9_thought 15 = .ok (.getfield 44, 3) := by decide +kernel
theorem dX9_thought_18 : decode cX9_thought 18 = .ok (.invokevirtual 248, 3) := by decide +kernel
theorem dX9_thought_21 : decode cX9_thought 21 = .ok (.aload_n 0, 1) := by decide +kernel
theorem dX9_thought_22 : decode cX9_thought 22 = .ok (.invokevirtual 290, 3) := by decide +kernel
theorem dX9_thought_25 : decode cX9_thought 25 = .ok (.ifCond .eq 7, 3) := by decide +kernel
theorem dX9_thought_28 : decode cX9_thought 28 = .ok (.iconst 1, 1) := by decide +kernel
theorem dX9_thought_29 : decode cX9_thought 29 = .ok (.goto 4, 3) := by decide +kernel
theorem dX9_thought_32 : decode cX9_thought 32 = .ok (.iconst 0, 1) := by decide +kernel
theorem dX9_thought_33 : decode cX9_thought 33 = .ok (.ireturn, 1) := by decide +kernel
theorem dX9_thought_34 : decode cX9_thought 34 = .ok (.iconst 0, 1) := by decide +kernel
theorem dX9_thought_35 : decode cX9_thought 35 = .ok (.istore_n 2, 1) := by decide +kernel
theorem dX9_thought_36 : decode cX9_thought 36 = .ok (.iconst (-1), 1) := by decide +kernel
theorem dX9_thought_37 : decode cX9_thought 37 = .ok (.istore_n 3, 1) := by decide +kernel
theorem dX9_thought_38 : decode cX9_thought 38 = .ok (.iconst 0, 1) := by decide +kernel
theorem dX9_thought_39 : decode cX9_thought 39 = .ok (.istore 4, 2) := by decide +kernel
theorem dX9_thought_41 : decode cX9_thought 41 = .ok (.iload 4, 2) := by decide +kernel
theorem dX9_thought_43 : decode cX9_thought 43 = .ok (.aload_n 0, 1) := by decide +kernel
theorem dX9_thought_44 : decode cX9_thought 44 = .ok (.getfield 34, 3) := by decide +kernel
theorem dX9_thought_47 : decode cX9_thought 47 = .ok (.getfield 125, 3) := by decide +kernel
theorem dX9_thought_50 : decode cX9_thought 50 = .ok (.if_icmp .ge 69, 3) := by decide +kernel
theorem dX9_thought_53 : decode cX9_thought 53 = .ok (.iconst 0, 1) := by decide +kernel
theorem dX9_thought_54 : decode cX9_thought 54 = .ok (.istore 5, 2) := by decide +kernel
theorem dX9_thought_56 : decode cX9_thought 56 = .ok (.iload 5, 2) := by decide +kernel
theorem dX9_thought_58 : decode cX9_thought 58 = .ok (.aload_n 0, 1) := by decide +kernel
theorem dX9_thought_59 : decode cX9_thought 59 = .ok (.getfield 34, 3) := by decide +kernel
theorem dX9_thought_62 : decode cX9_thought 62 = .ok (.getfield 125, 3) := by decide +kernel
theorem dX9_thought_65 : decode cX9_thought 65 = .ok (.if_icmp .ge 48, 3) := by decide +kernel
theorem dX9_thought_68 : decode cX9_thought 68 = .ok (.aload_n 0, 1) := by decide +kernel
theorem dX9_thought_69 : decode cX9_thought 69 = .ok (.iload 4, 2) := by decide +kernel
theorem dX9_thought_71 : decode cX9_thought 71 = .ok (.iload 5, 2) := by decide +kernel
theorem dX9_thought_73 : decode cX9_thought 73 = .ok (.invokevirtual 293, 3) := by decide +kernel
theorem dX9_thought_76 : decode cX9_thought 76 = .ok (.ifCond .eq 31, 3) := by decide +kernel
theorem dX9_thought_79 : decode cX9_thought 79 = .ok (.aload_n 0, 1) := by decide +kernel
theorem dX9_thought_80 : decode cX9_thought 80 = .ok (.invokevirtual 290, 3) := by decide +kernel
theorem dX9_thought_83 : decode cX9_thought 83 = .ok (.ifCond .eq 24, 3) := by decide +kernel
theorem dX9_thought_86 : decode cX9_thought 86 = .ok (.iinc 2 1, 3) := by decide +kernel
theorem dX9_thought_89 : decode cX9_thought 89 = .ok (.iload_n 3, 1) := by decide +kernel
theorem dX9_thought_90 : decode cX9_thought 90 = .ok (.iconst (-1), 1) := by decide +kernel
theorem dX9_thought_91 : decode cX9_thought 91 = .ok (.if_icmp .ne 14, 3) := by decide +kernel
theorem dX9_thought_94 : decode cX9_thought 94 = .ok (.bipush 10, 2) := by decide +kernel
theorem dX9_thought_96 : decode cX9_thought 96 = .ok (.iload 4, 2) := by decide +kernel
theorem dX9_thought_98 : decode cX9_thought 98 = .ok (.imul, 1) := by decide +kernel
theorem dX9_thought_99 : decode cX9_thought 99 = .ok (.iload 5, 2) := by decide +kernel
theorem dX9_thought_101 : decode cX9_thought 101 = .ok (.iadd, 1) := by decide +kernel
theorem dX9_thought_102 : decode cX9_thought 102 = .ok (.goto 4, 3) := by decide +kernel
theorem dX9_thought_105 : decode cX9_thought 105 = .ok (.iload_n 3, 1) := by decide +kernel
theorem dX9_thought_106 : decode cX9_thought 106 = .ok (.istore_n 3, 1) := by decide +kernel
theorem dX9_thought_107 : decode cX9_thought 107 = .ok (.iinc 5 1, 3) := by decide +kernel
theorem dX9_thought_110 : decode cX9_thought 110 = .ok (.goto (-54), 3) := by decide +kernel
theorem dX9_thought_113 : decode cX9_thought 113 = .ok (.iinc 4 1, 3) := by decide +kernel
theorem dX9_thought_116 : decode cX9_thought 116 = .ok (.goto (-75), 3) := by decide +kernel
theorem dX9_thought_119 : decode cX9_thought 119 = .ok (.iload_n 1, 1) := by decide +kernel
theorem dX9_thought_120 : decode cX9_thought 120 = .ok (.ifCond .ne 7, 3) := by decide +kernel
theorem dX9_thought_123 : decode cX9_thought 123 = .ok (.iload_n 2, 1) := by decide +kernel
theorem dX9_thought_124 : decode cX9_thought 124 = .ok (.goto 4, 3) := by decide +kernel
theorem dX9_thought_127 : decode cX9_thought 127 = .ok (.iload_n 3, 1) := by decide +kernel
theorem dX9_thought_128 : decode cX9_thought 128 = .ok (.ireturn, 1) := by decide +kernel
theorem dX9_turnFuture_0 : decode cX9_turnFuture 0 = .ok (.iload_n 2, 1) := by decide +kernel
theorem dX9_turnFuture_1 : decode cX9_turnFuture 1 = .ok (.iload_n 1, 1) := by decide +kernel
theorem dX9_turnFuture_2 : decode cX9_turnFuture 2 = .ok (.if_icmp .eq 15, 3) := by decide +kernel
theorem dX9_turnFuture_5 : decode cX9_turnFuture 5 = .ok (.iload_n 2, 1) := by decide +kernel
theorem dX9_turnFuture_6 : decode cX9_turnFuture 6 = .ok (.aload_n 0, 1) := by decide +kernel
theorem dX9_turnFuture_7 : decode cX9_turnFuture 7 = .ok (.getfield 44, 3) := by decide +kernel
theorem dX9_turnFuture_10 : decode cX9_turnFuture 10 = .ok (.iload_n 1, 1) := by decide +kernel
theorem dX9_turnFuture_11 : decode cX9_turnFuture 11 = .ok (.invokevirtual 191, 3) := by decide +kernel
theorem dX9_turnFuture_14 : decode cX9_turnFuture 14 = .ok (.if_icmp .ne 5, 3) := by decide +kernel
theorem dX9_turnFuture_17 : decode cX9_turnFuture 17 = .ok (.iconst 0, 1) := by decide +kernel
theorem dX9_turnFuture_18 : decode cX9_turnFuture 18 = .ok (.ireturn, 1) := by decide +kernel
theorem dX9_turnFuture_19 : decode cX9_turnFuture 19 = .ok (.aload_n 0, 1) := by decide +kernel
theorem dX9_turnFuture_20 : decode cX9_turnFuture 20 = .ok (.getfield 48, 3) := by decide +kernel
theorem dX9_turnFuture_23 : decode cX9_turnFuture 23 = .ok (.aload_n 0, 1) := by decide +kernel
theorem dX9_turnFuture_24 : decode cX9_turnFuture 24 = .ok (.getfield 44, 3) := by decide +kernel
theorem dX9_turnFuture_27 : decode cX9_turnFuture 27 = .ok (.invokevirtual 248, 3) := by decide +kernel
theorem dX9_turnFuture_30 : decode cX9_turnFuture 30 = .ok (.aload_n 0, 1) := by decide +kernel
theorem dX9_turnFuture_31 : decode cX9_turnFuture 31 = .ok (.getfield 48, 3) := by decide +kernel
theorem dX9_turnFuture_34 : decode cX9_turnFuture 34 = .ok (.iload_n 1, 1) := by decide +kernel
theorem dX9_turnFuture_35 : decode cX9_turnFuture 35 = .ok (.iload_n 2, 1) := by decide +kernel
theorem dX9_turnFuture_36 : decode cX9_turnFuture 36 = .ok (.invokevirtual 228, 3) := by decide +kernel
theorem dX9_turnFuture_39 : decode cX9_turnFuture 39 = .ok (.iconst 1, 1) := by decide +kernel
theorem dX9_turnFuture_40 : decode cX9_turnFuture 40 = .ok (.ireturn, 1) := by decide +kernel
theorem dX9_futureAgrees_0 : decode cX9_futureAgrees 0 = .ok (.aload_n 0, 1) := by decide +kernel
theorem dX9_futureAgrees_1 : decode cX9_futureAgrees 1 = .ok (.getfield 61, 3) := by decide +kernel
theorem dX9_futureAgrees_4 : decode cX9_futureAgrees 4 = .ok (.invokevirtual 297, 3) := by decide +kernel
theorem dX9_futureAgrees_7 : decode cX9_futureAgrees 7 = .ok (.istore_n 1, 1) := by decide +kernel
theorem dX9_futureAgrees_8 : decode cX9_futureAgrees 8 = .ok (.iconst 0, 1) := by decide +kernel
theorem dX9_futureAgrees_9 : decode cX9_futureAgrees 9 = .ok (.istore_n 2, 1) := by decide +kernel
theorem dX9_futureAgrees_10 : decode cX9_futureAgrees 10 = .ok (.iload_n 2, 1) := by decide +kernel
theorem dX9_futureAgrees_11 : decode cX9_futureAgrees 11 = .ok (.iload_n 1, 1) := by decide +kernel
theorem dX9_futureAgrees_12 : decode cX9_futureAgrees 12 = .ok (.if_icmp .gt 43, 3) := by decide +kernel
theorem dX9_futureAgrees_15 : decode cX9_futureAgrees 15 = .ok (.aload_n 0, 1) := by decide +kernel
theorem dX9_futureAgrees_16 : decode cX9_futureAgrees 16 = .ok (.getfield 61, 3) := by decide +kernel
theorem dX9_futureAgrees_19 : decode cX9_futureAgrees 19 = .ok (.iload_n 2, 1) := by decide +kernel
theorem dX9_futureAgrees_20 : decode cX9_futureAgrees 20 = .ok (.aload_n 0, 1) := by decide +kernel
theorem dX9_futureAgrees_21 : decode cX9_futureAgrees 21 = .ok (.getfield 48, 3) := by decide +kernel
theorem dX9_futureAgrees_24 : decode cX9_futureAgrees 24 = .ok (.invokevirtual 300, 3) := by decide +kernel
theorem dX9_futureAgrees_27 : decode cX9_futureAgrees 27 = .ok (.ifCond .ne 5, 3) := by decide +kernel
theorem dX9_futureAgrees_30 : decode cX9_futureAgrees 30 = .ok (.iconst 0, 1) := by decide +kernel
theorem dX9_futureAgrees_31 : decode cX9_futureAgrees 31 = .ok (.ireturn, 1) := by decide +kernel
theorem dX9_futureAgrees_32 : decode cX9_futureAgrees 32 = .ok (.iload_n 2, 1) := by decide +kernel
theorem dX9_futureAgrees_33 : decode cX9_futureAgrees 33 = .ok (.iload_n 1, 1) := by decide +kernel
theorem dX9_futureAgrees_34 : decode cX9_futureAgrees 34 = .ok (.if_icmp .ge 15, 3) := by decide +kernel
theorem dX9_futureAgrees_37 : decode cX9_futureAgrees 37 = .ok (.aload_n 0, 1) := by decide +kernel
theorem dX9_futureAgrees_38 : decode cX9_futureAgrees 38 = .ok (.getfield 34, 3) := by decide +kernel
theorem dX9_futureAgrees_41 : decode cX9_futureAgrees 41 = .ok (.aload_n 0, 1) := by decide +kernel
theorem dX9_futureAgrees_42 : decode cX9_futureAgrees 42 = .ok (.getfield 48, 3) := by decide +kernel
theorem dX9_futureAgrees_45 : decode cX9_futureAgrees 45 = .ok (.invokevirtual 218, 3) := by decide +kernel
theorem dX9_futureAgrees_48 : decode cX9_futureAgrees 48 = .ok (.pop, 1) := by decide +kernel
theorem dX9_futureAgrees_49 : decode cX9_futureAgrees 49 = .ok (.iinc 2 1, 3) := by decide +kernel
theorem dX9_futureAgrees_52 : decode cX9_futureAgrees 52 = .ok (.goto (-42), 3) := by decide +kernel
theorem dX9_futureAgrees_55 : decode cX9_futureAgrees 55 = .ok (.iconst 1, 1) := by decide +kernel
theorem dX9_futureAgrees_56 : decode cX9_futureAgrees 56 = .ok (.ireturn, 1) := by decide +kernel
theorem dX9_ask_0 : decode cX9_ask 0 = .ok (.iload_n 1, 1) := by decide +kernel
theorem dX9_ask_1 : decode cX9_ask 1 = .ok (.iconst 1, 1) := by decide +kernel
theorem dX9_ask_2 : decode cX9_ask 2 = .ok (.invokestatic 238, 3) := by decide +kernel
theorem dX9_ask_5 : decode cX9_ask 5 = .ok (.aload_n 0, 1) := by decide +kernel
theorem dX9_ask_6 : decode cX9_ask 6 = .ok (.invokevirtual 304, 3) := by decide +kernel
theorem dX9_ask_9 : decode cX9_ask 9 = .ok (.istore_n 2, 1) := by decide +kernel
theorem dX9_ask_10 : decode cX9_ask 10 = .ok (.iconst (-1), 1) := by decide +kernel
theorem dX9_ask_11 : decode cX9_ask 11 = .ok (.istore_n 3, 1) := by decide +kernel
theorem dX9_ask_12 : decode cX9_ask 12 = .ok (.iconst 0, 1) := by decide +kernel
theorem dX9_ask_13 : decode cX9_ask 13 = .ok (.istore 4, 2) := by decide +kernel
theorem dX9_ask_15 : decode cX9_ask 15 = .ok (.iconst 0, 1) := by decide +kernel
theorem dX9_ask_16 : decode cX9_ask 16 = .ok (.istore 5, 2) := by decide +kernel
theorem dX9_ask_18 : decode cX9_ask 18 = .ok (.iload 5, 2) := by decide +kernel
theorem dX9_ask_20 : decode cX9_ask 20 = .ok (.aload_n 0, 1) := by decide +kernel
theorem dX9_ask_21 : decode cX9_ask 21 = .ok (.getfield 34, 3) := by decide +kernel
theorem dX9_ask_24 : decode cX9_ask 24 = .ok (.getfield 125, 3) := by decide +kernel
theorem dX9_ask_27 : decode cX9_ask 27 = .ok (.if_icmp .ge 32, 3) := by decide +kernel
theorem dX9_ask_30 : decode cX9_ask 30 = .ok (.aload_n 0, 1) := by decide +kernel
theorem dX9_ask_31 : decode cX9_ask 31 = .ok (.iload 5, 2) := by decide +kernel
theorem dX9_ask_33 : decode cX9_ask 33 = .ok (.iload_n 2, 1) := by decide +kernel
theorem dX9_ask_34 : decode cX9_ask 34 = .ok (.invokevirtual 307, 3) := by decide +kernel
theorem dX9_ask_37 : decode cX9_ask 37 = .ok (.istore 6, 2) := by decide +kernel
theorem dX9_ask_39 : decode cX9_ask 39 = .ok (.iload 6, 2) := by decide +kernel
theorem dX9_ask_41 : decode cX9_ask 41 = .ok (.iload 4, 2) := by decide +kernel
theorem dX9_ask_43 : decode cX9_ask 43 = .ok (.if_icmp .le 10, 3) := by decide +kernel
theorem dX9_ask_46 : decode cX9_ask 46 = .ok (.iload 5, 2) := by decide +kernel
theorem dX9_ask_48 : decode cX9_ask 48 = .ok (.istore_n 3, 1) := by decide +kernel
theorem dX9_ask_49 : decode cX9_ask 49 = .ok (.iload 6, 2) := by decide +kernel
theorem dX9_ask_51 : decode cX9_ask 51 = .ok (.istore 4, 2) := by decide +kernel
theorem dX9_ask_53 : decode cX9_ask 53 = .ok (.iinc 5 1, 3) := by decide +kernel
theorem dX9_ask_56 : decode cX9_ask 56 = .ok (.goto (-38), 3) := by decide +kernel
theorem dX9_ask_59 : decode cX9_ask 59 = .ok (.iload_n 1, 1) := by decide +kernel
theorem dX9_ask_60 : decode cX9_ask 60 = .ok (.ifCond .ne 7, 3) := by decide +kernel
theorem dX9_ask_63 : decode cX9_ask 63 = .ok (.iload_n 3, 1) := by decide +kernel
theorem dX9_ask_64 : decode cX9_ask 64 = .ok (.goto 5, 3) := by decide +kernel
theorem dX9_ask_67 : decode cX9_ask 67 = .ok (.iload 4, 2) := by decide +kernel
theorem dX9_ask_69 : decode cX9_ask 69 = .ok (.ireturn, 1) := by decide +kernel
theorem dX9_gatherHeardByThoughts_0 : decode cX9_gatherHeardByThoughts 0 = .ok (.iconst 0, 1) := by decide +kernel
theorem dX9_gatherHeardByThoughts_1 : decode cX9_gatherHeardByThoughts 1 = .ok (.istore_n 1, 1) := by decide +kernel
theorem dX9_gatherHeardByThoughts_2 : decode cX9_gatherHeardByThoughts 2 = .ok (.iconst 0, 1) := by decide +kernel
theorem dX9_gatherHeardByThoughts_3 : decode cX9_gatherHeardByThoughts 3 = .ok (.istore_n 2, 1) := by decide +kernel
theorem dX9_gatherHeardByThoughts_4 : decode cX9_gatherHeardByThoughts 4 = .ok (.iload_n 2, 1) := by decide +kernel
theorem dX9_gatherHeardByThoughts_5 : decode cX9_gatherHeardByThoughts 5 = .ok (.aload_n 0, 1) := by decide +kernel
theorem dX9_gatherHeardByThoughts_6 : decode cX9_gatherHeardByThoughts 6 = .ok (.getfield 34, 3) := by decide +kernel
theorem dX9_gatherHeardByThoughts_9 : decode cX9_gatherHeardByThoughts 9 = .ok (.getfield 125, 3) := by decide +kernel
theorem dX9_gatherHeardByThoughts_12 : decode cX9_gatherHeardByThoughts 12 = .ok (.if_icmp .ge 102, 3) := by decide +kernel
theorem dX9_gatherHeardByThoughts_15 : decode cX9_gatherHeardByThoughts 15 = .ok (.iconst 0, 1) := by decide +kernel
theorem dX9_gatherHeardByThoughts_16 : decode cX9_gatherHeardByThoughts 16 = .ok (.istore_n 3, 1) := by decide +kernel
theorem dX9_gatherHeardByThoughts_17 : decode cX9_gatherHeardByThoughts 17 = .ok (.iload_n 3, 1) := by decide +kernel
theorem dX9_gatherHeardByThoughts_18 : decode cX9_gatherHeardByThoughts 18 = .ok (.aload_n 0, 1) := by decide +kernel
theorem dX9_gatherHeardByThoughts_19 : decode cX9_gatherHeardByThoughts 19 = .ok (.getfield 34, 3) := by decide +kernel
theorem dX9_gatherHeardByThoughts_22 : decode cX9_gatherHeardByThoughts 22 = .ok (.getfield 125, 3) := by decide +kernel
theorem dX9_gatherHeardByThoughts_25 : decode cX9_gatherHeardByThoughts 25 = .ok (.if_icmp .ge 83, 3) := by decide +kernel
theorem dX9_gatherHeardByThoughts_28 : decode cX9_gatherHeardByThoughts 28 = .ok (.aload_n 0, 1) := by decide +kernel
theorem dX9_gatherHeardByThoughts_29 : decode cX9_gatherHeardByThoughts 29 = .ok (.iload_n 2, 1) := by decide +kernel
theorem dX9_gatherHeardByThoughts_30 : decode cX9_gatherHeardByThoughts 30 = .ok (.iload_n 3, 1) := by decide +kernel
theorem dX9_gatherHeardByThoughts_31 : decode cX9_gatherHeardByThoughts 31 = .ok (.invokevirtual 293, 3) := by decide +kernel
theorem dX9_gatherHeardByThoughts_34 : decode cX9_gatherHeardByThoughts 34 = .ok (.ifCond .eq 68, 3) := by decide +kernel
theorem dX9_gatherHeardByThoughts_37 : decode cX9_gatherHeardByThoughts 37 = .ok (.aload_n 0, 1) := by decide +kernel
theorem dX9_gatherHeardByThoughts_38 : decode cX9_gatherHeardByThoughts 38 = .ok (.invokevirtual 290, 3) := by decide +kernel
theorem dX9_gatherHeardByThoughts_41 : decode cX9_gatherHeardByThoughts 41 = .ok (.ifCond .eq 61, 3) := by decide +kernel
theorem dX9_gatherHeardByThoughts_44 : decode cX9_gatherHeardByThoughts 44 = .ok (.iload_n 1, 1) := by decide +kernel
theorem dX9_gatherHeardByThoughts_45 : decode cX9_gatherHeardByThoughts 45 = .ok (.bipush 64, 2) := by decide +kernel
theorem dX9_gatherHeardByThoughts_47 : decode cX9_gatherHeardByThoughts 47 = .ok (.if_icmp .ge 55, 3) := by decide +kernel
theorem dX9_gatherHeardByThoughts_50 : decode cX9_gatherHeardByThoughts 50 = .ok (.aload_n 0, 1) := by decide +kernel
theorem dX9_gatherHeardByThoughts_51 : decode cX9_gatherHeardByThoughts 51 = .ok (.iload_n 2, 1) := by decide +kernel
theorem dX9_gatherHeardByThoughts_52 : decode cX9_gatherHeardByThoughts 52 = .ok (.iload_n 3, 1) := by decide +kernel
theorem dX9_gatherHeardByThoughts_53 : decode cX9_gatherHeardByThoughts 53 = .ok (.iconst 5, 1) := by decide +kernel
theorem dX9_gatherHeardByThoughts_54 : decode cX9_gatherHeardByThoughts 54 = .ok (.invokevirtual 310, 3) := by decide +kernel
theorem dX9_gatherHeardByThoughts_57 : decode cX9_gatherHeardByThoughts 57 = .ok (.iconst 0, 1) := by decide +kernel
theorem dX9_gatherHeardByThoughts_58 : decode cX9_gatherHeardByThoughts 58 = .ok (.istore 4, 2) := by decide +kernel
theorem dX9_gatherHeardByThoughts_60 : decode cX9_gatherHeardByThoughts 60 = .ok (.iload 4, 2) := by decide +kernel
theorem dX9_gatherHeardByThoughts_62 : decode cX9_gatherHeardByThoughts 62 = .ok (.aload_n 0, 1) := by decide +kernel
theorem dX9_gatherHeardByThoughts_63 : decode cX9_gatherHeardByThoughts 63 = .ok (.getfield 34, 3) := by decide +kernel
theorem dX9_gatherHeardByThoughts_66 : decode cX9_gatherHeardByThoughts 66 = .ok (.getfield 125, 3) := by decide +kernel
theorem dX9_gatherHeardByThoughts_69 : decode cX9_gatherHeardByThoughts 69 = .ok (.if_icmp .ge 30, 3) := by decide +kernel
theorem dX9_gatherHeardByThoughts_72 : decode cX9_gatherHeardByThoughts 72 = .ok (.aload_n 0, 1) := by decide +kernel
theorem dX9_gatherHeardByThoughts_73 : decode cX9_gatherHeardByThoughts 73 = .ok (.getfield 85, 3) := by decide +kernel
theorem dX9_gatherHeardByThoughts_76 : decode cX9_gatherHeardByThoughts 76 = .ok (.iload_n 1, 1) := by decide +kernel
theorem dX9_gatherHeardByThoughts_77 : decode cX9_gatherHeardByThoughts 77 = .ok (.bipush 8, 2) := by decide +kernel
theorem dX9_gatherHeardByThoughts_79 : decode cX9_gatherHeardByThoughts 79 = .ok (.imul, 1) := by decide +kernel
theorem dX9_gatherHeardByThoughts_80 : decode cX9_gatherHeardByThoughts 80 = .ok (.iload 4, 2) := by decide +kernel
theorem dX9_gatherHeardByThoughts_82 : decode cX9_gatherHeardByThoughts 82 = .ok (.iadd, 1) := by decide +kernel
theorem dX9_gatherHeardByThoughts_83 : decode cX9_gatherHeardByThoughts 83 = .ok (.aload_n 0, 1) := by decide +kernel
theorem dX9_gatherHeardByThoughts_84 : decode cX9_gatherHeardByThoughts 84 = .ok (.getfield 48, 3) := by decide +kernel
theorem dX9_gatherHeardByThoughts_87 : decode cX9_gatherHeardByThoughts 87 = .ok (.iload 4, 2) := by decide +kernel
theorem dX9_gatherHeardByThoughts_89 : decode cX9_gatherHeardByThoughts 89 = .ok (.invokevirtual 197, 3) := by decide +kernel
theorem dX9_gatherHeardByThoughts_92 : decode cX9_gatherHeardByThoughts 92 = .ok (.iastore, 1) := by decide +kernel
theorem dX9_gatherHeardByThoughts_93 : decode cX9_gatherHeardByThoughts 93 = .ok (.iinc 4 1, 3) := by decide +kernel
theorem dX9_gatherHeardByThoughts_96 : decode cX9_gatherHeardByThoughts 96 = .ok (.goto (-36), 3) := by decide +kernel
theorem dX9_gatherHeardByThoughts_99 : decode cX9_gatherHeardByThoughts 99 = .ok (.iinc 1 1, 3) := by decide +kernel
theorem dX9_gatherHeardByThoughts_102 : decode cX9_gatherHeardByThoughts 102 = .ok (.iinc 3 1, 3) := by decide +kernel
theorem dX9_gatherHeardByThoughts_105 : decode cX9_gatherHeardByThoughts 105 = .ok (.goto (-88), 3) := by decide +kernel
theorem dX9_gatherHeardByThoughts_108 : decode cX9_gatherHeardByThoughts 108 = .ok (.iinc 2 1, 3) := by decide +kernel
theorem dX9_gatherHeardByThoughts_111 : decode cX9_gatherHeardByThoughts 111 = .ok (.goto (-107), 3) := by decide +kernel
theorem dX9_gatherHeardByThoughts_114 : decode cX9_gatherHeardByThoughts 114 = .ok (.iload_n 1, 1) := by decide +kernel
theorem dX9_gatherHeardByThoughts_115 : decode cX9_gatherHeardByThoughts 115 = .ok (.ireturn, 1) := by decide +kernel
theorem dX9_lookAheadTurned_0 : decode cX9_lookAheadTurned 0 = .ok (.aload_n 0, 1) := by decide +kernel
theorem dX9_lookAheadTurned_1 : decode cX9_lookAheadTurned 1 = .ok (.getfield 48, 3) := by decide +kernel
theorem dX9_lookAheadTurned_4 : decode cX9_lookAheadTurned 4 = .ok (.aload_n 0, 1) := by decide +kernel
theorem dX9_lookAheadTurned_5 : decode cX9_lookAheadTurned 5 = .ok (.getfield 44, 3) := by decide +kernel
theorem dX9_lookAheadTurned_8 : decode cX9_lookAheadTurned 8 = .ok (.invokevirtual 248, 3) := by decide +kernel
theorem dX9_lookAheadTurned_11 : decode cX9_lookAheadTurned 11 = .ok (.aload_n 0, 1) := by decide +kernel
theorem dX9_lookAheadTurned_12 : decode cX9_lookAheadTurned 12 = .ok (.getfield 48, 3) := by decide +kernel
theorem dX9_lookAheadTurned_15 : decode cX9_lookAheadTurned 15 = .ok (.iload_n 1, 1) := by decide +kernel
theorem dX9_lookAheadTurned_16 : decode cX9_lookAheadTurned 16 = .ok (.iload_n 2, 1) := by decide +kernel
theorem dX9_lookAheadTurned_17 : decode cX9_lookAheadTurned 17 = .ok (.invokevirtual 228, 3) := by decide +kernel
theorem dX9_lookAheadTurned_20 : decode cX9_lookAheadTurned 20 = .ok (.iconst 0, 1) := by decide +kernel
theorem dX9_lookAheadTurned_21 : decode cX9_lookAheadTurned 21 = .ok (.istore 4, 2) := by decide +kernel
theorem dX9_lookAheadTurned_23 : decode cX9_lookAheadTurned 23 = .ok (.iload 4, 2) := by decide +kernel
theorem dX9_lookAheadTurned_25 : decode cX9_lookAheadTurned 25 = .ok (.iload_n 3, 1) := by decide +kernel
theorem dX9_lookAheadTurned_26 : decode cX9_lookAheadTurned 26 = .ok (.if_icmp .ge 21, 3) := by decide +kernel
theorem dX9_lookAheadTurned_29 : decode cX9_lookAheadTurned 29 = .ok (.aload_n 0, 1) := by decide +kernel
theorem dX9_lookAheadTurned_30 : decode cX9_lookAheadTurned 30 = .ok (.getfield 34, 3) := by decide +kernel
theorem dX9_lookAheadTurned_33 : decode cX9_lookAheadTurned 33 = .ok (.aload_n 0, 1) := by decide +kernel
theorem dX9_lookAheadTurned_34 : decode cX9_lookAheadTurned 34 = .ok (.getfield 48, 3) := by decide +kernel
theorem dX9_lookAheadTurned_37 : decode cX9_lookAheadTurned 37 = .ok (.invokevirtual 218, 3) := by decide +kernel
theorem dX9_lookAheadTurned_40 : decode cX9_lookAheadTurned 40 = .ok (.pop, 1) := by decide +kernel
theorem dX9_lookAheadTurned_41 : decode cX9_lookAheadTurned 41 = .ok (.iinc 4 1, 3) := by decide +kernel
theorem dX9_lookAheadTurned_44 : decode cX9_lookAheadTurned 44 = .ok (.goto (-21), 3) := by decide +kernel
theorem dX9_lookAheadTurned_47 : decode cX9_lookAheadTurned 47 = .ok (.return_, 1) := by decide +kernel
theorem dX9_countUnlike_0 : decode cX9_countUnlike 0 = .ok (.iconst 0, 1) := by decide +kernel
theorem dX9_countUnlike_1 : decode cX9_countUnlike 1 = .ok (.istore_n 3, 1) := by decide +kernel
theorem dX9_countUnlike_2 : decode cX9_countUnlike 2 = .ok (.iconst 0, 1) := by decide +kernel
theorem dX9_countUnlike_3 : decode cX9_countUnlike 3 = .ok (.istore 4, 2) := by decide +kernel
theorem dX9_countUnlike_5 : decode cX9_countUnlike 5 = .ok (.iload 4, 2) := by decide +kernel
theorem dX9_countUnlike_7 : decode cX9_countUnlike 7 = .ok (.iload_n 2, 1) := by decide +kernel
theorem dX9_countUnlike_8 : decode cX9_countUnlike 8 = .ok (.if_icmp .ge 22, 3) := by decide +kernel
theorem dX9_countUnlike_11 : decode cX9_countUnlike 11 = .ok (.aload_n 0, 1) := by decide +kernel
theorem dX9_countUnlike_12 : decode cX9_countUnlike 12 = .ok (.iload_n 1, 1) := by decide +kernel
theorem dX9_countUnlike_13 : decode cX9_countUnlike 13 = .ok (.iload 4, 2) := by decide +kernel
theorem dX9_countUnlike_15 : decode cX9_countUnlike 15 = .ok (.invokevirtual 313, 3) := by decide +kernel
theorem dX9_countUnlike_18 : decode cX9_countUnlike 18 = .ok (.ifCond .eq 6, 3) := by decide +kernel
theorem dX9_countUnlike_21 : decode cX9_countUnlike 21 = .ok (.iinc 3 1, 3) := by decide +kernel
theorem dX9_countUnlike_24 : decode cX9_countUnlike 24 = .ok (.iinc 4 1, 3) := by decide +kernel
theorem dX9_countUnlike_27 : decode cX9_countUnlike 27 = .ok (.goto (-22), 3) := by decide +kernel
theorem dX9_countUnlike_30 : decode cX9_countUnlike 30 = .ok (.iload_n 3, 1) := by decide +kernel
theorem dX9_countUnlike_31 : decode cX9_countUnlike 31 = .ok (.ireturn, 1) := by decide +kernel
theorem dX9_isNewSum_0 : decode cX9_isNewSum 0 = .ok (.aload_n 0, 1) := by decide +kernel
theorem dX9_isNewSum_1 : decode cX9_isNewSum 1 = .ok (.getfield 85, 3) := by decide +kernel
theorem dX9_isNewSum_4 : decode cX9_isNewSum 4 = .ok (.iload_n 2, 1) := by decide +kernel
theorem dX9_isNewSum_5 : decode cX9_isNewSum 5 = .ok (.bipush 8, 2) := by decide +kernel
theorem dX9_isNewSum_7 : decode cX9_isNewSum 7 = .ok (.imul, 1) := by decide +kernel
theorem dX9_isNewSum_8 : decode cX9_isNewSum 8 = .ok (.iload_n 1, 1) := by decide +kernel
theorem dX9_isNewSum_9 : decode cX9_isNewSum 9 = .ok (.iadd, 1) := by decide +kernel
theorem dX9_isNewSum_10 : decode cX9_isNewSum 10 = .ok (.iaload, 1) := by decide +kernel
theorem dX9_isNewSum_11 : decode cX9_isNewSum 11 = .ok (.istore_n 3, 1) := by decide +kernel
theorem dX9_isNewSum_12 : decode cX9_isNewSum 12 = .ok (.iconst 0, 1) := by decide +kernel
theorem dX9_isNewSum_13 : decode cX9_isNewSum 13 = .ok (.istore 4, 2) := by decide +kernel
theorem dX9_isNewSum_15 : decode cX9_isNewSum 15 = .ok (.iload 4, 2) := by decide +kernel
theorem dX9_isNewSum_17 : decode cX9_isNewSum 17 = .ok (.iload_n 2, 1) := by decide +kernel
theorem dX9_isNewSum_18 : decode cX9_isNewSum 18 = .ok (.if_icmp .ge 27, 3) := by decide +kernel
theorem dX9_isNewSum_21 : decode cX9_isNewSum 21 = .ok (.aload_n 0, 1) := by decide +kernel
theorem dX9_isNewSum_22 : decode cX9_isNewSum 22 = .ok (.getfield 85, 3) := by decide +kernel
theorem dX9_isNewSum_25 : decode cX9_isNewSum 25 = .ok (.iload 4, 2) := by decide +kernel
theorem dX9_isNewSum_27 : decode cX9_isNewSum 27 = .ok (.bipush 8, 2) := by decide +kernel
theorem dX9_isNewSum_29 : decode cX9_isNewSum 29 = .ok (.imul, 1) := by decide +kernel
theorem dX9_isNewSum_30 : decode cX9_isNewSum 30 = .ok (.iload_n 1, 1) := by decide +kernel
theorem dX9_isNewSum_31 : decode cX9_isNewSum 31 = .ok (.iadd, 1) := by decide +kernel
theorem dX9_isNewSum_32 : decode cX9_isNewSum 32 = .ok (.iaload, 1) := by decide +kernel
theorem dX9_isNewSum_33 : decode cX9_isNewSum 33 = .ok (.iload_n 3, 1) := by decide +kernel
theorem dX9_isNewSum_34 : decode cX9_isNewSum 34 = .ok (.if_icmp .ne 5, 3) := by decide +kernel
theorem dX9_isNewSum_37 : decode cX9_isNewSum 37 = .ok (.iconst 0, 1) := by decide +kernel
theorem dX9_isNewSum_38 : decode cX9_isNewSum 38 = .ok (.ireturn, 1) := by decide +kernel
theorem dX9_isNewSum_39 : decode cX9_isNewSum 39 = .ok (.iinc 4 1, 3) := by decide +kernel
theorem dX9_isNewSum_42 : decode cX9_isNewSum 42 = .ok (.goto (-27), 3) := by decide +kernel
theorem dX9_isNewSum_45 : decode cX9_isNewSum 45 = .ok (.iconst 1, 1) := by decide +kernel
theorem dX9_isNewSum_46 : decode cX9_isNewSum 46 = .ok (.ireturn, 1) := by decide +kernel
theorem dX9_wetNights_0 : decode cX9_wetNights 0 = .ok (.aload_n 0, 1) := by decide +kernel
theorem dX9_wetNights_1 : decode cX9_wetNights 1 = .ok (.iload_n 1, 1) := by decide +kernel
theorem dX9_wetNights_2 : decode cX9_wetNights 2 = .ok (.invokevirtual 182, 3) := by decide +kernel
theorem dX9_wetNights_5 : decode cX9_wetNights 5 = .ok (.iload_n 2, 1) := by decide +kernel
theorem dX9_wetNights_6 : decode cX9_wetNights 6 = .ok (.iconst 0, 1) := by decide +kernel
theorem dX9_wetNights_7 : decode cX9_wetNights 7 = .ok (.sipush 9999, 3) := by decide +kernel
theorem dX9_wetNights_10 : decode cX9_wetNights 10 = .ok (.invokestatic 241, 3) := by decide +kernel
theorem dX9_wetNights_13 : decode cX9_wetNights 13 = .ok (.iload_n 3, 1) := by decide +kernel
theorem dX9_wetNights_14 : decode cX9_wetNights 14 = .ok (.iconst 1, 1) := by decide +kernel
theorem dX9_wetNights_15 : decode cX9_wetNights 15 = .ok (.iconst 5, 1) := by decide +kernel
theorem dX9_wetNights_16 : decode cX9_wetNights 16 = .ok (.invokestatic 241, 3) := by decide +kernel
theorem dX9_wetNights_19 : decode cX9_wetNights 19 = .ok (.iload 4, 2) := by decide +kernel
theorem dX9_wetNights_21 : decode cX9_wetNights 21 = .ok (.iconst 0, 1) := by decide +kernel
theorem dX9_wetNights_22 : decode cX9_wetNights 22 = .ok (.bipush 10, 2) := by decide +kernel
theorem dX9_wetNights_24 : decode cX9_wetNights 24 = .ok (.invokestatic 241, 3) := by decide +kernel
theorem dX9_wetNights_27 : decode cX9_wetNights 27 = .ok (.iconst 0, 1) := by decide +kernel
theorem dX9_wetNights_28 : decode cX9_wetNights 28 = .ok (.istore 5, 2) := by decide +kernel
theorem dX9_wetNights_30 : decode cX9_wetNights 30 = .ok (.iconst 0, 1) := by decide +kernel
theorem dX9_wetNights_31 : decode cX9_wetNights 31 = .ok (.istore 6, 2) := by decide +kernel
theorem dX9_wetNights_33 : decode cX9_wetNights 33 = .ok (.iload 6, 2) := by decide +kernel
theorem dX9_wetNights_35 : decode cX9_wetNights 35 = .ok (.iconst 1, 1) := by decide +kernel
theorem dX9_wetNights_36 : decode cX9_wetNights 36 = .ok (.iload_n 3, 1) := by decide +kernel
theorem dX9_wetNights_37 : decode cX9_wetNights 37 = .ok (.ishl, 1) := by decide +kernel
theorem dX9_wetNights_38 : decode cX9_wetNights 38 = .ok (.if_icmp .ge 43, 3) := by decide +kernel
theorem dX9_wetNights_41 : decode cX9_wetNights 41 = .ok (.iload 6, 2) := by decide +kernel
theorem dX9_wetNights_43 : decode cX9_wetNights 43 = .ok (.iload_n 3, 1) := by decide +kernel
theorem dX9_wetNights_44 : decode cX9_wetNights 44 = .ok (.iload 4, 2) := by decide +kernel
theorem dX9_wetNights_46 : decode cX9_wetNights 46 = .ok (.invokestatic 316, 3) := by decide +kernel
theorem dX9_wetNights_49 : decode cX9_wetNights 49 = .ok (.istore 7, 2) := by decide +kernel
theorem dX9_wetNights_51 : decode cX9_wetNights 51 = .ok (.iload 7, 2) := by decide +kernel
theorem dX9_wetNights_53 : decode cX9_wetNights 53 = .ok (.ifCond .le 22, 3) := by decide +kernel
theorem dX9_wetNights_56 : decode cX9_wetNights 56 = .ok (.aload_n 0, 1) := by decide +kernel
theorem dX9_wetNights_57 : decode cX9_wetNights 57 = .ok (.iload_n 1, 1) := by decide +kernel
theorem dX9_wetNights_58 : decode cX9_wetNights 58 = .ok (.iload 6, 2) := by decide +kernel
theorem dX9_wetNights_60 : decode cX9_wetNights 60 = .ok (.iload_n 3, 1) := by decide +kernel
theorem dX9_wetNights_61 : decode cX9_wetNights 61 = .ok (.invokevirtual 320, 3) := by decide +kernel
theorem dX9_wetNights_64 : decode cX9_wetNights 64 = .ok (.iload_n 2, 1) := by decide +kernel
theorem dX9_wetNights_65 : decode cX9_wetNights 65 = .ok (.if_icmp .lt 10, 3) := by decide +kernel
theorem dX9_wetNights_68 : decode cX9_wetNights 68 = .ok (.iload 5, 2) := by decide +kernel
theorem dX9_wetNights_70 : decode cX9_wetNights 70 = .ok (.iload 7, 2) := by decide +kernel
theorem dX9_wetNights_72 : decode cX9_wetNights 72 = .ok (.iadd, 1) := by decide +kernel
theorem dX9_wetNights_73 : decode cX9_wetNights 73 = .ok (.istore 5, 2) := by decide +kernel
theorem dX9_wetNights_75 : decode cX9_wetNights 75 = .ok (.iinc 6 1, 3) := by decide +kernel
theorem dX9_wetNights_78 : decode cX9_wetNights 78 = .ok (.goto (-45), 3) := by decide +kernel
theorem dX9_wetNights_81 : decode cX9_wetNights 81 = .ok (.iload 5, 2) := by decide +kernel
theorem dX9_wetNights_83 : decode cX9_wetNights 83 = .ok (.ireturn, 1) := by decide +kernel
theorem dX9_weightOf_0 : decode cX9_weightOf 0 = .ok (.iconst 1, 1) := by decide +kernel
theorem dX9_weightOf_1 : decode cX9_weightOf 1 = .ok (.istore_n 3, 1) := by decide +kernel
theorem dX9_weightOf_2 : decode cX9_weightOf 2 = .ok (.iconst 0, 1) := by decide +kernel
theorem dX9_weightOf_3 : decode cX9_weightOf 3 = .ok (.istore 4, 2) := by decide +kernel
theorem dX9_weightOf_5 : decode cX9_weightOf 5 = .ok (.iload 4, 2) := by decide +kernel
theorem dX9_weightOf_7 : decode cX9_weightOf 7 = .ok (.iload_n 1, 1) := by decide +kernel
theorem dX9_weightOf_8 : decode cX9_weightOf 8 = .ok (.if_icmp .ge 30, 3) := by decide +kernel
theorem dX9_weightOf_11 : decode cX9_weightOf 11 = .ok (.iload_n 3, 1) := by decide +kernel
theorem dX9_weightOf_12 : decode cX9_weightOf 12 = .ok (.iload_n 0, 1) := by decide +kernel
theorem dX9_weightOf_13 : decode cX9_weightOf 13 = .ok (.iload 4, 2) := by decide +kernel
theorem dX9_weightOf_15 : decode cX9_weightOf 15 = .ok (.ishr, 1) := by decide +kernel
theorem dX9_weightOf_16 : decode cX9_weightOf 16 = .ok (.iconst 1, 1) := by decide +kernel
theorem dX9_weightOf_17 : decode cX9_weightOf 17 = .ok (.iand, 1) := by decide +kernel
theorem dX9_weightOf_18 : decode cX9_weightOf 18 = .ok (.iconst 1, 1) := by decide +kernel
theorem dX9_weightOf_19 : decode cX9_weightOf 19 = .ok (.if_icmp .ne 7, 3) := by decide +kernel
theorem dX9_weightOf_22 : decode cX9_weightOf 22 = .ok (.iload_n 2, 1) := by decide +kernel
theorem dX9_weightOf_23 : decode cX9_weightOf 23 = .ok (.goto 7, 3) := by decide +kernel
theorem dX9_weightOf_26 : decode cX9_weightOf 26 = .ok (.bipush 10, 2) := by decide +kernel
theorem dX9_weightOf_28 : decode cX9_weightOf 28 = .ok (.iload_n 2, 1) := by decide +kernel
theorem dX9_weightOf_29 : decode cX9_weightOf 29 = .ok (.isub, 1) := by decide +kernel
theorem dX9_weightOf_30 : decode cX9_weightOf 30 = .ok (.imul, 1) := by decide +kernel
theorem dX9_weightOf_31 : decode cX9_weightOf 31 = .ok (.istore_n 3, 1) := by decide +kernel
theorem dX9_weightOf_32 : decode cX9_weightOf 32 = .ok (.iinc 4 1, 3) := by decide +kernel
theorem dX9_weightOf_35 : decode cX9_weightOf 35 = .ok (.goto (-30), 3) := by decide +kernel
theorem dX9_weightOf_38 : decode cX9_weightOf 38 = .ok (.iload_n 3, 1) := by decide +kernel
theorem dX9_weightOf_39 : decode cX9_weightOf 39 = .ok (.ireturn, 1) := by decide +kernel
theorem dX9_heardByNights_0 : decode cX9_heardByNights 0 = .ok (.aload_n 0, 1) := by decide +kernel
theorem dX9_heardByNights_1 : decode cX9_heardByNights 1 = .ok (.getfield 48, 3) := by decide +kernel
theorem dX9_heardByNights_4 : decode cX9_heardByNights 4 = .ok (.aload_n 0, 1) := by decide +kernel
theorem dX9_heardByNights_5 : decode cX9_heardByNights 5 = .ok (.getfield 44, 3) := by decide +kernel
theorem dX9_heardByNights_8 : decode cX9_heardByNights 8 = .ok (.invokevirtual 248, 3) := by decide +kernel
theorem dX9_heardByNights_11 : decode cX9_heardByNights 11 = .ok (.iconst 0, 1) := by decide +kernel
theorem dX9_heardByNights_12 : decode cX9_heardByNights 12 = .ok (.istore 4, 2) := by decide +kernel
theorem dX9_heardByNights_14 : decode cX9_heardByNights 14 = .ok (.iload 4, 2) := by decide +kernel
theorem dX9_heardByNights_16 : decode cX9_heardByNights 16 = .ok (.iload_n 3, 1) := by decide +kernel
theorem dX9_heardByNights_17 : decode cX9_heardByNights 17 = .ok (.if_icmp .ge 55, 3) := by decide +kernel
theorem dX9_heardByNights_20 : decode cX9_heardByNights 20 = .ok (.iload_n 2, 1) := by decide +kernel
theorem dX9_heardByNights_21 : decode cX9_heardByNights 21 = .ok (.iload 4, 2) := by decide +kernel
theorem dX9_heardByNights_23 : decode cX9_heardByNights 23 = .ok (.ishr, 1) := by decide +kernel
theorem dX9_heardByNights_24 : decode cX9_heardByNights 24 = .ok (.iconst 1, 1) := by decide +kernel
theorem dX9_heardByNights_25 : decode cX9_heardByNights 25 = .ok (.iand, 1) := by decide +kernel
theorem dX9_heardByNights_26 : decode cX9_heardByNights 26 = .ok (.iconst 1, 1) := by decide +kernel
theorem dX9_heardByNights_27 : decode cX9_heardByNights 27 = .ok (.if_icmp .ne 8, 3) := by decide +kernel
theorem dX9_heardByNights_30 : decode cX9_heardByNights 30 = .ok (.bipush 9, 2) := by decide +kernel
theorem dX9_heardByNights_32 : decode cX9_heardByNights 32 = .ok (.goto 4, 3) := by decide +kernel
theorem dX9_heardByNights_35 : decode cX9_heardByNights 35 = .ok (.iconst 0, 1) := by decide +kernel
theorem dX9_heardByNights_36 : decode cX9_heardByNights 36 = .ok (.istore 5, 2) := by decide +kernel
theorem dX9_heardByNights_38 : decode cX9_heardByNights 38 = .ok (.aload_n 0, 1) := by decide +kernel
theorem dX9_heardByNights_39 : decode cX9_heardByNights 39 = .ok (.getfield 34, 3) := by decide +kernel
theorem dX9_heardByNights_42 : decode cX9_heardByNights 42 = .ok (.aload_n 0, 1) := by decide +kernel
theorem dX9_heardByNights_43 : decode cX9_heardByNights 43 = .ok (.getfield 48, 3) := by decide +kernel
theorem dX9_heardByNights_46 : decode cX9_heardByNights 46 = .ok (.iload 5, 2) := by decide +kernel
theorem dX9_heardByNights_48 : decode cX9_heardByNights 48 = .ok (.aload_n 0, 1) := by decide +kernel
theorem dX9_heardByNights_49 : decode cX9_heardByNights 49 = .ok (.getfield 34, 3) := by decide +kernel
theorem dX9_heardByNights_52 : decode cX9_heardByNights 52 = .ok (.aload_n 0, 1) := by decide +kernel
theorem dX9_heardByNights_53 : decode cX9_heardByNights 53 = .ok (.getfield 48, 3) := by decide +kernel
theorem dX9_heardByNights_56 : decode cX9_heardByNights 56 = .ok (.invokevirtual 128, 3) := by decide +kernel
theorem dX9_heardByNights_59 : decode cX9_heardByNights 59 = .ok (.invokevirtual 139, 3) := by decide +kernel
theorem dX9_heardByNights_62 : decode cX9_heardByNights 62 = .ok (.invokevirtual 323, 3) := by decide +kernel
theorem dX9_heardByNights_65 : decode cX9_heardByNights 65 = .ok (.pop, 1) := by decide +kernel
theorem dX9_heardByNights_66 : decode cX9_heardByNights 66 = .ok (.iinc 4 1, 3) := by decide +kernel
theorem dX9_heardByNights_69 : decode cX9_heardByNights 69 = .ok (.goto (-55), 3) := by decide +kernel
theorem dX9_heardByNights_72 : decode cX9_heardByNights 72 = .ok (.aload_n 0, 1) := by decide +kernel
theorem dX9_heardByNights_73 : decode cX9_heardByNights 73 = .ok (.getfield 48, 3) := by decide +kernel
theorem dX9_heardByNights_76 : decode cX9_heardByNights 76 = .ok (.iload_n 1, 1) := by decide +kernel
theorem dX9_heardByNights_77 : decode cX9_heardByNights 77 = .ok (.invokevirtual 197, 3) := by decide +kernel
theorem dX9_heardByNights_80 : decode cX9_heardByNights 80 = .ok (.ireturn, 1) := by decide +kernel
theorem dX9_game_0 : decode cX9_game 0 = .ok (.aload_n 0, 1) := by decide +kernel
theorem dX9_game_1 : decode cX9_game 1 = .ok (.iload_n 1, 1) := by decide +kernel
theorem dX9_game_2 : decode cX9_game 2 = .ok (.invokevirtual 182, 3) := by decide +kernel
theorem dX9_game_5 : decode cX9_game 5 = .ok (.aload_n 0, 1) := by decide +kernel
theorem dX9_game_6 : decode cX9_game 6 = .ok (.iload_n 2, 1) := by decide +kernel
theorem dX9_game_7 : decode cX9_game 7 = .ok (.invokevirtual 182, 3) := by decide +kernel
theorem dX9_game_10 : decode cX9_game 10 = .ok (.iload_n 3, 1) := by decide +kernel
theorem dX9_game_11 : decode cX9_game 11 = .ok (.iconst 1, 1) := by decide +kernel
theorem dX9_game_12 : decode cX9_game 12 = .ok (.invokestatic 238, 3) := by decide +kernel
theorem dX9_game_15 : decode cX9_game 15 = .ok (.iload_n 1, 1) := by decide +kernel
theorem dX9_game_16 : decode cX9_game 16 = .ok (.iload_n 2, 1) := by decide +kernel
theorem dX9_game_17 : decode cX9_game 17 = .ok (.if_icmp .ne 14, 3) := by decide +kernel
theorem dX9_game_20 : decode cX9_game 20 = .ok (.new 98, 3) := by decide +kernel
theorem dX9_game_23 : decode cX9_game 23 = .ok (.dup, 1) := by decide +kernel
theorem dX9_game_24 : decode cX9_game 24 = .ok (.ldc_w 327, 3) := by decide +kernel
theorem dX9_game_27 : decode cX9_game 27 = .ok (.invokespecial 102, 3) := by decide +kernel
theorem dX9_game_30 : decode cX9_game 30 = .ok (.athrow, 1) := by decide +kernel
theorem dX9_game_31 : decode cX9_game 31 = .ok (.aload_n 0, 1) := by decide +kernel
theorem dX9_game_32 : decode cX9_game 32 = .ok (.getfield 44, 3) := by decide +kernel
theorem dX9_game_35 : decode cX9_game 35 = .ok (.iload_n 1, 1) := by decide +kernel
theorem dX9_game_36 : decode cX9_game 36 = .ok (.invokevirtual 191, 3) := by decide +kernel
theorem dX9_game_39 : decode cX9_game 39 = .ok (.iconst (-1), 1) := by decide +kernel
theorem dX9_game_40 : decode cX9_game 40 = .ok (.if_icmp .eq 15, 3) := by decide +kernel
theorem dX9_game_43 : decode cX9_game 43 = .ok (.aload_n 0, 1) := by decide +kernel
theorem dX9_game_44 : decode cX9_game 44 = .ok (.getfield 44, 3) := by decide +kernel
theorem dX9_game_47 : decode cX9_game 47 = .ok (.iload_n 2, 1) := by decide +kernel
theorem dX9_game_48 : decode cX9_game 48 = .ok (.invokevirtual 191, 3) := by decide +kernel
theorem dX9_game_51 : decode cX9_game 51 = .ok (.iconst (-1), 1) := by decide +kernel
theorem dX9_game_52 : decode cX9_game 52 = .ok (.if_icmp .ne 5, 3) := by decide +kernel
theorem dX9_game_55 : decode cX9_game 55 = .ok (.iconst (-1), 1) := by decide +kernel
theorem dX9_game_56 : decode cX9_game 56 = .ok (.ireturn, 1) := by decide +kernel
theorem dX9_game_57 : decode cX9_game 57 = .ok (.iconst 0, 1) := by decide +kernel
theorem dX9_game_58 : decode cX9_game 58 = .ok (.istore 4, 2) := by decide +kernel
theorem dX9_game_60 : decode cX9_game 60 = .ok (.iload 4, 2) := by decide +kernel
theorem dX9_game_62 : decode cX9_game 62 = .ok (.iconst 4, 1) := by decide +kernel
theorem dX9_game_63 : decode cX9_game 63 = .ok (.if_icmp .ge 17, 3) := by decide +kernel
theorem dX9_game_66 : decode cX9_game 66 = .ok (.aload_n 0, 1) := by decide +kernel
theorem dX9_game_67 : decode cX9_game 67 = .ok (.iload_n 1, 1) := by decide +kernel
theorem dX9_game_68 : decode cX9_game 68 = .ok (.iload_n 2, 1) := by decide +kernel
theorem dX9_game_69 : decode cX9_game 69 = .ok (.iload 4, 2) := by decide +kernel
theorem dX9_game_71 : decode cX9_game 71 = .ok (.invokevirtual 329, 3) := by decide +kernel
theorem dX9_game_74 : decode cX9_game 74 = .ok (.iinc 4 1, 3) := by decide +kernel
theorem dX9_game_77 : decode cX9_game 77 = .ok (.goto (-17), 3) := by decide +kernel
theorem dX9_game_80 : decode cX9_game 80 = .ok (.iconst 0, 1) := by decide +kernel
theorem dX9_game_81 : decode cX9_game 81 = .ok (.istore 4, 2) := by decide +kernel
theorem dX9_game_83 : decode cX9_game 83 = .ok (.iconst (-1), 1) := by decide +kernel
theorem dX9_game_84 : decode cX9_game 84 = .ok (.istore 5, 2) := by decide +kernel
theorem dX9_game_86 : decode cX9_game 86 = .ok (.iconst 0, 1) := by decide +kernel
theorem dX9_game_87 : decode cX9_game 87 = .ok (.istore 6, 2) := by decide +kernel
theorem dX9_game_89 : decode cX9_game 89 = .ok (.iload 6, 2) := by decide +kernel
theorem dX9_game_91 : decode cX9_game 91 = .ok (.iconst 4, 1) := by decide +kernel
theorem dX9_game_92 : decode cX9_game 92 = .ok (.if_icmp .ge 46, 3) := by decide +kernel
theorem dX9_game_95 : decode cX9_game 95 = .ok (.aload_n 0, 1) := by decide +kernel
theorem dX9_game_96 : decode cX9_game 96 = .ok (.iload 6, 2) := by decide +kernel
theorem dX9_game_98 : decode cX9_game 98 = .ok (.invokevirtual 332, 3) := by decide +kernel
theorem dX9_game_101 : decode cX9_game 101 = .ok (.ifCond .eq 31, 3) := by decide +kernel
theorem dX9_game_104 : decode cX9_game 104 = .ok (.iinc 4 1, 3) := by decide +kernel
theorem dX9_game_107 : decode cX9_game 107 = .ok (.iload 5, 2) := by decide +kernel
theorem dX9_game_109 : decode cX9_game 109 = .ok (.iconst (-1), 1) := by decide +kernel
theorem dX9_game_110 : decode cX9_game 110 = .ok (.if_icmp .ne 18, 3) := by decide +kernel
theorem dX9_game_113 : decode cX9_game 113 = .ok (.bipush 10, 2) := by decide +kernel
theorem dX9_game_115 : decode cX9_game 115 = .ok (.iload 6, 2) := by decide +kernel
theorem dX9_game_117 : decode cX9_game 117 = .ok (.iconst 1, 1) := by decide +kernel
theorem dX9_game_118 : decode cX9_game 118 = .ok (.ishr, 1) := by decide +kernel
theorem dX9_game_119 : decode cX9_game 119 = .ok (.imul, 1) := by decide +kernel
theorem dX9_game_120 : decode cX9_game 120 = .ok (.iload 6, 2) := by decide +kernel
theorem dX9_game_122 : decode cX9_game 122 = .ok (.iconst 1, 1) := by decide +kernel
theorem dX9_game_123 : decode cX9_game 123 = .ok (.iand, 1) := by decide +kernel
theorem dX9_game_124 : decode cX9_game 124 = .ok (.iadd, 1) := by decide +kernel
theorem dX9_game_125 : decode cX9_game 125 = .ok (.goto 5, 3) := by decide +kernel
theorem dX9_game_128 : decode cX9_game 128 = .ok (.iload 5, 2) := by decide +kernel
theorem dX9_game_130 : decode cX9_game 130 = .ok (.istore 5, 2) := by decide +kernel
theorem dX9_game_132 : decode cX9_game 132 = .ok (.iinc 6 1, 3) := by decide +kernel
theorem dX9_game_135 : decode cX9_game 135 = .ok (.goto (-46), 3) := by decide +kernel
theorem dX9_game_138 : decode cX9_game 138 = .ok (.iload_n 3, 1) := by decide +kernel
theorem dX9_game_139 : decode cX9_game 139 = .ok (.ifCond .ne 8, 3) := by decide +kernel
theorem dX9_game_142 : decode cX9_game 142 = .ok (.iload 4, 2) := by decide +kernel
theorem dX9_game_144 : decode cX9_game 144 = .ok (.goto 5, 3) := by decide +kernel
theorem dX9_game_147 : decode cX9_game 147 = .ok (.iload 5, 2) := by decide +kernel
theorem dX9_game_149 : decode cX9_game 149 = .ok (.ireturn, 1) := by decide +kernel
theorem dX9_weighCouple_0 : decode cX9_weighCouple 0 = .ok (.iload_n 3, 1) := by decide +kernel
theorem dX9_weighCouple_1 : decode cX9_weighCouple 1 = .ok (.iconst 1, 1) := by decide +kernel
theorem dX9_weighCouple_2 : decode cX9_weighCouple 2 = .ok (.ishr, 1) := by decide +kernel
theorem dX9_weighCouple_3 : decode cX9_weighCouple 3 = .ok (.iconst 1, 1) := by decide +kernel
theorem dX9_weighCouple_4 : decode cX9_weighCouple 4 = .ok (.iand, 1) := by decide +kernel
theorem dX9_weighCouple_5 : decode cX9_weighCouple 5 = .ok (.istore 4, 2) := by decide +kernel
theorem dX9_weighCouple_7 : decode cX9_weighCouple 7 = .ok (.iload_n 3, 1) := by decide +kernel
theorem dX9_weighCouple_8 : decode cX9_weighCouple 8 = .ok (.iconst 1, 1) := by decide +kernel
theorem dX9_weighCouple_9 : decode cX9_weighCouple 9 = .ok (.iand, 1) := by decide +kernel
theorem dX9_weighCouple_10 : decode cX9_weighCouple 10 = .ok (.istore 5, 2) := by decide +kernel
theorem dX9_weighCouple_12 : decode cX9_weighCouple 12 = .ok (.aload_n 0, 1) := by decide +kernel
theorem dX9_weighCouple_13 : decode cX9_weighCouple 13 = .ok (.getfield 48, 3) := by decide +kernel
theorem dX9_weighCouple_16 : decode cX9_weighCouple 16 = .ok (.aload_n 0, 1) := by decide +kernel
theorem dX9_weighCouple_17 : decode cX9_weighCouple 17 = .ok (.getfield 44, 3) := by decide +kernel
theorem dX9_weighCouple_20 : decode cX9_weighCouple 20 = .ok (.invokevirtual 248, 3) := by decide +kernel
theorem dX9_weighCouple_23 : decode cX9_weighCouple 23 = .ok (.iconst 0, 1) := by decide +kernel
theorem dX9_weighCouple_24 : decode cX9_weighCouple 24 = .ok (.istore 6, 2) := by decide +kernel
theorem dX9_weighCouple_26 : decode cX9_weighCouple 26 = .ok (.iload 6, 2) := by decide +kernel
theorem dX9_weighCouple_28 : decode cX9_weighCouple 28 = .ok (.aload_n 0, 1) := by decide +kernel
theorem dX9_weighCouple_29 : decode cX9_weighCouple 29 = .ok (.getfield 34, 3) := by decide +kernel
theorem dX9_weighCouple_32 : decode cX9_weighCouple 32 = .ok (.getfield 125, 3) := by decide +kernel
theorem dX9_weighCouple_35 : decode cX9_weighCouple 35 = .ok (.if_icmp .ge 42, 3) := by decide +kernel
theorem dX9_weighCouple_38 : decode cX9_weighCouple 38 = .ok (.iload 6, 2) := by decide +kernel
theorem dX9_weighCouple_40 : decode cX9_weighCouple 40 = .ok (.iload_n 1, 1) := by decide +kernel
theorem dX9_weighCouple_41 : decode cX9_weighCouple 41 = .ok (.if_icmp .ne 9, 3) := by decide +kernel
theorem dX9_weighCouple_44 : decode cX9_weighCouple 44 = .ok (.iload 4, 2) := by decide +kernel
theorem dX9_weighCouple_46 : decode cX9_weighCouple 46 = .ok (.iconst 1, 1) := by decide +kernel
theorem dX9_weighCouple_47 : decode cX9_weighCouple 47 = .ok (.if_icmp .eq 15, 3) := by decide +kernel
theorem dX9_weighCouple_50 : decode cX9_weighCouple 50 = .ok (.iload 6, 2) := by decide +kernel
theorem dX9_weighCouple_52 : decode cX9_weighCouple 52 = .ok (.iload_n 2, 1) := by decide +kernel
theorem dX9_weighCouple_53 : decode cX9_weighCouple 53 = .ok (.if_icmp .ne 18, 3) := by decide +kernel
theorem dX9_weighCouple_56 : decode cX9_weighCouple 56 = .ok (.iload 5, 2) := by decide +kernel
theorem dX9_weighCouple_58 : decode cX9_weighCouple 58 = .ok (.iconst 1, 1) := by decide +kernel
theorem dX9_weighCouple_59 : decode cX9_weighCouple 59 = .ok (.if_icmp .ne 12, 3) := by decide +kernel
theorem dX9_weighCouple_62 : decode cX9_weighCouple 62 = .ok (.aload_n 0, 1) := by decide +kernel
theorem dX9_weighCouple_63 : decode cX9_weighCouple 63 = .ok (.getfield 48, 3) := by decide +kernel
theorem dX9_weighCouple_66 : decode cX9_weighCouple 66 = .ok (.iload 6, 2) := by decide +kernel
theorem dX9_weighCouple_68 : decode cX9_weighCouple 68 = .ok (.invokevirtual 221, 3) := by decide +kernel
theorem dX9_weighCouple_71 : decode cX9_weighCouple 71 = .ok (.iinc 6 1, 3) := by decide +kernel
theorem dX9_weighCouple_74 : decode cX9_weighCouple 74 = .ok (.goto (-48), 3) := by decide +kernel
theorem dX9_weighCouple_77 : decode cX9_weighCouple 77 = .ok (.iconst 0, 1) := by decide +kernel
theorem dX9_weighCouple_78 : decode cX9_weighCouple 78 = .ok (.istore 6, 2) := by decide +kernel
theorem dX9_weighCouple_80 : decode cX9_weighCouple 80 = .ok (.iload 6, 2) := by decide +kernel
theorem dX9_weighCouple_82 : decode cX9_weighCouple 82 = .ok (.iconst 3, 1) := by decide +kernel
theorem dX9_weighCouple_83 : decode cX9_weighCouple 83 = .ok (.if_icmp .ge 21, 3) := by decide +kernel
theorem dX9_weighCouple_86 : decode cX9_weighCouple 86 = .ok (.aload_n 0, 1) := by decide +kernel
theorem dX9_weighCouple_87 : decode cX9_weighCouple 87 = .ok (.getfield 34, 3) := by decide +kernel
theorem dX9_weighCouple_90 : decode cX9_weighCouple 90 = .ok (.aload_n 0, 1) := by decide +kernel
theorem dX9_weighCouple_91 : decode cX9_weighCouple 91 = .ok (.getfield 48, 3) := by decide +kernel
theorem dX9_weighCouple_94 : decode cX9_weighCouple 94 = .ok (.invokevirtual 218, 3) := by decide +kernel
theorem dX9_weighCouple_97 : decode cX9_weighCouple 97 = .ok (.pop, 1) := by decide +kernel
theorem dX9_weighCouple_98 : decode cX9_weighCouple 98 = .ok (.iinc 6 1, 3) := by decide +kernel
theorem dX9_weighCouple_101 : decode cX9_weighCouple 101 = .ok (.goto (-21), 3) := by decide +kernel
theorem dX9_weighCouple_104 : decode cX9_weighCouple 104 = .ok (.aload_n 0, 1) := by decide +kernel
theorem dX9_weighCouple_105 : decode cX9_weighCouple 105 = .ok (.getfield 88, 3) := by decide +kernel
theorem dX9_weighCouple_108 : decode cX9_weighCouple 108 = .ok (.iconst 2, 1) := by decide +kernel
theorem dX9_weighCouple_109 : decode cX9_weighCouple 109 = .ok (.iload_n 3, 1) := by decide +kernel
theorem dX9_weighCouple_110 : decode cX9_weighCouple 110 = .ok (.imul, 1) := by decide +kernel
theorem dX9_weighCouple_111 : decode cX9_weighCouple 111 = .ok (.aload_n 0, 1) := by decide +kernel
theorem dX9_weighCouple_112 : decode cX9_weighCouple 112 = .ok (.iload_n 1, 1) := by decide +kernel
theorem dX9_weighCouple_113 : decode cX9_weighCouple 113 = .ok (.iload 4, 2) := by decide +kernel
theorem dX9_weighCouple_115 : decode cX9_weighCouple 115 = .ok (.invokevirtual 336, 3) := by decide +kernel
theorem dX9_weighCouple_118 : decode cX9_weighCouple 118 = .ok (.iastore, 1) := by decide +kernel
theorem dX9_weighCouple_119 : decode cX9_weighCouple 119 = .ok (.aload_n 0, 1) := by decide +kernel
theorem dX9_weighCouple_120 : decode cX9_weighCouple 120 = .ok (.getfield 88, 3) := by decide +kernel
theorem dX9_weighCouple_123 : decode cX9_weighCouple 123 = .ok (.iconst 2, 1) := by decide +kernel
theorem dX9_weighCouple_124 : decode cX9_weighCouple 124 = .ok (.iload_n 3, 1) := by decide +kernel
theorem dX9_weighCouple_125 : decode cX9_weighCouple 125 = .ok (.imul, 1) := by decide +kernel
theorem dX9_weighCouple_126 : decode cX9_weighCouple 126 = .ok (.iconst 1, 1) := by decide +kernel
theorem dX9_weighCouple_127 : decode cX9_weighCouple 127 = .ok (.iadd, 1) := by decide +kernel
theorem dX9_weighCouple_128 : decode cX9_weighCouple 128 = .ok (.aload_n 0, 1) := by decide +kernel
theorem dX9_weighCouple_129 : decode cX9_weighCouple 129 = .ok (.iload_n 2, 1) := by decide +kernel
theorem dX9_weighCouple_130 : decode cX9_weighCouple 130 = .ok (.iload 5, 2) := by decide +kernel
theorem dX9_weighCouple_132 : decode cX9_weighCouple 132 = .ok (.invokevirtual 336, 3) := by decide +kernel
theorem dX9_weighCouple_135 : decode cX9_weighCouple 135 = .ok (.iastore, 1) := by decide +kernel
theorem dX9_weighCouple_136 : decode cX9_weighCouple 136 = .ok (.return_, 1) := by decide +kernel
theorem dX9_gainOf_0 : decode cX9_gainOf 0 = .ok (.aload_n 0, 1) := by decide +kernel
theorem dX9_gainOf_1 : decode cX9_gainOf 1 = .ok (.getfield 48, 3) := by decide +kernel
theorem dX9_gainOf_4 : decode cX9_gainOf 4 = .ok (.iload_n 1, 1) := by decide +kernel
theorem dX9_gainOf_5 : decode cX9_gainOf 5 = .ok (.invokevirtual 197, 3) := by decide +kernel
theorem dX9_gainOf_8 : decode cX9_gainOf 8 = .ok (.iconst 5, 1) := by decide +kernel
theorem dX9_gainOf_9 : decode cX9_gainOf 9 = .ok (.idiv, 1) := by decide +kernel
theorem dX9_gainOf_10 : decode cX9_gainOf 10 = .ok (.aload_n 0, 1) := by decide +kernel
theorem dX9_gainOf_11 : decode cX9_gainOf 11 = .ok (.getfield 48, 3) := by decide +kernel
theorem dX9_gainOf_14 : decode cX9_gainOf 14 = .ok (.iload_n 1, 1) := by decide +kernel
theorem dX9_gainOf_15 : decode cX9_gainOf 15 = .ok (.invokevirtual 194, 3) := by decide +kernel
theorem dX9_gainOf_18 : decode cX9_gainOf 18 = .ok (.iconst 5, 1) := by decide +kernel
theorem dX9_gainOf_19 : decode cX9_gainOf 19 = .ok (.idiv, 1) := by decide +kernel
theorem dX9_gainOf_20 : decode cX9_gainOf 20 = .ok (.isub, 1) := by decide +kernel
theorem dX9_gainOf_21 : decode cX9_gainOf 21 = .ok (.iconst 2, 1) := by decide +kernel
theorem dX9_gainOf_22 : decode cX9_gainOf 22 = .ok (.iload_n 2, 1) := by decide +kernel
theorem dX9_gainOf_23 : decode cX9_gainOf 23 = .ok (.imul, 1) := by decide +kernel
theorem dX9_gainOf_24 : decode cX9_gainOf 24 = .ok (.isub, 1) := by decide +kernel
theorem dX9_gainOf_25 : decode cX9_gainOf 25 = .ok (.ireturn, 1) := by decide +kernel
theorem dX9_coupleRests_0 : decode cX9_coupleRests 0 = .ok (.aload_n 0, 1) := by decide +kernel
theorem dX9_coupleRests_1 : decode cX9_coupleRests 1 = .ok (.getfield 88, 3) := by decide +kernel
theorem dX9_coupleRests_4 : decode cX9_coupleRests 4 = .ok (.iconst 2, 1) := by decide +kernel
theorem dX9_coupleRests_5 : decode cX9_coupleRests 5 = .ok (.iload_n 1, 1) := by decide +kernel
theorem dX9_coupleRests_6 : decode cX9_coupleRests 6 = .ok (.imul, 1) := by decide +kernel
theorem dX9_coupleRests_7 : decode cX9_coupleRests 7 = .ok (.iaload, 1) := by decide +kernel
theorem dX9_coupleRests_8 : decode cX9_coupleRests 8 = .ok (.aload_n 0, 1) := by decide +kernel
theorem dX9_coupleRests_9 : decode cX9_coupleRests 9 = .ok (.getfield 88, 3) := by decide +kernel
theorem dX9_coupleRests_12 : decode cX9_coupleRests 12 = .ok (.iconst 2, 1) := by decide +kernel
theorem dX9_coupleRests_13 : decode cX9_coupleRests 13 = .ok (.iload_n 1, 1) := by decide +kernel
theorem dX9_coupleRests_14 : decode cX9_coupleRests 14 = .ok (.iconst 2, 1) := by decide +kernel
theorem dX9_coupleRests_15 : decode cX9_coupleRests 15 = .ok (.ixor, 1) := by decide +kernel
theorem dX9_coupleRests_16 : decode cX9_coupleRests 16 = .ok (.imul, 1) := by decide +kernel
theorem dX9_coupleRests_17 : decode cX9_coupleRests 17 = .ok (.iaload, 1) := by decide +kernel
theorem dX9_coupleRests_18 : decode cX9_coupleRests 18 = .ok (.if_icmp .lt 7, 3) := by decide +kernel
theorem dX9_coupleRests_21 : decode cX9_coupleRests 21 = .ok (.iconst 1, 1) := by decide +kernel
theorem dX9_coupleRests_22 : decode cX9_coupleRests 22 = .ok (.goto 4, 3) := by decide +kernel
theorem dX9_coupleRests_25 : decode cX9_coupleRests 25 = .ok (.iconst 0, 1) := by decide +kernel
theorem dX9_coupleRests_26 : decode cX9_coupleRests 26 = .ok (.istore_n 2, 1) := by decide +kernel
theorem dX9_coupleRests_27 : decode cX9_coupleRests 27 = .ok (.aload_n 0, 1) := by decide +kernel
theorem dX9_coupleRests_28 : decode cX9_coupleRests 28 = .ok (.getfield 88, 3) := by decide +kernel
theorem dX9_coupleRests_31 : decode cX9_coupleRests 31 = .ok (.iconst 2, 1) := by decide +kernel
theorem dX9_coupleRests_32 : decode cX9_coupleRests 32 = .ok (.iload_n 1, 1) := by decide +kernel
theorem dX9_coupleRests_33 : decode cX9_coupleRests 33 = .ok (.imul, 1) := by decide +kernel
theorem dX9_coupleRests_34 : decode cX9_coupleRests 34 = .ok (.iconst 1, 1) := by decide +kernel
theorem dX9_coupleRests_35 : decode cX9_coupleRests 35 = .ok (.iadd, 1) := by decide +kernel
theorem dX9_coupleRests_36 : decode cX9_coupleRests 36 = .ok (.iaload, 1) := by decide +kernel
theorem dX9_coupleRests_37 : decode cX9_coupleRests 37 = .ok (.aload_n 0, 1) := by decide +kernel
theorem dX9_coupleRests_38 : decode cX9_coupleRests 38 = .ok (.getfield 88, 3) := by decide +kernel
theorem dX9_coupleRests_41 : decode cX9_coupleRests 41 = .ok (.iconst 2, 1) := by decide +kernel
theorem dX9_coupleRests_42 : decode cX9_coupleRests 42 = .ok (.iload_n 1, 1) := by decide +kernel
theorem dX9_coupleRests_43 : decode cX9_coupleRests 43 = .ok (.iconst 1, 1) := by decide +kernel
theorem dX9_coupleRests_44 : decode cX9_coupleRests 44 = .ok (.ixor, 1) := by decide +kernel
theorem dX9_coupleRests_45 : decode cX9_coupleRests 45 = .ok (.imul, 1) := by decide +kernel
theorem dX9_coupleRests_46 : decode cX9_coupleRests 46 = .ok (.iconst 1, 1) := by decide +kernel
theorem dX9_coupleRests_47 : decode cX9_coupleRests 47 = .ok (.iadd, 1) := by decide +kernel
theorem dX9_coupleRests_48 : decode cX9_coupleRests 48 = .ok (.iaload, 1) := by decide +kernel
theorem dX9_coupleRests_49 : decode cX9_coupleRests 49 = .ok (.if_icmp .lt 7, 3) := by decide +kernel
theorem dX9_coupleRests_52 : decode cX9_coupleRests 52 = .ok (.iconst 1, 1) := by decide +kernel
theorem dX9_coupleRests_53 : decode cX9_coupleRests 53 = .ok (.goto 4, 3) := by decide +kernel
theorem dX9_coupleRests_56 : decode cX9_coupleRests 56 = .ok (.iconst 0, 1) := by decide +kernel
theorem dX9_coupleRests_57 : decode cX9_coupleRests 57 = .ok (.istore_n 3, 1) := by decide +kernel
theorem dX9_coupleRests_58 : decode cX9_coupleRests 58 = .ok (.iload_n 2, 1) := by decide +kernel
theorem dX9_coupleRests_59 : decode cX9_coupleRests 59 = .ok (.ifCond .eq 11, 3) := by decide +kernel
theorem dX9_coupleRests_62 : decode cX9_coupleRests 62 = .ok (.iload_n 3, 1) := by decide +kernel
theorem dX9_coupleRests_63 : decode cX9_coupleRests 63 = .ok (.ifCond .eq 7, 3) := by decide +kernel
theorem dX9_coupleRests_66 : decode cX9_coupleRests 66 = .ok (.iconst 1, 1) := by decide +kernel
theorem dX9_coupleRests_67 : decode cX9_coupleRests 67 = .ok (.goto 4, 3) := by decide +kernel
theorem dX9_coupleRests_70 : decode cX9_coupleRests 70 = .ok (.iconst 0, 1) := by decide +kernel
theorem dX9_coupleRests_71 : decode cX9_coupleRests 71 = .ok (.ireturn, 1) := by decide +kernel
theorem dX9_years_0 : decode cX9_years 0 = .ok (.iload_n 3, 1) := by decide +kernel
theorem dX9_years_1 : decode cX9_years 1 = .ok (.iconst 2, 1) := by decide +kernel
theorem dX9_years_2 : decode cX9_years 2 = .ok (.invokestatic 238, 3) := by decide +kernel
theorem dX9_years_5 : decode cX9_years 5 = .ok (.iload_n 2, 1) := by decide +kernel
theorem dX9_years_6 : decode cX9_years 6 = .ok (.iconst 0, 1) := by decide +kernel
theorem dX9_years_7 : decode cX9_years 7 = .ok (.bipush 40, 2) := by decide +kernel
theorem dX9_years_9 : decode cX9_years 9 = .ok (.invokestatic 241, 3) := by decide +kernel
theorem dX9_years_12 : decode cX9_years 12 = .ok (.aload_n 0, 1) := by decide +kernel
theorem dX9_years_13 : decode cX9_years 13 = .ok (.getfield 48, 3) := by decide +kernel
theorem dX9_years_16 : decode cX9_years 16 = .ok (.aload_n 0, 1) := by decide +kernel
theorem dX9_years_17 : decode cX9_years 17 = .ok (.getfield 44, 3) := by decide +kernel
theorem dX9_years_20 : decode cX9_years 20 = .ok (.invokevirtual 248, 3) := by decide +kernel
theorem dX9_years_23 : decode cX9_years 23 = .ok (.aload_n 0, 1) := by decide +kernel
theorem dX9_years_24 : decode cX9_years 24 = .ok (.iload_n 1, 1) := by decide +kernel
theorem dX9_years_25 : decode cX9_years 25 = .ok (.putfield 91, 3) := by decide +kernel
theorem dX9_years_28 : decode cX9_years 28 = .ok (.iconst 0, 1) := by decide +kernel
theorem dX9_years_29 : decode cX9_years 29 = .ok (.istore 4, 2) := by decide +kernel
theorem dX9_years_31 : decode cX9_years 31 = .ok (.iload 4, 2) := by decide +kernel
theorem dX9_years_33 : decode cX9_years 33 = .ok (.iload_n 2, 1) := by decide +kernel
theorem dX9_years_34 : decode cX9_years 34 = .ok (.if_icmp .ge 59, 3) := by decide +kernel
theorem dX9_years_37 : decode cX9_years 37 = .ok (.aload_n 0, 1) := by decide +kernel
theorem dX9_years_38 : decode cX9_years 38 = .ok (.bipush 10, 2) := by decide +kernel
theorem dX9_years_40 : decode cX9_years 40 = .ok (.invokevirtual 339, 3) := by decide +kernel
theorem dX9_years_43 : decode cX9_years 43 = .ok (.istore 5, 2) := by decide +kernel
theorem dX9_years_45 : decode cX9_years 45 = .ok (.aload_n 0, 1) := by decide +kernel
theorem dX9_years_46 : decode cX9_years 46 = .ok (.getfield 34, 3) := by decide +kernel
theorem dX9_years_49 : decode cX9_years 49 = .ok (.getfield 125, 3) := by decide +kernel
theorem dX9_years_52 : decode cX9_years 52 = .ok (.ifCond .le 7, 3) := by decide +kernel
theorem dX9_years_55 : decode cX9_years 55 = .ok (.aload_n 0, 1) := by decide +kernel
theorem dX9_years_56 : decode cX9_years 56 = .ok (.invokevirtual 342, 3) := by decide +kernel
theorem dX9_years_59 : decode cX9_years 59 = .ok (.aload_n 0, 1) := by decide +kernel
theorem dX9_years_60 : decode cX9_years 60 = .ok (.getfield 34, 3) := by decide +kernel
theorem dX9_years_63 : decode cX9_years 63 = .ok (.aload_n 0, 1) := by decide +kernel
theorem dX9_years_64 : decode cX9_years 64 = .ok (.getfield 48, 3) := by decide +kernel
theorem dX9_years_67 : decode cX9_years 67 = .ok (.iload 5, 2) := by decide +kernel
theorem dX9_years_69 : decode cX9_years 69 = .ok (.aload_n 0, 1) := by decide +kernel
theorem dX9_years_70 : decode cX9_years 70 = .ok (.getfield 34, 3) := by decide +kernel
theorem dX9_years_73 : decode cX9_years 73 = .ok (.aload_n 0, 1) := by decide +kernel
theorem dX9_years_74 : decode cX9_years 74 = .ok (.getfield 48, 3) := by decide +kernel
theorem dX9_years_77 : decode cX9_years 77 = .ok (.invokevirtual 128, 3) := by decide +kernel
theorem dX9_years_80 : decode cX9_years 80 = .ok (.invokevirtual 139, 3) := by decide +kernel
theorem dX9_years_83 : decode cX9_years 83 = .ok (.invokevirtual 323, 3) := by decide +kernel
theorem dX9_years_86 : decode cX9_years 86 = .ok (.pop, 1) := by decide +kernel
theorem dX9_years_87 : decode cX9_years 87 = .ok (.iinc 4 1, 3) := by decide +kernel
theorem dX9_years_90 : decode cX9_years 90 = .ok (.goto (-59), 3) := by decide +kernel
theorem dX9_years_93 : decode cX9_years 93 = .ok (.iload_n 3, 1) := by decide +kernel
theorem dX9_years_94 : decode cX9_years 94 = .ok (.lookupswitch 50 #[(0, 26), (1, 42)], 26) := by decide +kernel
theorem dX9_years_120 : decode cX9_years 120 = .ok (.aload_n 0, 1) := by decide +kernel
theorem dX9_years_121 : decode cX9_years 121 = .ok (.getfield 48, 3) := by decide +kernel
theorem dX9_years_124 : decode cX9_years 124 = .ok (.invokevirtual 145, 3) := by decide +kernel
theorem dX9_years_127 : decode cX9_years 127 = .ok (.aload_n 0, 1) := by decide +kernel
theorem dX9_years_128 : decode cX9_years 128 = .ok (.getfield 44, 3) := by decide +kernel
theorem dX9_years_131 : decode cX9_years 131 = .ok (.invokevirtual 145, 3) := by decide +kernel
theorem dX9_years_134 : decode cX9_years 134 = .ok (.isub, 1) := by decide +kernel
theorem dX9_years_135 : decode cX9_years 135 = .ok (.ireturn, 1) := by decide +kernel
theorem dX9_years_136 : decode cX9_years 136 = .ok (.aload_n 0, 1) := by decide +kernel
theorem dX9_years_137 : decode cX9_years 137 = .ok (.getfield 48, 3) := by decide +kernel
theorem dX9_years_140 : decode cX9_years 140 = .ok (.invokevirtual 345, 3) := by decide +kernel
theorem dX9_years_143 : decode cX9_years 143 = .ok (.ireturn, 1) := by decide +kernel
theorem dX9_years_144 : decode cX9_years 144 = .ok (.aload_n 0, 1) := by decide +kernel
theorem dX9_years_145 : decode cX9_years 145 = .ok (.getfield 48, 3) := by decide +kernel
theorem dX9_years_148 : decode cX9_years 148 = .ok (.invokevirtual 142, 3) := by decide +kernel
theorem dX9_years_151 : decode cX9_years 151 = .ok (.ireturn, 1) := by decide +kernel
theorem dX9_drawAct_0 : decode cX9_drawAct 0 = .ok (.aload_n 0, 1) := by decide +kernel
theorem dX9_drawAct_1 : decode cX9_drawAct 1 = .ok (.aload_n 0, 1) := by decide +kernel
theorem dX9_drawAct_2 : decode cX9_drawAct 2 = .ok (.getfield 34, 3) := by decide +kernel
theorem dX9_drawAct_5 : decode cX9_drawAct 5 = .ok (.getfield 125, 3) := by decide +kernel
theorem dX9_drawAct_8 : decode cX9_drawAct 8 = .ok (.invokevirtual 339, 3) := by decide +kernel
theorem dX9_drawAct_11 : decode cX9_drawAct 11 = .ok (.istore_n 1, 1) := by decide +kernel
theorem dX9_drawAct_12 : decode cX9_drawAct 12 = .ok (.aload_n 0, 1) := by decide +kernel
theorem dX9_drawAct_13 : decode cX9_drawAct 13 = .ok (.bipush 6, 2) := by decide +kernel
theorem dX9_drawAct_15 : decode cX9_drawAct 15 = .ok (.invokevirtual 339, 3) := by decide +kernel
theorem dX9_drawAct_18 : decode cX9_drawAct 18 = .ok (.istore_n 2, 1) := by decide +kernel
theorem dX9_drawAct_19 : decode cX9_drawAct 19 = .ok (.iload_n 2, 1) := by decide +kernel
theorem dX9_drawAct_20 : decode cX9_drawAct 20 = .ok (.ifCond .ne 14, 3) := by decide +kernel
theorem dX9_drawAct_23 : decode cX9_drawAct 23 = .ok (.aload_n 0, 1) := by decide +kernel
theorem dX9_drawAct_24 : decode cX9_drawAct 24 = .ok (.getfield 48, 3) := by decide +kernel
theorem dX9_drawAct_27 : decode cX9_drawAct 27 = .ok (.iload_n 1, 1) := by decide +kernel
theorem dX9_drawAct_28 : decode cX9_drawAct 28 = .ok (.invokevirtual 221, 3) := by decide +kernel
theorem dX9_drawAct_31 : decode cX9_drawAct 31 = .ok (.goto 68, 3) := by decide +kernel
theorem dX9_drawAct_34 : decode cX9_drawAct 34 = .ok (.iload_n 2, 1) := by decide +kernel
theorem dX9_drawAct_35 : decode cX9_drawAct 35 = .ok (.iconst 1, 1) := by decide +kernel
theorem dX9_drawAct_36 : decode cX9_drawAct 36 = .ok (.if_icmp .ne 36, 3) := by decide +kernel
theorem dX9_drawAct_39 : decode cX9_drawAct 39 = .ok (.aload_n 0, 1) := by decide +kernel
theorem dX9_drawAct_40 : decode cX9_drawAct 40 = .ok (.aload_n 0, 1) := by decide +kernel
theorem dX9_drawAct_41 : decode cX9_drawAct 41 = .ok (.getfield 34, 3) := by decide +kernel
theorem dX9_drawAct_44 : decode cX9_drawAct 44 = .ok (.getfield 125, 3) := by decide +kernel
theorem dX9_drawAct_47 : decode cX9_drawAct 47 = .ok (.invokevirtual 339, 3) := by decide +kernel
theorem dX9_drawAct_50 : decode cX9_drawAct 50 = .ok (.istore_n 3, 1) := by decide +kernel
theorem dX9_drawAct_51 : decode cX9_drawAct 51 = .ok (.aload_n 0, 1) := by decide +kernel
theorem dX9_drawAct_52 : decode cX9_drawAct 52 = .ok (.getfield 48, 3) := by decide +kernel
theorem dX9_drawAct_55 : decode cX9_drawAct 55 = .ok (.iload_n 1, 1) := by decide +kernel
theorem dX9_drawAct_56 : decode cX9_drawAct 56 = .ok (.iload_n 3, 1) := by decide +kernel
theorem dX9_drawAct_57 : decode cX9_drawAct 57 = .ok (.iload_n 1, 1) := by decide +kernel
theorem dX9_drawAct_58 : decode cX9_drawAct 58 = .ok (.if_icmp .ne 7, 3) := by decide +kernel
theorem dX9_drawAct_61 : decode cX9_drawAct 61 = .ok (.iconst (-1), 1) := by decide +kernel
theorem dX9_drawAct_62 : decode cX9_drawAct 62 = .ok (.goto 4, 3) := by decide +kernel
theorem dX9_drawAct_65 : decode cX9_drawAct 65 = .ok (.iload_n 3, 1) := by decide +kernel
theorem dX9_drawAct_66 : decode cX9_drawAct 66 = .ok (.invokevirtual 228, 3) := by decide +kernel
theorem dX9_drawAct_69 : decode cX9_drawAct 69 = .ok (.goto 30, 3) := by decide +kernel
theorem dX9_drawAct_72 : decode cX9_drawAct 72 = .ok (.iload_n 2, 1) := by decide +kernel
theorem dX9_drawAct_73 : decode cX9_drawAct 73 = .ok (.iconst 2, 1) := by decide +kernel
theorem dX9_drawAct_74 : decode cX9_drawAct 74 = .ok (.if_icmp .ne 25, 3) := by decide +kernel
theorem dX9_drawAct_77 : decode cX9_drawAct 77 = .ok (.aload_n 0, 1) := by decide +kernel
theorem dX9_drawAct_78 : decode cX9_drawAct 78 = .ok (.getfield 48, 3) := by decide +kernel
theorem dX9_drawAct_81 : decode cX9_drawAct 81 = .ok (.aload_n 0, 1) := by decide +kernel
theorem dX9_drawAct_82 : decode cX9_drawAct 82 = .ok (.getfield 48, 3) := by decide +kernel
theorem dX9_drawAct_85 : decode cX9_drawAct 85 = .ok (.invokevirtual 135, 3) := by decide +kernel
theorem dX9_drawAct_88 : decode cX9_drawAct 88 = .ok (.ifCond .ne 7, 3) := by decide +kernel
theorem dX9_drawAct_91 : decode cX9_drawAct 91 = .ok (.iconst 1, 1) := by decide +kernel
theorem dX9_drawAct_92 : decode cX9_drawAct 92 = .ok (.goto 4, 3) := by decide +kernel
theorem dX9_drawAct_95 : decode cX9_drawAct 95 = .ok (.iconst 0, 1) := by decide +kernel
theorem dX9_drawAct_96 : decode cX9_drawAct 96 = .ok (.invokevirtual 231, 3) := by decide +kernel
theorem dX9_drawAct_99 : decode cX9_drawAct 99 = .ok (.return_, 1) := by decide +kernel
theorem dX9_draw_0 : decode cX9_draw 0 = .ok (.aload_n 0, 1) := by decide +kernel
theorem dX9_draw_1 : decode cX9_draw 1 = .ok (.aload_n 0, 1) := by decide +kernel
theorem dX9_draw_2 : decode cX9_draw 2 = .ok (.getfield 91, 3) := by decide +kernel
theorem dX9_draw_5 : decode cX9_draw 5 = .ok (.ldc_w 348, 3) := by decide +kernel
theorem dX9_draw_8 : decode cX9_draw 8 = .ok (.imul, 1) := by decide +kernel
theorem dX9_draw_9 : decode cX9_draw 9 = .ok (.sipush 12345, 3) := by decide +kernel
theorem dX9_draw_12 : decode cX9_draw 12 = .ok (.iadd, 1) := by decide +kernel
theorem dX9_draw_13 : decode cX9_draw 13 = .ok (.putfield 91, 3) := by decide +kernel
theorem dX9_draw_16 : decode cX9_draw 16 = .ok (.iload_n 1, 1) := by decide +kernel
theorem dX9_draw_17 : decode cX9_draw 17 = .ok (.iconst 1, 1) := by decide +kernel
theorem dX9_draw_18 : decode cX9_draw 18 = .ok (.if_icmp .ge 7, 3) := by decide +kernel
theorem dX9_draw_21 : decode cX9_draw 21 = .ok (.iconst 0, 1) := by decide +kernel
theorem dX9_draw_22 : decode cX9_draw 22 = .ok (.goto 16, 3) := by decide +kernel
theorem dX9_draw_25 : decode cX9_draw 25 = .ok (.aload_n 0, 1) := by decide +kernel
theorem dX9_draw_26 : decode cX9_draw 26 = .ok (.getfield 91, 3) := by decide +kernel
theorem dX9_draw_29 : decode cX9_draw 29 = .ok (.bipush 16, 2) := by decide +kernel
theorem dX9_draw_31 : decode cX9_draw 31 = .ok (.iushr, 1) := by decide +kernel
theorem dX9_draw_32 : decode cX9_draw 32 = .ok (.sipush 32767, 3) := by decide +kernel
theorem dX9_draw_35 : decode cX9_draw 35 = .ok (.iand, 1) := by decide +kernel
theorem dX9_draw_36 : decode cX9_draw 36 = .ok (.iload_n 1, 1) := by decide +kernel
theorem dX9_draw_37 : decode cX9_draw 37 = .ok (.irem, 1) := by decide +kernel
theorem dX9_draw_38 : decode cX9_draw 38 = .ok (.ireturn, 1) := by decide +kernel
theorem dX9_pale_0 : decode cX9_pale 0 = .ok (.aload_n 0, 1) := by decide +kernel
theorem dX9_pale_1 : decode cX9_pale 1 = .ok (.iload_n 1, 1) := by decide +kernel
theorem dX9_pale_2 : decode cX9_pale 2 = .ok (.invokevirtual 164, 3) := by decide +kernel
theorem dX9_pale_5 : decode cX9_pale 5 = .ok (.iload_n 2, 1) := by decide +kernel
theorem dX9_pale_6 : decode cX9_pale 6 = .ok (.iconst 0, 1) := by decide +kernel
theorem dX9_pale_7 : decode cX9_pale 7 = .ok (.bipush 99, 2) := by decide +kernel
theorem dX9_pale_9 : decode cX9_pale 9 = .ok (.invokestatic 241, 3) := by decide +kernel
theorem dX9_pale_12 : decode cX9_pale 12 = .ok (.aload_n 0, 1) := by decide +kernel
theorem dX9_pale_13 : decode cX9_pale 13 = .ok (.getfield 48, 3) := by decide +kernel
theorem dX9_pale_16 : decode cX9_pale 16 = .ok (.aload_n 0, 1) := by decide +kernel
theorem dX9_pale_17 : decode cX9_pale 17 = .ok (.getfield 44, 3) := by decide +kernel
theorem dX9_pale_20 : decode cX9_pale 20 = .ok (.invokevirtual 248, 3) := by decide +kernel
theorem dX9_pale_23 : decode cX9_pale 23 = .ok (.iconst 0, 1) := by decide +kernel
theorem dX9_pale_24 : decode cX9_pale 24 = .ok (.istore_n 3, 1) := by decide +kernel
theorem dX9_pale_25 : decode cX9_pale 25 = .ok (.iload_n 3, 1) := by decide +kernel
theorem dX9_pale_26 : decode cX9_pale 26 = .ok (.bipush 40, 2) := by decide +kernel
theorem dX9_pale_28 : decode cX9_pale 28 = .ok (.if_icmp .gt 35, 3) := by decide +kernel
theorem dX9_pale_31 : decode cX9_pale 31 = .ok (.aload_n 0, 1) := by decide +kernel
theorem dX9_pale_32 : decode cX9_pale 32 = .ok (.getfield 48, 3) := by decide +kernel
theorem dX9_pale_35 : decode cX9_pale 35 = .ok (.iload_n 1, 1) := by decide +kernel
theorem dX9_pale_36 : decode cX9_pale 36 = .ok (.invokevirtual 170, 3) := by decide +kernel
theorem dX9_pale_39 : decode cX9_pale 39 = .ok (.iload_n 2, 1) := by decide +kernel
theorem dX9_pale_40 : decode cX9_pale 40 = .ok (.if_icmp .gt 5, 3) := by decide +kernel
theorem dX9_pale_43 : decode cX9_pale 43 = .ok (.iload_n 3, 1) := by decide +kernel
theorem dX9_pale_44 : decode cX9_pale 44 = .ok (.ireturn, 1) := by decide +kernel
theorem dX9_pale_45 : decode cX9_pale 45 = .ok (.aload_n 0, 1) := by decide +kernel
theorem dX9_pale_46 : decode cX9_pale 46 = .ok (.getfield 34, 3) := by decide +kernel
theorem dX9_pale_49 : decode cX9_pale 49 = .ok (.aload_n 0, 1) := by decide +kernel
theorem dX9_pale_50 : decode cX9_pale 50 = .ok (.getfield 48, 3) := by decide +kernel
theorem dX9_pale_53 : decode cX9_pale 53 = .ok (.invokevirtual 218, 3) := by decide +kernel
theorem dX9_pale_56 : decode cX9_pale 56 = .ok (.pop, 1) := by decide +kernel
theorem dX9_pale_57 : decode cX9_pale 57 = .ok (.iinc 3 1, 3) := by decide +kernel
theorem dX9_pale_60 : decode cX9_pale 60 = .ok (.goto (-35), 3) := by decide +kernel
theorem dX9_pale_63 : decode cX9_pale 63 = .ok (.iconst (-1), 1) := by decide +kernel
theorem dX9_pale_64 : decode cX9_pale 64 = .ok (.ireturn, 1) := by decide +kernel
theorem dX9_visits_0 : decode cX9_visits 0 = .ok (.aload_n 0, 1) := by decide +kernel
theorem dX9_visits_1 : decode cX9_visits 1 = .ok (.iload_n 1, 1) := by decide +kernel
theorem dX9_visits_2 : decode cX9_visits 2 = .ok (.invokevirtual 164, 3) := by decide +kernel
theorem dX9_visits_5 : decode cX9_visits 5 = .ok (.iload_n 2, 1) := by decide +kernel
theorem dX9_visits_6 : decode cX9_visits 6 = .ok (.iconst 1, 1) := by decide +kernel
theorem dX9_visits_7 : decode cX9_visits 7 = .ok (.bipush 60, 2) := by decide +kernel
theorem dX9_visits_9 : decode cX9_visits 9 = .ok (.invokestatic 241, 3) := by decide +kernel
theorem dX9_visits_12 : decode cX9_visits 12 = .ok (.iconst 0, 1) := by decide +kernel
theorem dX9_visits_13 : decode cX9_visits 13 = .ok (.istore_n 3, 1) := by decide +kernel
theorem dX9_visits_14 : decode cX9_visits 14 = .ok (.iconst 0, 1) := by decide +kernel
theorem dX9_visits_15 : decode cX9_visits 15 = .ok (.istore 4, 2) := by decide +kernel
theorem dX9_visits_17 : decode cX9_visits 17 = .ok (.iload 4, 2) := by decide +kernel
theorem dX9_visits_19 : decode cX9_visits 19 = .ok (.iload_n 2, 1) := by decide +kernel
theorem dX9_visits_20 : decode cX9_visits 20 = .ok (.if_icmp .ge 33, 3) := by decide +kernel
theorem dX9_visits_23 : decode cX9_visits 23 = .ok (.aload_n 0, 1) := by decide +kernel
theorem dX9_visits_24 : decode cX9_visits 24 = .ok (.getfield 34, 3) := by decide +kernel
theorem dX9_visits_27 : decode cX9_visits 27 = .ok (.aload_n 0, 1) := by decide +kernel
theorem dX9_visits_28 : decode cX9_visits 28 = .ok (.getfield 44, 3) := by decide +kernel
theorem dX9_visits_31 : decode cX9_visits 31 = .ok (.invokevirtual 128, 3) := by decide +kernel
theorem dX9_visits_34 : decode cX9_visits 34 = .ok (.iload 4, 2) := by decide +kernel
theorem dX9_visits_36 : decode cX9_visits 36 = .ok (.iadd, 1) := by decide +kernel
theorem dX9_visits_37 : decode cX9_visits 37 = .ok (.invokevirtual 139, 3) := by decide +kernel
theorem dX9_visits_40 : decode cX9_visits 40 = .ok (.iload_n 1, 1) := by decide +kernel
theorem dX9_visits_41 : decode cX9_visits 41 = .ok (.if_icmp .ne 6, 3) := by decide +kernel
theorem dX9_visits_44 : decode cX9_visits 44 = .ok (.iinc 3 1, 3) := by decide +kernel
theorem dX9_visits_47 : decode cX9_visits 47 = .ok (.iinc 4 1, 3) := by decide +kernel
theorem dX9_visits_50 : decode cX9_visits 50 = .ok (.goto (-33), 3) := by decide +kernel
theorem dX9_visits_53 : decode cX9_visits 53 = .ok (.iload_n 3, 1) := by decide +kernel
theorem dX9_visits_54 : decode cX9_visits 54 = .ok (.ireturn, 1) := by decide +kernel
theorem dX9_steps_0 : decode cX9_steps 0 = .ok (.aload_n 0, 1) := by decide +kernel
theorem dX9_steps_1 : decode cX9_steps 1 = .ok (.iload_n 1, 1) := by decide +kernel
theorem dX9_steps_2 : decode cX9_steps 2 = .ok (.invokevirtual 182, 3) := by decide +kernel
theorem dX9_steps_5 : decode cX9_steps 5 = .ok (.aload_n 0, 1) := by decide +kernel
theorem dX9_steps_6 : decode cX9_steps 6 = .ok (.iload_n 2, 1) := by decide +kernel
theorem dX9_steps_7 : decode cX9_steps 7 = .ok (.invokevirtual 182, 3) := by decide +kernel
theorem dX9_steps_10 : decode cX9_steps 10 = .ok (.iload_n 1, 1) := by decide +kernel
theorem dX9_steps_11 : decode cX9_steps 11 = .ok (.istore_n 3, 1) := by decide +kernel
theorem dX9_steps_12 : decode cX9_steps 12 = .ok (.iconst 0, 1) := by decide +kernel
theorem dX9_steps_13 : decode cX9_steps 13 = .ok (.istore 4, 2) := by decide +kernel
theorem dX9_steps_15 : decode cX9_steps 15 = .ok (.iload 4, 2) := by decide +kernel
theorem dX9_steps_17 : decode cX9_steps 17 = .ok (.bipush 8, 2) := by decide +kernel
theorem dX9_steps_19 : decode cX9_steps 19 = .ok (.if_icmp .ge 31, 3) := by decide +kernel
theorem dX9_steps_22 : decode cX9_steps 22 = .ok (.iload_n 3, 1) := by decide +kernel
theorem dX9_steps_23 : decode cX9_steps 23 = .ok (.iconst (-1), 1) := by decide +kernel
theorem dX9_steps_24 : decode cX9_steps 24 = .ok (.if_icmp .eq 26, 3) := by decide +kernel
theorem dX9_steps_27 : decode cX9_steps 27 = .ok (.iload_n 3, 1) := by decide +kernel
theorem dX9_steps_28 : decode cX9_steps 28 = .ok (.iload_n 2, 1) := by decide +kernel
theorem dX9_steps_29 : decode cX9_steps 29 = .ok (.if_icmp .ne 6, 3) := by decide +kernel
theorem dX9_steps_32 : decode cX9_steps 32 = .ok (.iload 4, 2) := by decide +kernel
theorem dX9_steps_34 : decode cX9_steps 34 = .ok (.ireturn, 1) := by decide +kernel
theorem dX9_steps_35 : decode cX9_steps 35 = .ok (.aload_n 0, 1) := by decide +kernel
theorem dX9_steps_36 : decode cX9_steps 36 = .ok (.getfield 44, 3) := by decide +kernel
theorem dX9_steps_39 : decode cX9_steps 39 = .ok (.iload_n 3, 1) := by decide +kernel
theorem dX9_steps_40 : decode cX9_steps 40 = .ok (.invokevirtual 191, 3) := by decide +kernel
theorem dX9_steps_43 : decode cX9_steps 43 = .ok (.istore_n 3, 1) := by decide +kernel
theorem dX9_steps_44 : decode cX9_steps 44 = .ok (.iinc 4 1, 3) := by decide +kernel
theorem dX9_steps_47 : decode cX9_steps 47 = .ok (.goto (-32), 3) := by decide +kernel
theorem dX9_steps_50 : decode cX9_steps 50 = .ok (.iconst (-1), 1) := by decide +kernel
theorem dX9_steps_51 : decode cX9_steps 51 = .ok (.ireturn, 1) := by decide +kernel
theorem dX9_quiet_0 : decode cX9_quiet 0 = .ok (.aload_n 0, 1) := by decide +kernel
theorem dX9_quiet_1 : decode cX9_quiet 1 = .ok (.iload_n 1, 1) := by decide +kernel
theorem dX9_quiet_2 : decode cX9_quiet 2 = .ok (.invokevirtual 182, 3) := by decide +kernel
theorem dX9_quiet_5 : decode cX9_quiet 5 = .ok (.iload_n 2, 1) := by decide +kernel
theorem dX9_quiet_6 : decode cX9_quiet 6 = .ok (.iconst 1, 1) := by decide +kernel
theorem dX9_quiet_7 : decode cX9_quiet 7 = .ok (.bipush 40, 2) := by decide +kernel
theorem dX9_quiet_9 : decode cX9_quiet 9 = .ok (.invokestatic 241, 3) := by decide +kernel
theorem dX9_quiet_12 : decode cX9_quiet 12 = .ok (.aload_n 0, 1) := by decide +kernel
theorem dX9_quiet_13 : decode cX9_quiet 13 = .ok (.getfield 48, 3) := by decide +kernel
theorem dX9_quiet_16 : decode cX9_quiet 16 = .ok (.aload_n 0, 1) := by decide +kernel
theorem dX9_quiet_17 : decode cX9_quiet 17 = .ok (.getfield 44, 3) := by decide +kernel
theorem dX9_quiet_20 : decode cX9_quiet 20 = .ok (.invokevirtual 248, 3) := by decide +kernel
theorem dX9_quiet_23 : decode cX9_quiet 23 = .ok (.iconst 0, 1) := by decide +kernel
theorem dX9_quiet_24 : decode cX9_quiet 24 = .ok (.istore_n 3, 1) := by decide +kernel
theorem dX9_quiet_25 : decode cX9_quiet 25 = .ok (.iconst 0, 1) := by decide +kernel
theorem dX9_quiet_26 : decode cX9_quiet 26 = .ok (.istore 4, 2) := by decide +kernel
theorem dX9_quiet_28 : decode cX9_quiet 28 = .ok (.iconst 0, 1) := by decide +kernel
theorem dX9_quiet_29 : decode cX9_quiet 29 = .ok (.istore 5, 2) := by decide +kernel
theorem dX9_quiet_31 : decode cX9_quiet 31 = .ok (.iload 5, 2) := by decide +kernel
theorem dX9_quiet_33 : decode cX9_quiet 33 = .ok (.iload_n 2, 1) := by decide +kernel
theorem dX9_quiet_34 : decode cX9_quiet 34 = .ok (.if_icmp .ge 61, 3) := by decide +kernel
theorem dX9_quiet_37 : decode cX9_quiet 37 = .ok (.aload_n 0, 1) := by decide +kernel
theorem dX9_quiet_38 : decode cX9_quiet 38 = .ok (.getfield 48, 3) := by decide +kernel
theorem dX9_quiet_41 : decode cX9_quiet 41 = .ok (.iload_n 1, 1) := by decide +kernel
theorem dX9_quiet_42 : decode cX9_quiet 42 = .ok (.invokevirtual 197, 3) := by decide +kernel
theorem dX9_quiet_45 : decode cX9_quiet 45 = .ok (.istore 6, 2) := by decide +kernel
theorem dX9_quiet_47 : decode cX9_quiet 47 = .ok (.aload_n 0, 1) := by decide +kernel
theorem dX9_quiet_48 : decode cX9_quiet 48 = .ok (.getfield 34, 3) := by decide +kernel
theorem dX9_quiet_51 : decode cX9_quiet 51 = .ok (.aload_n 0, 1) := by decide +kernel
theorem dX9_quiet_52 : decode cX9_quiet 52 = .ok (.getfield 48, 3) := by decide +kernel
theorem dX9_quiet_55 : decode cX9_quiet 55 = .ok (.invokevirtual 218, 3) := by decide +kernel
theorem dX9_quiet_58 : decode cX9_quiet 58 = .ok (.pop, 1) := by decide +kernel
theorem dX9_quiet_59 : decode cX9_quiet 59 = .ok (.aload_n 0, 1) := by decide +kernel
theorem dX9_quiet_60 : decode cX9_quiet 60 = .ok (.getfield 48, 3) := by decide +kernel
theorem dX9_quiet_63 : decode cX9_quiet 63 = .ok (.iload_n 1, 1) := by decide +kernel
theorem dX9_quiet_64 : decode cX9_quiet 64 = .ok (.invokevirtual 197, 3) := by decide +kernel
theorem dX9_quiet_67 : decode cX9_quiet 67 = .ok (.iload 6, 2) := by decide +kernel
theorem dX9_quiet_69 : decode cX9_quiet 69 = .ok (.if_icmp .ne 10, 3) := by decide +kernel
theorem dX9_quiet_72 : decode cX9_quiet 72 = .ok (.iload 4, 2) := by decide +kernel
theorem dX9_quiet_74 : decode cX9_quiet 74 = .ok (.iconst 1, 1) := by decide +kernel
theorem dX9_quiet_75 : decode cX9_quiet 75 = .ok (.iadd, 1) := by decide +kernel
theorem dX9_quiet_76 : decode cX9_quiet 76 = .ok (.goto 4, 3) := by decide +kernel
theorem dX9_quiet_79 : decode cX9_quiet 79 = .ok (.iconst 0, 1) := by decide +kernel
theorem dX9_quiet_80 : decode cX9_quiet 80 = .ok (.istore 4, 2) := by decide +kernel
theorem dX9_quiet_82 : decode cX9_quiet 82 = .ok (.iload_n 3, 1) := by decide +kernel
theorem dX9_quiet_83 : decode cX9_quiet 83 = .ok (.iload 4, 2) := by decide +kernel
theorem dX9_quiet_85 : decode cX9_quiet 85 = .ok (.invokestatic 349, 3) := by decide +kernel
theorem dX9_quiet_88 : decode cX9_quiet 88 = .ok (.istore_n 3, 1) := by decide +kernel
theorem dX9_quiet_89 : decode cX9_quiet 89 = .ok (.iinc 5 1, 3) := by decide +kernel
theorem dX9_quiet_92 : decode cX9_quiet 92 = .ok (.goto (-61), 3) := by decide +kernel
theorem dX9_quiet_95 : decode cX9_quiet 95 = .ok (.iload_n 3, 1) := by decide +kernel
theorem dX9_quiet_96 : decode cX9_quiet 96 = .ok (.ireturn, 1) := by decide +kernel
theorem dX9_middle_0 : decode cX9_middle 0 = .ok (.aload_n 0, 1) := by decide +kernel
theorem dX9_middle_1 : decode cX9_middle 1 = .ok (.getfield 34, 3) := by decide +kernel
theorem dX9_middle_4 : decode cX9_middle 4 = .ok (.iconst 0, 1) := by decide +kernel
theorem dX9_middle_5 : decode cX9_middle 5 = .ok (.invokevirtual 269, 3) := by decide +kernel
theorem dX9_middle_8 : decode cX9_middle 8 = .ok (.ireturn, 1) := by decide +kernel
theorem dX9_bestAt_0 : decode cX9_bestAt 0 = .ok (.aload_n 0, 1) := by decide +kernel
theorem dX9_bestAt_1 : decode cX9_bestAt 1 = .ok (.iload_n 1, 1) := by decide +kernel
theorem dX9_bestAt_2 : decode cX9_bestAt 2 = .ok (.invokevirtual 182, 3) := by decide +kernel
theorem dX9_bestAt_5 : decode cX9_bestAt 5 = .ok (.iload_n 2, 1) := by decide +kernel
theorem dX9_bestAt_6 : decode cX9_bestAt 6 = .ok (.iconst 1, 1) := by decide +kernel
theorem dX9_bestAt_7 : decode cX9_bestAt 7 = .ok (.bipush 40, 2) := by decide +kernel
theorem dX9_bestAt_9 : decode cX9_bestAt 9 = .ok (.invokestatic 241, 3) := by decide +kernel
theorem dX9_bestAt_12 : decode cX9_bestAt 12 = .ok (.iconst (-1), 1) := by decide +kernel
theorem dX9_bestAt_13 : decode cX9_bestAt 13 = .ok (.istore_n 3, 1) := by decide +kernel
theorem dX9_bestAt_14 : decode cX9_bestAt 14 = .ok (.iconst (-1), 1) := by decide +kernel
theorem dX9_bestAt_15 : decode cX9_bestAt 15 = .ok (.istore 4, 2) := by decide +kernel
theorem dX9_bestAt_17 : decode cX9_bestAt 17 = .ok (.iconst 0, 1) := by decide +kernel
theorem dX9_bestAt_18 : decode cX9_bestAt 18 = .ok (.istore 5, 2) := by decide +kernel
theorem dX9_bestAt_20 : decode cX9_bestAt 20 = .ok (.iload 5, 2) := by decide +kernel
theorem dX9_bestAt_22 : decode cX9_bestAt 22 = .ok (.aload_n 0, 1) := by decide +kernel
theorem dX9_bestAt_23 : decode cX9_bestAt 23 = .ok (.getfield 34, 3) := by decide +kernel
theorem dX9_bestAt_26 : decode cX9_bestAt 26 = .ok (.getfield 125, 3) := by decide +kernel
theorem dX9_bestAt_29 : decode cX9_bestAt 29 = .ok (.if_icmp .ge 51, 3) := by decide +kernel
theorem dX9_bestAt_32 : decode cX9_bestAt 32 = .ok (.iload 5, 2) := by decide +kernel
theorem dX9_bestAt_34 : decode cX9_bestAt 34 = .ok (.iload_n 1, 1) := by decide +kernel
theorem dX9_bestAt_35 : decode cX9_bestAt 35 = .ok (.if_icmp .eq 39, 3) := by decide +kernel
theorem dX9_bestAt_38 : decode cX9_bestAt 38 = .ok (.aload_n 0, 1) := by decide +kernel
theorem dX9_bestAt_39 : decode cX9_bestAt 39 = .ok (.iload_n 1, 1) := by decide +kernel
theorem dX9_bestAt_40 : decode cX9_bestAt 40 = .ok (.iload 5, 2) := by decide +kernel
theorem dX9_bestAt_42 : decode cX9_bestAt 42 = .ok (.iload_n 2, 1) := by decide +kernel
theorem dX9_bestAt_43 : decode cX9_bestAt 43 = .ok (.invokevirtual 310, 3) := by decide +kernel
theorem dX9_bestAt_46 : decode cX9_bestAt 46 = .ok (.aload_n 0, 1) := by decide +kernel
theorem dX9_bestAt_47 : decode cX9_bestAt 47 = .ok (.getfield 48, 3) := by decide +kernel
theorem dX9_bestAt_50 : decode cX9_bestAt 50 = .ok (.iload 5, 2) := by decide +kernel
theorem dX9_bestAt_52 : decode cX9_bestAt 52 = .ok (.invokevirtual 197, 3) := by decide +kernel
theorem dX9_bestAt_55 : decode cX9_bestAt 55 = .ok (.iload 4, 2) := by decide +kernel
theorem dX9_bestAt_57 : decode cX9_bestAt 57 = .ok (.if_icmp .le 17, 3) := by decide +kernel
theorem dX9_bestAt_60 : decode cX9_bestAt 60 = .ok (.iload 5, 2) := by decide +kernel
theorem dX9_bestAt_62 : decode cX9_bestAt 62 = .ok (.istore_n 3, 1) := by decide +kernel
theorem dX9_bestAt_63 : decode cX9_bestAt 63 = .ok (.aload_n 0, 1) := by decide +kernel
theorem dX9_bestAt_64 : decode cX9_bestAt 64 = .ok (.getfield 48, 3) := by decide +kernel
theorem dX9_bestAt_67 : decode cX9_bestAt 67 = .ok (.iload 5, 2) := by decide +kernel
theorem dX9_bestAt_69 : decode cX9_bestAt 69 = .ok (.invokevirtual 197, 3) := by decide +kernel
theorem dX9_bestAt_72 : decode cX9_bestAt 72 = .ok (.istore 4, 2) := by decide +kernel
theorem dX9_bestAt_74 : decode cX9_bestAt 74 = .ok (.iinc 5 1, 3) := by decide +kernel
theorem dX9_bestAt_77 : decode cX9_bestAt 77 = .ok (.goto (-57), 3) := by decide +kernel
theorem dX9_bestAt_80 : decode cX9_bestAt 80 = .ok (.iload_n 3, 1) := by decide +kernel
theorem dX9_bestAt_81 : decode cX9_bestAt 81 = .ok (.ireturn, 1) := by decide +kernel
theorem dX9_reds_0 : decode cX9_reds 0 = .ok (.iload_n 1, 1) := by decide +kernel
theorem dX9_reds_1 : decode cX9_reds 1 = .ok (.iconst 0, 1) := by decide +kernel
theorem dX9_reds_2 : decode cX9_reds 2 = .ok (.bipush 40, 2) := by decide +kernel
theorem dX9_reds_4 : decode cX9_reds 4 = .ok (.invokestatic 241, 3) := by decide +kernel
theorem dX9_reds_7 : decode cX9_reds 7 = .ok (.aload_n 0, 1) := by decide +kernel
theorem dX9_reds_8 : decode cX9_reds 8 = .ok (.iload_n 1, 1) := by decide +kernel
theorem dX9_reds_9 : decode cX9_reds 9 = .ok (.invokevirtual 245, 3) := by decide +kernel
theorem dX9_reds_12 : decode cX9_reds 12 = .ok (.pop, 1) := by decide +kernel
theorem dX9_reds_13 : decode cX9_reds 13 = .ok (.aload_n 0, 1) := by decide +kernel
theorem dX9_reds_14 : decode cX9_reds 14 = .ok (.getfield 48, 3) := by decide +kernel
theorem dX9_reds_17 : decode cX9_reds 17 = .ok (.invokevirtual 354, 3) := by decide +kernel
theorem dX9_reds_20 : decode cX9_reds 20 = .ok (.ireturn, 1) := by decide +kernel
theorem dX9_whose_0 : decode cX9_whose 0 = .ok (.aload_n 0, 1) := by decide +kernel
theorem dX9_whose_1 : decode cX9_whose 1 = .ok (.iload_n 1, 1) := by decide +kernel
theorem dX9_whose_2 : decode cX9_whose 2 = .ok (.invokevirtual 164, 3) := by decide +kernel
theorem dX9_whose_5 : decode cX9_whose 5 = .ok (.iconst (-1), 1) := by decide +kernel
theorem dX9_whose_6 : decode cX9_whose 6 = .ok (.istore_n 2, 1) := by decide +kernel
theorem dX9_whose_7 : decode cX9_whose 7 = .ok (.iconst 0, 1) := by decide +kernel
theorem dX9_whose_8 : decode cX9_whose 8 = .ok (.istore_n 3, 1) := by decide +kernel
theorem dX9_whose_9 : decode cX9_whose 9 = .ok (.iconst 0, 1) := by decide +kernel
theorem dX9_whose_10 : decode cX9_whose 10 = .ok (.istore 4, 2) := by decide +kernel
theorem dX9_whose_12 : decode cX9_whose 12 = .ok (.iload 4, 2) := by decide +kernel
theorem dX9_whose_14 : decode cX9_whose 14 = .ok (.aload_n 0, 1) := by decide +kernel
theorem dX9_whose_15 : decode cX9_whose 15 = .ok (.getfield 34, 3) := by decide +kernel
theorem dX9_whose_18 : decode cX9_whose 18 = .ok (.getfield 125, 3) := by decide +kernel
theorem dX9_whose_21 : decode cX9_whose 21 = .ok (.if_icmp .ge 37, 3) := by decide +kernel
theorem dX9_whose_24 : decode cX9_whose 24 = .ok (.aload_n 0, 1) := by decide +kernel
theorem dX9_whose_25 : decode cX9_whose 25 = .ok (.getfield 44, 3) := by decide +kernel
theorem dX9_whose_28 : decode cX9_whose 28 = .ok (.iload_n 1, 1) := by decide +kernel
theorem dX9_whose_29 : decode cX9_whose 29 = .ok (.iload 4, 2) := by decide +kernel
theorem dX9_whose_31 : decode cX9_whose 31 = .ok (.invokevirtual 210, 3) := by decide +kernel
theorem dX9_whose_34 : decode cX9_whose 34 = .ok (.iload_n 3, 1) := by decide +kernel
theorem dX9_whose_35 : decode cX9_whose 35 = .ok (.if_icmp .le 17, 3) := by decide +kernel
theorem dX9_whose_38 : decode cX9_whose 38 = .ok (.iload 4, 2) := by decide +kernel
theorem dX9_whose_40 : decode cX9_whose 40 = .ok (.istore_n 2, 1) := by decide +kernel
theorem dX9_whose_41 : decode cX9_whose 41 = .ok (.aload_n 0, 1) := by decide +kernel
theorem dX9_whose_42 : decode cX9_whose 42 = .ok (.getfield 44, 3) := by decide +kernel
theorem dX9_whose_45 : decode cX9_whose 45 = .ok (.iload_n 1, 1) := by decide +kernel
theorem dX9_whose_46 : decode cX9_whose 46 = .ok (.iload 4, 2) := by decide +kernel
theorem dX9_whose_48 : decode cX9_whose 48 = .ok (.invokevirtual 210, 3) := by decide +kernel
theorem dX9_whose_51 : decode cX9_whose 51 = .ok (.istore_n 3, 1) := by decide +kernel
theorem dX9_whose_52 : decode cX9_whose 52 = .ok (.iinc 4 1, 3) := by decide +kernel
theorem dX9_whose_55 : decode cX9_whose 55 = .ok (.goto (-43), 3) := by decide +kernel
theorem dX9_whose_58 : decode cX9_whose 58 = .ok (.iload_n 2, 1) := by decide +kernel
theorem dX9_whose_59 : decode cX9_whose 59 = .ok (.ireturn, 1) := by decide +kernel
theorem dX9_image_0 : decode cX9_image 0 = .ok (.aload_n 0, 1) := by decide +kernel
theorem dX9_image_1 : decode cX9_image 1 = .ok (.getfield 69, 3) := by decide +kernel
theorem dX9_image_4 : decode cX9_image 4 = .ok (.aload_n 0, 1) := by decide +kernel
theorem dX9_image_5 : decode cX9_image 5 = .ok (.getfield 44, 3) := by decide +kernel
theorem dX9_image_8 : decode cX9_image 8 = .ok (.invokevirtual 248, 3) := by decide +kernel
theorem dX9_image_11 : decode cX9_image 11 = .ok (.aload_n 0, 1) := by decide +kernel
theorem dX9_image_12 : decode cX9_image 12 = .ok (.getfield 72, 3) := by decide +kernel
theorem dX9_image_15 : decode cX9_image 15 = .ok (.aload_n 0, 1) := by decide +kernel
theorem dX9_image_16 : decode cX9_image 16 = .ok (.getfield 54, 3) := by decide +kernel
theorem dX9_image_19 : decode cX9_image 19 = .ok (.invokevirtual 357, 3) := by decide +kernel
theorem dX9_image_22 : decode cX9_image 22 = .ok (.aload_n 0, 1) := by decide +kernel
theorem dX9_image_23 : decode cX9_image 23 = .ok (.getfield 75, 3) := by decide +kernel
theorem dX9_image_26 : decode cX9_image 26 = .ok (.aload_n 0, 1) := by decide +kernel
theorem dX9_image_27 : decode cX9_image 27 = .ok (.getfield 61, 3) := by decide +kernel
theorem dX9_image_30 : decode cX9_image 30 = .ok (.invokevirtual 360, 3) := by decide +kernel
theorem dX9_image_33 : decode cX9_image 33 = .ok (.aload_n 0, 1) := by decide +kernel
theorem dX9_image_34 : decode cX9_image 34 = .ok (.iconst 1, 1) := by decide +kernel
theorem dX9_image_35 : decode cX9_image 35 = .ok (.putfield 65, 3) := by decide +kernel
theorem dX9_image_38 : decode cX9_image 38 = .ok (.return_, 1) := by decide +kernel
theorem dX9_restore_0 : decode cX9_restore 0 = .ok (.aload_n 0, 1) := by decide +kernel
theorem dX9_restore_1 : decode cX9_restore 1 = .ok (.getfield 65, 3) := by decide +kernel
theorem dX9_restore_4 : decode cX9_restore 4 = .ok (.ifCond .ne 5, 3) := by decide +kernel
theorem dX9_restore_7 : decode cX9_restore 7 = .ok (.iconst 0, 1) := by decide +kernel
theorem dX9_restore_8 : decode cX9_restore 8 = .ok (.ireturn, 1) := by decide +kernel
theorem dX9_restore_9 : decode cX9_restore 9 = .ok (.aload_n 0, 1) := by decide +kernel
theorem dX9_restore_10 : decode cX9_restore 10 = .ok (.getfield 44, 3) := by decide +kernel
theorem dX9_restore_13 : decode cX9_restore 13 = .ok (.aload_n 0, 1) := by decide +kernel
theorem dX9_restore_14 : decode cX9_restore 14 = .ok (.getfield 69, 3) := by decide +kernel
theorem dX9_restore_17 : decode cX9_restore 17 = .ok (.invokevirtual 248, 3) := by decide +kernel
theorem dX9_restore_20 : decode cX9_restore 20 = .ok (.aload_n 0, 1) := by decide +kernel
theorem dX9_restore_21 : decode cX9_restore 21 = .ok (.getfield 54, 3) := by decide +kernel
theorem dX9_restore_24 : decode cX9_restore 24 = .ok (.aload_n 0, 1) := by decide +kernel
theorem dX9_restore_25 : decode cX9_restore 25 = .ok (.getfield 72, 3) := by decide +kernel
theorem dX9_restore_28 : decode cX9_restore 28 = .ok (.invokevirtual 357, 3) := by decide +kernel
theorem dX9_restore_31 : decode cX9_restore 31 = .ok (.aload_n 0, 1) := by decide +kernel
theorem dX9_restore_32 : decode cX9_restore 32 = .ok (.getfield 61, 3) := by decide +kernel
theorem dX9_restore_35 : decode cX9_restore 35 = .ok (.aload_n 0, 1) := by decide +kernel
theorem dX9_restore_36 : decode cX9_restore 36 = .ok (.getfield 75, 3) := by decide +kernel
theorem dX9_restore_39 : decode cX9_restore 39 = .ok (.invokevirtual 360, 3) := by decide +kernel
theorem dX9_restore_42 : decode cX9_restore 42 = .ok (.iconst 1, 1) := by decide +kernel
theorem dX9_restore_43 : decode cX9_restore 43 = .ok (.ireturn, 1) := by decide +kernel
theorem dX9_needBox_0 : decode cX9_needBox 0 = .ok (.iload_n 1, 1) := by decide +kernel
theorem dX9_needBox_1 : decode cX9_needBox 1 = .ok (.ifCond .lt 14, 3) := by decide +kernel
theorem dX9_needBox_4 : decode cX9_needBox 4 = .ok (.iload_n 1, 1) := by decide +kernel
theorem dX9_needBox_5 : decode cX9_needBox 5 = .ok (.aload_n 0, 1) := by decide +kernel
theorem dX9_needBox_6 : decode cX9_needBox 6 = .ok (.getfield 34, 3) := by decide +kernel
theorem dX9_needBox_9 : decode cX9_needBox 9 = .ok (.getfield 122, 3) := by decide +kernel
theorem dX9_needBox_12 : decode cX9_needBox 12 = .ok (.if_icmp .lt 14, 3) := by decide +kernel
theorem dX9_needBox_15 : decode cX9_needBox 15 = .ok (.new 159, 3) := by decide +kernel
theorem dX9_needBox_18 : decode cX9_needBox 18 = .ok (.dup, 1) := by decide +kernel
theorem dX9_needBox_19 : decode cX9_needBox 19 = .ok (.ldc_w 363, 3) := by decide +kernel
theorem dX9_needBox_22 : decode cX9_needBox 22 = .ok (.invokespecial 163, 3) := by decide +kernel
theorem dX9_needBox_25 : decode cX9_needBox 25 = .ok (.athrow, 1) := by decide +kernel
theorem dX9_needBox_26 : decode cX9_needBox 26 = .ok (.return_, 1) := by decide +kernel
theorem dX9_needPerson_0 : decode cX9_needPerson 0 = .ok (.iload_n 1, 1) := by decide +kernel
theorem dX9_needPerson_1 : decode cX9_needPerson 1 = .ok (.ifCond .lt 14, 3) := by decide +kernel
theorem dX9_needPerson_4 : decode cX9_needPerson 4 = .ok (.iload_n 1, 1) := by decide +kernel
theorem dX9_needPerson_5 : decode cX9_needPerson 5 = .ok (.aload_n 0, 1) := by decide +kernel
theorem dX9_needPerson_6 : decode cX9_needPerson 6 = .ok (.getfield 34, 3) := by decide +kernel
theorem dX9_needPerson_9 : decode cX9_needPerson 9 = .ok (.getfield 125, 3) := by decide +kernel
theorem dX9_needPerson_12 : decode cX9_needPerson 12 = .ok (.if_icmp .lt 14, 3) := by decide +kernel
theorem dX9_needPerson_15 : decode cX9_needPerson 15 = .ok (.new 159, 3) := by decide +kernel
theorem dX9_needPerson_18 : decode cX9_needPerson 18 = .ok (.dup, 1) := by decide +kernel
theorem dX9_needPerson_19 : decode cX9_needPerson 19 = .ok (.ldc_w 365, 3) := by decide +kernel
theorem dX9_needPerson_22 : decode cX9_needPerson 22 = .ok (.invokespecial 163, 3) := by decide +kernel
theorem dX9_needPerson_25 : decode cX9_needPerson 25 = .ok (.athrow, 1) := by decide +kernel
theorem dX9_needPerson_26 : decode cX9_needPerson 26 = .ok (.return_, 1) := by decide +kernel
theorem dX9_needWhat_0 : decode cX9_needWhat 0 = .ok (.iload_n 0, 1) := by decide +kernel
theorem dX9_needWhat_1 : decode cX9_needWhat 1 = .ok (.ifCond .lt 8, 3) := by decide +kernel
theorem dX9_needWhat_4 : decode cX9_needWhat 4 = .ok (.iload_n 0, 1) := by decide +kernel
theorem dX9_needWhat_5 : decode cX9_needWhat 5 = .ok (.iload_n 1, 1) := by decide +kernel
theorem dX9_needWhat_6 : decode cX9_needWhat 6 = .ok (.if_icmp .le 13, 3) := by decide +kernel
theorem dX9_needWhat_9 : decode cX9_needWhat 9 = .ok (.new 159, 3) := by decide +kernel
theorem dX9_needWhat_12 : decode cX9_needWhat 12 = .ok (.dup, 1) := by decide +kernel
theorem dX9_needWhat_13 : decode cX9_needWhat 13 = .ok (.ldc 161, 2) := by decide +kernel
theorem dX9_needWhat_15 : decode cX9_needWhat 15 = .ok (.invokespecial 163, 3) := by decide +kernel
theorem dX9_needWhat_18 : decode cX9_needWhat 18 = .ok (.athrow, 1) := by decide +kernel
theorem dX9_needWhat_19 : decode cX9_needWhat 19 = .ok (.return_, 1) := by decide +kernel
theorem dX9_needRange_0 : decode cX9_needRange 0 = .ok (.iload_n 0, 1) := by decide +kernel
theorem dX9_needRange_1 : decode cX9_needRange 1 = .ok (.iload_n 1, 1) := by decide +kernel
theorem dX9_needRange_2 : decode cX9_needRange 2 = .ok (.if_icmp .lt 8, 3) := by decide +kernel
theorem dX9_needRange_5 : decode cX9_needRange 5 = .ok (.iload_n 0, 1) := by decide +kernel
theorem dX9_needRange_6 : decode cX9_needRange 6 = .ok (.iload_n 2, 1) := by decide +kernel
theorem dX9_needRange_7 : decode cX9_needRange 7 = .ok (.if_icmp .le 14, 3) := by decide +kernel
theorem dX9_needRange_10 : decode cX9_needRange 10 = .ok (.new 98, 3) := by decide +kernel
theorem dX9_needRange_13 : decode cX9_needRange 13 = .ok (.dup, 1) := by decide +kernel
theorem dX9_needRange_14 : decode cX9_needRange 14 = .ok (.ldc_w 367, 3) := by decide +kernel
theorem dX9_needRange_17 : decode cX9_needRange 17 = .ok (.invokespecial 102, 3) := by decide +kernel
theorem dX9_needRange_20 : decode cX9_needRange 20 = .ok (.athrow, 1) := by decide +kernel
theorem dX9_needRange_21 : decode cX9_needRange 21 = .ok (.return_, 1) := by decide +kernel
theorem dX9_keptWithin_0 : decode cX9_keptWithin 0 = .ok (.iload_n 0, 1) := by decide +kernel
theorem dX9_keptWithin_1 : decode cX9_keptWithin 1 = .ok (.iload_n 1, 1) := by decide +kernel
theorem dX9_keptWithin_2 : decode cX9_keptWithin 2 = .ok (.if_icmp .ge 5, 3) := by decide +kernel
theorem dX9_keptWithin_5 : decode cX9_keptWithin 5 = .ok (.iload_n 1, 1) := by decide +kernel
theorem dX9_keptWithin_6 : decode cX9_keptWithin 6 = .ok (.ireturn, 1) := by decide +kernel
theorem dX9_keptWithin_7 : decode cX9_keptWithin 7 = .ok (.iload_n 0, 1) := by decide +kernel
theorem dX9_keptWithin_8 : decode cX9_keptWithin 8 = .ok (.iload_n 2, 1) := by decide +kernel
theorem dX9_keptWithin_9 : decode cX9_keptWithin 9 = .ok (.if_icmp .le 7, 3) := by decide +kernel
theorem dX9_keptWithin_12 : decode cX9_keptWithin 12 = .ok (.iload_n 2, 1) := by decide +kernel
theorem dX9_keptWithin_13 : decode cX9_keptWithin 13 = .ok (.goto 4, 3) := by decide +kernel
theorem dX9_keptWithin_16 : decode cX9_keptWithin 16 = .ok (.iload_n 0, 1) := by decide +kernel
theorem dX9_keptWithin_17 : decode cX9_keptWithin 17 = .ok (.ireturn, 1) := by decide +kernel
