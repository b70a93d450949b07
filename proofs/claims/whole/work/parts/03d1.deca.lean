theorem dX0_init_0 : decode cX0_init 0 = .ok (.aload_n 0, 1) := by decide +kernel
theorem dX0_init_1 : decode cX0_init 1 = .ok (.invokespecial 3, 3) := by decide +kernel
theorem dX0_init_4 : decode cX0_init 4 = .ok (.aload_n 0, 1) := by decide +kernel
theorem dX0_init_5 : decode cX0_init 5 = .ok (.sipush 3200, 3) := by decide +kernel
theorem dX0_init_8 : decode cX0_init 8 = .ok (.newarray .int, 2) := by decide +kernel
theorem dX0_init_10 : decode cX0_init 10 = .ok (.putfield 9, 3) := by decide +kernel
theorem dX0_init_13 : decode cX0_init 13 = .ok (.aload_n 0, 1) := by decide +kernel
theorem dX0_init_14 : decode cX0_init 14 = .ok (.iconst 0, 1) := by decide +kernel
theorem dX0_init_15 : decode cX0_init 15 = .ok (.putfield 15, 3) := by decide +kernel
theorem dX0_init_18 : decode cX0_init 18 = .ok (.aload_n 0, 1) := by decide +kernel
theorem dX0_init_19 : decode cX0_init 19 = .ok (.iconst 0, 1) := by decide +kernel
theorem dX0_init_20 : decode cX0_init 20 = .ok (.putfield 19, 3) := by decide +kernel
theorem dX0_init_23 : decode cX0_init 23 = .ok (.return_, 1) := by decide +kernel
theorem dX0_clearAll_0 : decode cX0_clearAll 0 = .ok (.aload_n 0, 1) := by decide +kernel
theorem dX0_clearAll_1 : decode cX0_clearAll 1 = .ok (.iconst 0, 1) := by decide +kernel
theorem dX0_clearAll_2 : decode cX0_clearAll 2 = .ok (.putfield 15, 3) := by decide +kernel
theorem dX0_clearAll_5 : decode cX0_clearAll 5 = .ok (.aload_n 0, 1) := by decide +kernel
theorem dX0_clearAll_6 : decode cX0_clearAll 6 = .ok (.iconst 0, 1) := by decide +kernel
theorem dX0_clearAll_7 : decode cX0_clearAll 7 = .ok (.putfield 19, 3) := by decide +kernel
theorem dX0_clearAll_10 : decode cX0_clearAll 10 = .ok (.return_, 1) := by decide +kernel
theorem dX0_keep_0 : decode cX0_keep 0 = .ok (.aload_n 1, 1) := by decide +kernel
theorem dX0_keep_1 : decode cX0_keep 1 = .ok (.getfield 22, 3) := by decide +kernel
theorem dX0_keep_4 : decode cX0_keep 4 = .ok (.iconst 0, 1) := by decide +kernel
theorem dX0_keep_5 : decode cX0_keep 5 = .ok (.aload_n 0, 1) := by decide +kernel
theorem dX0_keep_6 : decode cX0_keep 6 = .ok (.getfield 9, 3) := by decide +kernel
theorem dX0_keep_9 : decode cX0_keep 9 = .ok (.aload_n 0, 1) := by decide +kernel
theorem dX0_keep_10 : decode cX0_keep 10 = .ok (.getfield 19, 3) := by decide +kernel
theorem dX0_keep_13 : decode cX0_keep 13 = .ok (.bipush 80, 2) := by decide +kernel
theorem dX0_keep_15 : decode cX0_keep 15 = .ok (.imul, 1) := by decide +kernel
theorem dX0_keep_16 : decode cX0_keep 16 = .ok (.bipush 80, 2) := by decide +kernel
theorem dX0_keep_18 : decode cX0_keep 18 = .ok (.invokestatic 27, 3) := by decide +kernel
theorem dX0_keep_21 : decode cX0_keep 21 = .ok (.aload_n 0, 1) := by decide +kernel
theorem dX0_keep_22 : decode cX0_keep 22 = .ok (.aload_n 0, 1) := by decide +kernel
theorem dX0_keep_23 : decode cX0_keep 23 = .ok (.getfield 19, 3) := by decide +kernel
theorem dX0_keep_26 : decode cX0_keep 26 = .ok (.iconst 1, 1) := by decide +kernel
theorem dX0_keep_27 : decode cX0_keep 27 = .ok (.iadd, 1) := by decide +kernel
theorem dX0_keep_28 : decode cX0_keep 28 = .ok (.bipush 40, 2) := by decide +kernel
theorem dX0_keep_30 : decode cX0_keep 30 = .ok (.irem, 1) := by decide +kernel
theorem dX0_keep_31 : decode cX0_keep 31 = .ok (.putfield 19, 3) := by decide +kernel
theorem dX0_keep_34 : decode cX0_keep 34 = .ok (.aload_n 0, 1) := by decide +kernel
theorem dX0_keep_35 : decode cX0_keep 35 = .ok (.bipush 40, 2) := by decide +kernel
theorem dX0_keep_37 : decode cX0_keep 37 = .ok (.aload_n 0, 1) := by decide +kernel
theorem dX0_keep_38 : decode cX0_keep 38 = .ok (.getfield 15, 3) := by decide +kernel
theorem dX0_keep_41 : decode cX0_keep 41 = .ok (.iconst 1, 1) := by decide +kernel
theorem dX0_keep_42 : decode cX0_keep 42 = .ok (.iadd, 1) := by decide +kernel
theorem dX0_keep_43 : decode cX0_keep 43 = .ok (.invokestatic 33, 3) := by decide +kernel
theorem dX0_keep_46 : decode cX0_keep 46 = .ok (.putfield 15, 3) := by decide +kernel
theorem dX0_keep_49 : decode cX0_keep 49 = .ok (.return_, 1) := by decide +kernel
theorem dX0_takeBack_0 : decode cX0_takeBack 0 = .ok (.aload_n 0, 1) := by decide +kernel
theorem dX0_takeBack_1 : decode cX0_takeBack 1 = .ok (.getfield 15, 3) := by decide +kernel
theorem dX0_takeBack_4 : decode cX0_takeBack 4 = .ok (.ifCond .le 50, 3) := by decide +kernel
theorem dX0_takeBack_7 : decode cX0_takeBack 7 = .ok (.aload_n 0, 1) := by decide +kernel
theorem dX0_takeBack_8 : decode cX0_takeBack 8 = .ok (.aload_n 0, 1) := by decide +kernel
theorem dX0_takeBack_9 : decode cX0_takeBack 9 = .ok (.getfield 19, 3) := by decide +kernel
theorem dX0_takeBack_12 : decode cX0_takeBack 12 = .ok (.bipush 40, 2) := by decide +kernel
theorem dX0_takeBack_14 : decode cX0_takeBack 14 = .ok (.iadd, 1) := by decide +kernel
theorem dX0_takeBack_15 : decode cX0_takeBack 15 = .ok (.iconst 1, 1) := by decide +kernel
theorem dX0_takeBack_16 : decode cX0_takeBack 16 = .ok (.isub, 1) := by decide +kernel
theorem dX0_takeBack_17 : decode cX0_takeBack 17 = .ok (.bipush 40, 2) := by decide +kernel
theorem dX0_takeBack_19 : decode cX0_takeBack 19 = .ok (.irem, 1) := by decide +kernel
theorem dX0_takeBack_20 : decode cX0_takeBack 20 = .ok (.putfield 19, 3) := by decide +kernel
theorem dX0_takeBack_23 : decode cX0_takeBack 23 = .ok (.aload_n 0, 1) := by decide +kernel
theorem dX0_takeBack_24 : decode cX0_takeBack 24 = .ok (.getfield 9, 3) := by decide +kernel
theorem dX0_takeBack_27 : decode cX0_takeBack 27 = .ok (.aload_n 0, 1) := by decide +kernel
theorem dX0_takeBack_28 : decode cX0_takeBack 28 = .ok (.getfield 19, 3) := by decide +kernel
theorem dX0_takeBack_31 : decode cX0_takeBack 31 = .ok (.bipush 80, 2) := by decide +kernel
theorem dX0_takeBack_33 : decode cX0_takeBack 33 = .ok (.imul, 1) := by decide +kernel
theorem dX0_takeBack_34 : decode cX0_takeBack 34 = .ok (.aload_n 1, 1) := by decide +kernel
theorem dX0_takeBack_35 : decode cX0_takeBack 35 = .ok (.getfield 22, 3) := by decide +kernel
theorem dX0_takeBack_38 : decode cX0_takeBack 38 = .ok (.iconst 0, 1) := by decide +kernel
theorem dX0_takeBack_39 : decode cX0_takeBack 39 = .ok (.bipush 80, 2) := by decide +kernel
theorem dX0_takeBack_41 : decode cX0_takeBack 41 = .ok (.invokestatic 27, 3) := by decide +kernel
theorem dX0_takeBack_44 : decode cX0_takeBack 44 = .ok (.aload_n 0, 1) := by decide +kernel
theorem dX0_takeBack_45 : decode cX0_takeBack 45 = .ok (.dup, 1) := by decide +kernel
theorem dX0_takeBack_46 : decode cX0_takeBack 46 = .ok (.getfield 15, 3) := by decide +kernel
theorem dX0_takeBack_49 : decode cX0_takeBack 49 = .ok (.iconst 1, 1) := by decide +kernel
theorem dX0_takeBack_50 : decode cX0_takeBack 50 = .ok (.isub, 1) := by decide +kernel
theorem dX0_takeBack_51 : decode cX0_takeBack 51 = .ok (.putfield 15, 3) := by decide +kernel
theorem dX0_takeBack_54 : decode cX0_takeBack 54 = .ok (.return_, 1) := by decide +kernel
theorem dX0_copyFrom_0 : decode cX0_copyFrom 0 = .ok (.aload_n 1, 1) := by decide +kernel
theorem dX0_copyFrom_1 : decode cX0_copyFrom 1 = .ok (.getfield 9, 3) := by decide +kernel
theorem dX0_copyFrom_4 : decode cX0_copyFrom 4 = .ok (.iconst 0, 1) := by decide +kernel
theorem dX0_copyFrom_5 : decode cX0_copyFrom 5 = .ok (.aload_n 0, 1) := by decide +kernel
theorem dX0_copyFrom_6 : decode cX0_copyFrom 6 = .ok (.getfield 9, 3) := by decide +kernel
theorem dX0_copyFrom_9 : decode cX0_copyFrom 9 = .ok (.iconst 0, 1) := by decide +kernel
theorem dX0_copyFrom_10 : decode cX0_copyFrom 10 = .ok (.aload_n 0, 1) := by decide +kernel
theorem dX0_copyFrom_11 : decode cX0_copyFrom 11 = .ok (.getfield 9, 3) := by decide +kernel
theorem dX0_copyFrom_14 : decode cX0_copyFrom 14 = .ok (.arraylength, 1) := by decide +kernel
theorem dX0_copyFrom_15 : decode cX0_copyFrom 15 = .ok (.invokestatic 27, 3) := by decide +kernel
theorem dX0_copyFrom_18 : decode cX0_copyFrom 18 = .ok (.aload_n 0, 1) := by decide +kernel
theorem dX0_copyFrom_19 : decode cX0_copyFrom 19 = .ok (.aload_n 1, 1) := by decide +kernel
theorem dX0_copyFrom_20 : decode cX0_copyFrom 20 = .ok (.getfield 15, 3) := by decide +kernel
theorem dX0_copyFrom_23 : decode cX0_copyFrom 23 = .ok (.putfield 15, 3) := by decide +kernel
theorem dX0_copyFrom_26 : decode cX0_copyFrom 26 = .ok (.aload_n 0, 1) := by decide +kernel
theorem dX0_copyFrom_27 : decode cX0_copyFrom 27 = .ok (.aload_n 1, 1) := by decide +kernel
theorem dX0_copyFrom_28 : decode cX0_copyFrom 28 = .ok (.getfield 19, 3) := by decide +kernel
theorem dX0_copyFrom_31 : decode cX0_copyFrom 31 = .ok (.putfield 19, 3) := by decide +kernel
theorem dX0_copyFrom_34 : decode cX0_copyFrom 34 = .ok (.return_, 1) := by decide +kernel
theorem dX1_init_0 : decode cX1_init 0 = .ok (.aload_n 0, 1) := by decide +kernel
theorem dX1_init_1 : decode cX1_init 1 = .ok (.invokespecial 3, 3) := by decide +kernel
theorem dX1_init_4 : decode cX1_init 4 = .ok (.aload_n 0, 1) := by decide +kernel
theorem dX1_init_5 : decode cX1_init 5 = .ok (.iconst 0, 1) := by decide +kernel
theorem dX1_init_6 : decode cX1_init 6 = .ok (.putfield 9, 3) := by decide +kernel
theorem dX1_init_9 : decode cX1_init 9 = .ok (.aload_n 0, 1) := by decide +kernel
theorem dX1_init_10 : decode cX1_init 10 = .ok (.bipush 6, 2) := by decide +kernel
theorem dX1_init_12 : decode cX1_init 12 = .ok (.newarray .int, 2) := by decide +kernel
theorem dX1_init_14 : decode cX1_init 14 = .ok (.putfield 15, 3) := by decide +kernel
theorem dX1_init_17 : decode cX1_init 17 = .ok (.aload_n 0, 1) := by decide +kernel
theorem dX1_init_18 : decode cX1_init 18 = .ok (.bipush 6, 2) := by decide +kernel
theorem dX1_init_20 : decode cX1_init 20 = .ok (.newarray .int, 2) := by decide +kernel
theorem dX1_init_22 : decode cX1_init 22 = .ok (.putfield 19, 3) := by decide +kernel
theorem dX1_init_25 : decode cX1_init 25 = .ok (.aload_n 0, 1) := by decide +kernel
theorem dX1_init_26 : decode cX1_init 26 = .ok (.iconst 0, 1) := by decide +kernel
theorem dX1_init_27 : decode cX1_init 27 = .ok (.putfield 22, 3) := by decide +kernel
theorem dX1_init_30 : decode cX1_init 30 = .ok (.aload_n 0, 1) := by decide +kernel
theorem dX1_init_31 : decode cX1_init 31 = .ok (.bipush 8, 2) := by decide +kernel
theorem dX1_init_33 : decode cX1_init 33 = .ok (.newarray .int, 2) := by decide +kernel
theorem dX1_init_35 : decode cX1_init 35 = .ok (.putfield 25, 3) := by decide +kernel
theorem dX1_init_38 : decode cX1_init 38 = .ok (.aload_n 0, 1) := by decide +kernel
theorem dX1_init_39 : decode cX1_init 39 = .ok (.bipush 8, 2) := by decide +kernel
theorem dX1_init_41 : decode cX1_init 41 = .ok (.newarray .int, 2) := by decide +kernel
theorem dX1_init_43 : decode cX1_init 43 = .ok (.putfield 28, 3) := by decide +kernel
theorem dX1_init_46 : decode cX1_init 46 = .ok (.aload_n 0, 1) := by decide +kernel
theorem dX1_init_47 : decode cX1_init 47 = .ok (.bipush 8, 2) := by decide +kernel
theorem dX1_init_49 : decode cX1_init 49 = .ok (.newarray .int, 2) := by decide +kernel
theorem dX1_init_51 : decode cX1_init 51 = .ok (.putfield 31, 3) := by decide +kernel
theorem dX1_init_54 : decode cX1_init 54 = .ok (.aload_n 0, 1) := by decide +kernel
theorem dX1_init_55 : decode cX1_init 55 = .ok (.bipush 8, 2) := by decide +kernel
theorem dX1_init_57 : decode cX1_init 57 = .ok (.newarray .int, 2) := by decide +kernel
theorem dX1_init_59 : decode cX1_init 59 = .ok (.putfield 34, 3) := by decide +kernel
theorem dX1_init_62 : decode cX1_init 62 = .ok (.aload_n 0, 1) := by decide +kernel
theorem dX1_init_63 : decode cX1_init 63 = .ok (.iconst 0, 1) := by decide +kernel
theorem dX1_init_64 : decode cX1_init 64 = .ok (.putfield 37, 3) := by decide +kernel
theorem dX1_init_67 : decode cX1_init 67 = .ok (.aload_n 0, 1) := by decide +kernel
theorem dX1_init_68 : decode cX1_init 68 = .ok (.bipush 8, 2) := by decide +kernel
theorem dX1_init_70 : decode cX1_init 70 = .ok (.newarray .int, 2) := by decide +kernel
theorem dX1_init_72 : decode cX1_init 72 = .ok (.putfield 40, 3) := by decide +kernel
theorem dX1_init_75 : decode cX1_init 75 = .ok (.aload_n 0, 1) := by decide +kernel
theorem dX1_init_76 : decode cX1_init 76 = .ok (.iconst 0, 1) := by decide +kernel
theorem dX1_init_77 : decode cX1_init 77 = .ok (.putfield 43, 3) := by decide +kernel
theorem dX1_init_80 : decode cX1_init 80 = .ok (.aload_n 0, 1) := by decide +kernel
theorem dX1_init_81 : decode cX1_init 81 = .ok (.bipush 8, 2) := by decide +kernel
theorem dX1_init_83 : decode cX1_init 83 = .ok (.newarray .int, 2) := by decide +kernel
theorem dX1_init_85 : decode cX1_init 85 = .ok (.putfield 46, 3) := by decide +kernel
theorem dX1_init_88 : decode cX1_init 88 = .ok (.aload_n 0, 1) := by decide +kernel
theorem dX1_init_89 : decode cX1_init 89 = .ok (.new 49, 3) := by decide +kernel
theorem dX1_init_92 : decode cX1_init 92 = .ok (.dup, 1) := by decide +kernel
theorem dX1_init_93 : decode cX1_init 93 = .ok (.invokespecial 51, 3) := by decide +kernel
theorem dX1_init_96 : decode cX1_init 96 = .ok (.putfield 52, 3) := by decide +kernel
theorem dX1_init_99 : decode cX1_init 99 = .ok (.aload_n 0, 1) := by decide +kernel
theorem dX1_init_100 : decode cX1_init 100 = .ok (.new 49, 3) := by decide +kernel
theorem dX1_init_103 : decode cX1_init 103 = .ok (.dup, 1) := by decide +kernel
theorem dX1_init_104 : decode cX1_init 104 = .ok (.invokespecial 51, 3) := by decide +kernel
theorem dX1_init_107 : decode cX1_init 107 = .ok (.putfield 56, 3) := by decide +kernel
theorem dX1_init_110 : decode cX1_init 110 = .ok (.aload_n 0, 1) := by decide +kernel
theorem dX1_init_111 : decode cX1_init 111 = .ok (.bipush 6, 2) := by decide +kernel
theorem dX1_init_113 : decode cX1_init 113 = .ok (.newarray .int, 2) := by decide +kernel
theorem dX1_init_115 : decode cX1_init 115 = .ok (.putfield 59, 3) := by decide +kernel
theorem dX1_init_118 : decode cX1_init 118 = .ok (.return_, 1) := by decide +kernel
theorem dX1_clearAll_0 : decode cX1_clearAll 0 = .ok (.aload_n 0, 1) := by decide +kernel
theorem dX1_clearAll_1 : decode cX1_clearAll 1 = .ok (.iconst 0, 1) := by decide +kernel
theorem dX1_clearAll_2 : decode cX1_clearAll 2 = .ok (.putfield 9, 3) := by decide +kernel
theorem dX1_clearAll_5 : decode cX1_clearAll 5 = .ok (.aload_n 0, 1) := by decide +kernel
theorem dX1_clearAll_6 : decode cX1_clearAll 6 = .ok (.iconst 0, 1) := by decide +kernel
theorem dX1_clearAll_7 : decode cX1_clearAll 7 = .ok (.putfield 22, 3) := by decide +kernel
theorem dX1_clearAll_10 : decode cX1_clearAll 10 = .ok (.aload_n 0, 1) := by decide +kernel
theorem dX1_clearAll_11 : decode cX1_clearAll 11 = .ok (.iconst 0, 1) := by decide +kernel
theorem dX1_clearAll_12 : decode cX1_clearAll 12 = .ok (.putfield 37, 3) := by decide +kernel
theorem dX1_clearAll_15 : decode cX1_clearAll 15 = .ok (.aload_n 0, 1) := by decide +kernel
theorem dX1_clearAll_16 : decode cX1_clearAll 16 = .ok (.iconst 0, 1) := by decide +kernel
theorem dX1_clearAll_17 : decode cX1_clearAll 17 = .ok (.putfield 43, 3) := by decide +kernel
theorem dX1_clearAll_20 : decode cX1_clearAll 20 = .ok (.aload_n 0, 1) := by decide +kernel
theorem dX1_clearAll_21 : decode cX1_clearAll 21 = .ok (.getfield 19, 3) := by decide +kernel
theorem dX1_clearAll_24 : decode cX1_clearAll 24 = .ok (.iconst 0, 1) := by decide +kernel
theorem dX1_clearAll_25 : decode cX1_clearAll 25 = .ok (.invokestatic 62, 3) := by decide +kernel
theorem dX1_clearAll_28 : decode cX1_clearAll 28 = .ok (.aload_n 0, 1) := by decide +kernel
theorem dX1_clearAll_29 : decode cX1_clearAll 29 = .ok (.getfield 31, 3) := by decide +kernel
theorem dX1_clearAll_32 : decode cX1_clearAll 32 = .ok (.iconst (-1), 1) := by decide +kernel
theorem dX1_clearAll_33 : decode cX1_clearAll 33 = .ok (.invokestatic 62, 3) := by decide +kernel
theorem dX1_clearAll_36 : decode cX1_clearAll 36 = .ok (.aload_n 0, 1) := by decide +kernel
theorem dX1_clearAll_37 : decode cX1_clearAll 37 = .ok (.getfield 52, 3) := by decide +kernel
theorem dX1_clearAll_40 : decode cX1_clearAll 40 = .ok (.invokevirtual 68, 3) := by decide +kernel
theorem dX1_clearAll_43 : decode cX1_clearAll 43 = .ok (.aload_n 0, 1) := by decide +kernel
theorem dX1_clearAll_44 : decode cX1_clearAll 44 = .ok (.getfield 56, 3) := by decide +kernel
theorem dX1_clearAll_47 : decode cX1_clearAll 47 = .ok (.invokevirtual 68, 3) := by decide +kernel
theorem dX1_clearAll_50 : decode cX1_clearAll 50 = .ok (.return_, 1) := by decide +kernel
theorem dX1_addBox_0 : decode cX1_addBox 0 = .ok (.aload_n 0, 1) := by decide +kernel
theorem dX1_addBox_1 : decode cX1_addBox 1 = .ok (.getfield 9, 3) := by decide +kernel
theorem dX1_addBox_4 : decode cX1_addBox 4 = .ok (.bipush 6, 2) := by decide +kernel
theorem dX1_addBox_6 : decode cX1_addBox 6 = .ok (.if_icmp .ge 33, 3) := by decide +kernel
theorem dX1_addBox_9 : decode cX1_addBox 9 = .ok (.aload_n 0, 1) := by decide +kernel
theorem dX1_addBox_10 : decode cX1_addBox 10 = .ok (.getfield 15, 3) := by decide +kernel
theorem dX1_addBox_13 : decode cX1_addBox 13 = .ok (.aload_n 0, 1) := by decide +kernel
theorem dX1_addBox_14 : decode cX1_addBox 14 = .ok (.getfield 9, 3) := by decide +kernel
theorem dX1_addBox_17 : decode cX1_addBox 17 = .ok (.iload_n 1, 1) := by decide +kernel
theorem dX1_addBox_18 : decode cX1_addBox 18 = .ok (.iastore, 1) := by decide +kernel
theorem dX1_addBox_19 : decode cX1_addBox 19 = .ok (.aload_n 0, 1) := by decide +kernel
theorem dX1_addBox_20 : decode cX1_addBox 20 = .ok (.getfield 19, 3) := by decide +kernel
theorem dX1_addBox_23 : decode cX1_addBox 23 = .ok (.aload_n 0, 1) := by decide +kernel
theorem dX1_addBox_24 : decode cX1_addBox 24 = .ok (.getfield 9, 3) := by decide +kernel
theorem dX1_addBox_27 : decode cX1_addBox 27 = .ok (.iload_n 2, 1) := by decide +kernel
theorem dX1_addBox_28 : decode cX1_addBox 28 = .ok (.iastore, 1) := by decide +kernel
theorem dX1_addBox_29 : decode cX1_addBox 29 = .ok (.aload_n 0, 1) := by decide +kernel
theorem dX1_addBox_30 : decode cX1_addBox 30 = .ok (.dup, 1) := by decide +kernel
theorem dX1_addBox_31 : decode cX1_addBox 31 = .ok (.getfield 9, 3) := by decide +kernel
theorem dX1_addBox_34 : decode cX1_addBox 34 = .ok (.iconst 1, 1) := by decide +kernel
theorem dX1_addBox_35 : decode cX1_addBox 35 = .ok (.iadd, 1) := by decide +kernel
theorem dX1_addBox_36 : decode cX1_addBox 36 = .ok (.putfield 9, 3) := by decide +kernel
theorem dX1_addBox_39 : decode cX1_addBox 39 = .ok (.return_, 1) := by decide +kernel
theorem dX1_addPerson_0 : decode cX1_addPerson 0 = .ok (.aload_n 0, 1) := by decide +kernel
theorem dX1_addPerson_1 : decode cX1_addPerson 1 = .ok (.getfield 22, 3) := by decide +kernel
theorem dX1_addPerson_4 : decode cX1_addPerson 4 = .ok (.bipush 8, 2) := by decide +kernel
theorem dX1_addPerson_6 : decode cX1_addPerson 6 = .ok (.if_icmp .ge 43, 3) := by decide +kernel
theorem dX1_addPerson_9 : decode cX1_addPerson 9 = .ok (.aload_n 0, 1) := by decide +kernel
theorem dX1_addPerson_10 : decode cX1_addPerson 10 = .ok (.getfield 25, 3) := by decide +kernel
theorem dX1_addPerson_13 : decode cX1_addPerson 13 = .ok (.aload_n 0, 1) := by decide +kernel
theorem dX1_addPerson_14 : decode cX1_addPerson 14 = .ok (.getfield 22, 3) := by decide +kernel
theorem dX1_addPerson_17 : decode cX1_addPerson 17 = .ok (.iload_n 1, 1) := by decide +kernel
theorem dX1_addPerson_18 : decode cX1_addPerson 18 = .ok (.iastore, 1) := by decide +kernel
theorem dX1_addPerson_19 : decode cX1_addPerson 19 = .ok (.aload_n 0, 1) := by decide +kernel
theorem dX1_addPerson_20 : decode cX1_addPerson 20 = .ok (.getfield 28, 3) := by decide +kernel
theorem dX1_addPerson_23 : decode cX1_addPerson 23 = .ok (.aload_n 0, 1) := by decide +kernel
theorem dX1_addPerson_24 : decode cX1_addPerson 24 = .ok (.getfield 22, 3) := by decide +kernel
theorem dX1_addPerson_27 : decode cX1_addPerson 27 = .ok (.iload_n 2, 1) := by decide +kernel
theorem dX1_addPerson_28 : decode cX1_addPerson 28 = .ok (.iastore, 1) := by decide +kernel
theorem dX1_addPerson_29 : decode cX1_addPerson 29 = .ok (.aload_n 0, 1) := by decide +kernel
theorem dX1_addPerson_30 : decode cX1_addPerson 30 = .ok (.getfield 31, 3) := by decide +kernel
theorem dX1_addPerson_33 : decode cX1_addPerson 33 = .ok (.aload_n 0, 1) := by decide +kernel
theorem dX1_addPerson_34 : decode cX1_addPerson 34 = .ok (.getfield 22, 3) := by decide +kernel
theorem dX1_addPerson_37 : decode cX1_addPerson 37 = .ok (.iload_n 3, 1) := by decide +kernel
theorem dX1_addPerson_38 : decode cX1_addPerson 38 = .ok (.iastore, 1) := by decide +kernel
theorem dX1_addPerson_39 : decode cX1_addPerson 39 = .ok (.aload_n 0, 1) := by decide +kernel
theorem dX1_addPerson_40 : decode cX1_addPerson 40 = .ok (.dup, 1) := by decide +kernel
theorem dX1_addPerson_41 : decode cX1_addPerson 41 = .ok (.getfield 22, 3) := by decide +kernel
theorem dX1_addPerson_44 : decode cX1_addPerson 44 = .ok (.iconst 1, 1) := by decide +kernel
theorem dX1_addPerson_45 : decode cX1_addPerson 45 = .ok (.iadd, 1) := by decide +kernel
theorem dX1_addPerson_46 : decode cX1_addPerson 46 = .ok (.putfield 22, 3) := by decide +kernel
theorem dX1_addPerson_49 : decode cX1_addPerson 49 = .ok (.return_, 1) := by decide +kernel
theorem dX1_addRound_0 : decode cX1_addRound 0 = .ok (.aload_n 0, 1) := by decide +kernel
theorem dX1_addRound_1 : decode cX1_addRound 1 = .ok (.getfield 37, 3) := by decide +kernel
theorem dX1_addRound_4 : decode cX1_addRound 4 = .ok (.bipush 8, 2) := by decide +kernel
theorem dX1_addRound_6 : decode cX1_addRound 6 = .ok (.if_icmp .ge 23, 3) := by decide +kernel
theorem dX1_addRound_9 : decode cX1_addRound 9 = .ok (.aload_n 0, 1) := by decide +kernel
theorem dX1_addRound_10 : decode cX1_addRound 10 = .ok (.getfield 40, 3) := by decide +kernel
theorem dX1_addRound_13 : decode cX1_addRound 13 = .ok (.aload_n 0, 1) := by decide +kernel
theorem dX1_addRound_14 : decode cX1_addRound 14 = .ok (.getfield 37, 3) := by decide +kernel
theorem dX1_addRound_17 : decode cX1_addRound 17 = .ok (.iload_n 1, 1) := by decide +kernel
theorem dX1_addRound_18 : decode cX1_addRound 18 = .ok (.iastore, 1) := by decide +kernel
theorem dX1_addRound_19 : decode cX1_addRound 19 = .ok (.aload_n 0, 1) := by decide +kernel
theorem dX1_addRound_20 : decode cX1_addRound 20 = .ok (.dup, 1) := by decide +kernel
theorem dX1_addRound_21 : decode cX1_addRound 21 = .ok (.getfield 37, 3) := by decide +kernel
theorem dX1_addRound_24 : decode cX1_addRound 24 = .ok (.iconst 1, 1) := by decide +kernel
theorem dX1_addRound_25 : decode cX1_addRound 25 = .ok (.iadd, 1) := by decide +kernel
theorem dX1_addRound_26 : decode cX1_addRound 26 = .ok (.putfield 37, 3) := by decide +kernel
theorem dX1_addRound_29 : decode cX1_addRound 29 = .ok (.return_, 1) := by decide +kernel
theorem dX1_addWet_0 : decode cX1_addWet 0 = .ok (.aload_n 0, 1) := by decide +kernel
theorem dX1_addWet_1 : decode cX1_addWet 1 = .ok (.getfield 43, 3) := by decide +kernel
theorem dX1_addWet_4 : decode cX1_addWet 4 = .ok (.bipush 8, 2) := by decide +kernel
theorem dX1_addWet_6 : decode cX1_addWet 6 = .ok (.if_icmp .ge 23, 3) := by decide +kernel
theorem dX1_addWet_9 : decode cX1_addWet 9 = .ok (.aload_n 0, 1) := by decide +kernel
theorem dX1_addWet_10 : decode cX1_addWet 10 = .ok (.getfield 46, 3) := by decide +kernel
theorem dX1_addWet_13 : decode cX1_addWet 13 = .ok (.aload_n 0, 1) := by decide +kernel
theorem dX1_addWet_14 : decode cX1_addWet 14 = .ok (.getfield 43, 3) := by decide +kernel
theorem dX1_addWet_17 : decode cX1_addWet 17 = .ok (.iload_n 1, 1) := by decide +kernel
theorem dX1_addWet_18 : decode cX1_addWet 18 = .ok (.iastore, 1) := by decide +kernel
theorem dX1_addWet_19 : decode cX1_addWet 19 = .ok (.aload_n 0, 1) := by decide +kernel
theorem dX1_addWet_20 : decode cX1_addWet 20 = .ok (.dup, 1) := by decide +kernel
theorem dX1_addWet_21 : decode cX1_addWet 21 = .ok (.getfield 43, 3) := by decide +kernel
theorem dX1_addWet_24 : decode cX1_addWet 24 = .ok (.iconst 1, 1) := by decide +kernel
theorem dX1_addWet_25 : decode cX1_addWet 25 = .ok (.iadd, 1) := by decide +kernel
theorem dX1_addWet_26 : decode cX1_addWet 26 = .ok (.putfield 43, 3) := by decide +kernel
theorem dX1_addWet_29 : decode cX1_addWet 29 = .ok (.return_, 1) := by decide +kernel
theorem dX1_settle_0 : decode cX1_settle 0 = .ok (.iconst 0, 1) := by decide +kernel
theorem dX1_settle_1 : decode cX1_settle 1 = .ok (.istore_n 1, 1) := by decide +kernel
theorem dX1_settle_2 : decode cX1_settle 2 = .ok (.iload_n 1, 1) := by decide +kernel
theorem dX1_settle_3 : decode cX1_settle 3 = .ok (.aload_n 0, 1) := by decide +kernel
theorem dX1_settle_4 : decode cX1_settle 4 = .ok (.getfield 22, 3) := by decide +kernel
theorem dX1_settle_7 : decode cX1_settle 7 = .ok (.if_icmp .ge 45, 3) := by decide +kernel
theorem dX1_settle_10 : decode cX1_settle 10 = .ok (.aload_n 0, 1) := by decide +kernel
theorem dX1_settle_11 : decode cX1_settle 11 = .ok (.getfield 31, 3) := by decide +kernel
theorem dX1_settle_14 : decode cX1_settle 14 = .ok (.iload_n 1, 1) := by decide +kernel
theorem dX1_settle_15 : decode cX1_settle 15 = .ok (.iaload, 1) := by decide +kernel
theorem dX1_settle_16 : decode cX1_settle 16 = .ok (.aload_n 0, 1) := by decide +kernel
theorem dX1_settle_17 : decode cX1_settle 17 = .ok (.getfield 22, 3) := by decide +kernel
theorem dX1_settle_20 : decode cX1_settle 20 = .ok (.if_icmp .lt 10, 3) := by decide +kernel
theorem dX1_settle_23 : decode cX1_settle 23 = .ok (.aload_n 0, 1) := by decide +kernel
theorem dX1_settle_24 : decode cX1_settle 24 = .ok (.getfield 31, 3) := by decide +kernel
theorem dX1_settle_27 : decode cX1_settle 27 = .ok (.iload_n 1, 1) := by decide +kernel
theorem dX1_settle_28 : decode cX1_settle 28 = .ok (.iconst (-1), 1) := by decide +kernel
theorem dX1_settle_29 : decode cX1_settle 29 = .ok (.iastore, 1) := by decide +kernel
theorem dX1_settle_30 : decode cX1_settle 30 = .ok (.aload_n 0, 1) := by decide +kernel
theorem dX1_settle_31 : decode cX1_settle 31 = .ok (.getfield 34, 3) := by decide +kernel
theorem dX1_settle_34 : decode cX1_settle 34 = .ok (.iload_n 1, 1) := by decide +kernel
theorem dX1_settle_35 : decode cX1_settle 35 = .ok (.aload_n 0, 1) := by decide +kernel
theorem dX1_settle_36 : decode cX1_settle 36 = .ok (.aload_n 0, 1) := by decide +kernel
theorem dX1_settle_37 : decode cX1_settle 37 = .ok (.getfield 25, 3) := by decide +kernel
theorem dX1_settle_40 : decode cX1_settle 40 = .ok (.iload_n 1, 1) := by decide +kernel
theorem dX1_settle_41 : decode cX1_settle 41 = .ok (.iaload, 1) := by decide +kernel
theorem dX1_settle_42 : decode cX1_settle 42 = .ok (.invokevirtual 71, 3) := by decide +kernel
theorem dX1_settle_45 : decode cX1_settle 45 = .ok (.iastore, 1) := by decide +kernel
theorem dX1_settle_46 : decode cX1_settle 46 = .ok (.iinc 1 1, 3) := by decide +kernel
theorem dX1_settle_49 : decode cX1_settle 49 = .ok (.goto (-47), 3) := by decide +kernel
theorem dX1_settle_52 : decode cX1_settle 52 = .ok (.aload_n 0, 1) := by decide +kernel
theorem dX1_settle_53 : decode cX1_settle 53 = .ok (.getfield 37, 3) := by decide +kernel
theorem dX1_settle_56 : decode cX1_settle 56 = .ok (.ifCond .ne 24, 3) := by decide +kernel
theorem dX1_settle_59 : decode cX1_settle 59 = .ok (.iconst 0, 1) := by decide +kernel
theorem dX1_settle_60 : decode cX1_settle 60 = .ok (.istore_n 1, 1) := by decide +kernel
theorem dX1_settle_61 : decode cX1_settle 61 = .ok (.iload_n 1, 1) := by decide +kernel
theorem dX1_settle_62 : decode cX1_settle 62 = .ok (.aload_n 0, 1) := by decide +kernel
theorem dX1_settle_63 : decode cX1_settle 63 = .ok (.getfield 9, 3) := by decide +kernel
theorem dX1_settle_66 : decode cX1_settle 66 = .ok (.if_icmp .ge 14, 3) := by decide +kernel
theorem dX1_settle_69 : decode cX1_settle 69 = .ok (.aload_n 0, 1) := by decide +kernel
theorem dX1_settle_70 : decode cX1_settle 70 = .ok (.iload_n 1, 1) := by decide +kernel
theorem dX1_settle_71 : decode cX1_settle 71 = .ok (.invokevirtual 75, 3) := by decide +kernel
theorem dX1_settle_74 : decode cX1_settle 74 = .ok (.iinc 1 1, 3) := by decide +kernel
theorem dX1_settle_77 : decode cX1_settle 77 = .ok (.goto (-16), 3) := by decide +kernel
theorem dX1_settle_80 : decode cX1_settle 80 = .ok (.return_, 1) := by decide +kernel
theorem dX1_nearestTo_0 : decode cX1_nearestTo 0 = .ok (.iconst (-1), 1) := by decide +kernel
theorem dX1_nearestTo_1 : decode cX1_nearestTo 1 = .ok (.istore_n 2, 1) := by decide +kernel
theorem dX1_nearestTo_2 : decode cX1_nearestTo 2 = .ok (.bipush 31, 2) := by decide +kernel
theorem dX1_nearestTo_4 : decode cX1_nearestTo 4 = .ok (.istore_n 3, 1) := by decide +kernel
theorem dX1_nearestTo_5 : decode cX1_nearestTo 5 = .ok (.iconst 0, 1) := by decide +kernel
theorem dX1_nearestTo_6 : decode cX1_nearestTo 6 = .ok (.istore 4, 2) := by decide +kernel
theorem dX1_nearestTo_8 : decode cX1_nearestTo 8 = .ok (.iload 4, 2) := by decide +kernel
theorem dX1_nearestTo_10 : decode cX1_nearestTo 10 = .ok (.aload_n 0, 1) := by decide +kernel
theorem dX1_nearestTo_11 : decode cX1_nearestTo 11 = .ok (.getfield 9, 3) := by decide +kernel
theorem dX1_nearestTo_14 : decode cX1_nearestTo 14 = .ok (.if_icmp .ge 35, 3) := by decide +kernel
theorem dX1_nearestTo_17 : decode cX1_nearestTo 17 = .ok (.aload_n 0, 1) := by decide +kernel
theorem dX1_nearestTo_18 : decode cX1_nearestTo 18 = .ok (.getfield 15, 3) := by decide +kernel
theorem dX1_nearestTo_21 : decode cX1_nearestTo 21 = .ok (.iload 4, 2) := by decide +kernel
theorem dX1_nearestTo_23 : decode cX1_nearestTo 23 = .ok (.iaload, 1) := by decide +kernel
theorem dX1_nearestTo_24 : decode cX1_nearestTo 24 = .ok (.iload_n 1, 1) := by decide +kernel
theorem dX1_nearestTo_25 : decode cX1_nearestTo 25 = .ok (.isub, 1) := by decide +kernel
theorem dX1_nearestTo_26 : decode cX1_nearestTo 26 = .ok (.invokestatic 79, 3) := by decide +kernel
theorem dX1_nearestTo_29 : decode cX1_nearestTo 29 = .ok (.istore 5, 2) := by decide +kernel
theorem dX1_nearestTo_31 : decode cX1_nearestTo 31 = .ok (.iload 5, 2) := by decide +kernel
theorem dX1_nearestTo_33 : decode cX1_nearestTo 33 = .ok (.iload_n 3, 1) := by decide +kernel
theorem dX1_nearestTo_34 : decode cX1_nearestTo 34 = .ok (.if_icmp .ge 9, 3) := by decide +kernel
theorem dX1_nearestTo_37 : decode cX1_nearestTo 37 = .ok (.iload 4, 2) := by decide +kernel
theorem dX1_nearestTo_39 : decode cX1_nearestTo 39 = .ok (.istore_n 2, 1) := by decide +kernel
theorem dX1_nearestTo_40 : decode cX1_nearestTo 40 = .ok (.iload 5, 2) := by decide +kernel
theorem dX1_nearestTo_42 : decode cX1_nearestTo 42 = .ok (.istore_n 3, 1) := by decide +kernel
theorem dX1_nearestTo_43 : decode cX1_nearestTo 43 = .ok (.iinc 4 1, 3) := by decide +kernel
theorem dX1_nearestTo_46 : decode cX1_nearestTo 46 = .ok (.goto (-38), 3) := by decide +kernel
theorem dX1_nearestTo_49 : decode cX1_nearestTo 49 = .ok (.iload_n 2, 1) := by decide +kernel
theorem dX1_nearestTo_50 : decode cX1_nearestTo 50 = .ok (.ireturn, 1) := by decide +kernel
theorem dX1_wetOn_0 : decode cX1_wetOn 0 = .ok (.aload_n 0, 1) := by decide +kernel
theorem dX1_wetOn_1 : decode cX1_wetOn 1 = .ok (.getfield 43, 3) := by decide +kernel
theorem dX1_wetOn_4 : decode cX1_wetOn 4 = .ok (.iconst 1, 1) := by decide +kernel
theorem dX1_wetOn_5 : decode cX1_wetOn 5 = .ok (.if_icmp .ge 7, 3) := by decide +kernel
theorem dX1_wetOn_8 : decode cX1_wetOn 8 = .ok (.iconst 2, 1) := by decide +kernel
theorem dX1_wetOn_9 : decode cX1_wetOn 9 = .ok (.goto 16, 3) := by decide +kernel
theorem dX1_wetOn_12 : decode cX1_wetOn 12 = .ok (.aload_n 0, 1) := by decide +kernel
theorem dX1_wetOn_13 : decode cX1_wetOn 13 = .ok (.getfield 46, 3) := by decide +kernel
theorem dX1_wetOn_16 : decode cX1_wetOn 16 = .ok (.iload_n 1, 1) := by decide +kernel
theorem dX1_wetOn_17 : decode cX1_wetOn 17 = .ok (.aload_n 0, 1) := by decide +kernel
theorem dX1_wetOn_18 : decode cX1_wetOn 18 = .ok (.getfield 43, 3) := by decide +kernel
theorem dX1_wetOn_21 : decode cX1_wetOn 21 = .ok (.invokestatic 84, 3) := by decide +kernel
theorem dX1_wetOn_24 : decode cX1_wetOn 24 = .ok (.iaload, 1) := by decide +kernel
theorem dX1_wetOn_25 : decode cX1_wetOn 25 = .ok (.ireturn, 1) := by decide +kernel
theorem dX1_boxOn_0 : decode cX1_boxOn 0 = .ok (.aload_n 0, 1) := by decide +kernel
theorem dX1_boxOn_1 : decode cX1_boxOn 1 = .ok (.getfield 37, 3) := by decide +kernel
theorem dX1_boxOn_4 : decode cX1_boxOn 4 = .ok (.iconst 1, 1) := by decide +kernel
theorem dX1_boxOn_5 : decode cX1_boxOn 5 = .ok (.if_icmp .ge 7, 3) := by decide +kernel
theorem dX1_boxOn_8 : decode cX1_boxOn 8 = .ok (.iconst (-1), 1) := by decide +kernel
theorem dX1_boxOn_9 : decode cX1_boxOn 9 = .ok (.goto 16, 3) := by decide +kernel
theorem dX1_boxOn_12 : decode cX1_boxOn 12 = .ok (.aload_n 0, 1) := by decide +kernel
theorem dX1_boxOn_13 : decode cX1_boxOn 13 = .ok (.getfield 40, 3) := by decide +kernel
theorem dX1_boxOn_16 : decode cX1_boxOn 16 = .ok (.iload_n 1, 1) := by decide +kernel
theorem dX1_boxOn_17 : decode cX1_boxOn 17 = .ok (.aload_n 0, 1) := by decide +kernel
theorem dX1_boxOn_18 : decode cX1_boxOn 18 = .ok (.getfield 37, 3) := by decide +kernel
theorem dX1_boxOn_21 : decode cX1_boxOn 21 = .ok (.invokestatic 84, 3) := by decide +kernel
theorem dX1_boxOn_24 : decode cX1_boxOn 24 = .ok (.iaload, 1) := by decide +kernel
theorem dX1_boxOn_25 : decode cX1_boxOn 25 = .ok (.ireturn, 1) := by decide +kernel
theorem dX1_passDay_0 : decode cX1_passDay 0 = .ok (.aload_n 0, 1) := by decide +kernel
theorem dX1_passDay_1 : decode cX1_passDay 1 = .ok (.aload_n 1, 1) := by decide +kernel
theorem dX1_passDay_2 : decode cX1_passDay 2 = .ok (.aload_n 0, 1) := by decide +kernel
theorem dX1_passDay_3 : decode cX1_passDay 3 = .ok (.aload_n 1, 1) := by decide +kernel
theorem dX1_passDay_4 : decode cX1_passDay 4 = .ok (.invokevirtual 88, 3) := by decide +kernel
theorem dX1_passDay_7 : decode cX1_passDay 7 = .ok (.invokevirtual 94, 3) := by decide +kernel
theorem dX1_passDay_10 : decode cX1_passDay 10 = .ok (.aload_n 0, 1) := by decide +kernel
theorem dX1_passDay_11 : decode cX1_passDay 11 = .ok (.aload_n 1, 1) := by decide +kernel
theorem dX1_passDay_12 : decode cX1_passDay 12 = .ok (.invokevirtual 88, 3) := by decide +kernel
theorem dX1_passDay_15 : decode cX1_passDay 15 = .ok (.invokevirtual 97, 3) := by decide +kernel
theorem dX1_passDay_18 : decode cX1_passDay 18 = .ok (.invokevirtual 100, 3) := by decide +kernel
theorem dX1_passDay_21 : decode cX1_passDay 21 = .ok (.ireturn, 1) := by decide +kernel
theorem dX1_passDayWith_0 : decode cX1_passDayWith 0 = .ok (.iconst 0, 1) := by decide +kernel
theorem dX1_passDayWith_1 : decode cX1_passDayWith 1 = .ok (.istore 4, 2) := by decide +kernel
theorem dX1_passDayWith_3 : decode cX1_passDayWith 3 = .ok (.iload 4, 2) := by decide +kernel
theorem dX1_passDayWith_5 : decode cX1_passDayWith 5 = .ok (.aload_n 0, 1) := by decide +kernel
theorem dX1_passDayWith_6 : decode cX1_passDayWith 6 = .ok (.getfield 22, 3) := by decide +kernel
theorem dX1_passDayWith_9 : decode cX1_passDayWith 9 = .ok (.if_icmp .ge 41, 3) := by decide +kernel
theorem dX1_passDayWith_12 : decode cX1_passDayWith 12 = .ok (.aload_n 0, 1) := by decide +kernel
theorem dX1_passDayWith_13 : decode cX1_passDayWith 13 = .ok (.getfield 34, 3) := by decide +kernel
theorem dX1_passDayWith_16 : decode cX1_passDayWith 16 = .ok (.iload 4, 2) := by decide +kernel
theorem dX1_passDayWith_18 : decode cX1_passDayWith 18 = .ok (.iaload, 1) := by decide +kernel
theorem dX1_passDayWith_19 : decode cX1_passDayWith 19 = .ok (.istore 5, 2) := by decide +kernel
theorem dX1_passDayWith_21 : decode cX1_passDayWith 21 = .ok (.iload 5, 2) := by decide +kernel
theorem dX1_passDayWith_23 : decode cX1_passDayWith 23 = .ok (.iconst (-1), 1) := by decide +kernel
theorem dX1_passDayWith_24 : decode cX1_passDayWith 24 = .ok (.if_icmp .eq 20, 3) := by decide +kernel
theorem dX1_passDayWith_27 : decode cX1_passDayWith 27 = .ok (.aload_n 1, 1) := by decide +kernel
theorem dX1_passDayWith_28 : decode cX1_passDayWith 28 = .ok (.iload 5, 2) := by decide +kernel
theorem dX1_passDayWith_30 : decode cX1_passDayWith 30 = .ok (.iload 4, 2) := by decide +kernel
theorem dX1_passDayWith_32 : decode cX1_passDayWith 32 = .ok (.aload_n 0, 1) := by decide +kernel
theorem dX1_passDayWith_33 : decode cX1_passDayWith 33 = .ok (.aload_n 1, 1) := by decide +kernel
theorem dX1_passDayWith_34 : decode cX1_passDayWith 34 = .ok (.iload 4, 2) := by decide +kernel
theorem dX1_passDayWith_36 : decode cX1_passDayWith 36 = .ok (.iload 5, 2) := by decide +kernel
theorem dX1_passDayWith_38 : decode cX1_passDayWith 38 = .ok (.invokevirtual 104, 3) := by decide +kernel
theorem dX1_passDayWith_41 : decode cX1_passDayWith 41 = .ok (.invokevirtual 107, 3) := by decide +kernel
theorem dX1_passDayWith_44 : decode cX1_passDayWith 44 = .ok (.iinc 4 1, 3) := by decide +kernel
theorem dX1_passDayWith_47 : decode cX1_passDayWith 47 = .ok (.goto (-44), 3) := by decide +kernel
theorem dX1_passDayWith_50 : decode cX1_passDayWith 50 = .ok (.iconst 0, 1) := by decide +kernel
theorem dX1_passDayWith_51 : decode cX1_passDayWith 51 = .ok (.istore 4, 2) := by decide +kernel
theorem dX1_passDayWith_53 : decode cX1_passDayWith 53 = .ok (.iload_n 3, 1) := by decide +kernel
theorem dX1_passDayWith_54 : decode cX1_passDayWith 54 = .ok (.iconst (-1), 1) := by decide +kernel
theorem dX1_passDayWith_55 : decode cX1_passDayWith 55 = .ok (.if_icmp .eq 19, 3) := by decide +kernel
theorem dX1_passDayWith_58 : decode cX1_passDayWith 58 = .ok (.aload_n 1, 1) := by decide +kernel
theorem dX1_passDayWith_59 : decode cX1_passDayWith 59 = .ok (.invokevirtual 111, 3) := by decide +kernel
theorem dX1_passDayWith_62 : decode cX1_passDayWith 62 = .ok (.ifCond .ne 12, 3) := by decide +kernel
theorem dX1_passDayWith_65 : decode cX1_passDayWith 65 = .ok (.aload_n 0, 1) := by decide +kernel
theorem dX1_passDayWith_66 : decode cX1_passDayWith 66 = .ok (.aload_n 1, 1) := by decide +kernel
theorem dX1_passDayWith_67 : decode cX1_passDayWith 67 = .ok (.iload_n 2, 1) := by decide +kernel
theorem dX1_passDayWith_68 : decode cX1_passDayWith 68 = .ok (.iload_n 3, 1) := by decide +kernel
theorem dX1_passDayWith_69 : decode cX1_passDayWith 69 = .ok (.invokevirtual 115, 3) := by decide +kernel
theorem dX1_passDayWith_72 : decode cX1_passDayWith 72 = .ok (.istore 4, 2) := by decide +kernel
theorem dX1_passDayWith_74 : decode cX1_passDayWith 74 = .ok (.iconst 0, 1) := by decide +kernel
theorem dX1_passDayWith_75 : decode cX1_passDayWith 75 = .ok (.istore 5, 2) := by decide +kernel
theorem dX1_passDayWith_77 : decode cX1_passDayWith 77 = .ok (.iload 5, 2) := by decide +kernel
theorem dX1_passDayWith_79 : decode cX1_passDayWith 79 = .ok (.aload_n 0, 1) := by decide +kernel
theorem dX1_passDayWith_80 : decode cX1_passDayWith 80 = .ok (.getfield 9, 3) := by decide +kernel
theorem dX1_passDayWith_83 : decode cX1_passDayWith 83 = .ok (.if_icmp .ge 41, 3) := by decide +kernel
theorem dX1_passDayWith_86 : decode cX1_passDayWith 86 = .ok (.aload_n 1, 1) := by decide +kernel
theorem dX1_passDayWith_87 : decode cX1_passDayWith 87 = .ok (.iload 5, 2) := by decide +kernel
theorem dX1_passDayWith_89 : decode cX1_passDayWith 89 = .ok (.invokevirtual 118, 3) := by decide +kernel
theorem dX1_passDayWith_92 : decode cX1_passDayWith 92 = .ok (.ifCond .le 26, 3) := by decide +kernel
theorem dX1_passDayWith_95 : decode cX1_passDayWith 95 = .ok (.aload_n 1, 1) := by decide +kernel
theorem dX1_passDayWith_96 : decode cX1_passDayWith 96 = .ok (.iload 5, 2) := by decide +kernel
theorem dX1_passDayWith_98 : decode cX1_passDayWith 98 = .ok (.invokevirtual 121, 3) := by decide +kernel
theorem dX1_passDayWith_101 : decode cX1_passDayWith 101 = .ok (.ifCond .le 17, 3) := by decide +kernel
theorem dX1_passDayWith_104 : decode cX1_passDayWith 104 = .ok (.aload_n 1, 1) := by decide +kernel
theorem dX1_passDayWith_105 : decode cX1_passDayWith 105 = .ok (.iload 5, 2) := by decide +kernel
theorem dX1_passDayWith_107 : decode cX1_passDayWith 107 = .ok (.aload_n 1, 1) := by decide +kernel
theorem dX1_passDayWith_108 : decode cX1_passDayWith 108 = .ok (.iload 5, 2) := by decide +kernel
theorem dX1_passDayWith_110 : decode cX1_passDayWith 110 = .ok (.invokevirtual 118, 3) := by decide +kernel
theorem dX1_passDayWith_113 : decode cX1_passDayWith 113 = .ok (.iconst 1, 1) := by decide +kernel
theorem dX1_passDayWith_114 : decode cX1_passDayWith 114 = .ok (.isub, 1) := by decide +kernel
theorem dX1_passDayWith_115 : decode cX1_passDayWith 115 = .ok (.invokevirtual 124, 3) := by decide +kernel
theorem dX1_passDayWith_118 : decode cX1_passDayWith 118 = .ok (.iinc 5 1, 3) := by decide +kernel
theorem dX1_passDayWith_121 : decode cX1_passDayWith 121 = .ok (.goto (-44), 3) := by decide +kernel
theorem dX1_passDayWith_124 : decode cX1_passDayWith 124 = .ok (.aload_n 1, 1) := by decide +kernel
theorem dX1_passDayWith_125 : decode cX1_passDayWith 125 = .ok (.invokevirtual 128, 3) := by decide +kernel
theorem dX1_passDayWith_128 : decode cX1_passDayWith 128 = .ok (.iload 4, 2) := by decide +kernel
theorem dX1_passDayWith_130 : decode cX1_passDayWith 130 = .ok (.ireturn, 1) := by decide +kernel
theorem dX1_thoughtsOf_0 : decode cX1_thoughtsOf 0 = .ok (.aload_n 0, 1) := by decide +kernel
theorem dX1_thoughtsOf_1 : decode cX1_thoughtsOf 1 = .ok (.getfield 52, 3) := by decide +kernel
theorem dX1_thoughtsOf_4 : decode cX1_thoughtsOf 4 = .ok (.invokevirtual 131, 3) := by decide +kernel
theorem dX1_thoughtsOf_7 : decode cX1_thoughtsOf 7 = .ok (.ifCond .eq 10, 3) := by decide +kernel
theorem dX1_thoughtsOf_10 : decode cX1_thoughtsOf 10 = .ok (.aload_n 0, 1) := by decide +kernel
theorem dX1_thoughtsOf_11 : decode cX1_thoughtsOf 11 = .ok (.getfield 28, 3) := by decide +kernel
theorem dX1_thoughtsOf_14 : decode cX1_thoughtsOf 14 = .ok (.iload_n 2, 1) := by decide +kernel
theorem dX1_thoughtsOf_15 : decode cX1_thoughtsOf 15 = .ok (.iaload, 1) := by decide +kernel
theorem dX1_thoughtsOf_16 : decode cX1_thoughtsOf 16 = .ok (.ireturn, 1) := by decide +kernel
theorem dX1_thoughtsOf_17 : decode cX1_thoughtsOf 17 = .ok (.aload_n 0, 1) := by decide +kernel
theorem dX1_thoughtsOf_18 : decode cX1_thoughtsOf 18 = .ok (.getfield 59, 3) := by decide +kernel
theorem dX1_thoughtsOf_21 : decode cX1_thoughtsOf 21 = .ok (.iconst 0, 1) := by decide +kernel
theorem dX1_thoughtsOf_22 : decode cX1_thoughtsOf 22 = .ok (.aload_n 0, 1) := by decide +kernel
theorem dX1_thoughtsOf_23 : decode cX1_thoughtsOf 23 = .ok (.getfield 28, 3) := by decide +kernel
theorem dX1_thoughtsOf_26 : decode cX1_thoughtsOf 26 = .ok (.iload_n 2, 1) := by decide +kernel
theorem dX1_thoughtsOf_27 : decode cX1_thoughtsOf 27 = .ok (.iaload, 1) := by decide +kernel
theorem dX1_thoughtsOf_28 : decode cX1_thoughtsOf 28 = .ok (.iastore, 1) := by decide +kernel
theorem dX1_thoughtsOf_29 : decode cX1_thoughtsOf 29 = .ok (.aload_n 0, 1) := by decide +kernel
theorem dX1_thoughtsOf_30 : decode cX1_thoughtsOf 30 = .ok (.getfield 59, 3) := by decide +kernel
theorem dX1_thoughtsOf_33 : decode cX1_thoughtsOf 33 = .ok (.iconst 1, 1) := by decide +kernel
theorem dX1_thoughtsOf_34 : decode cX1_thoughtsOf 34 = .ok (.aload_n 1, 1) := by decide +kernel
theorem dX1_thoughtsOf_35 : decode cX1_thoughtsOf 35 = .ok (.iload_n 2, 1) := by decide +kernel
theorem dX1_thoughtsOf_36 : decode cX1_thoughtsOf 36 = .ok (.invokevirtual 134, 3) := by decide +kernel
theorem dX1_thoughtsOf_39 : decode cX1_thoughtsOf 39 = .ok (.iastore, 1) := by decide +kernel
theorem dX1_thoughtsOf_40 : decode cX1_thoughtsOf 40 = .ok (.aload_n 0, 1) := by decide +kernel
theorem dX1_thoughtsOf_41 : decode cX1_thoughtsOf 41 = .ok (.getfield 59, 3) := by decide +kernel
theorem dX1_thoughtsOf_44 : decode cX1_thoughtsOf 44 = .ok (.iconst 2, 1) := by decide +kernel
theorem dX1_thoughtsOf_45 : decode cX1_thoughtsOf 45 = .ok (.aload_n 1, 1) := by decide +kernel
theorem dX1_thoughtsOf_46 : decode cX1_thoughtsOf 46 = .ok (.iload_n 2, 1) := by decide +kernel
theorem dX1_thoughtsOf_47 : decode cX1_thoughtsOf 47 = .ok (.invokevirtual 137, 3) := by decide +kernel
theorem dX1_thoughtsOf_50 : decode cX1_thoughtsOf 50 = .ok (.iastore, 1) := by decide +kernel
theorem dX1_thoughtsOf_51 : decode cX1_thoughtsOf 51 = .ok (.aload_n 0, 1) := by decide +kernel
theorem dX1_thoughtsOf_52 : decode cX1_thoughtsOf 52 = .ok (.getfield 59, 3) := by decide +kernel
theorem dX1_thoughtsOf_55 : decode cX1_thoughtsOf 55 = .ok (.iconst 3, 1) := by decide +kernel
theorem dX1_thoughtsOf_56 : decode cX1_thoughtsOf 56 = .ok (.aload_n 1, 1) := by decide +kernel
theorem dX1_thoughtsOf_57 : decode cX1_thoughtsOf 57 = .ok (.iload_n 3, 1) := by decide +kernel
theorem dX1_thoughtsOf_58 : decode cX1_thoughtsOf 58 = .ok (.invokevirtual 118, 3) := by decide +kernel
theorem dX1_thoughtsOf_61 : decode cX1_thoughtsOf 61 = .ok (.iastore, 1) := by decide +kernel
theorem dX1_thoughtsOf_62 : decode cX1_thoughtsOf 62 = .ok (.aload_n 0, 1) := by decide +kernel
theorem dX1_thoughtsOf_63 : decode cX1_thoughtsOf 63 = .ok (.getfield 59, 3) := by decide +kernel
theorem dX1_thoughtsOf_66 : decode cX1_thoughtsOf 66 = .ok (.iconst 4, 1) := by decide +kernel
theorem dX1_thoughtsOf_67 : decode cX1_thoughtsOf 67 = .ok (.aload_n 1, 1) := by decide +kernel
theorem dX1_thoughtsOf_68 : decode cX1_thoughtsOf 68 = .ok (.iload_n 3, 1) := by decide +kernel
theorem dX1_thoughtsOf_69 : decode cX1_thoughtsOf 69 = .ok (.invokevirtual 121, 3) := by decide +kernel
theorem dX1_thoughtsOf_72 : decode cX1_thoughtsOf 72 = .ok (.iastore, 1) := by decide +kernel
theorem dX1_thoughtsOf_73 : decode cX1_thoughtsOf 73 = .ok (.aload_n 0, 1) := by decide +kernel
theorem dX1_thoughtsOf_74 : decode cX1_thoughtsOf 74 = .ok (.getfield 59, 3) := by decide +kernel
theorem dX1_thoughtsOf_77 : decode cX1_thoughtsOf 77 = .ok (.iconst 5, 1) := by decide +kernel
theorem dX1_thoughtsOf_78 : decode cX1_thoughtsOf 78 = .ok (.aload_n 1, 1) := by decide +kernel
theorem dX1_thoughtsOf_79 : decode cX1_thoughtsOf 79 = .ok (.invokevirtual 88, 3) := by decide +kernel
theorem dX1_thoughtsOf_82 : decode cX1_thoughtsOf 82 = .ok (.iastore, 1) := by decide +kernel
theorem dX1_thoughtsOf_83 : decode cX1_thoughtsOf 83 = .ok (.aload_n 0, 1) := by decide +kernel
theorem dX1_thoughtsOf_84 : decode cX1_thoughtsOf 84 = .ok (.getfield 52, 3) := by decide +kernel
theorem dX1_thoughtsOf_87 : decode cX1_thoughtsOf 87 = .ok (.aload_n 0, 1) := by decide +kernel
theorem dX1_thoughtsOf_88 : decode cX1_thoughtsOf 88 = .ok (.getfield 59, 3) := by decide +kernel
theorem dX1_thoughtsOf_91 : decode cX1_thoughtsOf 91 = .ok (.invokevirtual 140, 3) := by decide +kernel
theorem dX1_thoughtsOf_94 : decode cX1_thoughtsOf 94 = .ok (.iconst 0, 1) := by decide +kernel
theorem dX1_thoughtsOf_95 : decode cX1_thoughtsOf 95 = .ok (.bipush 9, 2) := by decide +kernel
theorem dX1_thoughtsOf_97 : decode cX1_thoughtsOf 97 = .ok (.invokestatic 144, 3) := by decide +kernel
theorem dX1_thoughtsOf_100 : decode cX1_thoughtsOf 100 = .ok (.ireturn, 1) := by decide +kernel
theorem dX1_fetchAll_0 : decode cX1_fetchAll 0 = .ok (.iconst 0, 1) := by decide +kernel
theorem dX1_fetchAll_1 : decode cX1_fetchAll 1 = .ok (.istore 4, 2) := by decide +kernel
theorem dX1_fetchAll_3 : decode cX1_fetchAll 3 = .ok (.iconst 0, 1) := by decide +kernel
theorem dX1_fetchAll_4 : decode cX1_fetchAll 4 = .ok (.istore 5, 2) := by decide +kernel
theorem dX1_fetchAll_6 : decode cX1_fetchAll 6 = .ok (.iload 5, 2) := by decide +kernel
theorem dX1_fetchAll_8 : decode cX1_fetchAll 8 = .ok (.aload_n 0, 1) := by decide +kernel
theorem dX1_fetchAll_9 : decode cX1_fetchAll 9 = .ok (.getfield 22, 3) := by decide +kernel
theorem dX1_fetchAll_12 : decode cX1_fetchAll 12 = .ok (.if_icmp .ge 166, 3) := by decide +kernel
theorem dX1_fetchAll_15 : decode cX1_fetchAll 15 = .ok (.aload_n 1, 1) := by decide +kernel
theorem dX1_fetchAll_16 : decode cX1_fetchAll 16 = .ok (.iload_n 3, 1) := by decide +kernel
theorem dX1_fetchAll_17 : decode cX1_fetchAll 17 = .ok (.iload 5, 2) := by decide +kernel
theorem dX1_fetchAll_19 : decode cX1_fetchAll 19 = .ok (.invokevirtual 148, 3) := by decide +kernel
theorem dX1_fetchAll_22 : decode cX1_fetchAll 22 = .ok (.istore 6, 2) := by decide +kernel
theorem dX1_fetchAll_24 : decode cX1_fetchAll 24 = .ok (.aload_n 1, 1) := by decide +kernel
theorem dX1_fetchAll_25 : decode cX1_fetchAll 25 = .ok (.iload 5, 2) := by decide +kernel
theorem dX1_fetchAll_27 : decode cX1_fetchAll 27 = .ok (.invokevirtual 151, 3) := by decide +kernel
theorem dX1_fetchAll_30 : decode cX1_fetchAll 30 = .ok (.istore 7, 2) := by decide +kernel
theorem dX1_fetchAll_32 : decode cX1_fetchAll 32 = .ok (.iload 6, 2) := by decide +kernel
theorem dX1_fetchAll_34 : decode cX1_fetchAll 34 = .ok (.ifCond .le 124, 3) := by decide +kernel
theorem dX1_fetchAll_37 : decode cX1_fetchAll 37 = .ok (.iload 7, 2) := by decide +kernel
theorem dX1_fetchAll_39 : decode cX1_fetchAll 39 = .ok (.iconst (-1), 1) := by decide +kernel
theorem dX1_fetchAll_40 : decode cX1_fetchAll 40 = .ok (.if_icmp .eq 118, 3) := by decide +kernel
theorem dX1_fetchAll_43 : decode cX1_fetchAll 43 = .ok (.aload_n 0, 1) := by decide +kernel
theorem dX1_fetchAll_44 : decode cX1_fetchAll 44 = .ok (.getfield 15, 3) := by decide +kernel
theorem dX1_fetchAll_47 : decode cX1_fetchAll 47 = .ok (.iload_n 3, 1) := by decide +kernel
theorem dX1_fetchAll_48 : decode cX1_fetchAll 48 = .ok (.iaload, 1) := by decide +kernel
theorem dX1_fetchAll_49 : decode cX1_fetchAll 49 = .ok (.aload_n 0, 1) := by decide +kernel
theorem dX1_fetchAll_50 : decode cX1_fetchAll 50 = .ok (.getfield 25, 3) := by decide +kernel
theorem dX1_fetchAll_53 : decode cX1_fetchAll 53 = .ok (.iload 7, 2) := by decide +kernel
theorem dX1_fetchAll_55 : decode cX1_fetchAll 55 = .ok (.iaload, 1) := by decide +kernel
theorem dX1_fetchAll_56 : decode cX1_fetchAll 56 = .ok (.isub, 1) := by decide +kernel
theorem dX1_fetchAll_57 : decode cX1_fetchAll 57 = .ok (.invokestatic 79, 3) := by decide +kernel
theorem dX1_fetchAll_60 : decode cX1_fetchAll 60 = .ok (.istore 8, 2) := by decide +kernel
theorem dX1_fetchAll_62 : decode cX1_fetchAll 62 = .ok (.aload_n 0, 1) := by decide +kernel
theorem dX1_fetchAll_63 : decode cX1_fetchAll 63 = .ok (.getfield 59, 3) := by decide +kernel
theorem dX1_fetchAll_66 : decode cX1_fetchAll 66 = .ok (.iconst 0, 1) := by decide +kernel
theorem dX1_fetchAll_67 : decode cX1_fetchAll 67 = .ok (.iload 6, 2) := by decide +kernel
theorem dX1_fetchAll_69 : decode cX1_fetchAll 69 = .ok (.iastore, 1) := by decide +kernel
theorem dX1_fetchAll_70 : decode cX1_fetchAll 70 = .ok (.aload_n 0, 1) := by decide +kernel
theorem dX1_fetchAll_71 : decode cX1_fetchAll 71 = .ok (.getfield 59, 3) := by decide +kernel
theorem dX1_fetchAll_74 : decode cX1_fetchAll 74 = .ok (.iconst 1, 1) := by decide +kernel
theorem dX1_fetchAll_75 : decode cX1_fetchAll 75 = .ok (.iload 8, 2) := by decide +kernel
theorem dX1_fetchAll_77 : decode cX1_fetchAll 77 = .ok (.iastore, 1) := by decide +kernel
theorem dX1_fetchAll_78 : decode cX1_fetchAll 78 = .ok (.aload_n 0, 1) := by decide +kernel
theorem dX1_fetchAll_79 : decode cX1_fetchAll 79 = .ok (.getfield 59, 3) := by decide +kernel
theorem dX1_fetchAll_82 : decode cX1_fetchAll 82 = .ok (.iconst 2, 1) := by decide +kernel
theorem dX1_fetchAll_83 : decode cX1_fetchAll 83 = .ok (.aload_n 1, 1) := by decide +kernel
theorem dX1_fetchAll_84 : decode cX1_fetchAll 84 = .ok (.iload 7, 2) := by decide +kernel
theorem dX1_fetchAll_86 : decode cX1_fetchAll 86 = .ok (.invokevirtual 137, 3) := by decide +kernel
theorem dX1_fetchAll_89 : decode cX1_fetchAll 89 = .ok (.iastore, 1) := by decide +kernel
theorem dX1_fetchAll_90 : decode cX1_fetchAll 90 = .ok (.aload_n 0, 1) := by decide +kernel
theorem dX1_fetchAll_91 : decode cX1_fetchAll 91 = .ok (.getfield 59, 3) := by decide +kernel
theorem dX1_fetchAll_94 : decode cX1_fetchAll 94 = .ok (.iconst 3, 1) := by decide +kernel
theorem dX1_fetchAll_95 : decode cX1_fetchAll 95 = .ok (.iload_n 2, 1) := by decide +kernel
theorem dX1_fetchAll_96 : decode cX1_fetchAll 96 = .ok (.iastore, 1) := by decide +kernel
theorem dX1_fetchAll_97 : decode cX1_fetchAll 97 = .ok (.aload_n 0, 1) := by decide +kernel
theorem dX1_fetchAll_98 : decode cX1_fetchAll 98 = .ok (.getfield 59, 3) := by decide +kernel
theorem dX1_fetchAll_101 : decode cX1_fetchAll 101 = .ok (.iconst 5, 1) := by decide +kernel
theorem dX1_fetchAll_102 : decode cX1_fetchAll 102 = .ok (.aload_n 1, 1) := by decide +kernel
theorem dX1_fetchAll_103 : decode cX1_fetchAll 103 = .ok (.invokevirtual 88, 3) := by decide +kernel
theorem dX1_fetchAll_106 : decode cX1_fetchAll 106 = .ok (.iastore, 1) := by decide +kernel
theorem dX1_fetchAll_107 : decode cX1_fetchAll 107 = .ok (.aload_n 0, 1) := by decide +kernel
theorem dX1_fetchAll_108 : decode cX1_fetchAll 108 = .ok (.getfield 56, 3) := by decide +kernel
theorem dX1_fetchAll_111 : decode cX1_fetchAll 111 = .ok (.invokevirtual 131, 3) := by decide +kernel
theorem dX1_fetchAll_114 : decode cX1_fetchAll 114 = .ok (.ifCond .eq 17, 3) := by decide +kernel
theorem dX1_fetchAll_117 : decode cX1_fetchAll 117 = .ok (.iload 6, 2) := by decide +kernel
theorem dX1_fetchAll_119 : decode cX1_fetchAll 119 = .ok (.iconst 2, 1) := by decide +kernel
theorem dX1_fetchAll_120 : decode cX1_fetchAll 120 = .ok (.idiv, 1) := by decide +kernel
theorem dX1_fetchAll_121 : decode cX1_fetchAll 121 = .ok (.iload_n 2, 1) := by decide +kernel
theorem dX1_fetchAll_122 : decode cX1_fetchAll 122 = .ok (.iadd, 1) := by decide +kernel
theorem dX1_fetchAll_123 : decode cX1_fetchAll 123 = .ok (.iload 8, 2) := by decide +kernel
theorem dX1_fetchAll_125 : decode cX1_fetchAll 125 = .ok (.iconst 3, 1) := by decide +kernel
theorem dX1_fetchAll_126 : decode cX1_fetchAll 126 = .ok (.idiv, 1) := by decide +kernel
theorem dX1_fetchAll_127 : decode cX1_fetchAll 127 = .ok (.isub, 1) := by decide +kernel
theorem dX1_fetchAll_128 : decode cX1_fetchAll 128 = .ok (.goto 14, 3) := by decide +kernel
theorem dX1_fetchAll_131 : decode cX1_fetchAll 131 = .ok (.aload_n 0, 1) := by decide +kernel
theorem dX1_fetchAll_132 : decode cX1_fetchAll 132 = .ok (.getfield 56, 3) := by decide +kernel
theorem dX1_fetchAll_135 : decode cX1_fetchAll 135 = .ok (.aload_n 0, 1) := by decide +kernel
theorem dX1_fetchAll_136 : decode cX1_fetchAll 136 = .ok (.getfield 59, 3) := by decide +kernel
theorem dX1_fetchAll_139 : decode cX1_fetchAll 139 = .ok (.invokevirtual 140, 3) := by decide +kernel
theorem dX1_fetchAll_142 : decode cX1_fetchAll 142 = .ok (.istore 9, 2) := by decide +kernel
theorem dX1_fetchAll_144 : decode cX1_fetchAll 144 = .ok (.aload_n 1, 1) := by decide +kernel
theorem dX1_fetchAll_145 : decode cX1_fetchAll 145 = .ok (.iload 7, 2) := by decide +kernel
theorem dX1_fetchAll_147 : decode cX1_fetchAll 147 = .ok (.iload 9, 2) := by decide +kernel
theorem dX1_fetchAll_149 : decode cX1_fetchAll 149 = .ok (.iconst 0, 1) := by decide +kernel
theorem dX1_fetchAll_150 : decode cX1_fetchAll 150 = .ok (.bipush 99, 2) := by decide +kernel
theorem dX1_fetchAll_152 : decode cX1_fetchAll 152 = .ok (.invokestatic 144, 3) := by decide +kernel
theorem dX1_fetchAll_155 : decode cX1_fetchAll 155 = .ok (.invokevirtual 154, 3) := by decide +kernel
theorem dX1_fetchAll_158 : decode cX1_fetchAll 158 = .ok (.aload_n 1, 1) := by decide +kernel
theorem dX1_fetchAll_159 : decode cX1_fetchAll 159 = .ok (.iload_n 3, 1) := by decide +kernel
theorem dX1_fetchAll_160 : decode cX1_fetchAll 160 = .ok (.iload 5, 2) := by decide +kernel
theorem dX1_fetchAll_162 : decode cX1_fetchAll 162 = .ok (.invokevirtual 157, 3) := by decide +kernel
theorem dX1_fetchAll_165 : decode cX1_fetchAll 165 = .ok (.iload 4, 2) := by decide +kernel
theorem dX1_fetchAll_167 : decode cX1_fetchAll 167 = .ok (.iload 6, 2) := by decide +kernel
theorem dX1_fetchAll_169 : decode cX1_fetchAll 169 = .ok (.iadd, 1) := by decide +kernel
theorem dX1_fetchAll_170 : decode cX1_fetchAll 170 = .ok (.istore 4, 2) := by decide +kernel
theorem dX1_fetchAll_172 : decode cX1_fetchAll 172 = .ok (.iinc 5 1, 3) := by decide +kernel
theorem dX1_fetchAll_175 : decode cX1_fetchAll 175 = .ok (.goto (-169), 3) := by decide +kernel
theorem dX1_fetchAll_178 : decode cX1_fetchAll 178 = .ok (.iload 4, 2) := by decide +kernel
theorem dX1_fetchAll_180 : decode cX1_fetchAll 180 = .ok (.ireturn, 1) := by decide +kernel
theorem dX1_fullestBox_0 : decode cX1_fullestBox 0 = .ok (.iconst (-1), 1) := by decide +kernel
theorem dX1_fullestBox_1 : decode cX1_fullestBox 1 = .ok (.istore_n 2, 1) := by decide +kernel
theorem dX1_fullestBox_2 : decode cX1_fullestBox 2 = .ok (.iconst 0, 1) := by decide +kernel
theorem dX1_fullestBox_3 : decode cX1_fullestBox 3 = .ok (.istore_n 3, 1) := by decide +kernel
theorem dX1_fullestBox_4 : decode cX1_fullestBox 4 = .ok (.iload_n 3, 1) := by decide +kernel
theorem dX1_fullestBox_5 : decode cX1_fullestBox 5 = .ok (.aload_n 0, 1) := by decide +kernel
theorem dX1_fullestBox_6 : decode cX1_fullestBox 6 = .ok (.getfield 9, 3) := by decide +kernel
theorem dX1_fullestBox_9 : decode cX1_fullestBox 9 = .ok (.if_icmp .ge 29, 3) := by decide +kernel
theorem dX1_fullestBox_12 : decode cX1_fullestBox 12 = .ok (.iload_n 2, 1) := by decide +kernel
theorem dX1_fullestBox_13 : decode cX1_fullestBox 13 = .ok (.iconst (-1), 1) := by decide +kernel
theorem dX1_fullestBox_14 : decode cX1_fullestBox 14 = .ok (.if_icmp .eq 16, 3) := by decide +kernel
theorem dX1_fullestBox_17 : decode cX1_fullestBox 17 = .ok (.aload_n 1, 1) := by decide +kernel
theorem dX1_fullestBox_18 : decode cX1_fullestBox 18 = .ok (.iload_n 3, 1) := by decide +kernel
theorem dX1_fullestBox_19 : decode cX1_fullestBox 19 = .ok (.invokevirtual 121, 3) := by decide +kernel
theorem dX1_fullestBox_22 : decode cX1_fullestBox 22 = .ok (.aload_n 1, 1) := by decide +kernel
theorem dX1_fullestBox_23 : decode cX1_fullestBox 23 = .ok (.iload_n 2, 1) := by decide +kernel
theorem dX1_fullestBox_24 : decode cX1_fullestBox 24 = .ok (.invokevirtual 121, 3) := by decide +kernel
theorem dX1_fullestBox_27 : decode cX1_fullestBox 27 = .ok (.if_icmp .le 5, 3) := by decide +kernel
theorem dX1_fullestBox_30 : decode cX1_fullestBox 30 = .ok (.iload_n 3, 1) := by decide +kernel
theorem dX1_fullestBox_31 : decode cX1_fullestBox 31 = .ok (.istore_n 2, 1) := by decide +kernel
theorem dX1_fullestBox_32 : decode cX1_fullestBox 32 = .ok (.iinc 3 1, 3) := by decide +kernel
theorem dX1_fullestBox_35 : decode cX1_fullestBox 35 = .ok (.goto (-31), 3) := by decide +kernel
theorem dX1_fullestBox_38 : decode cX1_fullestBox 38 = .ok (.iload_n 2, 1) := by decide +kernel
theorem dX1_fullestBox_39 : decode cX1_fullestBox 39 = .ok (.ireturn, 1) := by decide +kernel
theorem dX1_loudestPerson_0 : decode cX1_loudestPerson 0 = .ok (.iconst (-1), 1) := by decide +kernel
theorem dX1_loudestPerson_1 : decode cX1_loudestPerson 1 = .ok (.istore_n 2, 1) := by decide +kernel
theorem dX1_loudestPerson_2 : decode cX1_loudestPerson 2 = .ok (.iconst 0, 1) := by decide +kernel
theorem dX1_loudestPerson_3 : decode cX1_loudestPerson 3 = .ok (.istore_n 3, 1) := by decide +kernel
theorem dX1_loudestPerson_4 : decode cX1_loudestPerson 4 = .ok (.iload_n 3, 1) := by decide +kernel
theorem dX1_loudestPerson_5 : decode cX1_loudestPerson 5 = .ok (.aload_n 0, 1) := by decide +kernel
theorem dX1_loudestPerson_6 : decode cX1_loudestPerson 6 = .ok (.getfield 22, 3) := by decide +kernel
theorem dX1_loudestPerson_9 : decode cX1_loudestPerson 9 = .ok (.if_icmp .ge 29, 3) := by decide +kernel
theorem dX1_loudestPerson_12 : decode cX1_loudestPerson 12 = .ok (.iload_n 2, 1) := by decide +kernel
theorem dX1_loudestPerson_13 : decode cX1_loudestPerson 13 = .ok (.iconst (-1), 1) := by decide +kernel
theorem dX1_loudestPerson_14 : decode cX1_loudestPerson 14 = .ok (.if_icmp .eq 16, 3) := by decide +kernel
theorem dX1_loudestPerson_17 : decode cX1_loudestPerson 17 = .ok (.aload_n 1, 1) := by decide +kernel
theorem dX1_loudestPerson_18 : decode cX1_loudestPerson 18 = .ok (.iload_n 3, 1) := by decide +kernel
theorem dX1_loudestPerson_19 : decode cX1_loudestPerson 19 = .ok (.invokevirtual 137, 3) := by decide +kernel
theorem dX1_loudestPerson_22 : decode cX1_loudestPerson 22 = .ok (.aload_n 1, 1) := by decide +kernel
theorem dX1_loudestPerson_23 : decode cX1_loudestPerson 23 = .ok (.iload_n 2, 1) := by decide +kernel
theorem dX1_loudestPerson_24 : decode cX1_loudestPerson 24 = .ok (.invokevirtual 137, 3) := by decide +kernel
theorem dX1_loudestPerson_27 : decode cX1_loudestPerson 27 = .ok (.if_icmp .le 5, 3) := by decide +kernel
theorem dX1_loudestPerson_30 : decode cX1_loudestPerson 30 = .ok (.iload_n 3, 1) := by decide +kernel
theorem dX1_loudestPerson_31 : decode cX1_loudestPerson 31 = .ok (.istore_n 2, 1) := by decide +kernel
theorem dX1_loudestPerson_32 : decode cX1_loudestPerson 32 = .ok (.iinc 3 1, 3) := by decide +kernel
theorem dX1_loudestPerson_35 : decode cX1_loudestPerson 35 = .ok (.goto (-31), 3) := by decide +kernel
theorem dX1_loudestPerson_38 : decode cX1_loudestPerson 38 = .ok (.iload_n 2, 1) := by decide +kernel
theorem dX1_loudestPerson_39 : decode cX1_loudestPerson 39 = .ok (.ireturn, 1) := by decide +kernel
theorem dX1_saddestPerson_0 : decode cX1_saddestPerson 0 = .ok (.iconst (-1), 1) := by decide +kernel
theorem dX1_saddestPerson_1 : decode cX1_saddestPerson 1 = .ok (.istore_n 2, 1) := by decide +kernel
theorem dX1_saddestPerson_2 : decode cX1_saddestPerson 2 = .ok (.iconst 0, 1) := by decide +kernel
theorem dX1_saddestPerson_3 : decode cX1_saddestPerson 3 = .ok (.istore_n 3, 1) := by decide +kernel
theorem dX1_saddestPerson_4 : decode cX1_saddestPerson 4 = .ok (.iload_n 3, 1) := by decide +kernel
theorem dX1_saddestPerson_5 : decode cX1_saddestPerson 5 = .ok (.aload_n 0, 1) := by decide +kernel
theorem dX1_saddestPerson_6 : decode cX1_saddestPerson 6 = .ok (.getfield 22, 3) := by decide +kernel
theorem dX1_saddestPerson_9 : decode cX1_saddestPerson 9 = .ok (.if_icmp .ge 29, 3) := by decide +kernel
theorem dX1_saddestPerson_12 : decode cX1_saddestPerson 12 = .ok (.iload_n 2, 1) := by decide +kernel
theorem dX1_saddestPerson_13 : decode cX1_saddestPerson 13 = .ok (.iconst (-1), 1) := by decide +kernel
theorem dX1_saddestPerson_14 : decode cX1_saddestPerson 14 = .ok (.if_icmp .eq 16, 3) := by decide +kernel
theorem dX1_saddestPerson_17 : decode cX1_saddestPerson 17 = .ok (.aload_n 1, 1) := by decide +kernel
theorem dX1_saddestPerson_18 : decode cX1_saddestPerson 18 = .ok (.iload_n 3, 1) := by decide +kernel
theorem dX1_saddestPerson_19 : decode cX1_saddestPerson 19 = .ok (.invokevirtual 134, 3) := by decide +kernel
theorem dX1_saddestPerson_22 : decode cX1_saddestPerson 22 = .ok (.aload_n 1, 1) := by decide +kernel
theorem dX1_saddestPerson_23 : decode cX1_saddestPerson 23 = .ok (.iload_n 2, 1) := by decide +kernel
theorem dX1_saddestPerson_24 : decode cX1_saddestPerson 24 = .ok (.invokevirtual 134, 3) := by decide +kernel
theorem dX1_saddestPerson_27 : decode cX1_saddestPerson 27 = .ok (.if_icmp .le 5, 3) := by decide +kernel
theorem dX1_saddestPerson_30 : decode cX1_saddestPerson 30 = .ok (.iload_n 3, 1) := by decide +kernel
theorem dX1_saddestPerson_31 : decode cX1_saddestPerson 31 = .ok (.istore_n 2, 1) := by decide +kernel
theorem dX1_saddestPerson_32 : decode cX1_saddestPerson 32 = .ok (.iinc 3 1, 3) := by decide +kernel
theorem dX1_saddestPerson_35 : decode cX1_saddestPerson 35 = .ok (.goto (-31), 3) := by decide +kernel
theorem dX1_saddestPerson_38 : decode cX1_saddestPerson 38 = .ok (.iload_n 2, 1) := by decide +kernel
theorem dX1_saddestPerson_39 : decode cX1_saddestPerson 39 = .ok (.ireturn, 1) := by decide +kernel
theorem dX1_emptyBits_0 : decode cX1_emptyBits 0 = .ok (.iconst 0, 1) := by decide +kernel
theorem dX1_emptyBits_1 : decode cX1_emptyBits 1 = .ok (.istore_n 2, 1) := by decide +kernel
theorem dX1_emptyBits_2 : decode cX1_emptyBits 2 = .ok (.iconst 0, 1) := by decide +kernel
theorem dX1_emptyBits_3 : decode cX1_emptyBits 3 = .ok (.istore_n 3, 1) := by decide +kernel
theorem dX1_emptyBits_4 : decode cX1_emptyBits 4 = .ok (.iload_n 3, 1) := by decide +kernel
theorem dX1_emptyBits_5 : decode cX1_emptyBits 5 = .ok (.aload_n 0, 1) := by decide +kernel
theorem dX1_emptyBits_6 : decode cX1_emptyBits 6 = .ok (.getfield 9, 3) := by decide +kernel
theorem dX1_emptyBits_9 : decode cX1_emptyBits 9 = .ok (.if_icmp .ge 23, 3) := by decide +kernel
theorem dX1_emptyBits_12 : decode cX1_emptyBits 12 = .ok (.aload_n 1, 1) := by decide +kernel
theorem dX1_emptyBits_13 : decode cX1_emptyBits 13 = .ok (.iload_n 3, 1) := by decide +kernel
theorem dX1_emptyBits_14 : decode cX1_emptyBits 14 = .ok (.invokevirtual 121, 3) := by decide +kernel
theorem dX1_emptyBits_17 : decode cX1_emptyBits 17 = .ok (.ifCond .ne 9, 3) := by decide +kernel
theorem dX1_emptyBits_20 : decode cX1_emptyBits 20 = .ok (.iload_n 2, 1) := by decide +kernel
theorem dX1_emptyBits_21 : decode cX1_emptyBits 21 = .ok (.iconst 1, 1) := by decide +kernel
theorem dX1_emptyBits_22 : decode cX1_emptyBits 22 = .ok (.iload_n 3, 1) := by decide +kernel
theorem dX1_emptyBits_23 : decode cX1_emptyBits 23 = .ok (.ishl, 1) := by decide +kernel
theorem dX1_emptyBits_24 : decode cX1_emptyBits 24 = .ok (.ior, 1) := by decide +kernel
theorem dX1_emptyBits_25 : decode cX1_emptyBits 25 = .ok (.istore_n 2, 1) := by decide +kernel
theorem dX1_emptyBits_26 : decode cX1_emptyBits 26 = .ok (.iinc 3 1, 3) := by decide +kernel
theorem dX1_emptyBits_29 : decode cX1_emptyBits 29 = .ok (.goto (-25), 3) := by decide +kernel
theorem dX1_emptyBits_32 : decode cX1_emptyBits 32 = .ok (.iload_n 2, 1) := by decide +kernel
theorem dX1_emptyBits_33 : decode cX1_emptyBits 33 = .ok (.ireturn, 1) := by decide +kernel
theorem dX1_fanBits_0 : decode cX1_fanBits 0 = .ok (.iconst 0, 1) := by decide +kernel
theorem dX1_fanBits_1 : decode cX1_fanBits 1 = .ok (.istore_n 3, 1) := by decide +kernel
theorem dX1_fanBits_2 : decode cX1_fanBits 2 = .ok (.iconst 0, 1) := by decide +kernel
theorem dX1_fanBits_3 : decode cX1_fanBits 3 = .ok (.istore 4, 2) := by decide +kernel
theorem dX1_fanBits_5 : decode cX1_fanBits 5 = .ok (.iload 4, 2) := by decide +kernel
theorem dX1_fanBits_7 : decode cX1_fanBits 7 = .ok (.aload_n 0, 1) := by decide +kernel
theorem dX1_fanBits_8 : decode cX1_fanBits 8 = .ok (.getfield 22, 3) := by decide +kernel
theorem dX1_fanBits_11 : decode cX1_fanBits 11 = .ok (.if_icmp .ge 26, 3) := by decide +kernel
theorem dX1_fanBits_14 : decode cX1_fanBits 14 = .ok (.aload_n 1, 1) := by decide +kernel
theorem dX1_fanBits_15 : decode cX1_fanBits 15 = .ok (.iload 4, 2) := by decide +kernel
theorem dX1_fanBits_17 : decode cX1_fanBits 17 = .ok (.invokevirtual 151, 3) := by decide +kernel
theorem dX1_fanBits_20 : decode cX1_fanBits 20 = .ok (.iload_n 2, 1) := by decide +kernel
theorem dX1_fanBits_21 : decode cX1_fanBits 21 = .ok (.if_icmp .ne 10, 3) := by decide +kernel
theorem dX1_fanBits_24 : decode cX1_fanBits 24 = .ok (.iload_n 3, 1) := by decide +kernel
theorem dX1_fanBits_25 : decode cX1_fanBits 25 = .ok (.iconst 1, 1) := by decide +kernel
theorem dX1_fanBits_26 : decode cX1_fanBits 26 = .ok (.iload 4, 2) := by decide +kernel
theorem dX1_fanBits_28 : decode cX1_fanBits 28 = .ok (.ishl, 1) := by decide +kernel
theorem dX1_fanBits_29 : decode cX1_fanBits 29 = .ok (.ior, 1) := by decide +kernel
theorem dX1_fanBits_30 : decode cX1_fanBits 30 = .ok (.istore_n 3, 1) := by decide +kernel
theorem dX1_fanBits_31 : decode cX1_fanBits 31 = .ok (.iinc 4 1, 3) := by decide +kernel
theorem dX1_fanBits_34 : decode cX1_fanBits 34 = .ok (.goto (-29), 3) := by decide +kernel
theorem dX1_fanBits_37 : decode cX1_fanBits 37 = .ok (.iload_n 3, 1) := by decide +kernel
theorem dX1_fanBits_38 : decode cX1_fanBits 38 = .ok (.ireturn, 1) := by decide +kernel
theorem dX1_unthoughtBits_0 : decode cX1_unthoughtBits 0 = .ok (.iconst 0, 1) := by decide +kernel
theorem dX1_unthoughtBits_1 : decode cX1_unthoughtBits 1 = .ok (.istore_n 2, 1) := by decide +kernel
theorem dX1_unthoughtBits_2 : decode cX1_unthoughtBits 2 = .ok (.iconst 0, 1) := by decide +kernel
theorem dX1_unthoughtBits_3 : decode cX1_unthoughtBits 3 = .ok (.istore_n 3, 1) := by decide +kernel
theorem dX1_unthoughtBits_4 : decode cX1_unthoughtBits 4 = .ok (.iload_n 3, 1) := by decide +kernel
theorem dX1_unthoughtBits_5 : decode cX1_unthoughtBits 5 = .ok (.aload_n 0, 1) := by decide +kernel
theorem dX1_unthoughtBits_6 : decode cX1_unthoughtBits 6 = .ok (.getfield 22, 3) := by decide +kernel
theorem dX1_unthoughtBits_9 : decode cX1_unthoughtBits 9 = .ok (.if_icmp .ge 24, 3) := by decide +kernel
theorem dX1_unthoughtBits_12 : decode cX1_unthoughtBits 12 = .ok (.aload_n 0, 1) := by decide +kernel
theorem dX1_unthoughtBits_13 : decode cX1_unthoughtBits 13 = .ok (.aload_n 1, 1) := by decide +kernel
theorem dX1_unthoughtBits_14 : decode cX1_unthoughtBits 14 = .ok (.iload_n 3, 1) := by decide +kernel
theorem dX1_unthoughtBits_15 : decode cX1_unthoughtBits 15 = .ok (.invokevirtual 160, 3) := by decide +kernel
theorem dX1_unthoughtBits_18 : decode cX1_unthoughtBits 18 = .ok (.ifCond .ne 9, 3) := by decide +kernel
theorem dX1_unthoughtBits_21 : decode cX1_unthoughtBits 21 = .ok (.iload_n 2, 1) := by decide +kernel
theorem dX1_unthoughtBits_22 : decode cX1_unthoughtBits 22 = .ok (.iconst 1, 1) := by decide +kernel
theorem dX1_unthoughtBits_23 : decode cX1_unthoughtBits 23 = .ok (.iload_n 3, 1) := by decide +kernel
theorem dX1_unthoughtBits_24 : decode cX1_unthoughtBits 24 = .ok (.ishl, 1) := by decide +kernel
theorem dX1_unthoughtBits_25 : decode cX1_unthoughtBits 25 = .ok (.ior, 1) := by decide +kernel
theorem dX1_unthoughtBits_26 : decode cX1_unthoughtBits 26 = .ok (.istore_n 2, 1) := by decide +kernel
theorem dX1_unthoughtBits_27 : decode cX1_unthoughtBits 27 = .ok (.iinc 3 1, 3) := by decide +kernel
theorem dX1_unthoughtBits_30 : decode cX1_unthoughtBits 30 = .ok (.goto (-26), 3) := by decide +kernel
theorem dX1_unthoughtBits_33 : decode cX1_unthoughtBits 33 = .ok (.iload_n 2, 1) := by decide +kernel
theorem dX1_unthoughtBits_34 : decode cX1_unthoughtBits 34 = .ok (.ireturn, 1) := by decide +kernel
theorem dX1_mutualCouples_0 : decode cX1_mutualCouples 0 = .ok (.iconst 0, 1) := by decide +kernel
theorem dX1_mutualCouples_1 : decode cX1_mutualCouples 1 = .ok (.istore_n 2, 1) := by decide +kernel
theorem dX1_mutualCouples_2 : decode cX1_mutualCouples 2 = .ok (.iconst 0, 1) := by decide +kernel
theorem dX1_mutualCouples_3 : decode cX1_mutualCouples 3 = .ok (.istore_n 3, 1) := by decide +kernel
theorem dX1_mutualCouples_4 : decode cX1_mutualCouples 4 = .ok (.iload_n 3, 1) := by decide +kernel
theorem dX1_mutualCouples_5 : decode cX1_mutualCouples 5 = .ok (.aload_n 0, 1) := by decide +kernel
theorem dX1_mutualCouples_6 : decode cX1_mutualCouples 6 = .ok (.getfield 22, 3) := by decide +kernel
theorem dX1_mutualCouples_9 : decode cX1_mutualCouples 9 = .ok (.if_icmp .ge 35, 3) := by decide +kernel
theorem dX1_mutualCouples_12 : decode cX1_mutualCouples 12 = .ok (.aload_n 1, 1) := by decide +kernel
theorem dX1_mutualCouples_13 : decode cX1_mutualCouples 13 = .ok (.iload_n 3, 1) := by decide +kernel
theorem dX1_mutualCouples_14 : decode cX1_mutualCouples 14 = .ok (.invokevirtual 151, 3) := by decide +kernel
theorem dX1_mutualCouples_17 : decode cX1_mutualCouples 17 = .ok (.istore 4, 2) := by decide +kernel
theorem dX1_mutualCouples_19 : decode cX1_mutualCouples 19 = .ok (.iload 4, 2) := by decide +kernel
theorem dX1_mutualCouples_21 : decode cX1_mutualCouples 21 = .ok (.iload_n 3, 1) := by decide +kernel
theorem dX1_mutualCouples_22 : decode cX1_mutualCouples 22 = .ok (.if_icmp .le 16, 3) := by decide +kernel
theorem dX1_mutualCouples_25 : decode cX1_mutualCouples 25 = .ok (.aload_n 1, 1) := by decide +kernel
theorem dX1_mutualCouples_26 : decode cX1_mutualCouples 26 = .ok (.iload 4, 2) := by decide +kernel
theorem dX1_mutualCouples_28 : decode cX1_mutualCouples 28 = .ok (.invokevirtual 151, 3) := by decide +kernel
theorem dX1_mutualCouples_31 : decode cX1_mutualCouples 31 = .ok (.iload_n 3, 1) := by decide +kernel
theorem dX1_mutualCouples_32 : decode cX1_mutualCouples 32 = .ok (.if_icmp .ne 6, 3) := by decide +kernel
theorem dX1_mutualCouples_35 : decode cX1_mutualCouples 35 = .ok (.iinc 2 1, 3) := by decide +kernel
theorem dX1_mutualCouples_38 : decode cX1_mutualCouples 38 = .ok (.iinc 3 1, 3) := by decide +kernel
theorem dX1_mutualCouples_41 : decode cX1_mutualCouples 41 = .ok (.goto (-37), 3) := by decide +kernel
theorem dX1_mutualCouples_44 : decode cX1_mutualCouples 44 = .ok (.iload_n 2, 1) := by decide +kernel
theorem dX1_mutualCouples_45 : decode cX1_mutualCouples 45 = .ok (.ireturn, 1) := by decide +kernel
theorem dX1_reachedBits_0 : decode cX1_reachedBits 0 = .ok (.iconst 0, 1) := by decide +kernel
theorem dX1_reachedBits_1 : decode cX1_reachedBits 1 = .ok (.istore_n 3, 1) := by decide +kernel
theorem dX1_reachedBits_2 : decode cX1_reachedBits 2 = .ok (.aload_n 1, 1) := by decide +kernel
theorem dX1_reachedBits_3 : decode cX1_reachedBits 3 = .ok (.iload_n 2, 1) := by decide +kernel
theorem dX1_reachedBits_4 : decode cX1_reachedBits 4 = .ok (.invokevirtual 151, 3) := by decide +kernel
theorem dX1_reachedBits_7 : decode cX1_reachedBits 7 = .ok (.istore 4, 2) := by decide +kernel
theorem dX1_reachedBits_9 : decode cX1_reachedBits 9 = .ok (.iconst 0, 1) := by decide +kernel
theorem dX1_reachedBits_10 : decode cX1_reachedBits 10 = .ok (.istore 5, 2) := by decide +kernel
theorem dX1_reachedBits_12 : decode cX1_reachedBits 12 = .ok (.iload 5, 2) := by decide +kernel
theorem dX1_reachedBits_14 : decode cX1_reachedBits 14 = .ok (.bipush 8, 2) := by decide +kernel
theorem dX1_reachedBits_16 : decode cX1_reachedBits 16 = .ok (.if_icmp .ge 30, 3) := by decide +kernel
theorem dX1_reachedBits_19 : decode cX1_reachedBits 19 = .ok (.iload 4, 2) := by decide +kernel
theorem dX1_reachedBits_21 : decode cX1_reachedBits 21 = .ok (.iconst (-1), 1) := by decide +kernel
theorem dX1_reachedBits_22 : decode cX1_reachedBits 22 = .ok (.if_icmp .eq 24, 3) := by decide +kernel
theorem dX1_reachedBits_25 : decode cX1_reachedBits 25 = .ok (.iload_n 3, 1) := by decide +kernel
theorem dX1_reachedBits_26 : decode cX1_reachedBits 26 = .ok (.iconst 1, 1) := by decide +kernel
theorem dX1_reachedBits_27 : decode cX1_reachedBits 27 = .ok (.iload 4, 2) := by decide +kernel
theorem dX1_reachedBits_29 : decode cX1_reachedBits 29 = .ok (.ishl, 1) := by decide +kernel
theorem dX1_reachedBits_30 : decode cX1_reachedBits 30 = .ok (.ior, 1) := by decide +kernel
theorem dX1_reachedBits_31 : decode cX1_reachedBits 31 = .ok (.istore_n 3, 1) := by decide +kernel
theorem dX1_reachedBits_32 : decode cX1_reachedBits 32 = .ok (.aload_n 1, 1) := by decide +kernel
theorem dX1_reachedBits_33 : decode cX1_reachedBits 33 = .ok (.iload 4, 2) := by decide +kernel
theorem dX1_reachedBits_35 : decode cX1_reachedBits 35 = .ok (.invokevirtual 151, 3) := by decide +kernel
theorem dX1_reachedBits_38 : decode cX1_reachedBits 38 = .ok (.istore 4, 2) := by decide +kernel
theorem dX1_reachedBits_40 : decode cX1_reachedBits 40 = .ok (.iinc 5 1, 3) := by decide +kernel
theorem dX1_reachedBits_43 : decode cX1_reachedBits 43 = .ok (.goto (-31), 3) := by decide +kernel
theorem dX1_reachedBits_46 : decode cX1_reachedBits 46 = .ok (.iload_n 3, 1) := by decide +kernel
theorem dX1_reachedBits_47 : decode cX1_reachedBits 47 = .ok (.ireturn, 1) := by decide +kernel
theorem dX1_nearBits_0 : decode cX1_nearBits 0 = .ok (.iconst 0, 1) := by decide +kernel
theorem dX1_nearBits_1 : decode cX1_nearBits 1 = .ok (.istore_n 2, 1) := by decide +kernel
theorem dX1_nearBits_2 : decode cX1_nearBits 2 = .ok (.iconst 0, 1) := by decide +kernel
theorem dX1_nearBits_3 : decode cX1_nearBits 3 = .ok (.istore_n 3, 1) := by decide +kernel
theorem dX1_nearBits_4 : decode cX1_nearBits 4 = .ok (.iload_n 3, 1) := by decide +kernel
theorem dX1_nearBits_5 : decode cX1_nearBits 5 = .ok (.aload_n 0, 1) := by decide +kernel
theorem dX1_nearBits_6 : decode cX1_nearBits 6 = .ok (.getfield 22, 3) := by decide +kernel
theorem dX1_nearBits_9 : decode cX1_nearBits 9 = .ok (.if_icmp .ge 25, 3) := by decide +kernel
theorem dX1_nearBits_12 : decode cX1_nearBits 12 = .ok (.aload_n 0, 1) := by decide +kernel
theorem dX1_nearBits_13 : decode cX1_nearBits 13 = .ok (.getfield 34, 3) := by decide +kernel
theorem dX1_nearBits_16 : decode cX1_nearBits 16 = .ok (.iload_n 3, 1) := by decide +kernel
theorem dX1_nearBits_17 : decode cX1_nearBits 17 = .ok (.iaload, 1) := by decide +kernel
theorem dX1_nearBits_18 : decode cX1_nearBits 18 = .ok (.iload_n 1, 1) := by decide +kernel
theorem dX1_nearBits_19 : decode cX1_nearBits 19 = .ok (.if_icmp .ne 9, 3) := by decide +kernel
theorem dX1_nearBits_22 : decode cX1_nearBits 22 = .ok (.iload_n 2, 1) := by decide +kernel
theorem dX1_nearBits_23 : decode cX1_nearBits 23 = .ok (.iconst 1, 1) := by decide +kernel
theorem dX1_nearBits_24 : decode cX1_nearBits 24 = .ok (.iload_n 3, 1) := by decide +kernel
theorem dX1_nearBits_25 : decode cX1_nearBits 25 = .ok (.ishl, 1) := by decide +kernel
theorem dX1_nearBits_26 : decode cX1_nearBits 26 = .ok (.ior, 1) := by decide +kernel
theorem dX1_nearBits_27 : decode cX1_nearBits 27 = .ok (.istore_n 2, 1) := by decide +kernel
theorem dX1_nearBits_28 : decode cX1_nearBits 28 = .ok (.iinc 3 1, 3) := by decide +kernel
theorem dX1_nearBits_31 : decode cX1_nearBits 31 = .ok (.goto (-27), 3) := by decide +kernel
theorem dX1_nearBits_34 : decode cX1_nearBits 34 = .ok (.iload_n 2, 1) := by decide +kernel
theorem dX1_nearBits_35 : decode cX1_nearBits 35 = .ok (.ireturn, 1) := by decide +kernel
theorem dX1_neighbourBits_0 : decode cX1_neighbourBits 0 = .ok (.aload_n 0, 1) := by decide +kernel
theorem dX1_neighbourBits_1 : decode cX1_neighbourBits 1 = .ok (.getfield 34, 3) := by decide +kernel
theorem dX1_neighbourBits_4 : decode cX1_neighbourBits 4 = .ok (.iload_n 1, 1) := by decide +kernel
theorem dX1_neighbourBits_5 : decode cX1_neighbourBits 5 = .ok (.iaload, 1) := by decide +kernel
theorem dX1_neighbourBits_6 : decode cX1_neighbourBits 6 = .ok (.istore_n 2, 1) := by decide +kernel
theorem dX1_neighbourBits_7 : decode cX1_neighbourBits 7 = .ok (.iload_n 2, 1) := by decide +kernel
theorem dX1_neighbourBits_8 : decode cX1_neighbourBits 8 = .ok (.iconst (-1), 1) := by decide +kernel
theorem dX1_neighbourBits_9 : decode cX1_neighbourBits 9 = .ok (.if_icmp .ne 7, 3) := by decide +kernel
theorem dX1_neighbourBits_12 : decode cX1_neighbourBits 12 = .ok (.iconst 0, 1) := by decide +kernel
theorem dX1_neighbourBits_13 : decode cX1_neighbourBits 13 = .ok (.goto 14, 3) := by decide +kernel
theorem dX1_neighbourBits_16 : decode cX1_neighbourBits 16 = .ok (.aload_n 0, 1) := by decide +kernel
theorem dX1_neighbourBits_17 : decode cX1_neighbourBits 17 = .ok (.iload_n 2, 1) := by decide +kernel
theorem dX1_neighbourBits_18 : decode cX1_neighbourBits 18 = .ok (.invokevirtual 164, 3) := by decide +kernel
theorem dX1_neighbourBits_21 : decode cX1_neighbourBits 21 = .ok (.iconst 1, 1) := by decide +kernel
theorem dX1_neighbourBits_22 : decode cX1_neighbourBits 22 = .ok (.iload_n 1, 1) := by decide +kernel
theorem dX1_neighbourBits_23 : decode cX1_neighbourBits 23 = .ok (.ishl, 1) := by decide +kernel
theorem dX1_neighbourBits_24 : decode cX1_neighbourBits 24 = .ok (.iconst (-1), 1) := by decide +kernel
theorem dX1_neighbourBits_25 : decode cX1_neighbourBits 25 = .ok (.ixor, 1) := by decide +kernel
theorem dX1_neighbourBits_26 : decode cX1_neighbourBits 26 = .ok (.iand, 1) := by decide +kernel
theorem dX1_neighbourBits_27 : decode cX1_neighbourBits 27 = .ok (.ireturn, 1) := by decide +kernel
theorem dX1_farthestFrom_0 : decode cX1_farthestFrom 0 = .ok (.iconst (-1), 1) := by decide +kernel
theorem dX1_farthestFrom_1 : decode cX1_farthestFrom 1 = .ok (.istore_n 2, 1) := by decide +kernel
theorem dX1_farthestFrom_2 : decode cX1_farthestFrom 2 = .ok (.iconst (-1), 1) := by decide +kernel
theorem dX1_farthestFrom_3 : decode cX1_farthestFrom 3 = .ok (.istore_n 3, 1) := by decide +kernel
theorem dX1_farthestFrom_4 : decode cX1_farthestFrom 4 = .ok (.iconst 0, 1) := by decide +kernel
theorem dX1_farthestFrom_5 : decode cX1_farthestFrom 5 = .ok (.istore 4, 2) := by decide +kernel
theorem dX1_farthestFrom_7 : decode cX1_farthestFrom 7 = .ok (.iload 4, 2) := by decide +kernel
theorem dX1_farthestFrom_9 : decode cX1_farthestFrom 9 = .ok (.aload_n 0, 1) := by decide +kernel
theorem dX1_farthestFrom_10 : decode cX1_farthestFrom 10 = .ok (.getfield 22, 3) := by decide +kernel
theorem dX1_farthestFrom_13 : decode cX1_farthestFrom 13 = .ok (.if_icmp .ge 51, 3) := by decide +kernel
theorem dX1_farthestFrom_16 : decode cX1_farthestFrom 16 = .ok (.aload_n 0, 1) := by decide +kernel
theorem dX1_farthestFrom_17 : decode cX1_farthestFrom 17 = .ok (.getfield 15, 3) := by decide +kernel
theorem dX1_farthestFrom_20 : decode cX1_farthestFrom 20 = .ok (.iload_n 1, 1) := by decide +kernel
theorem dX1_farthestFrom_21 : decode cX1_farthestFrom 21 = .ok (.iaload, 1) := by decide +kernel
theorem dX1_farthestFrom_22 : decode cX1_farthestFrom 22 = .ok (.aload_n 0, 1) := by decide +kernel
theorem dX1_farthestFrom_23 : decode cX1_farthestFrom 23 = .ok (.getfield 25, 3) := by decide +kernel
theorem dX1_farthestFrom_26 : decode cX1_farthestFrom 26 = .ok (.iload 4, 2) := by decide +kernel
theorem dX1_farthestFrom_28 : decode cX1_farthestFrom 28 = .ok (.iaload, 1) := by decide +kernel
theorem dX1_farthestFrom_29 : decode cX1_farthestFrom 29 = .ok (.isub, 1) := by decide +kernel
theorem dX1_farthestFrom_30 : decode cX1_farthestFrom 30 = .ok (.invokestatic 79, 3) := by decide +kernel
theorem dX1_farthestFrom_33 : decode cX1_farthestFrom 33 = .ok (.istore 5, 2) := by decide +kernel
theorem dX1_farthestFrom_35 : decode cX1_farthestFrom 35 = .ok (.aload_n 0, 1) := by decide +kernel
theorem dX1_farthestFrom_36 : decode cX1_farthestFrom 36 = .ok (.getfield 34, 3) := by decide +kernel
theorem dX1_farthestFrom_39 : decode cX1_farthestFrom 39 = .ok (.iload 4, 2) := by decide +kernel
theorem dX1_farthestFrom_41 : decode cX1_farthestFrom 41 = .ok (.iaload, 1) := by decide +kernel
theorem dX1_farthestFrom_42 : decode cX1_farthestFrom 42 = .ok (.iload_n 1, 1) := by decide +kernel
theorem dX1_farthestFrom_43 : decode cX1_farthestFrom 43 = .ok (.if_icmp .ne 15, 3) := by decide +kernel
theorem dX1_farthestFrom_46 : decode cX1_farthestFrom 46 = .ok (.iload 5, 2) := by decide +kernel
theorem dX1_farthestFrom_48 : decode cX1_farthestFrom 48 = .ok (.iload_n 3, 1) := by decide +kernel
theorem dX1_farthestFrom_49 : decode cX1_farthestFrom 49 = .ok (.if_icmp .le 9, 3) := by decide +kernel
theorem dX1_farthestFrom_52 : decode cX1_farthestFrom 52 = .ok (.iload 4, 2) := by decide +kernel
theorem dX1_farthestFrom_54 : decode cX1_farthestFrom 54 = .ok (.istore_n 2, 1) := by decide +kernel
theorem dX1_farthestFrom_55 : decode cX1_farthestFrom 55 = .ok (.iload 5, 2) := by decide +kernel
theorem dX1_farthestFrom_57 : decode cX1_farthestFrom 57 = .ok (.istore_n 3, 1) := by decide +kernel
theorem dX1_farthestFrom_58 : decode cX1_farthestFrom 58 = .ok (.iinc 4 1, 3) := by decide +kernel
theorem dX1_farthestFrom_61 : decode cX1_farthestFrom 61 = .ok (.goto (-54), 3) := by decide +kernel
theorem dX1_farthestFrom_64 : decode cX1_farthestFrom 64 = .ok (.iload_n 2, 1) := by decide +kernel
theorem dX1_farthestFrom_65 : decode cX1_farthestFrom 65 = .ok (.ireturn, 1) := by decide +kernel
theorem dX1_fewestCovering_0 : decode cX1_fewestCovering 0 = .ok (.iconst (-1), 1) := by decide +kernel
theorem dX1_fewestCovering_1 : decode cX1_fewestCovering 1 = .ok (.istore_n 2, 1) := by decide +kernel
theorem dX1_fewestCovering_2 : decode cX1_fewestCovering 2 = .ok (.iconst 0, 1) := by decide +kernel
theorem dX1_fewestCovering_3 : decode cX1_fewestCovering 3 = .ok (.istore_n 3, 1) := by decide +kernel
theorem dX1_fewestCovering_4 : decode cX1_fewestCovering 4 = .ok (.iload_n 3, 1) := by decide +kernel
theorem dX1_fewestCovering_5 : decode cX1_fewestCovering 5 = .ok (.iconst 1, 1) := by decide +kernel
theorem dX1_fewestCovering_6 : decode cX1_fewestCovering 6 = .ok (.aload_n 0, 1) := by decide +kernel
theorem dX1_fewestCovering_7 : decode cX1_fewestCovering 7 = .ok (.getfield 9, 3) := by decide +kernel
theorem dX1_fewestCovering_10 : decode cX1_fewestCovering 10 = .ok (.ishl, 1) := by decide +kernel
theorem dX1_fewestCovering_11 : decode cX1_fewestCovering 11 = .ok (.if_icmp .ge 48, 3) := by decide +kernel
theorem dX1_fewestCovering_14 : decode cX1_fewestCovering 14 = .ok (.iload_n 2, 1) := by decide +kernel
theorem dX1_fewestCovering_15 : decode cX1_fewestCovering 15 = .ok (.iconst (-1), 1) := by decide +kernel
theorem dX1_fewestCovering_16 : decode cX1_fewestCovering 16 = .ok (.if_icmp .eq 14, 3) := by decide +kernel
theorem dX1_fewestCovering_19 : decode cX1_fewestCovering 19 = .ok (.iload_n 3, 1) := by decide +kernel
theorem dX1_fewestCovering_20 : decode cX1_fewestCovering 20 = .ok (.invokestatic 167, 3) := by decide +kernel
theorem dX1_fewestCovering_23 : decode cX1_fewestCovering 23 = .ok (.iload_n 2, 1) := by decide +kernel
theorem dX1_fewestCovering_24 : decode cX1_fewestCovering 24 = .ok (.invokestatic 167, 3) := by decide +kernel
theorem dX1_fewestCovering_27 : decode cX1_fewestCovering 27 = .ok (.if_icmp .ge 7, 3) := by decide +kernel
theorem dX1_fewestCovering_30 : decode cX1_fewestCovering 30 = .ok (.iconst 1, 1) := by decide +kernel
theorem dX1_fewestCovering_31 : decode cX1_fewestCovering 31 = .ok (.goto 4, 3) := by decide +kernel
theorem dX1_fewestCovering_34 : decode cX1_fewestCovering 34 = .ok (.iconst 0, 1) := by decide +kernel
theorem dX1_fewestCovering_35 : decode cX1_fewestCovering 35 = .ok (.istore 4, 2) := by decide +kernel
theorem dX1_fewestCovering_37 : decode cX1_fewestCovering 37 = .ok (.iload 4, 2) := by decide +kernel
theorem dX1_fewestCovering_39 : decode cX1_fewestCovering 39 = .ok (.ifCond .eq 14, 3) := by decide +kernel
theorem dX1_fewestCovering_42 : decode cX1_fewestCovering 42 = .ok (.aload_n 0, 1) := by decide +kernel
theorem dX1_fewestCovering_43 : decode cX1_fewestCovering 43 = .ok (.iload_n 3, 1) := by decide +kernel
theorem dX1_fewestCovering_44 : decode cX1_fewestCovering 44 = .ok (.iload_n 1, 1) := by decide +kernel
theorem dX1_fewestCovering_45 : decode cX1_fewestCovering 45 = .ok (.invokevirtual 172, 3) := by decide +kernel
theorem dX1_fewestCovering_48 : decode cX1_fewestCovering 48 = .ok (.ifCond .eq 5, 3) := by decide +kernel
theorem dX1_fewestCovering_51 : decode cX1_fewestCovering 51 = .ok (.iload_n 3, 1) := by decide +kernel
theorem dX1_fewestCovering_52 : decode cX1_fewestCovering 52 = .ok (.istore_n 2, 1) := by decide +kernel
theorem dX1_fewestCovering_53 : decode cX1_fewestCovering 53 = .ok (.iinc 3 1, 3) := by decide +kernel
theorem dX1_fewestCovering_56 : decode cX1_fewestCovering 56 = .ok (.goto (-52), 3) := by decide +kernel
theorem dX1_fewestCovering_59 : decode cX1_fewestCovering 59 = .ok (.iload_n 2, 1) := by decide +kernel
theorem dX1_fewestCovering_60 : decode cX1_fewestCovering 60 = .ok (.ireturn, 1) := by decide +kernel
theorem dX1_coversAll_0 : decode cX1_coversAll 0 = .ok (.iconst 0, 1) := by decide +kernel
theorem dX1_coversAll_1 : decode cX1_coversAll 1 = .ok (.istore_n 3, 1) := by decide +kernel
theorem dX1_coversAll_2 : decode cX1_coversAll 2 = .ok (.iload_n 3, 1) := by decide +kernel
theorem dX1_coversAll_3 : decode cX1_coversAll 3 = .ok (.aload_n 0, 1) := by decide +kernel
theorem dX1_coversAll_4 : decode cX1_coversAll 4 = .ok (.getfield 22, 3) := by decide +kernel
theorem dX1_coversAll_7 : decode cX1_coversAll 7 = .ok (.if_icmp .ge 26, 3) := by decide +kernel
theorem dX1_coversAll_10 : decode cX1_coversAll 10 = .ok (.aload_n 0, 1) := by decide +kernel
theorem dX1_coversAll_11 : decode cX1_coversAll 11 = .ok (.iload_n 1, 1) := by decide +kernel
theorem dX1_coversAll_12 : decode cX1_coversAll 12 = .ok (.iload_n 2, 1) := by decide +kernel
theorem dX1_coversAll_13 : decode cX1_coversAll 13 = .ok (.aload_n 0, 1) := by decide +kernel
theorem dX1_coversAll_14 : decode cX1_coversAll 14 = .ok (.getfield 25, 3) := by decide +kernel
theorem dX1_coversAll_17 : decode cX1_coversAll 17 = .ok (.iload_n 3, 1) := by decide +kernel
theorem dX1_coversAll_18 : decode cX1_coversAll 18 = .ok (.iaload, 1) := by decide +kernel
theorem dX1_coversAll_19 : decode cX1_coversAll 19 = .ok (.invokevirtual 176, 3) := by decide +kernel
theorem dX1_coversAll_22 : decode cX1_coversAll 22 = .ok (.ifCond .ne 5, 3) := by decide +kernel
theorem dX1_coversAll_25 : decode cX1_coversAll 25 = .ok (.iconst 0, 1) := by decide +kernel
theorem dX1_coversAll_26 : decode cX1_coversAll 26 = .ok (.ireturn, 1) := by decide +kernel
theorem dX1_coversAll_27 : decode cX1_coversAll 27 = .ok (.iinc 3 1, 3) := by decide +kernel
theorem dX1_coversAll_30 : decode cX1_coversAll 30 = .ok (.goto (-28), 3) := by decide +kernel
theorem dX1_coversAll_33 : decode cX1_coversAll 33 = .ok (.iconst 1, 1) := by decide +kernel
theorem dX1_coversAll_34 : decode cX1_coversAll 34 = .ok (.ireturn, 1) := by decide +kernel
theorem dX1_covers_0 : decode cX1_covers 0 = .ok (.iconst 0, 1) := by decide +kernel
theorem dX1_covers_1 : decode cX1_covers 1 = .ok (.istore 4, 2) := by decide +kernel
theorem dX1_covers_3 : decode cX1_covers 3 = .ok (.iload 4, 2) := by decide +kernel
theorem dX1_covers_5 : decode cX1_covers 5 = .ok (.aload_n 0, 1) := by decide +kernel
theorem dX1_covers_6 : decode cX1_covers 6 = .ok (.getfield 9, 3) := by decide +kernel
theorem dX1_covers_9 : decode cX1_covers 9 = .ok (.if_icmp .ge 37, 3) := by decide +kernel
theorem dX1_covers_12 : decode cX1_covers 12 = .ok (.iload_n 1, 1) := by decide +kernel
theorem dX1_covers_13 : decode cX1_covers 13 = .ok (.iload 4, 2) := by decide +kernel
theorem dX1_covers_15 : decode cX1_covers 15 = .ok (.ishr, 1) := by decide +kernel
theorem dX1_covers_16 : decode cX1_covers 16 = .ok (.iconst 1, 1) := by decide +kernel
theorem dX1_covers_17 : decode cX1_covers 17 = .ok (.iand, 1) := by decide +kernel
theorem dX1_covers_18 : decode cX1_covers 18 = .ok (.iconst 1, 1) := by decide +kernel
theorem dX1_covers_19 : decode cX1_covers 19 = .ok (.if_icmp .ne 21, 3) := by decide +kernel
theorem dX1_covers_22 : decode cX1_covers 22 = .ok (.aload_n 0, 1) := by decide +kernel
theorem dX1_covers_23 : decode cX1_covers 23 = .ok (.getfield 15, 3) := by decide +kernel
theorem dX1_covers_26 : decode cX1_covers 26 = .ok (.iload 4, 2) := by decide +kernel
theorem dX1_covers_28 : decode cX1_covers 28 = .ok (.iaload, 1) := by decide +kernel
theorem dX1_covers_29 : decode cX1_covers 29 = .ok (.iload_n 3, 1) := by decide +kernel
theorem dX1_covers_30 : decode cX1_covers 30 = .ok (.isub, 1) := by decide +kernel
theorem dX1_covers_31 : decode cX1_covers 31 = .ok (.invokestatic 79, 3) := by decide +kernel
theorem dX1_covers_34 : decode cX1_covers 34 = .ok (.iload_n 2, 1) := by decide +kernel
theorem dX1_covers_35 : decode cX1_covers 35 = .ok (.if_icmp .gt 5, 3) := by decide +kernel
theorem dX1_covers_38 : decode cX1_covers 38 = .ok (.iconst 1, 1) := by decide +kernel
theorem dX1_covers_39 : decode cX1_covers 39 = .ok (.ireturn, 1) := by decide +kernel
theorem dX1_covers_40 : decode cX1_covers 40 = .ok (.iinc 4 1, 3) := by decide +kernel
theorem dX1_covers_43 : decode cX1_covers 43 = .ok (.goto (-40), 3) := by decide +kernel
theorem dX1_covers_46 : decode cX1_covers 46 = .ok (.iconst 0, 1) := by decide +kernel
theorem dX1_covers_47 : decode cX1_covers 47 = .ok (.ireturn, 1) := by decide +kernel
theorem dX1_bestPlace_0 : decode cX1_bestPlace 0 = .ok (.iconst 0, 1) := by decide +kernel
theorem dX1_bestPlace_1 : decode cX1_bestPlace 1 = .ok (.istore_n 2, 1) := by decide +kernel
theorem dX1_bestPlace_2 : decode cX1_bestPlace 2 = .ok (.aload_n 0, 1) := by decide +kernel
theorem dX1_bestPlace_3 : decode cX1_bestPlace 3 = .ok (.iconst 0, 1) := by decide +kernel
theorem dX1_bestPlace_4 : decode cX1_bestPlace 4 = .ok (.iload_n 1, 1) := by decide +kernel
theorem dX1_bestPlace_5 : decode cX1_bestPlace 5 = .ok (.invokevirtual 180, 3) := by decide +kernel
theorem dX1_bestPlace_8 : decode cX1_bestPlace 8 = .ok (.istore_n 3, 1) := by decide +kernel
theorem dX1_bestPlace_9 : decode cX1_bestPlace 9 = .ok (.iconst 1, 1) := by decide +kernel
theorem dX1_bestPlace_10 : decode cX1_bestPlace 10 = .ok (.istore 4, 2) := by decide +kernel
theorem dX1_bestPlace_12 : decode cX1_bestPlace 12 = .ok (.iload 4, 2) := by decide +kernel
theorem dX1_bestPlace_14 : decode cX1_bestPlace 14 = .ok (.bipush 30, 2) := by decide +kernel
theorem dX1_bestPlace_16 : decode cX1_bestPlace 16 = .ok (.if_icmp .gt 30, 3) := by decide +kernel
theorem dX1_bestPlace_19 : decode cX1_bestPlace 19 = .ok (.aload_n 0, 1) := by decide +kernel
theorem dX1_bestPlace_20 : decode cX1_bestPlace 20 = .ok (.iload 4, 2) := by decide +kernel
theorem dX1_bestPlace_22 : decode cX1_bestPlace 22 = .ok (.iload_n 1, 1) := by decide +kernel
theorem dX1_bestPlace_23 : decode cX1_bestPlace 23 = .ok (.invokevirtual 180, 3) := by decide +kernel
theorem dX1_bestPlace_26 : decode cX1_bestPlace 26 = .ok (.istore 5, 2) := by decide +kernel
theorem dX1_bestPlace_28 : decode cX1_bestPlace 28 = .ok (.iload 5, 2) := by decide +kernel
theorem dX1_bestPlace_30 : decode cX1_bestPlace 30 = .ok (.iload_n 3, 1) := by decide +kernel
theorem dX1_bestPlace_31 : decode cX1_bestPlace 31 = .ok (.if_icmp .ge 9, 3) := by decide +kernel
theorem dX1_bestPlace_34 : decode cX1_bestPlace 34 = .ok (.iload 4, 2) := by decide +kernel
theorem dX1_bestPlace_36 : decode cX1_bestPlace 36 = .ok (.istore_n 2, 1) := by decide +kernel
theorem dX1_bestPlace_37 : decode cX1_bestPlace 37 = .ok (.iload 5, 2) := by decide +kernel
theorem dX1_bestPlace_39 : decode cX1_bestPlace 39 = .ok (.istore_n 3, 1) := by decide +kernel
theorem dX1_bestPlace_40 : decode cX1_bestPlace 40 = .ok (.iinc 4 1, 3) := by decide +kernel
theorem dX1_bestPlace_43 : decode cX1_bestPlace 43 = .ok (.goto (-31), 3) := by decide +kernel
theorem dX1_bestPlace_46 : decode cX1_bestPlace 46 = .ok (.iload_n 2, 1) := by decide +kernel
theorem dX1_bestPlace_47 : decode cX1_bestPlace 47 = .ok (.ireturn, 1) := by decide +kernel
theorem dX1_waysWith_0 : decode cX1_waysWith 0 = .ok (.iconst 0, 1) := by decide +kernel
theorem dX1_waysWith_1 : decode cX1_waysWith 1 = .ok (.istore_n 3, 1) := by decide +kernel
theorem dX1_waysWith_2 : decode cX1_waysWith 2 = .ok (.iconst 0, 1) := by decide +kernel
theorem dX1_waysWith_3 : decode cX1_waysWith 3 = .ok (.istore 4, 2) := by decide +kernel
theorem dX1_waysWith_5 : decode cX1_waysWith 5 = .ok (.iload 4, 2) := by decide +kernel
theorem dX1_waysWith_7 : decode cX1_waysWith 7 = .ok (.aload_n 0, 1) := by decide +kernel
theorem dX1_waysWith_8 : decode cX1_waysWith 8 = .ok (.getfield 22, 3) := by decide +kernel
theorem dX1_waysWith_11 : decode cX1_waysWith 11 = .ok (.if_icmp .ge 72, 3) := by decide +kernel
theorem dX1_waysWith_14 : decode cX1_waysWith 14 = .ok (.iload_n 1, 1) := by decide +kernel
theorem dX1_waysWith_15 : decode cX1_waysWith 15 = .ok (.aload_n 0, 1) := by decide +kernel
theorem dX1_waysWith_16 : decode cX1_waysWith 16 = .ok (.getfield 25, 3) := by decide +kernel
theorem dX1_waysWith_19 : decode cX1_waysWith 19 = .ok (.iload 4, 2) := by decide +kernel
theorem dX1_waysWith_21 : decode cX1_waysWith 21 = .ok (.iaload, 1) := by decide +kernel
theorem dX1_waysWith_22 : decode cX1_waysWith 22 = .ok (.isub, 1) := by decide +kernel
theorem dX1_waysWith_23 : decode cX1_waysWith 23 = .ok (.invokestatic 79, 3) := by decide +kernel
theorem dX1_waysWith_26 : decode cX1_waysWith 26 = .ok (.istore 5, 2) := by decide +kernel
theorem dX1_waysWith_28 : decode cX1_waysWith 28 = .ok (.aload_n 0, 1) := by decide +kernel
theorem dX1_waysWith_29 : decode cX1_waysWith 29 = .ok (.getfield 34, 3) := by decide +kernel
theorem dX1_waysWith_32 : decode cX1_waysWith 32 = .ok (.iload 4, 2) := by decide +kernel
theorem dX1_waysWith_34 : decode cX1_waysWith 34 = .ok (.iaload, 1) := by decide +kernel
theorem dX1_waysWith_35 : decode cX1_waysWith 35 = .ok (.istore 6, 2) := by decide +kernel
theorem dX1_waysWith_37 : decode cX1_waysWith 37 = .ok (.iload_n 2, 1) := by decide +kernel
theorem dX1_waysWith_38 : decode cX1_waysWith 38 = .ok (.ifCond .eq 34, 3) := by decide +kernel
theorem dX1_waysWith_41 : decode cX1_waysWith 41 = .ok (.iload 6, 2) := by decide +kernel
theorem dX1_waysWith_43 : decode cX1_waysWith 43 = .ok (.iconst (-1), 1) := by decide +kernel
theorem dX1_waysWith_44 : decode cX1_waysWith 44 = .ok (.if_icmp .eq 28, 3) := by decide +kernel
theorem dX1_waysWith_47 : decode cX1_waysWith 47 = .ok (.iload 5, 2) := by decide +kernel
theorem dX1_waysWith_49 : decode cX1_waysWith 49 = .ok (.aload_n 0, 1) := by decide +kernel
theorem dX1_waysWith_50 : decode cX1_waysWith 50 = .ok (.getfield 15, 3) := by decide +kernel
theorem dX1_waysWith_53 : decode cX1_waysWith 53 = .ok (.iload 6, 2) := by decide +kernel
theorem dX1_waysWith_55 : decode cX1_waysWith 55 = .ok (.iaload, 1) := by decide +kernel
theorem dX1_waysWith_56 : decode cX1_waysWith 56 = .ok (.aload_n 0, 1) := by decide +kernel
theorem dX1_waysWith_57 : decode cX1_waysWith 57 = .ok (.getfield 25, 3) := by decide +kernel
theorem dX1_waysWith_60 : decode cX1_waysWith 60 = .ok (.iload 4, 2) := by decide +kernel
theorem dX1_waysWith_62 : decode cX1_waysWith 62 = .ok (.iaload, 1) := by decide +kernel
theorem dX1_waysWith_63 : decode cX1_waysWith 63 = .ok (.isub, 1) := by decide +kernel
theorem dX1_waysWith_64 : decode cX1_waysWith 64 = .ok (.invokestatic 79, 3) := by decide +kernel
theorem dX1_waysWith_67 : decode cX1_waysWith 67 = .ok (.invokestatic 184, 3) := by decide +kernel
theorem dX1_waysWith_70 : decode cX1_waysWith 70 = .ok (.istore 5, 2) := by decide +kernel
theorem dX1_waysWith_72 : decode cX1_waysWith 72 = .ok (.iload_n 3, 1) := by decide +kernel
theorem dX1_waysWith_73 : decode cX1_waysWith 73 = .ok (.iload 5, 2) := by decide +kernel
theorem dX1_waysWith_75 : decode cX1_waysWith 75 = .ok (.iadd, 1) := by decide +kernel
theorem dX1_waysWith_76 : decode cX1_waysWith 76 = .ok (.istore_n 3, 1) := by decide +kernel
theorem dX1_waysWith_77 : decode cX1_waysWith 77 = .ok (.iinc 4 1, 3) := by decide +kernel
theorem dX1_waysWith_80 : decode cX1_waysWith 80 = .ok (.goto (-75), 3) := by decide +kernel
theorem dX1_waysWith_83 : decode cX1_waysWith 83 = .ok (.iload_n 3, 1) := by decide +kernel
theorem dX1_waysWith_84 : decode cX1_waysWith 84 = .ok (.ireturn, 1) := by decide +kernel
theorem dX2_init_0 : decode cX2_init 0 = .ok (.aload_n 0, 1) := by decide +kernel
theorem dX2_init_1 : decode cX2_init 1 = .ok (.invokespecial 3, 3) := by decide +kernel
theorem dX2_init_4 : decode cX2_init 4 = .ok (.aload_n 0, 1) := by decide +kernel
theorem dX2_init_5 : decode cX2_init 5 = .ok (.new 9, 3) := by decide +kernel
theorem dX2_init_8 : decode cX2_init 8 = .ok (.dup, 1) := by decide +kernel
theorem dX2_init_9 : decode cX2_init 9 = .ok (.invokespecial 11, 3) := by decide +kernel
theorem dX2_init_12 : decode cX2_init 12 = .ok (.putfield 12, 3) := by decide +kernel
theorem dX2_init_15 : decode cX2_init 15 = .ok (.aload_n 0, 1) := by decide +kernel
theorem dX2_init_16 : decode cX2_init 16 = .ok (.new 18, 3) := by decide +kernel
theorem dX2_init_19 : decode cX2_init 19 = .ok (.dup, 1) := by decide +kernel
theorem dX2_init_20 : decode cX2_init 20 = .ok (.invokespecial 20, 3) := by decide +kernel
theorem dX2_init_23 : decode cX2_init 23 = .ok (.putfield 21, 3) := by decide +kernel
theorem dX2_init_26 : decode cX2_init 26 = .ok (.return_, 1) := by decide +kernel
theorem dX2_read_0 : decode cX2_read 0 = .ok (.aload_n 3, 1) := by decide +kernel
theorem dX2_read_1 : decode cX2_read 1 = .ok (.invokevirtual 25, 3) := by decide +kernel
theorem dX2_read_4 : decode cX2_read 4 = .ok (.aload_n 0, 1) := by decide +kernel
theorem dX2_read_5 : decode cX2_read 5 = .ok (.getfield 12, 3) := by decide +kernel
theorem dX2_read_8 : decode cX2_read 8 = .ok (.aload_n 1, 1) := by decide +kernel
theorem dX2_read_9 : decode cX2_read 9 = .ok (.iload_n 2, 1) := by decide +kernel
theorem dX2_read_10 : decode cX2_read 10 = .ok (.invokevirtual 30, 3) := by decide +kernel
theorem dX2_read_13 : decode cX2_read 13 = .ok (.iconst 0, 1) := by decide +kernel
theorem dX2_read_14 : decode cX2_read 14 = .ok (.istore 4, 2) := by decide +kernel
theorem dX2_read_16 : decode cX2_read 16 = .ok (.iload 4, 2) := by decide +kernel
theorem dX2_read_18 : decode cX2_read 18 = .ok (.iload_n 2, 1) := by decide +kernel
theorem dX2_read_19 : decode cX2_read 19 = .ok (.if_icmp .gt 34, 3) := by decide +kernel
theorem dX2_read_22 : decode cX2_read 22 = .ok (.aload_n 0, 1) := by decide +kernel
theorem dX2_read_23 : decode cX2_read 23 = .ok (.getfield 12, 3) := by decide +kernel
theorem dX2_read_26 : decode cX2_read 26 = .ok (.invokevirtual 34, 3) := by decide +kernel
theorem dX2_read_29 : decode cX2_read 29 = .ok (.ifCond .eq 24, 3) := by decide +kernel
theorem dX2_read_32 : decode cX2_read 32 = .ok (.aload_n 0, 1) := by decide +kernel
theorem dX2_read_33 : decode cX2_read 33 = .ok (.getfield 12, 3) := by decide +kernel
theorem dX2_read_36 : decode cX2_read 36 = .ok (.getfield 38, 3) := by decide +kernel
theorem dX2_read_39 : decode cX2_read 39 = .ok (.ifCond .eq 14, 3) := by decide +kernel
theorem dX2_read_42 : decode cX2_read 42 = .ok (.aload_n 0, 1) := by decide +kernel
theorem dX2_read_43 : decode cX2_read 43 = .ok (.aload_n 3, 1) := by decide +kernel
theorem dX2_read_44 : decode cX2_read 44 = .ok (.invokevirtual 42, 3) := by decide +kernel
theorem dX2_read_47 : decode cX2_read 47 = .ok (.iinc 4 1, 3) := by decide +kernel
theorem dX2_read_50 : decode cX2_read 50 = .ok (.goto (-34), 3) := by decide +kernel
theorem dX2_read_53 : decode cX2_read 53 = .ok (.aload_n 0, 1) := by decide +kernel
theorem dX2_read_54 : decode cX2_read 54 = .ok (.getfield 12, 3) := by decide +kernel
theorem dX2_read_57 : decode cX2_read 57 = .ok (.invokevirtual 34, 3) := by decide +kernel
theorem dX2_read_60 : decode cX2_read 60 = .ok (.ifCond .eq 7, 3) := by decide +kernel
theorem dX2_read_63 : decode cX2_read 63 = .ok (.aload_n 3, 1) := by decide +kernel
theorem dX2_read_64 : decode cX2_read 64 = .ok (.invokevirtual 46, 3) := by decide +kernel
theorem dX2_read_67 : decode cX2_read 67 = .ok (.aload_n 0, 1) := by decide +kernel
theorem dX2_read_68 : decode cX2_read 68 = .ok (.getfield 12, 3) := by decide +kernel
theorem dX2_read_71 : decode cX2_read 71 = .ok (.getfield 49, 3) := by decide +kernel
theorem dX2_read_74 : decode cX2_read 74 = .ok (.ireturn, 1) := by decide +kernel
theorem dX2_placeOfFault_0 : decode cX2_placeOfFault 0 = .ok (.aload_n 0, 1) := by decide +kernel
theorem dX2_placeOfFault_1 : decode cX2_placeOfFault 1 = .ok (.getfield 12, 3) := by decide +kernel
theorem dX2_placeOfFault_4 : decode cX2_placeOfFault 4 = .ok (.invokevirtual 34, 3) := by decide +kernel
theorem dX2_placeOfFault_7 : decode cX2_placeOfFault 7 = .ok (.ifCond .eq 7, 3) := by decide +kernel
theorem dX2_placeOfFault_10 : decode cX2_placeOfFault 10 = .ok (.iconst (-1), 1) := by decide +kernel
theorem dX2_placeOfFault_11 : decode cX2_placeOfFault 11 = .ok (.goto 10, 3) := by decide +kernel
theorem dX2_placeOfFault_14 : decode cX2_placeOfFault 14 = .ok (.aload_n 0, 1) := by decide +kernel
theorem dX2_placeOfFault_15 : decode cX2_placeOfFault 15 = .ok (.getfield 12, 3) := by decide +kernel
theorem dX2_placeOfFault_18 : decode cX2_placeOfFault 18 = .ok (.getfield 52, 3) := by decide +kernel
theorem dX2_placeOfFault_21 : decode cX2_placeOfFault 21 = .ok (.ireturn, 1) := by decide +kernel
theorem dX2_readLine_0 : decode cX2_readLine 0 = .ok (.aload_n 0, 1) := by decide +kernel
theorem dX2_readLine_1 : decode cX2_readLine 1 = .ok (.getfield 12, 3) := by decide +kernel
theorem dX2_readLine_4 : decode cX2_readLine 4 = .ok (.ldc 55, 2) := by decide +kernel
theorem dX2_readLine_6 : decode cX2_readLine 6 = .ok (.invokevirtual 57, 3) := by decide +kernel
theorem dX2_readLine_9 : decode cX2_readLine 9 = .ok (.ifCond .eq 11, 3) := by decide +kernel
theorem dX2_readLine_12 : decode cX2_readLine 12 = .ok (.aload_n 0, 1) := by decide +kernel
theorem dX2_readLine_13 : decode cX2_readLine 13 = .ok (.aload_n 1, 1) := by decide +kernel
theorem dX2_readLine_14 : decode cX2_readLine 14 = .ok (.invokevirtual 61, 3) := by decide +kernel
theorem dX2_readLine_17 : decode cX2_readLine 17 = .ok (.goto 133, 3) := by decide +kernel
theorem dX2_readLine_20 : decode cX2_readLine 20 = .ok (.aload_n 0, 1) := by decide +kernel
theorem dX2_readLine_21 : decode cX2_readLine 21 = .ok (.getfield 12, 3) := by decide +kernel
theorem dX2_readLine_24 : decode cX2_readLine 24 = .ok (.ldc 64, 2) := by decide +kernel
theorem dX2_readLine_26 : decode cX2_readLine 26 = .ok (.invokevirtual 57, 3) := by decide +kernel
theorem dX2_readLine_29 : decode cX2_readLine 29 = .ok (.ifCond .eq 11, 3) := by decide +kernel
theorem dX2_readLine_32 : decode cX2_readLine 32 = .ok (.aload_n 0, 1) := by decide +kernel
theorem dX2_readLine_33 : decode cX2_readLine 33 = .ok (.aload_n 1, 1) := by decide +kernel
theorem dX2_readLine_34 : decode cX2_readLine 34 = .ok (.invokevirtual 66, 3) := by decide +kernel
theorem dX2_readLine_37 : decode cX2_readLine 37 = .ok (.goto 113, 3) := by decide +kernel
theorem dX2_readLine_40 : decode cX2_readLine 40 = .ok (.aload_n 0, 1) := by decide +kernel
theorem dX2_readLine_41 : decode cX2_readLine 41 = .ok (.getfield 12, 3) := by decide +kernel
theorem dX2_readLine_44 : decode cX2_readLine 44 = .ok (.ldc 69, 2) := by decide +kernel
theorem dX2_readLine_46 : decode cX2_readLine 46 = .ok (.invokevirtual 57, 3) := by decide +kernel
theorem dX2_readLine_49 : decode cX2_readLine 49 = .ok (.ifCond .eq 11, 3) := by decide +kernel
theorem dX2_readLine_52 : decode cX2_readLine 52 = .ok (.aload_n 0, 1) := by decide +kernel
theorem dX2_readLine_53 : decode cX2_readLine 53 = .ok (.aload_n 1, 1) := by decide +kernel
theorem dX2_readLine_54 : decode cX2_readLine 54 = .ok (.invokevirtual 71, 3) := by decide +kernel
theorem dX2_readLine_57 : decode cX2_readLine 57 = .ok (.goto 93, 3) := by decide +kernel
theorem dX2_readLine_60 : decode cX2_readLine 60 = .ok (.aload_n 0, 1) := by decide +kernel
theorem dX2_readLine_61 : decode cX2_readLine 61 = .ok (.getfield 12, 3) := by decide +kernel
theorem dX2_readLine_64 : decode cX2_readLine 64 = .ok (.ldc 74, 2) := by decide +kernel
theorem dX2_readLine_66 : decode cX2_readLine 66 = .ok (.invokevirtual 57, 3) := by decide +kernel
theorem dX2_readLine_69 : decode cX2_readLine 69 = .ok (.ifCond .eq 11, 3) := by decide +kernel
theorem dX2_readLine_72 : decode cX2_readLine 72 = .ok (.aload_n 0, 1) := by decide +kernel
theorem dX2_readLine_73 : decode cX2_readLine 73 = .ok (.aload_n 1, 1) := by decide +kernel
theorem dX2_readLine_74 : decode cX2_readLine 74 = .ok (.invokevirtual 76, 3) := by decide +kernel
theorem dX2_readLine_77 : decode cX2_readLine 77 = .ok (.goto 73, 3) := by decide +kernel
theorem dX2_readLine_80 : decode cX2_readLine 80 = .ok (.aload_n 0, 1) := by decide +kernel
theorem dX2_readLine_81 : decode cX2_readLine 81 = .ok (.getfield 12, 3) := by decide +kernel
theorem dX2_readLine_84 : decode cX2_readLine 84 = .ok (.ldc 79, 2) := by decide +kernel
theorem dX2_readLine_86 : decode cX2_readLine 86 = .ok (.invokevirtual 57, 3) := by decide +kernel
theorem dX2_readLine_89 : decode cX2_readLine 89 = .ok (.ifCond .eq 22, 3) := by decide +kernel
theorem dX2_readLine_92 : decode cX2_readLine 92 = .ok (.aload_n 0, 1) := by decide +kernel
theorem dX2_readLine_93 : decode cX2_readLine 93 = .ok (.getfield 21, 3) := by decide +kernel
theorem dX2_readLine_96 : decode cX2_readLine 96 = .ok (.aload_n 0, 1) := by decide +kernel
theorem dX2_readLine_97 : decode cX2_readLine 97 = .ok (.getfield 12, 3) := by decide +kernel
theorem dX2_readLine_100 : decode cX2_readLine 100 = .ok (.aload_n 1, 1) := by decide +kernel
theorem dX2_readLine_101 : decode cX2_readLine 101 = .ok (.getfield 81, 3) := by decide +kernel
theorem dX2_readLine_104 : decode cX2_readLine 104 = .ok (.iconst 1, 1) := by decide +kernel
theorem dX2_readLine_105 : decode cX2_readLine 105 = .ok (.invokevirtual 84, 3) := by decide +kernel
theorem dX2_readLine_108 : decode cX2_readLine 108 = .ok (.goto 42, 3) := by decide +kernel
theorem dX2_readLine_111 : decode cX2_readLine 111 = .ok (.aload_n 0, 1) := by decide +kernel
theorem dX2_readLine_112 : decode cX2_readLine 112 = .ok (.getfield 12, 3) := by decide +kernel
theorem dX2_readLine_115 : decode cX2_readLine 115 = .ok (.ldc 88, 2) := by decide +kernel
theorem dX2_readLine_117 : decode cX2_readLine 117 = .ok (.invokevirtual 57, 3) := by decide +kernel
theorem dX2_readLine_120 : decode cX2_readLine 120 = .ok (.ifCond .eq 22, 3) := by decide +kernel
theorem dX2_readLine_123 : decode cX2_readLine 123 = .ok (.aload_n 0, 1) := by decide +kernel
theorem dX2_readLine_124 : decode cX2_readLine 124 = .ok (.getfield 21, 3) := by decide +kernel
theorem dX2_readLine_127 : decode cX2_readLine 127 = .ok (.aload_n 0, 1) := by decide +kernel
theorem dX2_readLine_128 : decode cX2_readLine 128 = .ok (.getfield 12, 3) := by decide +kernel
theorem dX2_readLine_131 : decode cX2_readLine 131 = .ok (.aload_n 1, 1) := by decide +kernel
theorem dX2_readLine_132 : decode cX2_readLine 132 = .ok (.getfield 90, 3) := by decide +kernel
theorem dX2_readLine_135 : decode cX2_readLine 135 = .ok (.iconst 0, 1) := by decide +kernel
theorem dX2_readLine_136 : decode cX2_readLine 136 = .ok (.invokevirtual 84, 3) := by decide +kernel
theorem dX2_readLine_139 : decode cX2_readLine 139 = .ok (.goto 11, 3) := by decide +kernel
theorem dX2_readLine_142 : decode cX2_readLine 142 = .ok (.aload_n 0, 1) := by decide +kernel
theorem dX2_readLine_143 : decode cX2_readLine 143 = .ok (.getfield 12, 3) := by decide +kernel
theorem dX2_readLine_146 : decode cX2_readLine 146 = .ok (.iconst 1, 1) := by decide +kernel
theorem dX2_readLine_147 : decode cX2_readLine 147 = .ok (.invokevirtual 92, 3) := by decide +kernel
theorem dX2_readLine_150 : decode cX2_readLine 150 = .ok (.aload_n 0, 1) := by decide +kernel
theorem dX2_readLine_151 : decode cX2_readLine 151 = .ok (.getfield 12, 3) := by decide +kernel
theorem dX2_readLine_154 : decode cX2_readLine 154 = .ok (.bipush 59, 2) := by decide +kernel
theorem dX2_readLine_156 : decode cX2_readLine 156 = .ok (.invokevirtual 96, 3) := by decide +kernel
theorem dX2_readLine_159 : decode cX2_readLine 159 = .ok (.return_, 1) := by decide +kernel
theorem dX2_readBox_0 : decode cX2_readBox 0 = .ok (.aload_n 1, 1) := by decide +kernel
theorem dX2_readBox_1 : decode cX2_readBox 1 = .ok (.getfield 99, 3) := by decide +kernel
theorem dX2_readBox_4 : decode cX2_readBox 4 = .ok (.bipush 6, 2) := by decide +kernel
theorem dX2_readBox_6 : decode cX2_readBox 6 = .ok (.if_icmp .lt 11, 3) := by decide +kernel
theorem dX2_readBox_9 : decode cX2_readBox 9 = .ok (.aload_n 0, 1) := by decide +kernel
theorem dX2_readBox_10 : decode cX2_readBox 10 = .ok (.getfield 12, 3) := by decide +kernel
theorem dX2_readBox_13 : decode cX2_readBox 13 = .ok (.iconst 2, 1) := by decide +kernel
theorem dX2_readBox_14 : decode cX2_readBox 14 = .ok (.invokevirtual 92, 3) := by decide +kernel
theorem dX2_readBox_17 : decode cX2_readBox 17 = .ok (.aload_n 0, 1) := by decide +kernel
theorem dX2_readBox_18 : decode cX2_readBox 18 = .ok (.getfield 12, 3) := by decide +kernel
theorem dX2_readBox_21 : decode cX2_readBox 21 = .ok (.invokevirtual 102, 3) := by decide +kernel
theorem dX2_readBox_24 : decode cX2_readBox 24 = .ok (.aload_n 0, 1) := by decide +kernel
theorem dX2_readBox_25 : decode cX2_readBox 25 = .ok (.getfield 12, 3) := by decide +kernel
theorem dX2_readBox_28 : decode cX2_readBox 28 = .ok (.bipush 30, 2) := by decide +kernel
theorem dX2_readBox_30 : decode cX2_readBox 30 = .ok (.invokevirtual 105, 3) := by decide +kernel
theorem dX2_readBox_33 : decode cX2_readBox 33 = .ok (.istore_n 2, 1) := by decide +kernel
theorem dX2_readBox_34 : decode cX2_readBox 34 = .ok (.aload_n 0, 1) := by decide +kernel
theorem dX2_readBox_35 : decode cX2_readBox 35 = .ok (.getfield 12, 3) := by decide +kernel
theorem dX2_readBox_38 : decode cX2_readBox 38 = .ok (.bipush 99, 2) := by decide +kernel
theorem dX2_readBox_40 : decode cX2_readBox 40 = .ok (.invokevirtual 105, 3) := by decide +kernel
theorem dX2_readBox_43 : decode cX2_readBox 43 = .ok (.istore_n 3, 1) := by decide +kernel
theorem dX2_readBox_44 : decode cX2_readBox 44 = .ok (.aload_n 0, 1) := by decide +kernel
theorem dX2_readBox_45 : decode cX2_readBox 45 = .ok (.getfield 12, 3) := by decide +kernel
theorem dX2_readBox_48 : decode cX2_readBox 48 = .ok (.invokevirtual 34, 3) := by decide +kernel
theorem dX2_readBox_51 : decode cX2_readBox 51 = .ok (.ifCond .eq 9, 3) := by decide +kernel
theorem dX2_readBox_54 : decode cX2_readBox 54 = .ok (.aload_n 1, 1) := by decide +kernel
theorem dX2_readBox_55 : decode cX2_readBox 55 = .ok (.iload_n 2, 1) := by decide +kernel
theorem dX2_readBox_56 : decode cX2_readBox 56 = .ok (.iload_n 3, 1) := by decide +kernel
theorem dX2_readBox_57 : decode cX2_readBox 57 = .ok (.invokevirtual 109, 3) := by decide +kernel
theorem dX2_readBox_60 : decode cX2_readBox 60 = .ok (.return_, 1) := by decide +kernel
theorem dX2_readPerson_0 : decode cX2_readPerson 0 = .ok (.aload_n 1, 1) := by decide +kernel
theorem dX2_readPerson_1 : decode cX2_readPerson 1 = .ok (.getfield 113, 3) := by decide +kernel
theorem dX2_readPerson_4 : decode cX2_readPerson 4 = .ok (.bipush 8, 2) := by decide +kernel
theorem dX2_readPerson_6 : decode cX2_readPerson 6 = .ok (.if_icmp .lt 11, 3) := by decide +kernel
theorem dX2_readPerson_9 : decode cX2_readPerson 9 = .ok (.aload_n 0, 1) := by decide +kernel
theorem dX2_readPerson_10 : decode cX2_readPerson 10 = .ok (.getfield 12, 3) := by decide +kernel
theorem dX2_readPerson_13 : decode cX2_readPerson 13 = .ok (.iconst 2, 1) := by decide +kernel
theorem dX2_readPerson_14 : decode cX2_readPerson 14 = .ok (.invokevirtual 92, 3) := by decide +kernel
theorem dX2_readPerson_17 : decode cX2_readPerson 17 = .ok (.aload_n 0, 1) := by decide +kernel
theorem dX2_readPerson_18 : decode cX2_readPerson 18 = .ok (.getfield 12, 3) := by decide +kernel
theorem dX2_readPerson_21 : decode cX2_readPerson 21 = .ok (.invokevirtual 102, 3) := by decide +kernel
theorem dX2_readPerson_24 : decode cX2_readPerson 24 = .ok (.aload_n 0, 1) := by decide +kernel
theorem dX2_readPerson_25 : decode cX2_readPerson 25 = .ok (.getfield 12, 3) := by decide +kernel
theorem dX2_readPerson_28 : decode cX2_readPerson 28 = .ok (.bipush 30, 2) := by decide +kernel
theorem dX2_readPerson_30 : decode cX2_readPerson 30 = .ok (.invokevirtual 105, 3) := by decide +kernel
theorem dX2_readPerson_33 : decode cX2_readPerson 33 = .ok (.istore_n 2, 1) := by decide +kernel
theorem dX2_readPerson_34 : decode cX2_readPerson 34 = .ok (.aload_n 0, 1) := by decide +kernel
theorem dX2_readPerson_35 : decode cX2_readPerson 35 = .ok (.getfield 12, 3) := by decide +kernel
theorem dX2_readPerson_38 : decode cX2_readPerson 38 = .ok (.bipush 9, 2) := by decide +kernel
theorem dX2_readPerson_40 : decode cX2_readPerson 40 = .ok (.invokevirtual 105, 3) := by decide +kernel
theorem dX2_readPerson_43 : decode cX2_readPerson 43 = .ok (.istore_n 3, 1) := by decide +kernel
theorem dX2_readPerson_44 : decode cX2_readPerson 44 = .ok (.aload_n 0, 1) := by decide +kernel
theorem dX2_readPerson_45 : decode cX2_readPerson 45 = .ok (.getfield 12, 3) := by decide +kernel
theorem dX2_readPerson_48 : decode cX2_readPerson 48 = .ok (.invokevirtual 34, 3) := by decide +kernel
theorem dX2_readPerson_51 : decode cX2_readPerson 51 = .ok (.ifCond .eq 26, 3) := by decide +kernel
theorem dX2_readPerson_54 : decode cX2_readPerson 54 = .ok (.aload_n 0, 1) := by decide +kernel
theorem dX2_readPerson_55 : decode cX2_readPerson 55 = .ok (.getfield 12, 3) := by decide +kernel
theorem dX2_readPerson_58 : decode cX2_readPerson 58 = .ok (.ldc 116, 2) := by decide +kernel
theorem dX2_readPerson_60 : decode cX2_readPerson 60 = .ok (.invokevirtual 57, 3) := by decide +kernel
theorem dX2_readPerson_63 : decode cX2_readPerson 63 = .ok (.ifCond .eq 14, 3) := by decide +kernel
theorem dX2_readPerson_66 : decode cX2_readPerson 66 = .ok (.aload_n 0, 1) := by decide +kernel
theorem dX2_readPerson_67 : decode cX2_readPerson 67 = .ok (.aload_n 1, 1) := by decide +kernel
theorem dX2_readPerson_68 : decode cX2_readPerson 68 = .ok (.getfield 113, 3) := by decide +kernel
theorem dX2_readPerson_71 : decode cX2_readPerson 71 = .ok (.invokevirtual 118, 3) := by decide +kernel
theorem dX2_readPerson_74 : decode cX2_readPerson 74 = .ok (.goto 4, 3) := by decide +kernel
theorem dX2_readPerson_77 : decode cX2_readPerson 77 = .ok (.iconst (-1), 1) := by decide +kernel
theorem dX2_readPerson_78 : decode cX2_readPerson 78 = .ok (.istore 4, 2) := by decide +kernel
theorem dX2_readPerson_80 : decode cX2_readPerson 80 = .ok (.aload_n 0, 1) := by decide +kernel
theorem dX2_readPerson_81 : decode cX2_readPerson 81 = .ok (.getfield 12, 3) := by decide +kernel
theorem dX2_readPerson_84 : decode cX2_readPerson 84 = .ok (.invokevirtual 34, 3) := by decide +kernel
theorem dX2_readPerson_87 : decode cX2_readPerson 87 = .ok (.ifCond .eq 11, 3) := by decide +kernel
theorem dX2_readPerson_90 : decode cX2_readPerson 90 = .ok (.aload_n 1, 1) := by decide +kernel
theorem dX2_readPerson_91 : decode cX2_readPerson 91 = .ok (.iload_n 2, 1) := by decide +kernel
theorem dX2_readPerson_92 : decode cX2_readPerson 92 = .ok (.iload_n 3, 1) := by decide +kernel
theorem dX2_readPerson_93 : decode cX2_readPerson 93 = .ok (.iload 4, 2) := by decide +kernel
theorem dX2_readPerson_95 : decode cX2_readPerson 95 = .ok (.invokevirtual 121, 3) := by decide +kernel
theorem dX2_readPerson_98 : decode cX2_readPerson 98 = .ok (.return_, 1) := by decide +kernel
theorem dX2_readAt_0 : decode cX2_readAt 0 = .ok (.aload_n 0, 1) := by decide +kernel
theorem dX2_readAt_1 : decode cX2_readAt 1 = .ok (.getfield 12, 3) := by decide +kernel
theorem dX2_readAt_4 : decode cX2_readAt 4 = .ok (.invokevirtual 102, 3) := by decide +kernel
theorem dX2_readAt_7 : decode cX2_readAt 7 = .ok (.aload_n 0, 1) := by decide +kernel
theorem dX2_readAt_8 : decode cX2_readAt 8 = .ok (.getfield 12, 3) := by decide +kernel
theorem dX2_readAt_11 : decode cX2_readAt 11 = .ok (.getfield 38, 3) := by decide +kernel
theorem dX2_readAt_14 : decode cX2_readAt 14 = .ok (.iconst 3, 1) := by decide +kernel
theorem dX2_readAt_15 : decode cX2_readAt 15 = .ok (.if_icmp .ne 22, 3) := by decide +kernel
theorem dX2_readAt_18 : decode cX2_readAt 18 = .ok (.aload_n 0, 1) := by decide +kernel
theorem dX2_readAt_19 : decode cX2_readAt 19 = .ok (.getfield 12, 3) := by decide +kernel
theorem dX2_readAt_22 : decode cX2_readAt 22 = .ok (.getfield 125, 3) := by decide +kernel
theorem dX2_readAt_25 : decode cX2_readAt 25 = .ok (.iload_n 1, 1) := by decide +kernel
theorem dX2_readAt_26 : decode cX2_readAt 26 = .ok (.if_icmp .ne 11, 3) := by decide +kernel
theorem dX2_readAt_29 : decode cX2_readAt 29 = .ok (.aload_n 0, 1) := by decide +kernel
theorem dX2_readAt_30 : decode cX2_readAt 30 = .ok (.getfield 12, 3) := by decide +kernel
theorem dX2_readAt_33 : decode cX2_readAt 33 = .ok (.iconst 4, 1) := by decide +kernel
theorem dX2_readAt_34 : decode cX2_readAt 34 = .ok (.invokevirtual 92, 3) := by decide +kernel
theorem dX2_readAt_37 : decode cX2_readAt 37 = .ok (.aload_n 0, 1) := by decide +kernel
theorem dX2_readAt_38 : decode cX2_readAt 38 = .ok (.getfield 12, 3) := by decide +kernel
theorem dX2_readAt_41 : decode cX2_readAt 41 = .ok (.bipush 7, 2) := by decide +kernel
theorem dX2_readAt_43 : decode cX2_readAt 43 = .ok (.invokevirtual 105, 3) := by decide +kernel
theorem dX2_readAt_46 : decode cX2_readAt 46 = .ok (.ireturn, 1) := by decide +kernel
theorem dX2_readRound_0 : decode cX2_readRound 0 = .ok (.aload_n 1, 1) := by decide +kernel
theorem dX2_readRound_1 : decode cX2_readRound 1 = .ok (.getfield 128, 3) := by decide +kernel
theorem dX2_readRound_4 : decode cX2_readRound 4 = .ok (.ifCond .le 11, 3) := by decide +kernel
theorem dX2_readRound_7 : decode cX2_readRound 7 = .ok (.aload_n 0, 1) := by decide +kernel
theorem dX2_readRound_8 : decode cX2_readRound 8 = .ok (.getfield 12, 3) := by decide +kernel
theorem dX2_readRound_11 : decode cX2_readRound 11 = .ok (.iconst 5, 1) := by decide +kernel
theorem dX2_readRound_12 : decode cX2_readRound 12 = .ok (.invokevirtual 92, 3) := by decide +kernel
theorem dX2_readRound_15 : decode cX2_readRound 15 = .ok (.aload_n 0, 1) := by decide +kernel
theorem dX2_readRound_16 : decode cX2_readRound 16 = .ok (.getfield 12, 3) := by decide +kernel
theorem dX2_readRound_19 : decode cX2_readRound 19 = .ok (.invokevirtual 102, 3) := by decide +kernel
theorem dX2_readRound_22 : decode cX2_readRound 22 = .ok (.iconst 0, 1) := by decide +kernel
theorem dX2_readRound_23 : decode cX2_readRound 23 = .ok (.istore_n 2, 1) := by decide +kernel
theorem dX2_readRound_24 : decode cX2_readRound 24 = .ok (.iload_n 2, 1) := by decide +kernel
theorem dX2_readRound_25 : decode cX2_readRound 25 = .ok (.bipush 8, 2) := by decide +kernel
theorem dX2_readRound_27 : decode cX2_readRound 27 = .ok (.if_icmp .gt 47, 3) := by decide +kernel
theorem dX2_readRound_30 : decode cX2_readRound 30 = .ok (.aload_n 0, 1) := by decide +kernel
theorem dX2_readRound_31 : decode cX2_readRound 31 = .ok (.iload_n 2, 1) := by decide +kernel
theorem dX2_readRound_32 : decode cX2_readRound 32 = .ok (.invokevirtual 131, 3) := by decide +kernel
theorem dX2_readRound_35 : decode cX2_readRound 35 = .ok (.ifCond .eq 39, 3) := by decide +kernel
theorem dX2_readRound_38 : decode cX2_readRound 38 = .ok (.aload_n 0, 1) := by decide +kernel
theorem dX2_readRound_39 : decode cX2_readRound 39 = .ok (.iload_n 2, 1) := by decide +kernel
theorem dX2_readRound_40 : decode cX2_readRound 40 = .ok (.bipush 8, 2) := by decide +kernel
theorem dX2_readRound_42 : decode cX2_readRound 42 = .ok (.sipush 9999, 3) := by decide +kernel
theorem dX2_readRound_45 : decode cX2_readRound 45 = .ok (.aload_n 1, 1) := by decide +kernel
theorem dX2_readRound_46 : decode cX2_readRound 46 = .ok (.getfield 99, 3) := by decide +kernel
theorem dX2_readRound_49 : decode cX2_readRound 49 = .ok (.invokevirtual 135, 3) := by decide +kernel
theorem dX2_readRound_52 : decode cX2_readRound 52 = .ok (.istore_n 3, 1) := by decide +kernel
theorem dX2_readRound_53 : decode cX2_readRound 53 = .ok (.aload_n 0, 1) := by decide +kernel
theorem dX2_readRound_54 : decode cX2_readRound 54 = .ok (.getfield 12, 3) := by decide +kernel
theorem dX2_readRound_57 : decode cX2_readRound 57 = .ok (.invokevirtual 34, 3) := by decide +kernel
theorem dX2_readRound_60 : decode cX2_readRound 60 = .ok (.ifCond .eq 8, 3) := by decide +kernel
theorem dX2_readRound_63 : decode cX2_readRound 63 = .ok (.aload_n 1, 1) := by decide +kernel
theorem dX2_readRound_64 : decode cX2_readRound 64 = .ok (.iload_n 3, 1) := by decide +kernel
theorem dX2_readRound_65 : decode cX2_readRound 65 = .ok (.invokevirtual 139, 3) := by decide +kernel
theorem dX2_readRound_68 : decode cX2_readRound 68 = .ok (.iinc 2 1, 3) := by decide +kernel
theorem dX2_readRound_71 : decode cX2_readRound 71 = .ok (.goto (-47), 3) := by decide +kernel
theorem dX2_readRound_74 : decode cX2_readRound 74 = .ok (.return_, 1) := by decide +kernel
theorem dX2_readWet_0 : decode cX2_readWet 0 = .ok (.aload_n 1, 1) := by decide +kernel
theorem dX2_readWet_1 : decode cX2_readWet 1 = .ok (.getfield 142, 3) := by decide +kernel
theorem dX2_readWet_4 : decode cX2_readWet 4 = .ok (.ifCond .le 11, 3) := by decide +kernel
theorem dX2_readWet_7 : decode cX2_readWet 7 = .ok (.aload_n 0, 1) := by decide +kernel
theorem dX2_readWet_8 : decode cX2_readWet 8 = .ok (.getfield 12, 3) := by decide +kernel
theorem dX2_readWet_11 : decode cX2_readWet 11 = .ok (.iconst 5, 1) := by decide +kernel
theorem dX2_readWet_12 : decode cX2_readWet 12 = .ok (.invokevirtual 92, 3) := by decide +kernel
theorem dX2_readWet_15 : decode cX2_readWet 15 = .ok (.aload_n 0, 1) := by decide +kernel
theorem dX2_readWet_16 : decode cX2_readWet 16 = .ok (.getfield 12, 3) := by decide +kernel
theorem dX2_readWet_19 : decode cX2_readWet 19 = .ok (.invokevirtual 102, 3) := by decide +kernel
theorem dX2_readWet_22 : decode cX2_readWet 22 = .ok (.iconst 0, 1) := by decide +kernel
theorem dX2_readWet_23 : decode cX2_readWet 23 = .ok (.istore_n 2, 1) := by decide +kernel
theorem dX2_readWet_24 : decode cX2_readWet 24 = .ok (.iload_n 2, 1) := by decide +kernel
theorem dX2_readWet_25 : decode cX2_readWet 25 = .ok (.bipush 8, 2) := by decide +kernel
theorem dX2_readWet_27 : decode cX2_readWet 27 = .ok (.if_icmp .gt 45, 3) := by decide +kernel
theorem dX2_readWet_30 : decode cX2_readWet 30 = .ok (.aload_n 0, 1) := by decide +kernel
theorem dX2_readWet_31 : decode cX2_readWet 31 = .ok (.iload_n 2, 1) := by decide +kernel
theorem dX2_readWet_32 : decode cX2_readWet 32 = .ok (.invokevirtual 131, 3) := by decide +kernel
theorem dX2_readWet_35 : decode cX2_readWet 35 = .ok (.ifCond .eq 37, 3) := by decide +kernel
theorem dX2_readWet_38 : decode cX2_readWet 38 = .ok (.aload_n 0, 1) := by decide +kernel
theorem dX2_readWet_39 : decode cX2_readWet 39 = .ok (.iload_n 2, 1) := by decide +kernel
theorem dX2_readWet_40 : decode cX2_readWet 40 = .ok (.bipush 8, 2) := by decide +kernel
theorem dX2_readWet_42 : decode cX2_readWet 42 = .ok (.bipush 9, 2) := by decide +kernel
theorem dX2_readWet_44 : decode cX2_readWet 44 = .ok (.sipush 9999, 3) := by decide +kernel
theorem dX2_readWet_47 : decode cX2_readWet 47 = .ok (.invokevirtual 135, 3) := by decide +kernel
theorem dX2_readWet_50 : decode cX2_readWet 50 = .ok (.istore_n 3, 1) := by decide +kernel
theorem dX2_readWet_51 : decode cX2_readWet 51 = .ok (.aload_n 0, 1) := by decide +kernel
theorem dX2_readWet_52 : decode cX2_readWet 52 = .ok (.getfield 12, 3) := by decide +kernel
theorem dX2_readWet_55 : decode cX2_readWet 55 = .ok (.invokevirtual 34, 3) := by decide +kernel
theorem dX2_readWet_58 : decode cX2_readWet 58 = .ok (.ifCond .eq 8, 3) := by decide +kernel
theorem dX2_readWet_61 : decode cX2_readWet 61 = .ok (.aload_n 1, 1) := by decide +kernel
theorem dX2_readWet_62 : decode cX2_readWet 62 = .ok (.iload_n 3, 1) := by decide +kernel
theorem dX2_readWet_63 : decode cX2_readWet 63 = .ok (.invokevirtual 145, 3) := by decide +kernel
theorem dX2_readWet_66 : decode cX2_readWet 66 = .ok (.iinc 2 1, 3) := by decide +kernel
theorem dX2_readWet_69 : decode cX2_readWet 69 = .ok (.goto (-45), 3) := by decide +kernel
theorem dX2_readWet_72 : decode cX2_readWet 72 = .ok (.return_, 1) := by decide +kernel
theorem dX2_moreNumbers_0 : decode cX2_moreNumbers 0 = .ok (.aload_n 0, 1) := by decide +kernel
theorem dX2_moreNumbers_1 : decode cX2_moreNumbers 1 = .ok (.getfield 12, 3) := by decide +kernel
theorem dX2_moreNumbers_4 : decode cX2_moreNumbers 4 = .ok (.invokevirtual 34, 3) := by decide +kernel
theorem dX2_moreNumbers_7 : decode cX2_moreNumbers 7 = .ok (.ifCond .eq 22, 3) := by decide +kernel
theorem dX2_moreNumbers_10 : decode cX2_moreNumbers 10 = .ok (.iload_n 1, 1) := by decide +kernel
theorem dX2_moreNumbers_11 : decode cX2_moreNumbers 11 = .ok (.ifCond .eq 14, 3) := by decide +kernel
theorem dX2_moreNumbers_14 : decode cX2_moreNumbers 14 = .ok (.aload_n 0, 1) := by decide +kernel
theorem dX2_moreNumbers_15 : decode cX2_moreNumbers 15 = .ok (.getfield 12, 3) := by decide +kernel
theorem dX2_moreNumbers_18 : decode cX2_moreNumbers 18 = .ok (.getfield 38, 3) := by decide +kernel
theorem dX2_moreNumbers_21 : decode cX2_moreNumbers 21 = .ok (.iconst 3, 1) := by decide +kernel
theorem dX2_moreNumbers_22 : decode cX2_moreNumbers 22 = .ok (.if_icmp .ne 7, 3) := by decide +kernel
theorem dX2_moreNumbers_25 : decode cX2_moreNumbers 25 = .ok (.iconst 1, 1) := by decide +kernel
theorem dX2_moreNumbers_26 : decode cX2_moreNumbers 26 = .ok (.goto 4, 3) := by decide +kernel
theorem dX2_moreNumbers_29 : decode cX2_moreNumbers 29 = .ok (.iconst 0, 1) := by decide +kernel
theorem dX2_moreNumbers_30 : decode cX2_moreNumbers 30 = .ok (.ireturn, 1) := by decide +kernel
theorem dX2_readInRow_0 : decode cX2_readInRow 0 = .ok (.aload_n 0, 1) := by decide +kernel
theorem dX2_readInRow_1 : decode cX2_readInRow 1 = .ok (.getfield 12, 3) := by decide +kernel
theorem dX2_readInRow_4 : decode cX2_readInRow 4 = .ok (.getfield 38, 3) := by decide +kernel
theorem dX2_readInRow_7 : decode cX2_readInRow 7 = .ok (.iconst 3, 1) := by decide +kernel
theorem dX2_readInRow_8 : decode cX2_readInRow 8 = .ok (.if_icmp .ne 19, 3) := by decide +kernel
theorem dX2_readInRow_11 : decode cX2_readInRow 11 = .ok (.iload_n 1, 1) := by decide +kernel
theorem dX2_readInRow_12 : decode cX2_readInRow 12 = .ok (.iload_n 2, 1) := by decide +kernel
theorem dX2_readInRow_13 : decode cX2_readInRow 13 = .ok (.if_icmp .lt 14, 3) := by decide +kernel
theorem dX2_readInRow_16 : decode cX2_readInRow 16 = .ok (.aload_n 0, 1) := by decide +kernel
theorem dX2_readInRow_17 : decode cX2_readInRow 17 = .ok (.getfield 12, 3) := by decide +kernel
theorem dX2_readInRow_20 : decode cX2_readInRow 20 = .ok (.iconst 2, 1) := by decide +kernel
theorem dX2_readInRow_21 : decode cX2_readInRow 21 = .ok (.invokevirtual 92, 3) := by decide +kernel
theorem dX2_readInRow_24 : decode cX2_readInRow 24 = .ok (.goto 45, 3) := by decide +kernel
theorem dX2_readInRow_27 : decode cX2_readInRow 27 = .ok (.aload_n 0, 1) := by decide +kernel
theorem dX2_readInRow_28 : decode cX2_readInRow 28 = .ok (.getfield 12, 3) := by decide +kernel
theorem dX2_readInRow_31 : decode cX2_readInRow 31 = .ok (.getfield 38, 3) := by decide +kernel
theorem dX2_readInRow_34 : decode cX2_readInRow 34 = .ok (.iconst 3, 1) := by decide +kernel
theorem dX2_readInRow_35 : decode cX2_readInRow 35 = .ok (.if_icmp .ne 34, 3) := by decide +kernel
theorem dX2_readInRow_38 : decode cX2_readInRow 38 = .ok (.aload_n 0, 1) := by decide +kernel
theorem dX2_readInRow_39 : decode cX2_readInRow 39 = .ok (.getfield 12, 3) := by decide +kernel
theorem dX2_readInRow_42 : decode cX2_readInRow 42 = .ok (.getfield 125, 3) := by decide +kernel
theorem dX2_readInRow_45 : decode cX2_readInRow 45 = .ok (.iload_n 3, 1) := by decide +kernel
theorem dX2_readInRow_46 : decode cX2_readInRow 46 = .ok (.if_icmp .gt 23, 3) := by decide +kernel
theorem dX2_readInRow_49 : decode cX2_readInRow 49 = .ok (.aload_n 0, 1) := by decide +kernel
theorem dX2_readInRow_50 : decode cX2_readInRow 50 = .ok (.getfield 12, 3) := by decide +kernel
theorem dX2_readInRow_53 : decode cX2_readInRow 53 = .ok (.getfield 125, 3) := by decide +kernel
theorem dX2_readInRow_56 : decode cX2_readInRow 56 = .ok (.iload 4, 2) := by decide +kernel
theorem dX2_readInRow_58 : decode cX2_readInRow 58 = .ok (.if_icmp .lt 11, 3) := by decide +kernel
theorem dX2_readInRow_61 : decode cX2_readInRow 61 = .ok (.aload_n 0, 1) := by decide +kernel
theorem dX2_readInRow_62 : decode cX2_readInRow 62 = .ok (.getfield 12, 3) := by decide +kernel
theorem dX2_readInRow_65 : decode cX2_readInRow 65 = .ok (.iconst 3, 1) := by decide +kernel
theorem dX2_readInRow_66 : decode cX2_readInRow 66 = .ok (.invokevirtual 92, 3) := by decide +kernel
theorem dX2_readInRow_69 : decode cX2_readInRow 69 = .ok (.aload_n 0, 1) := by decide +kernel
theorem dX2_readInRow_70 : decode cX2_readInRow 70 = .ok (.getfield 12, 3) := by decide +kernel
theorem dX2_readInRow_73 : decode cX2_readInRow 73 = .ok (.iload_n 3, 1) := by decide +kernel
theorem dX2_readInRow_74 : decode cX2_readInRow 74 = .ok (.invokevirtual 105, 3) := by decide +kernel
theorem dX2_readInRow_77 : decode cX2_readInRow 77 = .ok (.ireturn, 1) := by decide +kernel
theorem dX3_init_0 : decode cX3_init 0 = .ok (.aload_n 0, 1) := by decide +kernel
theorem dX3_init_1 : decode cX3_init 1 = .ok (.invokespecial 3, 3) := by decide +kernel
theorem dX3_init_4 : decode cX3_init 4 = .ok (.aload_n 0, 1) := by decide +kernel
theorem dX3_init_5 : decode cX3_init 5 = .ok (.bipush 8, 2) := by decide +kernel
theorem dX3_init_7 : decode cX3_init 7 = .ok (.newarray .int, 2) := by decide +kernel
theorem dX3_init_9 : decode cX3_init 9 = .ok (.putfield 9, 3) := by decide +kernel
theorem dX3_init_12 : decode cX3_init 12 = .ok (.aload_n 0, 1) := by decide +kernel
theorem dX3_init_13 : decode cX3_init 13 = .ok (.bipush 8, 2) := by decide +kernel
theorem dX3_init_15 : decode cX3_init 15 = .ok (.newarray .int, 2) := by decide +kernel
theorem dX3_init_17 : decode cX3_init 17 = .ok (.putfield 15, 3) := by decide +kernel
theorem dX3_init_20 : decode cX3_init 20 = .ok (.aload_n 0, 1) := by decide +kernel
theorem dX3_init_21 : decode cX3_init 21 = .ok (.bipush 8, 2) := by decide +kernel
theorem dX3_init_23 : decode cX3_init 23 = .ok (.newarray .int, 2) := by decide +kernel
theorem dX3_init_25 : decode cX3_init 25 = .ok (.putfield 18, 3) := by decide +kernel
theorem dX3_init_28 : decode cX3_init 28 = .ok (.aload_n 0, 1) := by decide +kernel
theorem dX3_init_29 : decode cX3_init 29 = .ok (.iconst 0, 1) := by decide +kernel
theorem dX3_init_30 : decode cX3_init 30 = .ok (.putfield 21, 3) := by decide +kernel
theorem dX3_init_33 : decode cX3_init 33 = .ok (.return_, 1) := by decide +kernel
theorem dX3_clearAll_0 : decode cX3_clearAll 0 = .ok (.aload_n 0, 1) := by decide +kernel
theorem dX3_clearAll_1 : decode cX3_clearAll 1 = .ok (.iconst 0, 1) := by decide +kernel
theorem dX3_clearAll_2 : decode cX3_clearAll 2 = .ok (.putfield 21, 3) := by decide +kernel
theorem dX3_clearAll_5 : decode cX3_clearAll 5 = .ok (.return_, 1) := by decide +kernel
theorem dX3_put_0 : decode cX3_put 0 = .ok (.aload_n 0, 1) := by decide +kernel
theorem dX3_put_1 : decode cX3_put 1 = .ok (.getfield 21, 3) := by decide +kernel
theorem dX3_put_4 : decode cX3_put 4 = .ok (.bipush 8, 2) := by decide +kernel
theorem dX3_put_6 : decode cX3_put 6 = .ok (.if_icmp .ge 43, 3) := by decide +kernel
theorem dX3_put_9 : decode cX3_put 9 = .ok (.aload_n 0, 1) := by decide +kernel
theorem dX3_put_10 : decode cX3_put 10 = .ok (.getfield 9, 3) := by decide +kernel
theorem dX3_put_13 : decode cX3_put 13 = .ok (.aload_n 0, 1) := by decide +kernel
theorem dX3_put_14 : decode cX3_put 14 = .ok (.getfield 21, 3) := by decide +kernel
theorem dX3_put_17 : decode cX3_put 17 = .ok (.iload_n 1, 1) := by decide +kernel
theorem dX3_put_18 : decode cX3_put 18 = .ok (.iastore, 1) := by decide +kernel
theorem dX3_put_19 : decode cX3_put 19 = .ok (.aload_n 0, 1) := by decide +kernel
theorem dX3_put_20 : decode cX3_put 20 = .ok (.getfield 15, 3) := by decide +kernel
theorem dX3_put_23 : decode cX3_put 23 = .ok (.aload_n 0, 1) := by decide +kernel
theorem dX3_put_24 : decode cX3_put 24 = .ok (.getfield 21, 3) := by decide +kernel
theorem dX3_put_27 : decode cX3_put 27 = .ok (.iload_n 2, 1) := by decide +kernel
theorem dX3_put_28 : decode cX3_put 28 = .ok (.iastore, 1) := by decide +kernel
theorem dX3_put_29 : decode cX3_put 29 = .ok (.aload_n 0, 1) := by decide +kernel
theorem dX3_put_30 : decode cX3_put 30 = .ok (.getfield 18, 3) := by decide +kernel
theorem dX3_put_33 : decode cX3_put 33 = .ok (.aload_n 0, 1) := by decide +kernel
theorem dX3_put_34 : decode cX3_put 34 = .ok (.getfield 21, 3) := by decide +kernel
theorem dX3_put_37 : decode cX3_put 37 = .ok (.iload_n 3, 1) := by decide +kernel
theorem dX3_put_38 : decode cX3_put 38 = .ok (.iastore, 1) := by decide +kernel
theorem dX3_put_39 : decode cX3_put 39 = .ok (.aload_n 0, 1) := by decide +kernel
theorem dX3_put_40 : decode cX3_put 40 = .ok (.dup, 1) := by decide +kernel
theorem dX3_put_41 : decode cX3_put 41 = .ok (.getfield 21, 3) := by decide +kernel
theorem dX3_put_44 : decode cX3_put 44 = .ok (.iconst 1, 1) := by decide +kernel
theorem dX3_put_45 : decode cX3_put 45 = .ok (.iadd, 1) := by decide +kernel
theorem dX3_put_46 : decode cX3_put 46 = .ok (.putfield 21, 3) := by decide +kernel
theorem dX3_put_49 : decode cX3_put 49 = .ok (.return_, 1) := by decide +kernel
theorem dX3_copyFrom_0 : decode cX3_copyFrom 0 = .ok (.aload_n 1, 1) := by decide +kernel
theorem dX3_copyFrom_1 : decode cX3_copyFrom 1 = .ok (.getfield 9, 3) := by decide +kernel
theorem dX3_copyFrom_4 : decode cX3_copyFrom 4 = .ok (.iconst 0, 1) := by decide +kernel
theorem dX3_copyFrom_5 : decode cX3_copyFrom 5 = .ok (.aload_n 0, 1) := by decide +kernel
theorem dX3_copyFrom_6 : decode cX3_copyFrom 6 = .ok (.getfield 9, 3) := by decide +kernel
theorem dX3_copyFrom_9 : decode cX3_copyFrom 9 = .ok (.iconst 0, 1) := by decide +kernel
theorem dX3_copyFrom_10 : decode cX3_copyFrom 10 = .ok (.bipush 8, 2) := by decide +kernel
theorem dX3_copyFrom_12 : decode cX3_copyFrom 12 = .ok (.invokestatic 25, 3) := by decide +kernel
theorem dX3_copyFrom_15 : decode cX3_copyFrom 15 = .ok (.aload_n 1, 1) := by decide +kernel
theorem dX3_copyFrom_16 : decode cX3_copyFrom 16 = .ok (.getfield 15, 3) := by decide +kernel
theorem dX3_copyFrom_19 : decode cX3_copyFrom 19 = .ok (.iconst 0, 1) := by decide +kernel
theorem dX3_copyFrom_20 : decode cX3_copyFrom 20 = .ok (.aload_n 0, 1) := by decide +kernel
theorem dX3_copyFrom_21 : decode cX3_copyFrom 21 = .ok (.getfield 15, 3) := by decide +kernel
theorem dX3_copyFrom_24 : decode cX3_copyFrom 24 = .ok (.iconst 0, 1) := by decide +kernel
theorem dX3_copyFrom_25 : decode cX3_copyFrom 25 = .ok (.bipush 8, 2) := by decide +kernel
theorem dX3_copyFrom_27 : decode cX3_copyFrom 27 = .ok (.invokestatic 25, 3) := by decide +kernel
theorem dX3_copyFrom_30 : decode cX3_copyFrom 30 = .ok (.aload_n 1, 1) := by decide +kernel
theorem dX3_copyFrom_31 : decode cX3_copyFrom 31 = .ok (.getfield 18, 3) := by decide +kernel
theorem dX3_copyFrom_34 : decode cX3_copyFrom 34 = .ok (.iconst 0, 1) := by decide +kernel
theorem dX3_copyFrom_35 : decode cX3_copyFrom 35 = .ok (.aload_n 0, 1) := by decide +kernel
theorem dX3_copyFrom_36 : decode cX3_copyFrom 36 = .ok (.getfield 18, 3) := by decide +kernel
theorem dX3_copyFrom_39 : decode cX3_copyFrom 39 = .ok (.iconst 0, 1) := by decide +kernel
theorem dX3_copyFrom_40 : decode cX3_copyFrom 40 = .ok (.bipush 8, 2) := by decide +kernel
theorem dX3_copyFrom_42 : decode cX3_copyFrom 42 = .ok (.invokestatic 25, 3) := by decide +kernel
theorem dX3_copyFrom_45 : decode cX3_copyFrom 45 = .ok (.aload_n 0, 1) := by decide +kernel
theorem dX3_copyFrom_46 : decode cX3_copyFrom 46 = .ok (.aload_n 1, 1) := by decide +kernel
theorem dX3_copyFrom_47 : decode cX3_copyFrom 47 = .ok (.getfield 21, 3) := by decide +kernel
theorem dX3_copyFrom_50 : decode cX3_copyFrom 50 = .ok (.putfield 21, 3) := by decide +kernel
theorem dX3_copyFrom_53 : decode cX3_copyFrom 53 = .ok (.return_, 1) := by decide +kernel
theorem dX3_lastDay_0 : decode cX3_lastDay 0 = .ok (.iconst 0, 1) := by decide +kernel
theorem dX3_lastDay_1 : decode cX3_lastDay 1 = .ok (.istore_n 1, 1) := by decide +kernel
theorem dX3_lastDay_2 : decode cX3_lastDay 2 = .ok (.iconst 0, 1) := by decide +kernel
theorem dX3_lastDay_3 : decode cX3_lastDay 3 = .ok (.istore_n 2, 1) := by decide +kernel
theorem dX3_lastDay_4 : decode cX3_lastDay 4 = .ok (.iload_n 2, 1) := by decide +kernel
theorem dX3_lastDay_5 : decode cX3_lastDay 5 = .ok (.aload_n 0, 1) := by decide +kernel
theorem dX3_lastDay_6 : decode cX3_lastDay 6 = .ok (.getfield 21, 3) := by decide +kernel
theorem dX3_lastDay_9 : decode cX3_lastDay 9 = .ok (.if_icmp .ge 20, 3) := by decide +kernel
theorem dX3_lastDay_12 : decode cX3_lastDay 12 = .ok (.iload_n 1, 1) := by decide +kernel
theorem dX3_lastDay_13 : decode cX3_lastDay 13 = .ok (.aload_n 0, 1) := by decide +kernel
theorem dX3_lastDay_14 : decode cX3_lastDay 14 = .ok (.getfield 15, 3) := by decide +kernel
theorem dX3_lastDay_17 : decode cX3_lastDay 17 = .ok (.iload_n 2, 1) := by decide +kernel
theorem dX3_lastDay_18 : decode cX3_lastDay 18 = .ok (.iaload, 1) := by decide +kernel
theorem dX3_lastDay_19 : decode cX3_lastDay 19 = .ok (.invokestatic 31, 3) := by decide +kernel
theorem dX3_lastDay_22 : decode cX3_lastDay 22 = .ok (.istore_n 1, 1) := by decide +kernel
theorem dX3_lastDay_23 : decode cX3_lastDay 23 = .ok (.iinc 2 1, 3) := by decide +kernel
theorem dX3_lastDay_26 : decode cX3_lastDay 26 = .ok (.goto (-22), 3) := by decide +kernel
theorem dX3_lastDay_29 : decode cX3_lastDay 29 = .ok (.iload_n 1, 1) := by decide +kernel
theorem dX3_lastDay_30 : decode cX3_lastDay 30 = .ok (.ireturn, 1) := by decide +kernel
theorem dX3_agree_0 : decode cX3_agree 0 = .ok (.iconst 0, 1) := by decide +kernel
theorem dX3_agree_1 : decode cX3_agree 1 = .ok (.istore_n 3, 1) := by decide +kernel
theorem dX3_agree_2 : decode cX3_agree 2 = .ok (.iload_n 3, 1) := by decide +kernel
theorem dX3_agree_3 : decode cX3_agree 3 = .ok (.aload_n 0, 1) := by decide +kernel
theorem dX3_agree_4 : decode cX3_agree 4 = .ok (.getfield 21, 3) := by decide +kernel
theorem dX3_agree_7 : decode cX3_agree 7 = .ok (.if_icmp .ge 40, 3) := by decide +kernel
theorem dX3_agree_10 : decode cX3_agree 10 = .ok (.aload_n 0, 1) := by decide +kernel
theorem dX3_agree_11 : decode cX3_agree 11 = .ok (.getfield 15, 3) := by decide +kernel
theorem dX3_agree_14 : decode cX3_agree 14 = .ok (.iload_n 3, 1) := by decide +kernel
theorem dX3_agree_15 : decode cX3_agree 15 = .ok (.iaload, 1) := by decide +kernel
theorem dX3_agree_16 : decode cX3_agree 16 = .ok (.iload_n 1, 1) := by decide +kernel
theorem dX3_agree_17 : decode cX3_agree 17 = .ok (.if_icmp .ne 24, 3) := by decide +kernel
theorem dX3_agree_20 : decode cX3_agree 20 = .ok (.aload_n 2, 1) := by decide +kernel
theorem dX3_agree_21 : decode cX3_agree 21 = .ok (.aload_n 0, 1) := by decide +kernel
theorem dX3_agree_22 : decode cX3_agree 22 = .ok (.getfield 9, 3) := by decide +kernel
theorem dX3_agree_25 : decode cX3_agree 25 = .ok (.iload_n 3, 1) := by decide +kernel
theorem dX3_agree_26 : decode cX3_agree 26 = .ok (.iaload, 1) := by decide +kernel
theorem dX3_agree_27 : decode cX3_agree 27 = .ok (.invokevirtual 37, 3) := by decide +kernel
theorem dX3_agree_30 : decode cX3_agree 30 = .ok (.aload_n 0, 1) := by decide +kernel
theorem dX3_agree_31 : decode cX3_agree 31 = .ok (.getfield 18, 3) := by decide +kernel
theorem dX3_agree_34 : decode cX3_agree 34 = .ok (.iload_n 3, 1) := by decide +kernel
theorem dX3_agree_35 : decode cX3_agree 35 = .ok (.iaload, 1) := by decide +kernel
theorem dX3_agree_36 : decode cX3_agree 36 = .ok (.if_icmp .eq 5, 3) := by decide +kernel
theorem dX3_agree_39 : decode cX3_agree 39 = .ok (.iconst 0, 1) := by decide +kernel
theorem dX3_agree_40 : decode cX3_agree 40 = .ok (.ireturn, 1) := by decide +kernel
theorem dX3_agree_41 : decode cX3_agree 41 = .ok (.iinc 3 1, 3) := by decide +kernel
theorem dX3_agree_44 : decode cX3_agree 44 = .ok (.goto (-42), 3) := by decide +kernel
theorem dX3_agree_47 : decode cX3_agree 47 = .ok (.iconst 1, 1) := by decide +kernel
theorem dX3_agree_48 : decode cX3_agree 48 = .ok (.ireturn, 1) := by decide +kernel
theorem dX4_init_0 : decode cX4_init 0 = .ok (.aload_n 0, 1) := by decide +kernel
theorem dX4_init_1 : decode cX4_init 1 = .ok (.invokespecial 3, 3) := by decide +kernel
theorem dX4_init_4 : decode cX4_init 4 = .ok (.aload_n 0, 1) := by decide +kernel
theorem dX4_init_5 : decode cX4_init 5 = .ok (.bipush 7, 2) := by decide +kernel
theorem dX4_init_7 : decode cX4_init 7 = .ok (.anewarray 9, 3) := by decide +kernel
theorem dX4_init_10 : decode cX4_init 10 = .ok (.putfield 11, 3) := by decide +kernel
theorem dX4_init_13 : decode cX4_init 13 = .ok (.aload_n 0, 1) := by decide +kernel
theorem dX4_init_14 : decode cX4_init 14 = .ok (.bipush 6, 2) := by decide +kernel
theorem dX4_init_16 : decode cX4_init 16 = .ok (.newarray .int, 2) := by decide +kernel
theorem dX4_init_18 : decode cX4_init 18 = .ok (.putfield 17, 3) := by decide +kernel
theorem dX4_init_21 : decode cX4_init 21 = .ok (.aload_n 0, 1) := by decide +kernel
theorem dX4_init_22 : decode cX4_init 22 = .ok (.bipush 6, 2) := by decide +kernel
theorem dX4_init_24 : decode cX4_init 24 = .ok (.newarray .int, 2) := by decide +kernel
theorem dX4_init_26 : decode cX4_init 26 = .ok (.putfield 21, 3) := by decide +kernel
theorem dX4_init_29 : decode cX4_init 29 = .ok (.aload_n 0, 1) := by decide +kernel
theorem dX4_init_30 : decode cX4_init 30 = .ok (.iconst (-1), 1) := by decide +kernel
theorem dX4_init_31 : decode cX4_init 31 = .ok (.putfield 24, 3) := by decide +kernel
theorem dX4_init_34 : decode cX4_init 34 = .ok (.aload_n 0, 1) := by decide +kernel
theorem dX4_init_35 : decode cX4_init 35 = .ok (.iconst 0, 1) := by decide +kernel
theorem dX4_init_36 : decode cX4_init 36 = .ok (.putfield 28, 3) := by decide +kernel
theorem dX4_init_39 : decode cX4_init 39 = .ok (.iconst 0, 1) := by decide +kernel
theorem dX4_init_40 : decode cX4_init 40 = .ok (.istore_n 1, 1) := by decide +kernel
theorem dX4_init_41 : decode cX4_init 41 = .ok (.iload_n 1, 1) := by decide +kernel
theorem dX4_init_42 : decode cX4_init 42 = .ok (.aload_n 0, 1) := by decide +kernel
theorem dX4_init_43 : decode cX4_init 43 = .ok (.getfield 11, 3) := by decide +kernel
theorem dX4_init_46 : decode cX4_init 46 = .ok (.arraylength, 1) := by decide +kernel
theorem dX4_init_47 : decode cX4_init 47 = .ok (.if_icmp .ge 22, 3) := by decide +kernel
theorem dX4_init_50 : decode cX4_init 50 = .ok (.aload_n 0, 1) := by decide +kernel
theorem dX4_init_51 : decode cX4_init 51 = .ok (.getfield 11, 3) := by decide +kernel
theorem dX4_init_54 : decode cX4_init 54 = .ok (.iload_n 1, 1) := by decide +kernel
theorem dX4_init_55 : decode cX4_init 55 = .ok (.new 9, 3) := by decide +kernel
theorem dX4_init_58 : decode cX4_init 58 = .ok (.dup, 1) := by decide +kernel
theorem dX4_init_59 : decode cX4_init 59 = .ok (.invokespecial 32, 3) := by decide +kernel
theorem dX4_init_62 : decode cX4_init 62 = .ok (.aastore, 1) := by decide +kernel
theorem dX4_init_63 : decode cX4_init 63 = .ok (.iinc 1 1, 3) := by decide +kernel
theorem dX4_init_66 : decode cX4_init 66 = .ok (.goto (-25), 3) := by decide +kernel
theorem dX4_init_69 : decode cX4_init 69 = .ok (.return_, 1) := by decide +kernel
theorem dX4_clearAll_0 : decode cX4_clearAll 0 = .ok (.aload_n 0, 1) := by decide +kernel
theorem dX4_clearAll_1 : decode cX4_clearAll 1 = .ok (.iconst 0, 1) := by decide +kernel
theorem dX4_clearAll_2 : decode cX4_clearAll 2 = .ok (.putfield 28, 3) := by decide +kernel
theorem dX4_clearAll_5 : decode cX4_clearAll 5 = .ok (.return_, 1) := by decide +kernel
theorem dX4_gained_0 : decode cX4_gained 0 = .ok (.aload_n 0, 1) := by decide +kernel
theorem dX4_gained_1 : decode cX4_gained 1 = .ok (.getfield 24, 3) := by decide +kernel
theorem dX4_gained_4 : decode cX4_gained 4 = .ok (.aload_n 0, 1) := by decide +kernel
theorem dX4_gained_5 : decode cX4_gained 5 = .ok (.getfield 11, 3) := by decide +kernel
theorem dX4_gained_8 : decode cX4_gained 8 = .ok (.iconst 0, 1) := by decide +kernel
theorem dX4_gained_9 : decode cX4_gained 9 = .ok (.aaload, 1) := by decide +kernel
theorem dX4_gained_10 : decode cX4_gained 10 = .ok (.invokevirtual 33, 3) := by decide +kernel
theorem dX4_gained_13 : decode cX4_gained 13 = .ok (.isub, 1) := by decide +kernel
theorem dX4_gained_14 : decode cX4_gained 14 = .ok (.ireturn, 1) := by decide +kernel
theorem dX4_boxAt_0 : decode cX4_boxAt 0 = .ok (.aload_n 0, 1) := by decide +kernel
theorem dX4_boxAt_1 : decode cX4_boxAt 1 = .ok (.getfield 21, 3) := by decide +kernel
theorem dX4_boxAt_4 : decode cX4_boxAt 4 = .ok (.iload_n 1, 1) := by decide +kernel
theorem dX4_boxAt_5 : decode cX4_boxAt 5 = .ok (.iaload, 1) := by decide +kernel
theorem dX4_boxAt_6 : decode cX4_boxAt 6 = .ok (.ireturn, 1) := by decide +kernel
theorem dX4_search_0 : decode cX4_search 0 = .ok (.aload_n 0, 1) := by decide +kernel
theorem dX4_search_1 : decode cX4_search 1 = .ok (.getfield 28, 3) := by decide +kernel
theorem dX4_search_4 : decode cX4_search 4 = .ok (.ifCond .eq 17, 3) := by decide +kernel
theorem dX4_search_7 : decode cX4_search 7 = .ok (.aload_n 0, 1) := by decide +kernel
theorem dX4_search_8 : decode cX4_search 8 = .ok (.getfield 11, 3) := by decide +kernel
theorem dX4_search_11 : decode cX4_search 11 = .ok (.iconst 0, 1) := by decide +kernel
theorem dX4_search_12 : decode cX4_search 12 = .ok (.aaload, 1) := by decide +kernel
theorem dX4_search_13 : decode cX4_search 13 = .ok (.aload_n 2, 1) := by decide +kernel
theorem dX4_search_14 : decode cX4_search 14 = .ok (.invokevirtual 37, 3) := by decide +kernel
theorem dX4_search_17 : decode cX4_search 17 = .ok (.ifCond .eq 4, 3) := by decide +kernel
theorem dX4_search_20 : decode cX4_search 20 = .ok (.return_, 1) := by decide +kernel
theorem dX4_search_21 : decode cX4_search 21 = .ok (.aload_n 0, 1) := by decide +kernel
theorem dX4_search_22 : decode cX4_search 22 = .ok (.getfield 11, 3) := by decide +kernel
theorem dX4_search_25 : decode cX4_search 25 = .ok (.iconst 0, 1) := by decide +kernel
theorem dX4_search_26 : decode cX4_search 26 = .ok (.aaload, 1) := by decide +kernel
theorem dX4_search_27 : decode cX4_search 27 = .ok (.aload_n 2, 1) := by decide +kernel
theorem dX4_search_28 : decode cX4_search 28 = .ok (.invokevirtual 41, 3) := by decide +kernel
theorem dX4_search_31 : decode cX4_search 31 = .ok (.aload_n 0, 1) := by decide +kernel
theorem dX4_search_32 : decode cX4_search 32 = .ok (.iconst (-1), 1) := by decide +kernel
theorem dX4_search_33 : decode cX4_search 33 = .ok (.putfield 24, 3) := by decide +kernel
theorem dX4_search_36 : decode cX4_search 36 = .ok (.aload_n 0, 1) := by decide +kernel
theorem dX4_search_37 : decode cX4_search 37 = .ok (.iconst 1, 1) := by decide +kernel
theorem dX4_search_38 : decode cX4_search 38 = .ok (.putfield 28, 3) := by decide +kernel
theorem dX4_search_41 : decode cX4_search 41 = .ok (.aload_n 0, 1) := by decide +kernel
theorem dX4_search_42 : decode cX4_search 42 = .ok (.aload_n 1, 1) := by decide +kernel
theorem dX4_search_43 : decode cX4_search 43 = .ok (.iconst 0, 1) := by decide +kernel
theorem dX4_search_44 : decode cX4_search 44 = .ok (.iconst 0, 1) := by decide +kernel
theorem dX4_search_45 : decode cX4_search 45 = .ok (.invokevirtual 45, 3) := by decide +kernel
theorem dX4_search_48 : decode cX4_search 48 = .ok (.return_, 1) := by decide +kernel
theorem dX4_tryRows_0 : decode cX4_tryRows 0 = .ok (.iload_n 2, 1) := by decide +kernel
theorem dX4_tryRows_1 : decode cX4_tryRows 1 = .ok (.aload_n 1, 1) := by decide +kernel
theorem dX4_tryRows_2 : decode cX4_tryRows 2 = .ok (.getfield 49, 3) := by decide +kernel
theorem dX4_tryRows_5 : decode cX4_tryRows 5 = .ok (.if_icmp .ge 9, 3) := by decide +kernel
theorem dX4_tryRows_8 : decode cX4_tryRows 8 = .ok (.iload_n 2, 1) := by decide +kernel
theorem dX4_tryRows_9 : decode cX4_tryRows 9 = .ok (.bipush 6, 2) := by decide +kernel
theorem dX4_tryRows_11 : decode cX4_tryRows 11 = .ok (.if_icmp .lt 17, 3) := by decide +kernel
theorem dX4_tryRows_14 : decode cX4_tryRows 14 = .ok (.aload_n 0, 1) := by decide +kernel
theorem dX4_tryRows_15 : decode cX4_tryRows 15 = .ok (.aload_n 0, 1) := by decide +kernel
theorem dX4_tryRows_16 : decode cX4_tryRows 16 = .ok (.getfield 11, 3) := by decide +kernel
theorem dX4_tryRows_19 : decode cX4_tryRows 19 = .ok (.iload_n 2, 1) := by decide +kernel
theorem dX4_tryRows_20 : decode cX4_tryRows 20 = .ok (.aaload, 1) := by decide +kernel
theorem dX4_tryRows_21 : decode cX4_tryRows 21 = .ok (.invokevirtual 33, 3) := by decide +kernel
theorem dX4_tryRows_24 : decode cX4_tryRows 24 = .ok (.invokevirtual 54, 3) := by decide +kernel
theorem dX4_tryRows_27 : decode cX4_tryRows 27 = .ok (.return_, 1) := by decide +kernel
theorem dX4_tryRows_28 : decode cX4_tryRows 28 = .ok (.aload_n 0, 1) := by decide +kernel
theorem dX4_tryRows_29 : decode cX4_tryRows 29 = .ok (.getfield 11, 3) := by decide +kernel
theorem dX4_tryRows_32 : decode cX4_tryRows 32 = .ok (.iload_n 2, 1) := by decide +kernel
theorem dX4_tryRows_33 : decode cX4_tryRows 33 = .ok (.iconst 1, 1) := by decide +kernel
theorem dX4_tryRows_34 : decode cX4_tryRows 34 = .ok (.iadd, 1) := by decide +kernel
theorem dX4_tryRows_35 : decode cX4_tryRows 35 = .ok (.aaload, 1) := by decide +kernel
theorem dX4_tryRows_36 : decode cX4_tryRows 36 = .ok (.astore 4, 2) := by decide +kernel
theorem dX4_tryRows_38 : decode cX4_tryRows 38 = .ok (.iconst 0, 1) := by decide +kernel
theorem dX4_tryRows_39 : decode cX4_tryRows 39 = .ok (.istore 5, 2) := by decide +kernel
theorem dX4_tryRows_41 : decode cX4_tryRows 41 = .ok (.iload 5, 2) := by decide +kernel
theorem dX4_tryRows_43 : decode cX4_tryRows 43 = .ok (.aload_n 1, 1) := by decide +kernel
theorem dX4_tryRows_44 : decode cX4_tryRows 44 = .ok (.getfield 49, 3) := by decide +kernel
theorem dX4_tryRows_47 : decode cX4_tryRows 47 = .ok (.if_icmp .ge 69, 3) := by decide +kernel
theorem dX4_tryRows_50 : decode cX4_tryRows 50 = .ok (.iload_n 3, 1) := by decide +kernel
theorem dX4_tryRows_51 : decode cX4_tryRows 51 = .ok (.iload 5, 2) := by decide +kernel
theorem dX4_tryRows_53 : decode cX4_tryRows 53 = .ok (.ishr, 1) := by decide +kernel
theorem dX4_tryRows_54 : decode cX4_tryRows 54 = .ok (.iconst 1, 1) := by decide +kernel
theorem dX4_tryRows_55 : decode cX4_tryRows 55 = .ok (.iand, 1) := by decide +kernel
theorem dX4_tryRows_56 : decode cX4_tryRows 56 = .ok (.ifCond .ne 54, 3) := by decide +kernel
theorem dX4_tryRows_59 : decode cX4_tryRows 59 = .ok (.aload_n 0, 1) := by decide +kernel
theorem dX4_tryRows_60 : decode cX4_tryRows 60 = .ok (.getfield 17, 3) := by decide +kernel
theorem dX4_tryRows_63 : decode cX4_tryRows 63 = .ok (.iload_n 2, 1) := by decide +kernel
theorem dX4_tryRows_64 : decode cX4_tryRows 64 = .ok (.iload 5, 2) := by decide +kernel
theorem dX4_tryRows_66 : decode cX4_tryRows 66 = .ok (.iastore, 1) := by decide +kernel
theorem dX4_tryRows_67 : decode cX4_tryRows 67 = .ok (.aload 4, 2) := by decide +kernel
theorem dX4_tryRows_69 : decode cX4_tryRows 69 = .ok (.aload_n 0, 1) := by decide +kernel
theorem dX4_tryRows_70 : decode cX4_tryRows 70 = .ok (.getfield 11, 3) := by decide +kernel
theorem dX4_tryRows_73 : decode cX4_tryRows 73 = .ok (.iload_n 2, 1) := by decide +kernel
theorem dX4_tryRows_74 : decode cX4_tryRows 74 = .ok (.aaload, 1) := by decide +kernel
theorem dX4_tryRows_75 : decode cX4_tryRows 75 = .ok (.invokevirtual 41, 3) := by decide +kernel
theorem dX4_tryRows_78 : decode cX4_tryRows 78 = .ok (.aload_n 1, 1) := by decide +kernel
theorem dX4_tryRows_79 : decode cX4_tryRows 79 = .ok (.aload 4, 2) := by decide +kernel
theorem dX4_tryRows_81 : decode cX4_tryRows 81 = .ok (.aload_n 1, 1) := by decide +kernel
theorem dX4_tryRows_82 : decode cX4_tryRows 82 = .ok (.aload 4, 2) := by decide +kernel
theorem dX4_tryRows_84 : decode cX4_tryRows 84 = .ok (.invokevirtual 58, 3) := by decide +kernel
theorem dX4_tryRows_87 : decode cX4_tryRows 87 = .ok (.invokevirtual 61, 3) := by decide +kernel
theorem dX4_tryRows_90 : decode cX4_tryRows 90 = .ok (.iload 5, 2) := by decide +kernel
theorem dX4_tryRows_92 : decode cX4_tryRows 92 = .ok (.invokevirtual 65, 3) := by decide +kernel
theorem dX4_tryRows_95 : decode cX4_tryRows 95 = .ok (.pop, 1) := by decide +kernel
theorem dX4_tryRows_96 : decode cX4_tryRows 96 = .ok (.aload_n 0, 1) := by decide +kernel
theorem dX4_tryRows_97 : decode cX4_tryRows 97 = .ok (.aload_n 1, 1) := by decide +kernel
theorem dX4_tryRows_98 : decode cX4_tryRows 98 = .ok (.iload_n 2, 1) := by decide +kernel
theorem dX4_tryRows_99 : decode cX4_tryRows 99 = .ok (.iconst 1, 1) := by decide +kernel
theorem dX4_tryRows_100 : decode cX4_tryRows 100 = .ok (.iadd, 1) := by decide +kernel
theorem dX4_tryRows_101 : decode cX4_tryRows 101 = .ok (.iload_n 3, 1) := by decide +kernel
theorem dX4_tryRows_102 : decode cX4_tryRows 102 = .ok (.iconst 1, 1) := by decide +kernel
theorem dX4_tryRows_103 : decode cX4_tryRows 103 = .ok (.iload 5, 2) := by decide +kernel
theorem dX4_tryRows_105 : decode cX4_tryRows 105 = .ok (.ishl, 1) := by decide +kernel
theorem dX4_tryRows_106 : decode cX4_tryRows 106 = .ok (.ior, 1) := by decide +kernel
theorem dX4_tryRows_107 : decode cX4_tryRows 107 = .ok (.invokevirtual 45, 3) := by decide +kernel
theorem dX4_tryRows_110 : decode cX4_tryRows 110 = .ok (.iinc 5 1, 3) := by decide +kernel
theorem dX4_tryRows_113 : decode cX4_tryRows 113 = .ok (.goto (-72), 3) := by decide +kernel
theorem dX4_tryRows_116 : decode cX4_tryRows 116 = .ok (.return_, 1) := by decide +kernel
theorem dX4_weighRow_0 : decode cX4_weighRow 0 = .ok (.iload_n 1, 1) := by decide +kernel
theorem dX4_weighRow_1 : decode cX4_weighRow 1 = .ok (.aload_n 0, 1) := by decide +kernel
theorem dX4_weighRow_2 : decode cX4_weighRow 2 = .ok (.getfield 24, 3) := by decide +kernel
theorem dX4_weighRow_5 : decode cX4_weighRow 5 = .ok (.if_icmp .le 23, 3) := by decide +kernel
theorem dX4_weighRow_8 : decode cX4_weighRow 8 = .ok (.aload_n 0, 1) := by decide +kernel
theorem dX4_weighRow_9 : decode cX4_weighRow 9 = .ok (.iload_n 1, 1) := by decide +kernel
theorem dX4_weighRow_10 : decode cX4_weighRow 10 = .ok (.putfield 24, 3) := by decide +kernel
theorem dX4_weighRow_13 : decode cX4_weighRow 13 = .ok (.aload_n 0, 1) := by decide +kernel
theorem dX4_weighRow_14 : decode cX4_weighRow 14 = .ok (.getfield 17, 3) := by decide +kernel
theorem dX4_weighRow_17 : decode cX4_weighRow 17 = .ok (.iconst 0, 1) := by decide +kernel
theorem dX4_weighRow_18 : decode cX4_weighRow 18 = .ok (.aload_n 0, 1) := by decide +kernel
theorem dX4_weighRow_19 : decode cX4_weighRow 19 = .ok (.getfield 21, 3) := by decide +kernel
theorem dX4_weighRow_22 : decode cX4_weighRow 22 = .ok (.iconst 0, 1) := by decide +kernel
theorem dX4_weighRow_23 : decode cX4_weighRow 23 = .ok (.bipush 6, 2) := by decide +kernel
theorem dX4_weighRow_25 : decode cX4_weighRow 25 = .ok (.invokestatic 69, 3) := by decide +kernel
theorem dX4_weighRow_28 : decode cX4_weighRow 28 = .ok (.return_, 1) := by decide +kernel
theorem dX5_init_0 : decode cX5_init 0 = .ok (.aload_n 0, 1) := by decide +kernel
theorem dX5_init_1 : decode cX5_init 1 = .ok (.invokespecial 3, 3) := by decide +kernel
theorem dX5_init_4 : decode cX5_init 4 = .ok (.aload_n 0, 1) := by decide +kernel
theorem dX5_init_5 : decode cX5_init 5 = .ok (.sipush 700, 3) := by decide +kernel
theorem dX5_init_8 : decode cX5_init 8 = .ok (.newarray .int, 2) := by decide +kernel
theorem dX5_init_10 : decode cX5_init 10 = .ok (.putfield 9, 3) := by decide +kernel
theorem dX5_init_13 : decode cX5_init 13 = .ok (.aload_n 0, 1) := by decide +kernel
theorem dX5_init_14 : decode cX5_init 14 = .ok (.iconst 0, 1) := by decide +kernel
theorem dX5_init_15 : decode cX5_init 15 = .ok (.putfield 15, 3) := by decide +kernel
theorem dX5_init_18 : decode cX5_init 18 = .ok (.aload_n 0, 1) := by decide +kernel
theorem dX5_init_19 : decode cX5_init 19 = .ok (.bipush 40, 2) := by decide +kernel
theorem dX5_init_21 : decode cX5_init 21 = .ok (.newarray .int, 2) := by decide +kernel
theorem dX5_init_23 : decode cX5_init 23 = .ok (.putfield 19, 3) := by decide +kernel
theorem dX5_init_26 : decode cX5_init 26 = .ok (.return_, 1) := by decide +kernel
theorem dX5_clearAll_0 : decode cX5_clearAll 0 = .ok (.aload_n 0, 1) := by decide +kernel
theorem dX5_clearAll_1 : decode cX5_clearAll 1 = .ok (.iconst 0, 1) := by decide +kernel
theorem dX5_clearAll_2 : decode cX5_clearAll 2 = .ok (.putfield 15, 3) := by decide +kernel
theorem dX5_clearAll_5 : decode cX5_clearAll 5 = .ok (.return_, 1) := by decide +kernel
theorem dX5_isUntold_0 : decode cX5_isUntold 0 = .ok (.aload_n 0, 1) := by decide +kernel
theorem dX5_isUntold_1 : decode cX5_isUntold 1 = .ok (.getfield 15, 3) := by decide +kernel
theorem dX5_isUntold_4 : decode cX5_isUntold 4 = .ok (.ifCond .ne 7, 3) := by decide +kernel
theorem dX5_isUntold_7 : decode cX5_isUntold 7 = .ok (.iconst 1, 1) := by decide +kernel
theorem dX5_isUntold_8 : decode cX5_isUntold 8 = .ok (.goto 4, 3) := by decide +kernel
theorem dX5_isUntold_11 : decode cX5_isUntold 11 = .ok (.iconst 0, 1) := by decide +kernel
theorem dX5_isUntold_12 : decode cX5_isUntold 12 = .ok (.ireturn, 1) := by decide +kernel
theorem dX5_addStep_0 : decode cX5_addStep 0 = .ok (.aload_n 0, 1) := by decide +kernel
theorem dX5_addStep_1 : decode cX5_addStep 1 = .ok (.getfield 15, 3) := by decide +kernel
theorem dX5_addStep_4 : decode cX5_addStep 4 = .ok (.aload_n 0, 1) := by decide +kernel
theorem dX5_addStep_5 : decode cX5_addStep 5 = .ok (.getfield 9, 3) := by decide +kernel
theorem dX5_addStep_8 : decode cX5_addStep 8 = .ok (.arraylength, 1) := by decide +kernel
theorem dX5_addStep_9 : decode cX5_addStep 9 = .ok (.if_icmp .ge 23, 3) := by decide +kernel
theorem dX5_addStep_12 : decode cX5_addStep 12 = .ok (.aload_n 0, 1) := by decide +kernel
theorem dX5_addStep_13 : decode cX5_addStep 13 = .ok (.getfield 9, 3) := by decide +kernel
theorem dX5_addStep_16 : decode cX5_addStep 16 = .ok (.aload_n 0, 1) := by decide +kernel
theorem dX5_addStep_17 : decode cX5_addStep 17 = .ok (.getfield 15, 3) := by decide +kernel
theorem dX5_addStep_20 : decode cX5_addStep 20 = .ok (.iload_n 1, 1) := by decide +kernel
theorem dX5_addStep_21 : decode cX5_addStep 21 = .ok (.iastore, 1) := by decide +kernel
theorem dX5_addStep_22 : decode cX5_addStep 22 = .ok (.aload_n 0, 1) := by decide +kernel
theorem dX5_addStep_23 : decode cX5_addStep 23 = .ok (.dup, 1) := by decide +kernel
theorem dX5_addStep_24 : decode cX5_addStep 24 = .ok (.getfield 15, 3) := by decide +kernel
theorem dX5_addStep_27 : decode cX5_addStep 27 = .ok (.iconst 1, 1) := by decide +kernel
theorem dX5_addStep_28 : decode cX5_addStep 28 = .ok (.iadd, 1) := by decide +kernel
theorem dX5_addStep_29 : decode cX5_addStep 29 = .ok (.putfield 15, 3) := by decide +kernel
theorem dX5_addStep_32 : decode cX5_addStep 32 = .ok (.return_, 1) := by decide +kernel
theorem dX5_worth_0 : decode cX5_worth 0 = .ok (.iconst 0, 1) := by decide +kernel
theorem dX5_worth_1 : decode cX5_worth 1 = .ok (.istore_n 2, 1) := by decide +kernel
theorem dX5_worth_2 : decode cX5_worth 2 = .ok (.iconst 0, 1) := by decide +kernel
theorem dX5_worth_3 : decode cX5_worth 3 = .ok (.istore_n 3, 1) := by decide +kernel
theorem dX5_worth_4 : decode cX5_worth 4 = .ok (.iload_n 3, 1) := by decide +kernel
theorem dX5_worth_5 : decode cX5_worth 5 = .ok (.aload_n 0, 1) := by decide +kernel
theorem dX5_worth_6 : decode cX5_worth 6 = .ok (.getfield 15, 3) := by decide +kernel
theorem dX5_worth_9 : decode cX5_worth 9 = .ok (.if_icmp .ge 142, 3) := by decide +kernel
theorem dX5_worth_12 : decode cX5_worth 12 = .ok (.aload_n 0, 1) := by decide +kernel
theorem dX5_worth_13 : decode cX5_worth 13 = .ok (.getfield 9, 3) := by decide +kernel
theorem dX5_worth_16 : decode cX5_worth 16 = .ok (.iload_n 3, 1) := by decide +kernel
theorem dX5_worth_17 : decode cX5_worth 17 = .ok (.iaload, 1) := by decide +kernel
theorem dX5_worth_18 : decode cX5_worth 18 = .ok (.istore 4, 2) := by decide +kernel
theorem dX5_worth_20 : decode cX5_worth 20 = .ok (.iload 4, 2) := by decide +kernel
theorem dX5_worth_22 : decode cX5_worth 22 = .ok (.sipush 20003, 3) := by decide +kernel
theorem dX5_worth_25 : decode cX5_worth 25 = .ok (.if_icmp .ne 34, 3) := by decide +kernel
theorem dX5_worth_28 : decode cX5_worth 28 = .ok (.iload_n 2, 1) := by decide +kernel
theorem dX5_worth_29 : decode cX5_worth 29 = .ok (.ifCond .le 116, 3) := by decide +kernel
theorem dX5_worth_32 : decode cX5_worth 32 = .ok (.aload_n 0, 1) := by decide +kernel
theorem dX5_worth_33 : decode cX5_worth 33 = .ok (.getfield 19, 3) := by decide +kernel
theorem dX5_worth_36 : decode cX5_worth 36 = .ok (.iload_n 2, 1) := by decide +kernel
theorem dX5_worth_37 : decode cX5_worth 37 = .ok (.iconst 1, 1) := by decide +kernel
theorem dX5_worth_38 : decode cX5_worth 38 = .ok (.isub, 1) := by decide +kernel
theorem dX5_worth_39 : decode cX5_worth 39 = .ok (.aload_n 0, 1) := by decide +kernel
theorem dX5_worth_40 : decode cX5_worth 40 = .ok (.getfield 19, 3) := by decide +kernel
theorem dX5_worth_43 : decode cX5_worth 43 = .ok (.iload_n 2, 1) := by decide +kernel
theorem dX5_worth_44 : decode cX5_worth 44 = .ok (.iconst 1, 1) := by decide +kernel
theorem dX5_worth_45 : decode cX5_worth 45 = .ok (.isub, 1) := by decide +kernel
theorem dX5_worth_46 : decode cX5_worth 46 = .ok (.iaload, 1) := by decide +kernel
theorem dX5_worth_47 : decode cX5_worth 47 = .ok (.ifCond .ne 7, 3) := by decide +kernel
theorem dX5_worth_50 : decode cX5_worth 50 = .ok (.iconst 1, 1) := by decide +kernel
theorem dX5_worth_51 : decode cX5_worth 51 = .ok (.goto 4, 3) := by decide +kernel
theorem dX5_worth_54 : decode cX5_worth 54 = .ok (.iconst 0, 1) := by decide +kernel
theorem dX5_worth_55 : decode cX5_worth 55 = .ok (.iastore, 1) := by decide +kernel
theorem dX5_worth_56 : decode cX5_worth 56 = .ok (.goto 89, 3) := by decide +kernel
theorem dX5_worth_59 : decode cX5_worth 59 = .ok (.iload 4, 2) := by decide +kernel
theorem dX5_worth_61 : decode cX5_worth 61 = .ok (.sipush 20000, 3) := by decide +kernel
theorem dX5_worth_64 : decode cX5_worth 64 = .ok (.if_icmp .lt 45, 3) := by decide +kernel
theorem dX5_worth_67 : decode cX5_worth 67 = .ok (.iload_n 2, 1) := by decide +kernel
theorem dX5_worth_68 : decode cX5_worth 68 = .ok (.iconst 1, 1) := by decide +kernel
theorem dX5_worth_69 : decode cX5_worth 69 = .ok (.if_icmp .le 76, 3) := by decide +kernel
theorem dX5_worth_72 : decode cX5_worth 72 = .ok (.iinc 2 (-1), 3) := by decide +kernel
theorem dX5_worth_75 : decode cX5_worth 75 = .ok (.aload_n 0, 1) := by decide +kernel
theorem dX5_worth_76 : decode cX5_worth 76 = .ok (.getfield 19, 3) := by decide +kernel
theorem dX5_worth_79 : decode cX5_worth 79 = .ok (.iload_n 2, 1) := by decide +kernel
theorem dX5_worth_80 : decode cX5_worth 80 = .ok (.iconst 1, 1) := by decide +kernel
theorem dX5_worth_81 : decode cX5_worth 81 = .ok (.isub, 1) := by decide +kernel
theorem dX5_worth_82 : decode cX5_worth 82 = .ok (.iload 4, 2) := by decide +kernel
theorem dX5_worth_84 : decode cX5_worth 84 = .ok (.sipush 20000, 3) := by decide +kernel
theorem dX5_worth_87 : decode cX5_worth 87 = .ok (.isub, 1) := by decide +kernel
theorem dX5_worth_88 : decode cX5_worth 88 = .ok (.aload_n 0, 1) := by decide +kernel
theorem dX5_worth_89 : decode cX5_worth 89 = .ok (.getfield 19, 3) := by decide +kernel
theorem dX5_worth_92 : decode cX5_worth 92 = .ok (.iload_n 2, 1) := by decide +kernel
theorem dX5_worth_93 : decode cX5_worth 93 = .ok (.iconst 1, 1) := by decide +kernel
theorem dX5_worth_94 : decode cX5_worth 94 = .ok (.isub, 1) := by decide +kernel
theorem dX5_worth_95 : decode cX5_worth 95 = .ok (.iaload, 1) := by decide +kernel
theorem dX5_worth_96 : decode cX5_worth 96 = .ok (.aload_n 0, 1) := by decide +kernel
theorem dX5_worth_97 : decode cX5_worth 97 = .ok (.getfield 19, 3) := by decide +kernel
theorem dX5_worth_100 : decode cX5_worth 100 = .ok (.iload_n 2, 1) := by decide +kernel
theorem dX5_worth_101 : decode cX5_worth 101 = .ok (.iaload, 1) := by decide +kernel
theorem dX5_worth_102 : decode cX5_worth 102 = .ok (.invokestatic 22, 3) := by decide +kernel
theorem dX5_worth_105 : decode cX5_worth 105 = .ok (.iastore, 1) := by decide +kernel
theorem dX5_worth_106 : decode cX5_worth 106 = .ok (.goto 39, 3) := by decide +kernel
theorem dX5_worth_109 : decode cX5_worth 109 = .ok (.iload_n 2, 1) := by decide +kernel
theorem dX5_worth_110 : decode cX5_worth 110 = .ok (.bipush 40, 2) := by decide +kernel
theorem dX5_worth_112 : decode cX5_worth 112 = .ok (.if_icmp .ge 33, 3) := by decide +kernel
theorem dX5_worth_115 : decode cX5_worth 115 = .ok (.aload_n 0, 1) := by decide +kernel
theorem dX5_worth_116 : decode cX5_worth 116 = .ok (.getfield 19, 3) := by decide +kernel
theorem dX5_worth_119 : decode cX5_worth 119 = .ok (.iload_n 2, 1) := by decide +kernel
theorem dX5_worth_120 : decode cX5_worth 120 = .ok (.iload 4, 2) := by decide +kernel
theorem dX5_worth_122 : decode cX5_worth 122 = .ok (.sipush 10000, 3) := by decide +kernel
theorem dX5_worth_125 : decode cX5_worth 125 = .ok (.if_icmp .lt 14, 3) := by decide +kernel
theorem dX5_worth_128 : decode cX5_worth 128 = .ok (.aload_n 1, 1) := by decide +kernel
theorem dX5_worth_129 : decode cX5_worth 129 = .ok (.iload 4, 2) := by decide +kernel
theorem dX5_worth_131 : decode cX5_worth 131 = .ok (.sipush 10000, 3) := by decide +kernel
theorem dX5_worth_134 : decode cX5_worth 134 = .ok (.isub, 1) := by decide +kernel
theorem dX5_worth_135 : decode cX5_worth 135 = .ok (.iaload, 1) := by decide +kernel
theorem dX5_worth_136 : decode cX5_worth 136 = .ok (.goto 5, 3) := by decide +kernel
theorem dX5_worth_139 : decode cX5_worth 139 = .ok (.iload 4, 2) := by decide +kernel
theorem dX5_worth_141 : decode cX5_worth 141 = .ok (.iastore, 1) := by decide +kernel
theorem dX5_worth_142 : decode cX5_worth 142 = .ok (.iinc 2 1, 3) := by decide +kernel
theorem dX5_worth_145 : decode cX5_worth 145 = .ok (.iinc 3 1, 3) := by decide +kernel
theorem dX5_worth_148 : decode cX5_worth 148 = .ok (.goto (-144), 3) := by decide +kernel
theorem dX5_worth_151 : decode cX5_worth 151 = .ok (.aload_n 0, 1) := by decide +kernel
theorem dX5_worth_152 : decode cX5_worth 152 = .ok (.getfield 19, 3) := by decide +kernel
theorem dX5_worth_155 : decode cX5_worth 155 = .ok (.iconst 0, 1) := by decide +kernel
theorem dX5_worth_156 : decode cX5_worth 156 = .ok (.iaload, 1) := by decide +kernel
theorem dX5_worth_157 : decode cX5_worth 157 = .ok (.ireturn, 1) := by decide +kernel
theorem dX5_joined_0 : decode cX5_joined 0 = .ok (.iload_n 0, 1) := by decide +kernel
theorem dX5_joined_1 : decode cX5_joined 1 = .ok (.tableswitch 109 1 8 #[47, 61, 109, 75, 86, 97, 101, 105], 47) := by decide +kernel
theorem dX5_joined_48 : decode cX5_joined 48 = .ok (.iload_n 1, 1) := by decide +kernel
theorem dX5_joined_49 : decode cX5_joined 49 = .ok (.ifCond .ne 7, 3) := by decide +kernel
theorem dX5_joined_52 : decode cX5_joined 52 = .ok (.iload_n 2, 1) := by decide +kernel
theorem dX5_joined_53 : decode cX5_joined 53 = .ok (.ifCond .eq 7, 3) := by decide +kernel
theorem dX5_joined_56 : decode cX5_joined 56 = .ok (.iconst 1, 1) := by decide +kernel
theorem dX5_joined_57 : decode cX5_joined 57 = .ok (.goto 4, 3) := by decide +kernel
theorem dX5_joined_60 : decode cX5_joined 60 = .ok (.iconst 0, 1) := by decide +kernel
theorem dX5_joined_61 : decode cX5_joined 61 = .ok (.ireturn, 1) := by decide +kernel
theorem dX5_joined_62 : decode cX5_joined 62 = .ok (.iload_n 1, 1) := by decide +kernel
theorem dX5_joined_63 : decode cX5_joined 63 = .ok (.ifCond .eq 11, 3) := by decide +kernel
theorem dX5_joined_66 : decode cX5_joined 66 = .ok (.iload_n 2, 1) := by decide +kernel
theorem dX5_joined_67 : decode cX5_joined 67 = .ok (.ifCond .eq 7, 3) := by decide +kernel
theorem dX5_joined_70 : decode cX5_joined 70 = .ok (.iconst 1, 1) := by decide +kernel
theorem dX5_joined_71 : decode cX5_joined 71 = .ok (.goto 4, 3) := by decide +kernel
theorem dX5_joined_74 : decode cX5_joined 74 = .ok (.iconst 0, 1) := by decide +kernel
theorem dX5_joined_75 : decode cX5_joined 75 = .ok (.ireturn, 1) := by decide +kernel
theorem dX5_joined_76 : decode cX5_joined 76 = .ok (.iload_n 1, 1) := by decide +kernel
theorem dX5_joined_77 : decode cX5_joined 77 = .ok (.iload_n 2, 1) := by decide +kernel
theorem dX5_joined_78 : decode cX5_joined 78 = .ok (.if_icmp .ge 7, 3) := by decide +kernel
theorem dX5_joined_81 : decode cX5_joined 81 = .ok (.iconst 1, 1) := by decide +kernel
theorem dX5_joined_82 : decode cX5_joined 82 = .ok (.goto 4, 3) := by decide +kernel
theorem dX5_joined_85 : decode cX5_joined 85 = .ok (.iconst 0, 1) := by decide +kernel
theorem dX5_joined_86 : decode cX5_joined 86 = .ok (.ireturn, 1) := by decide +kernel
theorem dX5_joined_87 : decode cX5_joined 87 = .ok (.iload_n 1, 1) := by decide +kernel
theorem dX5_joined_88 : decode cX5_joined 88 = .ok (.iload_n 2, 1) := by decide +kernel
theorem dX5_joined_89 : decode cX5_joined 89 = .ok (.if_icmp .ne 7, 3) := by decide +kernel
theorem dX5_joined_92 : decode cX5_joined 92 = .ok (.iconst 1, 1) := by decide +kernel
theorem dX5_joined_93 : decode cX5_joined 93 = .ok (.goto 4, 3) := by decide +kernel
theorem dX5_joined_96 : decode cX5_joined 96 = .ok (.iconst 0, 1) := by decide +kernel
theorem dX5_joined_97 : decode cX5_joined 97 = .ok (.ireturn, 1) := by decide +kernel
theorem dX5_joined_98 : decode cX5_joined 98 = .ok (.iload_n 1, 1) := by decide +kernel
theorem dX5_joined_99 : decode cX5_joined 99 = .ok (.iload_n 2, 1) := by decide +kernel
theorem dX5_joined_100 : decode cX5_joined 100 = .ok (.iadd, 1) := by decide +kernel
theorem dX5_joined_101 : decode cX5_joined 101 = .ok (.ireturn, 1) := by decide +kernel
theorem dX5_joined_102 : decode cX5_joined 102 = .ok (.iload_n 1, 1) := by decide +kernel
theorem dX5_joined_103 : decode cX5_joined 103 = .ok (.iload_n 2, 1) := by decide +kernel
theorem dX5_joined_104 : decode cX5_joined 104 = .ok (.isub, 1) := by decide +kernel
theorem dX5_joined_105 : decode cX5_joined 105 = .ok (.ireturn, 1) := by decide +kernel
theorem dX5_joined_106 : decode cX5_joined 106 = .ok (.iload_n 1, 1) := by decide +kernel
theorem dX5_joined_107 : decode cX5_joined 107 = .ok (.iload_n 2, 1) := by decide +kernel
theorem dX5_joined_108 : decode cX5_joined 108 = .ok (.imul, 1) := by decide +kernel
theorem dX5_joined_109 : decode cX5_joined 109 = .ok (.ireturn, 1) := by decide +kernel
theorem dX5_joined_110 : decode cX5_joined 110 = .ok (.iload_n 2, 1) := by decide +kernel
theorem dX5_joined_111 : decode cX5_joined 111 = .ok (.ifCond .ne 7, 3) := by decide +kernel
theorem dX5_joined_114 : decode cX5_joined 114 = .ok (.iconst 0, 1) := by decide +kernel
theorem dX5_joined_115 : decode cX5_joined 115 = .ok (.goto 6, 3) := by decide +kernel
theorem dX5_joined_118 : decode cX5_joined 118 = .ok (.iload_n 1, 1) := by decide +kernel
theorem dX5_joined_119 : decode cX5_joined 119 = .ok (.iload_n 2, 1) := by decide +kernel
theorem dX5_joined_120 : decode cX5_joined 120 = .ok (.idiv, 1) := by decide +kernel
theorem dX5_joined_121 : decode cX5_joined 121 = .ok (.ireturn, 1) := by decide +kernel
theorem dX6_init_0 : decode cX6_init 0 = .ok (.aload_n 0, 1) := by decide +kernel
theorem dX6_init_1 : decode cX6_init 1 = .ok (.invokespecial 5, 3) := by decide +kernel
theorem dX6_init_4 : decode cX6_init 4 = .ok (.aload_n 0, 1) := by decide +kernel
theorem dX6_init_5 : decode cX6_init 5 = .ok (.bipush 84, 2) := by decide +kernel
theorem dX6_init_7 : decode cX6_init 7 = .ok (.newarray .int, 2) := by decide +kernel
theorem dX6_init_9 : decode cX6_init 9 = .ok (.putfield 11, 3) := by decide +kernel
theorem dX6_init_12 : decode cX6_init 12 = .ok (.aload_n 0, 1) := by decide +kernel
theorem dX6_init_13 : decode cX6_init 13 = .ok (.iconst 0, 1) := by decide +kernel
theorem dX6_init_14 : decode cX6_init 14 = .ok (.putfield 15, 3) := by decide +kernel
theorem dX6_init_17 : decode cX6_init 17 = .ok (.aload_n 0, 1) := by decide +kernel
theorem dX6_init_18 : decode cX6_init 18 = .ok (.iconst 0, 1) := by decide +kernel
theorem dX6_init_19 : decode cX6_init 19 = .ok (.putfield 19, 3) := by decide +kernel
theorem dX6_init_22 : decode cX6_init 22 = .ok (.aload_n 0, 1) := by decide +kernel
theorem dX6_init_23 : decode cX6_init 23 = .ok (.iconst 0, 1) := by decide +kernel
theorem dX6_init_24 : decode cX6_init 24 = .ok (.putfield 22, 3) := by decide +kernel
theorem dX6_init_27 : decode cX6_init 27 = .ok (.aload_n 0, 1) := by decide +kernel
theorem dX6_init_28 : decode cX6_init 28 = .ok (.iconst 1, 1) := by decide +kernel
theorem dX6_init_29 : decode cX6_init 29 = .ok (.putfield 25, 3) := by decide +kernel
theorem dX6_init_32 : decode cX6_init 32 = .ok (.aload_n 0, 1) := by decide +kernel
theorem dX6_init_33 : decode cX6_init 33 = .ok (.iconst 1, 1) := by decide +kernel
theorem dX6_init_34 : decode cX6_init 34 = .ok (.putfield 29, 3) := by decide +kernel
theorem dX6_init_37 : decode cX6_init 37 = .ok (.return_, 1) := by decide +kernel
theorem dX6_read_0 : decode cX6_read 0 = .ok (.aload_n 2, 1) := by decide +kernel
theorem dX6_read_1 : decode cX6_read 1 = .ok (.invokevirtual 32, 3) := by decide +kernel
theorem dX6_read_4 : decode cX6_read 4 = .ok (.ifCond .ne 8, 3) := by decide +kernel
theorem dX6_read_7 : decode cX6_read 7 = .ok (.aload_n 1, 1) := by decide +kernel
theorem dX6_read_8 : decode cX6_read 8 = .ok (.iconst 5, 1) := by decide +kernel
theorem dX6_read_9 : decode cX6_read 9 = .ok (.invokevirtual 40, 3) := by decide +kernel
theorem dX6_read_12 : decode cX6_read 12 = .ok (.aload_n 1, 1) := by decide +kernel
theorem dX6_read_13 : decode cX6_read 13 = .ok (.invokevirtual 44, 3) := by decide +kernel
theorem dX6_read_16 : decode cX6_read 16 = .ok (.aload_n 0, 1) := by decide +kernel
theorem dX6_read_17 : decode cX6_read 17 = .ok (.iconst 0, 1) := by decide +kernel
theorem dX6_read_18 : decode cX6_read 18 = .ok (.putfield 15, 3) := by decide +kernel
theorem dX6_read_21 : decode cX6_read 21 = .ok (.aload_n 0, 1) := by decide +kernel
theorem dX6_read_22 : decode cX6_read 22 = .ok (.iconst 0, 1) := by decide +kernel
theorem dX6_read_23 : decode cX6_read 23 = .ok (.putfield 19, 3) := by decide +kernel
theorem dX6_read_26 : decode cX6_read 26 = .ok (.aload_n 0, 1) := by decide +kernel
theorem dX6_read_27 : decode cX6_read 27 = .ok (.invokevirtual 47, 3) := by decide +kernel
theorem dX6_read_30 : decode cX6_read 30 = .ok (.iconst 0, 1) := by decide +kernel
theorem dX6_read_31 : decode cX6_read 31 = .ok (.istore 4, 2) := by decide +kernel
theorem dX6_read_33 : decode cX6_read 33 = .ok (.iload 4, 2) := by decide +kernel
theorem dX6_read_35 : decode cX6_read 35 = .ok (.sipush 700, 3) := by decide +kernel
theorem dX6_read_38 : decode cX6_read 38 = .ok (.if_icmp .gt 51, 3) := by decide +kernel
theorem dX6_read_41 : decode cX6_read 41 = .ok (.aload_n 1, 1) := by decide +kernel
theorem dX6_read_42 : decode cX6_read 42 = .ok (.invokevirtual 50, 3) := by decide +kernel
theorem dX6_read_45 : decode cX6_read 45 = .ok (.ifCond .eq 44, 3) := by decide +kernel
theorem dX6_read_48 : decode cX6_read 48 = .ok (.aload_n 0, 1) := by decide +kernel
theorem dX6_read_49 : decode cX6_read 49 = .ok (.aload_n 1, 1) := by decide +kernel
theorem dX6_read_50 : decode cX6_read 50 = .ok (.invokevirtual 53, 3) := by decide +kernel
theorem dX6_read_53 : decode cX6_read 53 = .ok (.ifCond .ne 36, 3) := by decide +kernel
theorem dX6_read_56 : decode cX6_read 56 = .ok (.aload_n 0, 1) := by decide +kernel
theorem dX6_read_57 : decode cX6_read 57 = .ok (.getfield 25, 3) := by decide +kernel
theorem dX6_read_60 : decode cX6_read 60 = .ok (.ifCond .eq 13, 3) := by decide +kernel
theorem dX6_read_63 : decode cX6_read 63 = .ok (.aload_n 0, 1) := by decide +kernel
theorem dX6_read_64 : decode cX6_read 64 = .ok (.aload_n 1, 1) := by decide +kernel
theorem dX6_read_65 : decode cX6_read 65 = .ok (.aload_n 2, 1) := by decide +kernel
theorem dX6_read_66 : decode cX6_read 66 = .ok (.iload_n 3, 1) := by decide +kernel
theorem dX6_read_67 : decode cX6_read 67 = .ok (.invokevirtual 57, 3) := by decide +kernel
theorem dX6_read_70 : decode cX6_read 70 = .ok (.goto 9, 3) := by decide +kernel
theorem dX6_read_73 : decode cX6_read 73 = .ok (.aload_n 0, 1) := by decide +kernel
theorem dX6_read_74 : decode cX6_read 74 = .ok (.aload_n 1, 1) := by decide +kernel
theorem dX6_read_75 : decode cX6_read 75 = .ok (.aload_n 2, 1) := by decide +kernel
theorem dX6_read_76 : decode cX6_read 76 = .ok (.invokevirtual 61, 3) := by decide +kernel
theorem dX6_read_79 : decode cX6_read 79 = .ok (.aload_n 1, 1) := by decide +kernel
theorem dX6_read_80 : decode cX6_read 80 = .ok (.invokevirtual 44, 3) := by decide +kernel
theorem dX6_read_83 : decode cX6_read 83 = .ok (.iinc 4 1, 3) := by decide +kernel
theorem dX6_read_86 : decode cX6_read 86 = .ok (.goto (-53), 3) := by decide +kernel
theorem dX6_read_89 : decode cX6_read 89 = .ok (.aload_n 1, 1) := by decide +kernel
theorem dX6_read_90 : decode cX6_read 90 = .ok (.invokevirtual 50, 3) := by decide +kernel
theorem dX6_read_93 : decode cX6_read 93 = .ok (.ifCond .eq 9, 3) := by decide +kernel
theorem dX6_read_96 : decode cX6_read 96 = .ok (.aload_n 0, 1) := by decide +kernel
theorem dX6_read_97 : decode cX6_read 97 = .ok (.aload_n 2, 1) := by decide +kernel
theorem dX6_read_98 : decode cX6_read 98 = .ok (.iconst 1, 1) := by decide +kernel
theorem dX6_read_99 : decode cX6_read 99 = .ok (.invokevirtual 65, 3) := by decide +kernel
theorem dX6_read_102 : decode cX6_read 102 = .ok (.return_, 1) := by decide +kernel
theorem dX6_isEnd_0 : decode cX6_isEnd 0 = .ok (.aload_n 0, 1) := by decide +kernel
theorem dX6_isEnd_1 : decode cX6_isEnd 1 = .ok (.getfield 25, 3) := by decide +kernel
theorem dX6_isEnd_4 : decode cX6_isEnd 4 = .ok (.ifCond .ne 23, 3) := by decide +kernel
theorem dX6_isEnd_7 : decode cX6_isEnd 7 = .ok (.aload_n 0, 1) := by decide +kernel
theorem dX6_isEnd_8 : decode cX6_isEnd 8 = .ok (.getfield 19, 3) := by decide +kernel
theorem dX6_isEnd_11 : decode cX6_isEnd 11 = .ok (.ifCond .ne 16, 3) := by decide +kernel
theorem dX6_isEnd_14 : decode cX6_isEnd 14 = .ok (.aload_n 1, 1) := by decide +kernel
theorem dX6_isEnd_15 : decode cX6_isEnd 15 = .ok (.getfield 69, 3) := by decide +kernel
theorem dX6_isEnd_18 : decode cX6_isEnd 18 = .ok (.bipush 59, 2) := by decide +kernel
theorem dX6_isEnd_20 : decode cX6_isEnd 20 = .ok (.if_icmp .ne 7, 3) := by decide +kernel
theorem dX6_isEnd_23 : decode cX6_isEnd 23 = .ok (.iconst 1, 1) := by decide +kernel
theorem dX6_isEnd_24 : decode cX6_isEnd 24 = .ok (.goto 4, 3) := by decide +kernel
theorem dX6_isEnd_27 : decode cX6_isEnd 27 = .ok (.iconst 0, 1) := by decide +kernel
theorem dX6_isEnd_28 : decode cX6_isEnd 28 = .ok (.ireturn, 1) := by decide +kernel
theorem dX6_beginExpression_0 : decode cX6_beginExpression 0 = .ok (.aload_n 0, 1) := by decide +kernel
theorem dX6_beginExpression_1 : decode cX6_beginExpression 1 = .ok (.iconst 1, 1) := by decide +kernel
theorem dX6_beginExpression_2 : decode cX6_beginExpression 2 = .ok (.putfield 25, 3) := by decide +kernel
theorem dX6_beginExpression_5 : decode cX6_beginExpression 5 = .ok (.aload_n 0, 1) := by decide +kernel
theorem dX6_beginExpression_6 : decode cX6_beginExpression 6 = .ok (.iconst 1, 1) := by decide +kernel
theorem dX6_beginExpression_7 : decode cX6_beginExpression 7 = .ok (.putfield 29, 3) := by decide +kernel
theorem dX6_beginExpression_10 : decode cX6_beginExpression 10 = .ok (.aload_n 0, 1) := by decide +kernel
theorem dX6_beginExpression_11 : decode cX6_beginExpression 11 = .ok (.iconst 0, 1) := by decide +kernel
theorem dX6_beginExpression_12 : decode cX6_beginExpression 12 = .ok (.putfield 22, 3) := by decide +kernel
theorem dX6_beginExpression_15 : decode cX6_beginExpression 15 = .ok (.return_, 1) := by decide +kernel
theorem dX6_readPart_0 : decode cX6_readPart 0 = .ok (.aload_n 1, 1) := by decide +kernel
theorem dX6_readPart_1 : decode cX6_readPart 1 = .ok (.getfield 69, 3) := by decide +kernel
theorem dX6_readPart_4 : decode cX6_readPart 4 = .ok (.iconst 3, 1) := by decide +kernel
theorem dX6_readPart_5 : decode cX6_readPart 5 = .ok (.if_icmp .ne 7, 3) := by decide +kernel
theorem dX6_readPart_8 : decode cX6_readPart 8 = .ok (.iconst 1, 1) := by decide +kernel
theorem dX6_readPart_9 : decode cX6_readPart 9 = .ok (.goto 4, 3) := by decide +kernel
theorem dX6_readPart_12 : decode cX6_readPart 12 = .ok (.iconst 0, 1) := by decide +kernel
theorem dX6_readPart_13 : decode cX6_readPart 13 = .ok (.istore 4, 2) := by decide +kernel
theorem dX6_readPart_15 : decode cX6_readPart 15 = .ok (.aload_n 1, 1) := by decide +kernel
theorem dX6_readPart_16 : decode cX6_readPart 16 = .ok (.getfield 69, 3) := by decide +kernel
theorem dX6_readPart_19 : decode cX6_readPart 19 = .ok (.bipush 40, 2) := by decide +kernel
theorem dX6_readPart_21 : decode cX6_readPart 21 = .ok (.if_icmp .ne 7, 3) := by decide +kernel
theorem dX6_readPart_24 : decode cX6_readPart 24 = .ok (.iconst 1, 1) := by decide +kernel
theorem dX6_readPart_25 : decode cX6_readPart 25 = .ok (.goto 4, 3) := by decide +kernel
theorem dX6_readPart_28 : decode cX6_readPart 28 = .ok (.iconst 0, 1) := by decide +kernel
theorem dX6_readPart_29 : decode cX6_readPart 29 = .ok (.istore 5, 2) := by decide +kernel
theorem dX6_readPart_31 : decode cX6_readPart 31 = .ok (.iload 4, 2) := by decide +kernel
theorem dX6_readPart_33 : decode cX6_readPart 33 = .ok (.ifCond .ne 24, 3) := by decide +kernel
theorem dX6_readPart_36 : decode cX6_readPart 36 = .ok (.iload 5, 2) := by decide +kernel
theorem dX6_readPart_38 : decode cX6_readPart 38 = .ok (.ifCond .ne 19, 3) := by decide +kernel
theorem dX6_readPart_41 : decode cX6_readPart 41 = .ok (.aload_n 1, 1) := by decide +kernel
theorem dX6_readPart_42 : decode cX6_readPart 42 = .ok (.getfield 69, 3) := by decide +kernel
theorem dX6_readPart_45 : decode cX6_readPart 45 = .ok (.iconst 2, 1) := by decide +kernel
theorem dX6_readPart_46 : decode cX6_readPart 46 = .ok (.if_icmp .eq 11, 3) := by decide +kernel
theorem dX6_readPart_49 : decode cX6_readPart 49 = .ok (.aload_n 1, 1) := by decide +kernel
theorem dX6_readPart_50 : decode cX6_readPart 50 = .ok (.iconst 1, 1) := by decide +kernel
theorem dX6_readPart_51 : decode cX6_readPart 51 = .ok (.invokevirtual 40, 3) := by decide +kernel
theorem dX6_readPart_54 : decode cX6_readPart 54 = .ok (.goto 128, 3) := by decide +kernel
theorem dX6_readPart_57 : decode cX6_readPart 57 = .ok (.aload_n 0, 1) := by decide +kernel
theorem dX6_readPart_58 : decode cX6_readPart 58 = .ok (.getfield 19, 3) := by decide +kernel
theorem dX6_readPart_61 : decode cX6_readPart 61 = .ok (.bipush 6, 2) := by decide +kernel
theorem dX6_readPart_63 : decode cX6_readPart 63 = .ok (.if_icmp .ge 18, 3) := by decide +kernel
theorem dX6_readPart_66 : decode cX6_readPart 66 = .ok (.iload 4, 2) := by decide +kernel
theorem dX6_readPart_68 : decode cX6_readPart 68 = .ok (.ifCond .eq 21, 3) := by decide +kernel
theorem dX6_readPart_71 : decode cX6_readPart 71 = .ok (.aload_n 1, 1) := by decide +kernel
theorem dX6_readPart_72 : decode cX6_readPart 72 = .ok (.getfield 72, 3) := by decide +kernel
theorem dX6_readPart_75 : decode cX6_readPart 75 = .ok (.sipush 9999, 3) := by decide +kernel
theorem dX6_readPart_78 : decode cX6_readPart 78 = .ok (.if_icmp .le 11, 3) := by decide +kernel
theorem dX6_readPart_81 : decode cX6_readPart 81 = .ok (.aload_n 1, 1) := by decide +kernel
theorem dX6_readPart_82 : decode cX6_readPart 82 = .ok (.iconst 2, 1) := by decide +kernel
theorem dX6_readPart_83 : decode cX6_readPart 83 = .ok (.invokevirtual 40, 3) := by decide +kernel
theorem dX6_readPart_86 : decode cX6_readPart 86 = .ok (.goto 96, 3) := by decide +kernel
theorem dX6_readPart_89 : decode cX6_readPart 89 = .ok (.iload 5, 2) := by decide +kernel
theorem dX6_readPart_91 : decode cX6_readPart 91 = .ok (.ifCond .eq 25, 3) := by decide +kernel
theorem dX6_readPart_94 : decode cX6_readPart 94 = .ok (.aload_n 0, 1) := by decide +kernel
theorem dX6_readPart_95 : decode cX6_readPart 95 = .ok (.iconst 0, 1) := by decide +kernel
theorem dX6_readPart_96 : decode cX6_readPart 96 = .ok (.invokevirtual 75, 3) := by decide +kernel
theorem dX6_readPart_99 : decode cX6_readPart 99 = .ok (.aload_n 0, 1) := by decide +kernel
theorem dX6_readPart_100 : decode cX6_readPart 100 = .ok (.dup, 1) := by decide +kernel
theorem dX6_readPart_101 : decode cX6_readPart 101 = .ok (.getfield 19, 3) := by decide +kernel
theorem dX6_readPart_104 : decode cX6_readPart 104 = .ok (.iconst 1, 1) := by decide +kernel
theorem dX6_readPart_105 : decode cX6_readPart 105 = .ok (.iadd, 1) := by decide +kernel
theorem dX6_readPart_106 : decode cX6_readPart 106 = .ok (.putfield 19, 3) := by decide +kernel
theorem dX6_readPart_109 : decode cX6_readPart 109 = .ok (.aload_n 0, 1) := by decide +kernel
theorem dX6_readPart_110 : decode cX6_readPart 110 = .ok (.invokevirtual 47, 3) := by decide +kernel
theorem dX6_readPart_113 : decode cX6_readPart 113 = .ok (.goto 69, 3) := by decide +kernel
theorem dX6_readPart_116 : decode cX6_readPart 116 = .ok (.iload 4, 2) := by decide +kernel
theorem dX6_readPart_118 : decode cX6_readPart 118 = .ok (.ifCond .eq 19, 3) := by decide +kernel
theorem dX6_readPart_121 : decode cX6_readPart 121 = .ok (.aload_n 2, 1) := by decide +kernel
theorem dX6_readPart_122 : decode cX6_readPart 122 = .ok (.aload_n 1, 1) := by decide +kernel
theorem dX6_readPart_123 : decode cX6_readPart 123 = .ok (.getfield 72, 3) := by decide +kernel
theorem dX6_readPart_126 : decode cX6_readPart 126 = .ok (.invokevirtual 78, 3) := by decide +kernel
theorem dX6_readPart_129 : decode cX6_readPart 129 = .ok (.aload_n 0, 1) := by decide +kernel
theorem dX6_readPart_130 : decode cX6_readPart 130 = .ok (.iconst 0, 1) := by decide +kernel
theorem dX6_readPart_131 : decode cX6_readPart 131 = .ok (.putfield 25, 3) := by decide +kernel
theorem dX6_readPart_134 : decode cX6_readPart 134 = .ok (.goto 48, 3) := by decide +kernel
theorem dX6_readPart_137 : decode cX6_readPart 137 = .ok (.aload_n 0, 1) := by decide +kernel
theorem dX6_readPart_138 : decode cX6_readPart 138 = .ok (.getfield 29, 3) := by decide +kernel
theorem dX6_readPart_141 : decode cX6_readPart 141 = .ok (.ifCond .eq 20, 3) := by decide +kernel
theorem dX6_readPart_144 : decode cX6_readPart 144 = .ok (.aload_n 1, 1) := by decide +kernel
theorem dX6_readPart_145 : decode cX6_readPart 145 = .ok (.ldc 81, 2) := by decide +kernel
theorem dX6_readPart_147 : decode cX6_readPart 147 = .ok (.invokevirtual 83, 3) := by decide +kernel
theorem dX6_readPart_150 : decode cX6_readPart 150 = .ok (.ifCond .eq 11, 3) := by decide +kernel
theorem dX6_readPart_153 : decode cX6_readPart 153 = .ok (.aload_n 0, 1) := by decide +kernel
theorem dX6_readPart_154 : decode cX6_readPart 154 = .ok (.aload_n 1, 1) := by decide +kernel
theorem dX6_readPart_155 : decode cX6_readPart 155 = .ok (.invokevirtual 87, 3) := by decide +kernel
theorem dX6_readPart_158 : decode cX6_readPart 158 = .ok (.goto 24, 3) := by decide +kernel
theorem dX6_readPart_161 : decode cX6_readPart 161 = .ok (.aload_n 0, 1) := by decide +kernel
theorem dX6_readPart_162 : decode cX6_readPart 162 = .ok (.aload_n 1, 1) := by decide +kernel
theorem dX6_readPart_163 : decode cX6_readPart 163 = .ok (.aload_n 2, 1) := by decide +kernel
theorem dX6_readPart_164 : decode cX6_readPart 164 = .ok (.iload_n 3, 1) := by decide +kernel
theorem dX6_readPart_165 : decode cX6_readPart 165 = .ok (.ifCond .eq 10, 3) := by decide +kernel
theorem dX6_readPart_168 : decode cX6_readPart 168 = .ok (.aload_n 1, 1) := by decide +kernel
theorem dX6_readPart_169 : decode cX6_readPart 169 = .ok (.invokestatic 91, 3) := by decide +kernel
theorem dX6_readPart_172 : decode cX6_readPart 172 = .ok (.goto 7, 3) := by decide +kernel
theorem dX6_readPart_175 : decode cX6_readPart 175 = .ok (.aload_n 1, 1) := by decide +kernel
theorem dX6_readPart_176 : decode cX6_readPart 176 = .ok (.invokestatic 95, 3) := by decide +kernel
theorem dX6_readPart_179 : decode cX6_readPart 179 = .ok (.invokevirtual 98, 3) := by decide +kernel
theorem dX6_readPart_182 : decode cX6_readPart 182 = .ok (.return_, 1) := by decide +kernel
theorem dX6_readNot_0 : decode cX6_readNot 0 = .ok (.aload_n 0, 1) := by decide +kernel
theorem dX6_readNot_1 : decode cX6_readNot 1 = .ok (.getfield 22, 3) := by decide +kernel
theorem dX6_readNot_4 : decode cX6_readNot 4 = .ok (.bipush 6, 2) := by decide +kernel
theorem dX6_readNot_6 : decode cX6_readNot 6 = .ok (.if_icmp .lt 8, 3) := by decide +kernel
theorem dX6_readNot_9 : decode cX6_readNot 9 = .ok (.aload_n 1, 1) := by decide +kernel
theorem dX6_readNot_10 : decode cX6_readNot 10 = .ok (.iconst 2, 1) := by decide +kernel
theorem dX6_readNot_11 : decode cX6_readNot 11 = .ok (.invokevirtual 40, 3) := by decide +kernel
theorem dX6_readNot_14 : decode cX6_readNot 14 = .ok (.aload_n 0, 1) := by decide +kernel
theorem dX6_readNot_15 : decode cX6_readNot 15 = .ok (.iconst 3, 1) := by decide +kernel
theorem dX6_readNot_16 : decode cX6_readNot 16 = .ok (.invokevirtual 75, 3) := by decide +kernel
theorem dX6_readNot_19 : decode cX6_readNot 19 = .ok (.aload_n 0, 1) := by decide +kernel
theorem dX6_readNot_20 : decode cX6_readNot 20 = .ok (.dup, 1) := by decide +kernel
theorem dX6_readNot_21 : decode cX6_readNot 21 = .ok (.getfield 22, 3) := by decide +kernel
theorem dX6_readNot_24 : decode cX6_readNot 24 = .ok (.iconst 1, 1) := by decide +kernel
theorem dX6_readNot_25 : decode cX6_readNot 25 = .ok (.iadd, 1) := by decide +kernel
theorem dX6_readNot_26 : decode cX6_readNot 26 = .ok (.putfield 22, 3) := by decide +kernel
theorem dX6_readNot_29 : decode cX6_readNot 29 = .ok (.return_, 1) := by decide +kernel
theorem dX6_putValue_0 : decode cX6_putValue 0 = .ok (.iload_n 3, 1) := by decide +kernel
theorem dX6_putValue_1 : decode cX6_putValue 1 = .ok (.iconst (-1), 1) := by decide +kernel
theorem dX6_putValue_2 : decode cX6_putValue 2 = .ok (.if_icmp .ne 11, 3) := by decide +kernel
theorem dX6_putValue_5 : decode cX6_putValue 5 = .ok (.aload_n 1, 1) := by decide +kernel
theorem dX6_putValue_6 : decode cX6_putValue 6 = .ok (.iconst 3, 1) := by decide +kernel
theorem dX6_putValue_7 : decode cX6_putValue 7 = .ok (.invokevirtual 40, 3) := by decide +kernel
theorem dX6_putValue_10 : decode cX6_putValue 10 = .ok (.goto 17, 3) := by decide +kernel
theorem dX6_putValue_13 : decode cX6_putValue 13 = .ok (.aload_n 2, 1) := by decide +kernel
theorem dX6_putValue_14 : decode cX6_putValue 14 = .ok (.sipush 10000, 3) := by decide +kernel
theorem dX6_putValue_17 : decode cX6_putValue 17 = .ok (.iload_n 3, 1) := by decide +kernel
theorem dX6_putValue_18 : decode cX6_putValue 18 = .ok (.iadd, 1) := by decide +kernel
theorem dX6_putValue_19 : decode cX6_putValue 19 = .ok (.invokevirtual 78, 3) := by decide +kernel
theorem dX6_putValue_22 : decode cX6_putValue 22 = .ok (.aload_n 0, 1) := by decide +kernel
theorem dX6_putValue_23 : decode cX6_putValue 23 = .ok (.iconst 0, 1) := by decide +kernel
theorem dX6_putValue_24 : decode cX6_putValue 24 = .ok (.putfield 25, 3) := by decide +kernel
theorem dX6_putValue_27 : decode cX6_putValue 27 = .ok (.return_, 1) := by decide +kernel
theorem dX6_valueOfThinks_0 : decode cX6_valueOfThinks 0 = .ok (.aload_n 0, 1) := by decide +kernel
theorem dX6_valueOfThinks_1 : decode cX6_valueOfThinks 1 = .ok (.ldc 102, 2) := by decide +kernel
theorem dX6_valueOfThinks_3 : decode cX6_valueOfThinks 3 = .ok (.invokevirtual 83, 3) := by decide +kernel
theorem dX6_valueOfThinks_6 : decode cX6_valueOfThinks 6 = .ok (.ifCond .eq 5, 3) := by decide +kernel
theorem dX6_valueOfThinks_9 : decode cX6_valueOfThinks 9 = .ok (.iconst 0, 1) := by decide +kernel
theorem dX6_valueOfThinks_10 : decode cX6_valueOfThinks 10 = .ok (.ireturn, 1) := by decide +kernel
theorem dX6_valueOfThinks_11 : decode cX6_valueOfThinks 11 = .ok (.aload_n 0, 1) := by decide +kernel
theorem dX6_valueOfThinks_12 : decode cX6_valueOfThinks 12 = .ok (.ldc 104, 2) := by decide +kernel
theorem dX6_valueOfThinks_14 : decode cX6_valueOfThinks 14 = .ok (.invokevirtual 83, 3) := by decide +kernel
theorem dX6_valueOfThinks_17 : decode cX6_valueOfThinks 17 = .ok (.ifCond .eq 5, 3) := by decide +kernel
theorem dX6_valueOfThinks_20 : decode cX6_valueOfThinks 20 = .ok (.iconst 1, 1) := by decide +kernel
theorem dX6_valueOfThinks_21 : decode cX6_valueOfThinks 21 = .ok (.ireturn, 1) := by decide +kernel
theorem dX6_valueOfThinks_22 : decode cX6_valueOfThinks 22 = .ok (.aload_n 0, 1) := by decide +kernel
theorem dX6_valueOfThinks_23 : decode cX6_valueOfThinks 23 = .ok (.ldc 106, 2) := by decide +kernel
theorem dX6_valueOfThinks_25 : decode cX6_valueOfThinks 25 = .ok (.invokevirtual 83, 3) := by decide +kernel
theorem dX6_valueOfThinks_28 : decode cX6_valueOfThinks 28 = .ok (.ifCond .eq 5, 3) := by decide +kernel
theorem dX6_valueOfThinks_31 : decode cX6_valueOfThinks 31 = .ok (.iconst 2, 1) := by decide +kernel
theorem dX6_valueOfThinks_32 : decode cX6_valueOfThinks 32 = .ok (.ireturn, 1) := by decide +kernel
theorem dX6_valueOfThinks_33 : decode cX6_valueOfThinks 33 = .ok (.aload_n 0, 1) := by decide +kernel
theorem dX6_valueOfThinks_34 : decode cX6_valueOfThinks 34 = .ok (.ldc 108, 2) := by decide +kernel
theorem dX6_valueOfThinks_36 : decode cX6_valueOfThinks 36 = .ok (.invokevirtual 83, 3) := by decide +kernel
theorem dX6_valueOfThinks_39 : decode cX6_valueOfThinks 39 = .ok (.ifCond .eq 5, 3) := by decide +kernel
theorem dX6_valueOfThinks_42 : decode cX6_valueOfThinks 42 = .ok (.iconst 3, 1) := by decide +kernel
theorem dX6_valueOfThinks_43 : decode cX6_valueOfThinks 43 = .ok (.ireturn, 1) := by decide +kernel
theorem dX6_valueOfThinks_44 : decode cX6_valueOfThinks 44 = .ok (.aload_n 0, 1) := by decide +kernel
theorem dX6_valueOfThinks_45 : decode cX6_valueOfThinks 45 = .ok (.ldc 110, 2) := by decide +kernel
theorem dX6_valueOfThinks_47 : decode cX6_valueOfThinks 47 = .ok (.invokevirtual 83, 3) := by decide +kernel
theorem dX6_valueOfThinks_50 : decode cX6_valueOfThinks 50 = .ok (.ifCond .eq 5, 3) := by decide +kernel
theorem dX6_valueOfThinks_53 : decode cX6_valueOfThinks 53 = .ok (.iconst 4, 1) := by decide +kernel
theorem dX6_valueOfThinks_54 : decode cX6_valueOfThinks 54 = .ok (.ireturn, 1) := by decide +kernel
theorem dX6_valueOfThinks_55 : decode cX6_valueOfThinks 55 = .ok (.aload_n 0, 1) := by decide +kernel
theorem dX6_valueOfThinks_56 : decode cX6_valueOfThinks 56 = .ok (.ldc 112, 2) := by decide +kernel
theorem dX6_valueOfThinks_58 : decode cX6_valueOfThinks 58 = .ok (.invokevirtual 83, 3) := by decide +kernel
theorem dX6_valueOfThinks_61 : decode cX6_valueOfThinks 61 = .ok (.ifCond .eq 7, 3) := by decide +kernel
theorem dX6_valueOfThinks_64 : decode cX6_valueOfThinks 64 = .ok (.iconst 5, 1) := by decide +kernel
theorem dX6_valueOfThinks_65 : decode cX6_valueOfThinks 65 = .ok (.goto 4, 3) := by decide +kernel
theorem dX6_valueOfThinks_68 : decode cX6_valueOfThinks 68 = .ok (.iconst (-1), 1) := by decide +kernel
theorem dX6_valueOfThinks_69 : decode cX6_valueOfThinks 69 = .ok (.ireturn, 1) := by decide +kernel
theorem dX6_valueOfSounds_0 : decode cX6_valueOfSounds 0 = .ok (.aload_n 0, 1) := by decide +kernel
theorem dX6_valueOfSounds_1 : decode cX6_valueOfSounds 1 = .ok (.ldc 114, 2) := by decide +kernel
theorem dX6_valueOfSounds_3 : decode cX6_valueOfSounds 3 = .ok (.invokevirtual 83, 3) := by decide +kernel
theorem dX6_valueOfSounds_6 : decode cX6_valueOfSounds 6 = .ok (.ifCond .eq 5, 3) := by decide +kernel
theorem dX6_valueOfSounds_9 : decode cX6_valueOfSounds 9 = .ok (.iconst 0, 1) := by decide +kernel
theorem dX6_valueOfSounds_10 : decode cX6_valueOfSounds 10 = .ok (.ireturn, 1) := by decide +kernel
theorem dX6_valueOfSounds_11 : decode cX6_valueOfSounds 11 = .ok (.aload_n 0, 1) := by decide +kernel
theorem dX6_valueOfSounds_12 : decode cX6_valueOfSounds 12 = .ok (.ldc 116, 2) := by decide +kernel
theorem dX6_valueOfSounds_14 : decode cX6_valueOfSounds 14 = .ok (.invokevirtual 83, 3) := by decide +kernel
theorem dX6_valueOfSounds_17 : decode cX6_valueOfSounds 17 = .ok (.ifCond .eq 5, 3) := by decide +kernel
theorem dX6_valueOfSounds_20 : decode cX6_valueOfSounds 20 = .ok (.iconst 1, 1) := by decide +kernel
theorem dX6_valueOfSounds_21 : decode cX6_valueOfSounds 21 = .ok (.ireturn, 1) := by decide +kernel
theorem dX6_valueOfSounds_22 : decode cX6_valueOfSounds 22 = .ok (.aload_n 0, 1) := by decide +kernel
theorem dX6_valueOfSounds_23 : decode cX6_valueOfSounds 23 = .ok (.ldc 106, 2) := by decide +kernel
theorem dX6_valueOfSounds_25 : decode cX6_valueOfSounds 25 = .ok (.invokevirtual 83, 3) := by decide +kernel
theorem dX6_valueOfSounds_28 : decode cX6_valueOfSounds 28 = .ok (.ifCond .eq 5, 3) := by decide +kernel
theorem dX6_valueOfSounds_31 : decode cX6_valueOfSounds 31 = .ok (.iconst 2, 1) := by decide +kernel
theorem dX6_valueOfSounds_32 : decode cX6_valueOfSounds 32 = .ok (.ireturn, 1) := by decide +kernel
theorem dX6_valueOfSounds_33 : decode cX6_valueOfSounds 33 = .ok (.aload_n 0, 1) := by decide +kernel
theorem dX6_valueOfSounds_34 : decode cX6_valueOfSounds 34 = .ok (.ldc 118, 2) := by decide +kernel
theorem dX6_valueOfSounds_36 : decode cX6_valueOfSounds 36 = .ok (.invokevirtual 83, 3) := by decide +kernel
theorem dX6_valueOfSounds_39 : decode cX6_valueOfSounds 39 = .ok (.ifCond .eq 5, 3) := by decide +kernel
theorem dX6_valueOfSounds_42 : decode cX6_valueOfSounds 42 = .ok (.iconst 3, 1) := by decide +kernel
theorem dX6_valueOfSounds_43 : decode cX6_valueOfSounds 43 = .ok (.ireturn, 1) := by decide +kernel
theorem dX6_valueOfSounds_44 : decode cX6_valueOfSounds 44 = .ok (.aload_n 0, 1) := by decide +kernel
theorem dX6_valueOfSounds_45 : decode cX6_valueOfSounds 45 = .ok (.ldc 112, 2) := by decide +kernel
theorem dX6_valueOfSounds_47 : decode cX6_valueOfSounds 47 = .ok (.invokevirtual 83, 3) := by decide +kernel
theorem dX6_valueOfSounds_50 : decode cX6_valueOfSounds 50 = .ok (.ifCond .eq 7, 3) := by decide +kernel
theorem dX6_valueOfSounds_53 : decode cX6_valueOfSounds 53 = .ok (.iconst 5, 1) := by decide +kernel
theorem dX6_valueOfSounds_54 : decode cX6_valueOfSounds 54 = .ok (.goto 4, 3) := by decide +kernel
theorem dX6_valueOfSounds_57 : decode cX6_valueOfSounds 57 = .ok (.iconst (-1), 1) := by decide +kernel
theorem dX6_valueOfSounds_58 : decode cX6_valueOfSounds 58 = .ok (.ireturn, 1) := by decide +kernel
theorem dX6_readBehindPart_0 : decode cX6_readBehindPart 0 = .ok (.aload_n 1, 1) := by decide +kernel
theorem dX6_readBehindPart_1 : decode cX6_readBehindPart 1 = .ok (.invokestatic 120, 3) := by decide +kernel
theorem dX6_readBehindPart_4 : decode cX6_readBehindPart 4 = .ok (.istore_n 3, 1) := by decide +kernel
theorem dX6_readBehindPart_5 : decode cX6_readBehindPart 5 = .ok (.aload_n 1, 1) := by decide +kernel
theorem dX6_readBehindPart_6 : decode cX6_readBehindPart 6 = .ok (.getfield 69, 3) := by decide +kernel
theorem dX6_readBehindPart_9 : decode cX6_readBehindPart 9 = .ok (.bipush 41, 2) := by decide +kernel
theorem dX6_readBehindPart_11 : decode cX6_readBehindPart 11 = .ok (.if_icmp .ne 33, 3) := by decide +kernel
theorem dX6_readBehindPart_14 : decode cX6_readBehindPart 14 = .ok (.aload_n 0, 1) := by decide +kernel
theorem dX6_readBehindPart_15 : decode cX6_readBehindPart 15 = .ok (.getfield 19, 3) := by decide +kernel
theorem dX6_readBehindPart_18 : decode cX6_readBehindPart 18 = .ok (.ifCond .le 26, 3) := by decide +kernel
theorem dX6_readBehindPart_21 : decode cX6_readBehindPart 21 = .ok (.aload_n 0, 1) := by decide +kernel
theorem dX6_readBehindPart_22 : decode cX6_readBehindPart 22 = .ok (.aload_n 2, 1) := by decide +kernel
theorem dX6_readBehindPart_23 : decode cX6_readBehindPart 23 = .ok (.iconst 1, 1) := by decide +kernel
theorem dX6_readBehindPart_24 : decode cX6_readBehindPart 24 = .ok (.invokevirtual 65, 3) := by decide +kernel
theorem dX6_readBehindPart_27 : decode cX6_readBehindPart 27 = .ok (.aload_n 0, 1) := by decide +kernel
theorem dX6_readBehindPart_28 : decode cX6_readBehindPart 28 = .ok (.invokevirtual 123, 3) := by decide +kernel
theorem dX6_readBehindPart_31 : decode cX6_readBehindPart 31 = .ok (.aload_n 0, 1) := by decide +kernel
theorem dX6_readBehindPart_32 : decode cX6_readBehindPart 32 = .ok (.dup, 1) := by decide +kernel
theorem dX6_readBehindPart_33 : decode cX6_readBehindPart 33 = .ok (.getfield 19, 3) := by decide +kernel
theorem dX6_readBehindPart_36 : decode cX6_readBehindPart 36 = .ok (.iconst 1, 1) := by decide +kernel
theorem dX6_readBehindPart_37 : decode cX6_readBehindPart 37 = .ok (.isub, 1) := by decide +kernel
theorem dX6_readBehindPart_38 : decode cX6_readBehindPart 38 = .ok (.putfield 19, 3) := by decide +kernel
theorem dX6_readBehindPart_41 : decode cX6_readBehindPart 41 = .ok (.goto 50, 3) := by decide +kernel
theorem dX6_readBehindPart_44 : decode cX6_readBehindPart 44 = .ok (.iload_n 3, 1) := by decide +kernel
theorem dX6_readBehindPart_45 : decode cX6_readBehindPart 45 = .ok (.iconst (-1), 1) := by decide +kernel
theorem dX6_readBehindPart_46 : decode cX6_readBehindPart 46 = .ok (.if_icmp .ne 11, 3) := by decide +kernel
theorem dX6_readBehindPart_49 : decode cX6_readBehindPart 49 = .ok (.aload_n 1, 1) := by decide +kernel
theorem dX6_readBehindPart_50 : decode cX6_readBehindPart 50 = .ok (.iconst 1, 1) := by decide +kernel
theorem dX6_readBehindPart_51 : decode cX6_readBehindPart 51 = .ok (.invokevirtual 40, 3) := by decide +kernel
theorem dX6_readBehindPart_54 : decode cX6_readBehindPart 54 = .ok (.goto 37, 3) := by decide +kernel
theorem dX6_readBehindPart_57 : decode cX6_readBehindPart 57 = .ok (.getstatic 126, 3) := by decide +kernel
theorem dX6_readBehindPart_60 : decode cX6_readBehindPart 60 = .ok (.iload_n 3, 1) := by decide +kernel
theorem dX6_readBehindPart_61 : decode cX6_readBehindPart 61 = .ok (.iaload, 1) := by decide +kernel
theorem dX6_readBehindPart_62 : decode cX6_readBehindPart 62 = .ok (.getstatic 126, 3) := by decide +kernel
theorem dX6_readBehindPart_65 : decode cX6_readBehindPart 65 = .ok (.iconst 4, 1) := by decide +kernel
theorem dX6_readBehindPart_66 : decode cX6_readBehindPart 66 = .ok (.iaload, 1) := by decide +kernel
theorem dX6_readBehindPart_67 : decode cX6_readBehindPart 67 = .ok (.if_icmp .ne 13, 3) := by decide +kernel
theorem dX6_readBehindPart_70 : decode cX6_readBehindPart 70 = .ok (.aload_n 0, 1) := by decide +kernel
theorem dX6_readBehindPart_71 : decode cX6_readBehindPart 71 = .ok (.aload_n 1, 1) := by decide +kernel
theorem dX6_readBehindPart_72 : decode cX6_readBehindPart 72 = .ok (.aload_n 2, 1) := by decide +kernel
theorem dX6_readBehindPart_73 : decode cX6_readBehindPart 73 = .ok (.iload_n 3, 1) := by decide +kernel
theorem dX6_readBehindPart_74 : decode cX6_readBehindPart 74 = .ok (.invokevirtual 129, 3) := by decide +kernel
theorem dX6_readBehindPart_77 : decode cX6_readBehindPart 77 = .ok (.goto 14, 3) := by decide +kernel
theorem dX6_readBehindPart_80 : decode cX6_readBehindPart 80 = .ok (.aload_n 0, 1) := by decide +kernel
theorem dX6_readBehindPart_81 : decode cX6_readBehindPart 81 = .ok (.aload_n 2, 1) := by decide +kernel
theorem dX6_readBehindPart_82 : decode cX6_readBehindPart 82 = .ok (.iload_n 3, 1) := by decide +kernel
theorem dX6_readBehindPart_83 : decode cX6_readBehindPart 83 = .ok (.invokevirtual 65, 3) := by decide +kernel
theorem dX6_readBehindPart_86 : decode cX6_readBehindPart 86 = .ok (.aload_n 0, 1) := by decide +kernel
theorem dX6_readBehindPart_87 : decode cX6_readBehindPart 87 = .ok (.iload_n 3, 1) := by decide +kernel
theorem dX6_readBehindPart_88 : decode cX6_readBehindPart 88 = .ok (.invokevirtual 132, 3) := by decide +kernel
theorem dX6_readBehindPart_91 : decode cX6_readBehindPart 91 = .ok (.return_, 1) := by decide +kernel
theorem dX6_readTest_0 : decode cX6_readTest 0 = .ok (.aload_n 0, 1) := by decide +kernel
theorem dX6_readTest_1 : decode cX6_readTest 1 = .ok (.aload_n 2, 1) := by decide +kernel
theorem dX6_readTest_2 : decode cX6_readTest 2 = .ok (.bipush 6, 2) := by decide +kernel
theorem dX6_readTest_4 : decode cX6_readTest 4 = .ok (.invokevirtual 65, 3) := by decide +kernel
theorem dX6_readTest_7 : decode cX6_readTest 7 = .ok (.aload_n 0, 1) := by decide +kernel
theorem dX6_readTest_8 : decode cX6_readTest 8 = .ok (.getfield 15, 3) := by decide +kernel
theorem dX6_readTest_11 : decode cX6_readTest 11 = .ok (.ifCond .le 31, 3) := by decide +kernel
theorem dX6_readTest_14 : decode cX6_readTest 14 = .ok (.getstatic 126, 3) := by decide +kernel
theorem dX6_readTest_17 : decode cX6_readTest 17 = .ok (.aload_n 0, 1) := by decide +kernel
theorem dX6_readTest_18 : decode cX6_readTest 18 = .ok (.getfield 11, 3) := by decide +kernel
theorem dX6_readTest_21 : decode cX6_readTest 21 = .ok (.aload_n 0, 1) := by decide +kernel
theorem dX6_readTest_22 : decode cX6_readTest 22 = .ok (.getfield 15, 3) := by decide +kernel
theorem dX6_readTest_25 : decode cX6_readTest 25 = .ok (.iconst 1, 1) := by decide +kernel
theorem dX6_readTest_26 : decode cX6_readTest 26 = .ok (.isub, 1) := by decide +kernel
theorem dX6_readTest_27 : decode cX6_readTest 27 = .ok (.iaload, 1) := by decide +kernel
theorem dX6_readTest_28 : decode cX6_readTest 28 = .ok (.iaload, 1) := by decide +kernel
theorem dX6_readTest_29 : decode cX6_readTest 29 = .ok (.getstatic 126, 3) := by decide +kernel
theorem dX6_readTest_32 : decode cX6_readTest 32 = .ok (.iconst 4, 1) := by decide +kernel
theorem dX6_readTest_33 : decode cX6_readTest 33 = .ok (.iaload, 1) := by decide +kernel
theorem dX6_readTest_34 : decode cX6_readTest 34 = .ok (.if_icmp .ne 8, 3) := by decide +kernel
theorem dX6_readTest_37 : decode cX6_readTest 37 = .ok (.aload_n 1, 1) := by decide +kernel
theorem dX6_readTest_38 : decode cX6_readTest 38 = .ok (.iconst 1, 1) := by decide +kernel
theorem dX6_readTest_39 : decode cX6_readTest 39 = .ok (.invokevirtual 40, 3) := by decide +kernel
theorem dX6_readTest_42 : decode cX6_readTest 42 = .ok (.aload_n 0, 1) := by decide +kernel
theorem dX6_readTest_43 : decode cX6_readTest 43 = .ok (.iload_n 3, 1) := by decide +kernel
theorem dX6_readTest_44 : decode cX6_readTest 44 = .ok (.invokevirtual 132, 3) := by decide +kernel
theorem dX6_readTest_47 : decode cX6_readTest 47 = .ok (.return_, 1) := by decide +kernel
theorem dX6_letWait_0 : decode cX6_letWait 0 = .ok (.aload_n 0, 1) := by decide +kernel
theorem dX6_letWait_1 : decode cX6_letWait 1 = .ok (.iload_n 1, 1) := by decide +kernel
theorem dX6_letWait_2 : decode cX6_letWait 2 = .ok (.invokevirtual 75, 3) := by decide +kernel
theorem dX6_letWait_5 : decode cX6_letWait 5 = .ok (.aload_n 0, 1) := by decide +kernel
theorem dX6_letWait_6 : decode cX6_letWait 6 = .ok (.iconst 1, 1) := by decide +kernel
theorem dX6_letWait_7 : decode cX6_letWait 7 = .ok (.putfield 25, 3) := by decide +kernel
theorem dX6_letWait_10 : decode cX6_letWait 10 = .ok (.aload_n 0, 1) := by decide +kernel
theorem dX6_letWait_11 : decode cX6_letWait 11 = .ok (.iload_n 1, 1) := by decide +kernel
theorem dX6_letWait_12 : decode cX6_letWait 12 = .ok (.iconst 1, 1) := by decide +kernel
theorem dX6_letWait_13 : decode cX6_letWait 13 = .ok (.if_icmp .eq 8, 3) := by decide +kernel
theorem dX6_letWait_16 : decode cX6_letWait 16 = .ok (.iload_n 1, 1) := by decide +kernel
theorem dX6_letWait_17 : decode cX6_letWait 17 = .ok (.iconst 2, 1) := by decide +kernel
theorem dX6_letWait_18 : decode cX6_letWait 18 = .ok (.if_icmp .ne 7, 3) := by decide +kernel
theorem dX6_letWait_21 : decode cX6_letWait 21 = .ok (.iconst 1, 1) := by decide +kernel
theorem dX6_letWait_22 : decode cX6_letWait 22 = .ok (.goto 4, 3) := by decide +kernel
theorem dX6_letWait_25 : decode cX6_letWait 25 = .ok (.iconst 0, 1) := by decide +kernel
theorem dX6_letWait_26 : decode cX6_letWait 26 = .ok (.putfield 29, 3) := by decide +kernel
theorem dX6_letWait_29 : decode cX6_letWait 29 = .ok (.aload_n 0, 1) := by decide +kernel
theorem dX6_letWait_30 : decode cX6_letWait 30 = .ok (.iconst 0, 1) := by decide +kernel
theorem dX6_letWait_31 : decode cX6_letWait 31 = .ok (.putfield 22, 3) := by decide +kernel
theorem dX6_letWait_34 : decode cX6_letWait 34 = .ok (.return_, 1) := by decide +kernel
theorem dX6_release_0 : decode cX6_release 0 = .ok (.aload_n 0, 1) := by decide +kernel
theorem dX6_release_1 : decode cX6_release 1 = .ok (.getfield 15, 3) := by decide +kernel
theorem dX6_release_4 : decode cX6_release 4 = .ok (.ifCond .le 56, 3) := by decide +kernel
theorem dX6_release_7 : decode cX6_release 7 = .ok (.getstatic 126, 3) := by decide +kernel
theorem dX6_release_10 : decode cX6_release 10 = .ok (.aload_n 0, 1) := by decide +kernel
theorem dX6_release_11 : decode cX6_release 11 = .ok (.getfield 11, 3) := by decide +kernel
theorem dX6_release_14 : decode cX6_release 14 = .ok (.aload_n 0, 1) := by decide +kernel
theorem dX6_release_15 : decode cX6_release 15 = .ok (.getfield 15, 3) := by decide +kernel
theorem dX6_release_18 : decode cX6_release 18 = .ok (.iconst 1, 1) := by decide +kernel
theorem dX6_release_19 : decode cX6_release 19 = .ok (.isub, 1) := by decide +kernel
theorem dX6_release_20 : decode cX6_release 20 = .ok (.iaload, 1) := by decide +kernel
theorem dX6_release_21 : decode cX6_release 21 = .ok (.iaload, 1) := by decide +kernel
theorem dX6_release_22 : decode cX6_release 22 = .ok (.getstatic 126, 3) := by decide +kernel
theorem dX6_release_25 : decode cX6_release 25 = .ok (.iload_n 2, 1) := by decide +kernel
theorem dX6_release_26 : decode cX6_release 26 = .ok (.iaload, 1) := by decide +kernel
theorem dX6_release_27 : decode cX6_release 27 = .ok (.if_icmp .lt 33, 3) := by decide +kernel
theorem dX6_release_30 : decode cX6_release 30 = .ok (.aload_n 0, 1) := by decide +kernel
theorem dX6_release_31 : decode cX6_release 31 = .ok (.dup, 1) := by decide +kernel
theorem dX6_release_32 : decode cX6_release 32 = .ok (.getfield 15, 3) := by decide +kernel
theorem dX6_release_35 : decode cX6_release 35 = .ok (.iconst 1, 1) := by decide +kernel
theorem dX6_release_36 : decode cX6_release 36 = .ok (.isub, 1) := by decide +kernel
theorem dX6_release_37 : decode cX6_release 37 = .ok (.putfield 15, 3) := by decide +kernel
theorem dX6_release_40 : decode cX6_release 40 = .ok (.aload_n 1, 1) := by decide +kernel
theorem dX6_release_41 : decode cX6_release 41 = .ok (.sipush 20000, 3) := by decide +kernel
theorem dX6_release_44 : decode cX6_release 44 = .ok (.aload_n 0, 1) := by decide +kernel
theorem dX6_release_45 : decode cX6_release 45 = .ok (.getfield 11, 3) := by decide +kernel
theorem dX6_release_48 : decode cX6_release 48 = .ok (.aload_n 0, 1) := by decide +kernel
theorem dX6_release_49 : decode cX6_release 49 = .ok (.getfield 15, 3) := by decide +kernel
theorem dX6_release_52 : decode cX6_release 52 = .ok (.iaload, 1) := by decide +kernel
theorem dX6_release_53 : decode cX6_release 53 = .ok (.iadd, 1) := by decide +kernel
theorem dX6_release_54 : decode cX6_release 54 = .ok (.invokevirtual 78, 3) := by decide +kernel
theorem dX6_release_57 : decode cX6_release 57 = .ok (.goto (-57), 3) := by decide +kernel
theorem dX6_release_60 : decode cX6_release 60 = .ok (.return_, 1) := by decide +kernel
theorem dX6_push_0 : decode cX6_push 0 = .ok (.aload_n 0, 1) := by decide +kernel
theorem dX6_push_1 : decode cX6_push 1 = .ok (.getfield 15, 3) := by decide +kernel
theorem dX6_push_4 : decode cX6_push 4 = .ok (.aload_n 0, 1) := by decide +kernel
theorem dX6_push_5 : decode cX6_push 5 = .ok (.getfield 11, 3) := by decide +kernel
theorem dX6_push_8 : decode cX6_push 8 = .ok (.arraylength, 1) := by decide +kernel
theorem dX6_push_9 : decode cX6_push 9 = .ok (.if_icmp .ge 23, 3) := by decide +kernel
theorem dX6_push_12 : decode cX6_push 12 = .ok (.aload_n 0, 1) := by decide +kernel
theorem dX6_push_13 : decode cX6_push 13 = .ok (.getfield 11, 3) := by decide +kernel
theorem dX6_push_16 : decode cX6_push 16 = .ok (.aload_n 0, 1) := by decide +kernel
theorem dX6_push_17 : decode cX6_push 17 = .ok (.getfield 15, 3) := by decide +kernel
theorem dX6_push_20 : decode cX6_push 20 = .ok (.iload_n 1, 1) := by decide +kernel
theorem dX6_push_21 : decode cX6_push 21 = .ok (.iastore, 1) := by decide +kernel
theorem dX6_push_22 : decode cX6_push 22 = .ok (.aload_n 0, 1) := by decide +kernel
theorem dX6_push_23 : decode cX6_push 23 = .ok (.dup, 1) := by decide +kernel
theorem dX6_push_24 : decode cX6_push 24 = .ok (.getfield 15, 3) := by decide +kernel
theorem dX6_push_27 : decode cX6_push 27 = .ok (.iconst 1, 1) := by decide +kernel
theorem dX6_push_28 : decode cX6_push 28 = .ok (.iadd, 1) := by decide +kernel
theorem dX6_push_29 : decode cX6_push 29 = .ok (.putfield 15, 3) := by decide +kernel
theorem dX6_push_32 : decode cX6_push 32 = .ok (.return_, 1) := by decide +kernel
theorem dX6_pop_0 : decode cX6_pop 0 = .ok (.aload_n 0, 1) := by decide +kernel
theorem dX6_pop_1 : decode cX6_pop 1 = .ok (.getfield 15, 3) := by decide +kernel
theorem dX6_pop_4 : decode cX6_pop 4 = .ok (.ifCond .le 13, 3) := by decide +kernel
theorem dX6_pop_7 : decode cX6_pop 7 = .ok (.aload_n 0, 1) := by decide +kernel
theorem dX6_pop_8 : decode cX6_pop 8 = .ok (.dup, 1) := by decide +kernel
theorem dX6_pop_9 : decode cX6_pop 9 = .ok (.getfield 15, 3) := by decide +kernel
theorem dX6_pop_12 : decode cX6_pop 12 = .ok (.iconst 1, 1) := by decide +kernel
theorem dX6_pop_13 : decode cX6_pop 13 = .ok (.isub, 1) := by decide +kernel
theorem dX6_pop_14 : decode cX6_pop 14 = .ok (.putfield 15, 3) := by decide +kernel
theorem dX6_pop_17 : decode cX6_pop 17 = .ok (.return_, 1) := by decide +kernel
theorem dX6_operatorOf_0 : decode cX6_operatorOf 0 = .ok (.aload_n 0, 1) := by decide +kernel
theorem dX6_operatorOf_1 : decode cX6_operatorOf 1 = .ok (.getfield 69, 3) := by decide +kernel
theorem dX6_operatorOf_4 : decode cX6_operatorOf 4 = .ok (.tableswitch 112 42 61 #[106, 100, 112, 103, 112, 109, 112, 112, 112, 112, 112, 112, 112, 112, 112, 112, 112, 112, 96, 98], 96) := by decide +kernel
theorem dX6_operatorOf_100 : decode cX6_operatorOf 100 = .ok (.iconst 4, 1) := by decide +kernel
theorem dX6_operatorOf_101 : decode cX6_operatorOf 101 = .ok (.ireturn, 1) := by decide +kernel
theorem dX6_operatorOf_102 : decode cX6_operatorOf 102 = .ok (.iconst 5, 1) := by decide +kernel
theorem dX6_operatorOf_103 : decode cX6_operatorOf 103 = .ok (.ireturn, 1) := by decide +kernel
theorem dX6_operatorOf_104 : decode cX6_operatorOf 104 = .ok (.bipush 6, 2) := by decide +kernel
theorem dX6_operatorOf_106 : decode cX6_operatorOf 106 = .ok (.ireturn, 1) := by decide +kernel
theorem dX6_operatorOf_107 : decode cX6_operatorOf 107 = .ok (.bipush 7, 2) := by decide +kernel
theorem dX6_operatorOf_109 : decode cX6_operatorOf 109 = .ok (.ireturn, 1) := by decide +kernel
theorem dX6_operatorOf_110 : decode cX6_operatorOf 110 = .ok (.bipush 8, 2) := by decide +kernel
theorem dX6_operatorOf_112 : decode cX6_operatorOf 112 = .ok (.ireturn, 1) := by decide +kernel
theorem dX6_operatorOf_113 : decode cX6_operatorOf 113 = .ok (.bipush 9, 2) := by decide +kernel
theorem dX6_operatorOf_115 : decode cX6_operatorOf 115 = .ok (.ireturn, 1) := by decide +kernel
theorem dX6_operatorOf_116 : decode cX6_operatorOf 116 = .ok (.aload_n 0, 1) := by decide +kernel
theorem dX6_operatorOf_117 : decode cX6_operatorOf 117 = .ok (.ldc 135, 2) := by decide +kernel
theorem dX6_operatorOf_119 : decode cX6_operatorOf 119 = .ok (.invokevirtual 83, 3) := by decide +kernel
theorem dX6_operatorOf_122 : decode cX6_operatorOf 122 = .ok (.ifCond .eq 5, 3) := by decide +kernel
theorem dX6_operatorOf_125 : decode cX6_operatorOf 125 = .ok (.iconst 1, 1) := by decide +kernel
theorem dX6_operatorOf_126 : decode cX6_operatorOf 126 = .ok (.ireturn, 1) := by decide +kernel
theorem dX6_operatorOf_127 : decode cX6_operatorOf 127 = .ok (.aload_n 0, 1) := by decide +kernel
theorem dX6_operatorOf_128 : decode cX6_operatorOf 128 = .ok (.ldc 137, 2) := by decide +kernel
theorem dX6_operatorOf_130 : decode cX6_operatorOf 130 = .ok (.invokevirtual 83, 3) := by decide +kernel
theorem dX6_operatorOf_133 : decode cX6_operatorOf 133 = .ok (.ifCond .eq 7, 3) := by decide +kernel
theorem dX6_operatorOf_136 : decode cX6_operatorOf 136 = .ok (.iconst 2, 1) := by decide +kernel
theorem dX6_operatorOf_137 : decode cX6_operatorOf 137 = .ok (.goto 4, 3) := by decide +kernel
theorem dX6_operatorOf_140 : decode cX6_operatorOf 140 = .ok (.iconst (-1), 1) := by decide +kernel
theorem dX6_operatorOf_141 : decode cX6_operatorOf 141 = .ok (.ireturn, 1) := by decide +kernel
theorem dX7_init_0 : decode cX7_init 0 = .ok (.aload_n 0, 1) := by decide +kernel
theorem dX7_init_1 : decode cX7_init 1 = .ok (.invokespecial 3, 3) := by decide +kernel
theorem dX7_init_4 : decode cX7_init 4 = .ok (.aload_n 0, 1) := by decide +kernel
theorem dX7_init_5 : decode cX7_init 5 = .ok (.bipush 80, 2) := by decide +kernel
theorem dX7_init_7 : decode cX7_init 7 = .ok (.newarray .int, 2) := by decide +kernel
theorem dX7_init_9 : decode cX7_init 9 = .ok (.putfield 9, 3) := by decide +kernel
theorem dX7_init_12 : decode cX7_init 12 = .ok (.aload_n 0, 1) := by decide +kernel
theorem dX7_init_13 : decode cX7_init 13 = .ok (.getfield 9, 3) := by decide +kernel
theorem dX7_init_16 : decode cX7_init 16 = .ok (.bipush 24, 2) := by decide +kernel
theorem dX7_init_18 : decode cX7_init 18 = .ok (.bipush 32, 2) := by decide +kernel
theorem dX7_init_20 : decode cX7_init 20 = .ok (.iconst (-1), 1) := by decide +kernel
theorem dX7_init_21 : decode cX7_init 21 = .ok (.invokestatic 15, 3) := by decide +kernel
theorem dX7_init_24 : decode cX7_init 24 = .ok (.return_, 1) := by decide +kernel
theorem dX7_begin_0 : decode cX7_begin 0 = .ok (.aload_n 0, 1) := by decide +kernel
theorem dX7_begin_1 : decode cX7_begin 1 = .ok (.getfield 9, 3) := by decide +kernel
theorem dX7_begin_4 : decode cX7_begin 4 = .ok (.iconst 0, 1) := by decide +kernel
theorem dX7_begin_5 : decode cX7_begin 5 = .ok (.invokestatic 21, 3) := by decide +kernel
theorem dX7_begin_8 : decode cX7_begin 8 = .ok (.aload_n 1, 1) := by decide +kernel
theorem dX7_begin_9 : decode cX7_begin 9 = .ok (.getfield 24, 3) := by decide +kernel
theorem dX7_begin_12 : decode cX7_begin 12 = .ok (.iconst 0, 1) := by decide +kernel
theorem dX7_begin_13 : decode cX7_begin 13 = .ok (.aload_n 0, 1) := by decide +kernel
theorem dX7_begin_14 : decode cX7_begin 14 = .ok (.getfield 9, 3) := by decide +kernel
theorem dX7_begin_17 : decode cX7_begin 17 = .ok (.iconst 2, 1) := by decide +kernel
theorem dX7_begin_18 : decode cX7_begin 18 = .ok (.bipush 6, 2) := by decide +kernel
theorem dX7_begin_20 : decode cX7_begin 20 = .ok (.invokestatic 29, 3) := by decide +kernel
theorem dX7_begin_23 : decode cX7_begin 23 = .ok (.aload_n 1, 1) := by decide +kernel
theorem dX7_begin_24 : decode cX7_begin 24 = .ok (.getfield 35, 3) := by decide +kernel
theorem dX7_begin_27 : decode cX7_begin 27 = .ok (.iconst 0, 1) := by decide +kernel
theorem dX7_begin_28 : decode cX7_begin 28 = .ok (.aload_n 0, 1) := by decide +kernel
theorem dX7_begin_29 : decode cX7_begin 29 = .ok (.getfield 9, 3) := by decide +kernel
theorem dX7_begin_32 : decode cX7_begin 32 = .ok (.bipush 24, 2) := by decide +kernel
theorem dX7_begin_34 : decode cX7_begin 34 = .ok (.bipush 8, 2) := by decide +kernel
theorem dX7_begin_36 : decode cX7_begin 36 = .ok (.invokestatic 29, 3) := by decide +kernel
theorem dX7_begin_39 : decode cX7_begin 39 = .ok (.return_, 1) := by decide +kernel
theorem dX7_copyFrom_0 : decode cX7_copyFrom 0 = .ok (.aload_n 1, 1) := by decide +kernel
theorem dX7_copyFrom_1 : decode cX7_copyFrom 1 = .ok (.getfield 9, 3) := by decide +kernel
theorem dX7_copyFrom_4 : decode cX7_copyFrom 4 = .ok (.iconst 0, 1) := by decide +kernel
theorem dX7_copyFrom_5 : decode cX7_copyFrom 5 = .ok (.aload_n 0, 1) := by decide +kernel
theorem dX7_copyFrom_6 : decode cX7_copyFrom 6 = .ok (.getfield 9, 3) := by decide +kernel
theorem dX7_copyFrom_9 : decode cX7_copyFrom 9 = .ok (.iconst 0, 1) := by decide +kernel
theorem dX7_copyFrom_10 : decode cX7_copyFrom 10 = .ok (.bipush 80, 2) := by decide +kernel
theorem dX7_copyFrom_12 : decode cX7_copyFrom 12 = .ok (.invokestatic 29, 3) := by decide +kernel
theorem dX7_copyFrom_15 : decode cX7_copyFrom 15 = .ok (.return_, 1) := by decide +kernel
theorem dX7_isLike_0 : decode cX7_isLike 0 = .ok (.iconst 0, 1) := by decide +kernel
theorem dX7_isLike_1 : decode cX7_isLike 1 = .ok (.istore_n 2, 1) := by decide +kernel
theorem dX7_isLike_2 : decode cX7_isLike 2 = .ok (.iload_n 2, 1) := by decide +kernel
theorem dX7_isLike_3 : decode cX7_isLike 3 = .ok (.bipush 80, 2) := by decide +kernel
theorem dX7_isLike_5 : decode cX7_isLike 5 = .ok (.if_icmp .ge 26, 3) := by decide +kernel
theorem dX7_isLike_8 : decode cX7_isLike 8 = .ok (.aload_n 0, 1) := by decide +kernel
theorem dX7_isLike_9 : decode cX7_isLike 9 = .ok (.getfield 9, 3) := by decide +kernel
theorem dX7_isLike_12 : decode cX7_isLike 12 = .ok (.iload_n 2, 1) := by decide +kernel
theorem dX7_isLike_13 : decode cX7_isLike 13 = .ok (.iaload, 1) := by decide +kernel
theorem dX7_isLike_14 : decode cX7_isLike 14 = .ok (.aload_n 1, 1) := by decide +kernel
theorem dX7_isLike_15 : decode cX7_isLike 15 = .ok (.getfield 9, 3) := by decide +kernel
theorem dX7_isLike_18 : decode cX7_isLike 18 = .ok (.iload_n 2, 1) := by decide +kernel
theorem dX7_isLike_19 : decode cX7_isLike 19 = .ok (.iaload, 1) := by decide +kernel
theorem dX7_isLike_20 : decode cX7_isLike 20 = .ok (.if_icmp .eq 5, 3) := by decide +kernel
theorem dX7_isLike_23 : decode cX7_isLike 23 = .ok (.iconst 0, 1) := by decide +kernel
theorem dX7_isLike_24 : decode cX7_isLike 24 = .ok (.ireturn, 1) := by decide +kernel
theorem dX7_isLike_25 : decode cX7_isLike 25 = .ok (.iinc 2 1, 3) := by decide +kernel
theorem dX7_isLike_28 : decode cX7_isLike 28 = .ok (.goto (-26), 3) := by decide +kernel
theorem dX7_isLike_31 : decode cX7_isLike 31 = .ok (.iconst 1, 1) := by decide +kernel
theorem dX7_isLike_32 : decode cX7_isLike 32 = .ok (.ireturn, 1) := by decide +kernel
theorem dX7_dayNow_0 : decode cX7_dayNow 0 = .ok (.aload_n 0, 1) := by decide +kernel
theorem dX7_dayNow_1 : decode cX7_dayNow 1 = .ok (.getfield 9, 3) := by decide +kernel
theorem dX7_dayNow_4 : decode cX7_dayNow 4 = .ok (.iconst 0, 1) := by decide +kernel
theorem dX7_dayNow_5 : decode cX7_dayNow 5 = .ok (.iaload, 1) := by decide +kernel
theorem dX7_dayNow_6 : decode cX7_dayNow 6 = .ok (.ireturn, 1) := by decide +kernel
theorem dX7_nextDay_0 : decode cX7_nextDay 0 = .ok (.aload_n 0, 1) := by decide +kernel
theorem dX7_nextDay_1 : decode cX7_nextDay 1 = .ok (.getfield 9, 3) := by decide +kernel
theorem dX7_nextDay_4 : decode cX7_nextDay 4 = .ok (.iconst 0, 1) := by decide +kernel
theorem dX7_nextDay_5 : decode cX7_nextDay 5 = .ok (.dup2, 1) := by decide +kernel
theorem dX7_nextDay_6 : decode cX7_nextDay 6 = .ok (.iaload, 1) := by decide +kernel
theorem dX7_nextDay_7 : decode cX7_nextDay 7 = .ok (.iconst 1, 1) := by decide +kernel
theorem dX7_nextDay_8 : decode cX7_nextDay 8 = .ok (.iadd, 1) := by decide +kernel
theorem dX7_nextDay_9 : decode cX7_nextDay 9 = .ok (.iastore, 1) := by decide +kernel
theorem dX7_nextDay_10 : decode cX7_nextDay 10 = .ok (.return_, 1) := by decide +kernel
theorem dX7_onStrike_0 : decode cX7_onStrike 0 = .ok (.aload_n 0, 1) := by decide +kernel
theorem dX7_onStrike_1 : decode cX7_onStrike 1 = .ok (.getfield 9, 3) := by decide +kernel
theorem dX7_onStrike_4 : decode cX7_onStrike 4 = .ok (.iconst 1, 1) := by decide +kernel
theorem dX7_onStrike_5 : decode cX7_onStrike 5 = .ok (.iaload, 1) := by decide +kernel
theorem dX7_onStrike_6 : decode cX7_onStrike 6 = .ok (.iconst 1, 1) := by decide +kernel
theorem dX7_onStrike_7 : decode cX7_onStrike 7 = .ok (.if_icmp .ne 7, 3) := by decide +kernel
theorem dX7_onStrike_10 : decode cX7_onStrike 10 = .ok (.iconst 1, 1) := by decide +kernel
theorem dX7_onStrike_11 : decode cX7_onStrike 11 = .ok (.goto 4, 3) := by decide +kernel
theorem dX7_onStrike_14 : decode cX7_onStrike 14 = .ok (.iconst 0, 1) := by decide +kernel
theorem dX7_onStrike_15 : decode cX7_onStrike 15 = .ok (.ireturn, 1) := by decide +kernel
theorem dX7_setStrike_0 : decode cX7_setStrike 0 = .ok (.aload_n 0, 1) := by decide +kernel
theorem dX7_setStrike_1 : decode cX7_setStrike 1 = .ok (.getfield 9, 3) := by decide +kernel
theorem dX7_setStrike_4 : decode cX7_setStrike 4 = .ok (.iconst 1, 1) := by decide +kernel
theorem dX7_setStrike_5 : decode cX7_setStrike 5 = .ok (.iload_n 1, 1) := by decide +kernel
theorem dX7_setStrike_6 : decode cX7_setStrike 6 = .ok (.ifCond .eq 7, 3) := by decide +kernel
theorem dX7_setStrike_9 : decode cX7_setStrike 9 = .ok (.iconst 1, 1) := by decide +kernel
theorem dX7_setStrike_10 : decode cX7_setStrike 10 = .ok (.goto 4, 3) := by decide +kernel
theorem dX7_setStrike_13 : decode cX7_setStrike 13 = .ok (.iconst 0, 1) := by decide +kernel
theorem dX7_setStrike_14 : decode cX7_setStrike 14 = .ok (.iastore, 1) := by decide +kernel
theorem dX7_setStrike_15 : decode cX7_setStrike 15 = .ok (.return_, 1) := by decide +kernel
theorem dX7_redOf_0 : decode cX7_redOf 0 = .ok (.aload_n 0, 1) := by decide +kernel
theorem dX7_redOf_1 : decode cX7_redOf 1 = .ok (.getfield 9, 3) := by decide +kernel
theorem dX7_redOf_4 : decode cX7_redOf 4 = .ok (.iconst 2, 1) := by decide +kernel
theorem dX7_redOf_5 : decode cX7_redOf 5 = .ok (.iload_n 1, 1) := by decide +kernel
theorem dX7_redOf_6 : decode cX7_redOf 6 = .ok (.iadd, 1) := by decide +kernel
theorem dX7_redOf_7 : decode cX7_redOf 7 = .ok (.iaload, 1) := by decide +kernel
theorem dX7_redOf_8 : decode cX7_redOf 8 = .ok (.ireturn, 1) := by decide +kernel
theorem dX7_setRed_0 : decode cX7_setRed 0 = .ok (.aload_n 0, 1) := by decide +kernel
theorem dX7_setRed_1 : decode cX7_setRed 1 = .ok (.getfield 9, 3) := by decide +kernel
theorem dX7_setRed_4 : decode cX7_setRed 4 = .ok (.iconst 2, 1) := by decide +kernel
theorem dX7_setRed_5 : decode cX7_setRed 5 = .ok (.iload_n 1, 1) := by decide +kernel
theorem dX7_setRed_6 : decode cX7_setRed 6 = .ok (.iadd, 1) := by decide +kernel
theorem dX7_setRed_7 : decode cX7_setRed 7 = .ok (.iload_n 2, 1) := by decide +kernel
theorem dX7_setRed_8 : decode cX7_setRed 8 = .ok (.iastore, 1) := by decide +kernel
theorem dX7_setRed_9 : decode cX7_setRed 9 = .ok (.return_, 1) := by decide +kernel
theorem dX7_redOfAll_0 : decode cX7_redOfAll 0 = .ok (.aload_n 0, 1) := by decide +kernel
theorem dX7_redOfAll_1 : decode cX7_redOfAll 1 = .ok (.iconst 2, 1) := by decide +kernel
theorem dX7_redOfAll_2 : decode cX7_redOfAll 2 = .ok (.bipush 6, 2) := by decide +kernel
theorem dX7_redOfAll_4 : decode cX7_redOfAll 4 = .ok (.invokevirtual 38, 3) := by decide +kernel
theorem dX7_redOfAll_7 : decode cX7_redOfAll 7 = .ok (.ireturn, 1) := by decide +kernel
theorem dX7_regretOf_0 : decode cX7_regretOf 0 = .ok (.aload_n 0, 1) := by decide +kernel
theorem dX7_regretOf_1 : decode cX7_regretOf 1 = .ok (.getfield 9, 3) := by decide +kernel
theorem dX7_regretOf_4 : decode cX7_regretOf 4 = .ok (.bipush 8, 2) := by decide +kernel
theorem dX7_regretOf_6 : decode cX7_regretOf 6 = .ok (.iload_n 1, 1) := by decide +kernel
theorem dX7_regretOf_7 : decode cX7_regretOf 7 = .ok (.iadd, 1) := by decide +kernel
theorem dX7_regretOf_8 : decode cX7_regretOf 8 = .ok (.iaload, 1) := by decide +kernel
theorem dX7_regretOf_9 : decode cX7_regretOf 9 = .ok (.ireturn, 1) := by decide +kernel
theorem dX7_regretOfAll_0 : decode cX7_regretOfAll 0 = .ok (.aload_n 0, 1) := by decide +kernel
theorem dX7_regretOfAll_1 : decode cX7_regretOfAll 1 = .ok (.bipush 8, 2) := by decide +kernel
theorem dX7_regretOfAll_3 : decode cX7_regretOfAll 3 = .ok (.bipush 8, 2) := by decide +kernel
theorem dX7_regretOfAll_5 : decode cX7_regretOfAll 5 = .ok (.invokevirtual 38, 3) := by decide +kernel
theorem dX7_regretOfAll_8 : decode cX7_regretOfAll 8 = .ok (.ireturn, 1) := by decide +kernel
theorem dX7_heardBy_0 : decode cX7_heardBy 0 = .ok (.aload_n 0, 1) := by decide +kernel
theorem dX7_heardBy_1 : decode cX7_heardBy 1 = .ok (.getfield 9, 3) := by decide +kernel
theorem dX7_heardBy_4 : decode cX7_heardBy 4 = .ok (.bipush 16, 2) := by decide +kernel
theorem dX7_heardBy_6 : decode cX7_heardBy 6 = .ok (.iload_n 1, 1) := by decide +kernel
theorem dX7_heardBy_7 : decode cX7_heardBy 7 = .ok (.iadd, 1) := by decide +kernel
theorem dX7_heardBy_8 : decode cX7_heardBy 8 = .ok (.iaload, 1) := by decide +kernel
theorem dX7_heardBy_9 : decode cX7_heardBy 9 = .ok (.ireturn, 1) := by decide +kernel
theorem dX7_heardByAll_0 : decode cX7_heardByAll 0 = .ok (.aload_n 0, 1) := by decide +kernel
theorem dX7_heardByAll_1 : decode cX7_heardByAll 1 = .ok (.bipush 16, 2) := by decide +kernel
theorem dX7_heardByAll_3 : decode cX7_heardByAll 3 = .ok (.bipush 8, 2) := by decide +kernel
theorem dX7_heardByAll_5 : decode cX7_heardByAll 5 = .ok (.invokevirtual 38, 3) := by decide +kernel
theorem dX7_heardByAll_8 : decode cX7_heardByAll 8 = .ok (.ireturn, 1) := by decide +kernel
theorem dX7_hear_0 : decode cX7_hear 0 = .ok (.aload_n 0, 1) := by decide +kernel
theorem dX7_hear_1 : decode cX7_hear 1 = .ok (.getfield 9, 3) := by decide +kernel
theorem dX7_hear_4 : decode cX7_hear 4 = .ok (.bipush 16, 2) := by decide +kernel
theorem dX7_hear_6 : decode cX7_hear 6 = .ok (.iload_n 1, 1) := by decide +kernel
theorem dX7_hear_7 : decode cX7_hear 7 = .ok (.iadd, 1) := by decide +kernel
theorem dX7_hear_8 : decode cX7_hear 8 = .ok (.sipush 9999, 3) := by decide +kernel
theorem dX7_hear_11 : decode cX7_hear 11 = .ok (.aload_n 0, 1) := by decide +kernel
theorem dX7_hear_12 : decode cX7_hear 12 = .ok (.getfield 9, 3) := by decide +kernel
theorem dX7_hear_15 : decode cX7_hear 15 = .ok (.bipush 16, 2) := by decide +kernel
theorem dX7_hear_17 : decode cX7_hear 17 = .ok (.iload_n 1, 1) := by decide +kernel
theorem dX7_hear_18 : decode cX7_hear 18 = .ok (.iadd, 1) := by decide +kernel
theorem dX7_hear_19 : decode cX7_hear 19 = .ok (.iaload, 1) := by decide +kernel
theorem dX7_hear_20 : decode cX7_hear 20 = .ok (.iload_n 2, 1) := by decide +kernel
theorem dX7_hear_21 : decode cX7_hear 21 = .ok (.iadd, 1) := by decide +kernel
theorem dX7_hear_22 : decode cX7_hear 22 = .ok (.invokestatic 42, 3) := by decide +kernel
theorem dX7_hear_25 : decode cX7_hear 25 = .ok (.iastore, 1) := by decide +kernel
theorem dX7_hear_26 : decode cX7_hear 26 = .ok (.return_, 1) := by decide +kernel
theorem dX7_atOf_0 : decode cX7_atOf 0 = .ok (.aload_n 0, 1) := by decide +kernel
theorem dX7_atOf_1 : decode cX7_atOf 1 = .ok (.getfield 9, 3) := by decide +kernel
theorem dX7_atOf_4 : decode cX7_atOf 4 = .ok (.bipush 24, 2) := by decide +kernel
theorem dX7_atOf_6 : decode cX7_atOf 6 = .ok (.iload_n 1, 1) := by decide +kernel
theorem dX7_atOf_7 : decode cX7_atOf 7 = .ok (.iadd, 1) := by decide +kernel
theorem dX7_atOf_8 : decode cX7_atOf 8 = .ok (.iaload, 1) := by decide +kernel
theorem dX7_atOf_9 : decode cX7_atOf 9 = .ok (.ireturn, 1) := by decide +kernel
theorem dX7_turnTo_0 : decode cX7_turnTo 0 = .ok (.aload_n 0, 1) := by decide +kernel
theorem dX7_turnTo_1 : decode cX7_turnTo 1 = .ok (.getfield 9, 3) := by decide +kernel
theorem dX7_turnTo_4 : decode cX7_turnTo 4 = .ok (.bipush 24, 2) := by decide +kernel
theorem dX7_turnTo_6 : decode cX7_turnTo 6 = .ok (.iload_n 1, 1) := by decide +kernel
theorem dX7_turnTo_7 : decode cX7_turnTo 7 = .ok (.iadd, 1) := by decide +kernel
theorem dX7_turnTo_8 : decode cX7_turnTo 8 = .ok (.iload_n 2, 1) := by decide +kernel
theorem dX7_turnTo_9 : decode cX7_turnTo 9 = .ok (.iastore, 1) := by decide +kernel
theorem dX7_turnTo_10 : decode cX7_turnTo 10 = .ok (.return_, 1) := by decide +kernel
theorem dX7_heldOf_0 : decode cX7_heldOf 0 = .ok (.aload_n 0, 1) := by decide +kernel
theorem dX7_heldOf_1 : decode cX7_heldOf 1 = .ok (.getfield 9, 3) := by decide +kernel
theorem dX7_heldOf_4 : decode cX7_heldOf 4 = .ok (.bipush 32, 2) := by decide +kernel
theorem dX7_heldOf_6 : decode cX7_heldOf 6 = .ok (.iload_n 1, 1) := by decide +kernel
theorem dX7_heldOf_7 : decode cX7_heldOf 7 = .ok (.bipush 8, 2) := by decide +kernel
theorem dX7_heldOf_9 : decode cX7_heldOf 9 = .ok (.imul, 1) := by decide +kernel
theorem dX7_heldOf_10 : decode cX7_heldOf 10 = .ok (.iadd, 1) := by decide +kernel
theorem dX7_heldOf_11 : decode cX7_heldOf 11 = .ok (.iload_n 2, 1) := by decide +kernel
theorem dX7_heldOf_12 : decode cX7_heldOf 12 = .ok (.iadd, 1) := by decide +kernel
theorem dX7_heldOf_13 : decode cX7_heldOf 13 = .ok (.iaload, 1) := by decide +kernel
theorem dX7_heldOf_14 : decode cX7_heldOf 14 = .ok (.ireturn, 1) := by decide +kernel
theorem dX7_heldIn_0 : decode cX7_heldIn 0 = .ok (.aload_n 0, 1) := by decide +kernel
theorem dX7_heldIn_1 : decode cX7_heldIn 1 = .ok (.bipush 32, 2) := by decide +kernel
theorem dX7_heldIn_3 : decode cX7_heldIn 3 = .ok (.iload_n 1, 1) := by decide +kernel
theorem dX7_heldIn_4 : decode cX7_heldIn 4 = .ok (.bipush 8, 2) := by decide +kernel
theorem dX7_heldIn_6 : decode cX7_heldIn 6 = .ok (.imul, 1) := by decide +kernel
theorem dX7_heldIn_7 : decode cX7_heldIn 7 = .ok (.iadd, 1) := by decide +kernel
theorem dX7_heldIn_8 : decode cX7_heldIn 8 = .ok (.bipush 8, 2) := by decide +kernel
theorem dX7_heldIn_10 : decode cX7_heldIn 10 = .ok (.invokevirtual 38, 3) := by decide +kernel
theorem dX7_heldIn_13 : decode cX7_heldIn 13 = .ok (.ireturn, 1) := by decide +kernel
theorem dX7_heldInAll_0 : decode cX7_heldInAll 0 = .ok (.aload_n 0, 1) := by decide +kernel
theorem dX7_heldInAll_1 : decode cX7_heldInAll 1 = .ok (.bipush 32, 2) := by decide +kernel
theorem dX7_heldInAll_3 : decode cX7_heldInAll 3 = .ok (.bipush 48, 2) := by decide +kernel
theorem dX7_heldInAll_5 : decode cX7_heldInAll 5 = .ok (.invokevirtual 38, 3) := by decide +kernel
theorem dX7_heldInAll_8 : decode cX7_heldInAll 8 = .ok (.ireturn, 1) := by decide +kernel
theorem dX7_think_0 : decode cX7_think 0 = .ok (.bipush 32, 2) := by decide +kernel
theorem dX7_think_2 : decode cX7_think 2 = .ok (.iload_n 1, 1) := by decide +kernel
theorem dX7_think_3 : decode cX7_think 3 = .ok (.bipush 8, 2) := by decide +kernel
theorem dX7_think_5 : decode cX7_think 5 = .ok (.imul, 1) := by decide +kernel
theorem dX7_think_6 : decode cX7_think 6 = .ok (.iadd, 1) := by decide +kernel
theorem dX7_think_7 : decode cX7_think 7 = .ok (.iload_n 2, 1) := by decide +kernel
theorem dX7_think_8 : decode cX7_think 8 = .ok (.iadd, 1) := by decide +kernel
theorem dX7_think_9 : decode cX7_think 9 = .ok (.istore 4, 2) := by decide +kernel
theorem dX7_think_11 : decode cX7_think 11 = .ok (.aload_n 0, 1) := by decide +kernel
theorem dX7_think_12 : decode cX7_think 12 = .ok (.getfield 9, 3) := by decide +kernel
theorem dX7_think_15 : decode cX7_think 15 = .ok (.iload 4, 2) := by decide +kernel
theorem dX7_think_17 : decode cX7_think 17 = .ok (.bipush 99, 2) := by decide +kernel
theorem dX7_think_19 : decode cX7_think 19 = .ok (.aload_n 0, 1) := by decide +kernel
theorem dX7_think_20 : decode cX7_think 20 = .ok (.getfield 9, 3) := by decide +kernel
theorem dX7_think_23 : decode cX7_think 23 = .ok (.iload 4, 2) := by decide +kernel
theorem dX7_think_25 : decode cX7_think 25 = .ok (.iaload, 1) := by decide +kernel
theorem dX7_think_26 : decode cX7_think 26 = .ok (.iload_n 3, 1) := by decide +kernel
theorem dX7_think_27 : decode cX7_think 27 = .ok (.iadd, 1) := by decide +kernel
theorem dX7_think_28 : decode cX7_think 28 = .ok (.invokestatic 42, 3) := by decide +kernel
theorem dX7_think_31 : decode cX7_think 31 = .ok (.iastore, 1) := by decide +kernel
theorem dX7_think_32 : decode cX7_think 32 = .ok (.aload_n 0, 1) := by decide +kernel
theorem dX7_think_33 : decode cX7_think 33 = .ok (.getfield 9, 3) := by decide +kernel
theorem dX7_think_36 : decode cX7_think 36 = .ok (.bipush 8, 2) := by decide +kernel
theorem dX7_think_38 : decode cX7_think 38 = .ok (.iload_n 2, 1) := by decide +kernel
theorem dX7_think_39 : decode cX7_think 39 = .ok (.iadd, 1) := by decide +kernel
theorem dX7_think_40 : decode cX7_think 40 = .ok (.sipush 999, 3) := by decide +kernel
theorem dX7_think_43 : decode cX7_think 43 = .ok (.aload_n 0, 1) := by decide +kernel
theorem dX7_think_44 : decode cX7_think 44 = .ok (.getfield 9, 3) := by decide +kernel
theorem dX7_think_47 : decode cX7_think 47 = .ok (.bipush 8, 2) := by decide +kernel
theorem dX7_think_49 : decode cX7_think 49 = .ok (.iload_n 2, 1) := by decide +kernel
theorem dX7_think_50 : decode cX7_think 50 = .ok (.iadd, 1) := by decide +kernel
theorem dX7_think_51 : decode cX7_think 51 = .ok (.iaload, 1) := by decide +kernel
theorem dX7_think_52 : decode cX7_think 52 = .ok (.iload_n 3, 1) := by decide +kernel
theorem dX7_think_53 : decode cX7_think 53 = .ok (.iadd, 1) := by decide +kernel
theorem dX7_think_54 : decode cX7_think 54 = .ok (.invokestatic 42, 3) := by decide +kernel
theorem dX7_think_57 : decode cX7_think 57 = .ok (.iastore, 1) := by decide +kernel
theorem dX7_think_58 : decode cX7_think 58 = .ok (.return_, 1) := by decide +kernel
theorem dX7_letGo_0 : decode cX7_letGo 0 = .ok (.bipush 32, 2) := by decide +kernel
theorem dX7_letGo_2 : decode cX7_letGo 2 = .ok (.iload_n 1, 1) := by decide +kernel
theorem dX7_letGo_3 : decode cX7_letGo 3 = .ok (.bipush 8, 2) := by decide +kernel
theorem dX7_letGo_5 : decode cX7_letGo 5 = .ok (.imul, 1) := by decide +kernel
theorem dX7_letGo_6 : decode cX7_letGo 6 = .ok (.iadd, 1) := by decide +kernel
theorem dX7_letGo_7 : decode cX7_letGo 7 = .ok (.iload_n 2, 1) := by decide +kernel
theorem dX7_letGo_8 : decode cX7_letGo 8 = .ok (.iadd, 1) := by decide +kernel
theorem dX7_letGo_9 : decode cX7_letGo 9 = .ok (.istore_n 3, 1) := by decide +kernel
theorem dX7_letGo_10 : decode cX7_letGo 10 = .ok (.aload_n 0, 1) := by decide +kernel
theorem dX7_letGo_11 : decode cX7_letGo 11 = .ok (.getfield 9, 3) := by decide +kernel
theorem dX7_letGo_14 : decode cX7_letGo 14 = .ok (.bipush 8, 2) := by decide +kernel
theorem dX7_letGo_16 : decode cX7_letGo 16 = .ok (.iload_n 2, 1) := by decide +kernel
theorem dX7_letGo_17 : decode cX7_letGo 17 = .ok (.iadd, 1) := by decide +kernel
theorem dX7_letGo_18 : decode cX7_letGo 18 = .ok (.iconst 0, 1) := by decide +kernel
theorem dX7_letGo_19 : decode cX7_letGo 19 = .ok (.aload_n 0, 1) := by decide +kernel
theorem dX7_letGo_20 : decode cX7_letGo 20 = .ok (.getfield 9, 3) := by decide +kernel
theorem dX7_letGo_23 : decode cX7_letGo 23 = .ok (.bipush 8, 2) := by decide +kernel
theorem dX7_letGo_25 : decode cX7_letGo 25 = .ok (.iload_n 2, 1) := by decide +kernel
theorem dX7_letGo_26 : decode cX7_letGo 26 = .ok (.iadd, 1) := by decide +kernel
theorem dX7_letGo_27 : decode cX7_letGo 27 = .ok (.iaload, 1) := by decide +kernel
theorem dX7_letGo_28 : decode cX7_letGo 28 = .ok (.aload_n 0, 1) := by decide +kernel
theorem dX7_letGo_29 : decode cX7_letGo 29 = .ok (.getfield 9, 3) := by decide +kernel
theorem dX7_letGo_32 : decode cX7_letGo 32 = .ok (.iload_n 3, 1) := by decide +kernel
theorem dX7_letGo_33 : decode cX7_letGo 33 = .ok (.iaload, 1) := by decide +kernel
theorem dX7_letGo_34 : decode cX7_letGo 34 = .ok (.isub, 1) := by decide +kernel
theorem dX7_letGo_35 : decode cX7_letGo 35 = .ok (.invokestatic 47, 3) := by decide +kernel
theorem dX7_letGo_38 : decode cX7_letGo 38 = .ok (.iastore, 1) := by decide +kernel
theorem dX7_letGo_39 : decode cX7_letGo 39 = .ok (.aload_n 0, 1) := by decide +kernel
theorem dX7_letGo_40 : decode cX7_letGo 40 = .ok (.getfield 9, 3) := by decide +kernel
theorem dX7_letGo_43 : decode cX7_letGo 43 = .ok (.iload_n 3, 1) := by decide +kernel
theorem dX7_letGo_44 : decode cX7_letGo 44 = .ok (.iconst 0, 1) := by decide +kernel
theorem dX7_letGo_45 : decode cX7_letGo 45 = .ok (.iastore, 1) := by decide +kernel
theorem dX7_letGo_46 : decode cX7_letGo 46 = .ok (.return_, 1) := by decide +kernel
theorem dX7_sendLetter_0 : decode cX7_sendLetter 0 = .ok (.aload_n 0, 1) := by decide +kernel
theorem dX7_sendLetter_1 : decode cX7_sendLetter 1 = .ok (.iload_n 1, 1) := by decide +kernel
theorem dX7_sendLetter_2 : decode cX7_sendLetter 2 = .ok (.invokevirtual 50, 3) := by decide +kernel
theorem dX7_sendLetter_5 : decode cX7_sendLetter 5 = .ok (.istore_n 2, 1) := by decide +kernel
theorem dX7_sendLetter_6 : decode cX7_sendLetter 6 = .ok (.iload_n 2, 1) := by decide +kernel
theorem dX7_sendLetter_7 : decode cX7_sendLetter 7 = .ok (.iconst (-1), 1) := by decide +kernel
theorem dX7_sendLetter_8 : decode cX7_sendLetter 8 = .ok (.if_icmp .ne 4, 3) := by decide +kernel
theorem dX7_sendLetter_11 : decode cX7_sendLetter 11 = .ok (.return_, 1) := by decide +kernel
theorem dX7_sendLetter_12 : decode cX7_sendLetter 12 = .ok (.iconst 0, 1) := by decide +kernel
theorem dX7_sendLetter_13 : decode cX7_sendLetter 13 = .ok (.istore_n 3, 1) := by decide +kernel
theorem dX7_sendLetter_14 : decode cX7_sendLetter 14 = .ok (.iconst 0, 1) := by decide +kernel
theorem dX7_sendLetter_15 : decode cX7_sendLetter 15 = .ok (.istore 4, 2) := by decide +kernel
theorem dX7_sendLetter_17 : decode cX7_sendLetter 17 = .ok (.iload 4, 2) := by decide +kernel
theorem dX7_sendLetter_19 : decode cX7_sendLetter 19 = .ok (.bipush 6, 2) := by decide +kernel
theorem dX7_sendLetter_21 : decode cX7_sendLetter 21 = .ok (.if_icmp .ge 35, 3) := by decide +kernel
theorem dX7_sendLetter_24 : decode cX7_sendLetter 24 = .ok (.iload_n 3, 1) := by decide +kernel
theorem dX7_sendLetter_25 : decode cX7_sendLetter 25 = .ok (.aload_n 0, 1) := by decide +kernel
theorem dX7_sendLetter_26 : decode cX7_sendLetter 26 = .ok (.iload 4, 2) := by decide +kernel
theorem dX7_sendLetter_28 : decode cX7_sendLetter 28 = .ok (.iload_n 1, 1) := by decide +kernel
theorem dX7_sendLetter_29 : decode cX7_sendLetter 29 = .ok (.invokevirtual 54, 3) := by decide +kernel
theorem dX7_sendLetter_32 : decode cX7_sendLetter 32 = .ok (.iadd, 1) := by decide +kernel
theorem dX7_sendLetter_33 : decode cX7_sendLetter 33 = .ok (.istore_n 3, 1) := by decide +kernel
theorem dX7_sendLetter_34 : decode cX7_sendLetter 34 = .ok (.aload_n 0, 1) := by decide +kernel
theorem dX7_sendLetter_35 : decode cX7_sendLetter 35 = .ok (.getfield 9, 3) := by decide +kernel
theorem dX7_sendLetter_38 : decode cX7_sendLetter 38 = .ok (.bipush 32, 2) := by decide +kernel
theorem dX7_sendLetter_40 : decode cX7_sendLetter 40 = .ok (.iload 4, 2) := by decide +kernel
theorem dX7_sendLetter_42 : decode cX7_sendLetter 42 = .ok (.bipush 8, 2) := by decide +kernel
theorem dX7_sendLetter_44 : decode cX7_sendLetter 44 = .ok (.imul, 1) := by decide +kernel
theorem dX7_sendLetter_45 : decode cX7_sendLetter 45 = .ok (.iadd, 1) := by decide +kernel
theorem dX7_sendLetter_46 : decode cX7_sendLetter 46 = .ok (.iload_n 1, 1) := by decide +kernel
theorem dX7_sendLetter_47 : decode cX7_sendLetter 47 = .ok (.iadd, 1) := by decide +kernel
theorem dX7_sendLetter_48 : decode cX7_sendLetter 48 = .ok (.iconst 0, 1) := by decide +kernel
theorem dX7_sendLetter_49 : decode cX7_sendLetter 49 = .ok (.iastore, 1) := by decide +kernel
theorem dX7_sendLetter_50 : decode cX7_sendLetter 50 = .ok (.iinc 4 1, 3) := by decide +kernel
theorem dX7_sendLetter_53 : decode cX7_sendLetter 53 = .ok (.goto (-36), 3) := by decide +kernel
theorem dX7_sendLetter_56 : decode cX7_sendLetter 56 = .ok (.aload_n 0, 1) := by decide +kernel
theorem dX7_sendLetter_57 : decode cX7_sendLetter 57 = .ok (.iload_n 2, 1) := by decide +kernel
theorem dX7_sendLetter_58 : decode cX7_sendLetter 58 = .ok (.bipush 9, 2) := by decide +kernel
theorem dX7_sendLetter_60 : decode cX7_sendLetter 60 = .ok (.iload_n 3, 1) := by decide +kernel
theorem dX7_sendLetter_61 : decode cX7_sendLetter 61 = .ok (.iadd, 1) := by decide +kernel
theorem dX7_sendLetter_62 : decode cX7_sendLetter 62 = .ok (.invokevirtual 57, 3) := by decide +kernel
theorem dX7_sendLetter_65 : decode cX7_sendLetter 65 = .ok (.aload_n 0, 1) := by decide +kernel
theorem dX7_sendLetter_66 : decode cX7_sendLetter 66 = .ok (.getfield 9, 3) := by decide +kernel
theorem dX7_sendLetter_69 : decode cX7_sendLetter 69 = .ok (.bipush 8, 2) := by decide +kernel
theorem dX7_sendLetter_71 : decode cX7_sendLetter 71 = .ok (.iload_n 1, 1) := by decide +kernel
theorem dX7_sendLetter_72 : decode cX7_sendLetter 72 = .ok (.iadd, 1) := by decide +kernel
theorem dX7_sendLetter_73 : decode cX7_sendLetter 73 = .ok (.iconst 0, 1) := by decide +kernel
theorem dX7_sendLetter_74 : decode cX7_sendLetter 74 = .ok (.iastore, 1) := by decide +kernel
theorem dX7_sendLetter_75 : decode cX7_sendLetter 75 = .ok (.return_, 1) := by decide +kernel
theorem dX7_sumOf_0 : decode cX7_sumOf 0 = .ok (.iconst 0, 1) := by decide +kernel
theorem dX7_sumOf_1 : decode cX7_sumOf 1 = .ok (.istore_n 3, 1) := by decide +kernel
theorem dX7_sumOf_2 : decode cX7_sumOf 2 = .ok (.iload_n 1, 1) := by decide +kernel
theorem dX7_sumOf_3 : decode cX7_sumOf 3 = .ok (.istore 4, 2) := by decide +kernel
theorem dX7_sumOf_5 : decode cX7_sumOf 5 = .ok (.iload 4, 2) := by decide +kernel
theorem dX7_sumOf_7 : decode cX7_sumOf 7 = .ok (.iload_n 1, 1) := by decide +kernel
theorem dX7_sumOf_8 : decode cX7_sumOf 8 = .ok (.iload_n 2, 1) := by decide +kernel
theorem dX7_sumOf_9 : decode cX7_sumOf 9 = .ok (.iadd, 1) := by decide +kernel
theorem dX7_sumOf_10 : decode cX7_sumOf 10 = .ok (.if_icmp .ge 19, 3) := by decide +kernel
theorem dX7_sumOf_13 : decode cX7_sumOf 13 = .ok (.iload_n 3, 1) := by decide +kernel
theorem dX7_sumOf_14 : decode cX7_sumOf 14 = .ok (.aload_n 0, 1) := by decide +kernel
theorem dX7_sumOf_15 : decode cX7_sumOf 15 = .ok (.getfield 9, 3) := by decide +kernel
theorem dX7_sumOf_18 : decode cX7_sumOf 18 = .ok (.iload 4, 2) := by decide +kernel
theorem dX7_sumOf_20 : decode cX7_sumOf 20 = .ok (.iaload, 1) := by decide +kernel
theorem dX7_sumOf_21 : decode cX7_sumOf 21 = .ok (.iadd, 1) := by decide +kernel
theorem dX7_sumOf_22 : decode cX7_sumOf 22 = .ok (.istore_n 3, 1) := by decide +kernel
theorem dX7_sumOf_23 : decode cX7_sumOf 23 = .ok (.iinc 4 1, 3) := by decide +kernel
theorem dX7_sumOf_26 : decode cX7_sumOf 26 = .ok (.goto (-21), 3) := by decide +kernel
theorem dX7_sumOf_29 : decode cX7_sumOf 29 = .ok (.iload_n 3, 1) := by decide +kernel
theorem dX7_sumOf_30 : decode cX7_sumOf 30 = .ok (.ireturn, 1) := by decide +kernel
theorem dX8_init_0 : decode cX8_init 0 = .ok (.aload_n 0, 1) := by decide +kernel
theorem dX8_init_1 : decode cX8_init 1 = .ok (.invokespecial 3, 3) := by decide +kernel
theorem dX8_init_4 : decode cX8_init 4 = .ok (.aload_n 0, 1) := by decide +kernel
theorem dX8_init_5 : decode cX8_init 5 = .ok (.iconst 0, 1) := by decide +kernel
theorem dX8_init_6 : decode cX8_init 6 = .ok (.newarray .byte, 2) := by decide +kernel
theorem dX8_init_8 : decode cX8_init 8 = .ok (.putfield 9, 3) := by decide +kernel
theorem dX8_init_11 : decode cX8_init 11 = .ok (.aload_n 0, 1) := by decide +kernel
theorem dX8_init_12 : decode cX8_init 12 = .ok (.iconst 0, 1) := by decide +kernel
theorem dX8_init_13 : decode cX8_init 13 = .ok (.putfield 15, 3) := by decide +kernel
theorem dX8_init_16 : decode cX8_init 16 = .ok (.aload_n 0, 1) := by decide +kernel
theorem dX8_init_17 : decode cX8_init 17 = .ok (.iconst 0, 1) := by decide +kernel
theorem dX8_init_18 : decode cX8_init 18 = .ok (.putfield 19, 3) := by decide +kernel
theorem dX8_init_21 : decode cX8_init 21 = .ok (.aload_n 0, 1) := by decide +kernel
theorem dX8_init_22 : decode cX8_init 22 = .ok (.iconst 0, 1) := by decide +kernel
theorem dX8_init_23 : decode cX8_init 23 = .ok (.putfield 22, 3) := by decide +kernel
theorem dX8_init_26 : decode cX8_init 26 = .ok (.aload_n 0, 1) := by decide +kernel
theorem dX8_init_27 : decode cX8_init 27 = .ok (.iconst 0, 1) := by decide +kernel
theorem dX8_init_28 : decode cX8_init 28 = .ok (.putfield 25, 3) := by decide +kernel
theorem dX8_init_31 : decode cX8_init 31 = .ok (.aload_n 0, 1) := by decide +kernel
theorem dX8_init_32 : decode cX8_init 32 = .ok (.iconst 0, 1) := by decide +kernel
theorem dX8_init_33 : decode cX8_init 33 = .ok (.putfield 28, 3) := by decide +kernel
theorem dX8_init_36 : decode cX8_init 36 = .ok (.aload_n 0, 1) := by decide +kernel
theorem dX8_init_37 : decode cX8_init 37 = .ok (.iconst 0, 1) := by decide +kernel
theorem dX8_init_38 : decode cX8_init 38 = .ok (.putfield 31, 3) := by decide +kernel
theorem dX8_init_41 : decode cX8_init 41 = .ok (.return_, 1) := by decide +kernel
theorem dX8_start_0 : decode cX8_start 0 = .ok (.aload_n 0, 1) := by decide +kernel
theorem dX8_start_1 : decode cX8_start 1 = .ok (.aload_n 1, 1) := by decide +kernel
theorem dX8_start_2 : decode cX8_start 2 = .ok (.putfield 9, 3) := by decide +kernel
theorem dX8_start_5 : decode cX8_start 5 = .ok (.aload_n 0, 1) := by decide +kernel
theorem dX8_start_6 : decode cX8_start 6 = .ok (.iload_n 2, 1) := by decide +kernel
theorem dX8_start_7 : decode cX8_start 7 = .ok (.aload_n 1, 1) := by decide +kernel
theorem dX8_start_8 : decode cX8_start 8 = .ok (.arraylength, 1) := by decide +kernel
theorem dX8_start_9 : decode cX8_start 9 = .ok (.invokestatic 34, 3) := by decide +kernel
theorem dX8_start_12 : decode cX8_start 12 = .ok (.putfield 15, 3) := by decide +kernel
theorem dX8_start_15 : decode cX8_start 15 = .ok (.aload_n 0, 1) := by decide +kernel
theorem dX8_start_16 : decode cX8_start 16 = .ok (.iconst 0, 1) := by decide +kernel
theorem dX8_start_17 : decode cX8_start 17 = .ok (.putfield 22, 3) := by decide +kernel
theorem dX8_start_20 : decode cX8_start 20 = .ok (.aload_n 0, 1) := by decide +kernel
theorem dX8_start_21 : decode cX8_start 21 = .ok (.iconst 0, 1) := by decide +kernel
theorem dX8_start_22 : decode cX8_start 22 = .ok (.putfield 31, 3) := by decide +kernel
theorem dX8_start_25 : decode cX8_start 25 = .ok (.aload_n 0, 1) := by decide +kernel
theorem dX8_start_26 : decode cX8_start 26 = .ok (.invokevirtual 40, 3) := by decide +kernel
theorem dX8_start_29 : decode cX8_start 29 = .ok (.return_, 1) := by decide +kernel
theorem dX8_fail_0 : decode cX8_fail 0 = .ok (.aload_n 0, 1) := by decide +kernel
theorem dX8_fail_1 : decode cX8_fail 1 = .ok (.getfield 31, 3) := by decide +kernel
theorem dX8_fail_4 : decode cX8_fail 4 = .ok (.ifCond .ne 8, 3) := by decide +kernel
theorem dX8_fail_7 : decode cX8_fail 7 = .ok (.aload_n 0, 1) := by decide +kernel
theorem dX8_fail_8 : decode cX8_fail 8 = .ok (.iload_n 1, 1) := by decide +kernel
theorem dX8_fail_9 : decode cX8_fail 9 = .ok (.putfield 31, 3) := by decide +kernel
theorem dX8_fail_12 : decode cX8_fail 12 = .ok (.return_, 1) := by decide +kernel
theorem dX8_isFine_0 : decode cX8_isFine 0 = .ok (.aload_n 0, 1) := by decide +kernel
theorem dX8_isFine_1 : decode cX8_isFine 1 = .ok (.getfield 31, 3) := by decide +kernel
theorem dX8_isFine_4 : decode cX8_isFine 4 = .ok (.ifCond .ne 7, 3) := by decide +kernel
theorem dX8_isFine_7 : decode cX8_isFine 7 = .ok (.iconst 1, 1) := by decide +kernel
theorem dX8_isFine_8 : decode cX8_isFine 8 = .ok (.goto 4, 3) := by decide +kernel
theorem dX8_isFine_11 : decode cX8_isFine 11 = .ok (.iconst 0, 1) := by decide +kernel
theorem dX8_isFine_12 : decode cX8_isFine 12 = .ok (.ireturn, 1) := by decide +kernel
theorem dX8_step_0 : decode cX8_step 0 = .ok (.aload_n 0, 1) := by decide +kernel
theorem dX8_step_1 : decode cX8_step 1 = .ok (.getfield 31, 3) := by decide +kernel
theorem dX8_step_4 : decode cX8_step 4 = .ok (.ifCond .eq 4, 3) := by decide +kernel
theorem dX8_step_7 : decode cX8_step 7 = .ok (.return_, 1) := by decide +kernel
theorem dX8_step_8 : decode cX8_step 8 = .ok (.aload_n 0, 1) := by decide +kernel
theorem dX8_step_9 : decode cX8_step 9 = .ok (.aload_n 0, 1) := by decide +kernel
theorem dX8_step_10 : decode cX8_step 10 = .ok (.getfield 22, 3) := by decide +kernel
theorem dX8_step_13 : decode cX8_step 13 = .ok (.putfield 19, 3) := by decide +kernel
theorem dX8_step_16 : decode cX8_step 16 = .ok (.aload_n 0, 1) := by decide +kernel
theorem dX8_step_17 : decode cX8_step 17 = .ok (.getfield 19, 3) := by decide +kernel
theorem dX8_step_20 : decode cX8_step 20 = .ok (.aload_n 0, 1) := by decide +kernel
theorem dX8_step_21 : decode cX8_step 21 = .ok (.getfield 15, 3) := by decide +kernel
theorem dX8_step_24 : decode cX8_step 24 = .ok (.if_icmp .ge 32, 3) := by decide +kernel
theorem dX8_step_27 : decode cX8_step 27 = .ok (.aload_n 0, 1) := by decide +kernel
theorem dX8_step_28 : decode cX8_step 28 = .ok (.getfield 9, 3) := by decide +kernel
theorem dX8_step_31 : decode cX8_step 31 = .ok (.aload_n 0, 1) := by decide +kernel
theorem dX8_step_32 : decode cX8_step 32 = .ok (.getfield 19, 3) := by decide +kernel
theorem dX8_step_35 : decode cX8_step 35 = .ok (.baload, 1) := by decide +kernel
theorem dX8_step_36 : decode cX8_step 36 = .ok (.invokestatic 43, 3) := by decide +kernel
theorem dX8_step_39 : decode cX8_step 39 = .ok (.iconst 4, 1) := by decide +kernel
theorem dX8_step_40 : decode cX8_step 40 = .ok (.if_icmp .ne 16, 3) := by decide +kernel
theorem dX8_step_43 : decode cX8_step 43 = .ok (.aload_n 0, 1) := by decide +kernel
theorem dX8_step_44 : decode cX8_step 44 = .ok (.dup, 1) := by decide +kernel
theorem dX8_step_45 : decode cX8_step 45 = .ok (.getfield 19, 3) := by decide +kernel
theorem dX8_step_48 : decode cX8_step 48 = .ok (.iconst 1, 1) := by decide +kernel
theorem dX8_step_49 : decode cX8_step 49 = .ok (.iadd, 1) := by decide +kernel
theorem dX8_step_50 : decode cX8_step 50 = .ok (.putfield 19, 3) := by decide +kernel
theorem dX8_step_53 : decode cX8_step 53 = .ok (.goto (-37), 3) := by decide +kernel
theorem dX8_step_56 : decode cX8_step 56 = .ok (.aload_n 0, 1) := by decide +kernel
theorem dX8_step_57 : decode cX8_step 57 = .ok (.aload_n 0, 1) := by decide +kernel
theorem dX8_step_58 : decode cX8_step 58 = .ok (.getfield 19, 3) := by decide +kernel
theorem dX8_step_61 : decode cX8_step 61 = .ok (.putfield 22, 3) := by decide +kernel
theorem dX8_step_64 : decode cX8_step 64 = .ok (.aload_n 0, 1) := by decide +kernel
theorem dX8_step_65 : decode cX8_step 65 = .ok (.iconst 0, 1) := by decide +kernel
theorem dX8_step_66 : decode cX8_step 66 = .ok (.putfield 25, 3) := by decide +kernel
theorem dX8_step_69 : decode cX8_step 69 = .ok (.aload_n 0, 1) := by decide +kernel
theorem dX8_step_70 : decode cX8_step 70 = .ok (.getfield 19, 3) := by decide +kernel
theorem dX8_step_73 : decode cX8_step 73 = .ok (.aload_n 0, 1) := by decide +kernel
theorem dX8_step_74 : decode cX8_step 74 = .ok (.getfield 15, 3) := by decide +kernel
theorem dX8_step_77 : decode cX8_step 77 = .ok (.if_icmp .ge 29, 3) := by decide +kernel
theorem dX8_step_80 : decode cX8_step 80 = .ok (.aload_n 0, 1) := by decide +kernel
theorem dX8_step_81 : decode cX8_step 81 = .ok (.aload_n 0, 1) := by decide +kernel
theorem dX8_step_82 : decode cX8_step 82 = .ok (.getfield 9, 3) := by decide +kernel
theorem dX8_step_85 : decode cX8_step 85 = .ok (.aload_n 0, 1) := by decide +kernel
theorem dX8_step_86 : decode cX8_step 86 = .ok (.getfield 19, 3) := by decide +kernel
theorem dX8_step_89 : decode cX8_step 89 = .ok (.baload, 1) := by decide +kernel
theorem dX8_step_90 : decode cX8_step 90 = .ok (.invokestatic 43, 3) := by decide +kernel
theorem dX8_step_93 : decode cX8_step 93 = .ok (.putfield 25, 3) := by decide +kernel
theorem dX8_step_96 : decode cX8_step 96 = .ok (.aload_n 0, 1) := by decide +kernel
theorem dX8_step_97 : decode cX8_step 97 = .ok (.dup, 1) := by decide +kernel
theorem dX8_step_98 : decode cX8_step 98 = .ok (.getfield 22, 3) := by decide +kernel
theorem dX8_step_101 : decode cX8_step 101 = .ok (.iconst 1, 1) := by decide +kernel
theorem dX8_step_102 : decode cX8_step 102 = .ok (.iadd, 1) := by decide +kernel
theorem dX8_step_103 : decode cX8_step 103 = .ok (.putfield 22, 3) := by decide +kernel
theorem dX8_step_106 : decode cX8_step 106 = .ok (.aload_n 0, 1) := by decide +kernel
theorem dX8_step_107 : decode cX8_step 107 = .ok (.getfield 22, 3) := by decide +kernel
theorem dX8_step_110 : decode cX8_step 110 = .ok (.aload_n 0, 1) := by decide +kernel
theorem dX8_step_111 : decode cX8_step 111 = .ok (.getfield 15, 3) := by decide +kernel
theorem dX8_step_114 : decode cX8_step 114 = .ok (.if_icmp .ge 51, 3) := by decide +kernel
theorem dX8_step_117 : decode cX8_step 117 = .ok (.aload_n 0, 1) := by decide +kernel
theorem dX8_step_118 : decode cX8_step 118 = .ok (.getfield 25, 3) := by decide +kernel
theorem dX8_step_121 : decode cX8_step 121 = .ok (.iconst 2, 1) := by decide +kernel
theorem dX8_step_122 : decode cX8_step 122 = .ok (.if_icmp .eq 11, 3) := by decide +kernel
theorem dX8_step_125 : decode cX8_step 125 = .ok (.aload_n 0, 1) := by decide +kernel
theorem dX8_step_126 : decode cX8_step 126 = .ok (.getfield 25, 3) := by decide +kernel
theorem dX8_step_129 : decode cX8_step 129 = .ok (.iconst 3, 1) := by decide +kernel
theorem dX8_step_130 : decode cX8_step 130 = .ok (.if_icmp .ne 35, 3) := by decide +kernel
theorem dX8_step_133 : decode cX8_step 133 = .ok (.aload_n 0, 1) := by decide +kernel
theorem dX8_step_134 : decode cX8_step 134 = .ok (.getfield 9, 3) := by decide +kernel
theorem dX8_step_137 : decode cX8_step 137 = .ok (.aload_n 0, 1) := by decide +kernel
theorem dX8_step_138 : decode cX8_step 138 = .ok (.getfield 22, 3) := by decide +kernel
theorem dX8_step_141 : decode cX8_step 141 = .ok (.baload, 1) := by decide +kernel
theorem dX8_step_142 : decode cX8_step 142 = .ok (.invokestatic 43, 3) := by decide +kernel
theorem dX8_step_145 : decode cX8_step 145 = .ok (.aload_n 0, 1) := by decide +kernel
theorem dX8_step_146 : decode cX8_step 146 = .ok (.getfield 25, 3) := by decide +kernel
theorem dX8_step_149 : decode cX8_step 149 = .ok (.if_icmp .ne 16, 3) := by decide +kernel
theorem dX8_step_152 : decode cX8_step 152 = .ok (.aload_n 0, 1) := by decide +kernel
theorem dX8_step_153 : decode cX8_step 153 = .ok (.dup, 1) := by decide +kernel
theorem dX8_step_154 : decode cX8_step 154 = .ok (.getfield 22, 3) := by decide +kernel
theorem dX8_step_157 : decode cX8_step 157 = .ok (.iconst 1, 1) := by decide +kernel
theorem dX8_step_158 : decode cX8_step 158 = .ok (.iadd, 1) := by decide +kernel
theorem dX8_step_159 : decode cX8_step 159 = .ok (.putfield 22, 3) := by decide +kernel
theorem dX8_step_162 : decode cX8_step 162 = .ok (.goto (-56), 3) := by decide +kernel
theorem dX8_step_165 : decode cX8_step 165 = .ok (.aload_n 0, 1) := by decide +kernel
theorem dX8_step_166 : decode cX8_step 166 = .ok (.aload_n 0, 1) := by decide +kernel
theorem dX8_step_167 : decode cX8_step 167 = .ok (.getfield 25, 3) := by decide +kernel
theorem dX8_step_170 : decode cX8_step 170 = .ok (.iconst 3, 1) := by decide +kernel
theorem dX8_step_171 : decode cX8_step 171 = .ok (.if_icmp .ne 10, 3) := by decide +kernel
theorem dX8_step_174 : decode cX8_step 174 = .ok (.aload_n 0, 1) := by decide +kernel
theorem dX8_step_175 : decode cX8_step 175 = .ok (.invokevirtual 47, 3) := by decide +kernel
theorem dX8_step_178 : decode cX8_step 178 = .ok (.goto 4, 3) := by decide +kernel
theorem dX8_step_181 : decode cX8_step 181 = .ok (.iconst 0, 1) := by decide +kernel
theorem dX8_step_182 : decode cX8_step 182 = .ok (.putfield 28, 3) := by decide +kernel
theorem dX8_step_185 : decode cX8_step 185 = .ok (.return_, 1) := by decide +kernel
theorem dX8_numberHere_0 : decode cX8_numberHere 0 = .ok (.aload_n 0, 1) := by decide +kernel
theorem dX8_numberHere_1 : decode cX8_numberHere 1 = .ok (.getfield 22, 3) := by decide +kernel
theorem dX8_numberHere_4 : decode cX8_numberHere 4 = .ok (.aload_n 0, 1) := by decide +kernel
theorem dX8_numberHere_5 : decode cX8_numberHere 5 = .ok (.getfield 19, 3) := by decide +kernel
theorem dX8_numberHere_8 : decode cX8_numberHere 8 = .ok (.isub, 1) := by decide +kernel
theorem dX8_numberHere_9 : decode cX8_numberHere 9 = .ok (.iconst 4, 1) := by decide +kernel
theorem dX8_numberHere_10 : decode cX8_numberHere 10 = .ok (.if_icmp .le 7, 3) := by decide +kernel
theorem dX8_numberHere_13 : decode cX8_numberHere 13 = .ok (.sipush 10000, 3) := by decide +kernel
theorem dX8_numberHere_16 : decode cX8_numberHere 16 = .ok (.ireturn, 1) := by decide +kernel
theorem dX8_numberHere_17 : decode cX8_numberHere 17 = .ok (.iconst 0, 1) := by decide +kernel
theorem dX8_numberHere_18 : decode cX8_numberHere 18 = .ok (.istore_n 1, 1) := by decide +kernel
theorem dX8_numberHere_19 : decode cX8_numberHere 19 = .ok (.aload_n 0, 1) := by decide +kernel
theorem dX8_numberHere_20 : decode cX8_numberHere 20 = .ok (.getfield 19, 3) := by decide +kernel
theorem dX8_numberHere_23 : decode cX8_numberHere 23 = .ok (.istore_n 2, 1) := by decide +kernel
theorem dX8_numberHere_24 : decode cX8_numberHere 24 = .ok (.iload_n 2, 1) := by decide +kernel
theorem dX8_numberHere_25 : decode cX8_numberHere 25 = .ok (.aload_n 0, 1) := by decide +kernel
theorem dX8_numberHere_26 : decode cX8_numberHere 26 = .ok (.getfield 22, 3) := by decide +kernel
theorem dX8_numberHere_29 : decode cX8_numberHere 29 = .ok (.if_icmp .ge 24, 3) := by decide +kernel
theorem dX8_numberHere_32 : decode cX8_numberHere 32 = .ok (.bipush 10, 2) := by decide +kernel
theorem dX8_numberHere_34 : decode cX8_numberHere 34 = .ok (.iload_n 1, 1) := by decide +kernel
theorem dX8_numberHere_35 : decode cX8_numberHere 35 = .ok (.imul, 1) := by decide +kernel
theorem dX8_numberHere_36 : decode cX8_numberHere 36 = .ok (.aload_n 0, 1) := by decide +kernel
theorem dX8_numberHere_37 : decode cX8_numberHere 37 = .ok (.getfield 9, 3) := by decide +kernel
theorem dX8_numberHere_40 : decode cX8_numberHere 40 = .ok (.iload_n 2, 1) := by decide +kernel
theorem dX8_numberHere_41 : decode cX8_numberHere 41 = .ok (.baload, 1) := by decide +kernel
theorem dX8_numberHere_42 : decode cX8_numberHere 42 = .ok (.iadd, 1) := by decide +kernel
theorem dX8_numberHere_43 : decode cX8_numberHere 43 = .ok (.bipush 48, 2) := by decide +kernel
theorem dX8_numberHere_45 : decode cX8_numberHere 45 = .ok (.isub, 1) := by decide +kernel
theorem dX8_numberHere_46 : decode cX8_numberHere 46 = .ok (.istore_n 1, 1) := by decide +kernel
theorem dX8_numberHere_47 : decode cX8_numberHere 47 = .ok (.iinc 2 1, 3) := by decide +kernel
theorem dX8_numberHere_50 : decode cX8_numberHere 50 = .ok (.goto (-26), 3) := by decide +kernel
theorem dX8_numberHere_53 : decode cX8_numberHere 53 = .ok (.iload_n 1, 1) := by decide +kernel
theorem dX8_numberHere_54 : decode cX8_numberHere 54 = .ok (.ireturn, 1) := by decide +kernel
theorem dX8_isWord_0 : decode cX8_isWord 0 = .ok (.aload_n 0, 1) := by decide +kernel
theorem dX8_isWord_1 : decode cX8_isWord 1 = .ok (.getfield 25, 3) := by decide +kernel
theorem dX8_isWord_4 : decode cX8_isWord 4 = .ok (.iconst 2, 1) := by decide +kernel
theorem dX8_isWord_5 : decode cX8_isWord 5 = .ok (.if_icmp .ne 19, 3) := by decide +kernel
theorem dX8_isWord_8 : decode cX8_isWord 8 = .ok (.aload_n 0, 1) := by decide +kernel
theorem dX8_isWord_9 : decode cX8_isWord 9 = .ok (.getfield 22, 3) := by decide +kernel
theorem dX8_isWord_12 : decode cX8_isWord 12 = .ok (.aload_n 0, 1) := by decide +kernel
theorem dX8_isWord_13 : decode cX8_isWord 13 = .ok (.getfield 19, 3) := by decide +kernel
theorem dX8_isWord_16 : decode cX8_isWord 16 = .ok (.isub, 1) := by decide +kernel
theorem dX8_isWord_17 : decode cX8_isWord 17 = .ok (.aload_n 1, 1) := by decide +kernel
theorem dX8_isWord_18 : decode cX8_isWord 18 = .ok (.invokevirtual 51, 3) := by decide +kernel
theorem dX8_isWord_21 : decode cX8_isWord 21 = .ok (.if_icmp .eq 5, 3) := by decide +kernel
theorem dX8_isWord_24 : decode cX8_isWord 24 = .ok (.iconst 0, 1) := by decide +kernel
theorem dX8_isWord_25 : decode cX8_isWord 25 = .ok (.ireturn, 1) := by decide +kernel
theorem dX8_isWord_26 : decode cX8_isWord 26 = .ok (.iconst 0, 1) := by decide +kernel
theorem dX8_isWord_27 : decode cX8_isWord 27 = .ok (.istore_n 2, 1) := by decide +kernel
theorem dX8_isWord_28 : decode cX8_isWord 28 = .ok (.iload_n 2, 1) := by decide +kernel
theorem dX8_isWord_29 : decode cX8_isWord 29 = .ok (.aload_n 1, 1) := by decide +kernel
theorem dX8_isWord_30 : decode cX8_isWord 30 = .ok (.invokevirtual 51, 3) := by decide +kernel
theorem dX8_isWord_33 : decode cX8_isWord 33 = .ok (.if_icmp .ge 30, 3) := by decide +kernel
theorem dX8_isWord_36 : decode cX8_isWord 36 = .ok (.aload_n 0, 1) := by decide +kernel
theorem dX8_isWord_37 : decode cX8_isWord 37 = .ok (.getfield 9, 3) := by decide +kernel
theorem dX8_isWord_40 : decode cX8_isWord 40 = .ok (.aload_n 0, 1) := by decide +kernel
theorem dX8_isWord_41 : decode cX8_isWord 41 = .ok (.getfield 19, 3) := by decide +kernel
theorem dX8_isWord_44 : decode cX8_isWord 44 = .ok (.iload_n 2, 1) := by decide +kernel
theorem dX8_isWord_45 : decode cX8_isWord 45 = .ok (.iadd, 1) := by decide +kernel
theorem dX8_isWord_46 : decode cX8_isWord 46 = .ok (.baload, 1) := by decide +kernel
theorem dX8_isWord_47 : decode cX8_isWord 47 = .ok (.aload_n 1, 1) := by decide +kernel
theorem dX8_isWord_48 : decode cX8_isWord 48 = .ok (.iload_n 2, 1) := by decide +kernel
theorem dX8_isWord_49 : decode cX8_isWord 49 = .ok (.invokevirtual 55, 3) := by decide +kernel
theorem dX8_isWord_52 : decode cX8_isWord 52 = .ok (.if_icmp .eq 5, 3) := by decide +kernel
theorem dX8_isWord_55 : decode cX8_isWord 55 = .ok (.iconst 0, 1) := by decide +kernel
theorem dX8_isWord_56 : decode cX8_isWord 56 = .ok (.ireturn, 1) := by decide +kernel
theorem dX8_isWord_57 : decode cX8_isWord 57 = .ok (.iinc 2 1, 3) := by decide +kernel
theorem dX8_isWord_60 : decode cX8_isWord 60 = .ok (.goto (-32), 3) := by decide +kernel
theorem dX8_isWord_63 : decode cX8_isWord 63 = .ok (.iconst 1, 1) := by decide +kernel
theorem dX8_isWord_64 : decode cX8_isWord 64 = .ok (.ireturn, 1) := by decide +kernel
theorem dX8_takeNumber_0 : decode cX8_takeNumber 0 = .ok (.aload_n 0, 1) := by decide +kernel
theorem dX8_takeNumber_1 : decode cX8_takeNumber 1 = .ok (.getfield 25, 3) := by decide +kernel
theorem dX8_takeNumber_4 : decode cX8_takeNumber 4 = .ok (.iconst 3, 1) := by decide +kernel
theorem dX8_takeNumber_5 : decode cX8_takeNumber 5 = .ok (.if_icmp .eq 11, 3) := by decide +kernel
theorem dX8_takeNumber_8 : decode cX8_takeNumber 8 = .ok (.aload_n 0, 1) := by decide +kernel
theorem dX8_takeNumber_9 : decode cX8_takeNumber 9 = .ok (.iconst 1, 1) := by decide +kernel
theorem dX8_takeNumber_10 : decode cX8_takeNumber 10 = .ok (.invokevirtual 59, 3) := by decide +kernel
theorem dX8_takeNumber_13 : decode cX8_takeNumber 13 = .ok (.goto 16, 3) := by decide +kernel
theorem dX8_takeNumber_16 : decode cX8_takeNumber 16 = .ok (.aload_n 0, 1) := by decide +kernel
theorem dX8_takeNumber_17 : decode cX8_takeNumber 17 = .ok (.getfield 28, 3) := by decide +kernel
theorem dX8_takeNumber_20 : decode cX8_takeNumber 20 = .ok (.iload_n 1, 1) := by decide +kernel
theorem dX8_takeNumber_21 : decode cX8_takeNumber 21 = .ok (.if_icmp .le 8, 3) := by decide +kernel
theorem dX8_takeNumber_24 : decode cX8_takeNumber 24 = .ok (.aload_n 0, 1) := by decide +kernel
theorem dX8_takeNumber_25 : decode cX8_takeNumber 25 = .ok (.iconst 2, 1) := by decide +kernel
theorem dX8_takeNumber_26 : decode cX8_takeNumber 26 = .ok (.invokevirtual 59, 3) := by decide +kernel
theorem dX8_takeNumber_29 : decode cX8_takeNumber 29 = .ok (.aload_n 0, 1) := by decide +kernel
theorem dX8_takeNumber_30 : decode cX8_takeNumber 30 = .ok (.getfield 28, 3) := by decide +kernel
theorem dX8_takeNumber_33 : decode cX8_takeNumber 33 = .ok (.istore_n 2, 1) := by decide +kernel
theorem dX8_takeNumber_34 : decode cX8_takeNumber 34 = .ok (.aload_n 0, 1) := by decide +kernel
theorem dX8_takeNumber_35 : decode cX8_takeNumber 35 = .ok (.invokevirtual 40, 3) := by decide +kernel
theorem dX8_takeNumber_38 : decode cX8_takeNumber 38 = .ok (.iload_n 2, 1) := by decide +kernel
theorem dX8_takeNumber_39 : decode cX8_takeNumber 39 = .ok (.ireturn, 1) := by decide +kernel
theorem dX8_takeSign_0 : decode cX8_takeSign 0 = .ok (.aload_n 0, 1) := by decide +kernel
theorem dX8_takeSign_1 : decode cX8_takeSign 1 = .ok (.getfield 25, 3) := by decide +kernel
theorem dX8_takeSign_4 : decode cX8_takeSign 4 = .ok (.iload_n 1, 1) := by decide +kernel
theorem dX8_takeSign_5 : decode cX8_takeSign 5 = .ok (.if_icmp .eq 8, 3) := by decide +kernel
theorem dX8_takeSign_8 : decode cX8_takeSign 8 = .ok (.aload_n 0, 1) := by decide +kernel
theorem dX8_takeSign_9 : decode cX8_takeSign 9 = .ok (.iconst 1, 1) := by decide +kernel
theorem dX8_takeSign_10 : decode cX8_takeSign 10 = .ok (.invokevirtual 59, 3) := by decide +kernel
theorem dX8_takeSign_13 : decode cX8_takeSign 13 = .ok (.aload_n 0, 1) := by decide +kernel
theorem dX8_takeSign_14 : decode cX8_takeSign 14 = .ok (.invokevirtual 40, 3) := by decide +kernel
theorem dX8_takeSign_17 : decode cX8_takeSign 17 = .ok (.return_, 1) := by decide +kernel
theorem dX8_kindOf_0 : decode cX8_kindOf 0 = .ok (.iload_n 0, 1) := by decide +kernel
theorem dX8_kindOf_1 : decode cX8_kindOf 1 = .ok (.bipush 97, 2) := by decide +kernel
theorem dX8_kindOf_3 : decode cX8_kindOf 3 = .ok (.if_icmp .lt 11, 3) := by decide +kernel
theorem dX8_kindOf_6 : decode cX8_kindOf 6 = .ok (.iload_n 0, 1) := by decide +kernel
theorem dX8_kindOf_7 : decode cX8_kindOf 7 = .ok (.bipush 122, 2) := by decide +kernel
theorem dX8_kindOf_9 : decode cX8_kindOf 9 = .ok (.if_icmp .gt 5, 3) := by decide +kernel
theorem dX8_kindOf_12 : decode cX8_kindOf 12 = .ok (.iconst 2, 1) := by decide +kernel
theorem dX8_kindOf_13 : decode cX8_kindOf 13 = .ok (.ireturn, 1) := by decide +kernel
theorem dX8_kindOf_14 : decode cX8_kindOf 14 = .ok (.iload_n 0, 1) := by decide +kernel
theorem dX8_kindOf_15 : decode cX8_kindOf 15 = .ok (.bipush 48, 2) := by decide +kernel
theorem dX8_kindOf_17 : decode cX8_kindOf 17 = .ok (.if_icmp .lt 11, 3) := by decide +kernel
theorem dX8_kindOf_20 : decode cX8_kindOf 20 = .ok (.iload_n 0, 1) := by decide +kernel
theorem dX8_kindOf_21 : decode cX8_kindOf 21 = .ok (.bipush 57, 2) := by decide +kernel
theorem dX8_kindOf_23 : decode cX8_kindOf 23 = .ok (.if_icmp .gt 5, 3) := by decide +kernel
theorem dX8_kindOf_26 : decode cX8_kindOf 26 = .ok (.iconst 3, 1) := by decide +kernel
theorem dX8_kindOf_27 : decode cX8_kindOf 27 = .ok (.ireturn, 1) := by decide +kernel
theorem dX8_kindOf_28 : decode cX8_kindOf 28 = .ok (.iload_n 0, 1) := by decide +kernel
theorem dX8_kindOf_29 : decode cX8_kindOf 29 = .ok (.lookupswitch 103 #[(10, 99), (32, 99), (40, 101), (41, 101), (42, 101), (43, 101), (45, 101), (47, 101), (59, 101), (60, 101), (61, 101)], 99) := by decide +kernel
theorem dX8_kindOf_128 : decode cX8_kindOf 128 = .ok (.iconst 4, 1) := by decide +kernel
theorem dX8_kindOf_129 : decode cX8_kindOf 129 = .ok (.ireturn, 1) := by decide +kernel
theorem dX8_kindOf_130 : decode cX8_kindOf 130 = .ok (.iload_n 0, 1) := by decide +kernel
theorem dX8_kindOf_131 : decode cX8_kindOf 131 = .ok (.ireturn, 1) := by decide +kernel
theorem dX8_kindOf_132 : decode cX8_kindOf 132 = .ok (.iconst 1, 1) := by decide +kernel
theorem dX8_kindOf_133 : decode cX8_kindOf 133 = .ok (.ireturn, 1) := by decide +kernel
theorem dJ6_bitCount_0f7a4_0 : decode cJ6_bitCount_0f7a4 0 = .ok (.iload_n 0, 1) := by decide +kernel
theorem dJ6_bitCount_0f7a4_1 : decode cJ6_bitCount_0f7a4 1 = .ok (.iload_n 0, 1) := by decide +kernel
theorem dJ6_bitCount_0f7a4_2 : decode cJ6_bitCount_0f7a4 2 = .ok (.iconst 1, 1) := by decide +kernel
theorem dJ6_bitCount_0f7a4_3 : decode cJ6_bitCount_0f7a4 3 = .ok (.iushr, 1) := by decide +kernel
theorem dJ6_bitCount_0f7a4_4 : decode cJ6_bitCount_0f7a4 4 = .ok (.ldc_w 265, 3) := by decide +kernel
theorem dJ6_bitCount_0f7a4_7 : decode cJ6_bitCount_0f7a4 7 = .ok (.iand, 1) := by decide +kernel
theorem dJ6_bitCount_0f7a4_8 : decode cJ6_bitCount_0f7a4 8 = .ok (.isub, 1) := by decide +kernel
theorem dJ6_bitCount_0f7a4_9 : decode cJ6_bitCount_0f7a4 9 = .ok (.istore_n 0, 1) := by decide +kernel
theorem dJ6_bitCount_0f7a4_10 : decode cJ6_bitCount_0f7a4 10 = .ok (.iload_n 0, 1) := by decide +kernel
theorem dJ6_bitCount_0f7a4_11 : decode cJ6_bitCount_0f7a4 11 = .ok (.ldc_w 266, 3) := by decide +kernel
theorem dJ6_bitCount_0f7a4_14 : decode cJ6_bitCount_0f7a4 14 = .ok (.iand, 1) := by decide +kernel
theorem dJ6_bitCount_0f7a4_15 : decode cJ6_bitCount_0f7a4 15 = .ok (.iload_n 0, 1) := by decide +kernel
theorem dJ6_bitCount_0f7a4_16 : decode cJ6_bitCount_0f7a4 16 = .ok (.iconst 2, 1) := by decide +kernel
theorem dJ6_bitCount_0f7a4_17 : decode cJ6_bitCount_0f7a4 17 = .ok (.iushr, 1) := by decide +kernel
theorem dJ6_bitCount_0f7a4_18 : decode cJ6_bitCount_0f7a4 18 = .ok (.ldc_w 266, 3) := by decide +kernel
theorem dJ6_bitCount_0f7a4_21 : decode cJ6_bitCount_0f7a4 21 = .ok (.iand, 1) := by decide +kernel
theorem dJ6_bitCount_0f7a4_22 : decode cJ6_bitCount_0f7a4 22 = .ok (.iadd, 1) := by decide +kernel
theorem dJ6_bitCount_0f7a4_23 : decode cJ6_bitCount_0f7a4 23 = .ok (.istore_n 0, 1) := by decide +kernel
theorem dJ6_bitCount_0f7a4_24 : decode cJ6_bitCount_0f7a4 24 = .ok (.iload_n 0, 1) := by decide +kernel
theorem dJ6_bitCount_0f7a4_25 : decode cJ6_bitCount_0f7a4 25 = .ok (.iload_n 0, 1) := by decide +kernel
theorem dJ6_bitCount_0f7a4_26 : decode cJ6_bitCount_0f7a4 26 = .ok (.iconst 4, 1) := by decide +kernel
theorem dJ6_bitCount_0f7a4_27 : decode cJ6_bitCount_0f7a4 27 = .ok (.iushr, 1) := by decide +kernel
theorem dJ6_bitCount_0f7a4_28 : decode cJ6_bitCount_0f7a4 28 = .ok (.iadd, 1) := by decide +kernel
theorem dJ6_bitCount_0f7a4_29 : decode cJ6_bitCount_0f7a4 29 = .ok (.ldc_w 267, 3) := by decide +kernel
theorem dJ6_bitCount_0f7a4_32 : decode cJ6_bitCount_0f7a4 32 = .ok (.iand, 1) := by decide +kernel
theorem dJ6_bitCount_0f7a4_33 : decode cJ6_bitCount_0f7a4 33 = .ok (.istore_n 0, 1) := by decide +kernel
theorem dJ6_bitCount_0f7a4_34 : decode cJ6_bitCount_0f7a4 34 = .ok (.iload_n 0, 1) := by decide +kernel
theorem dJ6_bitCount_0f7a4_35 : decode cJ6_bitCount_0f7a4 35 = .ok (.iload_n 0, 1) := by decide +kernel
theorem dJ6_bitCount_0f7a4_36 : decode cJ6_bitCount_0f7a4 36 = .ok (.bipush 8, 2) := by decide +kernel
theorem dJ6_bitCount_0f7a4_38 : decode cJ6_bitCount_0f7a4 38 = .ok (.iushr, 1) := by decide +kernel
theorem dJ6_bitCount_0f7a4_39 : decode cJ6_bitCount_0f7a4 39 = .ok (.iadd, 1) := by decide +kernel
theorem dJ6_bitCount_0f7a4_40 : decode cJ6_bitCount_0f7a4 40 = .ok (.istore_n 0, 1) := by decide +kernel
theorem dJ6_bitCount_0f7a4_41 : decode cJ6_bitCount_0f7a4 41 = .ok (.iload_n 0, 1) := by decide +kernel
theorem dJ6_bitCount_0f7a4_42 : decode cJ6_bitCount_0f7a4 42 = .ok (.iload_n 0, 1) := by decide +kernel
theorem dJ6_bitCount_0f7a4_43 : decode cJ6_bitCount_0f7a4 43 = .ok (.bipush 16, 2) := by decide +kernel
theorem dJ6_bitCount_0f7a4_45 : decode cJ6_bitCount_0f7a4 45 = .ok (.iushr, 1) := by decide +kernel
theorem dJ6_bitCount_0f7a4_46 : decode cJ6_bitCount_0f7a4 46 = .ok (.iadd, 1) := by decide +kernel
theorem dJ6_bitCount_0f7a4_47 : decode cJ6_bitCount_0f7a4 47 = .ok (.istore_n 0, 1) := by decide +kernel
theorem dJ6_bitCount_0f7a4_48 : decode cJ6_bitCount_0f7a4 48 = .ok (.iload_n 0, 1) := by decide +kernel
theorem dJ6_bitCount_0f7a4_49 : decode cJ6_bitCount_0f7a4 49 = .ok (.bipush 63, 2) := by decide +kernel
theorem dJ6_bitCount_0f7a4_51 : decode cJ6_bitCount_0f7a4 51 = .ok (.iand, 1) := by decide +kernel
theorem dJ6_bitCount_0f7a4_52 : decode cJ6_bitCount_0f7a4 52 = .ok (.ireturn, 1) := by decide +kernel
theorem dJ9_floorMod_7cf53_0 : decode cJ9_floorMod_7cf53 0 = .ok (.iload_n 0, 1) := by decide +kernel
theorem dJ9_floorMod_7cf53_1 : decode cJ9_floorMod_7cf53 1 = .ok (.iload_n 1, 1) := by decide +kernel
theorem dJ9_floorMod_7cf53_2 : decode cJ9_floorMod_7cf53 2 = .ok (.irem, 1) := by decide +kernel
theorem dJ9_floorMod_7cf53_3 : decode cJ9_floorMod_7cf53 3 = .ok (.istore_n 2, 1) := by decide +kernel
theorem dJ9_floorMod_7cf53_4 : decode cJ9_floorMod_7cf53 4 = .ok (.iload_n 0, 1) := by decide +kernel
theorem dJ9_floorMod_7cf53_5 : decode cJ9_floorMod_7cf53 5 = .ok (.iload_n 1, 1) := by decide +kernel
theorem dJ9_floorMod_7cf53_6 : decode cJ9_floorMod_7cf53 6 = .ok (.ixor, 1) := by decide +kernel
theorem dJ9_floorMod_7cf53_7 : decode cJ9_floorMod_7cf53 7 = .ok (.ifCond .ge 11, 3) := by decide +kernel
theorem dJ9_floorMod_7cf53_10 : decode cJ9_floorMod_7cf53 10 = .ok (.iload_n 2, 1) := by decide +kernel
theorem dJ9_floorMod_7cf53_11 : decode cJ9_floorMod_7cf53 11 = .ok (.ifCond .eq 7, 3) := by decide +kernel
theorem dJ9_floorMod_7cf53_14 : decode cJ9_floorMod_7cf53 14 = .ok (.iload_n 2, 1) := by decide +kernel
theorem dJ9_floorMod_7cf53_15 : decode cJ9_floorMod_7cf53 15 = .ok (.iload_n 1, 1) := by decide +kernel
theorem dJ9_floorMod_7cf53_16 : decode cJ9_floorMod_7cf53 16 = .ok (.iadd, 1) := by decide +kernel
theorem dJ9_floorMod_7cf53_17 : decode cJ9_floorMod_7cf53 17 = .ok (.ireturn, 1) := by decide +kernel
theorem dJ9_floorMod_7cf53_18 : decode cJ9_floorMod_7cf53 18 = .ok (.iload_n 2, 1) := by decide +kernel
theorem dJ9_floorMod_7cf53_19 : decode cJ9_floorMod_7cf53 19 = .ok (.ireturn, 1) := by decide +kernel
theorem dJ0_length_8abf5_0 : decode cJ0_length_8abf5 0 = .ok (.aload_n 0, 1) := by decide +kernel
theorem dJ0_length_8abf5_1 : decode cJ0_length_8abf5 1 = .ok (.getfield 9, 3) := by decide +kernel
theorem dJ0_length_8abf5_4 : decode cJ0_length_8abf5 4 = .ok (.arraylength, 1) := by decide +kernel
theorem dJ0_length_8abf5_5 : decode cJ0_length_8abf5 5 = .ok (.aload_n 0, 1) := by decide +kernel
theorem dJ0_length_8abf5_6 : decode cJ0_length_8abf5 6 = .ok (.invokevirtual 335, 3) := by decide +kernel
theorem dJ0_length_8abf5_9 : decode cJ0_length_8abf5 9 = .ok (.ishr, 1) := by decide +kernel
theorem dJ0_length_8abf5_10 : decode cJ0_length_8abf5 10 = .ok (.ireturn, 1) := by decide +kernel
theorem dJ0_charAt_5068e_0 : decode cJ0_charAt_5068e 0 = .ok (.aload_n 0, 1) := by decide +kernel
theorem dJ0_charAt_5068e_1 : decode cJ0_charAt_5068e 1 = .ok (.invokevirtual 492, 3) := by decide +kernel
theorem dJ0_charAt_5068e_4 : decode cJ0_charAt_5068e 4 = .ok (.ifCond .eq 12, 3) := by decide +kernel
theorem dJ0_charAt_5068e_7 : decode cJ0_charAt_5068e 7 = .ok (.aload_n 0, 1) := by decide +kernel
theorem dJ0_charAt_5068e_8 : decode cJ0_charAt_5068e 8 = .ok (.getfield 9, 3) := by decide +kernel
theorem dJ0_charAt_5068e_11 : decode cJ0_charAt_5068e 11 = .ok (.iload_n 1, 1) := by decide +kernel
theorem dJ0_charAt_5068e_12 : decode cJ0_charAt_5068e 12 = .ok (.invokestatic 495, 3) := by decide +kernel
theorem dJ0_charAt_5068e_15 : decode cJ0_charAt_5068e 15 = .ok (.ireturn, 1) := by decide +kernel
theorem dJ0_charAt_5068e_16 : decode cJ0_charAt_5068e 16 = .ok (.aload_n 0, 1) := by decide +kernel
theorem dJ0_charAt_5068e_17 : decode cJ0_charAt_5068e 17 = .ok (.getfield 9, 3) := by decide +kernel
theorem dJ0_charAt_5068e_20 : decode cJ0_charAt_5068e 20 = .ok (.iload_n 1, 1) := by decide +kernel
theorem dJ0_charAt_5068e_21 : decode cJ0_charAt_5068e 21 = .ok (.invokestatic 498, 3) := by decide +kernel
theorem dJ0_charAt_5068e_24 : decode cJ0_charAt_5068e 24 = .ok (.ireturn, 1) := by decide +kernel
theorem dJ0_coder_7d493_0 : decode cJ0_coder_7d493 0 = .ok (.getstatic 38, 3) := by decide +kernel
theorem dJ0_coder_7d493_3 : decode cJ0_coder_7d493 3 = .ok (.ifCond .eq 10, 3) := by decide +kernel
theorem dJ0_coder_7d493_6 : decode cJ0_coder_7d493 6 = .ok (.aload_n 0, 1) := by decide +kernel
theorem dJ0_coder_7d493_7 : decode cJ0_coder_7d493 7 = .ok (.getfield 15, 3) := by decide +kernel
theorem dJ0_coder_7d493_10 : decode cJ0_coder_7d493 10 = .ok (.goto 4, 3) := by decide +kernel
theorem dJ0_coder_7d493_13 : decode cJ0_coder_7d493 13 = .ok (.iconst 1, 1) := by decide +kernel
theorem dJ0_coder_7d493_14 : decode cJ0_coder_7d493 14 = .ok (.ireturn, 1) := by decide +kernel
theorem dJ0_isLatin1_aae02_0 : decode cJ0_isLatin1_aae02 0 = .ok (.getstatic 38, 3) := by decide +kernel
theorem dJ0_isLatin1_aae02_3 : decode cJ0_isLatin1_aae02 3 = .ok (.ifCond .eq 14, 3) := by decide +kernel
theorem dJ0_isLatin1_aae02_6 : decode cJ0_isLatin1_aae02 6 = .ok (.aload_n 0, 1) := by decide +kernel
theorem dJ0_isLatin1_aae02_7 : decode cJ0_isLatin1_aae02 7 = .ok (.getfield 15, 3) := by decide +kernel
theorem dJ0_isLatin1_aae02_10 : decode cJ0_isLatin1_aae02 10 = .ok (.ifCond .ne 7, 3) := by decide +kernel
theorem dJ0_isLatin1_aae02_13 : decode cJ0_isLatin1_aae02 13 = .ok (.iconst 1, 1) := by decide +kernel
theorem dJ0_isLatin1_aae02_14 : decode cJ0_isLatin1_aae02 14 = .ok (.goto 4, 3) := by decide +kernel
theorem dJ0_isLatin1_aae02_17 : decode cJ0_isLatin1_aae02 17 = .ok (.iconst 0, 1) := by decide +kernel
theorem dJ0_isLatin1_aae02_18 : decode cJ0_isLatin1_aae02 18 = .ok (.ireturn, 1) := by decide +kernel
theorem dJ0_checkIndex_df160_0 : decode cJ0_checkIndex_df160 0 = .ok (.iload_n 0, 1) := by decide +kernel
theorem dJ0_checkIndex_df160_1 : decode cJ0_checkIndex_df160 1 = .ok (.iload_n 1, 1) := by decide +kernel
theorem dJ0_checkIndex_df160_2 : decode cJ0_checkIndex_df160 2 = .ok (.getstatic 1053, 3) := by decide +kernel
theorem dJ0_checkIndex_df160_5 : decode cJ0_checkIndex_df160 5 = .ok (.invokestatic 1059, 3) := by decide +kernel
theorem dJ0_checkIndex_df160_8 : decode cJ0_checkIndex_df160 8 = .ok (.pop, 1) := by decide +kernel
theorem dJ0_checkIndex_df160_9 : decode cJ0_checkIndex_df160 9 = .ok (.return_, 1) := by decide +kernel
theorem dJ1_charAt_3b067_0 : decode cJ1_charAt_3b067 0 = .ok (.iload_n 1, 1) := by decide +kernel
theorem dJ1_charAt_3b067_1 : decode cJ1_charAt_3b067 1 = .ok (.aload_n 0, 1) := by decide +kernel
theorem dJ1_charAt_3b067_2 : decode cJ1_charAt_3b067 2 = .ok (.arraylength, 1) := by decide +kernel
theorem dJ1_charAt_3b067_3 : decode cJ1_charAt_3b067 3 = .ok (.invokestatic 9, 3) := by decide +kernel
theorem dJ1_charAt_3b067_6 : decode cJ1_charAt_3b067 6 = .ok (.aload_n 0, 1) := by decide +kernel
theorem dJ1_charAt_3b067_7 : decode cJ1_charAt_3b067 7 = .ok (.iload_n 1, 1) := by decide +kernel
theorem dJ1_charAt_3b067_8 : decode cJ1_charAt_3b067 8 = .ok (.baload, 1) := by decide +kernel
theorem dJ1_charAt_3b067_9 : decode cJ1_charAt_3b067 9 = .ok (.sipush 255, 3) := by decide +kernel
theorem dJ1_charAt_3b067_12 : decode cJ1_charAt_3b067 12 = .ok (.iand, 1) := by decide +kernel
theorem dJ1_charAt_3b067_13 : decode cJ1_charAt_3b067 13 = .ok (.i2c, 1) := by decide +kernel
theorem dJ1_charAt_3b067_14 : decode cJ1_charAt_3b067 14 = .ok (.ireturn, 1) := by decide +kernel
theorem dJ7_rangeCheck_23922_0 : decode cJ7_rangeCheck_23922 0 = .ok (.iload_n 1, 1) := by decide +kernel
theorem dJ7_rangeCheck_23922_1 : decode cJ7_rangeCheck_23922 1 = .ok (.iload_n 2, 1) := by decide +kernel
theorem dJ7_rangeCheck_23922_2 : decode cJ7_rangeCheck_23922 2 = .ok (.if_icmp .le 44, 3) := by decide +kernel
theorem dJ7_rangeCheck_23922_5 : decode cJ7_rangeCheck_23922 5 = .ok (.new 43, 3) := by decide +kernel
theorem dJ7_rangeCheck_23922_8 : decode cJ7_rangeCheck_23922 8 = .ok (.dup, 1) := by decide +kernel
theorem dJ7_rangeCheck_23922_9 : decode cJ7_rangeCheck_23922 9 = .ok (.new 45, 3) := by decide +kernel
theorem dJ7_rangeCheck_23922_12 : decode cJ7_rangeCheck_23922 12 = .ok (.dup, 1) := by decide +kernel
theorem dJ7_rangeCheck_23922_13 : decode cJ7_rangeCheck_23922 13 = .ok (.invokespecial 47, 3) := by decide +kernel
theorem dJ7_rangeCheck_23922_16 : decode cJ7_rangeCheck_23922 16 = .ok (.ldc 48, 2) := by decide +kernel
theorem dJ7_rangeCheck_23922_18 : decode cJ7_rangeCheck_23922 18 = .ok (.invokevirtual 50, 3) := by decide +kernel
theorem dJ7_rangeCheck_23922_21 : decode cJ7_rangeCheck_23922 21 = .ok (.iload_n 1, 1) := by decide +kernel
theorem dJ7_rangeCheck_23922_22 : decode cJ7_rangeCheck_23922 22 = .ok (.invokevirtual 54, 3) := by decide +kernel
theorem dJ7_rangeCheck_23922_25 : decode cJ7_rangeCheck_23922 25 = .ok (.ldc 57, 2) := by decide +kernel
theorem dJ7_rangeCheck_23922_27 : decode cJ7_rangeCheck_23922 27 = .ok (.invokevirtual 50, 3) := by decide +kernel
theorem dJ7_rangeCheck_23922_30 : decode cJ7_rangeCheck_23922 30 = .ok (.iload_n 2, 1) := by decide +kernel
theorem dJ7_rangeCheck_23922_31 : decode cJ7_rangeCheck_23922 31 = .ok (.invokevirtual 54, 3) := by decide +kernel
theorem dJ7_rangeCheck_23922_34 : decode cJ7_rangeCheck_23922 34 = .ok (.ldc 59, 2) := by decide +kernel
theorem dJ7_rangeCheck_23922_36 : decode cJ7_rangeCheck_23922 36 = .ok (.invokevirtual 50, 3) := by decide +kernel
theorem dJ7_rangeCheck_23922_39 : decode cJ7_rangeCheck_23922 39 = .ok (.invokevirtual 61, 3) := by decide +kernel
theorem dJ7_rangeCheck_23922_42 : decode cJ7_rangeCheck_23922 42 = .ok (.invokespecial 65, 3) := by decide +kernel
theorem dJ7_rangeCheck_23922_45 : decode cJ7_rangeCheck_23922 45 = .ok (.athrow, 1) := by decide +kernel
theorem dJ7_rangeCheck_23922_46 : decode cJ7_rangeCheck_23922 46 = .ok (.iload_n 1, 1) := by decide +kernel
theorem dJ7_rangeCheck_23922_47 : decode cJ7_rangeCheck_23922 47 = .ok (.ifCond .ge 12, 3) := by decide +kernel
theorem dJ7_rangeCheck_23922_50 : decode cJ7_rangeCheck_23922 50 = .ok (.new 68, 3) := by decide +kernel
theorem dJ7_rangeCheck_23922_53 : decode cJ7_rangeCheck_23922 53 = .ok (.dup, 1) := by decide +kernel
theorem dJ7_rangeCheck_23922_54 : decode cJ7_rangeCheck_23922 54 = .ok (.iload_n 1, 1) := by decide +kernel
theorem dJ7_rangeCheck_23922_55 : decode cJ7_rangeCheck_23922 55 = .ok (.invokespecial 70, 3) := by decide +kernel
theorem dJ7_rangeCheck_23922_58 : decode cJ7_rangeCheck_23922 58 = .ok (.athrow, 1) := by decide +kernel
theorem dJ7_rangeCheck_23922_59 : decode cJ7_rangeCheck_23922 59 = .ok (.iload_n 2, 1) := by decide +kernel
theorem dJ7_rangeCheck_23922_60 : decode cJ7_rangeCheck_23922 60 = .ok (.iload_n 0, 1) := by decide +kernel
theorem dJ7_rangeCheck_23922_61 : decode cJ7_rangeCheck_23922 61 = .ok (.if_icmp .le 12, 3) := by decide +kernel
theorem dJ7_rangeCheck_23922_64 : decode cJ7_rangeCheck_23922 64 = .ok (.new 68, 3) := by decide +kernel
theorem dJ7_rangeCheck_23922_67 : decode cJ7_rangeCheck_23922 67 = .ok (.dup, 1) := by decide +kernel
theorem dJ7_rangeCheck_23922_68 : decode cJ7_rangeCheck_23922 68 = .ok (.iload_n 2, 1) := by decide +kernel
theorem dJ7_rangeCheck_23922_69 : decode cJ7_rangeCheck_23922 69 = .ok (.invokespecial 70, 3) := by decide +kernel
theorem dJ7_rangeCheck_23922_72 : decode cJ7_rangeCheck_23922 72 = .ok (.athrow, 1) := by decide +kernel
theorem dJ7_rangeCheck_23922_73 : decode cJ7_rangeCheck_23922 73 = .ok (.return_, 1) := by decide +kernel
theorem dJ7_fill_53178_0 : decode cJ7_fill_53178 0 = .ok (.iconst 0, 1) := by decide +kernel
theorem dJ7_fill_53178_1 : decode cJ7_fill_53178 1 = .ok (.istore_n 2, 1) := by decide +kernel
theorem dJ7_fill_53178_2 : decode cJ7_fill_53178 2 = .ok (.aload_n 0, 1) := by decide +kernel
theorem dJ7_fill_53178_3 : decode cJ7_fill_53178 3 = .ok (.arraylength, 1) := by decide +kernel
theorem dJ7_fill_53178_4 : decode cJ7_fill_53178 4 = .ok (.istore_n 3, 1) := by decide +kernel
theorem dJ7_fill_53178_5 : decode cJ7_fill_53178 5 = .ok (.iload_n 2, 1) := by decide +kernel
theorem dJ7_fill_53178_6 : decode cJ7_fill_53178 6 = .ok (.iload_n 3, 1) := by decide +kernel
theorem dJ7_fill_53178_7 : decode cJ7_fill_53178 7 = .ok (.if_icmp .ge 13, 3) := by decide +kernel
theorem dJ7_fill_53178_10 : decode cJ7_fill_53178 10 = .ok (.aload_n 0, 1) := by decide +kernel
theorem dJ7_fill_53178_11 : decode cJ7_fill_53178 11 = .ok (.iload_n 2, 1) := by decide +kernel
theorem dJ7_fill_53178_12 : decode cJ7_fill_53178 12 = .ok (.iload_n 1, 1) := by decide +kernel
theorem dJ7_fill_53178_13 : decode cJ7_fill_53178 13 = .ok (.iastore, 1) := by decide +kernel
theorem dJ7_fill_53178_14 : decode cJ7_fill_53178 14 = .ok (.iinc 2 1, 3) := by decide +kernel
theorem dJ7_fill_53178_17 : decode cJ7_fill_53178 17 = .ok (.goto (-12), 3) := by decide +kernel
theorem dJ7_fill_53178_20 : decode cJ7_fill_53178 20 = .ok (.return_, 1) := by decide +kernel
theorem dJ7_fill_fda19_0 : decode cJ7_fill_fda19 0 = .ok (.aload_n 0, 1) := by decide +kernel
theorem dJ7_fill_fda19_1 : decode cJ7_fill_fda19 1 = .ok (.arraylength, 1) := by decide +kernel
theorem dJ7_fill_fda19_2 : decode cJ7_fill_fda19 2 = .ok (.iload_n 1, 1) := by decide +kernel
theorem dJ7_fill_fda19_3 : decode cJ7_fill_fda19 3 = .ok (.iload_n 2, 1) := by decide +kernel
theorem dJ7_fill_fda19_4 : decode cJ7_fill_fda19 4 = .ok (.invokestatic 13, 3) := by decide +kernel
theorem dJ7_fill_fda19_7 : decode cJ7_fill_fda19 7 = .ok (.iload_n 1, 1) := by decide +kernel
theorem dJ7_fill_fda19_8 : decode cJ7_fill_fda19 8 = .ok (.istore 4, 2) := by decide +kernel
theorem dJ7_fill_fda19_10 : decode cJ7_fill_fda19 10 = .ok (.iload 4, 2) := by decide +kernel
theorem dJ7_fill_fda19_12 : decode cJ7_fill_fda19 12 = .ok (.iload_n 2, 1) := by decide +kernel
theorem dJ7_fill_fda19_13 : decode cJ7_fill_fda19 13 = .ok (.if_icmp .ge 14, 3) := by decide +kernel
theorem dJ7_fill_fda19_16 : decode cJ7_fill_fda19 16 = .ok (.aload_n 0, 1) := by decide +kernel
theorem dJ7_fill_fda19_17 : decode cJ7_fill_fda19 17 = .ok (.iload 4, 2) := by decide +kernel
theorem dJ7_fill_fda19_19 : decode cJ7_fill_fda19 19 = .ok (.iload_n 3, 1) := by decide +kernel
theorem dJ7_fill_fda19_20 : decode cJ7_fill_fda19 20 = .ok (.iastore, 1) := by decide +kernel
theorem dJ7_fill_fda19_21 : decode cJ7_fill_fda19 21 = .ok (.iinc 4 1, 3) := by decide +kernel
theorem dJ7_fill_fda19_24 : decode cJ7_fill_fda19 24 = .ok (.goto (-14), 3) := by decide +kernel
theorem dJ7_fill_fda19_27 : decode cJ7_fill_fda19 27 = .ok (.return_, 1) := by decide +kernel
theorem dJ3_checkIndex_8e157_0 : decode cJ3_checkIndex_8e157 0 = .ok (.iload_n 0, 1) := by decide +kernel
theorem dJ3_checkIndex_8e157_1 : decode cJ3_checkIndex_8e157 1 = .ok (.ifCond .lt 8, 3) := by decide +kernel
theorem dJ3_checkIndex_8e157_4 : decode cJ3_checkIndex_8e157 4 = .ok (.iload_n 0, 1) := by decide +kernel
theorem dJ3_checkIndex_8e157_5 : decode cJ3_checkIndex_8e157 5 = .ok (.iload_n 1, 1) := by decide +kernel
theorem dJ3_checkIndex_8e157_6 : decode cJ3_checkIndex_8e157 6 = .ok (.if_icmp .lt 10, 3) := by decide +kernel
theorem dJ3_checkIndex_8e157_9 : decode cJ3_checkIndex_8e157 9 = .ok (.aload_n 2, 1) := by decide +kernel
theorem dJ3_checkIndex_8e157_10 : decode cJ3_checkIndex_8e157 10 = .ok (.iload_n 0, 1) := by decide +kernel
theorem dJ3_checkIndex_8e157_11 : decode cJ3_checkIndex_8e157 11 = .ok (.iload_n 1, 1) := by decide +kernel
theorem dJ3_checkIndex_8e157_12 : decode cJ3_checkIndex_8e157 12 = .ok (.invokestatic 95, 3) := by decide +kernel
theorem dJ3_checkIndex_8e157_15 : decode cJ3_checkIndex_8e157 15 = .ok (.athrow, 1) := by decide +kernel
theorem dJ3_checkIndex_8e157_16 : decode cJ3_checkIndex_8e157 16 = .ok (.iload_n 0, 1) := by decide +kernel
theorem dJ3_checkIndex_8e157_17 : decode cJ3_checkIndex_8e157 17 = .ok (.ireturn, 1) := by decide +kernel
