theorem dX0_init_0 : decode cX0_init 0 = .ok (.aload_n 0, 1) := by decide +kernel
theorem dX0_init_1 : decode cX0_init 1 = .ok (.invokespecial 3, 3) := by decide +kernel
theorem dX0_init_4 : decode cX0_init 4 = .ok (.aload_n 0, 1) := by decide +kernel
theorem dX0_init_5 : decode cX0_init 5 = .ok (.sipush 2000, 3) := by decide +kernel
theorem dX0_init_8 : decode cX0_init 8 = .ok (.newarray .int, 2) := by decide +kernel
theorem dX0_init_10 : decode cX0_init 10 = .ok (.putfield 9, 3) := by decide +kernel
theorem dX0_init_13 : decode cX0_init 13 = .ok (.aload_n 0, 1) := by decide +kernel
theorem dX0_init_14 : decode cX0_init 14 = .ok (.sipush 2000, 3) := by decide +kernel
theorem dX0_init_17 : decode cX0_init 17 = .ok (.newarray .int, 2) := by decide +kernel
theorem dX0_init_19 : decode cX0_init 19 = .ok (.putfield 15, 3) := by decide +kernel
theorem dX0_init_22 : decode cX0_init 22 = .ok (.aload_n 0, 1) := by decide +kernel
theorem dX0_init_23 : decode cX0_init 23 = .ok (.sipush 2000, 3) := by decide +kernel
theorem dX0_init_26 : decode cX0_init 26 = .ok (.newarray .int, 2) := by decide +kernel
theorem dX0_init_28 : decode cX0_init 28 = .ok (.putfield 18, 3) := by decide +kernel
theorem dX0_init_31 : decode cX0_init 31 = .ok (.aload_n 0, 1) := by decide +kernel
theorem dX0_init_32 : decode cX0_init 32 = .ok (.sipush 2000, 3) := by decide +kernel
theorem dX0_init_35 : decode cX0_init 35 = .ok (.newarray .int, 2) := by decide +kernel
theorem dX0_init_37 : decode cX0_init 37 = .ok (.putfield 21, 3) := by decide +kernel
theorem dX0_init_40 : decode cX0_init 40 = .ok (.aload_n 0, 1) := by decide +kernel
theorem dX0_init_41 : decode cX0_init 41 = .ok (.sipush 2000, 3) := by decide +kernel
theorem dX0_init_44 : decode cX0_init 44 = .ok (.newarray .int, 2) := by decide +kernel
theorem dX0_init_46 : decode cX0_init 46 = .ok (.putfield 24, 3) := by decide +kernel
theorem dX0_init_49 : decode cX0_init 49 = .ok (.aload_n 0, 1) := by decide +kernel
theorem dX0_init_50 : decode cX0_init 50 = .ok (.sipush 2000, 3) := by decide +kernel
theorem dX0_init_53 : decode cX0_init 53 = .ok (.newarray .int, 2) := by decide +kernel
theorem dX0_init_55 : decode cX0_init 55 = .ok (.putfield 27, 3) := by decide +kernel
theorem dX0_init_58 : decode cX0_init 58 = .ok (.aload_n 0, 1) := by decide +kernel
theorem dX0_init_59 : decode cX0_init 59 = .ok (.sipush 2000, 3) := by decide +kernel
theorem dX0_init_62 : decode cX0_init 62 = .ok (.newarray .int, 2) := by decide +kernel
theorem dX0_init_64 : decode cX0_init 64 = .ok (.putfield 30, 3) := by decide +kernel
theorem dX0_init_67 : decode cX0_init 67 = .ok (.aload_n 0, 1) := by decide +kernel
theorem dX0_init_68 : decode cX0_init 68 = .ok (.sipush 2000, 3) := by decide +kernel
theorem dX0_init_71 : decode cX0_init 71 = .ok (.newarray .int, 2) := by decide +kernel
theorem dX0_init_73 : decode cX0_init 73 = .ok (.putfield 33, 3) := by decide +kernel
theorem dX0_init_76 : decode cX0_init 76 = .ok (.aload_n 0, 1) := by decide +kernel
theorem dX0_init_77 : decode cX0_init 77 = .ok (.aload_n 1, 1) := by decide +kernel
theorem dX0_init_78 : decode cX0_init 78 = .ok (.putfield 36, 3) := by decide +kernel
theorem dX0_init_81 : decode cX0_init 81 = .ok (.return_, 1) := by decide +kernel
theorem dX0_split_0 : decode cX0_split 0 = .ok (.aload_n 0, 1) := by decide +kernel
theorem dX0_split_1 : decode cX0_split 1 = .ok (.iconst 0, 1) := by decide +kernel
theorem dX0_split_2 : decode cX0_split 2 = .ok (.putfield 40, 3) := by decide +kernel
theorem dX0_split_5 : decode cX0_split 5 = .ok (.aload_n 0, 1) := by decide +kernel
theorem dX0_split_6 : decode cX0_split 6 = .ok (.iconst 0, 1) := by decide +kernel
theorem dX0_split_7 : decode cX0_split 7 = .ok (.putfield 44, 3) := by decide +kernel
theorem dX0_split_10 : decode cX0_split 10 = .ok (.aload_n 0, 1) := by decide +kernel
theorem dX0_split_11 : decode cX0_split 11 = .ok (.iconst 0, 1) := by decide +kernel
theorem dX0_split_12 : decode cX0_split 12 = .ok (.putfield 47, 3) := by decide +kernel
theorem dX0_split_15 : decode cX0_split 15 = .ok (.aload_n 0, 1) := by decide +kernel
theorem dX0_split_16 : decode cX0_split 16 = .ok (.iconst 0, 1) := by decide +kernel
theorem dX0_split_17 : decode cX0_split 17 = .ok (.putfield 50, 3) := by decide +kernel
theorem dX0_split_20 : decode cX0_split 20 = .ok (.aload_n 0, 1) := by decide +kernel
theorem dX0_split_21 : decode cX0_split 21 = .ok (.getfield 15, 3) := by decide +kernel
theorem dX0_split_24 : decode cX0_split 24 = .ok (.iconst 0, 1) := by decide +kernel
theorem dX0_split_25 : decode cX0_split 25 = .ok (.invokestatic 53, 3) := by decide +kernel
theorem dX0_split_28 : decode cX0_split 28 = .ok (.aload_n 0, 1) := by decide +kernel
theorem dX0_split_29 : decode cX0_split 29 = .ok (.getfield 9, 3) := by decide +kernel
theorem dX0_split_32 : decode cX0_split 32 = .ok (.iconst (-1), 1) := by decide +kernel
theorem dX0_split_33 : decode cX0_split 33 = .ok (.invokestatic 53, 3) := by decide +kernel
theorem dX0_split_36 : decode cX0_split 36 = .ok (.iconst 0, 1) := by decide +kernel
theorem dX0_split_37 : decode cX0_split 37 = .ok (.istore_n 2, 1) := by decide +kernel
theorem dX0_split_38 : decode cX0_split 38 = .ok (.iload_n 2, 1) := by decide +kernel
theorem dX0_split_39 : decode cX0_split 39 = .ok (.aload_n 0, 1) := by decide +kernel
theorem dX0_split_40 : decode cX0_split 40 = .ok (.getfield 36, 3) := by decide +kernel
theorem dX0_split_43 : decode cX0_split 43 = .ok (.getfield 59, 3) := by decide +kernel
theorem dX0_split_46 : decode cX0_split 46 = .ok (.if_icmp .ge 31, 3) := by decide +kernel
theorem dX0_split_49 : decode cX0_split 49 = .ok (.aload_n 1, 1) := by decide +kernel
theorem dX0_split_50 : decode cX0_split 50 = .ok (.iload_n 2, 1) := by decide +kernel
theorem dX0_split_51 : decode cX0_split 51 = .ok (.iaload, 1) := by decide +kernel
theorem dX0_split_52 : decode cX0_split 52 = .ok (.iconst 1, 1) := by decide +kernel
theorem dX0_split_53 : decode cX0_split 53 = .ok (.if_icmp .ne 18, 3) := by decide +kernel
theorem dX0_split_56 : decode cX0_split 56 = .ok (.aload_n 0, 1) := by decide +kernel
theorem dX0_split_57 : decode cX0_split 57 = .ok (.getfield 15, 3) := by decide +kernel
theorem dX0_split_60 : decode cX0_split 60 = .ok (.iload_n 2, 1) := by decide +kernel
theorem dX0_split_61 : decode cX0_split 61 = .ok (.iaload, 1) := by decide +kernel
theorem dX0_split_62 : decode cX0_split 62 = .ok (.ifCond .ne 9, 3) := by decide +kernel
theorem dX0_split_65 : decode cX0_split 65 = .ok (.aload_n 0, 1) := by decide +kernel
theorem dX0_split_66 : decode cX0_split 66 = .ok (.iload_n 2, 1) := by decide +kernel
theorem dX0_split_67 : decode cX0_split 67 = .ok (.aload_n 1, 1) := by decide +kernel
theorem dX0_split_68 : decode cX0_split 68 = .ok (.invokevirtual 64, 3) := by decide +kernel
theorem dX0_split_71 : decode cX0_split 71 = .ok (.iinc 2 1, 3) := by decide +kernel
theorem dX0_split_74 : decode cX0_split 74 = .ok (.goto (-36), 3) := by decide +kernel
theorem dX0_split_77 : decode cX0_split 77 = .ok (.return_, 1) := by decide +kernel
theorem dX0_walkFrom_0 : decode cX0_walkFrom 0 = .ok (.aload_n 0, 1) := by decide +kernel
theorem dX0_walkFrom_1 : decode cX0_walkFrom 1 = .ok (.iload_n 1, 1) := by decide +kernel
theorem dX0_walkFrom_2 : decode cX0_walkFrom 2 = .ok (.invokevirtual 68, 3) := by decide +kernel
theorem dX0_walkFrom_5 : decode cX0_walkFrom 5 = .ok (.aload_n 0, 1) := by decide +kernel
theorem dX0_walkFrom_6 : decode cX0_walkFrom 6 = .ok (.getfield 36, 3) := by decide +kernel
theorem dX0_walkFrom_9 : decode cX0_walkFrom 9 = .ok (.getfield 72, 3) := by decide +kernel
theorem dX0_walkFrom_12 : decode cX0_walkFrom 12 = .ok (.aload_n 0, 1) := by decide +kernel
theorem dX0_walkFrom_13 : decode cX0_walkFrom 13 = .ok (.getfield 36, 3) := by decide +kernel
theorem dX0_walkFrom_16 : decode cX0_walkFrom 16 = .ok (.getfield 59, 3) := by decide +kernel
theorem dX0_walkFrom_19 : decode cX0_walkFrom 19 = .ok (.iadd, 1) := by decide +kernel
theorem dX0_walkFrom_20 : decode cX0_walkFrom 20 = .ok (.istore_n 3, 1) := by decide +kernel
theorem dX0_walkFrom_21 : decode cX0_walkFrom 21 = .ok (.iconst 0, 1) := by decide +kernel
theorem dX0_walkFrom_22 : decode cX0_walkFrom 22 = .ok (.istore 4, 2) := by decide +kernel
theorem dX0_walkFrom_24 : decode cX0_walkFrom 24 = .ok (.iload 4, 2) := by decide +kernel
theorem dX0_walkFrom_26 : decode cX0_walkFrom 26 = .ok (.iload_n 3, 1) := by decide +kernel
theorem dX0_walkFrom_27 : decode cX0_walkFrom 27 = .ok (.if_icmp .ge 107, 3) := by decide +kernel
theorem dX0_walkFrom_30 : decode cX0_walkFrom 30 = .ok (.aload_n 0, 1) := by decide +kernel
theorem dX0_walkFrom_31 : decode cX0_walkFrom 31 = .ok (.getfield 47, 3) := by decide +kernel
theorem dX0_walkFrom_34 : decode cX0_walkFrom 34 = .ok (.ifCond .le 100, 3) := by decide +kernel
theorem dX0_walkFrom_37 : decode cX0_walkFrom 37 = .ok (.aload_n 0, 1) := by decide +kernel
theorem dX0_walkFrom_38 : decode cX0_walkFrom 38 = .ok (.getfield 24, 3) := by decide +kernel
theorem dX0_walkFrom_41 : decode cX0_walkFrom 41 = .ok (.aload_n 0, 1) := by decide +kernel
theorem dX0_walkFrom_42 : decode cX0_walkFrom 42 = .ok (.getfield 47, 3) := by decide +kernel
theorem dX0_walkFrom_45 : decode cX0_walkFrom 45 = .ok (.iconst 1, 1) := by decide +kernel
theorem dX0_walkFrom_46 : decode cX0_walkFrom 46 = .ok (.isub, 1) := by decide +kernel
theorem dX0_walkFrom_47 : decode cX0_walkFrom 47 = .ok (.iaload, 1) := by decide +kernel
theorem dX0_walkFrom_48 : decode cX0_walkFrom 48 = .ok (.istore 5, 2) := by decide +kernel
theorem dX0_walkFrom_50 : decode cX0_walkFrom 50 = .ok (.aload_n 0, 1) := by decide +kernel
theorem dX0_walkFrom_51 : decode cX0_walkFrom 51 = .ok (.getfield 21, 3) := by decide +kernel
theorem dX0_walkFrom_54 : decode cX0_walkFrom 54 = .ok (.iload 5, 2) := by decide +kernel
theorem dX0_walkFrom_56 : decode cX0_walkFrom 56 = .ok (.iaload, 1) := by decide +kernel
theorem dX0_walkFrom_57 : decode cX0_walkFrom 57 = .ok (.aload_n 0, 1) := by decide +kernel
theorem dX0_walkFrom_58 : decode cX0_walkFrom 58 = .ok (.getfield 36, 3) := by decide +kernel
theorem dX0_walkFrom_61 : decode cX0_walkFrom 61 = .ok (.getfield 75, 3) := by decide +kernel
theorem dX0_walkFrom_64 : decode cX0_walkFrom 64 = .ok (.iload 5, 2) := by decide +kernel
theorem dX0_walkFrom_66 : decode cX0_walkFrom 66 = .ok (.iconst 1, 1) := by decide +kernel
theorem dX0_walkFrom_67 : decode cX0_walkFrom 67 = .ok (.iadd, 1) := by decide +kernel
theorem dX0_walkFrom_68 : decode cX0_walkFrom 68 = .ok (.iaload, 1) := by decide +kernel
theorem dX0_walkFrom_69 : decode cX0_walkFrom 69 = .ok (.if_icmp .ge 53, 3) := by decide +kernel
theorem dX0_walkFrom_72 : decode cX0_walkFrom 72 = .ok (.aload_n 0, 1) := by decide +kernel
theorem dX0_walkFrom_73 : decode cX0_walkFrom 73 = .ok (.getfield 36, 3) := by decide +kernel
theorem dX0_walkFrom_76 : decode cX0_walkFrom 76 = .ok (.getfield 78, 3) := by decide +kernel
theorem dX0_walkFrom_79 : decode cX0_walkFrom 79 = .ok (.aload_n 0, 1) := by decide +kernel
theorem dX0_walkFrom_80 : decode cX0_walkFrom 80 = .ok (.getfield 21, 3) := by decide +kernel
theorem dX0_walkFrom_83 : decode cX0_walkFrom 83 = .ok (.iload 5, 2) := by decide +kernel
theorem dX0_walkFrom_85 : decode cX0_walkFrom 85 = .ok (.iaload, 1) := by decide +kernel
theorem dX0_walkFrom_86 : decode cX0_walkFrom 86 = .ok (.iaload, 1) := by decide +kernel
theorem dX0_walkFrom_87 : decode cX0_walkFrom 87 = .ok (.invokestatic 81, 3) := by decide +kernel
theorem dX0_walkFrom_90 : decode cX0_walkFrom 90 = .ok (.istore 6, 2) := by decide +kernel
theorem dX0_walkFrom_92 : decode cX0_walkFrom 92 = .ok (.aload_n 0, 1) := by decide +kernel
theorem dX0_walkFrom_93 : decode cX0_walkFrom 93 = .ok (.getfield 21, 3) := by decide +kernel
theorem dX0_walkFrom_96 : decode cX0_walkFrom 96 = .ok (.iload 5, 2) := by decide +kernel
theorem dX0_walkFrom_98 : decode cX0_walkFrom 98 = .ok (.dup2, 1) := by decide +kernel
theorem dX0_walkFrom_99 : decode cX0_walkFrom 99 = .ok (.iaload, 1) := by decide +kernel
theorem dX0_walkFrom_100 : decode cX0_walkFrom 100 = .ok (.iconst 1, 1) := by decide +kernel
theorem dX0_walkFrom_101 : decode cX0_walkFrom 101 = .ok (.iadd, 1) := by decide +kernel
theorem dX0_walkFrom_102 : decode cX0_walkFrom 102 = .ok (.iastore, 1) := by decide +kernel
theorem dX0_walkFrom_103 : decode cX0_walkFrom 103 = .ok (.aload_n 2, 1) := by decide +kernel
theorem dX0_walkFrom_104 : decode cX0_walkFrom 104 = .ok (.iload 6, 2) := by decide +kernel
theorem dX0_walkFrom_106 : decode cX0_walkFrom 106 = .ok (.iaload, 1) := by decide +kernel
theorem dX0_walkFrom_107 : decode cX0_walkFrom 107 = .ok (.iconst 1, 1) := by decide +kernel
theorem dX0_walkFrom_108 : decode cX0_walkFrom 108 = .ok (.if_icmp .ne 11, 3) := by decide +kernel
theorem dX0_walkFrom_111 : decode cX0_walkFrom 111 = .ok (.aload_n 0, 1) := by decide +kernel
theorem dX0_walkFrom_112 : decode cX0_walkFrom 112 = .ok (.iload 6, 2) := by decide +kernel
theorem dX0_walkFrom_114 : decode cX0_walkFrom 114 = .ok (.iload 5, 2) := by decide +kernel
theorem dX0_walkFrom_116 : decode cX0_walkFrom 116 = .ok (.invokevirtual 85, 3) := by decide +kernel
theorem dX0_walkFrom_119 : decode cX0_walkFrom 119 = .ok (.goto 9, 3) := by decide +kernel
theorem dX0_walkFrom_122 : decode cX0_walkFrom 122 = .ok (.aload_n 0, 1) := by decide +kernel
theorem dX0_walkFrom_123 : decode cX0_walkFrom 123 = .ok (.iload 5, 2) := by decide +kernel
theorem dX0_walkFrom_125 : decode cX0_walkFrom 125 = .ok (.invokevirtual 89, 3) := by decide +kernel
theorem dX0_walkFrom_128 : decode cX0_walkFrom 128 = .ok (.iinc 4 1, 3) := by decide +kernel
theorem dX0_walkFrom_131 : decode cX0_walkFrom 131 = .ok (.goto (-107), 3) := by decide +kernel
theorem dX0_walkFrom_134 : decode cX0_walkFrom 134 = .ok (.return_, 1) := by decide +kernel
theorem dX0_enter_0 : decode cX0_enter 0 = .ok (.aload_n 0, 1) := by decide +kernel
theorem dX0_enter_1 : decode cX0_enter 1 = .ok (.dup, 1) := by decide +kernel
theorem dX0_enter_2 : decode cX0_enter 2 = .ok (.getfield 44, 3) := by decide +kernel
theorem dX0_enter_5 : decode cX0_enter 5 = .ok (.iconst 1, 1) := by decide +kernel
theorem dX0_enter_6 : decode cX0_enter 6 = .ok (.iadd, 1) := by decide +kernel
theorem dX0_enter_7 : decode cX0_enter 7 = .ok (.putfield 44, 3) := by decide +kernel
theorem dX0_enter_10 : decode cX0_enter 10 = .ok (.aload_n 0, 1) := by decide +kernel
theorem dX0_enter_11 : decode cX0_enter 11 = .ok (.getfield 15, 3) := by decide +kernel
theorem dX0_enter_14 : decode cX0_enter 14 = .ok (.iload_n 1, 1) := by decide +kernel
theorem dX0_enter_15 : decode cX0_enter 15 = .ok (.aload_n 0, 1) := by decide +kernel
theorem dX0_enter_16 : decode cX0_enter 16 = .ok (.getfield 44, 3) := by decide +kernel
theorem dX0_enter_19 : decode cX0_enter 19 = .ok (.iastore, 1) := by decide +kernel
theorem dX0_enter_20 : decode cX0_enter 20 = .ok (.aload_n 0, 1) := by decide +kernel
theorem dX0_enter_21 : decode cX0_enter 21 = .ok (.getfield 18, 3) := by decide +kernel
theorem dX0_enter_24 : decode cX0_enter 24 = .ok (.iload_n 1, 1) := by decide +kernel
theorem dX0_enter_25 : decode cX0_enter 25 = .ok (.aload_n 0, 1) := by decide +kernel
theorem dX0_enter_26 : decode cX0_enter 26 = .ok (.getfield 44, 3) := by decide +kernel
theorem dX0_enter_29 : decode cX0_enter 29 = .ok (.iastore, 1) := by decide +kernel
theorem dX0_enter_30 : decode cX0_enter 30 = .ok (.aload_n 0, 1) := by decide +kernel
theorem dX0_enter_31 : decode cX0_enter 31 = .ok (.getfield 21, 3) := by decide +kernel
theorem dX0_enter_34 : decode cX0_enter 34 = .ok (.iload_n 1, 1) := by decide +kernel
theorem dX0_enter_35 : decode cX0_enter 35 = .ok (.aload_n 0, 1) := by decide +kernel
theorem dX0_enter_36 : decode cX0_enter 36 = .ok (.getfield 36, 3) := by decide +kernel
theorem dX0_enter_39 : decode cX0_enter 39 = .ok (.getfield 75, 3) := by decide +kernel
theorem dX0_enter_42 : decode cX0_enter 42 = .ok (.iload_n 1, 1) := by decide +kernel
theorem dX0_enter_43 : decode cX0_enter 43 = .ok (.iaload, 1) := by decide +kernel
theorem dX0_enter_44 : decode cX0_enter 44 = .ok (.iastore, 1) := by decide +kernel
theorem dX0_enter_45 : decode cX0_enter 45 = .ok (.aload_n 0, 1) := by decide +kernel
theorem dX0_enter_46 : decode cX0_enter 46 = .ok (.getfield 24, 3) := by decide +kernel
theorem dX0_enter_49 : decode cX0_enter 49 = .ok (.aload_n 0, 1) := by decide +kernel
theorem dX0_enter_50 : decode cX0_enter 50 = .ok (.getfield 47, 3) := by decide +kernel
theorem dX0_enter_53 : decode cX0_enter 53 = .ok (.iload_n 1, 1) := by decide +kernel
theorem dX0_enter_54 : decode cX0_enter 54 = .ok (.iastore, 1) := by decide +kernel
theorem dX0_enter_55 : decode cX0_enter 55 = .ok (.aload_n 0, 1) := by decide +kernel
theorem dX0_enter_56 : decode cX0_enter 56 = .ok (.dup, 1) := by decide +kernel
theorem dX0_enter_57 : decode cX0_enter 57 = .ok (.getfield 47, 3) := by decide +kernel
theorem dX0_enter_60 : decode cX0_enter 60 = .ok (.iconst 1, 1) := by decide +kernel
theorem dX0_enter_61 : decode cX0_enter 61 = .ok (.iadd, 1) := by decide +kernel
theorem dX0_enter_62 : decode cX0_enter 62 = .ok (.putfield 47, 3) := by decide +kernel
theorem dX0_enter_65 : decode cX0_enter 65 = .ok (.aload_n 0, 1) := by decide +kernel
theorem dX0_enter_66 : decode cX0_enter 66 = .ok (.getfield 27, 3) := by decide +kernel
theorem dX0_enter_69 : decode cX0_enter 69 = .ok (.aload_n 0, 1) := by decide +kernel
theorem dX0_enter_70 : decode cX0_enter 70 = .ok (.getfield 50, 3) := by decide +kernel
theorem dX0_enter_73 : decode cX0_enter 73 = .ok (.iload_n 1, 1) := by decide +kernel
theorem dX0_enter_74 : decode cX0_enter 74 = .ok (.iastore, 1) := by decide +kernel
theorem dX0_enter_75 : decode cX0_enter 75 = .ok (.aload_n 0, 1) := by decide +kernel
theorem dX0_enter_76 : decode cX0_enter 76 = .ok (.dup, 1) := by decide +kernel
theorem dX0_enter_77 : decode cX0_enter 77 = .ok (.getfield 50, 3) := by decide +kernel
theorem dX0_enter_80 : decode cX0_enter 80 = .ok (.iconst 1, 1) := by decide +kernel
theorem dX0_enter_81 : decode cX0_enter 81 = .ok (.iadd, 1) := by decide +kernel
theorem dX0_enter_82 : decode cX0_enter 82 = .ok (.putfield 50, 3) := by decide +kernel
theorem dX0_enter_85 : decode cX0_enter 85 = .ok (.return_, 1) := by decide +kernel
theorem dX0_lookAt_0 : decode cX0_lookAt 0 = .ok (.aload_n 0, 1) := by decide +kernel
theorem dX0_lookAt_1 : decode cX0_lookAt 1 = .ok (.getfield 15, 3) := by decide +kernel
theorem dX0_lookAt_4 : decode cX0_lookAt 4 = .ok (.iload_n 1, 1) := by decide +kernel
theorem dX0_lookAt_5 : decode cX0_lookAt 5 = .ok (.iaload, 1) := by decide +kernel
theorem dX0_lookAt_6 : decode cX0_lookAt 6 = .ok (.ifCond .ne 11, 3) := by decide +kernel
theorem dX0_lookAt_9 : decode cX0_lookAt 9 = .ok (.aload_n 0, 1) := by decide +kernel
theorem dX0_lookAt_10 : decode cX0_lookAt 10 = .ok (.iload_n 1, 1) := by decide +kernel
theorem dX0_lookAt_11 : decode cX0_lookAt 11 = .ok (.invokevirtual 68, 3) := by decide +kernel
theorem dX0_lookAt_14 : decode cX0_lookAt 14 = .ok (.goto 34, 3) := by decide +kernel
theorem dX0_lookAt_17 : decode cX0_lookAt 17 = .ok (.aload_n 0, 1) := by decide +kernel
theorem dX0_lookAt_18 : decode cX0_lookAt 18 = .ok (.getfield 9, 3) := by decide +kernel
theorem dX0_lookAt_21 : decode cX0_lookAt 21 = .ok (.iload_n 1, 1) := by decide +kernel
theorem dX0_lookAt_22 : decode cX0_lookAt 22 = .ok (.iaload, 1) := by decide +kernel
theorem dX0_lookAt_23 : decode cX0_lookAt 23 = .ok (.iconst (-1), 1) := by decide +kernel
theorem dX0_lookAt_24 : decode cX0_lookAt 24 = .ok (.if_icmp .ne 24, 3) := by decide +kernel
theorem dX0_lookAt_27 : decode cX0_lookAt 27 = .ok (.aload_n 0, 1) := by decide +kernel
theorem dX0_lookAt_28 : decode cX0_lookAt 28 = .ok (.getfield 18, 3) := by decide +kernel
theorem dX0_lookAt_31 : decode cX0_lookAt 31 = .ok (.iload_n 2, 1) := by decide +kernel
theorem dX0_lookAt_32 : decode cX0_lookAt 32 = .ok (.aload_n 0, 1) := by decide +kernel
theorem dX0_lookAt_33 : decode cX0_lookAt 33 = .ok (.getfield 18, 3) := by decide +kernel
theorem dX0_lookAt_36 : decode cX0_lookAt 36 = .ok (.iload_n 2, 1) := by decide +kernel
theorem dX0_lookAt_37 : decode cX0_lookAt 37 = .ok (.iaload, 1) := by decide +kernel
theorem dX0_lookAt_38 : decode cX0_lookAt 38 = .ok (.aload_n 0, 1) := by decide +kernel
theorem dX0_lookAt_39 : decode cX0_lookAt 39 = .ok (.getfield 15, 3) := by decide +kernel
theorem dX0_lookAt_42 : decode cX0_lookAt 42 = .ok (.iload_n 1, 1) := by decide +kernel
theorem dX0_lookAt_43 : decode cX0_lookAt 43 = .ok (.iaload, 1) := by decide +kernel
theorem dX0_lookAt_44 : decode cX0_lookAt 44 = .ok (.invokestatic 92, 3) := by decide +kernel
theorem dX0_lookAt_47 : decode cX0_lookAt 47 = .ok (.iastore, 1) := by decide +kernel
theorem dX0_lookAt_48 : decode cX0_lookAt 48 = .ok (.return_, 1) := by decide +kernel
theorem dX0_leave_0 : decode cX0_leave 0 = .ok (.aload_n 0, 1) := by decide +kernel
theorem dX0_leave_1 : decode cX0_leave 1 = .ok (.dup, 1) := by decide +kernel
theorem dX0_leave_2 : decode cX0_leave 2 = .ok (.getfield 47, 3) := by decide +kernel
theorem dX0_leave_5 : decode cX0_leave 5 = .ok (.iconst 1, 1) := by decide +kernel
theorem dX0_leave_6 : decode cX0_leave 6 = .ok (.isub, 1) := by decide +kernel
theorem dX0_leave_7 : decode cX0_leave 7 = .ok (.putfield 47, 3) := by decide +kernel
theorem dX0_leave_10 : decode cX0_leave 10 = .ok (.aload_n 0, 1) := by decide +kernel
theorem dX0_leave_11 : decode cX0_leave 11 = .ok (.getfield 47, 3) := by decide +kernel
theorem dX0_leave_14 : decode cX0_leave 14 = .ok (.ifCond .le 36, 3) := by decide +kernel
theorem dX0_leave_17 : decode cX0_leave 17 = .ok (.aload_n 0, 1) := by decide +kernel
theorem dX0_leave_18 : decode cX0_leave 18 = .ok (.getfield 24, 3) := by decide +kernel
theorem dX0_leave_21 : decode cX0_leave 21 = .ok (.aload_n 0, 1) := by decide +kernel
theorem dX0_leave_22 : decode cX0_leave 22 = .ok (.getfield 47, 3) := by decide +kernel
theorem dX0_leave_25 : decode cX0_leave 25 = .ok (.iconst 1, 1) := by decide +kernel
theorem dX0_leave_26 : decode cX0_leave 26 = .ok (.isub, 1) := by decide +kernel
theorem dX0_leave_27 : decode cX0_leave 27 = .ok (.iaload, 1) := by decide +kernel
theorem dX0_leave_28 : decode cX0_leave 28 = .ok (.istore_n 2, 1) := by decide +kernel
theorem dX0_leave_29 : decode cX0_leave 29 = .ok (.aload_n 0, 1) := by decide +kernel
theorem dX0_leave_30 : decode cX0_leave 30 = .ok (.getfield 18, 3) := by decide +kernel
theorem dX0_leave_33 : decode cX0_leave 33 = .ok (.iload_n 2, 1) := by decide +kernel
theorem dX0_leave_34 : decode cX0_leave 34 = .ok (.aload_n 0, 1) := by decide +kernel
theorem dX0_leave_35 : decode cX0_leave 35 = .ok (.getfield 18, 3) := by decide +kernel
theorem dX0_leave_38 : decode cX0_leave 38 = .ok (.iload_n 2, 1) := by decide +kernel
theorem dX0_leave_39 : decode cX0_leave 39 = .ok (.iaload, 1) := by decide +kernel
theorem dX0_leave_40 : decode cX0_leave 40 = .ok (.aload_n 0, 1) := by decide +kernel
theorem dX0_leave_41 : decode cX0_leave 41 = .ok (.getfield 18, 3) := by decide +kernel
theorem dX0_leave_44 : decode cX0_leave 44 = .ok (.iload_n 1, 1) := by decide +kernel
theorem dX0_leave_45 : decode cX0_leave 45 = .ok (.iaload, 1) := by decide +kernel
theorem dX0_leave_46 : decode cX0_leave 46 = .ok (.invokestatic 92, 3) := by decide +kernel
theorem dX0_leave_49 : decode cX0_leave 49 = .ok (.iastore, 1) := by decide +kernel
theorem dX0_leave_50 : decode cX0_leave 50 = .ok (.aload_n 0, 1) := by decide +kernel
theorem dX0_leave_51 : decode cX0_leave 51 = .ok (.getfield 18, 3) := by decide +kernel
theorem dX0_leave_54 : decode cX0_leave 54 = .ok (.iload_n 1, 1) := by decide +kernel
theorem dX0_leave_55 : decode cX0_leave 55 = .ok (.iaload, 1) := by decide +kernel
theorem dX0_leave_56 : decode cX0_leave 56 = .ok (.aload_n 0, 1) := by decide +kernel
theorem dX0_leave_57 : decode cX0_leave 57 = .ok (.getfield 15, 3) := by decide +kernel
theorem dX0_leave_60 : decode cX0_leave 60 = .ok (.iload_n 1, 1) := by decide +kernel
theorem dX0_leave_61 : decode cX0_leave 61 = .ok (.iaload, 1) := by decide +kernel
theorem dX0_leave_62 : decode cX0_leave 62 = .ok (.if_icmp .ne 8, 3) := by decide +kernel
theorem dX0_leave_65 : decode cX0_leave 65 = .ok (.aload_n 0, 1) := by decide +kernel
theorem dX0_leave_66 : decode cX0_leave 66 = .ok (.iload_n 1, 1) := by decide +kernel
theorem dX0_leave_67 : decode cX0_leave 67 = .ok (.invokevirtual 98, 3) := by decide +kernel
theorem dX0_leave_70 : decode cX0_leave 70 = .ok (.return_, 1) := by decide +kernel
theorem dX0_close_0 : decode cX0_close 0 = .ok (.aload_n 0, 1) := by decide +kernel
theorem dX0_close_1 : decode cX0_close 1 = .ok (.getfield 50, 3) := by decide +kernel
theorem dX0_close_4 : decode cX0_close 4 = .ok (.iconst 1, 1) := by decide +kernel
theorem dX0_close_5 : decode cX0_close 5 = .ok (.isub, 1) := by decide +kernel
theorem dX0_close_6 : decode cX0_close 6 = .ok (.istore_n 2, 1) := by decide +kernel
theorem dX0_close_7 : decode cX0_close 7 = .ok (.iload_n 2, 1) := by decide +kernel
theorem dX0_close_8 : decode cX0_close 8 = .ok (.ifCond .lt 44, 3) := by decide +kernel
theorem dX0_close_11 : decode cX0_close 11 = .ok (.aload_n 0, 1) := by decide +kernel
theorem dX0_close_12 : decode cX0_close 12 = .ok (.getfield 27, 3) := by decide +kernel
theorem dX0_close_15 : decode cX0_close 15 = .ok (.iload_n 2, 1) := by decide +kernel
theorem dX0_close_16 : decode cX0_close 16 = .ok (.iaload, 1) := by decide +kernel
theorem dX0_close_17 : decode cX0_close 17 = .ok (.istore_n 3, 1) := by decide +kernel
theorem dX0_close_18 : decode cX0_close 18 = .ok (.aload_n 0, 1) := by decide +kernel
theorem dX0_close_19 : decode cX0_close 19 = .ok (.getfield 9, 3) := by decide +kernel
theorem dX0_close_22 : decode cX0_close 22 = .ok (.iload_n 3, 1) := by decide +kernel
theorem dX0_close_23 : decode cX0_close 23 = .ok (.aload_n 0, 1) := by decide +kernel
theorem dX0_close_24 : decode cX0_close 24 = .ok (.getfield 40, 3) := by decide +kernel
theorem dX0_close_27 : decode cX0_close 27 = .ok (.iastore, 1) := by decide +kernel
theorem dX0_close_28 : decode cX0_close 28 = .ok (.aload_n 0, 1) := by decide +kernel
theorem dX0_close_29 : decode cX0_close 29 = .ok (.dup, 1) := by decide +kernel
theorem dX0_close_30 : decode cX0_close 30 = .ok (.getfield 50, 3) := by decide +kernel
theorem dX0_close_33 : decode cX0_close 33 = .ok (.iconst 1, 1) := by decide +kernel
theorem dX0_close_34 : decode cX0_close 34 = .ok (.isub, 1) := by decide +kernel
theorem dX0_close_35 : decode cX0_close 35 = .ok (.putfield 50, 3) := by decide +kernel
theorem dX0_close_38 : decode cX0_close 38 = .ok (.iload_n 3, 1) := by decide +kernel
theorem dX0_close_39 : decode cX0_close 39 = .ok (.iload_n 1, 1) := by decide +kernel
theorem dX0_close_40 : decode cX0_close 40 = .ok (.if_icmp .ne 6, 3) := by decide +kernel
theorem dX0_close_43 : decode cX0_close 43 = .ok (.goto 9, 3) := by decide +kernel
theorem dX0_close_46 : decode cX0_close 46 = .ok (.iinc 2 (-1), 3) := by decide +kernel
theorem dX0_close_49 : decode cX0_close 49 = .ok (.goto (-42), 3) := by decide +kernel
theorem dX0_close_52 : decode cX0_close 52 = .ok (.aload_n 0, 1) := by decide +kernel
theorem dX0_close_53 : decode cX0_close 53 = .ok (.dup, 1) := by decide +kernel
theorem dX0_close_54 : decode cX0_close 54 = .ok (.getfield 40, 3) := by decide +kernel
theorem dX0_close_57 : decode cX0_close 57 = .ok (.iconst 1, 1) := by decide +kernel
theorem dX0_close_58 : decode cX0_close 58 = .ok (.iadd, 1) := by decide +kernel
theorem dX0_close_59 : decode cX0_close 59 = .ok (.putfield 40, 3) := by decide +kernel
theorem dX0_close_62 : decode cX0_close 62 = .ok (.return_, 1) := by decide +kernel
theorem dX0_holdsRun_0 : decode cX0_holdsRun 0 = .ok (.aload_n 0, 1) := by decide +kernel
theorem dX0_holdsRun_1 : decode cX0_holdsRun 1 = .ok (.getfield 30, 3) := by decide +kernel
theorem dX0_holdsRun_4 : decode cX0_holdsRun 4 = .ok (.iconst 0, 1) := by decide +kernel
theorem dX0_holdsRun_5 : decode cX0_holdsRun 5 = .ok (.invokestatic 53, 3) := by decide +kernel
theorem dX0_holdsRun_8 : decode cX0_holdsRun 8 = .ok (.aload_n 0, 1) := by decide +kernel
theorem dX0_holdsRun_9 : decode cX0_holdsRun 9 = .ok (.getfield 33, 3) := by decide +kernel
theorem dX0_holdsRun_12 : decode cX0_holdsRun 12 = .ok (.iconst 0, 1) := by decide +kernel
theorem dX0_holdsRun_13 : decode cX0_holdsRun 13 = .ok (.invokestatic 53, 3) := by decide +kernel
theorem dX0_holdsRun_16 : decode cX0_holdsRun 16 = .ok (.iconst 0, 1) := by decide +kernel
theorem dX0_holdsRun_17 : decode cX0_holdsRun 17 = .ok (.istore_n 2, 1) := by decide +kernel
theorem dX0_holdsRun_18 : decode cX0_holdsRun 18 = .ok (.iload_n 2, 1) := by decide +kernel
theorem dX0_holdsRun_19 : decode cX0_holdsRun 19 = .ok (.aload_n 0, 1) := by decide +kernel
theorem dX0_holdsRun_20 : decode cX0_holdsRun 20 = .ok (.getfield 36, 3) := by decide +kernel
theorem dX0_holdsRun_23 : decode cX0_holdsRun 23 = .ok (.getfield 59, 3) := by decide +kernel
theorem dX0_holdsRun_26 : decode cX0_holdsRun 26 = .ok (.if_icmp .ge 30, 3) := by decide +kernel
theorem dX0_holdsRun_29 : decode cX0_holdsRun 29 = .ok (.aload_n 0, 1) := by decide +kernel
theorem dX0_holdsRun_30 : decode cX0_holdsRun 30 = .ok (.getfield 9, 3) := by decide +kernel
theorem dX0_holdsRun_33 : decode cX0_holdsRun 33 = .ok (.iload_n 2, 1) := by decide +kernel
theorem dX0_holdsRun_34 : decode cX0_holdsRun 34 = .ok (.iaload, 1) := by decide +kernel
theorem dX0_holdsRun_35 : decode cX0_holdsRun 35 = .ok (.iconst (-1), 1) := by decide +kernel
theorem dX0_holdsRun_36 : decode cX0_holdsRun 36 = .ok (.if_icmp .eq 14, 3) := by decide +kernel
theorem dX0_holdsRun_39 : decode cX0_holdsRun 39 = .ok (.aload_n 0, 1) := by decide +kernel
theorem dX0_holdsRun_40 : decode cX0_holdsRun 40 = .ok (.iload_n 2, 1) := by decide +kernel
theorem dX0_holdsRun_41 : decode cX0_holdsRun 41 = .ok (.aload_n 0, 1) := by decide +kernel
theorem dX0_holdsRun_42 : decode cX0_holdsRun 42 = .ok (.getfield 9, 3) := by decide +kernel
theorem dX0_holdsRun_45 : decode cX0_holdsRun 45 = .ok (.iload_n 2, 1) := by decide +kernel
theorem dX0_holdsRun_46 : decode cX0_holdsRun 46 = .ok (.iaload, 1) := by decide +kernel
theorem dX0_holdsRun_47 : decode cX0_holdsRun 47 = .ok (.invokevirtual 101, 3) := by decide +kernel
theorem dX0_holdsRun_50 : decode cX0_holdsRun 50 = .ok (.iinc 2 1, 3) := by decide +kernel
theorem dX0_holdsRun_53 : decode cX0_holdsRun 53 = .ok (.goto (-35), 3) := by decide +kernel
theorem dX0_holdsRun_56 : decode cX0_holdsRun 56 = .ok (.iconst 0, 1) := by decide +kernel
theorem dX0_holdsRun_57 : decode cX0_holdsRun 57 = .ok (.istore_n 2, 1) := by decide +kernel
theorem dX0_holdsRun_58 : decode cX0_holdsRun 58 = .ok (.iload_n 2, 1) := by decide +kernel
theorem dX0_holdsRun_59 : decode cX0_holdsRun 59 = .ok (.aload_n 0, 1) := by decide +kernel
theorem dX0_holdsRun_60 : decode cX0_holdsRun 60 = .ok (.getfield 40, 3) := by decide +kernel
theorem dX0_holdsRun_63 : decode cX0_holdsRun 63 = .ok (.if_icmp .ge 36, 3) := by decide +kernel
theorem dX0_holdsRun_66 : decode cX0_holdsRun 66 = .ok (.aload_n 0, 1) := by decide +kernel
theorem dX0_holdsRun_67 : decode cX0_holdsRun 67 = .ok (.getfield 33, 3) := by decide +kernel
theorem dX0_holdsRun_70 : decode cX0_holdsRun 70 = .ok (.iload_n 2, 1) := by decide +kernel
theorem dX0_holdsRun_71 : decode cX0_holdsRun 71 = .ok (.iaload, 1) := by decide +kernel
theorem dX0_holdsRun_72 : decode cX0_holdsRun 72 = .ok (.iconst 1, 1) := by decide +kernel
theorem dX0_holdsRun_73 : decode cX0_holdsRun 73 = .ok (.if_icmp .ne 20, 3) := by decide +kernel
theorem dX0_holdsRun_76 : decode cX0_holdsRun 76 = .ok (.iload_n 1, 1) := by decide +kernel
theorem dX0_holdsRun_77 : decode cX0_holdsRun 77 = .ok (.ifCond .eq 14, 3) := by decide +kernel
theorem dX0_holdsRun_80 : decode cX0_holdsRun 80 = .ok (.aload_n 0, 1) := by decide +kernel
theorem dX0_holdsRun_81 : decode cX0_holdsRun 81 = .ok (.getfield 30, 3) := by decide +kernel
theorem dX0_holdsRun_84 : decode cX0_holdsRun 84 = .ok (.iload_n 2, 1) := by decide +kernel
theorem dX0_holdsRun_85 : decode cX0_holdsRun 85 = .ok (.iaload, 1) := by decide +kernel
theorem dX0_holdsRun_86 : decode cX0_holdsRun 86 = .ok (.bipush 7, 2) := by decide +kernel
theorem dX0_holdsRun_88 : decode cX0_holdsRun 88 = .ok (.if_icmp .ne 5, 3) := by decide +kernel
theorem dX0_holdsRun_91 : decode cX0_holdsRun 91 = .ok (.iconst 1, 1) := by decide +kernel
theorem dX0_holdsRun_92 : decode cX0_holdsRun 92 = .ok (.ireturn, 1) := by decide +kernel
theorem dX0_holdsRun_93 : decode cX0_holdsRun 93 = .ok (.iinc 2 1, 3) := by decide +kernel
theorem dX0_holdsRun_96 : decode cX0_holdsRun 96 = .ok (.goto (-38), 3) := by decide +kernel
theorem dX0_holdsRun_99 : decode cX0_holdsRun 99 = .ok (.iconst 0, 1) := by decide +kernel
theorem dX0_holdsRun_100 : decode cX0_holdsRun 100 = .ok (.ireturn, 1) := by decide +kernel
theorem dX0_judge_0 : decode cX0_judge 0 = .ok (.aload_n 0, 1) := by decide +kernel
theorem dX0_judge_1 : decode cX0_judge 1 = .ok (.getfield 30, 3) := by decide +kernel
theorem dX0_judge_4 : decode cX0_judge 4 = .ok (.iload_n 2, 1) := by decide +kernel
theorem dX0_judge_5 : decode cX0_judge 5 = .ok (.dup2, 1) := by decide +kernel
theorem dX0_judge_6 : decode cX0_judge 6 = .ok (.iaload, 1) := by decide +kernel
theorem dX0_judge_7 : decode cX0_judge 7 = .ok (.bipush 7, 2) := by decide +kernel
theorem dX0_judge_9 : decode cX0_judge 9 = .ok (.aload_n 0, 1) := by decide +kernel
theorem dX0_judge_10 : decode cX0_judge 10 = .ok (.getfield 36, 3) := by decide +kernel
theorem dX0_judge_13 : decode cX0_judge 13 = .ok (.getfield 104, 3) := by decide +kernel
theorem dX0_judge_16 : decode cX0_judge 16 = .ok (.iload_n 1, 1) := by decide +kernel
theorem dX0_judge_17 : decode cX0_judge 17 = .ok (.iaload, 1) := by decide +kernel
theorem dX0_judge_18 : decode cX0_judge 18 = .ok (.iconst (-1), 1) := by decide +kernel
theorem dX0_judge_19 : decode cX0_judge 19 = .ok (.ixor, 1) := by decide +kernel
theorem dX0_judge_20 : decode cX0_judge 20 = .ok (.iand, 1) := by decide +kernel
theorem dX0_judge_21 : decode cX0_judge 21 = .ok (.ior, 1) := by decide +kernel
theorem dX0_judge_22 : decode cX0_judge 22 = .ok (.iastore, 1) := by decide +kernel
theorem dX0_judge_23 : decode cX0_judge 23 = .ok (.aload_n 0, 1) := by decide +kernel
theorem dX0_judge_24 : decode cX0_judge 24 = .ok (.getfield 36, 3) := by decide +kernel
theorem dX0_judge_27 : decode cX0_judge 27 = .ok (.iload_n 1, 1) := by decide +kernel
theorem dX0_judge_28 : decode cX0_judge 28 = .ok (.invokevirtual 107, 3) := by decide +kernel
theorem dX0_judge_31 : decode cX0_judge 31 = .ok (.ifCond .eq 10, 3) := by decide +kernel
theorem dX0_judge_34 : decode cX0_judge 34 = .ok (.aload_n 0, 1) := by decide +kernel
theorem dX0_judge_35 : decode cX0_judge 35 = .ok (.getfield 33, 3) := by decide +kernel
theorem dX0_judge_38 : decode cX0_judge 38 = .ok (.iload_n 2, 1) := by decide +kernel
theorem dX0_judge_39 : decode cX0_judge 39 = .ok (.iconst 1, 1) := by decide +kernel
theorem dX0_judge_40 : decode cX0_judge 40 = .ok (.iastore, 1) := by decide +kernel
theorem dX0_judge_41 : decode cX0_judge 41 = .ok (.aload_n 0, 1) := by decide +kernel
theorem dX0_judge_42 : decode cX0_judge 42 = .ok (.getfield 36, 3) := by decide +kernel
theorem dX0_judge_45 : decode cX0_judge 45 = .ok (.getfield 75, 3) := by decide +kernel
theorem dX0_judge_48 : decode cX0_judge 48 = .ok (.iload_n 1, 1) := by decide +kernel
theorem dX0_judge_49 : decode cX0_judge 49 = .ok (.iaload, 1) := by decide +kernel
theorem dX0_judge_50 : decode cX0_judge 50 = .ok (.istore_n 3, 1) := by decide +kernel
theorem dX0_judge_51 : decode cX0_judge 51 = .ok (.iload_n 3, 1) := by decide +kernel
theorem dX0_judge_52 : decode cX0_judge 52 = .ok (.aload_n 0, 1) := by decide +kernel
theorem dX0_judge_53 : decode cX0_judge 53 = .ok (.getfield 36, 3) := by decide +kernel
theorem dX0_judge_56 : decode cX0_judge 56 = .ok (.getfield 75, 3) := by decide +kernel
theorem dX0_judge_59 : decode cX0_judge 59 = .ok (.iload_n 1, 1) := by decide +kernel
theorem dX0_judge_60 : decode cX0_judge 60 = .ok (.iconst 1, 1) := by decide +kernel
theorem dX0_judge_61 : decode cX0_judge 61 = .ok (.iadd, 1) := by decide +kernel
theorem dX0_judge_62 : decode cX0_judge 62 = .ok (.iaload, 1) := by decide +kernel
theorem dX0_judge_63 : decode cX0_judge 63 = .ok (.if_icmp .ge 55, 3) := by decide +kernel
theorem dX0_judge_66 : decode cX0_judge 66 = .ok (.aload_n 0, 1) := by decide +kernel
theorem dX0_judge_67 : decode cX0_judge 67 = .ok (.getfield 36, 3) := by decide +kernel
theorem dX0_judge_70 : decode cX0_judge 70 = .ok (.getfield 78, 3) := by decide +kernel
theorem dX0_judge_73 : decode cX0_judge 73 = .ok (.iload_n 3, 1) := by decide +kernel
theorem dX0_judge_74 : decode cX0_judge 74 = .ok (.iaload, 1) := by decide +kernel
theorem dX0_judge_75 : decode cX0_judge 75 = .ok (.istore 4, 2) := by decide +kernel
theorem dX0_judge_77 : decode cX0_judge 77 = .ok (.aload_n 0, 1) := by decide +kernel
theorem dX0_judge_78 : decode cX0_judge 78 = .ok (.getfield 9, 3) := by decide +kernel
theorem dX0_judge_81 : decode cX0_judge 81 = .ok (.iload 4, 2) := by decide +kernel
theorem dX0_judge_83 : decode cX0_judge 83 = .ok (.invokestatic 81, 3) := by decide +kernel
theorem dX0_judge_86 : decode cX0_judge 86 = .ok (.iaload, 1) := by decide +kernel
theorem dX0_judge_87 : decode cX0_judge 87 = .ok (.iload_n 2, 1) := by decide +kernel
theorem dX0_judge_88 : decode cX0_judge 88 = .ok (.if_icmp .ne 24, 3) := by decide +kernel
theorem dX0_judge_91 : decode cX0_judge 91 = .ok (.aload_n 0, 1) := by decide +kernel
theorem dX0_judge_92 : decode cX0_judge 92 = .ok (.getfield 33, 3) := by decide +kernel
theorem dX0_judge_95 : decode cX0_judge 95 = .ok (.iload_n 2, 1) := by decide +kernel
theorem dX0_judge_96 : decode cX0_judge 96 = .ok (.iconst 1, 1) := by decide +kernel
theorem dX0_judge_97 : decode cX0_judge 97 = .ok (.iastore, 1) := by decide +kernel
theorem dX0_judge_98 : decode cX0_judge 98 = .ok (.aload_n 0, 1) := by decide +kernel
theorem dX0_judge_99 : decode cX0_judge 99 = .ok (.getfield 30, 3) := by decide +kernel
theorem dX0_judge_102 : decode cX0_judge 102 = .ok (.iload_n 2, 1) := by decide +kernel
theorem dX0_judge_103 : decode cX0_judge 103 = .ok (.dup2, 1) := by decide +kernel
theorem dX0_judge_104 : decode cX0_judge 104 = .ok (.iaload, 1) := by decide +kernel
theorem dX0_judge_105 : decode cX0_judge 105 = .ok (.iload 4, 2) := by decide +kernel
theorem dX0_judge_107 : decode cX0_judge 107 = .ok (.invokestatic 111, 3) := by decide +kernel
theorem dX0_judge_110 : decode cX0_judge 110 = .ok (.ior, 1) := by decide +kernel
theorem dX0_judge_111 : decode cX0_judge 111 = .ok (.iastore, 1) := by decide +kernel
theorem dX0_judge_112 : decode cX0_judge 112 = .ok (.iinc 3 1, 3) := by decide +kernel
theorem dX0_judge_115 : decode cX0_judge 115 = .ok (.goto (-64), 3) := by decide +kernel
theorem dX0_judge_118 : decode cX0_judge 118 = .ok (.return_, 1) := by decide +kernel
theorem dX1_init_0 : decode cX1_init 0 = .ok (.aload_n 0, 1) := by decide +kernel
theorem dX1_init_1 : decode cX1_init 1 = .ok (.invokespecial 3, 3) := by decide +kernel
theorem dX1_init_4 : decode cX1_init 4 = .ok (.aload_n 0, 1) := by decide +kernel
theorem dX1_init_5 : decode cX1_init 5 = .ok (.sipush 2000, 3) := by decide +kernel
theorem dX1_init_8 : decode cX1_init 8 = .ok (.newarray .long, 2) := by decide +kernel
theorem dX1_init_10 : decode cX1_init 10 = .ok (.putfield 9, 3) := by decide +kernel
theorem dX1_init_13 : decode cX1_init 13 = .ok (.aload_n 0, 1) := by decide +kernel
theorem dX1_init_14 : decode cX1_init 14 = .ok (.sipush 2000, 3) := by decide +kernel
theorem dX1_init_17 : decode cX1_init 17 = .ok (.newarray .int, 2) := by decide +kernel
theorem dX1_init_19 : decode cX1_init 19 = .ok (.putfield 15, 3) := by decide +kernel
theorem dX1_init_22 : decode cX1_init 22 = .ok (.aload_n 0, 1) := by decide +kernel
theorem dX1_init_23 : decode cX1_init 23 = .ok (.sipush 2000, 3) := by decide +kernel
theorem dX1_init_26 : decode cX1_init 26 = .ok (.newarray .int, 2) := by decide +kernel
theorem dX1_init_28 : decode cX1_init 28 = .ok (.putfield 19, 3) := by decide +kernel
theorem dX1_init_31 : decode cX1_init 31 = .ok (.aload_n 0, 1) := by decide +kernel
theorem dX1_init_32 : decode cX1_init 32 = .ok (.sipush 2000, 3) := by decide +kernel
theorem dX1_init_35 : decode cX1_init 35 = .ok (.newarray .int, 2) := by decide +kernel
theorem dX1_init_37 : decode cX1_init 37 = .ok (.putfield 22, 3) := by decide +kernel
theorem dX1_init_40 : decode cX1_init 40 = .ok (.aload_n 0, 1) := by decide +kernel
theorem dX1_init_41 : decode cX1_init 41 = .ok (.sipush 2000, 3) := by decide +kernel
theorem dX1_init_44 : decode cX1_init 44 = .ok (.newarray .int, 2) := by decide +kernel
theorem dX1_init_46 : decode cX1_init 46 = .ok (.putfield 25, 3) := by decide +kernel
theorem dX1_init_49 : decode cX1_init 49 = .ok (.aload_n 0, 1) := by decide +kernel
theorem dX1_init_50 : decode cX1_init 50 = .ok (.sipush 2000, 3) := by decide +kernel
theorem dX1_init_53 : decode cX1_init 53 = .ok (.newarray .int, 2) := by decide +kernel
theorem dX1_init_55 : decode cX1_init 55 = .ok (.putfield 28, 3) := by decide +kernel
theorem dX1_init_58 : decode cX1_init 58 = .ok (.aload_n 0, 1) := by decide +kernel
theorem dX1_init_59 : decode cX1_init 59 = .ok (.sipush 4096, 3) := by decide +kernel
theorem dX1_init_62 : decode cX1_init 62 = .ok (.newarray .int, 2) := by decide +kernel
theorem dX1_init_64 : decode cX1_init 64 = .ok (.putfield 31, 3) := by decide +kernel
theorem dX1_init_67 : decode cX1_init 67 = .ok (.return_, 1) := by decide +kernel
theorem dX1_clear_0 : decode cX1_clear 0 = .ok (.aload_n 0, 1) := by decide +kernel
theorem dX1_clear_1 : decode cX1_clear 1 = .ok (.iload_n 1, 1) := by decide +kernel
theorem dX1_clear_2 : decode cX1_clear 2 = .ok (.putfield 34, 3) := by decide +kernel
theorem dX1_clear_5 : decode cX1_clear 5 = .ok (.aload_n 0, 1) := by decide +kernel
theorem dX1_clear_6 : decode cX1_clear 6 = .ok (.iconst 0, 1) := by decide +kernel
theorem dX1_clear_7 : decode cX1_clear 7 = .ok (.putfield 38, 3) := by decide +kernel
theorem dX1_clear_10 : decode cX1_clear 10 = .ok (.aload_n 0, 1) := by decide +kernel
theorem dX1_clear_11 : decode cX1_clear 11 = .ok (.getfield 31, 3) := by decide +kernel
theorem dX1_clear_14 : decode cX1_clear 14 = .ok (.iconst 0, 1) := by decide +kernel
theorem dX1_clear_15 : decode cX1_clear 15 = .ok (.invokestatic 42, 3) := by decide +kernel
theorem dX1_clear_18 : decode cX1_clear 18 = .ok (.return_, 1) := by decide +kernel
theorem dX1_numberFor_0 : decode cX1_numberFor 0 = .ok (.aload_n 0, 1) := by decide +kernel
theorem dX1_numberFor_1 : decode cX1_numberFor 1 = .ok (.getfield 31, 3) := by decide +kernel
theorem dX1_numberFor_4 : decode cX1_numberFor 4 = .ok (.aload_n 0, 1) := by decide +kernel
theorem dX1_numberFor_5 : decode cX1_numberFor 5 = .ok (.lload_n 1, 1) := by decide +kernel
theorem dX1_numberFor_6 : decode cX1_numberFor 6 = .ok (.invokevirtual 48, 3) := by decide +kernel
theorem dX1_numberFor_9 : decode cX1_numberFor 9 = .ok (.iaload, 1) := by decide +kernel
theorem dX1_numberFor_10 : decode cX1_numberFor 10 = .ok (.iconst 1, 1) := by decide +kernel
theorem dX1_numberFor_11 : decode cX1_numberFor 11 = .ok (.isub, 1) := by decide +kernel
theorem dX1_numberFor_12 : decode cX1_numberFor 12 = .ok (.ireturn, 1) := by decide +kernel
theorem dX1_slotFor_0 : decode cX1_slotFor 0 = .ok (.aload_n 0, 1) := by decide +kernel
theorem dX1_slotFor_1 : decode cX1_slotFor 1 = .ok (.getfield 34, 3) := by decide +kernel
theorem dX1_slotFor_4 : decode cX1_slotFor 4 = .ok (.ifCond .eq 10, 3) := by decide +kernel
theorem dX1_slotFor_7 : decode cX1_slotFor 7 = .ok (.lload_n 1, 1) := by decide +kernel
theorem dX1_slotFor_8 : decode cX1_slotFor 8 = .ok (.ldc2_w 52, 3) := by decide +kernel
theorem dX1_slotFor_11 : decode cX1_slotFor 11 = .ok (.lrem, 1) := by decide +kernel
theorem dX1_slotFor_12 : decode cX1_slotFor 12 = .ok (.l2i, 1) := by decide +kernel
theorem dX1_slotFor_13 : decode cX1_slotFor 13 = .ok (.ireturn, 1) := by decide +kernel
theorem dX1_slotFor_14 : decode cX1_slotFor 14 = .ok (.lload_n 1, 1) := by decide +kernel
theorem dX1_slotFor_15 : decode cX1_slotFor 15 = .ok (.ldc2_w 54, 3) := by decide +kernel
theorem dX1_slotFor_18 : decode cX1_slotFor 18 = .ok (.lmul, 1) := by decide +kernel
theorem dX1_slotFor_19 : decode cX1_slotFor 19 = .ok (.bipush 52, 2) := by decide +kernel
theorem dX1_slotFor_21 : decode cX1_slotFor 21 = .ok (.lushr, 1) := by decide +kernel
theorem dX1_slotFor_22 : decode cX1_slotFor 22 = .ok (.l2i, 1) := by decide +kernel
theorem dX1_slotFor_23 : decode cX1_slotFor 23 = .ok (.istore_n 3, 1) := by decide +kernel
theorem dX1_slotFor_24 : decode cX1_slotFor 24 = .ok (.iconst 0, 1) := by decide +kernel
theorem dX1_slotFor_25 : decode cX1_slotFor 25 = .ok (.istore 4, 2) := by decide +kernel
theorem dX1_slotFor_27 : decode cX1_slotFor 27 = .ok (.iload 4, 2) := by decide +kernel
theorem dX1_slotFor_29 : decode cX1_slotFor 29 = .ok (.sipush 4096, 3) := by decide +kernel
theorem dX1_slotFor_32 : decode cX1_slotFor 32 = .ok (.if_icmp .ge 47, 3) := by decide +kernel
theorem dX1_slotFor_35 : decode cX1_slotFor 35 = .ok (.aload_n 0, 1) := by decide +kernel
theorem dX1_slotFor_36 : decode cX1_slotFor 36 = .ok (.getfield 31, 3) := by decide +kernel
theorem dX1_slotFor_39 : decode cX1_slotFor 39 = .ok (.iload_n 3, 1) := by decide +kernel
theorem dX1_slotFor_40 : decode cX1_slotFor 40 = .ok (.iaload, 1) := by decide +kernel
theorem dX1_slotFor_41 : decode cX1_slotFor 41 = .ok (.iconst 1, 1) := by decide +kernel
theorem dX1_slotFor_42 : decode cX1_slotFor 42 = .ok (.isub, 1) := by decide +kernel
theorem dX1_slotFor_43 : decode cX1_slotFor 43 = .ok (.istore 5, 2) := by decide +kernel
theorem dX1_slotFor_45 : decode cX1_slotFor 45 = .ok (.iload 5, 2) := by decide +kernel
theorem dX1_slotFor_47 : decode cX1_slotFor 47 = .ok (.iconst (-1), 1) := by decide +kernel
theorem dX1_slotFor_48 : decode cX1_slotFor 48 = .ok (.if_icmp .eq 15, 3) := by decide +kernel
theorem dX1_slotFor_51 : decode cX1_slotFor 51 = .ok (.aload_n 0, 1) := by decide +kernel
theorem dX1_slotFor_52 : decode cX1_slotFor 52 = .ok (.getfield 9, 3) := by decide +kernel
theorem dX1_slotFor_55 : decode cX1_slotFor 55 = .ok (.iload 5, 2) := by decide +kernel
theorem dX1_slotFor_57 : decode cX1_slotFor 57 = .ok (.laload, 1) := by decide +kernel
theorem dX1_slotFor_58 : decode cX1_slotFor 58 = .ok (.lload_n 1, 1) := by decide +kernel
theorem dX1_slotFor_59 : decode cX1_slotFor 59 = .ok (.lcmp, 1) := by decide +kernel
theorem dX1_slotFor_60 : decode cX1_slotFor 60 = .ok (.ifCond .ne 5, 3) := by decide +kernel
theorem dX1_slotFor_63 : decode cX1_slotFor 63 = .ok (.iload_n 3, 1) := by decide +kernel
theorem dX1_slotFor_64 : decode cX1_slotFor 64 = .ok (.ireturn, 1) := by decide +kernel
theorem dX1_slotFor_65 : decode cX1_slotFor 65 = .ok (.iload_n 3, 1) := by decide +kernel
theorem dX1_slotFor_66 : decode cX1_slotFor 66 = .ok (.iconst 1, 1) := by decide +kernel
theorem dX1_slotFor_67 : decode cX1_slotFor 67 = .ok (.iadd, 1) := by decide +kernel
theorem dX1_slotFor_68 : decode cX1_slotFor 68 = .ok (.sipush 4096, 3) := by decide +kernel
theorem dX1_slotFor_71 : decode cX1_slotFor 71 = .ok (.irem, 1) := by decide +kernel
theorem dX1_slotFor_72 : decode cX1_slotFor 72 = .ok (.istore_n 3, 1) := by decide +kernel
theorem dX1_slotFor_73 : decode cX1_slotFor 73 = .ok (.iinc 4 1, 3) := by decide +kernel
theorem dX1_slotFor_76 : decode cX1_slotFor 76 = .ok (.goto (-49), 3) := by decide +kernel
theorem dX1_slotFor_79 : decode cX1_slotFor 79 = .ok (.iload_n 3, 1) := by decide +kernel
theorem dX1_slotFor_80 : decode cX1_slotFor 80 = .ok (.ireturn, 1) := by decide +kernel
theorem dX1_add_0 : decode cX1_add 0 = .ok (.aload_n 0, 1) := by decide +kernel
theorem dX1_add_1 : decode cX1_add 1 = .ok (.getfield 38, 3) := by decide +kernel
theorem dX1_add_4 : decode cX1_add 4 = .ok (.istore 6, 2) := by decide +kernel
theorem dX1_add_6 : decode cX1_add 6 = .ok (.aload_n 0, 1) := by decide +kernel
theorem dX1_add_7 : decode cX1_add 7 = .ok (.getfield 31, 3) := by decide +kernel
theorem dX1_add_10 : decode cX1_add 10 = .ok (.aload_n 0, 1) := by decide +kernel
theorem dX1_add_11 : decode cX1_add 11 = .ok (.lload_n 1, 1) := by decide +kernel
theorem dX1_add_12 : decode cX1_add 12 = .ok (.invokevirtual 48, 3) := by decide +kernel
theorem dX1_add_15 : decode cX1_add 15 = .ok (.iload 6, 2) := by decide +kernel
theorem dX1_add_17 : decode cX1_add 17 = .ok (.iconst 1, 1) := by decide +kernel
theorem dX1_add_18 : decode cX1_add 18 = .ok (.iadd, 1) := by decide +kernel
theorem dX1_add_19 : decode cX1_add 19 = .ok (.iastore, 1) := by decide +kernel
theorem dX1_add_20 : decode cX1_add 20 = .ok (.aload_n 0, 1) := by decide +kernel
theorem dX1_add_21 : decode cX1_add 21 = .ok (.getfield 9, 3) := by decide +kernel
theorem dX1_add_24 : decode cX1_add 24 = .ok (.iload 6, 2) := by decide +kernel
theorem dX1_add_26 : decode cX1_add 26 = .ok (.lload_n 1, 1) := by decide +kernel
theorem dX1_add_27 : decode cX1_add 27 = .ok (.lastore, 1) := by decide +kernel
theorem dX1_add_28 : decode cX1_add 28 = .ok (.aload_n 0, 1) := by decide +kernel
theorem dX1_add_29 : decode cX1_add 29 = .ok (.getfield 15, 3) := by decide +kernel
theorem dX1_add_32 : decode cX1_add 32 = .ok (.iload 6, 2) := by decide +kernel
theorem dX1_add_34 : decode cX1_add 34 = .ok (.iload_n 3, 1) := by decide +kernel
theorem dX1_add_35 : decode cX1_add 35 = .ok (.iastore, 1) := by decide +kernel
theorem dX1_add_36 : decode cX1_add 36 = .ok (.aload_n 0, 1) := by decide +kernel
theorem dX1_add_37 : decode cX1_add 37 = .ok (.getfield 19, 3) := by decide +kernel
theorem dX1_add_40 : decode cX1_add 40 = .ok (.iload 6, 2) := by decide +kernel
theorem dX1_add_42 : decode cX1_add 42 = .ok (.iload 4, 2) := by decide +kernel
theorem dX1_add_44 : decode cX1_add 44 = .ok (.iastore, 1) := by decide +kernel
theorem dX1_add_45 : decode cX1_add 45 = .ok (.aload_n 0, 1) := by decide +kernel
theorem dX1_add_46 : decode cX1_add 46 = .ok (.getfield 22, 3) := by decide +kernel
theorem dX1_add_49 : decode cX1_add 49 = .ok (.iload 6, 2) := by decide +kernel
theorem dX1_add_51 : decode cX1_add 51 = .ok (.iload 5, 2) := by decide +kernel
theorem dX1_add_53 : decode cX1_add 53 = .ok (.iastore, 1) := by decide +kernel
theorem dX1_add_54 : decode cX1_add 54 = .ok (.aload_n 0, 1) := by decide +kernel
theorem dX1_add_55 : decode cX1_add 55 = .ok (.getfield 25, 3) := by decide +kernel
theorem dX1_add_58 : decode cX1_add 58 = .ok (.iload 6, 2) := by decide +kernel
theorem dX1_add_60 : decode cX1_add 60 = .ok (.iload 4, 2) := by decide +kernel
theorem dX1_add_62 : decode cX1_add 62 = .ok (.iconst (-1), 1) := by decide +kernel
theorem dX1_add_63 : decode cX1_add 63 = .ok (.if_icmp .ne 7, 3) := by decide +kernel
theorem dX1_add_66 : decode cX1_add 66 = .ok (.iconst 0, 1) := by decide +kernel
theorem dX1_add_67 : decode cX1_add 67 = .ok (.goto 12, 3) := by decide +kernel
theorem dX1_add_70 : decode cX1_add 70 = .ok (.aload_n 0, 1) := by decide +kernel
theorem dX1_add_71 : decode cX1_add 71 = .ok (.getfield 25, 3) := by decide +kernel
theorem dX1_add_74 : decode cX1_add 74 = .ok (.iload 4, 2) := by decide +kernel
theorem dX1_add_76 : decode cX1_add 76 = .ok (.iaload, 1) := by decide +kernel
theorem dX1_add_77 : decode cX1_add 77 = .ok (.iconst 1, 1) := by decide +kernel
theorem dX1_add_78 : decode cX1_add 78 = .ok (.iadd, 1) := by decide +kernel
theorem dX1_add_79 : decode cX1_add 79 = .ok (.iastore, 1) := by decide +kernel
theorem dX1_add_80 : decode cX1_add 80 = .ok (.aload_n 0, 1) := by decide +kernel
theorem dX1_add_81 : decode cX1_add 81 = .ok (.getfield 28, 3) := by decide +kernel
theorem dX1_add_84 : decode cX1_add 84 = .ok (.iload 6, 2) := by decide +kernel
theorem dX1_add_86 : decode cX1_add 86 = .ok (.iconst (-1), 1) := by decide +kernel
theorem dX1_add_87 : decode cX1_add 87 = .ok (.iastore, 1) := by decide +kernel
theorem dX1_add_88 : decode cX1_add 88 = .ok (.aload_n 0, 1) := by decide +kernel
theorem dX1_add_89 : decode cX1_add 89 = .ok (.dup, 1) := by decide +kernel
theorem dX1_add_90 : decode cX1_add 90 = .ok (.getfield 38, 3) := by decide +kernel
theorem dX1_add_93 : decode cX1_add 93 = .ok (.iconst 1, 1) := by decide +kernel
theorem dX1_add_94 : decode cX1_add 94 = .ok (.iadd, 1) := by decide +kernel
theorem dX1_add_95 : decode cX1_add 95 = .ok (.putfield 38, 3) := by decide +kernel
theorem dX1_add_98 : decode cX1_add 98 = .ok (.iload 6, 2) := by decide +kernel
theorem dX1_add_100 : decode cX1_add 100 = .ok (.ireturn, 1) := by decide +kernel
theorem dX1_valueIn_0 : decode cX1_valueIn 0 = .ok (.aload_n 0, 1) := by decide +kernel
theorem dX1_valueIn_1 : decode cX1_valueIn 1 = .ok (.getfield 15, 3) := by decide +kernel
theorem dX1_valueIn_4 : decode cX1_valueIn 4 = .ok (.iload_n 1, 1) := by decide +kernel
theorem dX1_valueIn_5 : decode cX1_valueIn 5 = .ok (.iaload, 1) := by decide +kernel
theorem dX1_valueIn_6 : decode cX1_valueIn 6 = .ok (.iconst 2, 1) := by decide +kernel
theorem dX1_valueIn_7 : decode cX1_valueIn 7 = .ok (.iload_n 2, 1) := by decide +kernel
theorem dX1_valueIn_8 : decode cX1_valueIn 8 = .ok (.imul, 1) := by decide +kernel
theorem dX1_valueIn_9 : decode cX1_valueIn 9 = .ok (.ishr, 1) := by decide +kernel
theorem dX1_valueIn_10 : decode cX1_valueIn 10 = .ok (.iconst 3, 1) := by decide +kernel
theorem dX1_valueIn_11 : decode cX1_valueIn 11 = .ok (.iand, 1) := by decide +kernel
theorem dX1_valueIn_12 : decode cX1_valueIn 12 = .ok (.ireturn, 1) := by decide +kernel
theorem dX1_firstWith_0 : decode cX1_firstWith 0 = .ok (.iconst 0, 1) := by decide +kernel
theorem dX1_firstWith_1 : decode cX1_firstWith 1 = .ok (.istore_n 3, 1) := by decide +kernel
theorem dX1_firstWith_2 : decode cX1_firstWith 2 = .ok (.iload_n 3, 1) := by decide +kernel
theorem dX1_firstWith_3 : decode cX1_firstWith 3 = .ok (.aload_n 0, 1) := by decide +kernel
theorem dX1_firstWith_4 : decode cX1_firstWith 4 = .ok (.getfield 38, 3) := by decide +kernel
theorem dX1_firstWith_7 : decode cX1_firstWith 7 = .ok (.if_icmp .ge 21, 3) := by decide +kernel
theorem dX1_firstWith_10 : decode cX1_firstWith 10 = .ok (.aload_n 0, 1) := by decide +kernel
theorem dX1_firstWith_11 : decode cX1_firstWith 11 = .ok (.iload_n 3, 1) := by decide +kernel
theorem dX1_firstWith_12 : decode cX1_firstWith 12 = .ok (.iload_n 1, 1) := by decide +kernel
theorem dX1_firstWith_13 : decode cX1_firstWith 13 = .ok (.invokevirtual 56, 3) := by decide +kernel
theorem dX1_firstWith_16 : decode cX1_firstWith 16 = .ok (.iload_n 2, 1) := by decide +kernel
theorem dX1_firstWith_17 : decode cX1_firstWith 17 = .ok (.if_icmp .ne 5, 3) := by decide +kernel
theorem dX1_firstWith_20 : decode cX1_firstWith 20 = .ok (.iload_n 3, 1) := by decide +kernel
theorem dX1_firstWith_21 : decode cX1_firstWith 21 = .ok (.ireturn, 1) := by decide +kernel
theorem dX1_firstWith_22 : decode cX1_firstWith 22 = .ok (.iinc 3 1, 3) := by decide +kernel
theorem dX1_firstWith_25 : decode cX1_firstWith 25 = .ok (.goto (-23), 3) := by decide +kernel
theorem dX1_firstWith_28 : decode cX1_firstWith 28 = .ok (.iconst (-1), 1) := by decide +kernel
theorem dX1_firstWith_29 : decode cX1_firstWith 29 = .ok (.ireturn, 1) := by decide +kernel
theorem dX2_init_0 : decode cX2_init 0 = .ok (.aload_n 0, 1) := by decide +kernel
theorem dX2_init_1 : decode cX2_init 1 = .ok (.invokespecial 3, 3) := by decide +kernel
theorem dX2_init_4 : decode cX2_init 4 = .ok (.aload_n 0, 1) := by decide +kernel
theorem dX2_init_5 : decode cX2_init 5 = .ok (.sipush 2001, 3) := by decide +kernel
theorem dX2_init_8 : decode cX2_init 8 = .ok (.newarray .int, 2) := by decide +kernel
theorem dX2_init_10 : decode cX2_init 10 = .ok (.putfield 9, 3) := by decide +kernel
theorem dX2_init_13 : decode cX2_init 13 = .ok (.aload_n 0, 1) := by decide +kernel
theorem dX2_init_14 : decode cX2_init 14 = .ok (.sipush 8192, 3) := by decide +kernel
theorem dX2_init_17 : decode cX2_init 17 = .ok (.newarray .int, 2) := by decide +kernel
theorem dX2_init_19 : decode cX2_init 19 = .ok (.putfield 15, 3) := by decide +kernel
theorem dX2_init_22 : decode cX2_init 22 = .ok (.aload_n 0, 1) := by decide +kernel
theorem dX2_init_23 : decode cX2_init 23 = .ok (.sipush 2001, 3) := by decide +kernel
theorem dX2_init_26 : decode cX2_init 26 = .ok (.newarray .int, 2) := by decide +kernel
theorem dX2_init_28 : decode cX2_init 28 = .ok (.putfield 18, 3) := by decide +kernel
theorem dX2_init_31 : decode cX2_init 31 = .ok (.return_, 1) := by decide +kernel
theorem dX2_clear_0 : decode cX2_clear 0 = .ok (.aload_n 0, 1) := by decide +kernel
theorem dX2_clear_1 : decode cX2_clear 1 = .ok (.iconst 0, 1) := by decide +kernel
theorem dX2_clear_2 : decode cX2_clear 2 = .ok (.putfield 21, 3) := by decide +kernel
theorem dX2_clear_5 : decode cX2_clear 5 = .ok (.aload_n 0, 1) := by decide +kernel
theorem dX2_clear_6 : decode cX2_clear 6 = .ok (.iconst 0, 1) := by decide +kernel
theorem dX2_clear_7 : decode cX2_clear 7 = .ok (.putfield 25, 3) := by decide +kernel
theorem dX2_clear_10 : decode cX2_clear 10 = .ok (.aload_n 0, 1) := by decide +kernel
theorem dX2_clear_11 : decode cX2_clear 11 = .ok (.getfield 18, 3) := by decide +kernel
theorem dX2_clear_14 : decode cX2_clear 14 = .ok (.iconst 0, 1) := by decide +kernel
theorem dX2_clear_15 : decode cX2_clear 15 = .ok (.iconst 0, 1) := by decide +kernel
theorem dX2_clear_16 : decode cX2_clear 16 = .ok (.iastore, 1) := by decide +kernel
theorem dX2_clear_17 : decode cX2_clear 17 = .ok (.return_, 1) := by decide +kernel
theorem dX2_targetOf_0 : decode cX2_targetOf 0 = .ok (.iload_n 0, 1) := by decide +kernel
theorem dX2_targetOf_1 : decode cX2_targetOf 1 = .ok (.iconst 3, 1) := by decide +kernel
theorem dX2_targetOf_2 : decode cX2_targetOf 2 = .ok (.ishr, 1) := by decide +kernel
theorem dX2_targetOf_3 : decode cX2_targetOf 3 = .ok (.ireturn, 1) := by decide +kernel
theorem dX2_doersOf_0 : decode cX2_doersOf 0 = .ok (.iload_n 0, 1) := by decide +kernel
theorem dX2_doersOf_1 : decode cX2_doersOf 1 = .ok (.bipush 7, 2) := by decide +kernel
theorem dX2_doersOf_3 : decode cX2_doersOf 3 = .ok (.iand, 1) := by decide +kernel
theorem dX2_doersOf_4 : decode cX2_doersOf 4 = .ok (.ireturn, 1) := by decide +kernel
theorem dX2_addEdge_0 : decode cX2_addEdge 0 = .ok (.aload_n 0, 1) := by decide +kernel
theorem dX2_addEdge_1 : decode cX2_addEdge 1 = .ok (.getfield 25, 3) := by decide +kernel
theorem dX2_addEdge_4 : decode cX2_addEdge 4 = .ok (.aload_n 0, 1) := by decide +kernel
theorem dX2_addEdge_5 : decode cX2_addEdge 5 = .ok (.getfield 15, 3) := by decide +kernel
theorem dX2_addEdge_8 : decode cX2_addEdge 8 = .ok (.arraylength, 1) := by decide +kernel
theorem dX2_addEdge_9 : decode cX2_addEdge 9 = .ok (.if_icmp .lt 26, 3) := by decide +kernel
theorem dX2_addEdge_12 : decode cX2_addEdge 12 = .ok (.aload_n 0, 1) := by decide +kernel
theorem dX2_addEdge_13 : decode cX2_addEdge 13 = .ok (.aload_n 0, 1) := by decide +kernel
theorem dX2_addEdge_14 : decode cX2_addEdge 14 = .ok (.getfield 15, 3) := by decide +kernel
theorem dX2_addEdge_17 : decode cX2_addEdge 17 = .ok (.iconst 2, 1) := by decide +kernel
theorem dX2_addEdge_18 : decode cX2_addEdge 18 = .ok (.aload_n 0, 1) := by decide +kernel
theorem dX2_addEdge_19 : decode cX2_addEdge 19 = .ok (.getfield 15, 3) := by decide +kernel
theorem dX2_addEdge_22 : decode cX2_addEdge 22 = .ok (.arraylength, 1) := by decide +kernel
theorem dX2_addEdge_23 : decode cX2_addEdge 23 = .ok (.imul, 1) := by decide +kernel
theorem dX2_addEdge_24 : decode cX2_addEdge 24 = .ok (.ldc 28, 2) := by decide +kernel
theorem dX2_addEdge_26 : decode cX2_addEdge 26 = .ok (.invokestatic 29, 3) := by decide +kernel
theorem dX2_addEdge_29 : decode cX2_addEdge 29 = .ok (.invokestatic 35, 3) := by decide +kernel
theorem dX2_addEdge_32 : decode cX2_addEdge 32 = .ok (.putfield 15, 3) := by decide +kernel
theorem dX2_addEdge_35 : decode cX2_addEdge 35 = .ok (.aload_n 0, 1) := by decide +kernel
theorem dX2_addEdge_36 : decode cX2_addEdge 36 = .ok (.getfield 25, 3) := by decide +kernel
theorem dX2_addEdge_39 : decode cX2_addEdge 39 = .ok (.aload_n 0, 1) := by decide +kernel
theorem dX2_addEdge_40 : decode cX2_addEdge 40 = .ok (.getfield 15, 3) := by decide +kernel
theorem dX2_addEdge_43 : decode cX2_addEdge 43 = .ok (.arraylength, 1) := by decide +kernel
theorem dX2_addEdge_44 : decode cX2_addEdge 44 = .ok (.if_icmp .ge 40, 3) := by decide +kernel
theorem dX2_addEdge_47 : decode cX2_addEdge 47 = .ok (.aload_n 0, 1) := by decide +kernel
theorem dX2_addEdge_48 : decode cX2_addEdge 48 = .ok (.getfield 15, 3) := by decide +kernel
theorem dX2_addEdge_51 : decode cX2_addEdge 51 = .ok (.aload_n 0, 1) := by decide +kernel
theorem dX2_addEdge_52 : decode cX2_addEdge 52 = .ok (.getfield 25, 3) := by decide +kernel
theorem dX2_addEdge_55 : decode cX2_addEdge 55 = .ok (.iload_n 1, 1) := by decide +kernel
theorem dX2_addEdge_56 : decode cX2_addEdge 56 = .ok (.iconst 3, 1) := by decide +kernel
theorem dX2_addEdge_57 : decode cX2_addEdge 57 = .ok (.ishl, 1) := by decide +kernel
theorem dX2_addEdge_58 : decode cX2_addEdge 58 = .ok (.iload_n 2, 1) := by decide +kernel
theorem dX2_addEdge_59 : decode cX2_addEdge 59 = .ok (.ior, 1) := by decide +kernel
theorem dX2_addEdge_60 : decode cX2_addEdge 60 = .ok (.iastore, 1) := by decide +kernel
theorem dX2_addEdge_61 : decode cX2_addEdge 61 = .ok (.aload_n 0, 1) := by decide +kernel
theorem dX2_addEdge_62 : decode cX2_addEdge 62 = .ok (.dup, 1) := by decide +kernel
theorem dX2_addEdge_63 : decode cX2_addEdge 63 = .ok (.getfield 25, 3) := by decide +kernel
theorem dX2_addEdge_66 : decode cX2_addEdge 66 = .ok (.iconst 1, 1) := by decide +kernel
theorem dX2_addEdge_67 : decode cX2_addEdge 67 = .ok (.iadd, 1) := by decide +kernel
theorem dX2_addEdge_68 : decode cX2_addEdge 68 = .ok (.putfield 25, 3) := by decide +kernel
theorem dX2_addEdge_71 : decode cX2_addEdge 71 = .ok (.aload_n 0, 1) := by decide +kernel
theorem dX2_addEdge_72 : decode cX2_addEdge 72 = .ok (.getfield 18, 3) := by decide +kernel
theorem dX2_addEdge_75 : decode cX2_addEdge 75 = .ok (.aload_n 0, 1) := by decide +kernel
theorem dX2_addEdge_76 : decode cX2_addEdge 76 = .ok (.getfield 21, 3) := by decide +kernel
theorem dX2_addEdge_79 : decode cX2_addEdge 79 = .ok (.dup2, 1) := by decide +kernel
theorem dX2_addEdge_80 : decode cX2_addEdge 80 = .ok (.iaload, 1) := by decide +kernel
theorem dX2_addEdge_81 : decode cX2_addEdge 81 = .ok (.iload_n 2, 1) := by decide +kernel
theorem dX2_addEdge_82 : decode cX2_addEdge 82 = .ok (.ior, 1) := by decide +kernel
theorem dX2_addEdge_83 : decode cX2_addEdge 83 = .ok (.iastore, 1) := by decide +kernel
theorem dX2_addEdge_84 : decode cX2_addEdge 84 = .ok (.return_, 1) := by decide +kernel
theorem dX2_closeState_0 : decode cX2_closeState 0 = .ok (.aload_n 0, 1) := by decide +kernel
theorem dX2_closeState_1 : decode cX2_closeState 1 = .ok (.getfield 21, 3) := by decide +kernel
theorem dX2_closeState_4 : decode cX2_closeState 4 = .ok (.sipush 2000, 3) := by decide +kernel
theorem dX2_closeState_7 : decode cX2_closeState 7 = .ok (.if_icmp .ge 36, 3) := by decide +kernel
theorem dX2_closeState_10 : decode cX2_closeState 10 = .ok (.aload_n 0, 1) := by decide +kernel
theorem dX2_closeState_11 : decode cX2_closeState 11 = .ok (.dup, 1) := by decide +kernel
theorem dX2_closeState_12 : decode cX2_closeState 12 = .ok (.getfield 21, 3) := by decide +kernel
theorem dX2_closeState_15 : decode cX2_closeState 15 = .ok (.iconst 1, 1) := by decide +kernel
theorem dX2_closeState_16 : decode cX2_closeState 16 = .ok (.iadd, 1) := by decide +kernel
theorem dX2_closeState_17 : decode cX2_closeState 17 = .ok (.putfield 21, 3) := by decide +kernel
theorem dX2_closeState_20 : decode cX2_closeState 20 = .ok (.aload_n 0, 1) := by decide +kernel
theorem dX2_closeState_21 : decode cX2_closeState 21 = .ok (.getfield 9, 3) := by decide +kernel
theorem dX2_closeState_24 : decode cX2_closeState 24 = .ok (.aload_n 0, 1) := by decide +kernel
theorem dX2_closeState_25 : decode cX2_closeState 25 = .ok (.getfield 21, 3) := by decide +kernel
theorem dX2_closeState_28 : decode cX2_closeState 28 = .ok (.aload_n 0, 1) := by decide +kernel
theorem dX2_closeState_29 : decode cX2_closeState 29 = .ok (.getfield 25, 3) := by decide +kernel
theorem dX2_closeState_32 : decode cX2_closeState 32 = .ok (.iastore, 1) := by decide +kernel
theorem dX2_closeState_33 : decode cX2_closeState 33 = .ok (.aload_n 0, 1) := by decide +kernel
theorem dX2_closeState_34 : decode cX2_closeState 34 = .ok (.getfield 18, 3) := by decide +kernel
theorem dX2_closeState_37 : decode cX2_closeState 37 = .ok (.aload_n 0, 1) := by decide +kernel
theorem dX2_closeState_38 : decode cX2_closeState 38 = .ok (.getfield 21, 3) := by decide +kernel
theorem dX2_closeState_41 : decode cX2_closeState 41 = .ok (.iconst 0, 1) := by decide +kernel
theorem dX2_closeState_42 : decode cX2_closeState 42 = .ok (.iastore, 1) := by decide +kernel
theorem dX2_closeState_43 : decode cX2_closeState 43 = .ok (.return_, 1) := by decide +kernel
theorem dX2_isWithoutEdges_0 : decode cX2_isWithoutEdges 0 = .ok (.aload_n 0, 1) := by decide +kernel
theorem dX2_isWithoutEdges_1 : decode cX2_isWithoutEdges 1 = .ok (.getfield 9, 3) := by decide +kernel
theorem dX2_isWithoutEdges_4 : decode cX2_isWithoutEdges 4 = .ok (.iload_n 1, 1) := by decide +kernel
theorem dX2_isWithoutEdges_5 : decode cX2_isWithoutEdges 5 = .ok (.iaload, 1) := by decide +kernel
theorem dX2_isWithoutEdges_6 : decode cX2_isWithoutEdges 6 = .ok (.aload_n 0, 1) := by decide +kernel
theorem dX2_isWithoutEdges_7 : decode cX2_isWithoutEdges 7 = .ok (.getfield 9, 3) := by decide +kernel
theorem dX2_isWithoutEdges_10 : decode cX2_isWithoutEdges 10 = .ok (.iload_n 1, 1) := by decide +kernel
theorem dX2_isWithoutEdges_11 : decode cX2_isWithoutEdges 11 = .ok (.iconst 1, 1) := by decide +kernel
theorem dX2_isWithoutEdges_12 : decode cX2_isWithoutEdges 12 = .ok (.iadd, 1) := by decide +kernel
theorem dX2_isWithoutEdges_13 : decode cX2_isWithoutEdges 13 = .ok (.iaload, 1) := by decide +kernel
theorem dX2_isWithoutEdges_14 : decode cX2_isWithoutEdges 14 = .ok (.if_icmp .ne 7, 3) := by decide +kernel
theorem dX2_isWithoutEdges_17 : decode cX2_isWithoutEdges 17 = .ok (.iconst 1, 1) := by decide +kernel
theorem dX2_isWithoutEdges_18 : decode cX2_isWithoutEdges 18 = .ok (.goto 4, 3) := by decide +kernel
theorem dX2_isWithoutEdges_21 : decode cX2_isWithoutEdges 21 = .ok (.iconst 0, 1) := by decide +kernel
theorem dX2_isWithoutEdges_22 : decode cX2_isWithoutEdges 22 = .ok (.ireturn, 1) := by decide +kernel
theorem dX3_init_0 : decode cX3_init 0 = .ok (.aload_n 0, 1) := by decide +kernel
theorem dX3_init_1 : decode cX3_init 1 = .ok (.invokespecial 3, 3) := by decide +kernel
theorem dX3_init_4 : decode cX3_init 4 = .ok (.aload_n 0, 1) := by decide +kernel
theorem dX3_init_5 : decode cX3_init 5 = .ok (.sipush 392, 3) := by decide +kernel
theorem dX3_init_8 : decode cX3_init 8 = .ok (.newarray .int, 2) := by decide +kernel
theorem dX3_init_10 : decode cX3_init 10 = .ok (.putfield 9, 3) := by decide +kernel
theorem dX3_init_13 : decode cX3_init 13 = .ok (.aload_n 0, 1) := by decide +kernel
theorem dX3_init_14 : decode cX3_init 14 = .ok (.aload_n 1, 1) := by decide +kernel
theorem dX3_init_15 : decode cX3_init 15 = .ok (.putfield 15, 3) := by decide +kernel
theorem dX3_init_18 : decode cX3_init 18 = .ok (.return_, 1) := by decide +kernel
theorem dX3_leadOf_0 : decode cX3_leadOf 0 = .ok (.iload_n 0, 1) := by decide +kernel
theorem dX3_leadOf_1 : decode cX3_leadOf 1 = .ok (.bipush 6, 2) := by decide +kernel
theorem dX3_leadOf_3 : decode cX3_leadOf 3 = .ok (.ishr, 1) := by decide +kernel
theorem dX3_leadOf_4 : decode cX3_leadOf 4 = .ok (.ireturn, 1) := by decide +kernel
theorem dX3_partnerOf_0 : decode cX3_partnerOf 0 = .ok (.iload_n 0, 1) := by decide +kernel
theorem dX3_partnerOf_1 : decode cX3_partnerOf 1 = .ok (.bipush 63, 2) := by decide +kernel
theorem dX3_partnerOf_3 : decode cX3_partnerOf 3 = .ok (.iand, 1) := by decide +kernel
theorem dX3_partnerOf_4 : decode cX3_partnerOf 4 = .ok (.iconst 1, 1) := by decide +kernel
theorem dX3_partnerOf_5 : decode cX3_partnerOf 5 = .ok (.isub, 1) := by decide +kernel
theorem dX3_partnerOf_6 : decode cX3_partnerOf 6 = .ok (.ireturn, 1) := by decide +kernel
theorem dX3_leaderOf_0 : decode cX3_leaderOf 0 = .ok (.iload_n 0, 1) := by decide +kernel
theorem dX3_leaderOf_1 : decode cX3_leaderOf 1 = .ok (.invokestatic 19, 3) := by decide +kernel
theorem dX3_leaderOf_4 : decode cX3_leaderOf 4 = .ok (.invokestatic 23, 3) := by decide +kernel
theorem dX3_leaderOf_7 : decode cX3_leaderOf 7 = .ok (.ireturn, 1) := by decide +kernel
theorem dX3_doersOf_0 : decode cX3_doersOf 0 = .ok (.iload_n 0, 1) := by decide +kernel
theorem dX3_doersOf_1 : decode cX3_doersOf 1 = .ok (.invokestatic 28, 3) := by decide +kernel
theorem dX3_doersOf_4 : decode cX3_doersOf 4 = .ok (.istore_n 1, 1) := by decide +kernel
theorem dX3_doersOf_5 : decode cX3_doersOf 5 = .ok (.iconst 1, 1) := by decide +kernel
theorem dX3_doersOf_6 : decode cX3_doersOf 6 = .ok (.iload_n 0, 1) := by decide +kernel
theorem dX3_doersOf_7 : decode cX3_doersOf 7 = .ok (.invokestatic 31, 3) := by decide +kernel
theorem dX3_doersOf_10 : decode cX3_doersOf 10 = .ok (.ishl, 1) := by decide +kernel
theorem dX3_doersOf_11 : decode cX3_doersOf 11 = .ok (.istore_n 2, 1) := by decide +kernel
theorem dX3_doersOf_12 : decode cX3_doersOf 12 = .ok (.iload_n 1, 1) := by decide +kernel
theorem dX3_doersOf_13 : decode cX3_doersOf 13 = .ok (.iconst (-1), 1) := by decide +kernel
theorem dX3_doersOf_14 : decode cX3_doersOf 14 = .ok (.if_icmp .ne 7, 3) := by decide +kernel
theorem dX3_doersOf_17 : decode cX3_doersOf 17 = .ok (.iload_n 2, 1) := by decide +kernel
theorem dX3_doersOf_18 : decode cX3_doersOf 18 = .ok (.goto 11, 3) := by decide +kernel
theorem dX3_doersOf_21 : decode cX3_doersOf 21 = .ok (.iload_n 2, 1) := by decide +kernel
theorem dX3_doersOf_22 : decode cX3_doersOf 22 = .ok (.iconst 1, 1) := by decide +kernel
theorem dX3_doersOf_23 : decode cX3_doersOf 23 = .ok (.iload_n 1, 1) := by decide +kernel
theorem dX3_doersOf_24 : decode cX3_doersOf 24 = .ok (.invokestatic 23, 3) := by decide +kernel
theorem dX3_doersOf_27 : decode cX3_doersOf 27 = .ok (.ishl, 1) := by decide +kernel
theorem dX3_doersOf_28 : decode cX3_doersOf 28 = .ok (.ior, 1) := by decide +kernel
theorem dX3_doersOf_29 : decode cX3_doersOf 29 = .ok (.ireturn, 1) := by decide +kernel
theorem dX3_listFor_0 : decode cX3_listFor 0 = .ok (.aload_n 0, 1) := by decide +kernel
theorem dX3_listFor_1 : decode cX3_listFor 1 = .ok (.iconst 0, 1) := by decide +kernel
theorem dX3_listFor_2 : decode cX3_listFor 2 = .ok (.putfield 34, 3) := by decide +kernel
theorem dX3_listFor_5 : decode cX3_listFor 5 = .ok (.iconst 0, 1) := by decide +kernel
theorem dX3_listFor_6 : decode cX3_listFor 6 = .ok (.istore_n 2, 1) := by decide +kernel
theorem dX3_listFor_7 : decode cX3_listFor 7 = .ok (.iload_n 2, 1) := by decide +kernel
theorem dX3_listFor_8 : decode cX3_listFor 8 = .ok (.aload_n 0, 1) := by decide +kernel
theorem dX3_listFor_9 : decode cX3_listFor 9 = .ok (.getfield 15, 3) := by decide +kernel
theorem dX3_listFor_12 : decode cX3_listFor 12 = .ok (.getfield 38, 3) := by decide +kernel
theorem dX3_listFor_15 : decode cX3_listFor 15 = .ok (.if_icmp .ge 41, 3) := by decide +kernel
theorem dX3_listFor_18 : decode cX3_listFor 18 = .ok (.aload_n 0, 1) := by decide +kernel
theorem dX3_listFor_19 : decode cX3_listFor 19 = .ok (.getfield 15, 3) := by decide +kernel
theorem dX3_listFor_22 : decode cX3_listFor 22 = .ok (.iload_n 2, 1) := by decide +kernel
theorem dX3_listFor_23 : decode cX3_listFor 23 = .ok (.aload_n 1, 1) := by decide +kernel
theorem dX3_listFor_24 : decode cX3_listFor 24 = .ok (.getfield 41, 3) := by decide +kernel
theorem dX3_listFor_27 : decode cX3_listFor 27 = .ok (.iload_n 2, 1) := by decide +kernel
theorem dX3_listFor_28 : decode cX3_listFor 28 = .ok (.iaload, 1) := by decide +kernel
theorem dX3_listFor_29 : decode cX3_listFor 29 = .ok (.iconst 2, 1) := by decide +kernel
theorem dX3_listFor_30 : decode cX3_listFor 30 = .ok (.invokevirtual 46, 3) := by decide +kernel
theorem dX3_listFor_33 : decode cX3_listFor 33 = .ok (.ifCond .eq 17, 3) := by decide +kernel
theorem dX3_listFor_36 : decode cX3_listFor 36 = .ok (.aload_n 0, 1) := by decide +kernel
theorem dX3_listFor_37 : decode cX3_listFor 37 = .ok (.iload_n 2, 1) := by decide +kernel
theorem dX3_listFor_38 : decode cX3_listFor 38 = .ok (.aload_n 1, 1) := by decide +kernel
theorem dX3_listFor_39 : decode cX3_listFor 39 = .ok (.invokevirtual 50, 3) := by decide +kernel
theorem dX3_listFor_42 : decode cX3_listFor 42 = .ok (.aload_n 0, 1) := by decide +kernel
theorem dX3_listFor_43 : decode cX3_listFor 43 = .ok (.getfield 34, 3) := by decide +kernel
theorem dX3_listFor_46 : decode cX3_listFor 46 = .ok (.ifCond .le 4, 3) := by decide +kernel
theorem dX3_listFor_49 : decode cX3_listFor 49 = .ok (.return_, 1) := by decide +kernel
theorem dX3_listFor_50 : decode cX3_listFor 50 = .ok (.iinc 2 1, 3) := by decide +kernel
theorem dX3_listFor_53 : decode cX3_listFor 53 = .ok (.goto (-46), 3) := by decide +kernel
theorem dX3_listFor_56 : decode cX3_listFor 56 = .ok (.iconst 0, 1) := by decide +kernel
theorem dX3_listFor_57 : decode cX3_listFor 57 = .ok (.istore_n 2, 1) := by decide +kernel
theorem dX3_listFor_58 : decode cX3_listFor 58 = .ok (.iload_n 2, 1) := by decide +kernel
theorem dX3_listFor_59 : decode cX3_listFor 59 = .ok (.aload_n 0, 1) := by decide +kernel
theorem dX3_listFor_60 : decode cX3_listFor 60 = .ok (.getfield 15, 3) := by decide +kernel
theorem dX3_listFor_63 : decode cX3_listFor 63 = .ok (.getfield 38, 3) := by decide +kernel
theorem dX3_listFor_66 : decode cX3_listFor 66 = .ok (.if_icmp .ge 15, 3) := by decide +kernel
theorem dX3_listFor_69 : decode cX3_listFor 69 = .ok (.aload_n 0, 1) := by decide +kernel
theorem dX3_listFor_70 : decode cX3_listFor 70 = .ok (.iload_n 2, 1) := by decide +kernel
theorem dX3_listFor_71 : decode cX3_listFor 71 = .ok (.aload_n 1, 1) := by decide +kernel
theorem dX3_listFor_72 : decode cX3_listFor 72 = .ok (.invokevirtual 50, 3) := by decide +kernel
theorem dX3_listFor_75 : decode cX3_listFor 75 = .ok (.iinc 2 1, 3) := by decide +kernel
theorem dX3_listFor_78 : decode cX3_listFor 78 = .ok (.goto (-20), 3) := by decide +kernel
theorem dX3_listFor_81 : decode cX3_listFor 81 = .ok (.return_, 1) := by decide +kernel
theorem dX3_addLedBy_0 : decode cX3_addLedBy 0 = .ok (.iconst 0, 1) := by decide +kernel
theorem dX3_addLedBy_1 : decode cX3_addLedBy 1 = .ok (.istore_n 3, 1) := by decide +kernel
theorem dX3_addLedBy_2 : decode cX3_addLedBy 2 = .ok (.iload_n 3, 1) := by decide +kernel
theorem dX3_addLedBy_3 : decode cX3_addLedBy 3 = .ok (.aload_n 0, 1) := by decide +kernel
theorem dX3_addLedBy_4 : decode cX3_addLedBy 4 = .ok (.getfield 15, 3) := by decide +kernel
theorem dX3_addLedBy_7 : decode cX3_addLedBy 7 = .ok (.getfield 54, 3) := by decide +kernel
theorem dX3_addLedBy_10 : decode cX3_addLedBy 10 = .ok (.iload_n 1, 1) := by decide +kernel
theorem dX3_addLedBy_11 : decode cX3_addLedBy 11 = .ok (.iaload, 1) := by decide +kernel
theorem dX3_addLedBy_12 : decode cX3_addLedBy 12 = .ok (.if_icmp .ge 73, 3) := by decide +kernel
theorem dX3_addLedBy_15 : decode cX3_addLedBy 15 = .ok (.iload_n 1, 1) := by decide +kernel
theorem dX3_addLedBy_16 : decode cX3_addLedBy 16 = .ok (.iload_n 3, 1) := by decide +kernel
theorem dX3_addLedBy_17 : decode cX3_addLedBy 17 = .ok (.invokestatic 57, 3) := by decide +kernel
theorem dX3_addLedBy_20 : decode cX3_addLedBy 20 = .ok (.istore 4, 2) := by decide +kernel
theorem dX3_addLedBy_22 : decode cX3_addLedBy 22 = .ok (.aload_n 0, 1) := by decide +kernel
theorem dX3_addLedBy_23 : decode cX3_addLedBy 23 = .ok (.getfield 15, 3) := by decide +kernel
theorem dX3_addLedBy_26 : decode cX3_addLedBy 26 = .ok (.getfield 61, 3) := by decide +kernel
theorem dX3_addLedBy_29 : decode cX3_addLedBy 29 = .ok (.iload 4, 2) := by decide +kernel
theorem dX3_addLedBy_31 : decode cX3_addLedBy 31 = .ok (.iaload, 1) := by decide +kernel
theorem dX3_addLedBy_32 : decode cX3_addLedBy 32 = .ok (.aload_n 2, 1) := by decide +kernel
theorem dX3_addLedBy_33 : decode cX3_addLedBy 33 = .ok (.getfield 41, 3) := by decide +kernel
theorem dX3_addLedBy_36 : decode cX3_addLedBy 36 = .ok (.iload_n 1, 1) := by decide +kernel
theorem dX3_addLedBy_37 : decode cX3_addLedBy 37 = .ok (.iaload, 1) := by decide +kernel
theorem dX3_addLedBy_38 : decode cX3_addLedBy 38 = .ok (.if_icmp .ne 41, 3) := by decide +kernel
theorem dX3_addLedBy_41 : decode cX3_addLedBy 41 = .ok (.aload_n 0, 1) := by decide +kernel
theorem dX3_addLedBy_42 : decode cX3_addLedBy 42 = .ok (.getfield 15, 3) := by decide +kernel
theorem dX3_addLedBy_45 : decode cX3_addLedBy 45 = .ok (.iload 4, 2) := by decide +kernel
theorem dX3_addLedBy_47 : decode cX3_addLedBy 47 = .ok (.invokevirtual 64, 3) := by decide +kernel
theorem dX3_addLedBy_50 : decode cX3_addLedBy 50 = .ok (.ifCond .eq 13, 3) := by decide +kernel
theorem dX3_addLedBy_53 : decode cX3_addLedBy 53 = .ok (.aload_n 0, 1) := by decide +kernel
theorem dX3_addLedBy_54 : decode cX3_addLedBy 54 = .ok (.iload 4, 2) := by decide +kernel
theorem dX3_addLedBy_56 : decode cX3_addLedBy 56 = .ok (.aload_n 2, 1) := by decide +kernel
theorem dX3_addLedBy_57 : decode cX3_addLedBy 57 = .ok (.invokevirtual 68, 3) := by decide +kernel
theorem dX3_addLedBy_60 : decode cX3_addLedBy 60 = .ok (.goto 19, 3) := by decide +kernel
theorem dX3_addLedBy_63 : decode cX3_addLedBy 63 = .ok (.aload_n 2, 1) := by decide +kernel
theorem dX3_addLedBy_64 : decode cX3_addLedBy 64 = .ok (.iload 4, 2) := by decide +kernel
theorem dX3_addLedBy_66 : decode cX3_addLedBy 66 = .ok (.invokevirtual 71, 3) := by decide +kernel
theorem dX3_addLedBy_69 : decode cX3_addLedBy 69 = .ok (.ifCond .eq 10, 3) := by decide +kernel
theorem dX3_addLedBy_72 : decode cX3_addLedBy 72 = .ok (.aload_n 0, 1) := by decide +kernel
theorem dX3_addLedBy_73 : decode cX3_addLedBy 73 = .ok (.iload 4, 2) := by decide +kernel
theorem dX3_addLedBy_75 : decode cX3_addLedBy 75 = .ok (.iconst (-1), 1) := by decide +kernel
theorem dX3_addLedBy_76 : decode cX3_addLedBy 76 = .ok (.invokevirtual 74, 3) := by decide +kernel
theorem dX3_addLedBy_79 : decode cX3_addLedBy 79 = .ok (.iinc 3 1, 3) := by decide +kernel
theorem dX3_addLedBy_82 : decode cX3_addLedBy 82 = .ok (.goto (-80), 3) := by decide +kernel
theorem dX3_addLedBy_85 : decode cX3_addLedBy 85 = .ok (.return_, 1) := by decide +kernel
theorem dX3_addHandovers_0 : decode cX3_addHandovers 0 = .ok (.iconst 0, 1) := by decide +kernel
theorem dX3_addHandovers_1 : decode cX3_addHandovers 1 = .ok (.istore_n 3, 1) := by decide +kernel
theorem dX3_addHandovers_2 : decode cX3_addHandovers 2 = .ok (.iload_n 3, 1) := by decide +kernel
theorem dX3_addHandovers_3 : decode cX3_addHandovers 3 = .ok (.aload_n 0, 1) := by decide +kernel
theorem dX3_addHandovers_4 : decode cX3_addHandovers 4 = .ok (.getfield 15, 3) := by decide +kernel
theorem dX3_addHandovers_7 : decode cX3_addHandovers 7 = .ok (.getfield 38, 3) := by decide +kernel
theorem dX3_addHandovers_10 : decode cX3_addHandovers 10 = .ok (.if_icmp .ge 99, 3) := by decide +kernel
theorem dX3_addHandovers_13 : decode cX3_addHandovers 13 = .ok (.iconst 0, 1) := by decide +kernel
theorem dX3_addHandovers_14 : decode cX3_addHandovers 14 = .ok (.istore 4, 2) := by decide +kernel
theorem dX3_addHandovers_16 : decode cX3_addHandovers 16 = .ok (.iload 4, 2) := by decide +kernel
theorem dX3_addHandovers_18 : decode cX3_addHandovers 18 = .ok (.aload_n 0, 1) := by decide +kernel
theorem dX3_addHandovers_19 : decode cX3_addHandovers 19 = .ok (.getfield 15, 3) := by decide +kernel
theorem dX3_addHandovers_22 : decode cX3_addHandovers 22 = .ok (.getfield 54, 3) := by decide +kernel
theorem dX3_addHandovers_25 : decode cX3_addHandovers 25 = .ok (.iload_n 3, 1) := by decide +kernel
theorem dX3_addHandovers_26 : decode cX3_addHandovers 26 = .ok (.iaload, 1) := by decide +kernel
theorem dX3_addHandovers_27 : decode cX3_addHandovers 27 = .ok (.if_icmp .ge 76, 3) := by decide +kernel
theorem dX3_addHandovers_30 : decode cX3_addHandovers 30 = .ok (.iload_n 3, 1) := by decide +kernel
theorem dX3_addHandovers_31 : decode cX3_addHandovers 31 = .ok (.iload 4, 2) := by decide +kernel
theorem dX3_addHandovers_33 : decode cX3_addHandovers 33 = .ok (.invokestatic 57, 3) := by decide +kernel
theorem dX3_addHandovers_36 : decode cX3_addHandovers 36 = .ok (.istore 5, 2) := by decide +kernel
theorem dX3_addHandovers_38 : decode cX3_addHandovers 38 = .ok (.iload_n 3, 1) := by decide +kernel
theorem dX3_addHandovers_39 : decode cX3_addHandovers 39 = .ok (.iload_n 1, 1) := by decide +kernel
theorem dX3_addHandovers_40 : decode cX3_addHandovers 40 = .ok (.invokestatic 23, 3) := by decide +kernel
theorem dX3_addHandovers_43 : decode cX3_addHandovers 43 = .ok (.if_icmp .eq 26, 3) := by decide +kernel
theorem dX3_addHandovers_46 : decode cX3_addHandovers 46 = .ok (.aload_n 0, 1) := by decide +kernel
theorem dX3_addHandovers_47 : decode cX3_addHandovers 47 = .ok (.getfield 15, 3) := by decide +kernel
theorem dX3_addHandovers_50 : decode cX3_addHandovers 50 = .ok (.getfield 61, 3) := by decide +kernel
theorem dX3_addHandovers_53 : decode cX3_addHandovers 53 = .ok (.iload 5, 2) := by decide +kernel
theorem dX3_addHandovers_55 : decode cX3_addHandovers 55 = .ok (.iaload, 1) := by decide +kernel
theorem dX3_addHandovers_56 : decode cX3_addHandovers 56 = .ok (.aload_n 2, 1) := by decide +kernel
theorem dX3_addHandovers_57 : decode cX3_addHandovers 57 = .ok (.getfield 41, 3) := by decide +kernel
theorem dX3_addHandovers_60 : decode cX3_addHandovers 60 = .ok (.iload_n 3, 1) := by decide +kernel
theorem dX3_addHandovers_61 : decode cX3_addHandovers 61 = .ok (.iaload, 1) := by decide +kernel
theorem dX3_addHandovers_62 : decode cX3_addHandovers 62 = .ok (.if_icmp .ne 7, 3) := by decide +kernel
theorem dX3_addHandovers_65 : decode cX3_addHandovers 65 = .ok (.iconst 1, 1) := by decide +kernel
theorem dX3_addHandovers_66 : decode cX3_addHandovers 66 = .ok (.goto 4, 3) := by decide +kernel
theorem dX3_addHandovers_69 : decode cX3_addHandovers 69 = .ok (.iconst 0, 1) := by decide +kernel
theorem dX3_addHandovers_70 : decode cX3_addHandovers 70 = .ok (.istore 6, 2) := by decide +kernel
theorem dX3_addHandovers_72 : decode cX3_addHandovers 72 = .ok (.iload 6, 2) := by decide +kernel
theorem dX3_addHandovers_74 : decode cX3_addHandovers 74 = .ok (.ifCond .eq 23, 3) := by decide +kernel
theorem dX3_addHandovers_77 : decode cX3_addHandovers 77 = .ok (.aload_n 0, 1) := by decide +kernel
theorem dX3_addHandovers_78 : decode cX3_addHandovers 78 = .ok (.getfield 15, 3) := by decide +kernel
theorem dX3_addHandovers_81 : decode cX3_addHandovers 81 = .ok (.iload_n 1, 1) := by decide +kernel
theorem dX3_addHandovers_82 : decode cX3_addHandovers 82 = .ok (.iload 5, 2) := by decide +kernel
theorem dX3_addHandovers_84 : decode cX3_addHandovers 84 = .ok (.invokevirtual 78, 3) := by decide +kernel
theorem dX3_addHandovers_87 : decode cX3_addHandovers 87 = .ok (.ifCond .eq 10, 3) := by decide +kernel
theorem dX3_addHandovers_90 : decode cX3_addHandovers 90 = .ok (.aload_n 0, 1) := by decide +kernel
theorem dX3_addHandovers_91 : decode cX3_addHandovers 91 = .ok (.iload_n 1, 1) := by decide +kernel
theorem dX3_addHandovers_92 : decode cX3_addHandovers 92 = .ok (.iload 5, 2) := by decide +kernel
theorem dX3_addHandovers_94 : decode cX3_addHandovers 94 = .ok (.invokevirtual 74, 3) := by decide +kernel
theorem dX3_addHandovers_97 : decode cX3_addHandovers 97 = .ok (.iinc 4 1, 3) := by decide +kernel
theorem dX3_addHandovers_100 : decode cX3_addHandovers 100 = .ok (.goto (-84), 3) := by decide +kernel
theorem dX3_addHandovers_103 : decode cX3_addHandovers 103 = .ok (.iinc 3 1, 3) := by decide +kernel
theorem dX3_addHandovers_106 : decode cX3_addHandovers 106 = .ok (.goto (-104), 3) := by decide +kernel
theorem dX3_addHandovers_109 : decode cX3_addHandovers 109 = .ok (.return_, 1) := by decide +kernel
theorem dX3_add_0 : decode cX3_add 0 = .ok (.aload_n 0, 1) := by decide +kernel
theorem dX3_add_1 : decode cX3_add 1 = .ok (.getfield 34, 3) := by decide +kernel
theorem dX3_add_4 : decode cX3_add 4 = .ok (.sipush 392, 3) := by decide +kernel
theorem dX3_add_7 : decode cX3_add 7 = .ok (.if_icmp .ge 30, 3) := by decide +kernel
theorem dX3_add_10 : decode cX3_add 10 = .ok (.aload_n 0, 1) := by decide +kernel
theorem dX3_add_11 : decode cX3_add 11 = .ok (.getfield 9, 3) := by decide +kernel
theorem dX3_add_14 : decode cX3_add 14 = .ok (.aload_n 0, 1) := by decide +kernel
theorem dX3_add_15 : decode cX3_add 15 = .ok (.getfield 34, 3) := by decide +kernel
theorem dX3_add_18 : decode cX3_add 18 = .ok (.iload_n 1, 1) := by decide +kernel
theorem dX3_add_19 : decode cX3_add 19 = .ok (.bipush 6, 2) := by decide +kernel
theorem dX3_add_21 : decode cX3_add 21 = .ok (.ishl, 1) := by decide +kernel
theorem dX3_add_22 : decode cX3_add 22 = .ok (.iload_n 2, 1) := by decide +kernel
theorem dX3_add_23 : decode cX3_add 23 = .ok (.iconst 1, 1) := by decide +kernel
theorem dX3_add_24 : decode cX3_add 24 = .ok (.iadd, 1) := by decide +kernel
theorem dX3_add_25 : decode cX3_add 25 = .ok (.ior, 1) := by decide +kernel
theorem dX3_add_26 : decode cX3_add 26 = .ok (.iastore, 1) := by decide +kernel
theorem dX3_add_27 : decode cX3_add 27 = .ok (.aload_n 0, 1) := by decide +kernel
theorem dX3_add_28 : decode cX3_add 28 = .ok (.dup, 1) := by decide +kernel
theorem dX3_add_29 : decode cX3_add 29 = .ok (.getfield 34, 3) := by decide +kernel
theorem dX3_add_32 : decode cX3_add 32 = .ok (.iconst 1, 1) := by decide +kernel
theorem dX3_add_33 : decode cX3_add 33 = .ok (.iadd, 1) := by decide +kernel
theorem dX3_add_34 : decode cX3_add 34 = .ok (.putfield 34, 3) := by decide +kernel
theorem dX3_add_37 : decode cX3_add 37 = .ok (.return_, 1) := by decide +kernel
theorem dX3_has_0 : decode cX3_has 0 = .ok (.iconst 0, 1) := by decide +kernel
theorem dX3_has_1 : decode cX3_has 1 = .ok (.istore_n 2, 1) := by decide +kernel
theorem dX3_has_2 : decode cX3_has 2 = .ok (.iload_n 2, 1) := by decide +kernel
theorem dX3_has_3 : decode cX3_has 3 = .ok (.aload_n 0, 1) := by decide +kernel
theorem dX3_has_4 : decode cX3_has 4 = .ok (.getfield 34, 3) := by decide +kernel
theorem dX3_has_7 : decode cX3_has 7 = .ok (.if_icmp .ge 21, 3) := by decide +kernel
theorem dX3_has_10 : decode cX3_has 10 = .ok (.aload_n 0, 1) := by decide +kernel
theorem dX3_has_11 : decode cX3_has 11 = .ok (.getfield 9, 3) := by decide +kernel
theorem dX3_has_14 : decode cX3_has 14 = .ok (.iload_n 2, 1) := by decide +kernel
theorem dX3_has_15 : decode cX3_has 15 = .ok (.iaload, 1) := by decide +kernel
theorem dX3_has_16 : decode cX3_has 16 = .ok (.iload_n 1, 1) := by decide +kernel
theorem dX3_has_17 : decode cX3_has 17 = .ok (.if_icmp .ne 5, 3) := by decide +kernel
theorem dX3_has_20 : decode cX3_has 20 = .ok (.iconst 1, 1) := by decide +kernel
theorem dX3_has_21 : decode cX3_has 21 = .ok (.ireturn, 1) := by decide +kernel
theorem dX3_has_22 : decode cX3_has 22 = .ok (.iinc 2 1, 3) := by decide +kernel
theorem dX3_has_25 : decode cX3_has 25 = .ok (.goto (-23), 3) := by decide +kernel
theorem dX3_has_28 : decode cX3_has 28 = .ok (.iconst 0, 1) := by decide +kernel
theorem dX3_has_29 : decode cX3_has 29 = .ok (.ireturn, 1) := by decide +kernel
theorem dX3_hasLedBy_0 : decode cX3_hasLedBy 0 = .ok (.iconst 0, 1) := by decide +kernel
theorem dX3_hasLedBy_1 : decode cX3_hasLedBy 1 = .ok (.istore_n 2, 1) := by decide +kernel
theorem dX3_hasLedBy_2 : decode cX3_hasLedBy 2 = .ok (.iload_n 2, 1) := by decide +kernel
theorem dX3_hasLedBy_3 : decode cX3_hasLedBy 3 = .ok (.aload_n 0, 1) := by decide +kernel
theorem dX3_hasLedBy_4 : decode cX3_hasLedBy 4 = .ok (.getfield 34, 3) := by decide +kernel
theorem dX3_hasLedBy_7 : decode cX3_hasLedBy 7 = .ok (.if_icmp .ge 24, 3) := by decide +kernel
theorem dX3_hasLedBy_10 : decode cX3_hasLedBy 10 = .ok (.aload_n 0, 1) := by decide +kernel
theorem dX3_hasLedBy_11 : decode cX3_hasLedBy 11 = .ok (.getfield 9, 3) := by decide +kernel
theorem dX3_hasLedBy_14 : decode cX3_hasLedBy 14 = .ok (.iload_n 2, 1) := by decide +kernel
theorem dX3_hasLedBy_15 : decode cX3_hasLedBy 15 = .ok (.iaload, 1) := by decide +kernel
theorem dX3_hasLedBy_16 : decode cX3_hasLedBy 16 = .ok (.invokestatic 31, 3) := by decide +kernel
theorem dX3_hasLedBy_19 : decode cX3_hasLedBy 19 = .ok (.iload_n 1, 1) := by decide +kernel
theorem dX3_hasLedBy_20 : decode cX3_hasLedBy 20 = .ok (.if_icmp .ne 5, 3) := by decide +kernel
theorem dX3_hasLedBy_23 : decode cX3_hasLedBy 23 = .ok (.iconst 1, 1) := by decide +kernel
theorem dX3_hasLedBy_24 : decode cX3_hasLedBy 24 = .ok (.ireturn, 1) := by decide +kernel
theorem dX3_hasLedBy_25 : decode cX3_hasLedBy 25 = .ok (.iinc 2 1, 3) := by decide +kernel
theorem dX3_hasLedBy_28 : decode cX3_hasLedBy 28 = .ok (.goto (-26), 3) := by decide +kernel
theorem dX3_hasLedBy_31 : decode cX3_hasLedBy 31 = .ok (.iconst 0, 1) := by decide +kernel
theorem dX3_hasLedBy_32 : decode cX3_hasLedBy 32 = .ok (.ireturn, 1) := by decide +kernel
theorem dX4_init_0 : decode cX4_init 0 = .ok (.aload_n 0, 1) := by decide +kernel
theorem dX4_init_1 : decode cX4_init 1 = .ok (.invokespecial 3, 3) := by decide +kernel
theorem dX4_init_4 : decode cX4_init 4 = .ok (.aload_n 0, 1) := by decide +kernel
theorem dX4_init_5 : decode cX4_init 5 = .ok (.iconst 3, 1) := by decide +kernel
theorem dX4_init_6 : decode cX4_init 6 = .ok (.newarray .int, 2) := by decide +kernel
theorem dX4_init_8 : decode cX4_init 8 = .ok (.putfield 9, 3) := by decide +kernel
theorem dX4_init_11 : decode cX4_init 11 = .ok (.aload_n 0, 1) := by decide +kernel
theorem dX4_init_12 : decode cX4_init 12 = .ok (.bipush 42, 2) := by decide +kernel
theorem dX4_init_14 : decode cX4_init 14 = .ok (.newarray .int, 2) := by decide +kernel
theorem dX4_init_16 : decode cX4_init 16 = .ok (.putfield 15, 3) := by decide +kernel
theorem dX4_init_19 : decode cX4_init 19 = .ok (.aload_n 0, 1) := by decide +kernel
theorem dX4_init_20 : decode cX4_init 20 = .ok (.bipush 42, 2) := by decide +kernel
theorem dX4_init_22 : decode cX4_init 22 = .ok (.newarray .int, 2) := by decide +kernel
theorem dX4_init_24 : decode cX4_init 24 = .ok (.putfield 18, 3) := by decide +kernel
theorem dX4_init_27 : decode cX4_init 27 = .ok (.aload_n 0, 1) := by decide +kernel
theorem dX4_init_28 : decode cX4_init 28 = .ok (.bipush 42, 2) := by decide +kernel
theorem dX4_init_30 : decode cX4_init 30 = .ok (.newarray .char, 2) := by decide +kernel
theorem dX4_init_32 : decode cX4_init 32 = .ok (.putfield 21, 3) := by decide +kernel
theorem dX4_init_35 : decode cX4_init 35 = .ok (.aload_n 0, 1) := by decide +kernel
theorem dX4_init_36 : decode cX4_init 36 = .ok (.bipush 42, 2) := by decide +kernel
theorem dX4_init_38 : decode cX4_init 38 = .ok (.newarray .int, 2) := by decide +kernel
theorem dX4_init_40 : decode cX4_init 40 = .ok (.putfield 25, 3) := by decide +kernel
theorem dX4_init_43 : decode cX4_init 43 = .ok (.aload_n 0, 1) := by decide +kernel
theorem dX4_init_44 : decode cX4_init 44 = .ok (.bipush 42, 2) := by decide +kernel
theorem dX4_init_46 : decode cX4_init 46 = .ok (.newarray .int, 2) := by decide +kernel
theorem dX4_init_48 : decode cX4_init 48 = .ok (.putfield 28, 3) := by decide +kernel
theorem dX4_init_51 : decode cX4_init 51 = .ok (.aload_n 0, 1) := by decide +kernel
theorem dX4_init_52 : decode cX4_init 52 = .ok (.iconst 2, 1) := by decide +kernel
theorem dX4_init_53 : decode cX4_init 53 = .ok (.newarray .int, 2) := by decide +kernel
theorem dX4_init_55 : decode cX4_init 55 = .ok (.putfield 31, 3) := by decide +kernel
theorem dX4_init_58 : decode cX4_init 58 = .ok (.aload_n 0, 1) := by decide +kernel
theorem dX4_init_59 : decode cX4_init 59 = .ok (.bipush 9, 2) := by decide +kernel
theorem dX4_init_61 : decode cX4_init 61 = .ok (.newarray .int, 2) := by decide +kernel
theorem dX4_init_63 : decode cX4_init 63 = .ok (.putfield 34, 3) := by decide +kernel
theorem dX4_init_66 : decode cX4_init 66 = .ok (.aload_n 0, 1) := by decide +kernel
theorem dX4_init_67 : decode cX4_init 67 = .ok (.bipush 36, 2) := by decide +kernel
theorem dX4_init_69 : decode cX4_init 69 = .ok (.newarray .int, 2) := by decide +kernel
theorem dX4_init_71 : decode cX4_init 71 = .ok (.putfield 37, 3) := by decide +kernel
theorem dX4_init_74 : decode cX4_init 74 = .ok (.aload_n 0, 1) := by decide +kernel
theorem dX4_init_75 : decode cX4_init 75 = .ok (.iconst 4, 1) := by decide +kernel
theorem dX4_init_76 : decode cX4_init 76 = .ok (.newarray .int, 2) := by decide +kernel
theorem dX4_init_78 : decode cX4_init 78 = .ok (.putfield 40, 3) := by decide +kernel
theorem dX4_init_81 : decode cX4_init 81 = .ok (.aload_n 0, 1) := by decide +kernel
theorem dX4_init_82 : decode cX4_init 82 = .ok (.iconst 4, 1) := by decide +kernel
theorem dX4_init_83 : decode cX4_init 83 = .ok (.newarray .int, 2) := by decide +kernel
theorem dX4_init_85 : decode cX4_init 85 = .ok (.putfield 43, 3) := by decide +kernel
theorem dX4_init_88 : decode cX4_init 88 = .ok (.return_, 1) := by decide +kernel
theorem dX4_stepAt_0 : decode cX4_stepAt 0 = .ok (.iload_n 0, 1) := by decide +kernel
theorem dX4_stepAt_1 : decode cX4_stepAt 1 = .ok (.bipush 14, 2) := by decide +kernel
theorem dX4_stepAt_3 : decode cX4_stepAt 3 = .ok (.imul, 1) := by decide +kernel
theorem dX4_stepAt_4 : decode cX4_stepAt 4 = .ok (.iload_n 1, 1) := by decide +kernel
theorem dX4_stepAt_5 : decode cX4_stepAt 5 = .ok (.iadd, 1) := by decide +kernel
theorem dX4_stepAt_6 : decode cX4_stepAt 6 = .ok (.ireturn, 1) := by decide +kernel
theorem dX4_processOf_0 : decode cX4_processOf 0 = .ok (.iload_n 0, 1) := by decide +kernel
theorem dX4_processOf_1 : decode cX4_processOf 1 = .ok (.bipush 14, 2) := by decide +kernel
theorem dX4_processOf_3 : decode cX4_processOf 3 = .ok (.idiv, 1) := by decide +kernel
theorem dX4_processOf_4 : decode cX4_processOf 4 = .ok (.ireturn, 1) := by decide +kernel
theorem dX4_numberOf_0 : decode cX4_numberOf 0 = .ok (.iload_n 0, 1) := by decide +kernel
theorem dX4_numberOf_1 : decode cX4_numberOf 1 = .ok (.bipush 14, 2) := by decide +kernel
theorem dX4_numberOf_3 : decode cX4_numberOf 3 = .ok (.irem, 1) := by decide +kernel
theorem dX4_numberOf_4 : decode cX4_numberOf 4 = .ok (.ireturn, 1) := by decide +kernel
theorem dX4_isNumber_0 : decode cX4_isNumber 0 = .ok (.iload_n 0, 1) := by decide +kernel
theorem dX4_isNumber_1 : decode cX4_isNumber 1 = .ok (.ifCond .lt 12, 3) := by decide +kernel
theorem dX4_isNumber_4 : decode cX4_isNumber 4 = .ok (.iload_n 0, 1) := by decide +kernel
theorem dX4_isNumber_5 : decode cX4_isNumber 5 = .ok (.iconst 4, 1) := by decide +kernel
theorem dX4_isNumber_6 : decode cX4_isNumber 6 = .ok (.if_icmp .ge 7, 3) := by decide +kernel
theorem dX4_isNumber_9 : decode cX4_isNumber 9 = .ok (.iconst 1, 1) := by decide +kernel
theorem dX4_isNumber_10 : decode cX4_isNumber 10 = .ok (.goto 4, 3) := by decide +kernel
theorem dX4_isNumber_13 : decode cX4_isNumber 13 = .ok (.iconst 0, 1) := by decide +kernel
theorem dX4_isNumber_14 : decode cX4_isNumber 14 = .ok (.ireturn, 1) := by decide +kernel
theorem dX4_isOwn_0 : decode cX4_isOwn 0 = .ok (.getstatic 46, 3) := by decide +kernel
theorem dX4_isOwn_3 : decode cX4_isOwn 3 = .ok (.iload_n 0, 1) := by decide +kernel
theorem dX4_isOwn_4 : decode cX4_isOwn 4 = .ok (.iaload, 1) := by decide +kernel
theorem dX4_isOwn_5 : decode cX4_isOwn 5 = .ok (.istore_n 2, 1) := by decide +kernel
theorem dX4_isOwn_6 : decode cX4_isOwn 6 = .ok (.iload_n 1, 1) := by decide +kernel
theorem dX4_isOwn_7 : decode cX4_isOwn 7 = .ok (.iload_n 2, 1) := by decide +kernel
theorem dX4_isOwn_8 : decode cX4_isOwn 8 = .ok (.if_icmp .lt 14, 3) := by decide +kernel
theorem dX4_isOwn_11 : decode cX4_isOwn 11 = .ok (.iload_n 1, 1) := by decide +kernel
theorem dX4_isOwn_12 : decode cX4_isOwn 12 = .ok (.iload_n 2, 1) := by decide +kernel
theorem dX4_isOwn_13 : decode cX4_isOwn 13 = .ok (.iconst 2, 1) := by decide +kernel
theorem dX4_isOwn_14 : decode cX4_isOwn 14 = .ok (.iadd, 1) := by decide +kernel
theorem dX4_isOwn_15 : decode cX4_isOwn 15 = .ok (.if_icmp .ge 7, 3) := by decide +kernel
theorem dX4_isOwn_18 : decode cX4_isOwn 18 = .ok (.iconst 1, 1) := by decide +kernel
theorem dX4_isOwn_19 : decode cX4_isOwn 19 = .ok (.goto 4, 3) := by decide +kernel
theorem dX4_isOwn_22 : decode cX4_isOwn 22 = .ok (.iconst 0, 1) := by decide +kernel
theorem dX4_isOwn_23 : decode cX4_isOwn 23 = .ok (.ireturn, 1) := by decide +kernel
theorem dX4_isUsable_0 : decode cX4_isUsable 0 = .ok (.iload_n 1, 1) := by decide +kernel
theorem dX4_isUsable_1 : decode cX4_isUsable 1 = .ok (.ifCond .lt 8, 3) := by decide +kernel
theorem dX4_isUsable_4 : decode cX4_isUsable 4 = .ok (.iload_n 1, 1) := by decide +kernel
theorem dX4_isUsable_5 : decode cX4_isUsable 5 = .ok (.iconst 3, 1) := by decide +kernel
theorem dX4_isUsable_6 : decode cX4_isUsable 6 = .ok (.if_icmp .lt 11, 3) := by decide +kernel
theorem dX4_isUsable_9 : decode cX4_isUsable 9 = .ok (.iload_n 0, 1) := by decide +kernel
theorem dX4_isUsable_10 : decode cX4_isUsable 10 = .ok (.iload_n 1, 1) := by decide +kernel
theorem dX4_isUsable_11 : decode cX4_isUsable 11 = .ok (.invokestatic 49, 3) := by decide +kernel
theorem dX4_isUsable_14 : decode cX4_isUsable 14 = .ok (.ifCond .eq 7, 3) := by decide +kernel
theorem dX4_isUsable_17 : decode cX4_isUsable 17 = .ok (.iconst 1, 1) := by decide +kernel
theorem dX4_isUsable_18 : decode cX4_isUsable 18 = .ok (.goto 4, 3) := by decide +kernel
theorem dX4_isUsable_21 : decode cX4_isUsable 21 = .ok (.iconst 0, 1) := by decide +kernel
theorem dX4_isUsable_22 : decode cX4_isUsable 22 = .ok (.ireturn, 1) := by decide +kernel
theorem dX4_newProcess_0 : decode cX4_newProcess 0 = .ok (.aload_n 0, 1) := by decide +kernel
theorem dX4_newProcess_1 : decode cX4_newProcess 1 = .ok (.dup, 1) := by decide +kernel
theorem dX4_newProcess_2 : decode cX4_newProcess 2 = .ok (.getfield 53, 3) := by decide +kernel
theorem dX4_newProcess_5 : decode cX4_newProcess 5 = .ok (.iconst 1, 1) := by decide +kernel
theorem dX4_newProcess_6 : decode cX4_newProcess 6 = .ok (.iadd, 1) := by decide +kernel
theorem dX4_newProcess_7 : decode cX4_newProcess 7 = .ok (.putfield 53, 3) := by decide +kernel
theorem dX4_newProcess_10 : decode cX4_newProcess 10 = .ok (.aload_n 0, 1) := by decide +kernel
theorem dX4_newProcess_11 : decode cX4_newProcess 11 = .ok (.getfield 53, 3) := by decide +kernel
theorem dX4_newProcess_14 : decode cX4_newProcess 14 = .ok (.iconst 1, 1) := by decide +kernel
theorem dX4_newProcess_15 : decode cX4_newProcess 15 = .ok (.isub, 1) := by decide +kernel
theorem dX4_newProcess_16 : decode cX4_newProcess 16 = .ok (.ireturn, 1) := by decide +kernel
theorem dX4_fits_0 : decode cX4_fits 0 = .ok (.iload_n 2, 1) := by decide +kernel
theorem dX4_fits_1 : decode cX4_fits 1 = .ok (.lookupswitch 126 #[(33, 77), (61, 77), (97, 77), (105, 77), (107, 75), (114, 99), (115, 77), (119, 99)], 75) := by decide +kernel
theorem dX4_fits_76 : decode cX4_fits 76 = .ok (.iconst 1, 1) := by decide +kernel
theorem dX4_fits_77 : decode cX4_fits 77 = .ok (.ireturn, 1) := by decide +kernel
theorem dX4_fits_78 : decode cX4_fits 78 = .ok (.iload_n 1, 1) := by decide +kernel
theorem dX4_fits_79 : decode cX4_fits 79 = .ok (.iload_n 3, 1) := by decide +kernel
theorem dX4_fits_80 : decode cX4_fits 80 = .ok (.invokestatic 57, 3) := by decide +kernel
theorem dX4_fits_83 : decode cX4_fits 83 = .ok (.ifCond .eq 15, 3) := by decide +kernel
theorem dX4_fits_86 : decode cX4_fits 86 = .ok (.iload 4, 2) := by decide +kernel
theorem dX4_fits_88 : decode cX4_fits 88 = .ok (.invokestatic 60, 3) := by decide +kernel
theorem dX4_fits_91 : decode cX4_fits 91 = .ok (.ifCond .eq 7, 3) := by decide +kernel
theorem dX4_fits_94 : decode cX4_fits 94 = .ok (.iconst 1, 1) := by decide +kernel
theorem dX4_fits_95 : decode cX4_fits 95 = .ok (.goto 4, 3) := by decide +kernel
theorem dX4_fits_98 : decode cX4_fits 98 = .ok (.iconst 0, 1) := by decide +kernel
theorem dX4_fits_99 : decode cX4_fits 99 = .ok (.ireturn, 1) := by decide +kernel
theorem dX4_fits_100 : decode cX4_fits 100 = .ok (.iload_n 3, 1) := by decide +kernel
theorem dX4_fits_101 : decode cX4_fits 101 = .ok (.ifCond .lt 24, 3) := by decide +kernel
theorem dX4_fits_104 : decode cX4_fits 104 = .ok (.iload_n 3, 1) := by decide +kernel
theorem dX4_fits_105 : decode cX4_fits 105 = .ok (.aload_n 0, 1) := by decide +kernel
theorem dX4_fits_106 : decode cX4_fits 106 = .ok (.getfield 64, 3) := by decide +kernel
theorem dX4_fits_109 : decode cX4_fits 109 = .ok (.if_icmp .ge 16, 3) := by decide +kernel
theorem dX4_fits_112 : decode cX4_fits 112 = .ok (.iload_n 1, 1) := by decide +kernel
theorem dX4_fits_113 : decode cX4_fits 113 = .ok (.iload 4, 2) := by decide +kernel
theorem dX4_fits_115 : decode cX4_fits 115 = .ok (.invokestatic 57, 3) := by decide +kernel
theorem dX4_fits_118 : decode cX4_fits 118 = .ok (.ifCond .eq 7, 3) := by decide +kernel
theorem dX4_fits_121 : decode cX4_fits 121 = .ok (.iconst 1, 1) := by decide +kernel
theorem dX4_fits_122 : decode cX4_fits 122 = .ok (.goto 4, 3) := by decide +kernel
theorem dX4_fits_125 : decode cX4_fits 125 = .ok (.iconst 0, 1) := by decide +kernel
theorem dX4_fits_126 : decode cX4_fits 126 = .ok (.ireturn, 1) := by decide +kernel
theorem dX4_fits_127 : decode cX4_fits 127 = .ok (.iconst 0, 1) := by decide +kernel
theorem dX4_fits_128 : decode cX4_fits 128 = .ok (.ireturn, 1) := by decide +kernel
theorem dX4_newStep_0 : decode cX4_newStep 0 = .ok (.aload_n 0, 1) := by decide +kernel
theorem dX4_newStep_1 : decode cX4_newStep 1 = .ok (.getfield 9, 3) := by decide +kernel
theorem dX4_newStep_4 : decode cX4_newStep 4 = .ok (.iload_n 1, 1) := by decide +kernel
theorem dX4_newStep_5 : decode cX4_newStep 5 = .ok (.iaload, 1) := by decide +kernel
theorem dX4_newStep_6 : decode cX4_newStep 6 = .ok (.istore 7, 2) := by decide +kernel
theorem dX4_newStep_8 : decode cX4_newStep 8 = .ok (.iload_n 1, 1) := by decide +kernel
theorem dX4_newStep_9 : decode cX4_newStep 9 = .ok (.iload 7, 2) := by decide +kernel
theorem dX4_newStep_11 : decode cX4_newStep 11 = .ok (.invokestatic 67, 3) := by decide +kernel
theorem dX4_newStep_14 : decode cX4_newStep 14 = .ok (.istore 8, 2) := by decide +kernel
theorem dX4_newStep_16 : decode cX4_newStep 16 = .ok (.aload_n 0, 1) := by decide +kernel
theorem dX4_newStep_17 : decode cX4_newStep 17 = .ok (.getfield 15, 3) := by decide +kernel
theorem dX4_newStep_20 : decode cX4_newStep 20 = .ok (.iload 8, 2) := by decide +kernel
theorem dX4_newStep_22 : decode cX4_newStep 22 = .ok (.iload_n 2, 1) := by decide +kernel
theorem dX4_newStep_23 : decode cX4_newStep 23 = .ok (.iastore, 1) := by decide +kernel
theorem dX4_newStep_24 : decode cX4_newStep 24 = .ok (.aload_n 0, 1) := by decide +kernel
theorem dX4_newStep_25 : decode cX4_newStep 25 = .ok (.getfield 18, 3) := by decide +kernel
theorem dX4_newStep_28 : decode cX4_newStep 28 = .ok (.iload 8, 2) := by decide +kernel
theorem dX4_newStep_30 : decode cX4_newStep 30 = .ok (.iload_n 3, 1) := by decide +kernel
theorem dX4_newStep_31 : decode cX4_newStep 31 = .ok (.iastore, 1) := by decide +kernel
theorem dX4_newStep_32 : decode cX4_newStep 32 = .ok (.aload_n 0, 1) := by decide +kernel
theorem dX4_newStep_33 : decode cX4_newStep 33 = .ok (.getfield 21, 3) := by decide +kernel
theorem dX4_newStep_36 : decode cX4_newStep 36 = .ok (.iload 8, 2) := by decide +kernel
theorem dX4_newStep_38 : decode cX4_newStep 38 = .ok (.iload 4, 2) := by decide +kernel
theorem dX4_newStep_40 : decode cX4_newStep 40 = .ok (.castore, 1) := by decide +kernel
theorem dX4_newStep_41 : decode cX4_newStep 41 = .ok (.aload_n 0, 1) := by decide +kernel
theorem dX4_newStep_42 : decode cX4_newStep 42 = .ok (.getfield 25, 3) := by decide +kernel
theorem dX4_newStep_45 : decode cX4_newStep 45 = .ok (.iload 8, 2) := by decide +kernel
theorem dX4_newStep_47 : decode cX4_newStep 47 = .ok (.iload 4, 2) := by decide +kernel
theorem dX4_newStep_49 : decode cX4_newStep 49 = .ok (.bipush 107, 2) := by decide +kernel
theorem dX4_newStep_51 : decode cX4_newStep 51 = .ok (.if_icmp .ne 7, 3) := by decide +kernel
theorem dX4_newStep_54 : decode cX4_newStep 54 = .ok (.iconst 0, 1) := by decide +kernel
theorem dX4_newStep_55 : decode cX4_newStep 55 = .ok (.goto 5, 3) := by decide +kernel
theorem dX4_newStep_58 : decode cX4_newStep 58 = .ok (.iload 5, 2) := by decide +kernel
theorem dX4_newStep_60 : decode cX4_newStep 60 = .ok (.iastore, 1) := by decide +kernel
theorem dX4_newStep_61 : decode cX4_newStep 61 = .ok (.aload_n 0, 1) := by decide +kernel
theorem dX4_newStep_62 : decode cX4_newStep 62 = .ok (.getfield 28, 3) := by decide +kernel
theorem dX4_newStep_65 : decode cX4_newStep 65 = .ok (.iload 8, 2) := by decide +kernel
theorem dX4_newStep_67 : decode cX4_newStep 67 = .ok (.iload 4, 2) := by decide +kernel
theorem dX4_newStep_69 : decode cX4_newStep 69 = .ok (.bipush 107, 2) := by decide +kernel
theorem dX4_newStep_71 : decode cX4_newStep 71 = .ok (.if_icmp .ne 7, 3) := by decide +kernel
theorem dX4_newStep_74 : decode cX4_newStep 74 = .ok (.iconst 0, 1) := by decide +kernel
theorem dX4_newStep_75 : decode cX4_newStep 75 = .ok (.goto 5, 3) := by decide +kernel
theorem dX4_newStep_78 : decode cX4_newStep 78 = .ok (.iload 6, 2) := by decide +kernel
theorem dX4_newStep_80 : decode cX4_newStep 80 = .ok (.iastore, 1) := by decide +kernel
theorem dX4_newStep_81 : decode cX4_newStep 81 = .ok (.aload_n 0, 1) := by decide +kernel
theorem dX4_newStep_82 : decode cX4_newStep 82 = .ok (.getfield 9, 3) := by decide +kernel
theorem dX4_newStep_85 : decode cX4_newStep 85 = .ok (.iload_n 1, 1) := by decide +kernel
theorem dX4_newStep_86 : decode cX4_newStep 86 = .ok (.dup2, 1) := by decide +kernel
theorem dX4_newStep_87 : decode cX4_newStep 87 = .ok (.iaload, 1) := by decide +kernel
theorem dX4_newStep_88 : decode cX4_newStep 88 = .ok (.iconst 1, 1) := by decide +kernel
theorem dX4_newStep_89 : decode cX4_newStep 89 = .ok (.iadd, 1) := by decide +kernel
theorem dX4_newStep_90 : decode cX4_newStep 90 = .ok (.iastore, 1) := by decide +kernel
theorem dX4_newStep_91 : decode cX4_newStep 91 = .ok (.iload 7, 2) := by decide +kernel
theorem dX4_newStep_93 : decode cX4_newStep 93 = .ok (.ireturn, 1) := by decide +kernel
theorem dX4_newChannel_0 : decode cX4_newChannel 0 = .ok (.aload_n 0, 1) := by decide +kernel
theorem dX4_newChannel_1 : decode cX4_newChannel 1 = .ok (.getfield 31, 3) := by decide +kernel
theorem dX4_newChannel_4 : decode cX4_newChannel 4 = .ok (.aload_n 0, 1) := by decide +kernel
theorem dX4_newChannel_5 : decode cX4_newChannel 5 = .ok (.getfield 64, 3) := by decide +kernel
theorem dX4_newChannel_8 : decode cX4_newChannel 8 = .ok (.iload_n 1, 1) := by decide +kernel
theorem dX4_newChannel_9 : decode cX4_newChannel 9 = .ok (.iastore, 1) := by decide +kernel
theorem dX4_newChannel_10 : decode cX4_newChannel 10 = .ok (.aload_n 0, 1) := by decide +kernel
theorem dX4_newChannel_11 : decode cX4_newChannel 11 = .ok (.dup, 1) := by decide +kernel
theorem dX4_newChannel_12 : decode cX4_newChannel 12 = .ok (.getfield 64, 3) := by decide +kernel
theorem dX4_newChannel_15 : decode cX4_newChannel 15 = .ok (.iconst 1, 1) := by decide +kernel
theorem dX4_newChannel_16 : decode cX4_newChannel 16 = .ok (.iadd, 1) := by decide +kernel
theorem dX4_newChannel_17 : decode cX4_newChannel 17 = .ok (.putfield 64, 3) := by decide +kernel
theorem dX4_newChannel_20 : decode cX4_newChannel 20 = .ok (.aload_n 0, 1) := by decide +kernel
theorem dX4_newChannel_21 : decode cX4_newChannel 21 = .ok (.getfield 64, 3) := by decide +kernel
theorem dX4_newChannel_24 : decode cX4_newChannel 24 = .ok (.iconst 1, 1) := by decide +kernel
theorem dX4_newChannel_25 : decode cX4_newChannel 25 = .ok (.isub, 1) := by decide +kernel
theorem dX4_newChannel_26 : decode cX4_newChannel 26 = .ok (.ireturn, 1) := by decide +kernel
theorem dX4_newInvariant_0 : decode cX4_newInvariant 0 = .ok (.aload_n 0, 1) := by decide +kernel
theorem dX4_newInvariant_1 : decode cX4_newInvariant 1 = .ok (.getfield 40, 3) := by decide +kernel
theorem dX4_newInvariant_4 : decode cX4_newInvariant 4 = .ok (.aload_n 0, 1) := by decide +kernel
theorem dX4_newInvariant_5 : decode cX4_newInvariant 5 = .ok (.getfield 71, 3) := by decide +kernel
theorem dX4_newInvariant_8 : decode cX4_newInvariant 8 = .ok (.iload_n 1, 1) := by decide +kernel
theorem dX4_newInvariant_9 : decode cX4_newInvariant 9 = .ok (.iastore, 1) := by decide +kernel
theorem dX4_newInvariant_10 : decode cX4_newInvariant 10 = .ok (.aload_n 0, 1) := by decide +kernel
theorem dX4_newInvariant_11 : decode cX4_newInvariant 11 = .ok (.getfield 43, 3) := by decide +kernel
theorem dX4_newInvariant_14 : decode cX4_newInvariant 14 = .ok (.aload_n 0, 1) := by decide +kernel
theorem dX4_newInvariant_15 : decode cX4_newInvariant 15 = .ok (.getfield 71, 3) := by decide +kernel
theorem dX4_newInvariant_18 : decode cX4_newInvariant 18 = .ok (.iload_n 2, 1) := by decide +kernel
theorem dX4_newInvariant_19 : decode cX4_newInvariant 19 = .ok (.iastore, 1) := by decide +kernel
theorem dX4_newInvariant_20 : decode cX4_newInvariant 20 = .ok (.aload_n 0, 1) := by decide +kernel
theorem dX4_newInvariant_21 : decode cX4_newInvariant 21 = .ok (.dup, 1) := by decide +kernel
theorem dX4_newInvariant_22 : decode cX4_newInvariant 22 = .ok (.getfield 71, 3) := by decide +kernel
theorem dX4_newInvariant_25 : decode cX4_newInvariant 25 = .ok (.iconst 1, 1) := by decide +kernel
theorem dX4_newInvariant_26 : decode cX4_newInvariant 26 = .ok (.iadd, 1) := by decide +kernel
theorem dX4_newInvariant_27 : decode cX4_newInvariant 27 = .ok (.putfield 71, 3) := by decide +kernel
theorem dX4_newInvariant_30 : decode cX4_newInvariant 30 = .ok (.aload_n 0, 1) := by decide +kernel
theorem dX4_newInvariant_31 : decode cX4_newInvariant 31 = .ok (.getfield 71, 3) := by decide +kernel
theorem dX4_newInvariant_34 : decode cX4_newInvariant 34 = .ok (.ireturn, 1) := by decide +kernel
theorem dX4_putMarks_0 : decode cX4_putMarks 0 = .ok (.iload_n 1, 1) := by decide +kernel
theorem dX4_putMarks_1 : decode cX4_putMarks 1 = .ok (.bipush 12, 2) := by decide +kernel
theorem dX4_putMarks_3 : decode cX4_putMarks 3 = .ok (.imul, 1) := by decide +kernel
theorem dX4_putMarks_4 : decode cX4_putMarks 4 = .ok (.iload_n 2, 1) := by decide +kernel
theorem dX4_putMarks_5 : decode cX4_putMarks 5 = .ok (.iadd, 1) := by decide +kernel
theorem dX4_putMarks_6 : decode cX4_putMarks 6 = .ok (.istore 4, 2) := by decide +kernel
theorem dX4_putMarks_8 : decode cX4_putMarks 8 = .ok (.aload_n 0, 1) := by decide +kernel
theorem dX4_putMarks_9 : decode cX4_putMarks 9 = .ok (.getfield 37, 3) := by decide +kernel
theorem dX4_putMarks_12 : decode cX4_putMarks 12 = .ok (.iload 4, 2) := by decide +kernel
theorem dX4_putMarks_14 : decode cX4_putMarks 14 = .ok (.iaload, 1) := by decide +kernel
theorem dX4_putMarks_15 : decode cX4_putMarks 15 = .ok (.iload_n 3, 1) := by decide +kernel
theorem dX4_putMarks_16 : decode cX4_putMarks 16 = .ok (.if_icmp .eq 7, 3) := by decide +kernel
theorem dX4_putMarks_19 : decode cX4_putMarks 19 = .ok (.iconst 1, 1) := by decide +kernel
theorem dX4_putMarks_20 : decode cX4_putMarks 20 = .ok (.goto 4, 3) := by decide +kernel
theorem dX4_putMarks_23 : decode cX4_putMarks 23 = .ok (.iconst 0, 1) := by decide +kernel
theorem dX4_putMarks_24 : decode cX4_putMarks 24 = .ok (.istore 5, 2) := by decide +kernel
theorem dX4_putMarks_26 : decode cX4_putMarks 26 = .ok (.aload_n 0, 1) := by decide +kernel
theorem dX4_putMarks_27 : decode cX4_putMarks 27 = .ok (.getfield 37, 3) := by decide +kernel
theorem dX4_putMarks_30 : decode cX4_putMarks 30 = .ok (.iload 4, 2) := by decide +kernel
theorem dX4_putMarks_32 : decode cX4_putMarks 32 = .ok (.iload_n 3, 1) := by decide +kernel
theorem dX4_putMarks_33 : decode cX4_putMarks 33 = .ok (.iastore, 1) := by decide +kernel
theorem dX4_putMarks_34 : decode cX4_putMarks 34 = .ok (.iload 5, 2) := by decide +kernel
theorem dX4_putMarks_36 : decode cX4_putMarks 36 = .ok (.ireturn, 1) := by decide +kernel
theorem dX4_isMarked_0 : decode cX4_isMarked 0 = .ok (.aload_n 0, 1) := by decide +kernel
theorem dX4_isMarked_1 : decode cX4_isMarked 1 = .ok (.getfield 37, 3) := by decide +kernel
theorem dX4_isMarked_4 : decode cX4_isMarked 4 = .ok (.iload_n 1, 1) := by decide +kernel
theorem dX4_isMarked_5 : decode cX4_isMarked 5 = .ok (.bipush 12, 2) := by decide +kernel
theorem dX4_isMarked_7 : decode cX4_isMarked 7 = .ok (.imul, 1) := by decide +kernel
theorem dX4_isMarked_8 : decode cX4_isMarked 8 = .ok (.iload_n 2, 1) := by decide +kernel
theorem dX4_isMarked_9 : decode cX4_isMarked 9 = .ok (.iadd, 1) := by decide +kernel
theorem dX4_isMarked_10 : decode cX4_isMarked 10 = .ok (.iaload, 1) := by decide +kernel
theorem dX4_isMarked_11 : decode cX4_isMarked 11 = .ok (.iload_n 3, 1) := by decide +kernel
theorem dX4_isMarked_12 : decode cX4_isMarked 12 = .ok (.iand, 1) := by decide +kernel
theorem dX4_isMarked_13 : decode cX4_isMarked 13 = .ok (.ifCond .eq 7, 3) := by decide +kernel
theorem dX4_isMarked_16 : decode cX4_isMarked 16 = .ok (.iconst 1, 1) := by decide +kernel
theorem dX4_isMarked_17 : decode cX4_isMarked 17 = .ok (.goto 4, 3) := by decide +kernel
theorem dX4_isMarked_20 : decode cX4_isMarked 20 = .ok (.iconst 0, 1) := by decide +kernel
theorem dX4_isMarked_21 : decode cX4_isMarked 21 = .ok (.ireturn, 1) := by decide +kernel
theorem dX4_hasAlike_0 : decode cX4_hasAlike 0 = .ok (.aload_n 0, 1) := by decide +kernel
theorem dX4_hasAlike_1 : decode cX4_hasAlike 1 = .ok (.getfield 9, 3) := by decide +kernel
theorem dX4_hasAlike_4 : decode cX4_hasAlike 4 = .ok (.iload_n 1, 1) := by decide +kernel
theorem dX4_hasAlike_5 : decode cX4_hasAlike 5 = .ok (.iaload, 1) := by decide +kernel
theorem dX4_hasAlike_6 : decode cX4_hasAlike 6 = .ok (.aload_n 0, 1) := by decide +kernel
theorem dX4_hasAlike_7 : decode cX4_hasAlike 7 = .ok (.getfield 9, 3) := by decide +kernel
theorem dX4_hasAlike_10 : decode cX4_hasAlike 10 = .ok (.iload_n 2, 1) := by decide +kernel
theorem dX4_hasAlike_11 : decode cX4_hasAlike 11 = .ok (.iaload, 1) := by decide +kernel
theorem dX4_hasAlike_12 : decode cX4_hasAlike 12 = .ok (.if_icmp .eq 5, 3) := by decide +kernel
theorem dX4_hasAlike_15 : decode cX4_hasAlike 15 = .ok (.iconst 0, 1) := by decide +kernel
theorem dX4_hasAlike_16 : decode cX4_hasAlike 16 = .ok (.ireturn, 1) := by decide +kernel
theorem dX4_hasAlike_17 : decode cX4_hasAlike 17 = .ok (.iconst 0, 1) := by decide +kernel
theorem dX4_hasAlike_18 : decode cX4_hasAlike 18 = .ok (.istore_n 3, 1) := by decide +kernel
theorem dX4_hasAlike_19 : decode cX4_hasAlike 19 = .ok (.iload_n 3, 1) := by decide +kernel
theorem dX4_hasAlike_20 : decode cX4_hasAlike 20 = .ok (.aload_n 0, 1) := by decide +kernel
theorem dX4_hasAlike_21 : decode cX4_hasAlike 21 = .ok (.getfield 9, 3) := by decide +kernel
theorem dX4_hasAlike_24 : decode cX4_hasAlike 24 = .ok (.iload_n 1, 1) := by decide +kernel
theorem dX4_hasAlike_25 : decode cX4_hasAlike 25 = .ok (.iaload, 1) := by decide +kernel
theorem dX4_hasAlike_26 : decode cX4_hasAlike 26 = .ok (.if_icmp .ge 21, 3) := by decide +kernel
theorem dX4_hasAlike_29 : decode cX4_hasAlike 29 = .ok (.aload_n 0, 1) := by decide +kernel
theorem dX4_hasAlike_30 : decode cX4_hasAlike 30 = .ok (.iload_n 1, 1) := by decide +kernel
theorem dX4_hasAlike_31 : decode cX4_hasAlike 31 = .ok (.iload_n 2, 1) := by decide +kernel
theorem dX4_hasAlike_32 : decode cX4_hasAlike 32 = .ok (.iload_n 3, 1) := by decide +kernel
theorem dX4_hasAlike_33 : decode cX4_hasAlike 33 = .ok (.invokevirtual 74, 3) := by decide +kernel
theorem dX4_hasAlike_36 : decode cX4_hasAlike 36 = .ok (.ifCond .ne 5, 3) := by decide +kernel
theorem dX4_hasAlike_39 : decode cX4_hasAlike 39 = .ok (.iconst 0, 1) := by decide +kernel
theorem dX4_hasAlike_40 : decode cX4_hasAlike 40 = .ok (.ireturn, 1) := by decide +kernel
theorem dX4_hasAlike_41 : decode cX4_hasAlike 41 = .ok (.iinc 3 1, 3) := by decide +kernel
theorem dX4_hasAlike_44 : decode cX4_hasAlike 44 = .ok (.goto (-25), 3) := by decide +kernel
theorem dX4_hasAlike_47 : decode cX4_hasAlike 47 = .ok (.iconst 0, 1) := by decide +kernel
theorem dX4_hasAlike_48 : decode cX4_hasAlike 48 = .ok (.istore_n 3, 1) := by decide +kernel
theorem dX4_hasAlike_49 : decode cX4_hasAlike 49 = .ok (.iload_n 3, 1) := by decide +kernel
theorem dX4_hasAlike_50 : decode cX4_hasAlike 50 = .ok (.bipush 12, 2) := by decide +kernel
theorem dX4_hasAlike_52 : decode cX4_hasAlike 52 = .ok (.if_icmp .ge 36, 3) := by decide +kernel
theorem dX4_hasAlike_55 : decode cX4_hasAlike 55 = .ok (.aload_n 0, 1) := by decide +kernel
theorem dX4_hasAlike_56 : decode cX4_hasAlike 56 = .ok (.getfield 37, 3) := by decide +kernel
theorem dX4_hasAlike_59 : decode cX4_hasAlike 59 = .ok (.iload_n 1, 1) := by decide +kernel
theorem dX4_hasAlike_60 : decode cX4_hasAlike 60 = .ok (.bipush 12, 2) := by decide +kernel
theorem dX4_hasAlike_62 : decode cX4_hasAlike 62 = .ok (.imul, 1) := by decide +kernel
theorem dX4_hasAlike_63 : decode cX4_hasAlike 63 = .ok (.iload_n 3, 1) := by decide +kernel
theorem dX4_hasAlike_64 : decode cX4_hasAlike 64 = .ok (.iadd, 1) := by decide +kernel
theorem dX4_hasAlike_65 : decode cX4_hasAlike 65 = .ok (.iaload, 1) := by decide +kernel
theorem dX4_hasAlike_66 : decode cX4_hasAlike 66 = .ok (.aload_n 0, 1) := by decide +kernel
theorem dX4_hasAlike_67 : decode cX4_hasAlike 67 = .ok (.getfield 37, 3) := by decide +kernel
theorem dX4_hasAlike_70 : decode cX4_hasAlike 70 = .ok (.iload_n 2, 1) := by decide +kernel
theorem dX4_hasAlike_71 : decode cX4_hasAlike 71 = .ok (.bipush 12, 2) := by decide +kernel
theorem dX4_hasAlike_73 : decode cX4_hasAlike 73 = .ok (.imul, 1) := by decide +kernel
theorem dX4_hasAlike_74 : decode cX4_hasAlike 74 = .ok (.iload_n 3, 1) := by decide +kernel
theorem dX4_hasAlike_75 : decode cX4_hasAlike 75 = .ok (.iadd, 1) := by decide +kernel
theorem dX4_hasAlike_76 : decode cX4_hasAlike 76 = .ok (.iaload, 1) := by decide +kernel
theorem dX4_hasAlike_77 : decode cX4_hasAlike 77 = .ok (.if_icmp .eq 5, 3) := by decide +kernel
theorem dX4_hasAlike_80 : decode cX4_hasAlike 80 = .ok (.iconst 0, 1) := by decide +kernel
theorem dX4_hasAlike_81 : decode cX4_hasAlike 81 = .ok (.ireturn, 1) := by decide +kernel
theorem dX4_hasAlike_82 : decode cX4_hasAlike 82 = .ok (.iinc 3 1, 3) := by decide +kernel
theorem dX4_hasAlike_85 : decode cX4_hasAlike 85 = .ok (.goto (-36), 3) := by decide +kernel
theorem dX4_hasAlike_88 : decode cX4_hasAlike 88 = .ok (.iconst 0, 1) := by decide +kernel
theorem dX4_hasAlike_89 : decode cX4_hasAlike 89 = .ok (.istore_n 3, 1) := by decide +kernel
theorem dX4_hasAlike_90 : decode cX4_hasAlike 90 = .ok (.iload_n 3, 1) := by decide +kernel
theorem dX4_hasAlike_91 : decode cX4_hasAlike 91 = .ok (.iconst 2, 1) := by decide +kernel
theorem dX4_hasAlike_92 : decode cX4_hasAlike 92 = .ok (.if_icmp .ge 38, 3) := by decide +kernel
theorem dX4_hasAlike_95 : decode cX4_hasAlike 95 = .ok (.aload_n 0, 1) := by decide +kernel
theorem dX4_hasAlike_96 : decode cX4_hasAlike 96 = .ok (.getfield 34, 3) := by decide +kernel
theorem dX4_hasAlike_99 : decode cX4_hasAlike 99 = .ok (.getstatic 46, 3) := by decide +kernel
theorem dX4_hasAlike_102 : decode cX4_hasAlike 102 = .ok (.iload_n 1, 1) := by decide +kernel
theorem dX4_hasAlike_103 : decode cX4_hasAlike 103 = .ok (.iaload, 1) := by decide +kernel
theorem dX4_hasAlike_104 : decode cX4_hasAlike 104 = .ok (.iload_n 3, 1) := by decide +kernel
theorem dX4_hasAlike_105 : decode cX4_hasAlike 105 = .ok (.iadd, 1) := by decide +kernel
theorem dX4_hasAlike_106 : decode cX4_hasAlike 106 = .ok (.iaload, 1) := by decide +kernel
theorem dX4_hasAlike_107 : decode cX4_hasAlike 107 = .ok (.aload_n 0, 1) := by decide +kernel
theorem dX4_hasAlike_108 : decode cX4_hasAlike 108 = .ok (.getfield 34, 3) := by decide +kernel
theorem dX4_hasAlike_111 : decode cX4_hasAlike 111 = .ok (.getstatic 46, 3) := by decide +kernel
theorem dX4_hasAlike_114 : decode cX4_hasAlike 114 = .ok (.iload_n 2, 1) := by decide +kernel
theorem dX4_hasAlike_115 : decode cX4_hasAlike 115 = .ok (.iaload, 1) := by decide +kernel
theorem dX4_hasAlike_116 : decode cX4_hasAlike 116 = .ok (.iload_n 3, 1) := by decide +kernel
theorem dX4_hasAlike_117 : decode cX4_hasAlike 117 = .ok (.iadd, 1) := by decide +kernel
theorem dX4_hasAlike_118 : decode cX4_hasAlike 118 = .ok (.iaload, 1) := by decide +kernel
theorem dX4_hasAlike_119 : decode cX4_hasAlike 119 = .ok (.if_icmp .eq 5, 3) := by decide +kernel
theorem dX4_hasAlike_122 : decode cX4_hasAlike 122 = .ok (.iconst 0, 1) := by decide +kernel
theorem dX4_hasAlike_123 : decode cX4_hasAlike 123 = .ok (.ireturn, 1) := by decide +kernel
theorem dX4_hasAlike_124 : decode cX4_hasAlike 124 = .ok (.iinc 3 1, 3) := by decide +kernel
theorem dX4_hasAlike_127 : decode cX4_hasAlike 127 = .ok (.goto (-37), 3) := by decide +kernel
theorem dX4_hasAlike_130 : decode cX4_hasAlike 130 = .ok (.iconst 1, 1) := by decide +kernel
theorem dX4_hasAlike_131 : decode cX4_hasAlike 131 = .ok (.ireturn, 1) := by decide +kernel
theorem dX4_isSameStep_0 : decode cX4_isSameStep 0 = .ok (.iload_n 1, 1) := by decide +kernel
theorem dX4_isSameStep_1 : decode cX4_isSameStep 1 = .ok (.iload_n 3, 1) := by decide +kernel
theorem dX4_isSameStep_2 : decode cX4_isSameStep 2 = .ok (.invokestatic 67, 3) := by decide +kernel
theorem dX4_isSameStep_5 : decode cX4_isSameStep 5 = .ok (.istore 4, 2) := by decide +kernel
theorem dX4_isSameStep_7 : decode cX4_isSameStep 7 = .ok (.iload_n 2, 1) := by decide +kernel
theorem dX4_isSameStep_8 : decode cX4_isSameStep 8 = .ok (.iload_n 3, 1) := by decide +kernel
theorem dX4_isSameStep_9 : decode cX4_isSameStep 9 = .ok (.invokestatic 67, 3) := by decide +kernel
theorem dX4_isSameStep_12 : decode cX4_isSameStep 12 = .ok (.istore 5, 2) := by decide +kernel
theorem dX4_isSameStep_14 : decode cX4_isSameStep 14 = .ok (.aload_n 0, 1) := by decide +kernel
theorem dX4_isSameStep_15 : decode cX4_isSameStep 15 = .ok (.getfield 15, 3) := by decide +kernel
theorem dX4_isSameStep_18 : decode cX4_isSameStep 18 = .ok (.iload 4, 2) := by decide +kernel
theorem dX4_isSameStep_20 : decode cX4_isSameStep 20 = .ok (.iaload, 1) := by decide +kernel
theorem dX4_isSameStep_21 : decode cX4_isSameStep 21 = .ok (.aload_n 0, 1) := by decide +kernel
theorem dX4_isSameStep_22 : decode cX4_isSameStep 22 = .ok (.getfield 15, 3) := by decide +kernel
theorem dX4_isSameStep_25 : decode cX4_isSameStep 25 = .ok (.iload 5, 2) := by decide +kernel
theorem dX4_isSameStep_27 : decode cX4_isSameStep 27 = .ok (.iaload, 1) := by decide +kernel
theorem dX4_isSameStep_28 : decode cX4_isSameStep 28 = .ok (.if_icmp .ne 37, 3) := by decide +kernel
theorem dX4_isSameStep_31 : decode cX4_isSameStep 31 = .ok (.aload_n 0, 1) := by decide +kernel
theorem dX4_isSameStep_32 : decode cX4_isSameStep 32 = .ok (.getfield 18, 3) := by decide +kernel
theorem dX4_isSameStep_35 : decode cX4_isSameStep 35 = .ok (.iload 4, 2) := by decide +kernel
theorem dX4_isSameStep_37 : decode cX4_isSameStep 37 = .ok (.iaload, 1) := by decide +kernel
theorem dX4_isSameStep_38 : decode cX4_isSameStep 38 = .ok (.aload_n 0, 1) := by decide +kernel
theorem dX4_isSameStep_39 : decode cX4_isSameStep 39 = .ok (.getfield 18, 3) := by decide +kernel
theorem dX4_isSameStep_42 : decode cX4_isSameStep 42 = .ok (.iload 5, 2) := by decide +kernel
theorem dX4_isSameStep_44 : decode cX4_isSameStep 44 = .ok (.iaload, 1) := by decide +kernel
theorem dX4_isSameStep_45 : decode cX4_isSameStep 45 = .ok (.if_icmp .ne 20, 3) := by decide +kernel
theorem dX4_isSameStep_48 : decode cX4_isSameStep 48 = .ok (.aload_n 0, 1) := by decide +kernel
theorem dX4_isSameStep_49 : decode cX4_isSameStep 49 = .ok (.getfield 21, 3) := by decide +kernel
theorem dX4_isSameStep_52 : decode cX4_isSameStep 52 = .ok (.iload 4, 2) := by decide +kernel
theorem dX4_isSameStep_54 : decode cX4_isSameStep 54 = .ok (.caload, 1) := by decide +kernel
theorem dX4_isSameStep_55 : decode cX4_isSameStep 55 = .ok (.aload_n 0, 1) := by decide +kernel
theorem dX4_isSameStep_56 : decode cX4_isSameStep 56 = .ok (.getfield 21, 3) := by decide +kernel
theorem dX4_isSameStep_59 : decode cX4_isSameStep 59 = .ok (.iload 5, 2) := by decide +kernel
theorem dX4_isSameStep_61 : decode cX4_isSameStep 61 = .ok (.caload, 1) := by decide +kernel
theorem dX4_isSameStep_62 : decode cX4_isSameStep 62 = .ok (.if_icmp .eq 5, 3) := by decide +kernel
theorem dX4_isSameStep_65 : decode cX4_isSameStep 65 = .ok (.iconst 0, 1) := by decide +kernel
theorem dX4_isSameStep_66 : decode cX4_isSameStep 66 = .ok (.ireturn, 1) := by decide +kernel
theorem dX4_isSameStep_67 : decode cX4_isSameStep 67 = .ok (.aload_n 0, 1) := by decide +kernel
theorem dX4_isSameStep_68 : decode cX4_isSameStep 68 = .ok (.iload 4, 2) := by decide +kernel
theorem dX4_isSameStep_70 : decode cX4_isSameStep 70 = .ok (.invokevirtual 78, 3) := by decide +kernel
theorem dX4_isSameStep_73 : decode cX4_isSameStep 73 = .ok (.ifCond .eq 48, 3) := by decide +kernel
theorem dX4_isSameStep_76 : decode cX4_isSameStep 76 = .ok (.aload_n 0, 1) := by decide +kernel
theorem dX4_isSameStep_77 : decode cX4_isSameStep 77 = .ok (.getfield 25, 3) := by decide +kernel
theorem dX4_isSameStep_80 : decode cX4_isSameStep 80 = .ok (.iload 4, 2) := by decide +kernel
theorem dX4_isSameStep_82 : decode cX4_isSameStep 82 = .ok (.iaload, 1) := by decide +kernel
theorem dX4_isSameStep_83 : decode cX4_isSameStep 83 = .ok (.aload_n 0, 1) := by decide +kernel
theorem dX4_isSameStep_84 : decode cX4_isSameStep 84 = .ok (.getfield 25, 3) := by decide +kernel
theorem dX4_isSameStep_87 : decode cX4_isSameStep 87 = .ok (.iload 5, 2) := by decide +kernel
theorem dX4_isSameStep_89 : decode cX4_isSameStep 89 = .ok (.iaload, 1) := by decide +kernel
theorem dX4_isSameStep_90 : decode cX4_isSameStep 90 = .ok (.if_icmp .ne 29, 3) := by decide +kernel
theorem dX4_isSameStep_93 : decode cX4_isSameStep 93 = .ok (.iload_n 1, 1) := by decide +kernel
theorem dX4_isSameStep_94 : decode cX4_isSameStep 94 = .ok (.iload_n 2, 1) := by decide +kernel
theorem dX4_isSameStep_95 : decode cX4_isSameStep 95 = .ok (.aload_n 0, 1) := by decide +kernel
theorem dX4_isSameStep_96 : decode cX4_isSameStep 96 = .ok (.getfield 28, 3) := by decide +kernel
theorem dX4_isSameStep_99 : decode cX4_isSameStep 99 = .ok (.iload 4, 2) := by decide +kernel
theorem dX4_isSameStep_101 : decode cX4_isSameStep 101 = .ok (.iaload, 1) := by decide +kernel
theorem dX4_isSameStep_102 : decode cX4_isSameStep 102 = .ok (.invokestatic 81, 3) := by decide +kernel
theorem dX4_isSameStep_105 : decode cX4_isSameStep 105 = .ok (.aload_n 0, 1) := by decide +kernel
theorem dX4_isSameStep_106 : decode cX4_isSameStep 106 = .ok (.getfield 28, 3) := by decide +kernel
theorem dX4_isSameStep_109 : decode cX4_isSameStep 109 = .ok (.iload 5, 2) := by decide +kernel
theorem dX4_isSameStep_111 : decode cX4_isSameStep 111 = .ok (.iaload, 1) := by decide +kernel
theorem dX4_isSameStep_112 : decode cX4_isSameStep 112 = .ok (.if_icmp .ne 7, 3) := by decide +kernel
theorem dX4_isSameStep_115 : decode cX4_isSameStep 115 = .ok (.iconst 1, 1) := by decide +kernel
theorem dX4_isSameStep_116 : decode cX4_isSameStep 116 = .ok (.goto 4, 3) := by decide +kernel
theorem dX4_isSameStep_119 : decode cX4_isSameStep 119 = .ok (.iconst 0, 1) := by decide +kernel
theorem dX4_isSameStep_120 : decode cX4_isSameStep 120 = .ok (.ireturn, 1) := by decide +kernel
theorem dX4_isSameStep_121 : decode cX4_isSameStep 121 = .ok (.iload_n 1, 1) := by decide +kernel
theorem dX4_isSameStep_122 : decode cX4_isSameStep 122 = .ok (.iload_n 2, 1) := by decide +kernel
theorem dX4_isSameStep_123 : decode cX4_isSameStep 123 = .ok (.aload_n 0, 1) := by decide +kernel
theorem dX4_isSameStep_124 : decode cX4_isSameStep 124 = .ok (.getfield 25, 3) := by decide +kernel
theorem dX4_isSameStep_127 : decode cX4_isSameStep 127 = .ok (.iload 4, 2) := by decide +kernel
theorem dX4_isSameStep_129 : decode cX4_isSameStep 129 = .ok (.iaload, 1) := by decide +kernel
theorem dX4_isSameStep_130 : decode cX4_isSameStep 130 = .ok (.invokestatic 81, 3) := by decide +kernel
theorem dX4_isSameStep_133 : decode cX4_isSameStep 133 = .ok (.aload_n 0, 1) := by decide +kernel
theorem dX4_isSameStep_134 : decode cX4_isSameStep 134 = .ok (.getfield 25, 3) := by decide +kernel
theorem dX4_isSameStep_137 : decode cX4_isSameStep 137 = .ok (.iload 5, 2) := by decide +kernel
theorem dX4_isSameStep_139 : decode cX4_isSameStep 139 = .ok (.iaload, 1) := by decide +kernel
theorem dX4_isSameStep_140 : decode cX4_isSameStep 140 = .ok (.if_icmp .ne 24, 3) := by decide +kernel
theorem dX4_isSameStep_143 : decode cX4_isSameStep 143 = .ok (.aload_n 0, 1) := by decide +kernel
theorem dX4_isSameStep_144 : decode cX4_isSameStep 144 = .ok (.getfield 28, 3) := by decide +kernel
theorem dX4_isSameStep_147 : decode cX4_isSameStep 147 = .ok (.iload 4, 2) := by decide +kernel
theorem dX4_isSameStep_149 : decode cX4_isSameStep 149 = .ok (.iaload, 1) := by decide +kernel
theorem dX4_isSameStep_150 : decode cX4_isSameStep 150 = .ok (.aload_n 0, 1) := by decide +kernel
theorem dX4_isSameStep_151 : decode cX4_isSameStep 151 = .ok (.getfield 28, 3) := by decide +kernel
theorem dX4_isSameStep_154 : decode cX4_isSameStep 154 = .ok (.iload 5, 2) := by decide +kernel
theorem dX4_isSameStep_156 : decode cX4_isSameStep 156 = .ok (.iaload, 1) := by decide +kernel
theorem dX4_isSameStep_157 : decode cX4_isSameStep 157 = .ok (.if_icmp .ne 7, 3) := by decide +kernel
theorem dX4_isSameStep_160 : decode cX4_isSameStep 160 = .ok (.iconst 1, 1) := by decide +kernel
theorem dX4_isSameStep_161 : decode cX4_isSameStep 161 = .ok (.goto 4, 3) := by decide +kernel
theorem dX4_isSameStep_164 : decode cX4_isSameStep 164 = .ok (.iconst 0, 1) := by decide +kernel
theorem dX4_isSameStep_165 : decode cX4_isSameStep 165 = .ok (.ireturn, 1) := by decide +kernel
theorem dX4_takenFor_0 : decode cX4_takenFor 0 = .ok (.iload_n 0, 1) := by decide +kernel
theorem dX4_takenFor_1 : decode cX4_takenFor 1 = .ok (.iload_n 2, 1) := by decide +kernel
theorem dX4_takenFor_2 : decode cX4_takenFor 2 = .ok (.invokestatic 49, 3) := by decide +kernel
theorem dX4_takenFor_5 : decode cX4_takenFor 5 = .ok (.ifCond .eq 13, 3) := by decide +kernel
theorem dX4_takenFor_8 : decode cX4_takenFor 8 = .ok (.iload_n 2, 1) := by decide +kernel
theorem dX4_takenFor_9 : decode cX4_takenFor 9 = .ok (.iconst 2, 1) := by decide +kernel
theorem dX4_takenFor_10 : decode cX4_takenFor 10 = .ok (.iload_n 1, 1) := by decide +kernel
theorem dX4_takenFor_11 : decode cX4_takenFor 11 = .ok (.iload_n 0, 1) := by decide +kernel
theorem dX4_takenFor_12 : decode cX4_takenFor 12 = .ok (.isub, 1) := by decide +kernel
theorem dX4_takenFor_13 : decode cX4_takenFor 13 = .ok (.imul, 1) := by decide +kernel
theorem dX4_takenFor_14 : decode cX4_takenFor 14 = .ok (.iadd, 1) := by decide +kernel
theorem dX4_takenFor_15 : decode cX4_takenFor 15 = .ok (.goto 4, 3) := by decide +kernel
theorem dX4_takenFor_18 : decode cX4_takenFor 18 = .ok (.iload_n 2, 1) := by decide +kernel
theorem dX4_takenFor_19 : decode cX4_takenFor 19 = .ok (.ireturn, 1) := by decide +kernel
theorem dX4_hasInvariantOfAlike_0 : decode cX4_hasInvariantOfAlike 0 = .ok (.iconst 0, 1) := by decide +kernel
theorem dX4_hasInvariantOfAlike_1 : decode cX4_hasInvariantOfAlike 1 = .ok (.istore_n 1, 1) := by decide +kernel
theorem dX4_hasInvariantOfAlike_2 : decode cX4_hasInvariantOfAlike 2 = .ok (.iload_n 1, 1) := by decide +kernel
theorem dX4_hasInvariantOfAlike_3 : decode cX4_hasInvariantOfAlike 3 = .ok (.aload_n 0, 1) := by decide +kernel
theorem dX4_hasInvariantOfAlike_4 : decode cX4_hasInvariantOfAlike 4 = .ok (.getfield 53, 3) := by decide +kernel
theorem dX4_hasInvariantOfAlike_7 : decode cX4_hasInvariantOfAlike 7 = .ok (.if_icmp .ge 49, 3) := by decide +kernel
theorem dX4_hasInvariantOfAlike_10 : decode cX4_hasInvariantOfAlike 10 = .ok (.iconst 0, 1) := by decide +kernel
theorem dX4_hasInvariantOfAlike_11 : decode cX4_hasInvariantOfAlike 11 = .ok (.istore_n 2, 1) := by decide +kernel
theorem dX4_hasInvariantOfAlike_12 : decode cX4_hasInvariantOfAlike 12 = .ok (.iload_n 2, 1) := by decide +kernel
theorem dX4_hasInvariantOfAlike_13 : decode cX4_hasInvariantOfAlike 13 = .ok (.aload_n 0, 1) := by decide +kernel
theorem dX4_hasInvariantOfAlike_14 : decode cX4_hasInvariantOfAlike 14 = .ok (.getfield 53, 3) := by decide +kernel
theorem dX4_hasInvariantOfAlike_17 : decode cX4_hasInvariantOfAlike 17 = .ok (.if_icmp .ge 33, 3) := by decide +kernel
theorem dX4_hasInvariantOfAlike_20 : decode cX4_hasInvariantOfAlike 20 = .ok (.iload_n 2, 1) := by decide +kernel
theorem dX4_hasInvariantOfAlike_21 : decode cX4_hasInvariantOfAlike 21 = .ok (.iload_n 1, 1) := by decide +kernel
theorem dX4_hasInvariantOfAlike_22 : decode cX4_hasInvariantOfAlike 22 = .ok (.if_icmp .eq 22, 3) := by decide +kernel
theorem dX4_hasInvariantOfAlike_25 : decode cX4_hasInvariantOfAlike 25 = .ok (.aload_n 0, 1) := by decide +kernel
theorem dX4_hasInvariantOfAlike_26 : decode cX4_hasInvariantOfAlike 26 = .ok (.iload_n 1, 1) := by decide +kernel
theorem dX4_hasInvariantOfAlike_27 : decode cX4_hasInvariantOfAlike 27 = .ok (.invokevirtual 85, 3) := by decide +kernel
theorem dX4_hasInvariantOfAlike_30 : decode cX4_hasInvariantOfAlike 30 = .ok (.ifCond .eq 14, 3) := by decide +kernel
theorem dX4_hasInvariantOfAlike_33 : decode cX4_hasInvariantOfAlike 33 = .ok (.aload_n 0, 1) := by decide +kernel
theorem dX4_hasInvariantOfAlike_34 : decode cX4_hasInvariantOfAlike 34 = .ok (.iload_n 1, 1) := by decide +kernel
theorem dX4_hasInvariantOfAlike_35 : decode cX4_hasInvariantOfAlike 35 = .ok (.iload_n 2, 1) := by decide +kernel
theorem dX4_hasInvariantOfAlike_36 : decode cX4_hasInvariantOfAlike 36 = .ok (.invokevirtual 88, 3) := by decide +kernel
theorem dX4_hasInvariantOfAlike_39 : decode cX4_hasInvariantOfAlike 39 = .ok (.ifCond .eq 5, 3) := by decide +kernel
theorem dX4_hasInvariantOfAlike_42 : decode cX4_hasInvariantOfAlike 42 = .ok (.iconst 1, 1) := by decide +kernel
theorem dX4_hasInvariantOfAlike_43 : decode cX4_hasInvariantOfAlike 43 = .ok (.ireturn, 1) := by decide +kernel
theorem dX4_hasInvariantOfAlike_44 : decode cX4_hasInvariantOfAlike 44 = .ok (.iinc 2 1, 3) := by decide +kernel
theorem dX4_hasInvariantOfAlike_47 : decode cX4_hasInvariantOfAlike 47 = .ok (.goto (-35), 3) := by decide +kernel
theorem dX4_hasInvariantOfAlike_50 : decode cX4_hasInvariantOfAlike 50 = .ok (.iinc 1 1, 3) := by decide +kernel
theorem dX4_hasInvariantOfAlike_53 : decode cX4_hasInvariantOfAlike 53 = .ok (.goto (-51), 3) := by decide +kernel
theorem dX4_hasInvariantOfAlike_56 : decode cX4_hasInvariantOfAlike 56 = .ok (.iconst 0, 1) := by decide +kernel
theorem dX4_hasInvariantOfAlike_57 : decode cX4_hasInvariantOfAlike 57 = .ok (.ireturn, 1) := by decide +kernel
theorem dX4_isWatched_0 : decode cX4_isWatched 0 = .ok (.iconst 0, 1) := by decide +kernel
theorem dX4_isWatched_1 : decode cX4_isWatched 1 = .ok (.istore_n 2, 1) := by decide +kernel
theorem dX4_isWatched_2 : decode cX4_isWatched 2 = .ok (.iload_n 2, 1) := by decide +kernel
theorem dX4_isWatched_3 : decode cX4_isWatched 3 = .ok (.aload_n 0, 1) := by decide +kernel
theorem dX4_isWatched_4 : decode cX4_isWatched 4 = .ok (.getfield 71, 3) := by decide +kernel
theorem dX4_isWatched_7 : decode cX4_isWatched 7 = .ok (.if_icmp .ge 24, 3) := by decide +kernel
theorem dX4_isWatched_10 : decode cX4_isWatched 10 = .ok (.iload_n 1, 1) := by decide +kernel
theorem dX4_isWatched_11 : decode cX4_isWatched 11 = .ok (.aload_n 0, 1) := by decide +kernel
theorem dX4_isWatched_12 : decode cX4_isWatched 12 = .ok (.getfield 40, 3) := by decide +kernel
theorem dX4_isWatched_15 : decode cX4_isWatched 15 = .ok (.iload_n 2, 1) := by decide +kernel
theorem dX4_isWatched_16 : decode cX4_isWatched 16 = .ok (.iaload, 1) := by decide +kernel
theorem dX4_isWatched_17 : decode cX4_isWatched 17 = .ok (.invokestatic 49, 3) := by decide +kernel
theorem dX4_isWatched_20 : decode cX4_isWatched 20 = .ok (.ifCond .eq 5, 3) := by decide +kernel
theorem dX4_isWatched_23 : decode cX4_isWatched 23 = .ok (.iconst 1, 1) := by decide +kernel
theorem dX4_isWatched_24 : decode cX4_isWatched 24 = .ok (.ireturn, 1) := by decide +kernel
theorem dX4_isWatched_25 : decode cX4_isWatched 25 = .ok (.iinc 2 1, 3) := by decide +kernel
theorem dX4_isWatched_28 : decode cX4_isWatched 28 = .ok (.goto (-26), 3) := by decide +kernel
theorem dX4_isWatched_31 : decode cX4_isWatched 31 = .ok (.iconst 0, 1) := by decide +kernel
theorem dX4_isWatched_32 : decode cX4_isWatched 32 = .ok (.ireturn, 1) := by decide +kernel
theorem dX4_isChannelStep_0 : decode cX4_isChannelStep 0 = .ok (.aload_n 0, 1) := by decide +kernel
theorem dX4_isChannelStep_1 : decode cX4_isChannelStep 1 = .ok (.getfield 21, 3) := by decide +kernel
theorem dX4_isChannelStep_4 : decode cX4_isChannelStep 4 = .ok (.iload_n 1, 1) := by decide +kernel
theorem dX4_isChannelStep_5 : decode cX4_isChannelStep 5 = .ok (.caload, 1) := by decide +kernel
theorem dX4_isChannelStep_6 : decode cX4_isChannelStep 6 = .ok (.bipush 119, 2) := by decide +kernel
theorem dX4_isChannelStep_8 : decode cX4_isChannelStep 8 = .ok (.if_icmp .eq 14, 3) := by decide +kernel
theorem dX4_isChannelStep_11 : decode cX4_isChannelStep 11 = .ok (.aload_n 0, 1) := by decide +kernel
theorem dX4_isChannelStep_12 : decode cX4_isChannelStep 12 = .ok (.getfield 21, 3) := by decide +kernel
theorem dX4_isChannelStep_15 : decode cX4_isChannelStep 15 = .ok (.iload_n 1, 1) := by decide +kernel
theorem dX4_isChannelStep_16 : decode cX4_isChannelStep 16 = .ok (.caload, 1) := by decide +kernel
theorem dX4_isChannelStep_17 : decode cX4_isChannelStep 17 = .ok (.bipush 114, 2) := by decide +kernel
theorem dX4_isChannelStep_19 : decode cX4_isChannelStep 19 = .ok (.if_icmp .ne 7, 3) := by decide +kernel
theorem dX4_isChannelStep_22 : decode cX4_isChannelStep 22 = .ok (.iconst 1, 1) := by decide +kernel
theorem dX4_isChannelStep_23 : decode cX4_isChannelStep 23 = .ok (.goto 4, 3) := by decide +kernel
theorem dX4_isChannelStep_26 : decode cX4_isChannelStep 26 = .ok (.iconst 0, 1) := by decide +kernel
theorem dX4_isChannelStep_27 : decode cX4_isChannelStep 27 = .ok (.ireturn, 1) := by decide +kernel
theorem dX4_isHandover_0 : decode cX4_isHandover 0 = .ok (.aload_n 0, 1) := by decide +kernel
theorem dX4_isHandover_1 : decode cX4_isHandover 1 = .ok (.getfield 21, 3) := by decide +kernel
theorem dX4_isHandover_4 : decode cX4_isHandover 4 = .ok (.iload_n 1, 1) := by decide +kernel
theorem dX4_isHandover_5 : decode cX4_isHandover 5 = .ok (.caload, 1) := by decide +kernel
theorem dX4_isHandover_6 : decode cX4_isHandover 6 = .ok (.bipush 119, 2) := by decide +kernel
theorem dX4_isHandover_8 : decode cX4_isHandover 8 = .ok (.if_icmp .ne 21, 3) := by decide +kernel
theorem dX4_isHandover_11 : decode cX4_isHandover 11 = .ok (.aload_n 0, 1) := by decide +kernel
theorem dX4_isHandover_12 : decode cX4_isHandover 12 = .ok (.getfield 31, 3) := by decide +kernel
theorem dX4_isHandover_15 : decode cX4_isHandover 15 = .ok (.aload_n 0, 1) := by decide +kernel
theorem dX4_isHandover_16 : decode cX4_isHandover 16 = .ok (.getfield 25, 3) := by decide +kernel
theorem dX4_isHandover_19 : decode cX4_isHandover 19 = .ok (.iload_n 1, 1) := by decide +kernel
theorem dX4_isHandover_20 : decode cX4_isHandover 20 = .ok (.iaload, 1) := by decide +kernel
theorem dX4_isHandover_21 : decode cX4_isHandover 21 = .ok (.iaload, 1) := by decide +kernel
theorem dX4_isHandover_22 : decode cX4_isHandover 22 = .ok (.ifCond .ne 7, 3) := by decide +kernel
theorem dX4_isHandover_25 : decode cX4_isHandover 25 = .ok (.iconst 1, 1) := by decide +kernel
theorem dX4_isHandover_26 : decode cX4_isHandover 26 = .ok (.goto 4, 3) := by decide +kernel
theorem dX4_isHandover_29 : decode cX4_isHandover 29 = .ok (.iconst 0, 1) := by decide +kernel
theorem dX4_isHandover_30 : decode cX4_isHandover 30 = .ok (.ireturn, 1) := by decide +kernel
theorem dX4_takes_0 : decode cX4_takes 0 = .ok (.aload_n 0, 1) := by decide +kernel
theorem dX4_takes_1 : decode cX4_takes 1 = .ok (.getfield 21, 3) := by decide +kernel
theorem dX4_takes_4 : decode cX4_takes 4 = .ok (.iload_n 2, 1) := by decide +kernel
theorem dX4_takes_5 : decode cX4_takes 5 = .ok (.caload, 1) := by decide +kernel
theorem dX4_takes_6 : decode cX4_takes 6 = .ok (.bipush 114, 2) := by decide +kernel
theorem dX4_takes_8 : decode cX4_takes 8 = .ok (.if_icmp .ne 22, 3) := by decide +kernel
theorem dX4_takes_11 : decode cX4_takes 11 = .ok (.aload_n 0, 1) := by decide +kernel
theorem dX4_takes_12 : decode cX4_takes 12 = .ok (.getfield 25, 3) := by decide +kernel
theorem dX4_takes_15 : decode cX4_takes 15 = .ok (.iload_n 2, 1) := by decide +kernel
theorem dX4_takes_16 : decode cX4_takes 16 = .ok (.iaload, 1) := by decide +kernel
theorem dX4_takes_17 : decode cX4_takes 17 = .ok (.aload_n 0, 1) := by decide +kernel
theorem dX4_takes_18 : decode cX4_takes 18 = .ok (.getfield 25, 3) := by decide +kernel
theorem dX4_takes_21 : decode cX4_takes 21 = .ok (.iload_n 1, 1) := by decide +kernel
theorem dX4_takes_22 : decode cX4_takes 22 = .ok (.iaload, 1) := by decide +kernel
theorem dX4_takes_23 : decode cX4_takes 23 = .ok (.if_icmp .ne 7, 3) := by decide +kernel
theorem dX4_takes_26 : decode cX4_takes 26 = .ok (.iconst 1, 1) := by decide +kernel
theorem dX4_takes_27 : decode cX4_takes 27 = .ok (.goto 4, 3) := by decide +kernel
theorem dX4_takes_30 : decode cX4_takes 30 = .ok (.iconst 0, 1) := by decide +kernel
theorem dX4_takes_31 : decode cX4_takes 31 = .ok (.ireturn, 1) := by decide +kernel
theorem dX4_isPrivate_0 : decode cX4_isPrivate 0 = .ok (.aload_n 0, 1) := by decide +kernel
theorem dX4_isPrivate_1 : decode cX4_isPrivate 1 = .ok (.iload_n 1, 1) := by decide +kernel
theorem dX4_isPrivate_2 : decode cX4_isPrivate 2 = .ok (.invokevirtual 85, 3) := by decide +kernel
theorem dX4_isPrivate_5 : decode cX4_isPrivate 5 = .ok (.ifCond .eq 5, 3) := by decide +kernel
theorem dX4_isPrivate_8 : decode cX4_isPrivate 8 = .ok (.iconst 0, 1) := by decide +kernel
theorem dX4_isPrivate_9 : decode cX4_isPrivate 9 = .ok (.ireturn, 1) := by decide +kernel
theorem dX4_isPrivate_10 : decode cX4_isPrivate 10 = .ok (.iconst 0, 1) := by decide +kernel
theorem dX4_isPrivate_11 : decode cX4_isPrivate 11 = .ok (.istore_n 3, 1) := by decide +kernel
theorem dX4_isPrivate_12 : decode cX4_isPrivate 12 = .ok (.iload_n 3, 1) := by decide +kernel
theorem dX4_isPrivate_13 : decode cX4_isPrivate 13 = .ok (.aload_n 0, 1) := by decide +kernel
theorem dX4_isPrivate_14 : decode cX4_isPrivate 14 = .ok (.getfield 9, 3) := by decide +kernel
theorem dX4_isPrivate_17 : decode cX4_isPrivate 17 = .ok (.iload_n 1, 1) := by decide +kernel
theorem dX4_isPrivate_18 : decode cX4_isPrivate 18 = .ok (.iaload, 1) := by decide +kernel
theorem dX4_isPrivate_19 : decode cX4_isPrivate 19 = .ok (.if_icmp .ge 39, 3) := by decide +kernel
theorem dX4_isPrivate_22 : decode cX4_isPrivate 22 = .ok (.iload_n 1, 1) := by decide +kernel
theorem dX4_isPrivate_23 : decode cX4_isPrivate 23 = .ok (.iload_n 3, 1) := by decide +kernel
theorem dX4_isPrivate_24 : decode cX4_isPrivate 24 = .ok (.invokestatic 67, 3) := by decide +kernel
theorem dX4_isPrivate_27 : decode cX4_isPrivate 27 = .ok (.istore 4, 2) := by decide +kernel
theorem dX4_isPrivate_29 : decode cX4_isPrivate 29 = .ok (.aload_n 0, 1) := by decide +kernel
theorem dX4_isPrivate_30 : decode cX4_isPrivate 30 = .ok (.getfield 15, 3) := by decide +kernel
theorem dX4_isPrivate_33 : decode cX4_isPrivate 33 = .ok (.iload 4, 2) := by decide +kernel
theorem dX4_isPrivate_35 : decode cX4_isPrivate 35 = .ok (.iaload, 1) := by decide +kernel
theorem dX4_isPrivate_36 : decode cX4_isPrivate 36 = .ok (.iload_n 2, 1) := by decide +kernel
theorem dX4_isPrivate_37 : decode cX4_isPrivate 37 = .ok (.if_icmp .ne 15, 3) := by decide +kernel
theorem dX4_isPrivate_40 : decode cX4_isPrivate 40 = .ok (.aload_n 0, 1) := by decide +kernel
theorem dX4_isPrivate_41 : decode cX4_isPrivate 41 = .ok (.iload_n 1, 1) := by decide +kernel
theorem dX4_isPrivate_42 : decode cX4_isPrivate 42 = .ok (.iload 4, 2) := by decide +kernel
theorem dX4_isPrivate_44 : decode cX4_isPrivate 44 = .ok (.invokevirtual 91, 3) := by decide +kernel
theorem dX4_isPrivate_47 : decode cX4_isPrivate 47 = .ok (.ifCond .ne 5, 3) := by decide +kernel
theorem dX4_isPrivate_50 : decode cX4_isPrivate 50 = .ok (.iconst 0, 1) := by decide +kernel
theorem dX4_isPrivate_51 : decode cX4_isPrivate 51 = .ok (.ireturn, 1) := by decide +kernel
theorem dX4_isPrivate_52 : decode cX4_isPrivate 52 = .ok (.iinc 3 1, 3) := by decide +kernel
theorem dX4_isPrivate_55 : decode cX4_isPrivate 55 = .ok (.goto (-43), 3) := by decide +kernel
theorem dX4_isPrivate_58 : decode cX4_isPrivate 58 = .ok (.iconst 1, 1) := by decide +kernel
theorem dX4_isPrivate_59 : decode cX4_isPrivate 59 = .ok (.ireturn, 1) := by decide +kernel
theorem dX4_isPrivateStep_0 : decode cX4_isPrivateStep 0 = .ok (.aload_n 0, 1) := by decide +kernel
theorem dX4_isPrivateStep_1 : decode cX4_isPrivateStep 1 = .ok (.getfield 21, 3) := by decide +kernel
theorem dX4_isPrivateStep_4 : decode cX4_isPrivateStep 4 = .ok (.iload_n 2, 1) := by decide +kernel
theorem dX4_isPrivateStep_5 : decode cX4_isPrivateStep 5 = .ok (.caload, 1) := by decide +kernel
theorem dX4_isPrivateStep_6 : decode cX4_isPrivateStep 6 = .ok (.bipush 107, 2) := by decide +kernel
theorem dX4_isPrivateStep_8 : decode cX4_isPrivateStep 8 = .ok (.if_icmp .ne 5, 3) := by decide +kernel
theorem dX4_isPrivateStep_11 : decode cX4_isPrivateStep 11 = .ok (.iconst 1, 1) := by decide +kernel
theorem dX4_isPrivateStep_12 : decode cX4_isPrivateStep 12 = .ok (.ireturn, 1) := by decide +kernel
theorem dX4_isPrivateStep_13 : decode cX4_isPrivateStep 13 = .ok (.aload_n 0, 1) := by decide +kernel
theorem dX4_isPrivateStep_14 : decode cX4_isPrivateStep 14 = .ok (.getfield 21, 3) := by decide +kernel
theorem dX4_isPrivateStep_17 : decode cX4_isPrivateStep 17 = .ok (.iload_n 2, 1) := by decide +kernel
theorem dX4_isPrivateStep_18 : decode cX4_isPrivateStep 18 = .ok (.caload, 1) := by decide +kernel
theorem dX4_isPrivateStep_19 : decode cX4_isPrivateStep 19 = .ok (.bipush 97, 2) := by decide +kernel
theorem dX4_isPrivateStep_21 : decode cX4_isPrivateStep 21 = .ok (.if_icmp .eq 28, 3) := by decide +kernel
theorem dX4_isPrivateStep_24 : decode cX4_isPrivateStep 24 = .ok (.aload_n 0, 1) := by decide +kernel
theorem dX4_isPrivateStep_25 : decode cX4_isPrivateStep 25 = .ok (.iload_n 2, 1) := by decide +kernel
theorem dX4_isPrivateStep_26 : decode cX4_isPrivateStep 26 = .ok (.invokevirtual 78, 3) := by decide +kernel
theorem dX4_isPrivateStep_29 : decode cX4_isPrivateStep 29 = .ok (.ifCond .ne 20, 3) := by decide +kernel
theorem dX4_isPrivateStep_32 : decode cX4_isPrivateStep 32 = .ok (.iload_n 1, 1) := by decide +kernel
theorem dX4_isPrivateStep_33 : decode cX4_isPrivateStep 33 = .ok (.aload_n 0, 1) := by decide +kernel
theorem dX4_isPrivateStep_34 : decode cX4_isPrivateStep 34 = .ok (.getfield 25, 3) := by decide +kernel
theorem dX4_isPrivateStep_37 : decode cX4_isPrivateStep 37 = .ok (.iload_n 2, 1) := by decide +kernel
theorem dX4_isPrivateStep_38 : decode cX4_isPrivateStep 38 = .ok (.iaload, 1) := by decide +kernel
theorem dX4_isPrivateStep_39 : decode cX4_isPrivateStep 39 = .ok (.invokestatic 49, 3) := by decide +kernel
theorem dX4_isPrivateStep_42 : decode cX4_isPrivateStep 42 = .ok (.ifCond .eq 7, 3) := by decide +kernel
theorem dX4_isPrivateStep_45 : decode cX4_isPrivateStep 45 = .ok (.iconst 1, 1) := by decide +kernel
theorem dX4_isPrivateStep_46 : decode cX4_isPrivateStep 46 = .ok (.goto 4, 3) := by decide +kernel
theorem dX4_isPrivateStep_49 : decode cX4_isPrivateStep 49 = .ok (.iconst 0, 1) := by decide +kernel
theorem dX4_isPrivateStep_50 : decode cX4_isPrivateStep 50 = .ok (.ireturn, 1) := by decide +kernel
theorem dX4_breaksInvariant_0 : decode cX4_breaksInvariant 0 = .ok (.iconst 0, 1) := by decide +kernel
theorem dX4_breaksInvariant_1 : decode cX4_breaksInvariant 1 = .ok (.istore_n 2, 1) := by decide +kernel
theorem dX4_breaksInvariant_2 : decode cX4_breaksInvariant 2 = .ok (.iload_n 2, 1) := by decide +kernel
theorem dX4_breaksInvariant_3 : decode cX4_breaksInvariant 3 = .ok (.aload_n 0, 1) := by decide +kernel
theorem dX4_breaksInvariant_4 : decode cX4_breaksInvariant 4 = .ok (.getfield 71, 3) := by decide +kernel
theorem dX4_breaksInvariant_7 : decode cX4_breaksInvariant 7 = .ok (.if_icmp .ge 31, 3) := by decide +kernel
theorem dX4_breaksInvariant_10 : decode cX4_breaksInvariant 10 = .ok (.aload_n 1, 1) := by decide +kernel
theorem dX4_breaksInvariant_11 : decode cX4_breaksInvariant 11 = .ok (.getfield 94, 3) := by decide +kernel
theorem dX4_breaksInvariant_14 : decode cX4_breaksInvariant 14 = .ok (.aload_n 0, 1) := by decide +kernel
theorem dX4_breaksInvariant_15 : decode cX4_breaksInvariant 15 = .ok (.getfield 40, 3) := by decide +kernel
theorem dX4_breaksInvariant_18 : decode cX4_breaksInvariant 18 = .ok (.iload_n 2, 1) := by decide +kernel
theorem dX4_breaksInvariant_19 : decode cX4_breaksInvariant 19 = .ok (.iaload, 1) := by decide +kernel
theorem dX4_breaksInvariant_20 : decode cX4_breaksInvariant 20 = .ok (.iaload, 1) := by decide +kernel
theorem dX4_breaksInvariant_21 : decode cX4_breaksInvariant 21 = .ok (.aload_n 0, 1) := by decide +kernel
theorem dX4_breaksInvariant_22 : decode cX4_breaksInvariant 22 = .ok (.getfield 43, 3) := by decide +kernel
theorem dX4_breaksInvariant_25 : decode cX4_breaksInvariant 25 = .ok (.iload_n 2, 1) := by decide +kernel
theorem dX4_breaksInvariant_26 : decode cX4_breaksInvariant 26 = .ok (.iaload, 1) := by decide +kernel
theorem dX4_breaksInvariant_27 : decode cX4_breaksInvariant 27 = .ok (.if_icmp .ne 5, 3) := by decide +kernel
theorem dX4_breaksInvariant_30 : decode cX4_breaksInvariant 30 = .ok (.iconst 1, 1) := by decide +kernel
theorem dX4_breaksInvariant_31 : decode cX4_breaksInvariant 31 = .ok (.ireturn, 1) := by decide +kernel
theorem dX4_breaksInvariant_32 : decode cX4_breaksInvariant 32 = .ok (.iinc 2 1, 3) := by decide +kernel
theorem dX4_breaksInvariant_35 : decode cX4_breaksInvariant 35 = .ok (.goto (-33), 3) := by decide +kernel
theorem dX4_breaksInvariant_38 : decode cX4_breaksInvariant 38 = .ok (.iconst 0, 1) := by decide +kernel
theorem dX4_breaksInvariant_39 : decode cX4_breaksInvariant 39 = .ok (.ireturn, 1) := by decide +kernel
theorem dX4_hasProcessAtNoEnd_0 : decode cX4_hasProcessAtNoEnd 0 = .ok (.iconst 0, 1) := by decide +kernel
theorem dX4_hasProcessAtNoEnd_1 : decode cX4_hasProcessAtNoEnd 1 = .ok (.istore_n 2, 1) := by decide +kernel
theorem dX4_hasProcessAtNoEnd_2 : decode cX4_hasProcessAtNoEnd 2 = .ok (.iload_n 2, 1) := by decide +kernel
theorem dX4_hasProcessAtNoEnd_3 : decode cX4_hasProcessAtNoEnd 3 = .ok (.aload_n 0, 1) := by decide +kernel
theorem dX4_hasProcessAtNoEnd_4 : decode cX4_hasProcessAtNoEnd 4 = .ok (.getfield 53, 3) := by decide +kernel
theorem dX4_hasProcessAtNoEnd_7 : decode cX4_hasProcessAtNoEnd 7 = .ok (.if_icmp .ge 26, 3) := by decide +kernel
theorem dX4_hasProcessAtNoEnd_10 : decode cX4_hasProcessAtNoEnd 10 = .ok (.aload_n 0, 1) := by decide +kernel
theorem dX4_hasProcessAtNoEnd_11 : decode cX4_hasProcessAtNoEnd 11 = .ok (.iload_n 2, 1) := by decide +kernel
theorem dX4_hasProcessAtNoEnd_12 : decode cX4_hasProcessAtNoEnd 12 = .ok (.aload_n 1, 1) := by decide +kernel
theorem dX4_hasProcessAtNoEnd_13 : decode cX4_hasProcessAtNoEnd 13 = .ok (.getfield 99, 3) := by decide +kernel
theorem dX4_hasProcessAtNoEnd_16 : decode cX4_hasProcessAtNoEnd 16 = .ok (.iload_n 2, 1) := by decide +kernel
theorem dX4_hasProcessAtNoEnd_17 : decode cX4_hasProcessAtNoEnd 17 = .ok (.iaload, 1) := by decide +kernel
theorem dX4_hasProcessAtNoEnd_18 : decode cX4_hasProcessAtNoEnd 18 = .ok (.iconst 1, 1) := by decide +kernel
theorem dX4_hasProcessAtNoEnd_19 : decode cX4_hasProcessAtNoEnd 19 = .ok (.invokevirtual 102, 3) := by decide +kernel
theorem dX4_hasProcessAtNoEnd_22 : decode cX4_hasProcessAtNoEnd 22 = .ok (.ifCond .ne 5, 3) := by decide +kernel
theorem dX4_hasProcessAtNoEnd_25 : decode cX4_hasProcessAtNoEnd 25 = .ok (.iconst 1, 1) := by decide +kernel
theorem dX4_hasProcessAtNoEnd_26 : decode cX4_hasProcessAtNoEnd 26 = .ok (.ireturn, 1) := by decide +kernel
theorem dX4_hasProcessAtNoEnd_27 : decode cX4_hasProcessAtNoEnd 27 = .ok (.iinc 2 1, 3) := by decide +kernel
theorem dX4_hasProcessAtNoEnd_30 : decode cX4_hasProcessAtNoEnd 30 = .ok (.goto (-28), 3) := by decide +kernel
theorem dX4_hasProcessAtNoEnd_33 : decode cX4_hasProcessAtNoEnd 33 = .ok (.iconst 0, 1) := by decide +kernel
theorem dX4_hasProcessAtNoEnd_34 : decode cX4_hasProcessAtNoEnd 34 = .ok (.ireturn, 1) := by decide +kernel
theorem dX5_init_0 : decode cX5_init 0 = .ok (.aload_n 0, 1) := by decide +kernel
theorem dX5_init_1 : decode cX5_init 1 = .ok (.invokespecial 3, 3) := by decide +kernel
theorem dX5_init_4 : decode cX5_init 4 = .ok (.aload_n 0, 1) := by decide +kernel
theorem dX5_init_5 : decode cX5_init 5 = .ok (.sipush 2000, 3) := by decide +kernel
theorem dX5_init_8 : decode cX5_init 8 = .ok (.newarray .int, 2) := by decide +kernel
theorem dX5_init_10 : decode cX5_init 10 = .ok (.putfield 9, 3) := by decide +kernel
theorem dX5_init_13 : decode cX5_init 13 = .ok (.aload_n 0, 1) := by decide +kernel
theorem dX5_init_14 : decode cX5_init 14 = .ok (.sipush 2000, 3) := by decide +kernel
theorem dX5_init_17 : decode cX5_init 17 = .ok (.newarray .int, 2) := by decide +kernel
theorem dX5_init_19 : decode cX5_init 19 = .ok (.putfield 15, 3) := by decide +kernel
theorem dX5_init_22 : decode cX5_init 22 = .ok (.aload_n 0, 1) := by decide +kernel
theorem dX5_init_23 : decode cX5_init 23 = .ok (.aload_n 1, 1) := by decide +kernel
theorem dX5_init_24 : decode cX5_init 24 = .ok (.putfield 18, 3) := by decide +kernel
theorem dX5_init_27 : decode cX5_init 27 = .ok (.aload_n 0, 1) := by decide +kernel
theorem dX5_init_28 : decode cX5_init 28 = .ok (.aload_n 2, 1) := by decide +kernel
theorem dX5_init_29 : decode cX5_init 29 = .ok (.putfield 22, 3) := by decide +kernel
theorem dX5_init_32 : decode cX5_init 32 = .ok (.aload_n 0, 1) := by decide +kernel
theorem dX5_init_33 : decode cX5_init 33 = .ok (.new 26, 3) := by decide +kernel
theorem dX5_init_36 : decode cX5_init 36 = .ok (.dup, 1) := by decide +kernel
theorem dX5_init_37 : decode cX5_init 37 = .ok (.aload_n 2, 1) := by decide +kernel
theorem dX5_init_38 : decode cX5_init 38 = .ok (.invokespecial 28, 3) := by decide +kernel
theorem dX5_init_41 : decode cX5_init 41 = .ok (.putfield 31, 3) := by decide +kernel
theorem dX5_init_44 : decode cX5_init 44 = .ok (.return_, 1) := by decide +kernel
theorem dX5_countComponents_0 : decode cX5_countComponents 0 = .ok (.aload_n 0, 1) := by decide +kernel
theorem dX5_countComponents_1 : decode cX5_countComponents 1 = .ok (.getfield 9, 3) := by decide +kernel
theorem dX5_countComponents_4 : decode cX5_countComponents 4 = .ok (.iconst 1, 1) := by decide +kernel
theorem dX5_countComponents_5 : decode cX5_countComponents 5 = .ok (.invokestatic 35, 3) := by decide +kernel
theorem dX5_countComponents_8 : decode cX5_countComponents 8 = .ok (.aload_n 0, 1) := by decide +kernel
theorem dX5_countComponents_9 : decode cX5_countComponents 9 = .ok (.getfield 31, 3) := by decide +kernel
theorem dX5_countComponents_12 : decode cX5_countComponents 12 = .ok (.aload_n 0, 1) := by decide +kernel
theorem dX5_countComponents_13 : decode cX5_countComponents 13 = .ok (.getfield 9, 3) := by decide +kernel
theorem dX5_countComponents_16 : decode cX5_countComponents 16 = .ok (.invokevirtual 41, 3) := by decide +kernel
theorem dX5_countComponents_19 : decode cX5_countComponents 19 = .ok (.aload_n 0, 1) := by decide +kernel
theorem dX5_countComponents_20 : decode cX5_countComponents 20 = .ok (.getfield 31, 3) := by decide +kernel
theorem dX5_countComponents_23 : decode cX5_countComponents 23 = .ok (.getfield 45, 3) := by decide +kernel
theorem dX5_countComponents_26 : decode cX5_countComponents 26 = .ok (.ireturn, 1) := by decide +kernel
theorem dX5_canLeaveForGood_0 : decode cX5_canLeaveForGood 0 = .ok (.aload_n 0, 1) := by decide +kernel
theorem dX5_canLeaveForGood_1 : decode cX5_canLeaveForGood 1 = .ok (.iload_n 1, 1) := by decide +kernel
theorem dX5_canLeaveForGood_2 : decode cX5_canLeaveForGood 2 = .ok (.iload_n 2, 1) := by decide +kernel
theorem dX5_canLeaveForGood_3 : decode cX5_canLeaveForGood 3 = .ok (.invokevirtual 49, 3) := by decide +kernel
theorem dX5_canLeaveForGood_6 : decode cX5_canLeaveForGood 6 = .ok (.aload_n 0, 1) := by decide +kernel
theorem dX5_canLeaveForGood_7 : decode cX5_canLeaveForGood 7 = .ok (.getfield 31, 3) := by decide +kernel
theorem dX5_canLeaveForGood_10 : decode cX5_canLeaveForGood 10 = .ok (.aload_n 0, 1) := by decide +kernel
theorem dX5_canLeaveForGood_11 : decode cX5_canLeaveForGood 11 = .ok (.getfield 9, 3) := by decide +kernel
theorem dX5_canLeaveForGood_14 : decode cX5_canLeaveForGood 14 = .ok (.invokevirtual 41, 3) := by decide +kernel
theorem dX5_canLeaveForGood_17 : decode cX5_canLeaveForGood 17 = .ok (.aload_n 0, 1) := by decide +kernel
theorem dX5_canLeaveForGood_18 : decode cX5_canLeaveForGood 18 = .ok (.getfield 31, 3) := by decide +kernel
theorem dX5_canLeaveForGood_21 : decode cX5_canLeaveForGood 21 = .ok (.iload_n 3, 1) := by decide +kernel
theorem dX5_canLeaveForGood_22 : decode cX5_canLeaveForGood 22 = .ok (.invokevirtual 53, 3) := by decide +kernel
theorem dX5_canLeaveForGood_25 : decode cX5_canLeaveForGood 25 = .ok (.ireturn, 1) := by decide +kernel
theorem dX5_markWithout_0 : decode cX5_markWithout 0 = .ok (.iconst 0, 1) := by decide +kernel
theorem dX5_markWithout_1 : decode cX5_markWithout 1 = .ok (.istore_n 3, 1) := by decide +kernel
theorem dX5_markWithout_2 : decode cX5_markWithout 2 = .ok (.iload_n 3, 1) := by decide +kernel
theorem dX5_markWithout_3 : decode cX5_markWithout 3 = .ok (.aload_n 0, 1) := by decide +kernel
theorem dX5_markWithout_4 : decode cX5_markWithout 4 = .ok (.getfield 22, 3) := by decide +kernel
theorem dX5_markWithout_7 : decode cX5_markWithout 7 = .ok (.getfield 57, 3) := by decide +kernel
theorem dX5_markWithout_10 : decode cX5_markWithout 10 = .ok (.if_icmp .ge 33, 3) := by decide +kernel
theorem dX5_markWithout_13 : decode cX5_markWithout 13 = .ok (.aload_n 0, 1) := by decide +kernel
theorem dX5_markWithout_14 : decode cX5_markWithout 14 = .ok (.getfield 9, 3) := by decide +kernel
theorem dX5_markWithout_17 : decode cX5_markWithout 17 = .ok (.iload_n 3, 1) := by decide +kernel
theorem dX5_markWithout_18 : decode cX5_markWithout 18 = .ok (.aload_n 0, 1) := by decide +kernel
theorem dX5_markWithout_19 : decode cX5_markWithout 19 = .ok (.getfield 18, 3) := by decide +kernel
theorem dX5_markWithout_22 : decode cX5_markWithout 22 = .ok (.iload_n 3, 1) := by decide +kernel
theorem dX5_markWithout_23 : decode cX5_markWithout 23 = .ok (.iload_n 1, 1) := by decide +kernel
theorem dX5_markWithout_24 : decode cX5_markWithout 24 = .ok (.invokevirtual 62, 3) := by decide +kernel
theorem dX5_markWithout_27 : decode cX5_markWithout 27 = .ok (.iload_n 2, 1) := by decide +kernel
theorem dX5_markWithout_28 : decode cX5_markWithout 28 = .ok (.if_icmp .ne 7, 3) := by decide +kernel
theorem dX5_markWithout_31 : decode cX5_markWithout 31 = .ok (.iconst 0, 1) := by decide +kernel
theorem dX5_markWithout_32 : decode cX5_markWithout 32 = .ok (.goto 4, 3) := by decide +kernel
theorem dX5_markWithout_35 : decode cX5_markWithout 35 = .ok (.iconst 1, 1) := by decide +kernel
theorem dX5_markWithout_36 : decode cX5_markWithout 36 = .ok (.iastore, 1) := by decide +kernel
theorem dX5_markWithout_37 : decode cX5_markWithout 37 = .ok (.iinc 3 1, 3) := by decide +kernel
theorem dX5_markWithout_40 : decode cX5_markWithout 40 = .ok (.goto (-38), 3) := by decide +kernel
theorem dX5_markWithout_43 : decode cX5_markWithout 43 = .ok (.return_, 1) := by decide +kernel
theorem dX5_isAllTaken_0 : decode cX5_isAllTaken 0 = .ok (.aload_n 0, 1) := by decide +kernel
theorem dX5_isAllTaken_1 : decode cX5_isAllTaken 1 = .ok (.iload_n 1, 1) := by decide +kernel
theorem dX5_isAllTaken_2 : decode cX5_isAllTaken 2 = .ok (.iload_n 2, 1) := by decide +kernel
theorem dX5_isAllTaken_3 : decode cX5_isAllTaken 3 = .ok (.invokevirtual 49, 3) := by decide +kernel
theorem dX5_isAllTaken_6 : decode cX5_isAllTaken 6 = .ok (.iconst 0, 1) := by decide +kernel
theorem dX5_isAllTaken_7 : decode cX5_isAllTaken 7 = .ok (.istore_n 3, 1) := by decide +kernel
theorem dX5_isAllTaken_8 : decode cX5_isAllTaken 8 = .ok (.iload_n 3, 1) := by decide +kernel
theorem dX5_isAllTaken_9 : decode cX5_isAllTaken 9 = .ok (.aload_n 0, 1) := by decide +kernel
theorem dX5_isAllTaken_10 : decode cX5_isAllTaken 10 = .ok (.getfield 22, 3) := by decide +kernel
theorem dX5_isAllTaken_13 : decode cX5_isAllTaken 13 = .ok (.getfield 57, 3) := by decide +kernel
theorem dX5_isAllTaken_16 : decode cX5_isAllTaken 16 = .ok (.if_icmp .gt 36, 3) := by decide +kernel
theorem dX5_isAllTaken_19 : decode cX5_isAllTaken 19 = .ok (.iload_n 3, 1) := by decide +kernel
theorem dX5_isAllTaken_20 : decode cX5_isAllTaken 20 = .ok (.iconst 2, 1) := by decide +kernel
theorem dX5_isAllTaken_21 : decode cX5_isAllTaken 21 = .ok (.irem, 1) := by decide +kernel
theorem dX5_isAllTaken_22 : decode cX5_isAllTaken 22 = .ok (.ifCond .ne 10, 3) := by decide +kernel
theorem dX5_isAllTaken_25 : decode cX5_isAllTaken 25 = .ok (.aload_n 0, 1) := by decide +kernel
theorem dX5_isAllTaken_26 : decode cX5_isAllTaken 26 = .ok (.invokevirtual 68, 3) := by decide +kernel
theorem dX5_isAllTaken_29 : decode cX5_isAllTaken 29 = .ok (.goto 7, 3) := by decide +kernel
theorem dX5_isAllTaken_32 : decode cX5_isAllTaken 32 = .ok (.aload_n 0, 1) := by decide +kernel
theorem dX5_isAllTaken_33 : decode cX5_isAllTaken 33 = .ok (.invokevirtual 72, 3) := by decide +kernel
theorem dX5_isAllTaken_36 : decode cX5_isAllTaken 36 = .ok (.istore 4, 2) := by decide +kernel
theorem dX5_isAllTaken_38 : decode cX5_isAllTaken 38 = .ok (.iload 4, 2) := by decide +kernel
theorem dX5_isAllTaken_40 : decode cX5_isAllTaken 40 = .ok (.ifCond .ne 6, 3) := by decide +kernel
theorem dX5_isAllTaken_43 : decode cX5_isAllTaken 43 = .ok (.goto 9, 3) := by decide +kernel
theorem dX5_isAllTaken_46 : decode cX5_isAllTaken 46 = .ok (.iinc 3 1, 3) := by decide +kernel
theorem dX5_isAllTaken_49 : decode cX5_isAllTaken 49 = .ok (.goto (-41), 3) := by decide +kernel
theorem dX5_isAllTaken_52 : decode cX5_isAllTaken 52 = .ok (.iconst 0, 1) := by decide +kernel
theorem dX5_isAllTaken_53 : decode cX5_isAllTaken 53 = .ok (.istore_n 3, 1) := by decide +kernel
theorem dX5_isAllTaken_54 : decode cX5_isAllTaken 54 = .ok (.iload_n 3, 1) := by decide +kernel
theorem dX5_isAllTaken_55 : decode cX5_isAllTaken 55 = .ok (.aload_n 0, 1) := by decide +kernel
theorem dX5_isAllTaken_56 : decode cX5_isAllTaken 56 = .ok (.getfield 22, 3) := by decide +kernel
theorem dX5_isAllTaken_59 : decode cX5_isAllTaken 59 = .ok (.getfield 57, 3) := by decide +kernel
theorem dX5_isAllTaken_62 : decode cX5_isAllTaken 62 = .ok (.if_icmp .ge 21, 3) := by decide +kernel
theorem dX5_isAllTaken_65 : decode cX5_isAllTaken 65 = .ok (.aload_n 0, 1) := by decide +kernel
theorem dX5_isAllTaken_66 : decode cX5_isAllTaken 66 = .ok (.getfield 9, 3) := by decide +kernel
theorem dX5_isAllTaken_69 : decode cX5_isAllTaken 69 = .ok (.iload_n 3, 1) := by decide +kernel
theorem dX5_isAllTaken_70 : decode cX5_isAllTaken 70 = .ok (.iaload, 1) := by decide +kernel
theorem dX5_isAllTaken_71 : decode cX5_isAllTaken 71 = .ok (.iconst 1, 1) := by decide +kernel
theorem dX5_isAllTaken_72 : decode cX5_isAllTaken 72 = .ok (.if_icmp .ne 5, 3) := by decide +kernel
theorem dX5_isAllTaken_75 : decode cX5_isAllTaken 75 = .ok (.iconst 0, 1) := by decide +kernel
theorem dX5_isAllTaken_76 : decode cX5_isAllTaken 76 = .ok (.ireturn, 1) := by decide +kernel
theorem dX5_isAllTaken_77 : decode cX5_isAllTaken 77 = .ok (.iinc 3 1, 3) := by decide +kernel
theorem dX5_isAllTaken_80 : decode cX5_isAllTaken 80 = .ok (.goto (-26), 3) := by decide +kernel
theorem dX5_isAllTaken_83 : decode cX5_isAllTaken 83 = .ok (.iconst 1, 1) := by decide +kernel
theorem dX5_isAllTaken_84 : decode cX5_isAllTaken 84 = .ok (.ireturn, 1) := by decide +kernel
theorem dX5_takeDownwards_0 : decode cX5_takeDownwards 0 = .ok (.iconst 0, 1) := by decide +kernel
theorem dX5_takeDownwards_1 : decode cX5_takeDownwards 1 = .ok (.istore_n 1, 1) := by decide +kernel
theorem dX5_takeDownwards_2 : decode cX5_takeDownwards 2 = .ok (.aload_n 0, 1) := by decide +kernel
theorem dX5_takeDownwards_3 : decode cX5_takeDownwards 3 = .ok (.getfield 22, 3) := by decide +kernel
theorem dX5_takeDownwards_6 : decode cX5_takeDownwards 6 = .ok (.getfield 57, 3) := by decide +kernel
theorem dX5_takeDownwards_9 : decode cX5_takeDownwards 9 = .ok (.iconst 1, 1) := by decide +kernel
theorem dX5_takeDownwards_10 : decode cX5_takeDownwards 10 = .ok (.isub, 1) := by decide +kernel
theorem dX5_takeDownwards_11 : decode cX5_takeDownwards 11 = .ok (.istore_n 2, 1) := by decide +kernel
theorem dX5_takeDownwards_12 : decode cX5_takeDownwards 12 = .ok (.iload_n 2, 1) := by decide +kernel
theorem dX5_takeDownwards_13 : decode cX5_takeDownwards 13 = .ok (.ifCond .lt 17, 3) := by decide +kernel
theorem dX5_takeDownwards_16 : decode cX5_takeDownwards 16 = .ok (.iload_n 1, 1) := by decide +kernel
theorem dX5_takeDownwards_17 : decode cX5_takeDownwards 17 = .ok (.aload_n 0, 1) := by decide +kernel
theorem dX5_takeDownwards_18 : decode cX5_takeDownwards 18 = .ok (.iload_n 2, 1) := by decide +kernel
theorem dX5_takeDownwards_19 : decode cX5_takeDownwards 19 = .ok (.invokevirtual 75, 3) := by decide +kernel
theorem dX5_takeDownwards_22 : decode cX5_takeDownwards 22 = .ok (.iadd, 1) := by decide +kernel
theorem dX5_takeDownwards_23 : decode cX5_takeDownwards 23 = .ok (.istore_n 1, 1) := by decide +kernel
theorem dX5_takeDownwards_24 : decode cX5_takeDownwards 24 = .ok (.iinc 2 (-1), 3) := by decide +kernel
theorem dX5_takeDownwards_27 : decode cX5_takeDownwards 27 = .ok (.goto (-15), 3) := by decide +kernel
theorem dX5_takeDownwards_30 : decode cX5_takeDownwards 30 = .ok (.iload_n 1, 1) := by decide +kernel
theorem dX5_takeDownwards_31 : decode cX5_takeDownwards 31 = .ok (.ireturn, 1) := by decide +kernel
theorem dX5_takeUpwards_0 : decode cX5_takeUpwards 0 = .ok (.iconst 0, 1) := by decide +kernel
theorem dX5_takeUpwards_1 : decode cX5_takeUpwards 1 = .ok (.istore_n 1, 1) := by decide +kernel
theorem dX5_takeUpwards_2 : decode cX5_takeUpwards 2 = .ok (.iconst 0, 1) := by decide +kernel
theorem dX5_takeUpwards_3 : decode cX5_takeUpwards 3 = .ok (.istore_n 2, 1) := by decide +kernel
theorem dX5_takeUpwards_4 : decode cX5_takeUpwards 4 = .ok (.iload_n 2, 1) := by decide +kernel
theorem dX5_takeUpwards_5 : decode cX5_takeUpwards 5 = .ok (.aload_n 0, 1) := by decide +kernel
theorem dX5_takeUpwards_6 : decode cX5_takeUpwards 6 = .ok (.getfield 22, 3) := by decide +kernel
theorem dX5_takeUpwards_9 : decode cX5_takeUpwards 9 = .ok (.getfield 57, 3) := by decide +kernel
theorem dX5_takeUpwards_12 : decode cX5_takeUpwards 12 = .ok (.if_icmp .ge 17, 3) := by decide +kernel
theorem dX5_takeUpwards_15 : decode cX5_takeUpwards 15 = .ok (.iload_n 1, 1) := by decide +kernel
theorem dX5_takeUpwards_16 : decode cX5_takeUpwards 16 = .ok (.aload_n 0, 1) := by decide +kernel
theorem dX5_takeUpwards_17 : decode cX5_takeUpwards 17 = .ok (.iload_n 2, 1) := by decide +kernel
theorem dX5_takeUpwards_18 : decode cX5_takeUpwards 18 = .ok (.invokevirtual 75, 3) := by decide +kernel
theorem dX5_takeUpwards_21 : decode cX5_takeUpwards 21 = .ok (.iadd, 1) := by decide +kernel
theorem dX5_takeUpwards_22 : decode cX5_takeUpwards 22 = .ok (.istore_n 1, 1) := by decide +kernel
theorem dX5_takeUpwards_23 : decode cX5_takeUpwards 23 = .ok (.iinc 2 1, 3) := by decide +kernel
theorem dX5_takeUpwards_26 : decode cX5_takeUpwards 26 = .ok (.goto (-22), 3) := by decide +kernel
theorem dX5_takeUpwards_29 : decode cX5_takeUpwards 29 = .ok (.iload_n 1, 1) := by decide +kernel
theorem dX5_takeUpwards_30 : decode cX5_takeUpwards 30 = .ok (.ireturn, 1) := by decide +kernel
theorem dX5_takeIfStuck_0 : decode cX5_takeIfStuck 0 = .ok (.aload_n 0, 1) := by decide +kernel
theorem dX5_takeIfStuck_1 : decode cX5_takeIfStuck 1 = .ok (.getfield 9, 3) := by decide +kernel
theorem dX5_takeIfStuck_4 : decode cX5_takeIfStuck 4 = .ok (.iload_n 1, 1) := by decide +kernel
theorem dX5_takeIfStuck_5 : decode cX5_takeIfStuck 5 = .ok (.iaload, 1) := by decide +kernel
theorem dX5_takeIfStuck_6 : decode cX5_takeIfStuck 6 = .ok (.ifCond .eq 14, 3) := by decide +kernel
theorem dX5_takeIfStuck_9 : decode cX5_takeIfStuck 9 = .ok (.aload_n 0, 1) := by decide +kernel
theorem dX5_takeIfStuck_10 : decode cX5_takeIfStuck 10 = .ok (.getfield 22, 3) := by decide +kernel
theorem dX5_takeIfStuck_13 : decode cX5_takeIfStuck 13 = .ok (.iload_n 1, 1) := by decide +kernel
theorem dX5_takeIfStuck_14 : decode cX5_takeIfStuck 14 = .ok (.invokevirtual 79, 3) := by decide +kernel
theorem dX5_takeIfStuck_17 : decode cX5_takeIfStuck 17 = .ok (.ifCond .eq 5, 3) := by decide +kernel
theorem dX5_takeIfStuck_20 : decode cX5_takeIfStuck 20 = .ok (.iconst 0, 1) := by decide +kernel
theorem dX5_takeIfStuck_21 : decode cX5_takeIfStuck 21 = .ok (.ireturn, 1) := by decide +kernel
theorem dX5_takeIfStuck_22 : decode cX5_takeIfStuck 22 = .ok (.aload_n 0, 1) := by decide +kernel
theorem dX5_takeIfStuck_23 : decode cX5_takeIfStuck 23 = .ok (.getfield 22, 3) := by decide +kernel
theorem dX5_takeIfStuck_26 : decode cX5_takeIfStuck 26 = .ok (.getfield 83, 3) := by decide +kernel
theorem dX5_takeIfStuck_29 : decode cX5_takeIfStuck 29 = .ok (.iload_n 1, 1) := by decide +kernel
theorem dX5_takeIfStuck_30 : decode cX5_takeIfStuck 30 = .ok (.iaload, 1) := by decide +kernel
theorem dX5_takeIfStuck_31 : decode cX5_takeIfStuck 31 = .ok (.istore_n 2, 1) := by decide +kernel
theorem dX5_takeIfStuck_32 : decode cX5_takeIfStuck 32 = .ok (.iload_n 2, 1) := by decide +kernel
theorem dX5_takeIfStuck_33 : decode cX5_takeIfStuck 33 = .ok (.aload_n 0, 1) := by decide +kernel
theorem dX5_takeIfStuck_34 : decode cX5_takeIfStuck 34 = .ok (.getfield 22, 3) := by decide +kernel
theorem dX5_takeIfStuck_37 : decode cX5_takeIfStuck 37 = .ok (.getfield 83, 3) := by decide +kernel
theorem dX5_takeIfStuck_40 : decode cX5_takeIfStuck 40 = .ok (.iload_n 1, 1) := by decide +kernel
theorem dX5_takeIfStuck_41 : decode cX5_takeIfStuck 41 = .ok (.iconst 1, 1) := by decide +kernel
theorem dX5_takeIfStuck_42 : decode cX5_takeIfStuck 42 = .ok (.iadd, 1) := by decide +kernel
theorem dX5_takeIfStuck_43 : decode cX5_takeIfStuck 43 = .ok (.iaload, 1) := by decide +kernel
theorem dX5_takeIfStuck_44 : decode cX5_takeIfStuck 44 = .ok (.if_icmp .ge 32, 3) := by decide +kernel
theorem dX5_takeIfStuck_47 : decode cX5_takeIfStuck 47 = .ok (.aload_n 0, 1) := by decide +kernel
theorem dX5_takeIfStuck_48 : decode cX5_takeIfStuck 48 = .ok (.getfield 9, 3) := by decide +kernel
theorem dX5_takeIfStuck_51 : decode cX5_takeIfStuck 51 = .ok (.aload_n 0, 1) := by decide +kernel
theorem dX5_takeIfStuck_52 : decode cX5_takeIfStuck 52 = .ok (.getfield 22, 3) := by decide +kernel
theorem dX5_takeIfStuck_55 : decode cX5_takeIfStuck 55 = .ok (.getfield 86, 3) := by decide +kernel
theorem dX5_takeIfStuck_58 : decode cX5_takeIfStuck 58 = .ok (.iload_n 2, 1) := by decide +kernel
theorem dX5_takeIfStuck_59 : decode cX5_takeIfStuck 59 = .ok (.iaload, 1) := by decide +kernel
theorem dX5_takeIfStuck_60 : decode cX5_takeIfStuck 60 = .ok (.invokestatic 89, 3) := by decide +kernel
theorem dX5_takeIfStuck_63 : decode cX5_takeIfStuck 63 = .ok (.iaload, 1) := by decide +kernel
theorem dX5_takeIfStuck_64 : decode cX5_takeIfStuck 64 = .ok (.iconst 1, 1) := by decide +kernel
theorem dX5_takeIfStuck_65 : decode cX5_takeIfStuck 65 = .ok (.if_icmp .ne 5, 3) := by decide +kernel
theorem dX5_takeIfStuck_68 : decode cX5_takeIfStuck 68 = .ok (.iconst 0, 1) := by decide +kernel
theorem dX5_takeIfStuck_69 : decode cX5_takeIfStuck 69 = .ok (.ireturn, 1) := by decide +kernel
theorem dX5_takeIfStuck_70 : decode cX5_takeIfStuck 70 = .ok (.iinc 2 1, 3) := by decide +kernel
theorem dX5_takeIfStuck_73 : decode cX5_takeIfStuck 73 = .ok (.goto (-41), 3) := by decide +kernel
theorem dX5_takeIfStuck_76 : decode cX5_takeIfStuck 76 = .ok (.aload_n 0, 1) := by decide +kernel
theorem dX5_takeIfStuck_77 : decode cX5_takeIfStuck 77 = .ok (.getfield 9, 3) := by decide +kernel
theorem dX5_takeIfStuck_80 : decode cX5_takeIfStuck 80 = .ok (.iload_n 1, 1) := by decide +kernel
theorem dX5_takeIfStuck_81 : decode cX5_takeIfStuck 81 = .ok (.iconst 0, 1) := by decide +kernel
theorem dX5_takeIfStuck_82 : decode cX5_takeIfStuck 82 = .ok (.iastore, 1) := by decide +kernel
theorem dX5_takeIfStuck_83 : decode cX5_takeIfStuck 83 = .ok (.iconst 1, 1) := by decide +kernel
theorem dX5_takeIfStuck_84 : decode cX5_takeIfStuck 84 = .ok (.ireturn, 1) := by decide +kernel
theorem dX5_canMiss_0 : decode cX5_canMiss 0 = .ok (.aload_n 0, 1) := by decide +kernel
theorem dX5_canMiss_1 : decode cX5_canMiss 1 = .ok (.invokevirtual 92, 3) := by decide +kernel
theorem dX5_canMiss_4 : decode cX5_canMiss 4 = .ok (.aload_n 0, 1) := by decide +kernel
theorem dX5_canMiss_5 : decode cX5_canMiss 5 = .ok (.iconst 0, 1) := by decide +kernel
theorem dX5_canMiss_6 : decode cX5_canMiss 6 = .ok (.iload_n 1, 1) := by decide +kernel
theorem dX5_canMiss_7 : decode cX5_canMiss 7 = .ok (.iload_n 2, 1) := by decide +kernel
theorem dX5_canMiss_8 : decode cX5_canMiss 8 = .ok (.invokevirtual 95, 3) := by decide +kernel
theorem dX5_canMiss_11 : decode cX5_canMiss 11 = .ok (.aload_n 0, 1) := by decide +kernel
theorem dX5_canMiss_12 : decode cX5_canMiss 12 = .ok (.iload_n 1, 1) := by decide +kernel
theorem dX5_canMiss_13 : decode cX5_canMiss 13 = .ok (.iload_n 2, 1) := by decide +kernel
theorem dX5_canMiss_14 : decode cX5_canMiss 14 = .ok (.invokevirtual 99, 3) := by decide +kernel
theorem dX5_canMiss_17 : decode cX5_canMiss 17 = .ok (.aload_n 0, 1) := by decide +kernel
theorem dX5_canMiss_18 : decode cX5_canMiss 18 = .ok (.getfield 31, 3) := by decide +kernel
theorem dX5_canMiss_21 : decode cX5_canMiss 21 = .ok (.aload_n 0, 1) := by decide +kernel
theorem dX5_canMiss_22 : decode cX5_canMiss 22 = .ok (.getfield 9, 3) := by decide +kernel
theorem dX5_canMiss_25 : decode cX5_canMiss 25 = .ok (.invokevirtual 41, 3) := by decide +kernel
theorem dX5_canMiss_28 : decode cX5_canMiss 28 = .ok (.aload_n 0, 1) := by decide +kernel
theorem dX5_canMiss_29 : decode cX5_canMiss 29 = .ok (.getfield 31, 3) := by decide +kernel
theorem dX5_canMiss_32 : decode cX5_canMiss 32 = .ok (.iload_n 3, 1) := by decide +kernel
theorem dX5_canMiss_33 : decode cX5_canMiss 33 = .ok (.invokevirtual 53, 3) := by decide +kernel
theorem dX5_canMiss_36 : decode cX5_canMiss 36 = .ok (.ireturn, 1) := by decide +kernel
theorem dX5_canMissBehind_0 : decode cX5_canMissBehind 0 = .ok (.aload_n 0, 1) := by decide +kernel
theorem dX5_canMissBehind_1 : decode cX5_canMissBehind 1 = .ok (.invokevirtual 92, 3) := by decide +kernel
theorem dX5_canMissBehind_4 : decode cX5_canMissBehind 4 = .ok (.iconst 0, 1) := by decide +kernel
theorem dX5_canMissBehind_5 : decode cX5_canMissBehind 5 = .ok (.istore 6, 2) := by decide +kernel
theorem dX5_canMissBehind_7 : decode cX5_canMissBehind 7 = .ok (.iload 6, 2) := by decide +kernel
theorem dX5_canMissBehind_9 : decode cX5_canMissBehind 9 = .ok (.aload_n 0, 1) := by decide +kernel
theorem dX5_canMissBehind_10 : decode cX5_canMissBehind 10 = .ok (.getfield 22, 3) := by decide +kernel
theorem dX5_canMissBehind_13 : decode cX5_canMissBehind 13 = .ok (.getfield 57, 3) := by decide +kernel
theorem dX5_canMissBehind_16 : decode cX5_canMissBehind 16 = .ok (.if_icmp .ge 32, 3) := by decide +kernel
theorem dX5_canMissBehind_19 : decode cX5_canMissBehind 19 = .ok (.aload_n 0, 1) := by decide +kernel
theorem dX5_canMissBehind_20 : decode cX5_canMissBehind 20 = .ok (.getfield 18, 3) := by decide +kernel
theorem dX5_canMissBehind_23 : decode cX5_canMissBehind 23 = .ok (.iload 6, 2) := by decide +kernel
theorem dX5_canMissBehind_25 : decode cX5_canMissBehind 25 = .ok (.iload_n 1, 1) := by decide +kernel
theorem dX5_canMissBehind_26 : decode cX5_canMissBehind 26 = .ok (.invokevirtual 62, 3) := by decide +kernel
theorem dX5_canMissBehind_29 : decode cX5_canMissBehind 29 = .ok (.iload_n 2, 1) := by decide +kernel
theorem dX5_canMissBehind_30 : decode cX5_canMissBehind 30 = .ok (.if_icmp .ne 12, 3) := by decide +kernel
theorem dX5_canMissBehind_33 : decode cX5_canMissBehind 33 = .ok (.aload_n 0, 1) := by decide +kernel
theorem dX5_canMissBehind_34 : decode cX5_canMissBehind 34 = .ok (.iload 6, 2) := by decide +kernel
theorem dX5_canMissBehind_36 : decode cX5_canMissBehind 36 = .ok (.iload_n 3, 1) := by decide +kernel
theorem dX5_canMissBehind_37 : decode cX5_canMissBehind 37 = .ok (.iload 4, 2) := by decide +kernel
theorem dX5_canMissBehind_39 : decode cX5_canMissBehind 39 = .ok (.invokevirtual 95, 3) := by decide +kernel
theorem dX5_canMissBehind_42 : decode cX5_canMissBehind 42 = .ok (.iinc 6 1, 3) := by decide +kernel
theorem dX5_canMissBehind_45 : decode cX5_canMissBehind 45 = .ok (.goto (-38), 3) := by decide +kernel
theorem dX5_canMissBehind_48 : decode cX5_canMissBehind 48 = .ok (.aload_n 0, 1) := by decide +kernel
theorem dX5_canMissBehind_49 : decode cX5_canMissBehind 49 = .ok (.iload_n 3, 1) := by decide +kernel
theorem dX5_canMissBehind_50 : decode cX5_canMissBehind 50 = .ok (.iload 4, 2) := by decide +kernel
theorem dX5_canMissBehind_52 : decode cX5_canMissBehind 52 = .ok (.invokevirtual 99, 3) := by decide +kernel
theorem dX5_canMissBehind_55 : decode cX5_canMissBehind 55 = .ok (.aload_n 0, 1) := by decide +kernel
theorem dX5_canMissBehind_56 : decode cX5_canMissBehind 56 = .ok (.getfield 31, 3) := by decide +kernel
theorem dX5_canMissBehind_59 : decode cX5_canMissBehind 59 = .ok (.aload_n 0, 1) := by decide +kernel
theorem dX5_canMissBehind_60 : decode cX5_canMissBehind 60 = .ok (.getfield 9, 3) := by decide +kernel
theorem dX5_canMissBehind_63 : decode cX5_canMissBehind 63 = .ok (.invokevirtual 41, 3) := by decide +kernel
theorem dX5_canMissBehind_66 : decode cX5_canMissBehind 66 = .ok (.aload_n 0, 1) := by decide +kernel
theorem dX5_canMissBehind_67 : decode cX5_canMissBehind 67 = .ok (.getfield 31, 3) := by decide +kernel
theorem dX5_canMissBehind_70 : decode cX5_canMissBehind 70 = .ok (.iload 5, 2) := by decide +kernel
theorem dX5_canMissBehind_72 : decode cX5_canMissBehind 72 = .ok (.invokevirtual 53, 3) := by decide +kernel
theorem dX5_canMissBehind_75 : decode cX5_canMissBehind 75 = .ok (.ireturn, 1) := by decide +kernel
theorem dX5_clearMarks_0 : decode cX5_clearMarks 0 = .ok (.aload_n 0, 1) := by decide +kernel
theorem dX5_clearMarks_1 : decode cX5_clearMarks 1 = .ok (.getfield 9, 3) := by decide +kernel
theorem dX5_clearMarks_4 : decode cX5_clearMarks 4 = .ok (.iconst 0, 1) := by decide +kernel
theorem dX5_clearMarks_5 : decode cX5_clearMarks 5 = .ok (.invokestatic 35, 3) := by decide +kernel
theorem dX5_clearMarks_8 : decode cX5_clearMarks 8 = .ok (.aload_n 0, 1) := by decide +kernel
theorem dX5_clearMarks_9 : decode cX5_clearMarks 9 = .ok (.iconst 0, 1) := by decide +kernel
theorem dX5_clearMarks_10 : decode cX5_clearMarks 10 = .ok (.putfield 102, 3) := by decide +kernel
theorem dX5_clearMarks_13 : decode cX5_clearMarks 13 = .ok (.return_, 1) := by decide +kernel
theorem dX5_markIfWithout_0 : decode cX5_markIfWithout 0 = .ok (.aload_n 0, 1) := by decide +kernel
theorem dX5_markIfWithout_1 : decode cX5_markIfWithout 1 = .ok (.getfield 9, 3) := by decide +kernel
theorem dX5_markIfWithout_4 : decode cX5_markIfWithout 4 = .ok (.iload_n 1, 1) := by decide +kernel
theorem dX5_markIfWithout_5 : decode cX5_markIfWithout 5 = .ok (.iaload, 1) := by decide +kernel
theorem dX5_markIfWithout_6 : decode cX5_markIfWithout 6 = .ok (.ifCond .ne 43, 3) := by decide +kernel
theorem dX5_markIfWithout_9 : decode cX5_markIfWithout 9 = .ok (.aload_n 0, 1) := by decide +kernel
theorem dX5_markIfWithout_10 : decode cX5_markIfWithout 10 = .ok (.getfield 18, 3) := by decide +kernel
theorem dX5_markIfWithout_13 : decode cX5_markIfWithout 13 = .ok (.iload_n 1, 1) := by decide +kernel
theorem dX5_markIfWithout_14 : decode cX5_markIfWithout 14 = .ok (.iload_n 2, 1) := by decide +kernel
theorem dX5_markIfWithout_15 : decode cX5_markIfWithout 15 = .ok (.invokevirtual 62, 3) := by decide +kernel
theorem dX5_markIfWithout_18 : decode cX5_markIfWithout 18 = .ok (.iload_n 3, 1) := by decide +kernel
theorem dX5_markIfWithout_19 : decode cX5_markIfWithout 19 = .ok (.if_icmp .eq 30, 3) := by decide +kernel
theorem dX5_markIfWithout_22 : decode cX5_markIfWithout 22 = .ok (.aload_n 0, 1) := by decide +kernel
theorem dX5_markIfWithout_23 : decode cX5_markIfWithout 23 = .ok (.getfield 9, 3) := by decide +kernel
theorem dX5_markIfWithout_26 : decode cX5_markIfWithout 26 = .ok (.iload_n 1, 1) := by decide +kernel
theorem dX5_markIfWithout_27 : decode cX5_markIfWithout 27 = .ok (.iconst 1, 1) := by decide +kernel
theorem dX5_markIfWithout_28 : decode cX5_markIfWithout 28 = .ok (.iastore, 1) := by decide +kernel
theorem dX5_markIfWithout_29 : decode cX5_markIfWithout 29 = .ok (.aload_n 0, 1) := by decide +kernel
theorem dX5_markIfWithout_30 : decode cX5_markIfWithout 30 = .ok (.getfield 15, 3) := by decide +kernel
theorem dX5_markIfWithout_33 : decode cX5_markIfWithout 33 = .ok (.aload_n 0, 1) := by decide +kernel
theorem dX5_markIfWithout_34 : decode cX5_markIfWithout 34 = .ok (.getfield 102, 3) := by decide +kernel
theorem dX5_markIfWithout_37 : decode cX5_markIfWithout 37 = .ok (.iload_n 1, 1) := by decide +kernel
theorem dX5_markIfWithout_38 : decode cX5_markIfWithout 38 = .ok (.iastore, 1) := by decide +kernel
theorem dX5_markIfWithout_39 : decode cX5_markIfWithout 39 = .ok (.aload_n 0, 1) := by decide +kernel
theorem dX5_markIfWithout_40 : decode cX5_markIfWithout 40 = .ok (.dup, 1) := by decide +kernel
theorem dX5_markIfWithout_41 : decode cX5_markIfWithout 41 = .ok (.getfield 102, 3) := by decide +kernel
theorem dX5_markIfWithout_44 : decode cX5_markIfWithout 44 = .ok (.iconst 1, 1) := by decide +kernel
theorem dX5_markIfWithout_45 : decode cX5_markIfWithout 45 = .ok (.iadd, 1) := by decide +kernel
theorem dX5_markIfWithout_46 : decode cX5_markIfWithout 46 = .ok (.putfield 102, 3) := by decide +kernel
theorem dX5_markIfWithout_49 : decode cX5_markIfWithout 49 = .ok (.return_, 1) := by decide +kernel
theorem dX5_spread_0 : decode cX5_spread 0 = .ok (.iconst 0, 1) := by decide +kernel
theorem dX5_spread_1 : decode cX5_spread 1 = .ok (.istore_n 3, 1) := by decide +kernel
theorem dX5_spread_2 : decode cX5_spread 2 = .ok (.iload_n 3, 1) := by decide +kernel
theorem dX5_spread_3 : decode cX5_spread 3 = .ok (.sipush 2000, 3) := by decide +kernel
theorem dX5_spread_6 : decode cX5_spread 6 = .ok (.if_icmp .ge 79, 3) := by decide +kernel
theorem dX5_spread_9 : decode cX5_spread 9 = .ok (.iload_n 3, 1) := by decide +kernel
theorem dX5_spread_10 : decode cX5_spread 10 = .ok (.aload_n 0, 1) := by decide +kernel
theorem dX5_spread_11 : decode cX5_spread 11 = .ok (.getfield 102, 3) := by decide +kernel
theorem dX5_spread_14 : decode cX5_spread 14 = .ok (.if_icmp .ge 71, 3) := by decide +kernel
theorem dX5_spread_17 : decode cX5_spread 17 = .ok (.aload_n 0, 1) := by decide +kernel
theorem dX5_spread_18 : decode cX5_spread 18 = .ok (.getfield 15, 3) := by decide +kernel
theorem dX5_spread_21 : decode cX5_spread 21 = .ok (.iload_n 3, 1) := by decide +kernel
theorem dX5_spread_22 : decode cX5_spread 22 = .ok (.iaload, 1) := by decide +kernel
theorem dX5_spread_23 : decode cX5_spread 23 = .ok (.istore 4, 2) := by decide +kernel
theorem dX5_spread_25 : decode cX5_spread 25 = .ok (.aload_n 0, 1) := by decide +kernel
theorem dX5_spread_26 : decode cX5_spread 26 = .ok (.getfield 22, 3) := by decide +kernel
theorem dX5_spread_29 : decode cX5_spread 29 = .ok (.getfield 83, 3) := by decide +kernel
theorem dX5_spread_32 : decode cX5_spread 32 = .ok (.iload 4, 2) := by decide +kernel
theorem dX5_spread_34 : decode cX5_spread 34 = .ok (.iaload, 1) := by decide +kernel
theorem dX5_spread_35 : decode cX5_spread 35 = .ok (.istore 5, 2) := by decide +kernel
theorem dX5_spread_37 : decode cX5_spread 37 = .ok (.iload 5, 2) := by decide +kernel
theorem dX5_spread_39 : decode cX5_spread 39 = .ok (.aload_n 0, 1) := by decide +kernel
theorem dX5_spread_40 : decode cX5_spread 40 = .ok (.getfield 22, 3) := by decide +kernel
theorem dX5_spread_43 : decode cX5_spread 43 = .ok (.getfield 83, 3) := by decide +kernel
theorem dX5_spread_46 : decode cX5_spread 46 = .ok (.iload 4, 2) := by decide +kernel
theorem dX5_spread_48 : decode cX5_spread 48 = .ok (.iconst 1, 1) := by decide +kernel
theorem dX5_spread_49 : decode cX5_spread 49 = .ok (.iadd, 1) := by decide +kernel
theorem dX5_spread_50 : decode cX5_spread 50 = .ok (.iaload, 1) := by decide +kernel
theorem dX5_spread_51 : decode cX5_spread 51 = .ok (.if_icmp .ge 28, 3) := by decide +kernel
theorem dX5_spread_54 : decode cX5_spread 54 = .ok (.aload_n 0, 1) := by decide +kernel
theorem dX5_spread_55 : decode cX5_spread 55 = .ok (.aload_n 0, 1) := by decide +kernel
theorem dX5_spread_56 : decode cX5_spread 56 = .ok (.getfield 22, 3) := by decide +kernel
theorem dX5_spread_59 : decode cX5_spread 59 = .ok (.getfield 86, 3) := by decide +kernel
theorem dX5_spread_62 : decode cX5_spread 62 = .ok (.iload 5, 2) := by decide +kernel
theorem dX5_spread_64 : decode cX5_spread 64 = .ok (.iaload, 1) := by decide +kernel
theorem dX5_spread_65 : decode cX5_spread 65 = .ok (.invokestatic 89, 3) := by decide +kernel
theorem dX5_spread_68 : decode cX5_spread 68 = .ok (.iload_n 1, 1) := by decide +kernel
theorem dX5_spread_69 : decode cX5_spread 69 = .ok (.iload_n 2, 1) := by decide +kernel
theorem dX5_spread_70 : decode cX5_spread 70 = .ok (.invokevirtual 95, 3) := by decide +kernel
theorem dX5_spread_73 : decode cX5_spread 73 = .ok (.iinc 5 1, 3) := by decide +kernel
theorem dX5_spread_76 : decode cX5_spread 76 = .ok (.goto (-39), 3) := by decide +kernel
theorem dX5_spread_79 : decode cX5_spread 79 = .ok (.iinc 3 1, 3) := by decide +kernel
theorem dX5_spread_82 : decode cX5_spread 82 = .ok (.goto (-80), 3) := by decide +kernel
theorem dX5_spread_85 : decode cX5_spread 85 = .ok (.return_, 1) := by decide +kernel
theorem dX6_init_0 : decode cX6_init 0 = .ok (.aload_n 0, 1) := by decide +kernel
theorem dX6_init_1 : decode cX6_init 1 = .ok (.invokespecial 3, 3) := by decide +kernel
theorem dX6_init_4 : decode cX6_init 4 = .ok (.aload_n 0, 1) := by decide +kernel
theorem dX6_init_5 : decode cX6_init 5 = .ok (.bipush 9, 2) := by decide +kernel
theorem dX6_init_7 : decode cX6_init 7 = .ok (.newarray .int, 2) := by decide +kernel
theorem dX6_init_9 : decode cX6_init 9 = .ok (.putfield 9, 3) := by decide +kernel
theorem dX6_init_12 : decode cX6_init 12 = .ok (.aload_n 0, 1) := by decide +kernel
theorem dX6_init_13 : decode cX6_init 13 = .ok (.sipush 2000, 3) := by decide +kernel
theorem dX6_init_16 : decode cX6_init 16 = .ok (.newarray .int, 2) := by decide +kernel
theorem dX6_init_18 : decode cX6_init 18 = .ok (.putfield 15, 3) := by decide +kernel
theorem dX6_init_21 : decode cX6_init 21 = .ok (.aload_n 0, 1) := by decide +kernel
theorem dX6_init_22 : decode cX6_init 22 = .ok (.aload_n 1, 1) := by decide +kernel
theorem dX6_init_23 : decode cX6_init 23 = .ok (.putfield 18, 3) := by decide +kernel
theorem dX6_init_26 : decode cX6_init 26 = .ok (.aload_n 0, 1) := by decide +kernel
theorem dX6_init_27 : decode cX6_init 27 = .ok (.aload_n 2, 1) := by decide +kernel
theorem dX6_init_28 : decode cX6_init 28 = .ok (.putfield 22, 3) := by decide +kernel
theorem dX6_init_31 : decode cX6_init 31 = .ok (.aload_n 0, 1) := by decide +kernel
theorem dX6_init_32 : decode cX6_init 32 = .ok (.aload_n 3, 1) := by decide +kernel
theorem dX6_init_33 : decode cX6_init 33 = .ok (.putfield 26, 3) := by decide +kernel
theorem dX6_init_36 : decode cX6_init 36 = .ok (.aload_n 0, 1) := by decide +kernel
theorem dX6_init_37 : decode cX6_init 37 = .ok (.new 30, 3) := by decide +kernel
theorem dX6_init_40 : decode cX6_init 40 = .ok (.dup, 1) := by decide +kernel
theorem dX6_init_41 : decode cX6_init 41 = .ok (.aload_n 1, 1) := by decide +kernel
theorem dX6_init_42 : decode cX6_init 42 = .ok (.invokespecial 32, 3) := by decide +kernel
theorem dX6_init_45 : decode cX6_init 45 = .ok (.putfield 35, 3) := by decide +kernel
theorem dX6_init_48 : decode cX6_init 48 = .ok (.aload_n 0, 1) := by decide +kernel
theorem dX6_init_49 : decode cX6_init 49 = .ok (.new 39, 3) := by decide +kernel
theorem dX6_init_52 : decode cX6_init 52 = .ok (.dup, 1) := by decide +kernel
theorem dX6_init_53 : decode cX6_init 53 = .ok (.aload_n 1, 1) := by decide +kernel
theorem dX6_init_54 : decode cX6_init 54 = .ok (.invokespecial 41, 3) := by decide +kernel
theorem dX6_init_57 : decode cX6_init 57 = .ok (.putfield 42, 3) := by decide +kernel
theorem dX6_init_60 : decode cX6_init 60 = .ok (.aload_n 0, 1) := by decide +kernel
theorem dX6_init_61 : decode cX6_init 61 = .ok (.new 39, 3) := by decide +kernel
theorem dX6_init_64 : decode cX6_init 64 = .ok (.dup, 1) := by decide +kernel
theorem dX6_init_65 : decode cX6_init 65 = .ok (.aload_n 1, 1) := by decide +kernel
theorem dX6_init_66 : decode cX6_init 66 = .ok (.invokespecial 41, 3) := by decide +kernel
theorem dX6_init_69 : decode cX6_init 69 = .ok (.putfield 46, 3) := by decide +kernel
theorem dX6_init_72 : decode cX6_init 72 = .ok (.return_, 1) := by decide +kernel
theorem dX6_drop_0 : decode cX6_drop 0 = .ok (.aload_n 0, 1) := by decide +kernel
theorem dX6_drop_1 : decode cX6_drop 1 = .ok (.iconst 0, 1) := by decide +kernel
theorem dX6_drop_2 : decode cX6_drop 2 = .ok (.putfield 49, 3) := by decide +kernel
theorem dX6_drop_5 : decode cX6_drop 5 = .ok (.return_, 1) := by decide +kernel
theorem dX6_beginIn_0 : decode cX6_beginIn 0 = .ok (.aload_n 0, 1) := by decide +kernel
theorem dX6_beginIn_1 : decode cX6_beginIn 1 = .ok (.iload_n 1, 1) := by decide +kernel
theorem dX6_beginIn_2 : decode cX6_beginIn 2 = .ok (.putfield 53, 3) := by decide +kernel
theorem dX6_beginIn_5 : decode cX6_beginIn 5 = .ok (.aload_n 0, 1) := by decide +kernel
theorem dX6_beginIn_6 : decode cX6_beginIn 6 = .ok (.iconst 1, 1) := by decide +kernel
theorem dX6_beginIn_7 : decode cX6_beginIn 7 = .ok (.putfield 49, 3) := by decide +kernel
theorem dX6_beginIn_10 : decode cX6_beginIn 10 = .ok (.aload_n 0, 1) := by decide +kernel
theorem dX6_beginIn_11 : decode cX6_beginIn 11 = .ok (.iconst 0, 1) := by decide +kernel
theorem dX6_beginIn_12 : decode cX6_beginIn 12 = .ok (.putfield 57, 3) := by decide +kernel
theorem dX6_beginIn_15 : decode cX6_beginIn 15 = .ok (.aload_n 0, 1) := by decide +kernel
theorem dX6_beginIn_16 : decode cX6_beginIn 16 = .ok (.lconst 0, 1) := by decide +kernel
theorem dX6_beginIn_17 : decode cX6_beginIn 17 = .ok (.putfield 61, 3) := by decide +kernel
theorem dX6_beginIn_20 : decode cX6_beginIn 20 = .ok (.aload_n 0, 1) := by decide +kernel
theorem dX6_beginIn_21 : decode cX6_beginIn 21 = .ok (.bipush 45, 2) := by decide +kernel
theorem dX6_beginIn_23 : decode cX6_beginIn 23 = .ok (.putfield 65, 3) := by decide +kernel
theorem dX6_beginIn_26 : decode cX6_beginIn 26 = .ok (.aload_n 0, 1) := by decide +kernel
theorem dX6_beginIn_27 : decode cX6_beginIn 27 = .ok (.iconst 0, 1) := by decide +kernel
theorem dX6_beginIn_28 : decode cX6_beginIn 28 = .ok (.putfield 68, 3) := by decide +kernel
theorem dX6_beginIn_31 : decode cX6_beginIn 31 = .ok (.aload_n 0, 1) := by decide +kernel
theorem dX6_beginIn_32 : decode cX6_beginIn 32 = .ok (.getfield 22, 3) := by decide +kernel
theorem dX6_beginIn_35 : decode cX6_beginIn 35 = .ok (.iload_n 1, 1) := by decide +kernel
theorem dX6_beginIn_36 : decode cX6_beginIn 36 = .ok (.bipush 104, 2) := by decide +kernel
theorem dX6_beginIn_38 : decode cX6_beginIn 38 = .ok (.if_icmp .ne 7, 3) := by decide +kernel
theorem dX6_beginIn_41 : decode cX6_beginIn 41 = .ok (.iconst 1, 1) := by decide +kernel
theorem dX6_beginIn_42 : decode cX6_beginIn 42 = .ok (.goto 4, 3) := by decide +kernel
theorem dX6_beginIn_45 : decode cX6_beginIn 45 = .ok (.iconst 0, 1) := by decide +kernel
theorem dX6_beginIn_46 : decode cX6_beginIn 46 = .ok (.invokevirtual 71, 3) := by decide +kernel
theorem dX6_beginIn_49 : decode cX6_beginIn 49 = .ok (.aload_n 0, 1) := by decide +kernel
theorem dX6_beginIn_50 : decode cX6_beginIn 50 = .ok (.getfield 26, 3) := by decide +kernel
theorem dX6_beginIn_53 : decode cX6_beginIn 53 = .ok (.invokevirtual 77, 3) := by decide +kernel
theorem dX6_beginIn_56 : decode cX6_beginIn 56 = .ok (.aload_n 0, 1) := by decide +kernel
theorem dX6_beginIn_57 : decode cX6_beginIn 57 = .ok (.invokevirtual 81, 3) := by decide +kernel
theorem dX6_beginIn_60 : decode cX6_beginIn 60 = .ok (.aload_n 0, 1) := by decide +kernel
theorem dX6_beginIn_61 : decode cX6_beginIn 61 = .ok (.getfield 46, 3) := by decide +kernel
theorem dX6_beginIn_64 : decode cX6_beginIn 64 = .ok (.invokevirtual 84, 3) := by decide +kernel
theorem dX6_beginIn_67 : decode cX6_beginIn 67 = .ok (.aload_n 0, 1) := by decide +kernel
theorem dX6_beginIn_68 : decode cX6_beginIn 68 = .ok (.aload_n 0, 1) := by decide +kernel
theorem dX6_beginIn_69 : decode cX6_beginIn 69 = .ok (.getfield 46, 3) := by decide +kernel
theorem dX6_beginIn_72 : decode cX6_beginIn 72 = .ok (.invokevirtual 87, 3) := by decide +kernel
theorem dX6_beginIn_75 : decode cX6_beginIn 75 = .ok (.iconst (-1), 1) := by decide +kernel
theorem dX6_beginIn_76 : decode cX6_beginIn 76 = .ok (.iconst (-1), 1) := by decide +kernel
theorem dX6_beginIn_77 : decode cX6_beginIn 77 = .ok (.invokevirtual 91, 3) := by decide +kernel
theorem dX6_beginIn_80 : decode cX6_beginIn 80 = .ok (.pop, 1) := by decide +kernel
theorem dX6_beginIn_81 : decode cX6_beginIn 81 = .ok (.return_, 1) := by decide +kernel
theorem dX6_findKin_0 : decode cX6_findKin 0 = .ok (.aload_n 0, 1) := by decide +kernel
theorem dX6_findKin_1 : decode cX6_findKin 1 = .ok (.getfield 9, 3) := by decide +kernel
theorem dX6_findKin_4 : decode cX6_findKin 4 = .ok (.iconst 0, 1) := by decide +kernel
theorem dX6_findKin_5 : decode cX6_findKin 5 = .ok (.invokestatic 95, 3) := by decide +kernel
theorem dX6_findKin_8 : decode cX6_findKin 8 = .ok (.iconst 0, 1) := by decide +kernel
theorem dX6_findKin_9 : decode cX6_findKin 9 = .ok (.istore_n 1, 1) := by decide +kernel
theorem dX6_findKin_10 : decode cX6_findKin 10 = .ok (.iload_n 1, 1) := by decide +kernel
theorem dX6_findKin_11 : decode cX6_findKin 11 = .ok (.aload_n 0, 1) := by decide +kernel
theorem dX6_findKin_12 : decode cX6_findKin 12 = .ok (.getfield 18, 3) := by decide +kernel
theorem dX6_findKin_15 : decode cX6_findKin 15 = .ok (.getfield 101, 3) := by decide +kernel
theorem dX6_findKin_18 : decode cX6_findKin 18 = .ok (.if_icmp .ge 60, 3) := by decide +kernel
theorem dX6_findKin_21 : decode cX6_findKin 21 = .ok (.iconst 0, 1) := by decide +kernel
theorem dX6_findKin_22 : decode cX6_findKin 22 = .ok (.istore_n 2, 1) := by decide +kernel
theorem dX6_findKin_23 : decode cX6_findKin 23 = .ok (.iload_n 2, 1) := by decide +kernel
theorem dX6_findKin_24 : decode cX6_findKin 24 = .ok (.aload_n 0, 1) := by decide +kernel
theorem dX6_findKin_25 : decode cX6_findKin 25 = .ok (.getfield 18, 3) := by decide +kernel
theorem dX6_findKin_28 : decode cX6_findKin 28 = .ok (.getfield 101, 3) := by decide +kernel
theorem dX6_findKin_31 : decode cX6_findKin 31 = .ok (.if_icmp .ge 41, 3) := by decide +kernel
theorem dX6_findKin_34 : decode cX6_findKin 34 = .ok (.aload_n 0, 1) := by decide +kernel
theorem dX6_findKin_35 : decode cX6_findKin 35 = .ok (.getfield 53, 3) := by decide +kernel
theorem dX6_findKin_38 : decode cX6_findKin 38 = .ok (.bipush 115, 2) := by decide +kernel
theorem dX6_findKin_40 : decode cX6_findKin 40 = .ok (.if_icmp .ne 26, 3) := by decide +kernel
theorem dX6_findKin_43 : decode cX6_findKin 43 = .ok (.aload_n 0, 1) := by decide +kernel
theorem dX6_findKin_44 : decode cX6_findKin 44 = .ok (.getfield 18, 3) := by decide +kernel
theorem dX6_findKin_47 : decode cX6_findKin 47 = .ok (.iload_n 1, 1) := by decide +kernel
theorem dX6_findKin_48 : decode cX6_findKin 48 = .ok (.iload_n 2, 1) := by decide +kernel
theorem dX6_findKin_49 : decode cX6_findKin 49 = .ok (.invokevirtual 106, 3) := by decide +kernel
theorem dX6_findKin_52 : decode cX6_findKin 52 = .ok (.ifCond .eq 14, 3) := by decide +kernel
theorem dX6_findKin_55 : decode cX6_findKin 55 = .ok (.aload_n 0, 1) := by decide +kernel
theorem dX6_findKin_56 : decode cX6_findKin 56 = .ok (.getfield 9, 3) := by decide +kernel
theorem dX6_findKin_59 : decode cX6_findKin 59 = .ok (.iload_n 1, 1) := by decide +kernel
theorem dX6_findKin_60 : decode cX6_findKin 60 = .ok (.iconst 3, 1) := by decide +kernel
theorem dX6_findKin_61 : decode cX6_findKin 61 = .ok (.imul, 1) := by decide +kernel
theorem dX6_findKin_62 : decode cX6_findKin 62 = .ok (.iload_n 2, 1) := by decide +kernel
theorem dX6_findKin_63 : decode cX6_findKin 63 = .ok (.iadd, 1) := by decide +kernel
theorem dX6_findKin_64 : decode cX6_findKin 64 = .ok (.iconst 1, 1) := by decide +kernel
theorem dX6_findKin_65 : decode cX6_findKin 65 = .ok (.iastore, 1) := by decide +kernel
theorem dX6_findKin_66 : decode cX6_findKin 66 = .ok (.iinc 2 1, 3) := by decide +kernel
theorem dX6_findKin_69 : decode cX6_findKin 69 = .ok (.goto (-46), 3) := by decide +kernel
theorem dX6_findKin_72 : decode cX6_findKin 72 = .ok (.iinc 1 1, 3) := by decide +kernel
theorem dX6_findKin_75 : decode cX6_findKin 75 = .ok (.goto (-65), 3) := by decide +kernel
theorem dX6_findKin_78 : decode cX6_findKin 78 = .ok (.return_, 1) := by decide +kernel
theorem dX6_judge_0 : decode cX6_judge 0 = .ok (.aload_n 0, 1) := by decide +kernel
theorem dX6_judge_1 : decode cX6_judge 1 = .ok (.getfield 65, 3) := by decide +kernel
theorem dX6_judge_4 : decode cX6_judge 4 = .ok (.bipush 45, 2) := by decide +kernel
theorem dX6_judge_6 : decode cX6_judge 6 = .ok (.if_icmp .eq 6, 3) := by decide +kernel
theorem dX6_judge_9 : decode cX6_judge 9 = .ok (.bipush 102, 2) := by decide +kernel
theorem dX6_judge_11 : decode cX6_judge 11 = .ok (.ireturn, 1) := by decide +kernel
theorem dX6_judge_12 : decode cX6_judge 12 = .ok (.aload_n 0, 1) := by decide +kernel
theorem dX6_judge_13 : decode cX6_judge 13 = .ok (.getfield 53, 3) := by decide +kernel
theorem dX6_judge_16 : decode cX6_judge 16 = .ok (.bipush 104, 2) := by decide +kernel
theorem dX6_judge_18 : decode cX6_judge 18 = .ok (.if_icmp .eq 28, 3) := by decide +kernel
theorem dX6_judge_21 : decode cX6_judge 21 = .ok (.aload_n 0, 1) := by decide +kernel
theorem dX6_judge_22 : decode cX6_judge 22 = .ok (.invokevirtual 110, 3) := by decide +kernel
theorem dX6_judge_25 : decode cX6_judge 25 = .ok (.ifCond .eq 21, 3) := by decide +kernel
theorem dX6_judge_28 : decode cX6_judge 28 = .ok (.aload_n 0, 1) := by decide +kernel
theorem dX6_judge_29 : decode cX6_judge 29 = .ok (.getfield 22, 3) := by decide +kernel
theorem dX6_judge_32 : decode cX6_judge 32 = .ok (.getfield 114, 3) := by decide +kernel
theorem dX6_judge_35 : decode cX6_judge 35 = .ok (.sipush 2000, 3) := by decide +kernel
theorem dX6_judge_38 : decode cX6_judge 38 = .ok (.if_icmp .ge 8, 3) := by decide +kernel
theorem dX6_judge_41 : decode cX6_judge 41 = .ok (.bipush 110, 2) := by decide +kernel
theorem dX6_judge_43 : decode cX6_judge 43 = .ok (.goto 5, 3) := by decide +kernel
theorem dX6_judge_46 : decode cX6_judge 46 = .ok (.bipush 63, 2) := by decide +kernel
theorem dX6_judge_48 : decode cX6_judge 48 = .ok (.ireturn, 1) := by decide +kernel
theorem dX6_hasEnded_0 : decode cX6_hasEnded 0 = .ok (.aload_n 0, 1) := by decide +kernel
theorem dX6_hasEnded_1 : decode cX6_hasEnded 1 = .ok (.invokevirtual 117, 3) := by decide +kernel
theorem dX6_hasEnded_4 : decode cX6_hasEnded 4 = .ok (.ifCond .ne 17, 3) := by decide +kernel
theorem dX6_hasEnded_7 : decode cX6_hasEnded 7 = .ok (.aload_n 0, 1) := by decide +kernel
theorem dX6_hasEnded_8 : decode cX6_hasEnded 8 = .ok (.getfield 57, 3) := by decide +kernel
theorem dX6_hasEnded_11 : decode cX6_hasEnded 11 = .ok (.aload_n 0, 1) := by decide +kernel
theorem dX6_hasEnded_12 : decode cX6_hasEnded 12 = .ok (.getfield 22, 3) := by decide +kernel
theorem dX6_hasEnded_15 : decode cX6_hasEnded 15 = .ok (.getfield 114, 3) := by decide +kernel
theorem dX6_hasEnded_18 : decode cX6_hasEnded 18 = .ok (.if_icmp .lt 7, 3) := by decide +kernel
theorem dX6_hasEnded_21 : decode cX6_hasEnded 21 = .ok (.iconst 1, 1) := by decide +kernel
theorem dX6_hasEnded_22 : decode cX6_hasEnded 22 = .ok (.goto 4, 3) := by decide +kernel
theorem dX6_hasEnded_25 : decode cX6_hasEnded 25 = .ok (.iconst 0, 1) := by decide +kernel
theorem dX6_hasEnded_26 : decode cX6_hasEnded 26 = .ok (.ireturn, 1) := by decide +kernel
theorem dX6_isCutShort_0 : decode cX6_isCutShort 0 = .ok (.aload_n 0, 1) := by decide +kernel
theorem dX6_isCutShort_1 : decode cX6_isCutShort 1 = .ok (.getfield 65, 3) := by decide +kernel
theorem dX6_isCutShort_4 : decode cX6_isCutShort 4 = .ok (.bipush 45, 2) := by decide +kernel
theorem dX6_isCutShort_6 : decode cX6_isCutShort 6 = .ok (.if_icmp .ne 16, 3) := by decide +kernel
theorem dX6_isCutShort_9 : decode cX6_isCutShort 9 = .ok (.aload_n 0, 1) := by decide +kernel
theorem dX6_isCutShort_10 : decode cX6_isCutShort 10 = .ok (.getfield 22, 3) := by decide +kernel
theorem dX6_isCutShort_13 : decode cX6_isCutShort 13 = .ok (.getfield 114, 3) := by decide +kernel
theorem dX6_isCutShort_16 : decode cX6_isCutShort 16 = .ok (.sipush 2000, 3) := by decide +kernel
theorem dX6_isCutShort_19 : decode cX6_isCutShort 19 = .ok (.if_icmp .lt 7, 3) := by decide +kernel
theorem dX6_isCutShort_22 : decode cX6_isCutShort 22 = .ok (.iconst 1, 1) := by decide +kernel
theorem dX6_isCutShort_23 : decode cX6_isCutShort 23 = .ok (.goto 4, 3) := by decide +kernel
theorem dX6_isCutShort_26 : decode cX6_isCutShort 26 = .ok (.iconst 0, 1) := by decide +kernel
theorem dX6_isCutShort_27 : decode cX6_isCutShort 27 = .ok (.ireturn, 1) := by decide +kernel
theorem dX6_goOn_0 : decode cX6_goOn 0 = .ok (.aload_n 0, 1) := by decide +kernel
theorem dX6_goOn_1 : decode cX6_goOn 1 = .ok (.getfield 22, 3) := by decide +kernel
theorem dX6_goOn_4 : decode cX6_goOn 4 = .ok (.getfield 114, 3) := by decide +kernel
theorem dX6_goOn_7 : decode cX6_goOn 7 = .ok (.istore_n 2, 1) := by decide +kernel
theorem dX6_goOn_8 : decode cX6_goOn 8 = .ok (.iconst 0, 1) := by decide +kernel
theorem dX6_goOn_9 : decode cX6_goOn 9 = .ok (.istore_n 3, 1) := by decide +kernel
theorem dX6_goOn_10 : decode cX6_goOn 10 = .ok (.iload_n 3, 1) := by decide +kernel
theorem dX6_goOn_11 : decode cX6_goOn 11 = .ok (.iload_n 1, 1) := by decide +kernel
theorem dX6_goOn_12 : decode cX6_goOn 12 = .ok (.if_icmp .ge 20, 3) := by decide +kernel
theorem dX6_goOn_15 : decode cX6_goOn 15 = .ok (.aload_n 0, 1) := by decide +kernel
theorem dX6_goOn_16 : decode cX6_goOn 16 = .ok (.invokevirtual 110, 3) := by decide +kernel
theorem dX6_goOn_19 : decode cX6_goOn 19 = .ok (.ifCond .ne 13, 3) := by decide +kernel
theorem dX6_goOn_22 : decode cX6_goOn 22 = .ok (.aload_n 0, 1) := by decide +kernel
theorem dX6_goOn_23 : decode cX6_goOn 23 = .ok (.invokevirtual 120, 3) := by decide +kernel
theorem dX6_goOn_26 : decode cX6_goOn 26 = .ok (.iinc 3 1, 3) := by decide +kernel
theorem dX6_goOn_29 : decode cX6_goOn 29 = .ok (.goto (-19), 3) := by decide +kernel
theorem dX6_goOn_32 : decode cX6_goOn 32 = .ok (.aload_n 0, 1) := by decide +kernel
theorem dX6_goOn_33 : decode cX6_goOn 33 = .ok (.getfield 22, 3) := by decide +kernel
theorem dX6_goOn_36 : decode cX6_goOn 36 = .ok (.getfield 114, 3) := by decide +kernel
theorem dX6_goOn_39 : decode cX6_goOn 39 = .ok (.iload_n 2, 1) := by decide +kernel
theorem dX6_goOn_40 : decode cX6_goOn 40 = .ok (.isub, 1) := by decide +kernel
theorem dX6_goOn_41 : decode cX6_goOn 41 = .ok (.ireturn, 1) := by decide +kernel
theorem dX6_goOnFromOne_0 : decode cX6_goOnFromOne 0 = .ok (.aload_n 0, 1) := by decide +kernel
theorem dX6_goOnFromOne_1 : decode cX6_goOnFromOne 1 = .ok (.getfield 57, 3) := by decide +kernel
theorem dX6_goOnFromOne_4 : decode cX6_goOnFromOne 4 = .ok (.istore_n 1, 1) := by decide +kernel
theorem dX6_goOnFromOne_5 : decode cX6_goOnFromOne 5 = .ok (.aload_n 0, 1) := by decide +kernel
theorem dX6_goOnFromOne_6 : decode cX6_goOnFromOne 6 = .ok (.dup, 1) := by decide +kernel
theorem dX6_goOnFromOne_7 : decode cX6_goOnFromOne 7 = .ok (.getfield 57, 3) := by decide +kernel
theorem dX6_goOnFromOne_10 : decode cX6_goOnFromOne 10 = .ok (.iconst 1, 1) := by decide +kernel
theorem dX6_goOnFromOne_11 : decode cX6_goOnFromOne 11 = .ok (.iadd, 1) := by decide +kernel
theorem dX6_goOnFromOne_12 : decode cX6_goOnFromOne 12 = .ok (.putfield 57, 3) := by decide +kernel
theorem dX6_goOnFromOne_15 : decode cX6_goOnFromOne 15 = .ok (.aload_n 0, 1) := by decide +kernel
theorem dX6_goOnFromOne_16 : decode cX6_goOnFromOne 16 = .ok (.iload_n 1, 1) := by decide +kernel
theorem dX6_goOnFromOne_17 : decode cX6_goOnFromOne 17 = .ok (.invokevirtual 123, 3) := by decide +kernel
theorem dX6_goOnFromOne_20 : decode cX6_goOnFromOne 20 = .ok (.aload_n 0, 1) := by decide +kernel
theorem dX6_goOnFromOne_21 : decode cX6_goOnFromOne 21 = .ok (.getfield 35, 3) := by decide +kernel
theorem dX6_goOnFromOne_24 : decode cX6_goOnFromOne 24 = .ok (.getfield 127, 3) := by decide +kernel
theorem dX6_goOnFromOne_27 : decode cX6_goOnFromOne 27 = .ok (.ifCond .ne 25, 3) := by decide +kernel
theorem dX6_goOnFromOne_30 : decode cX6_goOnFromOne 30 = .ok (.aload_n 0, 1) := by decide +kernel
theorem dX6_goOnFromOne_31 : decode cX6_goOnFromOne 31 = .ok (.getfield 18, 3) := by decide +kernel
theorem dX6_goOnFromOne_34 : decode cX6_goOnFromOne 34 = .ok (.aload_n 0, 1) := by decide +kernel
theorem dX6_goOnFromOne_35 : decode cX6_goOnFromOne 35 = .ok (.getfield 42, 3) := by decide +kernel
theorem dX6_goOnFromOne_38 : decode cX6_goOnFromOne 38 = .ok (.invokevirtual 128, 3) := by decide +kernel
theorem dX6_goOnFromOne_41 : decode cX6_goOnFromOne 41 = .ok (.ifCond .eq 11, 3) := by decide +kernel
theorem dX6_goOnFromOne_44 : decode cX6_goOnFromOne 44 = .ok (.aload_n 0, 1) := by decide +kernel
theorem dX6_goOnFromOne_45 : decode cX6_goOnFromOne 45 = .ok (.bipush 100, 2) := by decide +kernel
theorem dX6_goOnFromOne_47 : decode cX6_goOnFromOne 47 = .ok (.iload_n 1, 1) := by decide +kernel
theorem dX6_goOnFromOne_48 : decode cX6_goOnFromOne 48 = .ok (.invokevirtual 132, 3) := by decide +kernel
theorem dX6_goOnFromOne_51 : decode cX6_goOnFromOne 51 = .ok (.return_, 1) := by decide +kernel
theorem dX6_goOnFromOne_52 : decode cX6_goOnFromOne 52 = .ok (.aload_n 0, 1) := by decide +kernel
theorem dX6_goOnFromOne_53 : decode cX6_goOnFromOne 53 = .ok (.getfield 53, 3) := by decide +kernel
theorem dX6_goOnFromOne_56 : decode cX6_goOnFromOne 56 = .ok (.bipush 112, 2) := by decide +kernel
theorem dX6_goOnFromOne_58 : decode cX6_goOnFromOne 58 = .ok (.if_icmp .ne 10, 3) := by decide +kernel
theorem dX6_goOnFromOne_61 : decode cX6_goOnFromOne 61 = .ok (.aload_n 0, 1) := by decide +kernel
theorem dX6_goOnFromOne_62 : decode cX6_goOnFromOne 62 = .ok (.invokevirtual 136, 3) := by decide +kernel
theorem dX6_goOnFromOne_65 : decode cX6_goOnFromOne 65 = .ok (.goto 4, 3) := by decide +kernel
theorem dX6_goOnFromOne_68 : decode cX6_goOnFromOne 68 = .ok (.iconst (-1), 1) := by decide +kernel
theorem dX6_goOnFromOne_69 : decode cX6_goOnFromOne 69 = .ok (.istore_n 2, 1) := by decide +kernel
theorem dX6_goOnFromOne_70 : decode cX6_goOnFromOne 70 = .ok (.iconst 0, 1) := by decide +kernel
theorem dX6_goOnFromOne_71 : decode cX6_goOnFromOne 71 = .ok (.istore_n 3, 1) := by decide +kernel
theorem dX6_goOnFromOne_72 : decode cX6_goOnFromOne 72 = .ok (.iload_n 3, 1) := by decide +kernel
theorem dX6_goOnFromOne_73 : decode cX6_goOnFromOne 73 = .ok (.aload_n 0, 1) := by decide +kernel
theorem dX6_goOnFromOne_74 : decode cX6_goOnFromOne 74 = .ok (.getfield 35, 3) := by decide +kernel
theorem dX6_goOnFromOne_77 : decode cX6_goOnFromOne 77 = .ok (.getfield 127, 3) := by decide +kernel
theorem dX6_goOnFromOne_80 : decode cX6_goOnFromOne 80 = .ok (.if_icmp .ge 48, 3) := by decide +kernel
theorem dX6_goOnFromOne_83 : decode cX6_goOnFromOne 83 = .ok (.aload_n 0, 1) := by decide +kernel
theorem dX6_goOnFromOne_84 : decode cX6_goOnFromOne 84 = .ok (.invokevirtual 117, 3) := by decide +kernel
theorem dX6_goOnFromOne_87 : decode cX6_goOnFromOne 87 = .ok (.ifCond .ne 41, 3) := by decide +kernel
theorem dX6_goOnFromOne_90 : decode cX6_goOnFromOne 90 = .ok (.aload_n 0, 1) := by decide +kernel
theorem dX6_goOnFromOne_91 : decode cX6_goOnFromOne 91 = .ok (.getfield 35, 3) := by decide +kernel
theorem dX6_goOnFromOne_94 : decode cX6_goOnFromOne 94 = .ok (.getfield 140, 3) := by decide +kernel
theorem dX6_goOnFromOne_97 : decode cX6_goOnFromOne 97 = .ok (.iload_n 3, 1) := by decide +kernel
theorem dX6_goOnFromOne_98 : decode cX6_goOnFromOne 98 = .ok (.iaload, 1) := by decide +kernel
theorem dX6_goOnFromOne_99 : decode cX6_goOnFromOne 99 = .ok (.istore 4, 2) := by decide +kernel
theorem dX6_goOnFromOne_101 : decode cX6_goOnFromOne 101 = .ok (.iload_n 2, 1) := by decide +kernel
theorem dX6_goOnFromOne_102 : decode cX6_goOnFromOne 102 = .ok (.iconst (-1), 1) := by decide +kernel
theorem dX6_goOnFromOne_103 : decode cX6_goOnFromOne 103 = .ok (.if_icmp .eq 12, 3) := by decide +kernel
theorem dX6_goOnFromOne_106 : decode cX6_goOnFromOne 106 = .ok (.iload 4, 2) := by decide +kernel
theorem dX6_goOnFromOne_108 : decode cX6_goOnFromOne 108 = .ok (.invokestatic 143, 3) := by decide +kernel
theorem dX6_goOnFromOne_111 : decode cX6_goOnFromOne 111 = .ok (.iload_n 2, 1) := by decide +kernel
theorem dX6_goOnFromOne_112 : decode cX6_goOnFromOne 112 = .ok (.if_icmp .ne 10, 3) := by decide +kernel
theorem dX6_goOnFromOne_115 : decode cX6_goOnFromOne 115 = .ok (.aload_n 0, 1) := by decide +kernel
theorem dX6_goOnFromOne_116 : decode cX6_goOnFromOne 116 = .ok (.iload 4, 2) := by decide +kernel
theorem dX6_goOnFromOne_118 : decode cX6_goOnFromOne 118 = .ok (.iload_n 1, 1) := by decide +kernel
theorem dX6_goOnFromOne_119 : decode cX6_goOnFromOne 119 = .ok (.invokevirtual 147, 3) := by decide +kernel
theorem dX6_goOnFromOne_122 : decode cX6_goOnFromOne 122 = .ok (.iinc 3 1, 3) := by decide +kernel
theorem dX6_goOnFromOne_125 : decode cX6_goOnFromOne 125 = .ok (.goto (-53), 3) := by decide +kernel
theorem dX6_goOnFromOne_128 : decode cX6_goOnFromOne 128 = .ok (.aload_n 0, 1) := by decide +kernel
theorem dX6_goOnFromOne_129 : decode cX6_goOnFromOne 129 = .ok (.getfield 26, 3) := by decide +kernel
theorem dX6_goOnFromOne_132 : decode cX6_goOnFromOne 132 = .ok (.invokevirtual 151, 3) := by decide +kernel
theorem dX6_goOnFromOne_135 : decode cX6_goOnFromOne 135 = .ok (.return_, 1) := by decide +kernel
theorem dX6_listMoves_0 : decode cX6_listMoves 0 = .ok (.aload_n 0, 1) := by decide +kernel
theorem dX6_listMoves_1 : decode cX6_listMoves 1 = .ok (.getfield 42, 3) := by decide +kernel
theorem dX6_listMoves_4 : decode cX6_listMoves 4 = .ok (.aload_n 0, 1) := by decide +kernel
theorem dX6_listMoves_5 : decode cX6_listMoves 5 = .ok (.getfield 22, 3) := by decide +kernel
theorem dX6_listMoves_8 : decode cX6_listMoves 8 = .ok (.getfield 154, 3) := by decide +kernel
theorem dX6_listMoves_11 : decode cX6_listMoves 11 = .ok (.iload_n 1, 1) := by decide +kernel
theorem dX6_listMoves_12 : decode cX6_listMoves 12 = .ok (.laload, 1) := by decide +kernel
theorem dX6_listMoves_13 : decode cX6_listMoves 13 = .ok (.invokevirtual 158, 3) := by decide +kernel
theorem dX6_listMoves_16 : decode cX6_listMoves 16 = .ok (.aload_n 0, 1) := by decide +kernel
theorem dX6_listMoves_17 : decode cX6_listMoves 17 = .ok (.getfield 35, 3) := by decide +kernel
theorem dX6_listMoves_20 : decode cX6_listMoves 20 = .ok (.aload_n 0, 1) := by decide +kernel
theorem dX6_listMoves_21 : decode cX6_listMoves 21 = .ok (.getfield 42, 3) := by decide +kernel
theorem dX6_listMoves_24 : decode cX6_listMoves 24 = .ok (.invokevirtual 162, 3) := by decide +kernel
theorem dX6_listMoves_27 : decode cX6_listMoves 27 = .ok (.aload_n 0, 1) := by decide +kernel
theorem dX6_listMoves_28 : decode cX6_listMoves 28 = .ok (.getfield 22, 3) := by decide +kernel
theorem dX6_listMoves_31 : decode cX6_listMoves 31 = .ok (.getfield 166, 3) := by decide +kernel
theorem dX6_listMoves_34 : decode cX6_listMoves 34 = .ok (.iload_n 1, 1) := by decide +kernel
theorem dX6_listMoves_35 : decode cX6_listMoves 35 = .ok (.aload_n 0, 1) := by decide +kernel
theorem dX6_listMoves_36 : decode cX6_listMoves 36 = .ok (.getfield 35, 3) := by decide +kernel
theorem dX6_listMoves_39 : decode cX6_listMoves 39 = .ok (.getfield 127, 3) := by decide +kernel
theorem dX6_listMoves_42 : decode cX6_listMoves 42 = .ok (.iastore, 1) := by decide +kernel
theorem dX6_listMoves_43 : decode cX6_listMoves 43 = .ok (.return_, 1) := by decide +kernel
theorem dX6_processThatGoesAlone_0 : decode cX6_processThatGoesAlone 0 = .ok (.iconst 0, 1) := by decide +kernel
theorem dX6_processThatGoesAlone_1 : decode cX6_processThatGoesAlone 1 = .ok (.istore_n 1, 1) := by decide +kernel
theorem dX6_processThatGoesAlone_2 : decode cX6_processThatGoesAlone 2 = .ok (.iload_n 1, 1) := by decide +kernel
theorem dX6_processThatGoesAlone_3 : decode cX6_processThatGoesAlone 3 = .ok (.aload_n 0, 1) := by decide +kernel
theorem dX6_processThatGoesAlone_4 : decode cX6_processThatGoesAlone 4 = .ok (.getfield 18, 3) := by decide +kernel
theorem dX6_processThatGoesAlone_7 : decode cX6_processThatGoesAlone 7 = .ok (.getfield 101, 3) := by decide +kernel
theorem dX6_processThatGoesAlone_10 : decode cX6_processThatGoesAlone 10 = .ok (.if_icmp .ge 52, 3) := by decide +kernel
theorem dX6_processThatGoesAlone_13 : decode cX6_processThatGoesAlone 13 = .ok (.aload_n 0, 1) := by decide +kernel
theorem dX6_processThatGoesAlone_14 : decode cX6_processThatGoesAlone 14 = .ok (.getfield 18, 3) := by decide +kernel
theorem dX6_processThatGoesAlone_17 : decode cX6_processThatGoesAlone 17 = .ok (.iload_n 1, 1) := by decide +kernel
theorem dX6_processThatGoesAlone_18 : decode cX6_processThatGoesAlone 18 = .ok (.aload_n 0, 1) := by decide +kernel
theorem dX6_processThatGoesAlone_19 : decode cX6_processThatGoesAlone 19 = .ok (.getfield 42, 3) := by decide +kernel
theorem dX6_processThatGoesAlone_22 : decode cX6_processThatGoesAlone 22 = .ok (.getfield 169, 3) := by decide +kernel
theorem dX6_processThatGoesAlone_25 : decode cX6_processThatGoesAlone 25 = .ok (.iload_n 1, 1) := by decide +kernel
theorem dX6_processThatGoesAlone_26 : decode cX6_processThatGoesAlone 26 = .ok (.iaload, 1) := by decide +kernel
theorem dX6_processThatGoesAlone_27 : decode cX6_processThatGoesAlone 27 = .ok (.invokevirtual 172, 3) := by decide +kernel
theorem dX6_processThatGoesAlone_30 : decode cX6_processThatGoesAlone 30 = .ok (.istore_n 2, 1) := by decide +kernel
theorem dX6_processThatGoesAlone_31 : decode cX6_processThatGoesAlone 31 = .ok (.iload_n 2, 1) := by decide +kernel
theorem dX6_processThatGoesAlone_32 : decode cX6_processThatGoesAlone 32 = .ok (.ifCond .eq 24, 3) := by decide +kernel
theorem dX6_processThatGoesAlone_35 : decode cX6_processThatGoesAlone 35 = .ok (.aload_n 0, 1) := by decide +kernel
theorem dX6_processThatGoesAlone_36 : decode cX6_processThatGoesAlone 36 = .ok (.getfield 35, 3) := by decide +kernel
theorem dX6_processThatGoesAlone_39 : decode cX6_processThatGoesAlone 39 = .ok (.iload_n 1, 1) := by decide +kernel
theorem dX6_processThatGoesAlone_40 : decode cX6_processThatGoesAlone 40 = .ok (.invokevirtual 175, 3) := by decide +kernel
theorem dX6_processThatGoesAlone_43 : decode cX6_processThatGoesAlone 43 = .ok (.ifCond .eq 13, 3) := by decide +kernel
theorem dX6_processThatGoesAlone_46 : decode cX6_processThatGoesAlone 46 = .ok (.aload_n 0, 1) := by decide +kernel
theorem dX6_processThatGoesAlone_47 : decode cX6_processThatGoesAlone 47 = .ok (.iload_n 1, 1) := by decide +kernel
theorem dX6_processThatGoesAlone_48 : decode cX6_processThatGoesAlone 48 = .ok (.invokevirtual 179, 3) := by decide +kernel
theorem dX6_processThatGoesAlone_51 : decode cX6_processThatGoesAlone 51 = .ok (.ifCond .eq 5, 3) := by decide +kernel
theorem dX6_processThatGoesAlone_54 : decode cX6_processThatGoesAlone 54 = .ok (.iload_n 1, 1) := by decide +kernel
theorem dX6_processThatGoesAlone_55 : decode cX6_processThatGoesAlone 55 = .ok (.ireturn, 1) := by decide +kernel
theorem dX6_processThatGoesAlone_56 : decode cX6_processThatGoesAlone 56 = .ok (.iinc 1 1, 3) := by decide +kernel
theorem dX6_processThatGoesAlone_59 : decode cX6_processThatGoesAlone 59 = .ok (.goto (-57), 3) := by decide +kernel
theorem dX6_processThatGoesAlone_62 : decode cX6_processThatGoesAlone 62 = .ok (.iconst (-1), 1) := by decide +kernel
theorem dX6_processThatGoesAlone_63 : decode cX6_processThatGoesAlone 63 = .ok (.ireturn, 1) := by decide +kernel
theorem dX6_leadsToNewAlone_0 : decode cX6_leadsToNewAlone 0 = .ok (.iconst 0, 1) := by decide +kernel
theorem dX6_leadsToNewAlone_1 : decode cX6_leadsToNewAlone 1 = .ok (.istore_n 2, 1) := by decide +kernel
theorem dX6_leadsToNewAlone_2 : decode cX6_leadsToNewAlone 2 = .ok (.iload_n 2, 1) := by decide +kernel
theorem dX6_leadsToNewAlone_3 : decode cX6_leadsToNewAlone 3 = .ok (.aload_n 0, 1) := by decide +kernel
theorem dX6_leadsToNewAlone_4 : decode cX6_leadsToNewAlone 4 = .ok (.getfield 35, 3) := by decide +kernel
theorem dX6_leadsToNewAlone_7 : decode cX6_leadsToNewAlone 7 = .ok (.getfield 127, 3) := by decide +kernel
theorem dX6_leadsToNewAlone_10 : decode cX6_leadsToNewAlone 10 = .ok (.if_icmp .ge 52, 3) := by decide +kernel
theorem dX6_leadsToNewAlone_13 : decode cX6_leadsToNewAlone 13 = .ok (.aload_n 0, 1) := by decide +kernel
theorem dX6_leadsToNewAlone_14 : decode cX6_leadsToNewAlone 14 = .ok (.getfield 35, 3) := by decide +kernel
theorem dX6_leadsToNewAlone_17 : decode cX6_leadsToNewAlone 17 = .ok (.getfield 140, 3) := by decide +kernel
theorem dX6_leadsToNewAlone_20 : decode cX6_leadsToNewAlone 20 = .ok (.iload_n 2, 1) := by decide +kernel
theorem dX6_leadsToNewAlone_21 : decode cX6_leadsToNewAlone 21 = .ok (.iaload, 1) := by decide +kernel
theorem dX6_leadsToNewAlone_22 : decode cX6_leadsToNewAlone 22 = .ok (.istore_n 3, 1) := by decide +kernel
theorem dX6_leadsToNewAlone_23 : decode cX6_leadsToNewAlone 23 = .ok (.iload_n 3, 1) := by decide +kernel
theorem dX6_leadsToNewAlone_24 : decode cX6_leadsToNewAlone 24 = .ok (.invokestatic 143, 3) := by decide +kernel
theorem dX6_leadsToNewAlone_27 : decode cX6_leadsToNewAlone 27 = .ok (.iload_n 1, 1) := by decide +kernel
theorem dX6_leadsToNewAlone_28 : decode cX6_leadsToNewAlone 28 = .ok (.if_icmp .ne 28, 3) := by decide +kernel
theorem dX6_leadsToNewAlone_31 : decode cX6_leadsToNewAlone 31 = .ok (.aload_n 0, 1) := by decide +kernel
theorem dX6_leadsToNewAlone_32 : decode cX6_leadsToNewAlone 32 = .ok (.iload_n 3, 1) := by decide +kernel
theorem dX6_leadsToNewAlone_33 : decode cX6_leadsToNewAlone 33 = .ok (.invokevirtual 182, 3) := by decide +kernel
theorem dX6_leadsToNewAlone_36 : decode cX6_leadsToNewAlone 36 = .ok (.aload_n 0, 1) := by decide +kernel
theorem dX6_leadsToNewAlone_37 : decode cX6_leadsToNewAlone 37 = .ok (.getfield 22, 3) := by decide +kernel
theorem dX6_leadsToNewAlone_40 : decode cX6_leadsToNewAlone 40 = .ok (.aload_n 0, 1) := by decide +kernel
theorem dX6_leadsToNewAlone_41 : decode cX6_leadsToNewAlone 41 = .ok (.getfield 46, 3) := by decide +kernel
theorem dX6_leadsToNewAlone_44 : decode cX6_leadsToNewAlone 44 = .ok (.invokevirtual 87, 3) := by decide +kernel
theorem dX6_leadsToNewAlone_47 : decode cX6_leadsToNewAlone 47 = .ok (.invokevirtual 185, 3) := by decide +kernel
theorem dX6_leadsToNewAlone_50 : decode cX6_leadsToNewAlone 50 = .ok (.iconst (-1), 1) := by decide +kernel
theorem dX6_leadsToNewAlone_51 : decode cX6_leadsToNewAlone 51 = .ok (.if_icmp .eq 5, 3) := by decide +kernel
theorem dX6_leadsToNewAlone_54 : decode cX6_leadsToNewAlone 54 = .ok (.iconst 0, 1) := by decide +kernel
theorem dX6_leadsToNewAlone_55 : decode cX6_leadsToNewAlone 55 = .ok (.ireturn, 1) := by decide +kernel
theorem dX6_leadsToNewAlone_56 : decode cX6_leadsToNewAlone 56 = .ok (.iinc 2 1, 3) := by decide +kernel
theorem dX6_leadsToNewAlone_59 : decode cX6_leadsToNewAlone 59 = .ok (.goto (-57), 3) := by decide +kernel
theorem dX6_leadsToNewAlone_62 : decode cX6_leadsToNewAlone 62 = .ok (.iconst 1, 1) := by decide +kernel
theorem dX6_leadsToNewAlone_63 : decode cX6_leadsToNewAlone 63 = .ok (.ireturn, 1) := by decide +kernel
theorem dX6_make_0 : decode cX6_make 0 = .ok (.aload_n 0, 1) := by decide +kernel
theorem dX6_make_1 : decode cX6_make 1 = .ok (.getfield 42, 3) := by decide +kernel
theorem dX6_make_4 : decode cX6_make 4 = .ok (.iload_n 1, 1) := by decide +kernel
theorem dX6_make_5 : decode cX6_make 5 = .ok (.invokevirtual 189, 3) := by decide +kernel
theorem dX6_make_8 : decode cX6_make 8 = .ok (.ifCond .eq 31, 3) := by decide +kernel
theorem dX6_make_11 : decode cX6_make 11 = .ok (.aload_n 0, 1) := by decide +kernel
theorem dX6_make_12 : decode cX6_make 12 = .ok (.bipush 97, 2) := by decide +kernel
theorem dX6_make_14 : decode cX6_make 14 = .ok (.iload_n 2, 1) := by decide +kernel
theorem dX6_make_15 : decode cX6_make 15 = .ok (.invokevirtual 132, 3) := by decide +kernel
theorem dX6_make_18 : decode cX6_make 18 = .ok (.aload_n 0, 1) := by decide +kernel
theorem dX6_make_19 : decode cX6_make 19 = .ok (.getfield 15, 3) := by decide +kernel
theorem dX6_make_22 : decode cX6_make 22 = .ok (.aload_n 0, 1) := by decide +kernel
theorem dX6_make_23 : decode cX6_make 23 = .ok (.getfield 68, 3) := by decide +kernel
theorem dX6_make_26 : decode cX6_make 26 = .ok (.iload_n 1, 1) := by decide +kernel
theorem dX6_make_27 : decode cX6_make 27 = .ok (.iastore, 1) := by decide +kernel
theorem dX6_make_28 : decode cX6_make 28 = .ok (.aload_n 0, 1) := by decide +kernel
theorem dX6_make_29 : decode cX6_make 29 = .ok (.dup, 1) := by decide +kernel
theorem dX6_make_30 : decode cX6_make 30 = .ok (.getfield 68, 3) := by decide +kernel
theorem dX6_make_33 : decode cX6_make 33 = .ok (.iconst 1, 1) := by decide +kernel
theorem dX6_make_34 : decode cX6_make 34 = .ok (.iadd, 1) := by decide +kernel
theorem dX6_make_35 : decode cX6_make 35 = .ok (.putfield 68, 3) := by decide +kernel
theorem dX6_make_38 : decode cX6_make 38 = .ok (.return_, 1) := by decide +kernel
theorem dX6_make_39 : decode cX6_make 39 = .ok (.aload_n 0, 1) := by decide +kernel
theorem dX6_make_40 : decode cX6_make 40 = .ok (.dup, 1) := by decide +kernel
theorem dX6_make_41 : decode cX6_make 41 = .ok (.getfield 61, 3) := by decide +kernel
theorem dX6_make_44 : decode cX6_make 44 = .ok (.lconst 1, 1) := by decide +kernel
theorem dX6_make_45 : decode cX6_make 45 = .ok (.ladd, 1) := by decide +kernel
theorem dX6_make_46 : decode cX6_make 46 = .ok (.putfield 61, 3) := by decide +kernel
theorem dX6_make_49 : decode cX6_make 49 = .ok (.aload_n 0, 1) := by decide +kernel
theorem dX6_make_50 : decode cX6_make 50 = .ok (.iload_n 1, 1) := by decide +kernel
theorem dX6_make_51 : decode cX6_make 51 = .ok (.invokevirtual 182, 3) := by decide +kernel
theorem dX6_make_54 : decode cX6_make 54 = .ok (.aload_n 0, 1) := by decide +kernel
theorem dX6_make_55 : decode cX6_make 55 = .ok (.getfield 46, 3) := by decide +kernel
theorem dX6_make_58 : decode cX6_make 58 = .ok (.invokevirtual 87, 3) := by decide +kernel
theorem dX6_make_61 : decode cX6_make 61 = .ok (.lstore_n 3, 1) := by decide +kernel
theorem dX6_make_62 : decode cX6_make 62 = .ok (.aload_n 0, 1) := by decide +kernel
theorem dX6_make_63 : decode cX6_make 63 = .ok (.getfield 22, 3) := by decide +kernel
theorem dX6_make_66 : decode cX6_make 66 = .ok (.lload_n 3, 1) := by decide +kernel
theorem dX6_make_67 : decode cX6_make 67 = .ok (.invokevirtual 185, 3) := by decide +kernel
theorem dX6_make_70 : decode cX6_make 70 = .ok (.istore 5, 2) := by decide +kernel
theorem dX6_make_72 : decode cX6_make 72 = .ok (.iload 5, 2) := by decide +kernel
theorem dX6_make_74 : decode cX6_make 74 = .ok (.iconst (-1), 1) := by decide +kernel
theorem dX6_make_75 : decode cX6_make 75 = .ok (.if_icmp .ne 12, 3) := by decide +kernel
theorem dX6_make_78 : decode cX6_make 78 = .ok (.aload_n 0, 1) := by decide +kernel
theorem dX6_make_79 : decode cX6_make 79 = .ok (.lload_n 3, 1) := by decide +kernel
theorem dX6_make_80 : decode cX6_make 80 = .ok (.iload_n 2, 1) := by decide +kernel
theorem dX6_make_81 : decode cX6_make 81 = .ok (.iload_n 1, 1) := by decide +kernel
theorem dX6_make_82 : decode cX6_make 82 = .ok (.invokevirtual 91, 3) := by decide +kernel
theorem dX6_make_85 : decode cX6_make 85 = .ok (.istore 5, 2) := by decide +kernel
theorem dX6_make_87 : decode cX6_make 87 = .ok (.aload_n 0, 1) := by decide +kernel
theorem dX6_make_88 : decode cX6_make 88 = .ok (.getfield 53, 3) := by decide +kernel
theorem dX6_make_91 : decode cX6_make 91 = .ok (.bipush 97, 2) := by decide +kernel
theorem dX6_make_93 : decode cX6_make 93 = .ok (.if_icmp .ne 16, 3) := by decide +kernel
theorem dX6_make_96 : decode cX6_make 96 = .ok (.aload_n 0, 1) := by decide +kernel
theorem dX6_make_97 : decode cX6_make 97 = .ok (.getfield 26, 3) := by decide +kernel
theorem dX6_make_100 : decode cX6_make 100 = .ok (.iload 5, 2) := by decide +kernel
theorem dX6_make_102 : decode cX6_make 102 = .ok (.iload_n 1, 1) := by decide +kernel
theorem dX6_make_103 : decode cX6_make 103 = .ok (.invokestatic 192, 3) := by decide +kernel
theorem dX6_make_106 : decode cX6_make 106 = .ok (.invokevirtual 195, 3) := by decide +kernel
theorem dX6_make_109 : decode cX6_make 109 = .ok (.return_, 1) := by decide +kernel
theorem dX6_goBehind_0 : decode cX6_goBehind 0 = .ok (.aload_n 0, 1) := by decide +kernel
theorem dX6_goBehind_1 : decode cX6_goBehind 1 = .ok (.getfield 46, 3) := by decide +kernel
theorem dX6_goBehind_4 : decode cX6_goBehind 4 = .ok (.aload_n 0, 1) := by decide +kernel
theorem dX6_goBehind_5 : decode cX6_goBehind 5 = .ok (.getfield 42, 3) := by decide +kernel
theorem dX6_goBehind_8 : decode cX6_goBehind 8 = .ok (.invokevirtual 198, 3) := by decide +kernel
theorem dX6_goBehind_11 : decode cX6_goBehind 11 = .ok (.aload_n 0, 1) := by decide +kernel
theorem dX6_goBehind_12 : decode cX6_goBehind 12 = .ok (.getfield 46, 3) := by decide +kernel
theorem dX6_goBehind_15 : decode cX6_goBehind 15 = .ok (.iload_n 1, 1) := by decide +kernel
theorem dX6_goBehind_16 : decode cX6_goBehind 16 = .ok (.invokevirtual 201, 3) := by decide +kernel
theorem dX6_goBehind_19 : decode cX6_goBehind 19 = .ok (.aload_n 0, 1) := by decide +kernel
theorem dX6_goBehind_20 : decode cX6_goBehind 20 = .ok (.getfield 46, 3) := by decide +kernel
theorem dX6_goBehind_23 : decode cX6_goBehind 23 = .ok (.aload_n 0, 1) := by decide +kernel
theorem dX6_goBehind_24 : decode cX6_goBehind 24 = .ok (.getfield 9, 3) := by decide +kernel
theorem dX6_goBehind_27 : decode cX6_goBehind 27 = .ok (.invokevirtual 204, 3) := by decide +kernel
theorem dX6_goBehind_30 : decode cX6_goBehind 30 = .ok (.return_, 1) := by decide +kernel
theorem dX6_find_0 : decode cX6_find 0 = .ok (.aload_n 0, 1) := by decide +kernel
theorem dX6_find_1 : decode cX6_find 1 = .ok (.getfield 22, 3) := by decide +kernel
theorem dX6_find_4 : decode cX6_find 4 = .ok (.lload_n 1, 1) := by decide +kernel
theorem dX6_find_5 : decode cX6_find 5 = .ok (.aload_n 0, 1) := by decide +kernel
theorem dX6_find_6 : decode cX6_find 6 = .ok (.getfield 46, 3) := by decide +kernel
theorem dX6_find_9 : decode cX6_find 9 = .ok (.invokevirtual 208, 3) := by decide +kernel
theorem dX6_find_12 : decode cX6_find 12 = .ok (.iload_n 3, 1) := by decide +kernel
theorem dX6_find_13 : decode cX6_find 13 = .ok (.iload 4, 2) := by decide +kernel
theorem dX6_find_15 : decode cX6_find 15 = .ok (.invokevirtual 211, 3) := by decide +kernel
theorem dX6_find_18 : decode cX6_find 18 = .ok (.istore 5, 2) := by decide +kernel
theorem dX6_find_20 : decode cX6_find 20 = .ok (.aload_n 0, 1) := by decide +kernel
theorem dX6_find_21 : decode cX6_find 21 = .ok (.getfield 18, 3) := by decide +kernel
theorem dX6_find_24 : decode cX6_find 24 = .ok (.aload_n 0, 1) := by decide +kernel
theorem dX6_find_25 : decode cX6_find 25 = .ok (.getfield 46, 3) := by decide +kernel
theorem dX6_find_28 : decode cX6_find 28 = .ok (.invokevirtual 215, 3) := by decide +kernel
theorem dX6_find_31 : decode cX6_find 31 = .ok (.ifCond .eq 11, 3) := by decide +kernel
theorem dX6_find_34 : decode cX6_find 34 = .ok (.aload_n 0, 1) := by decide +kernel
theorem dX6_find_35 : decode cX6_find 35 = .ok (.bipush 105, 2) := by decide +kernel
theorem dX6_find_37 : decode cX6_find 37 = .ok (.iload 5, 2) := by decide +kernel
theorem dX6_find_39 : decode cX6_find 39 = .ok (.invokevirtual 132, 3) := by decide +kernel
theorem dX6_find_42 : decode cX6_find 42 = .ok (.iload 5, 2) := by decide +kernel
theorem dX6_find_44 : decode cX6_find 44 = .ok (.ireturn, 1) := by decide +kernel
theorem dX6_endWith_0 : decode cX6_endWith 0 = .ok (.aload_n 0, 1) := by decide +kernel
theorem dX6_endWith_1 : decode cX6_endWith 1 = .ok (.iload_n 1, 1) := by decide +kernel
theorem dX6_endWith_2 : decode cX6_endWith 2 = .ok (.putfield 65, 3) := by decide +kernel
theorem dX6_endWith_5 : decode cX6_endWith 5 = .ok (.aload_n 0, 1) := by decide +kernel
theorem dX6_endWith_6 : decode cX6_endWith 6 = .ok (.aload_n 0, 1) := by decide +kernel
theorem dX6_endWith_7 : decode cX6_endWith 7 = .ok (.getfield 22, 3) := by decide +kernel
theorem dX6_endWith_10 : decode cX6_endWith 10 = .ok (.getfield 218, 3) := by decide +kernel
theorem dX6_endWith_13 : decode cX6_endWith 13 = .ok (.iload_n 2, 1) := by decide +kernel
theorem dX6_endWith_14 : decode cX6_endWith 14 = .ok (.iaload, 1) := by decide +kernel
theorem dX6_endWith_15 : decode cX6_endWith 15 = .ok (.putfield 68, 3) := by decide +kernel
theorem dX6_endWith_18 : decode cX6_endWith 18 = .ok (.iload_n 2, 1) := by decide +kernel
theorem dX6_endWith_19 : decode cX6_endWith 19 = .ok (.istore_n 3, 1) := by decide +kernel
theorem dX6_endWith_20 : decode cX6_endWith 20 = .ok (.aload_n 0, 1) := by decide +kernel
theorem dX6_endWith_21 : decode cX6_endWith 21 = .ok (.getfield 68, 3) := by decide +kernel
theorem dX6_endWith_24 : decode cX6_endWith 24 = .ok (.iconst 1, 1) := by decide +kernel
theorem dX6_endWith_25 : decode cX6_endWith 25 = .ok (.isub, 1) := by decide +kernel
theorem dX6_endWith_26 : decode cX6_endWith 26 = .ok (.istore 4, 2) := by decide +kernel
theorem dX6_endWith_28 : decode cX6_endWith 28 = .ok (.iload 4, 2) := by decide +kernel
theorem dX6_endWith_30 : decode cX6_endWith 30 = .ok (.ifCond .lt 35, 3) := by decide +kernel
theorem dX6_endWith_33 : decode cX6_endWith 33 = .ok (.aload_n 0, 1) := by decide +kernel
theorem dX6_endWith_34 : decode cX6_endWith 34 = .ok (.getfield 15, 3) := by decide +kernel
theorem dX6_endWith_37 : decode cX6_endWith 37 = .ok (.iload 4, 2) := by decide +kernel
theorem dX6_endWith_39 : decode cX6_endWith 39 = .ok (.aload_n 0, 1) := by decide +kernel
theorem dX6_endWith_40 : decode cX6_endWith 40 = .ok (.getfield 22, 3) := by decide +kernel
theorem dX6_endWith_43 : decode cX6_endWith 43 = .ok (.getfield 221, 3) := by decide +kernel
theorem dX6_endWith_46 : decode cX6_endWith 46 = .ok (.iload_n 3, 1) := by decide +kernel
theorem dX6_endWith_47 : decode cX6_endWith 47 = .ok (.iaload, 1) := by decide +kernel
theorem dX6_endWith_48 : decode cX6_endWith 48 = .ok (.iastore, 1) := by decide +kernel
theorem dX6_endWith_49 : decode cX6_endWith 49 = .ok (.aload_n 0, 1) := by decide +kernel
theorem dX6_endWith_50 : decode cX6_endWith 50 = .ok (.getfield 22, 3) := by decide +kernel
theorem dX6_endWith_53 : decode cX6_endWith 53 = .ok (.getfield 224, 3) := by decide +kernel
theorem dX6_endWith_56 : decode cX6_endWith 56 = .ok (.iload_n 3, 1) := by decide +kernel
theorem dX6_endWith_57 : decode cX6_endWith 57 = .ok (.iaload, 1) := by decide +kernel
theorem dX6_endWith_58 : decode cX6_endWith 58 = .ok (.istore_n 3, 1) := by decide +kernel
theorem dX6_endWith_59 : decode cX6_endWith 59 = .ok (.iinc 4 (-1), 3) := by decide +kernel
theorem dX6_endWith_62 : decode cX6_endWith 62 = .ok (.goto (-34), 3) := by decide +kernel
theorem dX6_endWith_65 : decode cX6_endWith 65 = .ok (.return_, 1) := by decide +kernel
theorem dX6_doesReplay_0 : decode cX6_doesReplay 0 = .ok (.aload_n 0, 1) := by decide +kernel
theorem dX6_doesReplay_1 : decode cX6_doesReplay 1 = .ok (.getfield 42, 3) := by decide +kernel
theorem dX6_doesReplay_4 : decode cX6_doesReplay 4 = .ok (.invokevirtual 84, 3) := by decide +kernel
theorem dX6_doesReplay_7 : decode cX6_doesReplay 7 = .ok (.iconst 0, 1) := by decide +kernel
theorem dX6_doesReplay_8 : decode cX6_doesReplay 8 = .ok (.istore_n 1, 1) := by decide +kernel
theorem dX6_doesReplay_9 : decode cX6_doesReplay 9 = .ok (.iload_n 1, 1) := by decide +kernel
theorem dX6_doesReplay_10 : decode cX6_doesReplay 10 = .ok (.aload_n 0, 1) := by decide +kernel
theorem dX6_doesReplay_11 : decode cX6_doesReplay 11 = .ok (.getfield 68, 3) := by decide +kernel
theorem dX6_doesReplay_14 : decode cX6_doesReplay 14 = .ok (.if_icmp .ge 84, 3) := by decide +kernel
theorem dX6_doesReplay_17 : decode cX6_doesReplay 17 = .ok (.aload_n 0, 1) := by decide +kernel
theorem dX6_doesReplay_18 : decode cX6_doesReplay 18 = .ok (.getfield 15, 3) := by decide +kernel
theorem dX6_doesReplay_21 : decode cX6_doesReplay 21 = .ok (.iload_n 1, 1) := by decide +kernel
theorem dX6_doesReplay_22 : decode cX6_doesReplay 22 = .ok (.iaload, 1) := by decide +kernel
theorem dX6_doesReplay_23 : decode cX6_doesReplay 23 = .ok (.istore_n 2, 1) := by decide +kernel
theorem dX6_doesReplay_24 : decode cX6_doesReplay 24 = .ok (.aload_n 0, 1) := by decide +kernel
theorem dX6_doesReplay_25 : decode cX6_doesReplay 25 = .ok (.getfield 35, 3) := by decide +kernel
theorem dX6_doesReplay_28 : decode cX6_doesReplay 28 = .ok (.aload_n 0, 1) := by decide +kernel
theorem dX6_doesReplay_29 : decode cX6_doesReplay 29 = .ok (.getfield 42, 3) := by decide +kernel
theorem dX6_doesReplay_32 : decode cX6_doesReplay 32 = .ok (.invokevirtual 162, 3) := by decide +kernel
theorem dX6_doesReplay_35 : decode cX6_doesReplay 35 = .ok (.aload_n 0, 1) := by decide +kernel
theorem dX6_doesReplay_36 : decode cX6_doesReplay 36 = .ok (.getfield 35, 3) := by decide +kernel
theorem dX6_doesReplay_39 : decode cX6_doesReplay 39 = .ok (.iload_n 2, 1) := by decide +kernel
theorem dX6_doesReplay_40 : decode cX6_doesReplay 40 = .ok (.invokevirtual 227, 3) := by decide +kernel
theorem dX6_doesReplay_43 : decode cX6_doesReplay 43 = .ok (.ifCond .ne 5, 3) := by decide +kernel
theorem dX6_doesReplay_46 : decode cX6_doesReplay 46 = .ok (.iconst 0, 1) := by decide +kernel
theorem dX6_doesReplay_47 : decode cX6_doesReplay 47 = .ok (.ireturn, 1) := by decide +kernel
theorem dX6_doesReplay_48 : decode cX6_doesReplay 48 = .ok (.aload_n 0, 1) := by decide +kernel
theorem dX6_doesReplay_49 : decode cX6_doesReplay 49 = .ok (.getfield 65, 3) := by decide +kernel
theorem dX6_doesReplay_52 : decode cX6_doesReplay 52 = .ok (.bipush 97, 2) := by decide +kernel
theorem dX6_doesReplay_54 : decode cX6_doesReplay 54 = .ok (.if_icmp .ne 22, 3) := by decide +kernel
theorem dX6_doesReplay_57 : decode cX6_doesReplay 57 = .ok (.iload_n 1, 1) := by decide +kernel
theorem dX6_doesReplay_58 : decode cX6_doesReplay 58 = .ok (.aload_n 0, 1) := by decide +kernel
theorem dX6_doesReplay_59 : decode cX6_doesReplay 59 = .ok (.getfield 68, 3) := by decide +kernel
theorem dX6_doesReplay_62 : decode cX6_doesReplay 62 = .ok (.iconst 1, 1) := by decide +kernel
theorem dX6_doesReplay_63 : decode cX6_doesReplay 63 = .ok (.isub, 1) := by decide +kernel
theorem dX6_doesReplay_64 : decode cX6_doesReplay 64 = .ok (.if_icmp .ne 12, 3) := by decide +kernel
theorem dX6_doesReplay_67 : decode cX6_doesReplay 67 = .ok (.aload_n 0, 1) := by decide +kernel
theorem dX6_doesReplay_68 : decode cX6_doesReplay 68 = .ok (.getfield 42, 3) := by decide +kernel
theorem dX6_doesReplay_71 : decode cX6_doesReplay 71 = .ok (.iload_n 2, 1) := by decide +kernel
theorem dX6_doesReplay_72 : decode cX6_doesReplay 72 = .ok (.invokevirtual 189, 3) := by decide +kernel
theorem dX6_doesReplay_75 : decode cX6_doesReplay 75 = .ok (.ireturn, 1) := by decide +kernel
theorem dX6_doesReplay_76 : decode cX6_doesReplay 76 = .ok (.aload_n 0, 1) := by decide +kernel
theorem dX6_doesReplay_77 : decode cX6_doesReplay 77 = .ok (.iload_n 2, 1) := by decide +kernel
theorem dX6_doesReplay_78 : decode cX6_doesReplay 78 = .ok (.invokevirtual 182, 3) := by decide +kernel
theorem dX6_doesReplay_81 : decode cX6_doesReplay 81 = .ok (.aload_n 0, 1) := by decide +kernel
theorem dX6_doesReplay_82 : decode cX6_doesReplay 82 = .ok (.getfield 42, 3) := by decide +kernel
theorem dX6_doesReplay_85 : decode cX6_doesReplay 85 = .ok (.aload_n 0, 1) := by decide +kernel
theorem dX6_doesReplay_86 : decode cX6_doesReplay 86 = .ok (.getfield 46, 3) := by decide +kernel
theorem dX6_doesReplay_89 : decode cX6_doesReplay 89 = .ok (.invokevirtual 198, 3) := by decide +kernel
theorem dX6_doesReplay_92 : decode cX6_doesReplay 92 = .ok (.iinc 1 1, 3) := by decide +kernel
theorem dX6_doesReplay_95 : decode cX6_doesReplay 95 = .ok (.goto (-86), 3) := by decide +kernel
theorem dX6_doesReplay_98 : decode cX6_doesReplay 98 = .ok (.aload_n 0, 1) := by decide +kernel
theorem dX6_doesReplay_99 : decode cX6_doesReplay 99 = .ok (.getfield 65, 3) := by decide +kernel
theorem dX6_doesReplay_102 : decode cX6_doesReplay 102 = .ok (.bipush 105, 2) := by decide +kernel
theorem dX6_doesReplay_104 : decode cX6_doesReplay 104 = .ok (.if_icmp .ne 15, 3) := by decide +kernel
theorem dX6_doesReplay_107 : decode cX6_doesReplay 107 = .ok (.aload_n 0, 1) := by decide +kernel
theorem dX6_doesReplay_108 : decode cX6_doesReplay 108 = .ok (.getfield 18, 3) := by decide +kernel
theorem dX6_doesReplay_111 : decode cX6_doesReplay 111 = .ok (.aload_n 0, 1) := by decide +kernel
theorem dX6_doesReplay_112 : decode cX6_doesReplay 112 = .ok (.getfield 42, 3) := by decide +kernel
theorem dX6_doesReplay_115 : decode cX6_doesReplay 115 = .ok (.invokevirtual 215, 3) := by decide +kernel
theorem dX6_doesReplay_118 : decode cX6_doesReplay 118 = .ok (.ireturn, 1) := by decide +kernel
theorem dX6_doesReplay_119 : decode cX6_doesReplay 119 = .ok (.aload_n 0, 1) := by decide +kernel
theorem dX6_doesReplay_120 : decode cX6_doesReplay 120 = .ok (.getfield 35, 3) := by decide +kernel
theorem dX6_doesReplay_123 : decode cX6_doesReplay 123 = .ok (.aload_n 0, 1) := by decide +kernel
theorem dX6_doesReplay_124 : decode cX6_doesReplay 124 = .ok (.getfield 42, 3) := by decide +kernel
theorem dX6_doesReplay_127 : decode cX6_doesReplay 127 = .ok (.invokevirtual 162, 3) := by decide +kernel
theorem dX6_doesReplay_130 : decode cX6_doesReplay 130 = .ok (.aload_n 0, 1) := by decide +kernel
theorem dX6_doesReplay_131 : decode cX6_doesReplay 131 = .ok (.getfield 65, 3) := by decide +kernel
theorem dX6_doesReplay_134 : decode cX6_doesReplay 134 = .ok (.bipush 100, 2) := by decide +kernel
theorem dX6_doesReplay_136 : decode cX6_doesReplay 136 = .ok (.if_icmp .ne 31, 3) := by decide +kernel
theorem dX6_doesReplay_139 : decode cX6_doesReplay 139 = .ok (.aload_n 0, 1) := by decide +kernel
theorem dX6_doesReplay_140 : decode cX6_doesReplay 140 = .ok (.getfield 35, 3) := by decide +kernel
theorem dX6_doesReplay_143 : decode cX6_doesReplay 143 = .ok (.getfield 127, 3) := by decide +kernel
theorem dX6_doesReplay_146 : decode cX6_doesReplay 146 = .ok (.ifCond .ne 21, 3) := by decide +kernel
theorem dX6_doesReplay_149 : decode cX6_doesReplay 149 = .ok (.aload_n 0, 1) := by decide +kernel
theorem dX6_doesReplay_150 : decode cX6_doesReplay 150 = .ok (.getfield 18, 3) := by decide +kernel
theorem dX6_doesReplay_153 : decode cX6_doesReplay 153 = .ok (.aload_n 0, 1) := by decide +kernel
theorem dX6_doesReplay_154 : decode cX6_doesReplay 154 = .ok (.getfield 42, 3) := by decide +kernel
theorem dX6_doesReplay_157 : decode cX6_doesReplay 157 = .ok (.invokevirtual 128, 3) := by decide +kernel
theorem dX6_doesReplay_160 : decode cX6_doesReplay 160 = .ok (.ifCond .eq 7, 3) := by decide +kernel
theorem dX6_doesReplay_163 : decode cX6_doesReplay 163 = .ok (.iconst 1, 1) := by decide +kernel
theorem dX6_doesReplay_164 : decode cX6_doesReplay 164 = .ok (.goto 4, 3) := by decide +kernel
theorem dX6_doesReplay_167 : decode cX6_doesReplay 167 = .ok (.iconst 0, 1) := by decide +kernel
theorem dX6_doesReplay_168 : decode cX6_doesReplay 168 = .ok (.ireturn, 1) := by decide +kernel
theorem dX6_countMoves_0 : decode cX6_countMoves 0 = .ok (.aload_n 0, 1) := by decide +kernel
theorem dX6_countMoves_1 : decode cX6_countMoves 1 = .ok (.getfield 22, 3) := by decide +kernel
theorem dX6_countMoves_4 : decode cX6_countMoves 4 = .ok (.getfield 166, 3) := by decide +kernel
theorem dX6_countMoves_7 : decode cX6_countMoves 7 = .ok (.iload_n 1, 1) := by decide +kernel
theorem dX6_countMoves_8 : decode cX6_countMoves 8 = .ok (.iaload, 1) := by decide +kernel
theorem dX6_countMoves_9 : decode cX6_countMoves 9 = .ok (.iconst (-1), 1) := by decide +kernel
theorem dX6_countMoves_10 : decode cX6_countMoves 10 = .ok (.if_icmp .ne 8, 3) := by decide +kernel
theorem dX6_countMoves_13 : decode cX6_countMoves 13 = .ok (.aload_n 0, 1) := by decide +kernel
theorem dX6_countMoves_14 : decode cX6_countMoves 14 = .ok (.iload_n 1, 1) := by decide +kernel
theorem dX6_countMoves_15 : decode cX6_countMoves 15 = .ok (.invokevirtual 123, 3) := by decide +kernel
theorem dX6_countMoves_18 : decode cX6_countMoves 18 = .ok (.aload_n 0, 1) := by decide +kernel
theorem dX6_countMoves_19 : decode cX6_countMoves 19 = .ok (.getfield 22, 3) := by decide +kernel
theorem dX6_countMoves_22 : decode cX6_countMoves 22 = .ok (.getfield 166, 3) := by decide +kernel
theorem dX6_countMoves_25 : decode cX6_countMoves 25 = .ok (.iload_n 1, 1) := by decide +kernel
theorem dX6_countMoves_26 : decode cX6_countMoves 26 = .ok (.iaload, 1) := by decide +kernel
theorem dX6_countMoves_27 : decode cX6_countMoves 27 = .ok (.ireturn, 1) := by decide +kernel
theorem dX6_countAllMoves_0 : decode cX6_countAllMoves 0 = .ok (.lconst 0, 1) := by decide +kernel
theorem dX6_countAllMoves_1 : decode cX6_countAllMoves 1 = .ok (.lstore_n 1, 1) := by decide +kernel
theorem dX6_countAllMoves_2 : decode cX6_countAllMoves 2 = .ok (.iconst 0, 1) := by decide +kernel
theorem dX6_countAllMoves_3 : decode cX6_countAllMoves 3 = .ok (.istore_n 3, 1) := by decide +kernel
theorem dX6_countAllMoves_4 : decode cX6_countAllMoves 4 = .ok (.iload_n 3, 1) := by decide +kernel
theorem dX6_countAllMoves_5 : decode cX6_countAllMoves 5 = .ok (.aload_n 0, 1) := by decide +kernel
theorem dX6_countAllMoves_6 : decode cX6_countAllMoves 6 = .ok (.getfield 22, 3) := by decide +kernel
theorem dX6_countAllMoves_9 : decode cX6_countAllMoves 9 = .ok (.getfield 114, 3) := by decide +kernel
theorem dX6_countAllMoves_12 : decode cX6_countAllMoves 12 = .ok (.if_icmp .ge 18, 3) := by decide +kernel
theorem dX6_countAllMoves_15 : decode cX6_countAllMoves 15 = .ok (.lload_n 1, 1) := by decide +kernel
theorem dX6_countAllMoves_16 : decode cX6_countAllMoves 16 = .ok (.aload_n 0, 1) := by decide +kernel
theorem dX6_countAllMoves_17 : decode cX6_countAllMoves 17 = .ok (.iload_n 3, 1) := by decide +kernel
theorem dX6_countAllMoves_18 : decode cX6_countAllMoves 18 = .ok (.invokevirtual 230, 3) := by decide +kernel
theorem dX6_countAllMoves_21 : decode cX6_countAllMoves 21 = .ok (.i2l, 1) := by decide +kernel
theorem dX6_countAllMoves_22 : decode cX6_countAllMoves 22 = .ok (.ladd, 1) := by decide +kernel
theorem dX6_countAllMoves_23 : decode cX6_countAllMoves 23 = .ok (.lstore_n 1, 1) := by decide +kernel
theorem dX6_countAllMoves_24 : decode cX6_countAllMoves 24 = .ok (.iinc 3 1, 3) := by decide +kernel
theorem dX6_countAllMoves_27 : decode cX6_countAllMoves 27 = .ok (.goto (-23), 3) := by decide +kernel
theorem dX6_countAllMoves_30 : decode cX6_countAllMoves 30 = .ok (.lload_n 1, 1) := by decide +kernel
theorem dX6_countAllMoves_31 : decode cX6_countAllMoves 31 = .ok (.lreturn, 1) := by decide +kernel
theorem dX6_codeBehind_0 : decode cX6_codeBehind 0 = .ok (.aload_n 0, 1) := by decide +kernel
theorem dX6_codeBehind_1 : decode cX6_codeBehind 1 = .ok (.iload_n 1, 1) := by decide +kernel
theorem dX6_codeBehind_2 : decode cX6_codeBehind 2 = .ok (.invokevirtual 123, 3) := by decide +kernel
theorem dX6_codeBehind_5 : decode cX6_codeBehind 5 = .ok (.aload_n 0, 1) := by decide +kernel
theorem dX6_codeBehind_6 : decode cX6_codeBehind 6 = .ok (.getfield 46, 3) := by decide +kernel
theorem dX6_codeBehind_9 : decode cX6_codeBehind 9 = .ok (.aload_n 0, 1) := by decide +kernel
theorem dX6_codeBehind_10 : decode cX6_codeBehind 10 = .ok (.getfield 42, 3) := by decide +kernel
theorem dX6_codeBehind_13 : decode cX6_codeBehind 13 = .ok (.invokevirtual 198, 3) := by decide +kernel
theorem dX6_codeBehind_16 : decode cX6_codeBehind 16 = .ok (.aload_n 0, 1) := by decide +kernel
theorem dX6_codeBehind_17 : decode cX6_codeBehind 17 = .ok (.getfield 46, 3) := by decide +kernel
theorem dX6_codeBehind_20 : decode cX6_codeBehind 20 = .ok (.aload_n 0, 1) := by decide +kernel
theorem dX6_codeBehind_21 : decode cX6_codeBehind 21 = .ok (.getfield 35, 3) := by decide +kernel
theorem dX6_codeBehind_24 : decode cX6_codeBehind 24 = .ok (.getfield 140, 3) := by decide +kernel
theorem dX6_codeBehind_27 : decode cX6_codeBehind 27 = .ok (.iload_n 2, 1) := by decide +kernel
theorem dX6_codeBehind_28 : decode cX6_codeBehind 28 = .ok (.iaload, 1) := by decide +kernel
theorem dX6_codeBehind_29 : decode cX6_codeBehind 29 = .ok (.invokevirtual 201, 3) := by decide +kernel
theorem dX6_codeBehind_32 : decode cX6_codeBehind 32 = .ok (.aload_n 0, 1) := by decide +kernel
theorem dX6_codeBehind_33 : decode cX6_codeBehind 33 = .ok (.getfield 46, 3) := by decide +kernel
theorem dX6_codeBehind_36 : decode cX6_codeBehind 36 = .ok (.invokevirtual 87, 3) := by decide +kernel
theorem dX6_codeBehind_39 : decode cX6_codeBehind 39 = .ok (.lreturn, 1) := by decide +kernel
theorem dX6_isConsistent_0 : decode cX6_isConsistent 0 = .ok (.iconst 0, 1) := by decide +kernel
theorem dX6_isConsistent_1 : decode cX6_isConsistent 1 = .ok (.istore_n 1, 1) := by decide +kernel
theorem dX6_isConsistent_2 : decode cX6_isConsistent 2 = .ok (.iload_n 1, 1) := by decide +kernel
theorem dX6_isConsistent_3 : decode cX6_isConsistent 3 = .ok (.aload_n 0, 1) := by decide +kernel
theorem dX6_isConsistent_4 : decode cX6_isConsistent 4 = .ok (.getfield 22, 3) := by decide +kernel
theorem dX6_isConsistent_7 : decode cX6_isConsistent 7 = .ok (.getfield 114, 3) := by decide +kernel
theorem dX6_isConsistent_10 : decode cX6_isConsistent 10 = .ok (.if_icmp .ge 45, 3) := by decide +kernel
theorem dX6_isConsistent_13 : decode cX6_isConsistent 13 = .ok (.aload_n 0, 1) := by decide +kernel
theorem dX6_isConsistent_14 : decode cX6_isConsistent 14 = .ok (.getfield 22, 3) := by decide +kernel
theorem dX6_isConsistent_17 : decode cX6_isConsistent 17 = .ok (.aload_n 0, 1) := by decide +kernel
theorem dX6_isConsistent_18 : decode cX6_isConsistent 18 = .ok (.getfield 22, 3) := by decide +kernel
theorem dX6_isConsistent_21 : decode cX6_isConsistent 21 = .ok (.getfield 154, 3) := by decide +kernel
theorem dX6_isConsistent_24 : decode cX6_isConsistent 24 = .ok (.iload_n 1, 1) := by decide +kernel
theorem dX6_isConsistent_25 : decode cX6_isConsistent 25 = .ok (.laload, 1) := by decide +kernel
theorem dX6_isConsistent_26 : decode cX6_isConsistent 26 = .ok (.invokevirtual 185, 3) := by decide +kernel
theorem dX6_isConsistent_29 : decode cX6_isConsistent 29 = .ok (.iload_n 1, 1) := by decide +kernel
theorem dX6_isConsistent_30 : decode cX6_isConsistent 30 = .ok (.if_icmp .eq 5, 3) := by decide +kernel
theorem dX6_isConsistent_33 : decode cX6_isConsistent 33 = .ok (.iconst 0, 1) := by decide +kernel
theorem dX6_isConsistent_34 : decode cX6_isConsistent 34 = .ok (.ireturn, 1) := by decide +kernel
theorem dX6_isConsistent_35 : decode cX6_isConsistent 35 = .ok (.iload_n 1, 1) := by decide +kernel
theorem dX6_isConsistent_36 : decode cX6_isConsistent 36 = .ok (.ifCond .le 13, 3) := by decide +kernel
theorem dX6_isConsistent_39 : decode cX6_isConsistent 39 = .ok (.aload_n 0, 1) := by decide +kernel
theorem dX6_isConsistent_40 : decode cX6_isConsistent 40 = .ok (.iload_n 1, 1) := by decide +kernel
theorem dX6_isConsistent_41 : decode cX6_isConsistent 41 = .ok (.invokevirtual 233, 3) := by decide +kernel
theorem dX6_isConsistent_44 : decode cX6_isConsistent 44 = .ok (.ifCond .ne 5, 3) := by decide +kernel
theorem dX6_isConsistent_47 : decode cX6_isConsistent 47 = .ok (.iconst 0, 1) := by decide +kernel
theorem dX6_isConsistent_48 : decode cX6_isConsistent 48 = .ok (.ireturn, 1) := by decide +kernel
theorem dX6_isConsistent_49 : decode cX6_isConsistent 49 = .ok (.iinc 1 1, 3) := by decide +kernel
theorem dX6_isConsistent_52 : decode cX6_isConsistent 52 = .ok (.goto (-50), 3) := by decide +kernel
theorem dX6_isConsistent_55 : decode cX6_isConsistent 55 = .ok (.aload_n 0, 1) := by decide +kernel
theorem dX6_isConsistent_56 : decode cX6_isConsistent 56 = .ok (.getfield 65, 3) := by decide +kernel
theorem dX6_isConsistent_59 : decode cX6_isConsistent 59 = .ok (.bipush 45, 2) := by decide +kernel
theorem dX6_isConsistent_61 : decode cX6_isConsistent 61 = .ok (.if_icmp .eq 10, 3) := by decide +kernel
theorem dX6_isConsistent_64 : decode cX6_isConsistent 64 = .ok (.aload_n 0, 1) := by decide +kernel
theorem dX6_isConsistent_65 : decode cX6_isConsistent 65 = .ok (.invokevirtual 236, 3) := by decide +kernel
theorem dX6_isConsistent_68 : decode cX6_isConsistent 68 = .ok (.ifCond .eq 7, 3) := by decide +kernel
theorem dX6_isConsistent_71 : decode cX6_isConsistent 71 = .ok (.iconst 1, 1) := by decide +kernel
theorem dX6_isConsistent_72 : decode cX6_isConsistent 72 = .ok (.goto 4, 3) := by decide +kernel
theorem dX6_isConsistent_75 : decode cX6_isConsistent 75 = .ok (.iconst 0, 1) := by decide +kernel
theorem dX6_isConsistent_76 : decode cX6_isConsistent 76 = .ok (.ireturn, 1) := by decide +kernel
theorem dX6_wasReached_0 : decode cX6_wasReached 0 = .ok (.aload_n 0, 1) := by decide +kernel
theorem dX6_wasReached_1 : decode cX6_wasReached 1 = .ok (.getfield 22, 3) := by decide +kernel
theorem dX6_wasReached_4 : decode cX6_wasReached 4 = .ok (.getfield 224, 3) := by decide +kernel
theorem dX6_wasReached_7 : decode cX6_wasReached 7 = .ok (.iload_n 1, 1) := by decide +kernel
theorem dX6_wasReached_8 : decode cX6_wasReached 8 = .ok (.iaload, 1) := by decide +kernel
theorem dX6_wasReached_9 : decode cX6_wasReached 9 = .ok (.istore_n 2, 1) := by decide +kernel
theorem dX6_wasReached_10 : decode cX6_wasReached 10 = .ok (.iload_n 2, 1) := by decide +kernel
theorem dX6_wasReached_11 : decode cX6_wasReached 11 = .ok (.ifCond .lt 8, 3) := by decide +kernel
theorem dX6_wasReached_14 : decode cX6_wasReached 14 = .ok (.iload_n 2, 1) := by decide +kernel
theorem dX6_wasReached_15 : decode cX6_wasReached 15 = .ok (.iload_n 1, 1) := by decide +kernel
theorem dX6_wasReached_16 : decode cX6_wasReached 16 = .ok (.if_icmp .lt 5, 3) := by decide +kernel
theorem dX6_wasReached_19 : decode cX6_wasReached 19 = .ok (.iconst 0, 1) := by decide +kernel
theorem dX6_wasReached_20 : decode cX6_wasReached 20 = .ok (.ireturn, 1) := by decide +kernel
theorem dX6_wasReached_21 : decode cX6_wasReached 21 = .ok (.aload_n 0, 1) := by decide +kernel
theorem dX6_wasReached_22 : decode cX6_wasReached 22 = .ok (.iload_n 2, 1) := by decide +kernel
theorem dX6_wasReached_23 : decode cX6_wasReached 23 = .ok (.invokevirtual 123, 3) := by decide +kernel
theorem dX6_wasReached_26 : decode cX6_wasReached 26 = .ok (.aload_n 0, 1) := by decide +kernel
theorem dX6_wasReached_27 : decode cX6_wasReached 27 = .ok (.getfield 35, 3) := by decide +kernel
theorem dX6_wasReached_30 : decode cX6_wasReached 30 = .ok (.aload_n 0, 1) := by decide +kernel
theorem dX6_wasReached_31 : decode cX6_wasReached 31 = .ok (.getfield 22, 3) := by decide +kernel
theorem dX6_wasReached_34 : decode cX6_wasReached 34 = .ok (.getfield 221, 3) := by decide +kernel
theorem dX6_wasReached_37 : decode cX6_wasReached 37 = .ok (.iload_n 1, 1) := by decide +kernel
theorem dX6_wasReached_38 : decode cX6_wasReached 38 = .ok (.iaload, 1) := by decide +kernel
theorem dX6_wasReached_39 : decode cX6_wasReached 39 = .ok (.invokevirtual 227, 3) := by decide +kernel
theorem dX6_wasReached_42 : decode cX6_wasReached 42 = .ok (.ifCond .ne 5, 3) := by decide +kernel
theorem dX6_wasReached_45 : decode cX6_wasReached 45 = .ok (.iconst 0, 1) := by decide +kernel
theorem dX6_wasReached_46 : decode cX6_wasReached 46 = .ok (.ireturn, 1) := by decide +kernel
theorem dX6_wasReached_47 : decode cX6_wasReached 47 = .ok (.aload_n 0, 1) := by decide +kernel
theorem dX6_wasReached_48 : decode cX6_wasReached 48 = .ok (.aload_n 0, 1) := by decide +kernel
theorem dX6_wasReached_49 : decode cX6_wasReached 49 = .ok (.getfield 22, 3) := by decide +kernel
theorem dX6_wasReached_52 : decode cX6_wasReached 52 = .ok (.getfield 221, 3) := by decide +kernel
theorem dX6_wasReached_55 : decode cX6_wasReached 55 = .ok (.iload_n 1, 1) := by decide +kernel
theorem dX6_wasReached_56 : decode cX6_wasReached 56 = .ok (.iaload, 1) := by decide +kernel
theorem dX6_wasReached_57 : decode cX6_wasReached 57 = .ok (.invokevirtual 182, 3) := by decide +kernel
theorem dX6_wasReached_60 : decode cX6_wasReached 60 = .ok (.aload_n 0, 1) := by decide +kernel
theorem dX6_wasReached_61 : decode cX6_wasReached 61 = .ok (.getfield 46, 3) := by decide +kernel
theorem dX6_wasReached_64 : decode cX6_wasReached 64 = .ok (.invokevirtual 87, 3) := by decide +kernel
theorem dX6_wasReached_67 : decode cX6_wasReached 67 = .ok (.aload_n 0, 1) := by decide +kernel
theorem dX6_wasReached_68 : decode cX6_wasReached 68 = .ok (.getfield 22, 3) := by decide +kernel
theorem dX6_wasReached_71 : decode cX6_wasReached 71 = .ok (.getfield 154, 3) := by decide +kernel
theorem dX6_wasReached_74 : decode cX6_wasReached 74 = .ok (.iload_n 1, 1) := by decide +kernel
theorem dX6_wasReached_75 : decode cX6_wasReached 75 = .ok (.laload, 1) := by decide +kernel
theorem dX6_wasReached_76 : decode cX6_wasReached 76 = .ok (.lcmp, 1) := by decide +kernel
theorem dX6_wasReached_77 : decode cX6_wasReached 77 = .ok (.ifCond .ne 7, 3) := by decide +kernel
theorem dX6_wasReached_80 : decode cX6_wasReached 80 = .ok (.iconst 1, 1) := by decide +kernel
theorem dX6_wasReached_81 : decode cX6_wasReached 81 = .ok (.goto 4, 3) := by decide +kernel
theorem dX6_wasReached_84 : decode cX6_wasReached 84 = .ok (.iconst 0, 1) := by decide +kernel
theorem dX6_wasReached_85 : decode cX6_wasReached 85 = .ok (.ireturn, 1) := by decide +kernel
theorem dX7_init_0 : decode cX7_init 0 = .ok (.aload_n 0, 1) := by decide +kernel
theorem dX7_init_1 : decode cX7_init 1 = .ok (.invokespecial 3, 3) := by decide +kernel
theorem dX7_init_4 : decode cX7_init 4 = .ok (.aload_n 0, 1) := by decide +kernel
theorem dX7_init_5 : decode cX7_init 5 = .ok (.iconst 3, 1) := by decide +kernel
theorem dX7_init_6 : decode cX7_init 6 = .ok (.newarray .int, 2) := by decide +kernel
theorem dX7_init_8 : decode cX7_init 8 = .ok (.putfield 9, 3) := by decide +kernel
theorem dX7_init_11 : decode cX7_init 11 = .ok (.aload_n 0, 1) := by decide +kernel
theorem dX7_init_12 : decode cX7_init 12 = .ok (.bipush 9, 2) := by decide +kernel
theorem dX7_init_14 : decode cX7_init 14 = .ok (.newarray .int, 2) := by decide +kernel
theorem dX7_init_16 : decode cX7_init 16 = .ok (.putfield 15, 3) := by decide +kernel
theorem dX7_init_19 : decode cX7_init 19 = .ok (.aload_n 0, 1) := by decide +kernel
theorem dX7_init_20 : decode cX7_init 20 = .ok (.iconst 2, 1) := by decide +kernel
theorem dX7_init_21 : decode cX7_init 21 = .ok (.newarray .int, 2) := by decide +kernel
theorem dX7_init_23 : decode cX7_init 23 = .ok (.putfield 18, 3) := by decide +kernel
theorem dX7_init_26 : decode cX7_init 26 = .ok (.aload_n 0, 1) := by decide +kernel
theorem dX7_init_27 : decode cX7_init 27 = .ok (.iconst 2, 1) := by decide +kernel
theorem dX7_init_28 : decode cX7_init 28 = .ok (.newarray .int, 2) := by decide +kernel
theorem dX7_init_30 : decode cX7_init 30 = .ok (.putfield 21, 3) := by decide +kernel
theorem dX7_init_33 : decode cX7_init 33 = .ok (.aload_n 0, 1) := by decide +kernel
theorem dX7_init_34 : decode cX7_init 34 = .ok (.iconst 2, 1) := by decide +kernel
theorem dX7_init_35 : decode cX7_init 35 = .ok (.newarray .int, 2) := by decide +kernel
theorem dX7_init_37 : decode cX7_init 37 = .ok (.putfield 24, 3) := by decide +kernel
theorem dX7_init_40 : decode cX7_init 40 = .ok (.aload_n 0, 1) := by decide +kernel
theorem dX7_init_41 : decode cX7_init 41 = .ok (.aload_n 1, 1) := by decide +kernel
theorem dX7_init_42 : decode cX7_init 42 = .ok (.putfield 27, 3) := by decide +kernel
theorem dX7_init_45 : decode cX7_init 45 = .ok (.return_, 1) := by decide +kernel
theorem dX7_goToStart_0 : decode cX7_goToStart 0 = .ok (.aload_n 0, 1) := by decide +kernel
theorem dX7_goToStart_1 : decode cX7_goToStart 1 = .ok (.getfield 9, 3) := by decide +kernel
theorem dX7_goToStart_4 : decode cX7_goToStart 4 = .ok (.iconst 0, 1) := by decide +kernel
theorem dX7_goToStart_5 : decode cX7_goToStart 5 = .ok (.invokestatic 31, 3) := by decide +kernel
theorem dX7_goToStart_8 : decode cX7_goToStart 8 = .ok (.aload_n 0, 1) := by decide +kernel
theorem dX7_goToStart_9 : decode cX7_goToStart 9 = .ok (.getfield 27, 3) := by decide +kernel
theorem dX7_goToStart_12 : decode cX7_goToStart 12 = .ok (.getfield 37, 3) := by decide +kernel
theorem dX7_goToStart_15 : decode cX7_goToStart 15 = .ok (.iconst 0, 1) := by decide +kernel
theorem dX7_goToStart_16 : decode cX7_goToStart 16 = .ok (.aload_n 0, 1) := by decide +kernel
theorem dX7_goToStart_17 : decode cX7_goToStart 17 = .ok (.getfield 15, 3) := by decide +kernel
theorem dX7_goToStart_20 : decode cX7_goToStart 20 = .ok (.iconst 0, 1) := by decide +kernel
theorem dX7_goToStart_21 : decode cX7_goToStart 21 = .ok (.bipush 9, 2) := by decide +kernel
theorem dX7_goToStart_23 : decode cX7_goToStart 23 = .ok (.invokestatic 42, 3) := by decide +kernel
theorem dX7_goToStart_26 : decode cX7_goToStart 26 = .ok (.aload_n 0, 1) := by decide +kernel
theorem dX7_goToStart_27 : decode cX7_goToStart 27 = .ok (.getfield 18, 3) := by decide +kernel
theorem dX7_goToStart_30 : decode cX7_goToStart 30 = .ok (.iconst 0, 1) := by decide +kernel
theorem dX7_goToStart_31 : decode cX7_goToStart 31 = .ok (.invokestatic 31, 3) := by decide +kernel
theorem dX7_goToStart_34 : decode cX7_goToStart 34 = .ok (.aload_n 0, 1) := by decide +kernel
theorem dX7_goToStart_35 : decode cX7_goToStart 35 = .ok (.getfield 21, 3) := by decide +kernel
theorem dX7_goToStart_38 : decode cX7_goToStart 38 = .ok (.iconst 0, 1) := by decide +kernel
theorem dX7_goToStart_39 : decode cX7_goToStart 39 = .ok (.invokestatic 31, 3) := by decide +kernel
theorem dX7_goToStart_42 : decode cX7_goToStart 42 = .ok (.aload_n 0, 1) := by decide +kernel
theorem dX7_goToStart_43 : decode cX7_goToStart 43 = .ok (.getfield 24, 3) := by decide +kernel
theorem dX7_goToStart_46 : decode cX7_goToStart 46 = .ok (.iconst 0, 1) := by decide +kernel
theorem dX7_goToStart_47 : decode cX7_goToStart 47 = .ok (.invokestatic 31, 3) := by decide +kernel
theorem dX7_goToStart_50 : decode cX7_goToStart 50 = .ok (.return_, 1) := by decide +kernel
theorem dX7_copyFrom_0 : decode cX7_copyFrom 0 = .ok (.aload_n 1, 1) := by decide +kernel
theorem dX7_copyFrom_1 : decode cX7_copyFrom 1 = .ok (.getfield 9, 3) := by decide +kernel
theorem dX7_copyFrom_4 : decode cX7_copyFrom 4 = .ok (.iconst 0, 1) := by decide +kernel
theorem dX7_copyFrom_5 : decode cX7_copyFrom 5 = .ok (.aload_n 0, 1) := by decide +kernel
theorem dX7_copyFrom_6 : decode cX7_copyFrom 6 = .ok (.getfield 9, 3) := by decide +kernel
theorem dX7_copyFrom_9 : decode cX7_copyFrom 9 = .ok (.iconst 0, 1) := by decide +kernel
theorem dX7_copyFrom_10 : decode cX7_copyFrom 10 = .ok (.iconst 3, 1) := by decide +kernel
theorem dX7_copyFrom_11 : decode cX7_copyFrom 11 = .ok (.invokestatic 42, 3) := by decide +kernel
theorem dX7_copyFrom_14 : decode cX7_copyFrom 14 = .ok (.aload_n 1, 1) := by decide +kernel
theorem dX7_copyFrom_15 : decode cX7_copyFrom 15 = .ok (.getfield 15, 3) := by decide +kernel
theorem dX7_copyFrom_18 : decode cX7_copyFrom 18 = .ok (.iconst 0, 1) := by decide +kernel
theorem dX7_copyFrom_19 : decode cX7_copyFrom 19 = .ok (.aload_n 0, 1) := by decide +kernel
theorem dX7_copyFrom_20 : decode cX7_copyFrom 20 = .ok (.getfield 15, 3) := by decide +kernel
theorem dX7_copyFrom_23 : decode cX7_copyFrom 23 = .ok (.iconst 0, 1) := by decide +kernel
theorem dX7_copyFrom_24 : decode cX7_copyFrom 24 = .ok (.bipush 9, 2) := by decide +kernel
theorem dX7_copyFrom_26 : decode cX7_copyFrom 26 = .ok (.invokestatic 42, 3) := by decide +kernel
theorem dX7_copyFrom_29 : decode cX7_copyFrom 29 = .ok (.aload_n 1, 1) := by decide +kernel
theorem dX7_copyFrom_30 : decode cX7_copyFrom 30 = .ok (.getfield 18, 3) := by decide +kernel
theorem dX7_copyFrom_33 : decode cX7_copyFrom 33 = .ok (.iconst 0, 1) := by decide +kernel
theorem dX7_copyFrom_34 : decode cX7_copyFrom 34 = .ok (.aload_n 0, 1) := by decide +kernel
theorem dX7_copyFrom_35 : decode cX7_copyFrom 35 = .ok (.getfield 18, 3) := by decide +kernel
theorem dX7_copyFrom_38 : decode cX7_copyFrom 38 = .ok (.iconst 0, 1) := by decide +kernel
theorem dX7_copyFrom_39 : decode cX7_copyFrom 39 = .ok (.iconst 2, 1) := by decide +kernel
theorem dX7_copyFrom_40 : decode cX7_copyFrom 40 = .ok (.invokestatic 42, 3) := by decide +kernel
theorem dX7_copyFrom_43 : decode cX7_copyFrom 43 = .ok (.aload_n 1, 1) := by decide +kernel
theorem dX7_copyFrom_44 : decode cX7_copyFrom 44 = .ok (.getfield 21, 3) := by decide +kernel
theorem dX7_copyFrom_47 : decode cX7_copyFrom 47 = .ok (.iconst 0, 1) := by decide +kernel
theorem dX7_copyFrom_48 : decode cX7_copyFrom 48 = .ok (.aload_n 0, 1) := by decide +kernel
theorem dX7_copyFrom_49 : decode cX7_copyFrom 49 = .ok (.getfield 21, 3) := by decide +kernel
theorem dX7_copyFrom_52 : decode cX7_copyFrom 52 = .ok (.iconst 0, 1) := by decide +kernel
theorem dX7_copyFrom_53 : decode cX7_copyFrom 53 = .ok (.iconst 2, 1) := by decide +kernel
theorem dX7_copyFrom_54 : decode cX7_copyFrom 54 = .ok (.invokestatic 42, 3) := by decide +kernel
theorem dX7_copyFrom_57 : decode cX7_copyFrom 57 = .ok (.aload_n 1, 1) := by decide +kernel
theorem dX7_copyFrom_58 : decode cX7_copyFrom 58 = .ok (.getfield 24, 3) := by decide +kernel
theorem dX7_copyFrom_61 : decode cX7_copyFrom 61 = .ok (.iconst 0, 1) := by decide +kernel
theorem dX7_copyFrom_62 : decode cX7_copyFrom 62 = .ok (.aload_n 0, 1) := by decide +kernel
theorem dX7_copyFrom_63 : decode cX7_copyFrom 63 = .ok (.getfield 24, 3) := by decide +kernel
theorem dX7_copyFrom_66 : decode cX7_copyFrom 66 = .ok (.iconst 0, 1) := by decide +kernel
theorem dX7_copyFrom_67 : decode cX7_copyFrom 67 = .ok (.iconst 2, 1) := by decide +kernel
theorem dX7_copyFrom_68 : decode cX7_copyFrom 68 = .ok (.invokestatic 42, 3) := by decide +kernel
theorem dX7_copyFrom_71 : decode cX7_copyFrom 71 = .ok (.return_, 1) := by decide +kernel
theorem dX7_pack_0 : decode cX7_pack 0 = .ok (.lconst 0, 1) := by decide +kernel
theorem dX7_pack_1 : decode cX7_pack 1 = .ok (.lstore_n 1, 1) := by decide +kernel
theorem dX7_pack_2 : decode cX7_pack 2 = .ok (.iconst 0, 1) := by decide +kernel
theorem dX7_pack_3 : decode cX7_pack 3 = .ok (.istore_n 3, 1) := by decide +kernel
theorem dX7_pack_4 : decode cX7_pack 4 = .ok (.iload_n 3, 1) := by decide +kernel
theorem dX7_pack_5 : decode cX7_pack 5 = .ok (.iconst 3, 1) := by decide +kernel
theorem dX7_pack_6 : decode cX7_pack 6 = .ok (.if_icmp .ge 22, 3) := by decide +kernel
theorem dX7_pack_9 : decode cX7_pack 9 = .ok (.lload_n 1, 1) := by decide +kernel
theorem dX7_pack_10 : decode cX7_pack 10 = .ok (.ldc2_w 48, 3) := by decide +kernel
theorem dX7_pack_13 : decode cX7_pack 13 = .ok (.lmul, 1) := by decide +kernel
theorem dX7_pack_14 : decode cX7_pack 14 = .ok (.aload_n 0, 1) := by decide +kernel
theorem dX7_pack_15 : decode cX7_pack 15 = .ok (.iload_n 3, 1) := by decide +kernel
theorem dX7_pack_16 : decode cX7_pack 16 = .ok (.invokevirtual 50, 3) := by decide +kernel
theorem dX7_pack_19 : decode cX7_pack 19 = .ok (.i2l, 1) := by decide +kernel
theorem dX7_pack_20 : decode cX7_pack 20 = .ok (.ladd, 1) := by decide +kernel
theorem dX7_pack_21 : decode cX7_pack 21 = .ok (.lstore_n 1, 1) := by decide +kernel
theorem dX7_pack_22 : decode cX7_pack 22 = .ok (.iinc 3 1, 3) := by decide +kernel
theorem dX7_pack_25 : decode cX7_pack 25 = .ok (.goto (-21), 3) := by decide +kernel
theorem dX7_pack_28 : decode cX7_pack 28 = .ok (.iconst 0, 1) := by decide +kernel
theorem dX7_pack_29 : decode cX7_pack 29 = .ok (.istore_n 3, 1) := by decide +kernel
theorem dX7_pack_30 : decode cX7_pack 30 = .ok (.iload_n 3, 1) := by decide +kernel
theorem dX7_pack_31 : decode cX7_pack 31 = .ok (.iconst 3, 1) := by decide +kernel
theorem dX7_pack_32 : decode cX7_pack 32 = .ok (.if_icmp .ge 23, 3) := by decide +kernel
theorem dX7_pack_35 : decode cX7_pack 35 = .ok (.lload_n 1, 1) := by decide +kernel
theorem dX7_pack_36 : decode cX7_pack 36 = .ok (.ldc2_w 54, 3) := by decide +kernel
theorem dX7_pack_39 : decode cX7_pack 39 = .ok (.lmul, 1) := by decide +kernel
theorem dX7_pack_40 : decode cX7_pack 40 = .ok (.aload_n 0, 1) := by decide +kernel
theorem dX7_pack_41 : decode cX7_pack 41 = .ok (.getfield 15, 3) := by decide +kernel
theorem dX7_pack_44 : decode cX7_pack 44 = .ok (.iload_n 3, 1) := by decide +kernel
theorem dX7_pack_45 : decode cX7_pack 45 = .ok (.iaload, 1) := by decide +kernel
theorem dX7_pack_46 : decode cX7_pack 46 = .ok (.i2l, 1) := by decide +kernel
theorem dX7_pack_47 : decode cX7_pack 47 = .ok (.ladd, 1) := by decide +kernel
theorem dX7_pack_48 : decode cX7_pack 48 = .ok (.lstore_n 1, 1) := by decide +kernel
theorem dX7_pack_49 : decode cX7_pack 49 = .ok (.iinc 3 1, 3) := by decide +kernel
theorem dX7_pack_52 : decode cX7_pack 52 = .ok (.goto (-22), 3) := by decide +kernel
theorem dX7_pack_55 : decode cX7_pack 55 = .ok (.iconst 0, 1) := by decide +kernel
theorem dX7_pack_56 : decode cX7_pack 56 = .ok (.istore_n 3, 1) := by decide +kernel
theorem dX7_pack_57 : decode cX7_pack 57 = .ok (.iload_n 3, 1) := by decide +kernel
theorem dX7_pack_58 : decode cX7_pack 58 = .ok (.iconst 2, 1) := by decide +kernel
theorem dX7_pack_59 : decode cX7_pack 59 = .ok (.if_icmp .ge 51, 3) := by decide +kernel
theorem dX7_pack_62 : decode cX7_pack 62 = .ok (.lload_n 1, 1) := by decide +kernel
theorem dX7_pack_63 : decode cX7_pack 63 = .ok (.ldc2_w 56, 3) := by decide +kernel
theorem dX7_pack_66 : decode cX7_pack 66 = .ok (.lmul, 1) := by decide +kernel
theorem dX7_pack_67 : decode cX7_pack 67 = .ok (.aload_n 0, 1) := by decide +kernel
theorem dX7_pack_68 : decode cX7_pack 68 = .ok (.getfield 18, 3) := by decide +kernel
theorem dX7_pack_71 : decode cX7_pack 71 = .ok (.iload_n 3, 1) := by decide +kernel
theorem dX7_pack_72 : decode cX7_pack 72 = .ok (.iaload, 1) := by decide +kernel
theorem dX7_pack_73 : decode cX7_pack 73 = .ok (.i2l, 1) := by decide +kernel
theorem dX7_pack_74 : decode cX7_pack 74 = .ok (.ladd, 1) := by decide +kernel
theorem dX7_pack_75 : decode cX7_pack 75 = .ok (.lstore_n 1, 1) := by decide +kernel
theorem dX7_pack_76 : decode cX7_pack 76 = .ok (.lload_n 1, 1) := by decide +kernel
theorem dX7_pack_77 : decode cX7_pack 77 = .ok (.ldc2_w 54, 3) := by decide +kernel
theorem dX7_pack_80 : decode cX7_pack 80 = .ok (.lmul, 1) := by decide +kernel
theorem dX7_pack_81 : decode cX7_pack 81 = .ok (.aload_n 0, 1) := by decide +kernel
theorem dX7_pack_82 : decode cX7_pack 82 = .ok (.getfield 21, 3) := by decide +kernel
theorem dX7_pack_85 : decode cX7_pack 85 = .ok (.iload_n 3, 1) := by decide +kernel
theorem dX7_pack_86 : decode cX7_pack 86 = .ok (.iaload, 1) := by decide +kernel
theorem dX7_pack_87 : decode cX7_pack 87 = .ok (.i2l, 1) := by decide +kernel
theorem dX7_pack_88 : decode cX7_pack 88 = .ok (.ladd, 1) := by decide +kernel
theorem dX7_pack_89 : decode cX7_pack 89 = .ok (.lstore_n 1, 1) := by decide +kernel
theorem dX7_pack_90 : decode cX7_pack 90 = .ok (.lload_n 1, 1) := by decide +kernel
theorem dX7_pack_91 : decode cX7_pack 91 = .ok (.ldc2_w 54, 3) := by decide +kernel
theorem dX7_pack_94 : decode cX7_pack 94 = .ok (.lmul, 1) := by decide +kernel
theorem dX7_pack_95 : decode cX7_pack 95 = .ok (.aload_n 0, 1) := by decide +kernel
theorem dX7_pack_96 : decode cX7_pack 96 = .ok (.getfield 24, 3) := by decide +kernel
theorem dX7_pack_99 : decode cX7_pack 99 = .ok (.iload_n 3, 1) := by decide +kernel
theorem dX7_pack_100 : decode cX7_pack 100 = .ok (.iaload, 1) := by decide +kernel
theorem dX7_pack_101 : decode cX7_pack 101 = .ok (.i2l, 1) := by decide +kernel
theorem dX7_pack_102 : decode cX7_pack 102 = .ok (.ladd, 1) := by decide +kernel
theorem dX7_pack_103 : decode cX7_pack 103 = .ok (.lstore_n 1, 1) := by decide +kernel
theorem dX7_pack_104 : decode cX7_pack 104 = .ok (.iinc 3 1, 3) := by decide +kernel
theorem dX7_pack_107 : decode cX7_pack 107 = .ok (.goto (-50), 3) := by decide +kernel
theorem dX7_pack_110 : decode cX7_pack 110 = .ok (.lload_n 1, 1) := by decide +kernel
theorem dX7_pack_111 : decode cX7_pack 111 = .ok (.lreturn, 1) := by decide +kernel
theorem dX7_unpack_0 : decode cX7_unpack 0 = .ok (.lload_n 1, 1) := by decide +kernel
theorem dX7_unpack_1 : decode cX7_unpack 1 = .ok (.lstore_n 3, 1) := by decide +kernel
theorem dX7_unpack_2 : decode cX7_unpack 2 = .ok (.iconst 1, 1) := by decide +kernel
theorem dX7_unpack_3 : decode cX7_unpack 3 = .ok (.istore 5, 2) := by decide +kernel
theorem dX7_unpack_5 : decode cX7_unpack 5 = .ok (.iload 5, 2) := by decide +kernel
theorem dX7_unpack_7 : decode cX7_unpack 7 = .ok (.ifCond .lt 66, 3) := by decide +kernel
theorem dX7_unpack_10 : decode cX7_unpack 10 = .ok (.aload_n 0, 1) := by decide +kernel
theorem dX7_unpack_11 : decode cX7_unpack 11 = .ok (.getfield 24, 3) := by decide +kernel
theorem dX7_unpack_14 : decode cX7_unpack 14 = .ok (.iload 5, 2) := by decide +kernel
theorem dX7_unpack_16 : decode cX7_unpack 16 = .ok (.lload_n 3, 1) := by decide +kernel
theorem dX7_unpack_17 : decode cX7_unpack 17 = .ok (.ldc2_w 54, 3) := by decide +kernel
theorem dX7_unpack_20 : decode cX7_unpack 20 = .ok (.lrem, 1) := by decide +kernel
theorem dX7_unpack_21 : decode cX7_unpack 21 = .ok (.l2i, 1) := by decide +kernel
theorem dX7_unpack_22 : decode cX7_unpack 22 = .ok (.iastore, 1) := by decide +kernel
theorem dX7_unpack_23 : decode cX7_unpack 23 = .ok (.lload_n 3, 1) := by decide +kernel
theorem dX7_unpack_24 : decode cX7_unpack 24 = .ok (.ldc2_w 54, 3) := by decide +kernel
theorem dX7_unpack_27 : decode cX7_unpack 27 = .ok (.ldiv, 1) := by decide +kernel
theorem dX7_unpack_28 : decode cX7_unpack 28 = .ok (.lstore_n 3, 1) := by decide +kernel
theorem dX7_unpack_29 : decode cX7_unpack 29 = .ok (.aload_n 0, 1) := by decide +kernel
theorem dX7_unpack_30 : decode cX7_unpack 30 = .ok (.getfield 21, 3) := by decide +kernel
theorem dX7_unpack_33 : decode cX7_unpack 33 = .ok (.iload 5, 2) := by decide +kernel
theorem dX7_unpack_35 : decode cX7_unpack 35 = .ok (.lload_n 3, 1) := by decide +kernel
theorem dX7_unpack_36 : decode cX7_unpack 36 = .ok (.ldc2_w 54, 3) := by decide +kernel
theorem dX7_unpack_39 : decode cX7_unpack 39 = .ok (.lrem, 1) := by decide +kernel
theorem dX7_unpack_40 : decode cX7_unpack 40 = .ok (.l2i, 1) := by decide +kernel
theorem dX7_unpack_41 : decode cX7_unpack 41 = .ok (.iastore, 1) := by decide +kernel
theorem dX7_unpack_42 : decode cX7_unpack 42 = .ok (.lload_n 3, 1) := by decide +kernel
theorem dX7_unpack_43 : decode cX7_unpack 43 = .ok (.ldc2_w 54, 3) := by decide +kernel
theorem dX7_unpack_46 : decode cX7_unpack 46 = .ok (.ldiv, 1) := by decide +kernel
theorem dX7_unpack_47 : decode cX7_unpack 47 = .ok (.lstore_n 3, 1) := by decide +kernel
theorem dX7_unpack_48 : decode cX7_unpack 48 = .ok (.aload_n 0, 1) := by decide +kernel
theorem dX7_unpack_49 : decode cX7_unpack 49 = .ok (.getfield 18, 3) := by decide +kernel
theorem dX7_unpack_52 : decode cX7_unpack 52 = .ok (.iload 5, 2) := by decide +kernel
theorem dX7_unpack_54 : decode cX7_unpack 54 = .ok (.lload_n 3, 1) := by decide +kernel
theorem dX7_unpack_55 : decode cX7_unpack 55 = .ok (.ldc2_w 56, 3) := by decide +kernel
theorem dX7_unpack_58 : decode cX7_unpack 58 = .ok (.lrem, 1) := by decide +kernel
theorem dX7_unpack_59 : decode cX7_unpack 59 = .ok (.l2i, 1) := by decide +kernel
theorem dX7_unpack_60 : decode cX7_unpack 60 = .ok (.iastore, 1) := by decide +kernel
theorem dX7_unpack_61 : decode cX7_unpack 61 = .ok (.lload_n 3, 1) := by decide +kernel
theorem dX7_unpack_62 : decode cX7_unpack 62 = .ok (.ldc2_w 56, 3) := by decide +kernel
theorem dX7_unpack_65 : decode cX7_unpack 65 = .ok (.ldiv, 1) := by decide +kernel
theorem dX7_unpack_66 : decode cX7_unpack 66 = .ok (.lstore_n 3, 1) := by decide +kernel
theorem dX7_unpack_67 : decode cX7_unpack 67 = .ok (.iinc 5 (-1), 3) := by decide +kernel
theorem dX7_unpack_70 : decode cX7_unpack 70 = .ok (.goto (-65), 3) := by decide +kernel
theorem dX7_unpack_73 : decode cX7_unpack 73 = .ok (.iconst 2, 1) := by decide +kernel
theorem dX7_unpack_74 : decode cX7_unpack 74 = .ok (.istore 5, 2) := by decide +kernel
theorem dX7_unpack_76 : decode cX7_unpack 76 = .ok (.iload 5, 2) := by decide +kernel
theorem dX7_unpack_78 : decode cX7_unpack 78 = .ok (.ifCond .lt 28, 3) := by decide +kernel
theorem dX7_unpack_81 : decode cX7_unpack 81 = .ok (.aload_n 0, 1) := by decide +kernel
theorem dX7_unpack_82 : decode cX7_unpack 82 = .ok (.getfield 15, 3) := by decide +kernel
theorem dX7_unpack_85 : decode cX7_unpack 85 = .ok (.iload 5, 2) := by decide +kernel
theorem dX7_unpack_87 : decode cX7_unpack 87 = .ok (.lload_n 3, 1) := by decide +kernel
theorem dX7_unpack_88 : decode cX7_unpack 88 = .ok (.ldc2_w 54, 3) := by decide +kernel
theorem dX7_unpack_91 : decode cX7_unpack 91 = .ok (.lrem, 1) := by decide +kernel
theorem dX7_unpack_92 : decode cX7_unpack 92 = .ok (.l2i, 1) := by decide +kernel
theorem dX7_unpack_93 : decode cX7_unpack 93 = .ok (.iastore, 1) := by decide +kernel
theorem dX7_unpack_94 : decode cX7_unpack 94 = .ok (.lload_n 3, 1) := by decide +kernel
theorem dX7_unpack_95 : decode cX7_unpack 95 = .ok (.ldc2_w 54, 3) := by decide +kernel
theorem dX7_unpack_98 : decode cX7_unpack 98 = .ok (.ldiv, 1) := by decide +kernel
theorem dX7_unpack_99 : decode cX7_unpack 99 = .ok (.lstore_n 3, 1) := by decide +kernel
theorem dX7_unpack_100 : decode cX7_unpack 100 = .ok (.iinc 5 (-1), 3) := by decide +kernel
theorem dX7_unpack_103 : decode cX7_unpack 103 = .ok (.goto (-27), 3) := by decide +kernel
theorem dX7_unpack_106 : decode cX7_unpack 106 = .ok (.iconst 2, 1) := by decide +kernel
theorem dX7_unpack_107 : decode cX7_unpack 107 = .ok (.istore 5, 2) := by decide +kernel
theorem dX7_unpack_109 : decode cX7_unpack 109 = .ok (.iload 5, 2) := by decide +kernel
theorem dX7_unpack_111 : decode cX7_unpack 111 = .ok (.ifCond .lt 76, 3) := by decide +kernel
theorem dX7_unpack_114 : decode cX7_unpack 114 = .ok (.getstatic 58, 3) := by decide +kernel
theorem dX7_unpack_117 : decode cX7_unpack 117 = .ok (.iload 5, 2) := by decide +kernel
theorem dX7_unpack_119 : decode cX7_unpack 119 = .ok (.iaload, 1) := by decide +kernel
theorem dX7_unpack_120 : decode cX7_unpack 120 = .ok (.istore 6, 2) := by decide +kernel
theorem dX7_unpack_122 : decode cX7_unpack 122 = .ok (.aload_n 0, 1) := by decide +kernel
theorem dX7_unpack_123 : decode cX7_unpack 123 = .ok (.getfield 15, 3) := by decide +kernel
theorem dX7_unpack_126 : decode cX7_unpack 126 = .ok (.iload 6, 2) := by decide +kernel
theorem dX7_unpack_128 : decode cX7_unpack 128 = .ok (.iconst 1, 1) := by decide +kernel
theorem dX7_unpack_129 : decode cX7_unpack 129 = .ok (.iadd, 1) := by decide +kernel
theorem dX7_unpack_130 : decode cX7_unpack 130 = .ok (.lload_n 3, 1) := by decide +kernel
theorem dX7_unpack_131 : decode cX7_unpack 131 = .ok (.ldc2_w 54, 3) := by decide +kernel
theorem dX7_unpack_134 : decode cX7_unpack 134 = .ok (.lrem, 1) := by decide +kernel
theorem dX7_unpack_135 : decode cX7_unpack 135 = .ok (.l2i, 1) := by decide +kernel
theorem dX7_unpack_136 : decode cX7_unpack 136 = .ok (.iastore, 1) := by decide +kernel
theorem dX7_unpack_137 : decode cX7_unpack 137 = .ok (.lload_n 3, 1) := by decide +kernel
theorem dX7_unpack_138 : decode cX7_unpack 138 = .ok (.ldc2_w 54, 3) := by decide +kernel
theorem dX7_unpack_141 : decode cX7_unpack 141 = .ok (.ldiv, 1) := by decide +kernel
theorem dX7_unpack_142 : decode cX7_unpack 142 = .ok (.lstore_n 3, 1) := by decide +kernel
theorem dX7_unpack_143 : decode cX7_unpack 143 = .ok (.aload_n 0, 1) := by decide +kernel
theorem dX7_unpack_144 : decode cX7_unpack 144 = .ok (.getfield 15, 3) := by decide +kernel
theorem dX7_unpack_147 : decode cX7_unpack 147 = .ok (.iload 6, 2) := by decide +kernel
theorem dX7_unpack_149 : decode cX7_unpack 149 = .ok (.lload_n 3, 1) := by decide +kernel
theorem dX7_unpack_150 : decode cX7_unpack 150 = .ok (.ldc2_w 54, 3) := by decide +kernel
theorem dX7_unpack_153 : decode cX7_unpack 153 = .ok (.lrem, 1) := by decide +kernel
theorem dX7_unpack_154 : decode cX7_unpack 154 = .ok (.l2i, 1) := by decide +kernel
theorem dX7_unpack_155 : decode cX7_unpack 155 = .ok (.iastore, 1) := by decide +kernel
theorem dX7_unpack_156 : decode cX7_unpack 156 = .ok (.lload_n 3, 1) := by decide +kernel
theorem dX7_unpack_157 : decode cX7_unpack 157 = .ok (.ldc2_w 54, 3) := by decide +kernel
theorem dX7_unpack_160 : decode cX7_unpack 160 = .ok (.ldiv, 1) := by decide +kernel
theorem dX7_unpack_161 : decode cX7_unpack 161 = .ok (.lstore_n 3, 1) := by decide +kernel
theorem dX7_unpack_162 : decode cX7_unpack 162 = .ok (.aload_n 0, 1) := by decide +kernel
theorem dX7_unpack_163 : decode cX7_unpack 163 = .ok (.getfield 9, 3) := by decide +kernel
theorem dX7_unpack_166 : decode cX7_unpack 166 = .ok (.iload 5, 2) := by decide +kernel
theorem dX7_unpack_168 : decode cX7_unpack 168 = .ok (.lload_n 3, 1) := by decide +kernel
theorem dX7_unpack_169 : decode cX7_unpack 169 = .ok (.ldc2_w 61, 3) := by decide +kernel
theorem dX7_unpack_172 : decode cX7_unpack 172 = .ok (.lrem, 1) := by decide +kernel
theorem dX7_unpack_173 : decode cX7_unpack 173 = .ok (.l2i, 1) := by decide +kernel
theorem dX7_unpack_174 : decode cX7_unpack 174 = .ok (.iastore, 1) := by decide +kernel
theorem dX7_unpack_175 : decode cX7_unpack 175 = .ok (.lload_n 3, 1) := by decide +kernel
theorem dX7_unpack_176 : decode cX7_unpack 176 = .ok (.ldc2_w 61, 3) := by decide +kernel
theorem dX7_unpack_179 : decode cX7_unpack 179 = .ok (.ldiv, 1) := by decide +kernel
theorem dX7_unpack_180 : decode cX7_unpack 180 = .ok (.lstore_n 3, 1) := by decide +kernel
theorem dX7_unpack_181 : decode cX7_unpack 181 = .ok (.iinc 5 (-1), 3) := by decide +kernel
theorem dX7_unpack_184 : decode cX7_unpack 184 = .ok (.goto (-75), 3) := by decide +kernel
theorem dX7_unpack_187 : decode cX7_unpack 187 = .ok (.return_, 1) := by decide +kernel
theorem dX7_shareOf_0 : decode cX7_shareOf 0 = .ok (.getstatic 58, 3) := by decide +kernel
theorem dX7_shareOf_3 : decode cX7_shareOf 3 = .ok (.iload_n 1, 1) := by decide +kernel
theorem dX7_shareOf_4 : decode cX7_shareOf 4 = .ok (.iaload, 1) := by decide +kernel
theorem dX7_shareOf_5 : decode cX7_shareOf 5 = .ok (.istore_n 2, 1) := by decide +kernel
theorem dX7_shareOf_6 : decode cX7_shareOf 6 = .ok (.aload_n 0, 1) := by decide +kernel
theorem dX7_shareOf_7 : decode cX7_shareOf 7 = .ok (.getfield 9, 3) := by decide +kernel
theorem dX7_shareOf_10 : decode cX7_shareOf 10 = .ok (.iload_n 1, 1) := by decide +kernel
theorem dX7_shareOf_11 : decode cX7_shareOf 11 = .ok (.iaload, 1) := by decide +kernel
theorem dX7_shareOf_12 : decode cX7_shareOf 12 = .ok (.iconst 4, 1) := by decide +kernel
theorem dX7_shareOf_13 : decode cX7_shareOf 13 = .ok (.imul, 1) := by decide +kernel
theorem dX7_shareOf_14 : decode cX7_shareOf 14 = .ok (.aload_n 0, 1) := by decide +kernel
theorem dX7_shareOf_15 : decode cX7_shareOf 15 = .ok (.getfield 15, 3) := by decide +kernel
theorem dX7_shareOf_18 : decode cX7_shareOf 18 = .ok (.iload_n 2, 1) := by decide +kernel
theorem dX7_shareOf_19 : decode cX7_shareOf 19 = .ok (.iaload, 1) := by decide +kernel
theorem dX7_shareOf_20 : decode cX7_shareOf 20 = .ok (.iadd, 1) := by decide +kernel
theorem dX7_shareOf_21 : decode cX7_shareOf 21 = .ok (.iconst 4, 1) := by decide +kernel
theorem dX7_shareOf_22 : decode cX7_shareOf 22 = .ok (.imul, 1) := by decide +kernel
theorem dX7_shareOf_23 : decode cX7_shareOf 23 = .ok (.aload_n 0, 1) := by decide +kernel
theorem dX7_shareOf_24 : decode cX7_shareOf 24 = .ok (.getfield 15, 3) := by decide +kernel
theorem dX7_shareOf_27 : decode cX7_shareOf 27 = .ok (.iload_n 2, 1) := by decide +kernel
theorem dX7_shareOf_28 : decode cX7_shareOf 28 = .ok (.iconst 1, 1) := by decide +kernel
theorem dX7_shareOf_29 : decode cX7_shareOf 29 = .ok (.iadd, 1) := by decide +kernel
theorem dX7_shareOf_30 : decode cX7_shareOf 30 = .ok (.iaload, 1) := by decide +kernel
theorem dX7_shareOf_31 : decode cX7_shareOf 31 = .ok (.iadd, 1) := by decide +kernel
theorem dX7_shareOf_32 : decode cX7_shareOf 32 = .ok (.ireturn, 1) := by decide +kernel
theorem dX7_packValues_0 : decode cX7_packValues 0 = .ok (.iconst 0, 1) := by decide +kernel
theorem dX7_packValues_1 : decode cX7_packValues 1 = .ok (.istore_n 1, 1) := by decide +kernel
theorem dX7_packValues_2 : decode cX7_packValues 2 = .ok (.iconst 0, 1) := by decide +kernel
theorem dX7_packValues_3 : decode cX7_packValues 3 = .ok (.istore_n 2, 1) := by decide +kernel
theorem dX7_packValues_4 : decode cX7_packValues 4 = .ok (.iload_n 2, 1) := by decide +kernel
theorem dX7_packValues_5 : decode cX7_packValues 5 = .ok (.bipush 9, 2) := by decide +kernel
theorem dX7_packValues_7 : decode cX7_packValues 7 = .ok (.if_icmp .ge 22, 3) := by decide +kernel
theorem dX7_packValues_10 : decode cX7_packValues 10 = .ok (.iload_n 1, 1) := by decide +kernel
theorem dX7_packValues_11 : decode cX7_packValues 11 = .ok (.aload_n 0, 1) := by decide +kernel
theorem dX7_packValues_12 : decode cX7_packValues 12 = .ok (.getfield 15, 3) := by decide +kernel
theorem dX7_packValues_15 : decode cX7_packValues 15 = .ok (.iload_n 2, 1) := by decide +kernel
theorem dX7_packValues_16 : decode cX7_packValues 16 = .ok (.iaload, 1) := by decide +kernel
theorem dX7_packValues_17 : decode cX7_packValues 17 = .ok (.iconst 2, 1) := by decide +kernel
theorem dX7_packValues_18 : decode cX7_packValues 18 = .ok (.iload_n 2, 1) := by decide +kernel
theorem dX7_packValues_19 : decode cX7_packValues 19 = .ok (.imul, 1) := by decide +kernel
theorem dX7_packValues_20 : decode cX7_packValues 20 = .ok (.ishl, 1) := by decide +kernel
theorem dX7_packValues_21 : decode cX7_packValues 21 = .ok (.ior, 1) := by decide +kernel
theorem dX7_packValues_22 : decode cX7_packValues 22 = .ok (.istore_n 1, 1) := by decide +kernel
theorem dX7_packValues_23 : decode cX7_packValues 23 = .ok (.iinc 2 1, 3) := by decide +kernel
theorem dX7_packValues_26 : decode cX7_packValues 26 = .ok (.goto (-22), 3) := by decide +kernel
theorem dX7_packValues_29 : decode cX7_packValues 29 = .ok (.iload_n 1, 1) := by decide +kernel
theorem dX7_packValues_30 : decode cX7_packValues 30 = .ok (.ireturn, 1) := by decide +kernel
theorem dX7_canDo_0 : decode cX7_canDo 0 = .ok (.aload_n 0, 1) := by decide +kernel
theorem dX7_canDo_1 : decode cX7_canDo 1 = .ok (.getfield 27, 3) := by decide +kernel
theorem dX7_canDo_4 : decode cX7_canDo 4 = .ok (.getfield 63, 3) := by decide +kernel
theorem dX7_canDo_7 : decode cX7_canDo 7 = .ok (.iload_n 1, 1) := by decide +kernel
theorem dX7_canDo_8 : decode cX7_canDo 8 = .ok (.iaload, 1) := by decide +kernel
theorem dX7_canDo_9 : decode cX7_canDo 9 = .ok (.istore_n 2, 1) := by decide +kernel
theorem dX7_canDo_10 : decode cX7_canDo 10 = .ok (.aload_n 0, 1) := by decide +kernel
theorem dX7_canDo_11 : decode cX7_canDo 11 = .ok (.getfield 27, 3) := by decide +kernel
theorem dX7_canDo_14 : decode cX7_canDo 14 = .ok (.getfield 66, 3) := by decide +kernel
theorem dX7_canDo_17 : decode cX7_canDo 17 = .ok (.iload_n 1, 1) := by decide +kernel
theorem dX7_canDo_18 : decode cX7_canDo 18 = .ok (.caload, 1) := by decide +kernel
theorem dX7_canDo_19 : decode cX7_canDo 19 = .ok (.lookupswitch 128 #[(33, 65), (61, 41), (114, 113), (119, 89)], 41) := by decide +kernel
theorem dX7_canDo_60 : decode cX7_canDo 60 = .ok (.aload_n 0, 1) := by decide +kernel
theorem dX7_canDo_61 : decode cX7_canDo 61 = .ok (.getfield 15, 3) := by decide +kernel
theorem dX7_canDo_64 : decode cX7_canDo 64 = .ok (.iload_n 2, 1) := by decide +kernel
theorem dX7_canDo_65 : decode cX7_canDo 65 = .ok (.iaload, 1) := by decide +kernel
theorem dX7_canDo_66 : decode cX7_canDo 66 = .ok (.aload_n 0, 1) := by decide +kernel
theorem dX7_canDo_67 : decode cX7_canDo 67 = .ok (.getfield 27, 3) := by decide +kernel
theorem dX7_canDo_70 : decode cX7_canDo 70 = .ok (.getfield 70, 3) := by decide +kernel
theorem dX7_canDo_73 : decode cX7_canDo 73 = .ok (.iload_n 1, 1) := by decide +kernel
theorem dX7_canDo_74 : decode cX7_canDo 74 = .ok (.iaload, 1) := by decide +kernel
theorem dX7_canDo_75 : decode cX7_canDo 75 = .ok (.if_icmp .ne 7, 3) := by decide +kernel
theorem dX7_canDo_78 : decode cX7_canDo 78 = .ok (.iconst 1, 1) := by decide +kernel
theorem dX7_canDo_79 : decode cX7_canDo 79 = .ok (.goto 4, 3) := by decide +kernel
theorem dX7_canDo_82 : decode cX7_canDo 82 = .ok (.iconst 0, 1) := by decide +kernel
theorem dX7_canDo_83 : decode cX7_canDo 83 = .ok (.ireturn, 1) := by decide +kernel
theorem dX7_canDo_84 : decode cX7_canDo 84 = .ok (.aload_n 0, 1) := by decide +kernel
theorem dX7_canDo_85 : decode cX7_canDo 85 = .ok (.getfield 15, 3) := by decide +kernel
theorem dX7_canDo_88 : decode cX7_canDo 88 = .ok (.iload_n 2, 1) := by decide +kernel
theorem dX7_canDo_89 : decode cX7_canDo 89 = .ok (.iaload, 1) := by decide +kernel
theorem dX7_canDo_90 : decode cX7_canDo 90 = .ok (.aload_n 0, 1) := by decide +kernel
theorem dX7_canDo_91 : decode cX7_canDo 91 = .ok (.getfield 27, 3) := by decide +kernel
theorem dX7_canDo_94 : decode cX7_canDo 94 = .ok (.getfield 70, 3) := by decide +kernel
theorem dX7_canDo_97 : decode cX7_canDo 97 = .ok (.iload_n 1, 1) := by decide +kernel
theorem dX7_canDo_98 : decode cX7_canDo 98 = .ok (.iaload, 1) := by decide +kernel
theorem dX7_canDo_99 : decode cX7_canDo 99 = .ok (.if_icmp .eq 7, 3) := by decide +kernel
theorem dX7_canDo_102 : decode cX7_canDo 102 = .ok (.iconst 1, 1) := by decide +kernel
theorem dX7_canDo_103 : decode cX7_canDo 103 = .ok (.goto 4, 3) := by decide +kernel
theorem dX7_canDo_106 : decode cX7_canDo 106 = .ok (.iconst 0, 1) := by decide +kernel
theorem dX7_canDo_107 : decode cX7_canDo 107 = .ok (.ireturn, 1) := by decide +kernel
theorem dX7_canDo_108 : decode cX7_canDo 108 = .ok (.aload_n 0, 1) := by decide +kernel
theorem dX7_canDo_109 : decode cX7_canDo 109 = .ok (.getfield 18, 3) := by decide +kernel
theorem dX7_canDo_112 : decode cX7_canDo 112 = .ok (.iload_n 2, 1) := by decide +kernel
theorem dX7_canDo_113 : decode cX7_canDo 113 = .ok (.iaload, 1) := by decide +kernel
theorem dX7_canDo_114 : decode cX7_canDo 114 = .ok (.aload_n 0, 1) := by decide +kernel
theorem dX7_canDo_115 : decode cX7_canDo 115 = .ok (.getfield 27, 3) := by decide +kernel
theorem dX7_canDo_118 : decode cX7_canDo 118 = .ok (.getfield 73, 3) := by decide +kernel
theorem dX7_canDo_121 : decode cX7_canDo 121 = .ok (.iload_n 2, 1) := by decide +kernel
theorem dX7_canDo_122 : decode cX7_canDo 122 = .ok (.iaload, 1) := by decide +kernel
theorem dX7_canDo_123 : decode cX7_canDo 123 = .ok (.if_icmp .ge 7, 3) := by decide +kernel
theorem dX7_canDo_126 : decode cX7_canDo 126 = .ok (.iconst 1, 1) := by decide +kernel
theorem dX7_canDo_127 : decode cX7_canDo 127 = .ok (.goto 4, 3) := by decide +kernel
theorem dX7_canDo_130 : decode cX7_canDo 130 = .ok (.iconst 0, 1) := by decide +kernel
theorem dX7_canDo_131 : decode cX7_canDo 131 = .ok (.ireturn, 1) := by decide +kernel
theorem dX7_canDo_132 : decode cX7_canDo 132 = .ok (.aload_n 0, 1) := by decide +kernel
theorem dX7_canDo_133 : decode cX7_canDo 133 = .ok (.getfield 18, 3) := by decide +kernel
theorem dX7_canDo_136 : decode cX7_canDo 136 = .ok (.iload_n 2, 1) := by decide +kernel
theorem dX7_canDo_137 : decode cX7_canDo 137 = .ok (.iaload, 1) := by decide +kernel
theorem dX7_canDo_138 : decode cX7_canDo 138 = .ok (.ifCond .le 7, 3) := by decide +kernel
theorem dX7_canDo_141 : decode cX7_canDo 141 = .ok (.iconst 1, 1) := by decide +kernel
theorem dX7_canDo_142 : decode cX7_canDo 142 = .ok (.goto 4, 3) := by decide +kernel
theorem dX7_canDo_145 : decode cX7_canDo 145 = .ok (.iconst 0, 1) := by decide +kernel
theorem dX7_canDo_146 : decode cX7_canDo 146 = .ok (.ireturn, 1) := by decide +kernel
theorem dX7_canDo_147 : decode cX7_canDo 147 = .ok (.iconst 1, 1) := by decide +kernel
theorem dX7_canDo_148 : decode cX7_canDo 148 = .ok (.ireturn, 1) := by decide +kernel
theorem dX7_isRefuted_0 : decode cX7_isRefuted 0 = .ok (.iload_n 1, 1) := by decide +kernel
theorem dX7_isRefuted_1 : decode cX7_isRefuted 1 = .ok (.invokestatic 76, 3) := by decide +kernel
theorem dX7_isRefuted_4 : decode cX7_isRefuted 4 = .ok (.istore_n 2, 1) := by decide +kernel
theorem dX7_isRefuted_5 : decode cX7_isRefuted 5 = .ok (.aload_n 0, 1) := by decide +kernel
theorem dX7_isRefuted_6 : decode cX7_isRefuted 6 = .ok (.getfield 27, 3) := by decide +kernel
theorem dX7_isRefuted_9 : decode cX7_isRefuted 9 = .ok (.getfield 66, 3) := by decide +kernel
theorem dX7_isRefuted_12 : decode cX7_isRefuted 12 = .ok (.iload_n 2, 1) := by decide +kernel
theorem dX7_isRefuted_13 : decode cX7_isRefuted 13 = .ok (.caload, 1) := by decide +kernel
theorem dX7_isRefuted_14 : decode cX7_isRefuted 14 = .ok (.bipush 97, 2) := by decide +kernel
theorem dX7_isRefuted_16 : decode cX7_isRefuted 16 = .ok (.if_icmp .ne 33, 3) := by decide +kernel
theorem dX7_isRefuted_19 : decode cX7_isRefuted 19 = .ok (.aload_n 0, 1) := by decide +kernel
theorem dX7_isRefuted_20 : decode cX7_isRefuted 20 = .ok (.getfield 15, 3) := by decide +kernel
theorem dX7_isRefuted_23 : decode cX7_isRefuted 23 = .ok (.aload_n 0, 1) := by decide +kernel
theorem dX7_isRefuted_24 : decode cX7_isRefuted 24 = .ok (.getfield 27, 3) := by decide +kernel
theorem dX7_isRefuted_27 : decode cX7_isRefuted 27 = .ok (.getfield 63, 3) := by decide +kernel
theorem dX7_isRefuted_30 : decode cX7_isRefuted 30 = .ok (.iload_n 2, 1) := by decide +kernel
theorem dX7_isRefuted_31 : decode cX7_isRefuted 31 = .ok (.iaload, 1) := by decide +kernel
theorem dX7_isRefuted_32 : decode cX7_isRefuted 32 = .ok (.iaload, 1) := by decide +kernel
theorem dX7_isRefuted_33 : decode cX7_isRefuted 33 = .ok (.aload_n 0, 1) := by decide +kernel
theorem dX7_isRefuted_34 : decode cX7_isRefuted 34 = .ok (.getfield 27, 3) := by decide +kernel
theorem dX7_isRefuted_37 : decode cX7_isRefuted 37 = .ok (.getfield 70, 3) := by decide +kernel
theorem dX7_isRefuted_40 : decode cX7_isRefuted 40 = .ok (.iload_n 2, 1) := by decide +kernel
theorem dX7_isRefuted_41 : decode cX7_isRefuted 41 = .ok (.iaload, 1) := by decide +kernel
theorem dX7_isRefuted_42 : decode cX7_isRefuted 42 = .ok (.if_icmp .ne 7, 3) := by decide +kernel
theorem dX7_isRefuted_45 : decode cX7_isRefuted 45 = .ok (.iconst 1, 1) := by decide +kernel
theorem dX7_isRefuted_46 : decode cX7_isRefuted 46 = .ok (.goto 4, 3) := by decide +kernel
theorem dX7_isRefuted_49 : decode cX7_isRefuted 49 = .ok (.iconst 0, 1) := by decide +kernel
theorem dX7_isRefuted_50 : decode cX7_isRefuted 50 = .ok (.ireturn, 1) := by decide +kernel
theorem dX7_doMove_0 : decode cX7_doMove 0 = .ok (.iload_n 1, 1) := by decide +kernel
theorem dX7_doMove_1 : decode cX7_doMove 1 = .ok (.invokestatic 76, 3) := by decide +kernel
theorem dX7_doMove_4 : decode cX7_doMove 4 = .ok (.istore_n 2, 1) := by decide +kernel
theorem dX7_doMove_5 : decode cX7_doMove 5 = .ok (.iload_n 1, 1) := by decide +kernel
theorem dX7_doMove_6 : decode cX7_doMove 6 = .ok (.invokestatic 81, 3) := by decide +kernel
theorem dX7_doMove_9 : decode cX7_doMove 9 = .ok (.istore_n 3, 1) := by decide +kernel
theorem dX7_doMove_10 : decode cX7_doMove 10 = .ok (.iload_n 3, 1) := by decide +kernel
theorem dX7_doMove_11 : decode cX7_doMove 11 = .ok (.iconst (-1), 1) := by decide +kernel
theorem dX7_doMove_12 : decode cX7_doMove 12 = .ok (.if_icmp .ne 11, 3) := by decide +kernel
theorem dX7_doMove_15 : decode cX7_doMove 15 = .ok (.aload_n 0, 1) := by decide +kernel
theorem dX7_doMove_16 : decode cX7_doMove 16 = .ok (.iload_n 2, 1) := by decide +kernel
theorem dX7_doMove_17 : decode cX7_doMove 17 = .ok (.invokevirtual 84, 3) := by decide +kernel
theorem dX7_doMove_20 : decode cX7_doMove 20 = .ok (.goto 49, 3) := by decide +kernel
theorem dX7_doMove_23 : decode cX7_doMove 23 = .ok (.aload_n 0, 1) := by decide +kernel
theorem dX7_doMove_24 : decode cX7_doMove 24 = .ok (.getfield 15, 3) := by decide +kernel
theorem dX7_doMove_27 : decode cX7_doMove 27 = .ok (.aload_n 0, 1) := by decide +kernel
theorem dX7_doMove_28 : decode cX7_doMove 28 = .ok (.getfield 27, 3) := by decide +kernel
theorem dX7_doMove_31 : decode cX7_doMove 31 = .ok (.getfield 70, 3) := by decide +kernel
theorem dX7_doMove_34 : decode cX7_doMove 34 = .ok (.iload_n 3, 1) := by decide +kernel
theorem dX7_doMove_35 : decode cX7_doMove 35 = .ok (.iaload, 1) := by decide +kernel
theorem dX7_doMove_36 : decode cX7_doMove 36 = .ok (.aload_n 0, 1) := by decide +kernel
theorem dX7_doMove_37 : decode cX7_doMove 37 = .ok (.getfield 15, 3) := by decide +kernel
theorem dX7_doMove_40 : decode cX7_doMove 40 = .ok (.aload_n 0, 1) := by decide +kernel
theorem dX7_doMove_41 : decode cX7_doMove 41 = .ok (.getfield 27, 3) := by decide +kernel
theorem dX7_doMove_44 : decode cX7_doMove 44 = .ok (.getfield 70, 3) := by decide +kernel
theorem dX7_doMove_47 : decode cX7_doMove 47 = .ok (.iload_n 2, 1) := by decide +kernel
theorem dX7_doMove_48 : decode cX7_doMove 48 = .ok (.iaload, 1) := by decide +kernel
theorem dX7_doMove_49 : decode cX7_doMove 49 = .ok (.iaload, 1) := by decide +kernel
theorem dX7_doMove_50 : decode cX7_doMove 50 = .ok (.iastore, 1) := by decide +kernel
theorem dX7_doMove_51 : decode cX7_doMove 51 = .ok (.aload_n 0, 1) := by decide +kernel
theorem dX7_doMove_52 : decode cX7_doMove 52 = .ok (.getfield 9, 3) := by decide +kernel
theorem dX7_doMove_55 : decode cX7_doMove 55 = .ok (.iload_n 3, 1) := by decide +kernel
theorem dX7_doMove_56 : decode cX7_doMove 56 = .ok (.invokestatic 88, 3) := by decide +kernel
theorem dX7_doMove_59 : decode cX7_doMove 59 = .ok (.aload_n 0, 1) := by decide +kernel
theorem dX7_doMove_60 : decode cX7_doMove 60 = .ok (.getfield 27, 3) := by decide +kernel
theorem dX7_doMove_63 : decode cX7_doMove 63 = .ok (.getfield 91, 3) := by decide +kernel
theorem dX7_doMove_66 : decode cX7_doMove 66 = .ok (.iload_n 3, 1) := by decide +kernel
theorem dX7_doMove_67 : decode cX7_doMove 67 = .ok (.iaload, 1) := by decide +kernel
theorem dX7_doMove_68 : decode cX7_doMove 68 = .ok (.iastore, 1) := by decide +kernel
theorem dX7_doMove_69 : decode cX7_doMove 69 = .ok (.aload_n 0, 1) := by decide +kernel
theorem dX7_doMove_70 : decode cX7_doMove 70 = .ok (.getfield 9, 3) := by decide +kernel
theorem dX7_doMove_73 : decode cX7_doMove 73 = .ok (.iload_n 2, 1) := by decide +kernel
theorem dX7_doMove_74 : decode cX7_doMove 74 = .ok (.invokestatic 88, 3) := by decide +kernel
theorem dX7_doMove_77 : decode cX7_doMove 77 = .ok (.aload_n 0, 1) := by decide +kernel
theorem dX7_doMove_78 : decode cX7_doMove 78 = .ok (.getfield 27, 3) := by decide +kernel
theorem dX7_doMove_81 : decode cX7_doMove 81 = .ok (.getfield 91, 3) := by decide +kernel
theorem dX7_doMove_84 : decode cX7_doMove 84 = .ok (.iload_n 2, 1) := by decide +kernel
theorem dX7_doMove_85 : decode cX7_doMove 85 = .ok (.iaload, 1) := by decide +kernel
theorem dX7_doMove_86 : decode cX7_doMove 86 = .ok (.iastore, 1) := by decide +kernel
theorem dX7_doMove_87 : decode cX7_doMove 87 = .ok (.return_, 1) := by decide +kernel
theorem dX7_doAlone_0 : decode cX7_doAlone 0 = .ok (.aload_n 0, 1) := by decide +kernel
theorem dX7_doAlone_1 : decode cX7_doAlone 1 = .ok (.getfield 27, 3) := by decide +kernel
theorem dX7_doAlone_4 : decode cX7_doAlone 4 = .ok (.getfield 63, 3) := by decide +kernel
theorem dX7_doAlone_7 : decode cX7_doAlone 7 = .ok (.iload_n 1, 1) := by decide +kernel
theorem dX7_doAlone_8 : decode cX7_doAlone 8 = .ok (.iaload, 1) := by decide +kernel
theorem dX7_doAlone_9 : decode cX7_doAlone 9 = .ok (.istore_n 2, 1) := by decide +kernel
theorem dX7_doAlone_10 : decode cX7_doAlone 10 = .ok (.aload_n 0, 1) := by decide +kernel
theorem dX7_doAlone_11 : decode cX7_doAlone 11 = .ok (.getfield 27, 3) := by decide +kernel
theorem dX7_doAlone_14 : decode cX7_doAlone 14 = .ok (.getfield 70, 3) := by decide +kernel
theorem dX7_doAlone_17 : decode cX7_doAlone 17 = .ok (.iload_n 1, 1) := by decide +kernel
theorem dX7_doAlone_18 : decode cX7_doAlone 18 = .ok (.iaload, 1) := by decide +kernel
theorem dX7_doAlone_19 : decode cX7_doAlone 19 = .ok (.istore_n 3, 1) := by decide +kernel
theorem dX7_doAlone_20 : decode cX7_doAlone 20 = .ok (.aload_n 0, 1) := by decide +kernel
theorem dX7_doAlone_21 : decode cX7_doAlone 21 = .ok (.getfield 27, 3) := by decide +kernel
theorem dX7_doAlone_24 : decode cX7_doAlone 24 = .ok (.getfield 66, 3) := by decide +kernel
theorem dX7_doAlone_27 : decode cX7_doAlone 27 = .ok (.iload_n 1, 1) := by decide +kernel
theorem dX7_doAlone_28 : decode cX7_doAlone 28 = .ok (.caload, 1) := by decide +kernel
theorem dX7_doAlone_29 : decode cX7_doAlone 29 = .ok (.lookupswitch 165 #[(105, 53), (114, 121), (115, 43), (119, 72)], 43) := by decide +kernel
theorem dX7_doAlone_72 : decode cX7_doAlone 72 = .ok (.aload_n 0, 1) := by decide +kernel
theorem dX7_doAlone_73 : decode cX7_doAlone 73 = .ok (.getfield 15, 3) := by decide +kernel
theorem dX7_doAlone_76 : decode cX7_doAlone 76 = .ok (.iload_n 2, 1) := by decide +kernel
theorem dX7_doAlone_77 : decode cX7_doAlone 77 = .ok (.iload_n 3, 1) := by decide +kernel
theorem dX7_doAlone_78 : decode cX7_doAlone 78 = .ok (.iastore, 1) := by decide +kernel
theorem dX7_doAlone_79 : decode cX7_doAlone 79 = .ok (.goto 115, 3) := by decide +kernel
theorem dX7_doAlone_82 : decode cX7_doAlone 82 = .ok (.aload_n 0, 1) := by decide +kernel
theorem dX7_doAlone_83 : decode cX7_doAlone 83 = .ok (.getfield 15, 3) := by decide +kernel
theorem dX7_doAlone_86 : decode cX7_doAlone 86 = .ok (.iload_n 2, 1) := by decide +kernel
theorem dX7_doAlone_87 : decode cX7_doAlone 87 = .ok (.aload_n 0, 1) := by decide +kernel
theorem dX7_doAlone_88 : decode cX7_doAlone 88 = .ok (.getfield 15, 3) := by decide +kernel
theorem dX7_doAlone_91 : decode cX7_doAlone 91 = .ok (.iload_n 2, 1) := by decide +kernel
theorem dX7_doAlone_92 : decode cX7_doAlone 92 = .ok (.iaload, 1) := by decide +kernel
theorem dX7_doAlone_93 : decode cX7_doAlone 93 = .ok (.iload_n 3, 1) := by decide +kernel
theorem dX7_doAlone_94 : decode cX7_doAlone 94 = .ok (.iadd, 1) := by decide +kernel
theorem dX7_doAlone_95 : decode cX7_doAlone 95 = .ok (.iconst 4, 1) := by decide +kernel
theorem dX7_doAlone_96 : decode cX7_doAlone 96 = .ok (.irem, 1) := by decide +kernel
theorem dX7_doAlone_97 : decode cX7_doAlone 97 = .ok (.iastore, 1) := by decide +kernel
theorem dX7_doAlone_98 : decode cX7_doAlone 98 = .ok (.goto 96, 3) := by decide +kernel
theorem dX7_doAlone_101 : decode cX7_doAlone 101 = .ok (.aload_n 0, 1) := by decide +kernel
theorem dX7_doAlone_102 : decode cX7_doAlone 102 = .ok (.getfield 18, 3) := by decide +kernel
theorem dX7_doAlone_105 : decode cX7_doAlone 105 = .ok (.iload_n 2, 1) := by decide +kernel
theorem dX7_doAlone_106 : decode cX7_doAlone 106 = .ok (.iaload, 1) := by decide +kernel
theorem dX7_doAlone_107 : decode cX7_doAlone 107 = .ok (.ifCond .ne 18, 3) := by decide +kernel
theorem dX7_doAlone_110 : decode cX7_doAlone 110 = .ok (.aload_n 0, 1) := by decide +kernel
theorem dX7_doAlone_111 : decode cX7_doAlone 111 = .ok (.getfield 21, 3) := by decide +kernel
theorem dX7_doAlone_114 : decode cX7_doAlone 114 = .ok (.iload_n 2, 1) := by decide +kernel
theorem dX7_doAlone_115 : decode cX7_doAlone 115 = .ok (.aload_n 0, 1) := by decide +kernel
theorem dX7_doAlone_116 : decode cX7_doAlone 116 = .ok (.getfield 15, 3) := by decide +kernel
theorem dX7_doAlone_119 : decode cX7_doAlone 119 = .ok (.iload_n 3, 1) := by decide +kernel
theorem dX7_doAlone_120 : decode cX7_doAlone 120 = .ok (.iaload, 1) := by decide +kernel
theorem dX7_doAlone_121 : decode cX7_doAlone 121 = .ok (.iastore, 1) := by decide +kernel
theorem dX7_doAlone_122 : decode cX7_doAlone 122 = .ok (.goto 15, 3) := by decide +kernel
theorem dX7_doAlone_125 : decode cX7_doAlone 125 = .ok (.aload_n 0, 1) := by decide +kernel
theorem dX7_doAlone_126 : decode cX7_doAlone 126 = .ok (.getfield 24, 3) := by decide +kernel
theorem dX7_doAlone_129 : decode cX7_doAlone 129 = .ok (.iload_n 2, 1) := by decide +kernel
theorem dX7_doAlone_130 : decode cX7_doAlone 130 = .ok (.aload_n 0, 1) := by decide +kernel
theorem dX7_doAlone_131 : decode cX7_doAlone 131 = .ok (.getfield 15, 3) := by decide +kernel
theorem dX7_doAlone_134 : decode cX7_doAlone 134 = .ok (.iload_n 3, 1) := by decide +kernel
theorem dX7_doAlone_135 : decode cX7_doAlone 135 = .ok (.iaload, 1) := by decide +kernel
theorem dX7_doAlone_136 : decode cX7_doAlone 136 = .ok (.iastore, 1) := by decide +kernel
theorem dX7_doAlone_137 : decode cX7_doAlone 137 = .ok (.aload_n 0, 1) := by decide +kernel
theorem dX7_doAlone_138 : decode cX7_doAlone 138 = .ok (.getfield 18, 3) := by decide +kernel
theorem dX7_doAlone_141 : decode cX7_doAlone 141 = .ok (.iload_n 2, 1) := by decide +kernel
theorem dX7_doAlone_142 : decode cX7_doAlone 142 = .ok (.dup2, 1) := by decide +kernel
theorem dX7_doAlone_143 : decode cX7_doAlone 143 = .ok (.iaload, 1) := by decide +kernel
theorem dX7_doAlone_144 : decode cX7_doAlone 144 = .ok (.iconst 1, 1) := by decide +kernel
theorem dX7_doAlone_145 : decode cX7_doAlone 145 = .ok (.iadd, 1) := by decide +kernel
theorem dX7_doAlone_146 : decode cX7_doAlone 146 = .ok (.iastore, 1) := by decide +kernel
theorem dX7_doAlone_147 : decode cX7_doAlone 147 = .ok (.goto 47, 3) := by decide +kernel
theorem dX7_doAlone_150 : decode cX7_doAlone 150 = .ok (.aload_n 0, 1) := by decide +kernel
theorem dX7_doAlone_151 : decode cX7_doAlone 151 = .ok (.getfield 15, 3) := by decide +kernel
theorem dX7_doAlone_154 : decode cX7_doAlone 154 = .ok (.iload_n 3, 1) := by decide +kernel
theorem dX7_doAlone_155 : decode cX7_doAlone 155 = .ok (.aload_n 0, 1) := by decide +kernel
theorem dX7_doAlone_156 : decode cX7_doAlone 156 = .ok (.getfield 21, 3) := by decide +kernel
theorem dX7_doAlone_159 : decode cX7_doAlone 159 = .ok (.iload_n 2, 1) := by decide +kernel
theorem dX7_doAlone_160 : decode cX7_doAlone 160 = .ok (.iaload, 1) := by decide +kernel
theorem dX7_doAlone_161 : decode cX7_doAlone 161 = .ok (.iastore, 1) := by decide +kernel
theorem dX7_doAlone_162 : decode cX7_doAlone 162 = .ok (.aload_n 0, 1) := by decide +kernel
theorem dX7_doAlone_163 : decode cX7_doAlone 163 = .ok (.getfield 21, 3) := by decide +kernel
theorem dX7_doAlone_166 : decode cX7_doAlone 166 = .ok (.iload_n 2, 1) := by decide +kernel
theorem dX7_doAlone_167 : decode cX7_doAlone 167 = .ok (.aload_n 0, 1) := by decide +kernel
theorem dX7_doAlone_168 : decode cX7_doAlone 168 = .ok (.getfield 24, 3) := by decide +kernel
theorem dX7_doAlone_171 : decode cX7_doAlone 171 = .ok (.iload_n 2, 1) := by decide +kernel
theorem dX7_doAlone_172 : decode cX7_doAlone 172 = .ok (.iaload, 1) := by decide +kernel
theorem dX7_doAlone_173 : decode cX7_doAlone 173 = .ok (.iastore, 1) := by decide +kernel
theorem dX7_doAlone_174 : decode cX7_doAlone 174 = .ok (.aload_n 0, 1) := by decide +kernel
theorem dX7_doAlone_175 : decode cX7_doAlone 175 = .ok (.getfield 24, 3) := by decide +kernel
theorem dX7_doAlone_178 : decode cX7_doAlone 178 = .ok (.iload_n 2, 1) := by decide +kernel
theorem dX7_doAlone_179 : decode cX7_doAlone 179 = .ok (.iconst 0, 1) := by decide +kernel
theorem dX7_doAlone_180 : decode cX7_doAlone 180 = .ok (.iastore, 1) := by decide +kernel
theorem dX7_doAlone_181 : decode cX7_doAlone 181 = .ok (.aload_n 0, 1) := by decide +kernel
theorem dX7_doAlone_182 : decode cX7_doAlone 182 = .ok (.getfield 18, 3) := by decide +kernel
theorem dX7_doAlone_185 : decode cX7_doAlone 185 = .ok (.iload_n 2, 1) := by decide +kernel
theorem dX7_doAlone_186 : decode cX7_doAlone 186 = .ok (.dup2, 1) := by decide +kernel
theorem dX7_doAlone_187 : decode cX7_doAlone 187 = .ok (.iaload, 1) := by decide +kernel
theorem dX7_doAlone_188 : decode cX7_doAlone 188 = .ok (.iconst 1, 1) := by decide +kernel
theorem dX7_doAlone_189 : decode cX7_doAlone 189 = .ok (.isub, 1) := by decide +kernel
theorem dX7_doAlone_190 : decode cX7_doAlone 190 = .ok (.iastore, 1) := by decide +kernel
theorem dX7_doAlone_191 : decode cX7_doAlone 191 = .ok (.goto 3, 3) := by decide +kernel
theorem dX7_doAlone_194 : decode cX7_doAlone 194 = .ok (.return_, 1) := by decide +kernel
theorem dX7_exchangeToLeast_0 : decode cX7_exchangeToLeast 0 = .ok (.iconst 0, 1) := by decide +kernel
theorem dX7_exchangeToLeast_1 : decode cX7_exchangeToLeast 1 = .ok (.istore_n 2, 1) := by decide +kernel
theorem dX7_exchangeToLeast_2 : decode cX7_exchangeToLeast 2 = .ok (.iload_n 2, 1) := by decide +kernel
theorem dX7_exchangeToLeast_3 : decode cX7_exchangeToLeast 3 = .ok (.iconst 3, 1) := by decide +kernel
theorem dX7_exchangeToLeast_4 : decode cX7_exchangeToLeast 4 = .ok (.if_icmp .ge 66, 3) := by decide +kernel
theorem dX7_exchangeToLeast_7 : decode cX7_exchangeToLeast 7 = .ok (.iload_n 2, 1) := by decide +kernel
theorem dX7_exchangeToLeast_8 : decode cX7_exchangeToLeast 8 = .ok (.iconst 1, 1) := by decide +kernel
theorem dX7_exchangeToLeast_9 : decode cX7_exchangeToLeast 9 = .ok (.iadd, 1) := by decide +kernel
theorem dX7_exchangeToLeast_10 : decode cX7_exchangeToLeast 10 = .ok (.istore_n 3, 1) := by decide +kernel
theorem dX7_exchangeToLeast_11 : decode cX7_exchangeToLeast 11 = .ok (.iload_n 3, 1) := by decide +kernel
theorem dX7_exchangeToLeast_12 : decode cX7_exchangeToLeast 12 = .ok (.iconst 3, 1) := by decide +kernel
theorem dX7_exchangeToLeast_13 : decode cX7_exchangeToLeast 13 = .ok (.if_icmp .ge 51, 3) := by decide +kernel
theorem dX7_exchangeToLeast_16 : decode cX7_exchangeToLeast 16 = .ok (.aload_n 1, 1) := by decide +kernel
theorem dX7_exchangeToLeast_17 : decode cX7_exchangeToLeast 17 = .ok (.iload_n 2, 1) := by decide +kernel
theorem dX7_exchangeToLeast_18 : decode cX7_exchangeToLeast 18 = .ok (.iconst 3, 1) := by decide +kernel
theorem dX7_exchangeToLeast_19 : decode cX7_exchangeToLeast 19 = .ok (.imul, 1) := by decide +kernel
theorem dX7_exchangeToLeast_20 : decode cX7_exchangeToLeast 20 = .ok (.iload_n 3, 1) := by decide +kernel
theorem dX7_exchangeToLeast_21 : decode cX7_exchangeToLeast 21 = .ok (.iadd, 1) := by decide +kernel
theorem dX7_exchangeToLeast_22 : decode cX7_exchangeToLeast 22 = .ok (.iaload, 1) := by decide +kernel
theorem dX7_exchangeToLeast_23 : decode cX7_exchangeToLeast 23 = .ok (.iconst 1, 1) := by decide +kernel
theorem dX7_exchangeToLeast_24 : decode cX7_exchangeToLeast 24 = .ok (.if_icmp .ne 7, 3) := by decide +kernel
theorem dX7_exchangeToLeast_27 : decode cX7_exchangeToLeast 27 = .ok (.iconst 1, 1) := by decide +kernel
theorem dX7_exchangeToLeast_28 : decode cX7_exchangeToLeast 28 = .ok (.goto 4, 3) := by decide +kernel
theorem dX7_exchangeToLeast_31 : decode cX7_exchangeToLeast 31 = .ok (.iconst 0, 1) := by decide +kernel
theorem dX7_exchangeToLeast_32 : decode cX7_exchangeToLeast 32 = .ok (.istore 4, 2) := by decide +kernel
theorem dX7_exchangeToLeast_34 : decode cX7_exchangeToLeast 34 = .ok (.iload 4, 2) := by decide +kernel
theorem dX7_exchangeToLeast_36 : decode cX7_exchangeToLeast 36 = .ok (.ifCond .eq 22, 3) := by decide +kernel
theorem dX7_exchangeToLeast_39 : decode cX7_exchangeToLeast 39 = .ok (.aload_n 0, 1) := by decide +kernel
theorem dX7_exchangeToLeast_40 : decode cX7_exchangeToLeast 40 = .ok (.iload_n 2, 1) := by decide +kernel
theorem dX7_exchangeToLeast_41 : decode cX7_exchangeToLeast 41 = .ok (.invokevirtual 50, 3) := by decide +kernel
theorem dX7_exchangeToLeast_44 : decode cX7_exchangeToLeast 44 = .ok (.aload_n 0, 1) := by decide +kernel
theorem dX7_exchangeToLeast_45 : decode cX7_exchangeToLeast 45 = .ok (.iload_n 3, 1) := by decide +kernel
theorem dX7_exchangeToLeast_46 : decode cX7_exchangeToLeast 46 = .ok (.invokevirtual 50, 3) := by decide +kernel
theorem dX7_exchangeToLeast_49 : decode cX7_exchangeToLeast 49 = .ok (.if_icmp .le 9, 3) := by decide +kernel
theorem dX7_exchangeToLeast_52 : decode cX7_exchangeToLeast 52 = .ok (.aload_n 0, 1) := by decide +kernel
theorem dX7_exchangeToLeast_53 : decode cX7_exchangeToLeast 53 = .ok (.iload_n 2, 1) := by decide +kernel
theorem dX7_exchangeToLeast_54 : decode cX7_exchangeToLeast 54 = .ok (.iload_n 3, 1) := by decide +kernel
theorem dX7_exchangeToLeast_55 : decode cX7_exchangeToLeast 55 = .ok (.invokevirtual 94, 3) := by decide +kernel
theorem dX7_exchangeToLeast_58 : decode cX7_exchangeToLeast 58 = .ok (.iinc 3 1, 3) := by decide +kernel
theorem dX7_exchangeToLeast_61 : decode cX7_exchangeToLeast 61 = .ok (.goto (-50), 3) := by decide +kernel
theorem dX7_exchangeToLeast_64 : decode cX7_exchangeToLeast 64 = .ok (.iinc 2 1, 3) := by decide +kernel
theorem dX7_exchangeToLeast_67 : decode cX7_exchangeToLeast 67 = .ok (.goto (-65), 3) := by decide +kernel
theorem dX7_exchangeToLeast_70 : decode cX7_exchangeToLeast 70 = .ok (.return_, 1) := by decide +kernel
theorem dX7_exchange_0 : decode cX7_exchange 0 = .ok (.aload_n 0, 1) := by decide +kernel
theorem dX7_exchange_1 : decode cX7_exchange 1 = .ok (.getfield 9, 3) := by decide +kernel
theorem dX7_exchange_4 : decode cX7_exchange 4 = .ok (.iload_n 1, 1) := by decide +kernel
theorem dX7_exchange_5 : decode cX7_exchange 5 = .ok (.iaload, 1) := by decide +kernel
theorem dX7_exchange_6 : decode cX7_exchange 6 = .ok (.istore_n 3, 1) := by decide +kernel
theorem dX7_exchange_7 : decode cX7_exchange 7 = .ok (.aload_n 0, 1) := by decide +kernel
theorem dX7_exchange_8 : decode cX7_exchange 8 = .ok (.getfield 9, 3) := by decide +kernel
theorem dX7_exchange_11 : decode cX7_exchange 11 = .ok (.iload_n 1, 1) := by decide +kernel
theorem dX7_exchange_12 : decode cX7_exchange 12 = .ok (.aload_n 0, 1) := by decide +kernel
theorem dX7_exchange_13 : decode cX7_exchange 13 = .ok (.getfield 9, 3) := by decide +kernel
theorem dX7_exchange_16 : decode cX7_exchange 16 = .ok (.iload_n 2, 1) := by decide +kernel
theorem dX7_exchange_17 : decode cX7_exchange 17 = .ok (.iaload, 1) := by decide +kernel
theorem dX7_exchange_18 : decode cX7_exchange 18 = .ok (.iastore, 1) := by decide +kernel
theorem dX7_exchange_19 : decode cX7_exchange 19 = .ok (.aload_n 0, 1) := by decide +kernel
theorem dX7_exchange_20 : decode cX7_exchange 20 = .ok (.getfield 9, 3) := by decide +kernel
theorem dX7_exchange_23 : decode cX7_exchange 23 = .ok (.iload_n 2, 1) := by decide +kernel
theorem dX7_exchange_24 : decode cX7_exchange 24 = .ok (.iload_n 3, 1) := by decide +kernel
theorem dX7_exchange_25 : decode cX7_exchange 25 = .ok (.iastore, 1) := by decide +kernel
theorem dX7_exchange_26 : decode cX7_exchange 26 = .ok (.iconst 0, 1) := by decide +kernel
theorem dX7_exchange_27 : decode cX7_exchange 27 = .ok (.istore 4, 2) := by decide +kernel
theorem dX7_exchange_29 : decode cX7_exchange 29 = .ok (.iload 4, 2) := by decide +kernel
theorem dX7_exchange_31 : decode cX7_exchange 31 = .ok (.iconst 2, 1) := by decide +kernel
theorem dX7_exchange_32 : decode cX7_exchange 32 = .ok (.if_icmp .ge 61, 3) := by decide +kernel
theorem dX7_exchange_35 : decode cX7_exchange 35 = .ok (.getstatic 58, 3) := by decide +kernel
theorem dX7_exchange_38 : decode cX7_exchange 38 = .ok (.iload_n 1, 1) := by decide +kernel
theorem dX7_exchange_39 : decode cX7_exchange 39 = .ok (.iaload, 1) := by decide +kernel
theorem dX7_exchange_40 : decode cX7_exchange 40 = .ok (.iload 4, 2) := by decide +kernel
theorem dX7_exchange_42 : decode cX7_exchange 42 = .ok (.iadd, 1) := by decide +kernel
theorem dX7_exchange_43 : decode cX7_exchange 43 = .ok (.istore 5, 2) := by decide +kernel
theorem dX7_exchange_45 : decode cX7_exchange 45 = .ok (.getstatic 58, 3) := by decide +kernel
theorem dX7_exchange_48 : decode cX7_exchange 48 = .ok (.iload_n 2, 1) := by decide +kernel
theorem dX7_exchange_49 : decode cX7_exchange 49 = .ok (.iaload, 1) := by decide +kernel
theorem dX7_exchange_50 : decode cX7_exchange 50 = .ok (.iload 4, 2) := by decide +kernel
theorem dX7_exchange_52 : decode cX7_exchange 52 = .ok (.iadd, 1) := by decide +kernel
theorem dX7_exchange_53 : decode cX7_exchange 53 = .ok (.istore 6, 2) := by decide +kernel
theorem dX7_exchange_55 : decode cX7_exchange 55 = .ok (.aload_n 0, 1) := by decide +kernel
theorem dX7_exchange_56 : decode cX7_exchange 56 = .ok (.getfield 15, 3) := by decide +kernel
theorem dX7_exchange_59 : decode cX7_exchange 59 = .ok (.iload 5, 2) := by decide +kernel
theorem dX7_exchange_61 : decode cX7_exchange 61 = .ok (.iaload, 1) := by decide +kernel
theorem dX7_exchange_62 : decode cX7_exchange 62 = .ok (.istore 7, 2) := by decide +kernel
theorem dX7_exchange_64 : decode cX7_exchange 64 = .ok (.aload_n 0, 1) := by decide +kernel
theorem dX7_exchange_65 : decode cX7_exchange 65 = .ok (.getfield 15, 3) := by decide +kernel
theorem dX7_exchange_68 : decode cX7_exchange 68 = .ok (.iload 5, 2) := by decide +kernel
theorem dX7_exchange_70 : decode cX7_exchange 70 = .ok (.aload_n 0, 1) := by decide +kernel
theorem dX7_exchange_71 : decode cX7_exchange 71 = .ok (.getfield 15, 3) := by decide +kernel
theorem dX7_exchange_74 : decode cX7_exchange 74 = .ok (.iload 6, 2) := by decide +kernel
theorem dX7_exchange_76 : decode cX7_exchange 76 = .ok (.iaload, 1) := by decide +kernel
theorem dX7_exchange_77 : decode cX7_exchange 77 = .ok (.iastore, 1) := by decide +kernel
theorem dX7_exchange_78 : decode cX7_exchange 78 = .ok (.aload_n 0, 1) := by decide +kernel
theorem dX7_exchange_79 : decode cX7_exchange 79 = .ok (.getfield 15, 3) := by decide +kernel
theorem dX7_exchange_82 : decode cX7_exchange 82 = .ok (.iload 6, 2) := by decide +kernel
theorem dX7_exchange_84 : decode cX7_exchange 84 = .ok (.iload 7, 2) := by decide +kernel
theorem dX7_exchange_86 : decode cX7_exchange 86 = .ok (.iastore, 1) := by decide +kernel
theorem dX7_exchange_87 : decode cX7_exchange 87 = .ok (.iinc 4 1, 3) := by decide +kernel
theorem dX7_exchange_90 : decode cX7_exchange 90 = .ok (.goto (-61), 3) := by decide +kernel
theorem dX7_exchange_93 : decode cX7_exchange 93 = .ok (.return_, 1) := by decide +kernel
theorem dX8_init_0 : decode cX8_init 0 = .ok (.aload_n 0, 1) := by decide +kernel
theorem dX8_init_1 : decode cX8_init 1 = .ok (.invokespecial 1, 3) := by decide +kernel
theorem dX8_init_4 : decode cX8_init 4 = .ok (.new 7, 3) := by decide +kernel
theorem dX8_init_7 : decode cX8_init 7 = .ok (.dup, 1) := by decide +kernel
theorem dX8_init_8 : decode cX8_init 8 = .ok (.invokespecial 9, 3) := by decide +kernel
theorem dX8_init_11 : decode cX8_init 11 = .ok (.astore_n 1, 1) := by decide +kernel
theorem dX8_init_12 : decode cX8_init 12 = .ok (.new 10, 3) := by decide +kernel
theorem dX8_init_15 : decode cX8_init 15 = .ok (.dup, 1) := by decide +kernel
theorem dX8_init_16 : decode cX8_init 16 = .ok (.invokespecial 12, 3) := by decide +kernel
theorem dX8_init_19 : decode cX8_init 19 = .ok (.astore_n 2, 1) := by decide +kernel
theorem dX8_init_20 : decode cX8_init 20 = .ok (.aload_n 0, 1) := by decide +kernel
theorem dX8_init_21 : decode cX8_init 21 = .ok (.new 13, 3) := by decide +kernel
theorem dX8_init_24 : decode cX8_init 24 = .ok (.dup, 1) := by decide +kernel
theorem dX8_init_25 : decode cX8_init 25 = .ok (.invokespecial 15, 3) := by decide +kernel
theorem dX8_init_28 : decode cX8_init 28 = .ok (.putfield 16, 3) := by decide +kernel
theorem dX8_init_31 : decode cX8_init 31 = .ok (.aload_n 0, 1) := by decide +kernel
theorem dX8_init_32 : decode cX8_init 32 = .ok (.new 22, 3) := by decide +kernel
theorem dX8_init_35 : decode cX8_init 35 = .ok (.dup, 1) := by decide +kernel
theorem dX8_init_36 : decode cX8_init 36 = .ok (.aload_n 0, 1) := by decide +kernel
theorem dX8_init_37 : decode cX8_init 37 = .ok (.getfield 16, 3) := by decide +kernel
theorem dX8_init_40 : decode cX8_init 40 = .ok (.aload_n 1, 1) := by decide +kernel
theorem dX8_init_41 : decode cX8_init 41 = .ok (.aload_n 2, 1) := by decide +kernel
theorem dX8_init_42 : decode cX8_init 42 = .ok (.invokespecial 24, 3) := by decide +kernel
theorem dX8_init_45 : decode cX8_init 45 = .ok (.putfield 27, 3) := by decide +kernel
theorem dX8_init_48 : decode cX8_init 48 = .ok (.aload_n 0, 1) := by decide +kernel
theorem dX8_init_49 : decode cX8_init 49 = .ok (.new 31, 3) := by decide +kernel
theorem dX8_init_52 : decode cX8_init 52 = .ok (.dup, 1) := by decide +kernel
theorem dX8_init_53 : decode cX8_init 53 = .ok (.aload_n 1, 1) := by decide +kernel
theorem dX8_init_54 : decode cX8_init 54 = .ok (.aload_n 2, 1) := by decide +kernel
theorem dX8_init_55 : decode cX8_init 55 = .ok (.invokespecial 33, 3) := by decide +kernel
theorem dX8_init_58 : decode cX8_init 58 = .ok (.putfield 36, 3) := by decide +kernel
theorem dX8_init_61 : decode cX8_init 61 = .ok (.return_, 1) := by decide +kernel
theorem dX8_addProcess_0 : decode cX8_addProcess 0 = .ok (.aload_n 0, 1) := by decide +kernel
theorem dX8_addProcess_1 : decode cX8_addProcess 1 = .ok (.getfield 16, 3) := by decide +kernel
theorem dX8_addProcess_4 : decode cX8_addProcess 4 = .ok (.getfield 40, 3) := by decide +kernel
theorem dX8_addProcess_7 : decode cX8_addProcess 7 = .ok (.iconst 3, 1) := by decide +kernel
theorem dX8_addProcess_8 : decode cX8_addProcess 8 = .ok (.if_icmp .lt 13, 3) := by decide +kernel
theorem dX8_addProcess_11 : decode cX8_addProcess 11 = .ok (.new 44, 3) := by decide +kernel
theorem dX8_addProcess_14 : decode cX8_addProcess 14 = .ok (.dup, 1) := by decide +kernel
theorem dX8_addProcess_15 : decode cX8_addProcess 15 = .ok (.ldc 46, 2) := by decide +kernel
theorem dX8_addProcess_17 : decode cX8_addProcess 17 = .ok (.invokespecial 48, 3) := by decide +kernel
theorem dX8_addProcess_20 : decode cX8_addProcess 20 = .ok (.athrow, 1) := by decide +kernel
theorem dX8_addProcess_21 : decode cX8_addProcess 21 = .ok (.aload_n 0, 1) := by decide +kernel
theorem dX8_addProcess_22 : decode cX8_addProcess 22 = .ok (.getfield 27, 3) := by decide +kernel
theorem dX8_addProcess_25 : decode cX8_addProcess 25 = .ok (.invokevirtual 51, 3) := by decide +kernel
theorem dX8_addProcess_28 : decode cX8_addProcess 28 = .ok (.aload_n 0, 1) := by decide +kernel
theorem dX8_addProcess_29 : decode cX8_addProcess 29 = .ok (.getfield 16, 3) := by decide +kernel
theorem dX8_addProcess_32 : decode cX8_addProcess 32 = .ok (.invokevirtual 54, 3) := by decide +kernel
theorem dX8_addProcess_35 : decode cX8_addProcess 35 = .ok (.ireturn, 1) := by decide +kernel
theorem dX8_addStep_0 : decode cX8_addStep 0 = .ok (.aload_n 0, 1) := by decide +kernel
theorem dX8_addStep_1 : decode cX8_addStep 1 = .ok (.iload_n 1, 1) := by decide +kernel
theorem dX8_addStep_2 : decode cX8_addStep 2 = .ok (.invokevirtual 58, 3) := by decide +kernel
theorem dX8_addStep_5 : decode cX8_addStep 5 = .ok (.iload_n 2, 1) := by decide +kernel
theorem dX8_addStep_6 : decode cX8_addStep 6 = .ok (.invokestatic 62, 3) := by decide +kernel
theorem dX8_addStep_9 : decode cX8_addStep 9 = .ok (.iload_n 3, 1) := by decide +kernel
theorem dX8_addStep_10 : decode cX8_addStep 10 = .ok (.invokestatic 62, 3) := by decide +kernel
theorem dX8_addStep_13 : decode cX8_addStep 13 = .ok (.aload_n 0, 1) := by decide +kernel
theorem dX8_addStep_14 : decode cX8_addStep 14 = .ok (.getfield 16, 3) := by decide +kernel
theorem dX8_addStep_17 : decode cX8_addStep 17 = .ok (.iload_n 1, 1) := by decide +kernel
theorem dX8_addStep_18 : decode cX8_addStep 18 = .ok (.iload 4, 2) := by decide +kernel
theorem dX8_addStep_20 : decode cX8_addStep 20 = .ok (.iload 5, 2) := by decide +kernel
theorem dX8_addStep_22 : decode cX8_addStep 22 = .ok (.iload 6, 2) := by decide +kernel
theorem dX8_addStep_24 : decode cX8_addStep 24 = .ok (.invokevirtual 65, 3) := by decide +kernel
theorem dX8_addStep_27 : decode cX8_addStep 27 = .ok (.ifCond .ne 13, 3) := by decide +kernel
theorem dX8_addStep_30 : decode cX8_addStep 30 = .ok (.new 69, 3) := by decide +kernel
theorem dX8_addStep_33 : decode cX8_addStep 33 = .ok (.dup, 1) := by decide +kernel
theorem dX8_addStep_34 : decode cX8_addStep 34 = .ok (.ldc 71, 2) := by decide +kernel
theorem dX8_addStep_36 : decode cX8_addStep 36 = .ok (.invokespecial 73, 3) := by decide +kernel
theorem dX8_addStep_39 : decode cX8_addStep 39 = .ok (.athrow, 1) := by decide +kernel
theorem dX8_addStep_40 : decode cX8_addStep 40 = .ok (.aload_n 0, 1) := by decide +kernel
theorem dX8_addStep_41 : decode cX8_addStep 41 = .ok (.getfield 16, 3) := by decide +kernel
theorem dX8_addStep_44 : decode cX8_addStep 44 = .ok (.getfield 74, 3) := by decide +kernel
theorem dX8_addStep_47 : decode cX8_addStep 47 = .ok (.iload_n 1, 1) := by decide +kernel
theorem dX8_addStep_48 : decode cX8_addStep 48 = .ok (.iaload, 1) := by decide +kernel
theorem dX8_addStep_49 : decode cX8_addStep 49 = .ok (.bipush 14, 2) := by decide +kernel
theorem dX8_addStep_51 : decode cX8_addStep 51 = .ok (.if_icmp .lt 13, 3) := by decide +kernel
theorem dX8_addStep_54 : decode cX8_addStep 54 = .ok (.new 44, 3) := by decide +kernel
theorem dX8_addStep_57 : decode cX8_addStep 57 = .ok (.dup, 1) := by decide +kernel
theorem dX8_addStep_58 : decode cX8_addStep 58 = .ok (.ldc 78, 2) := by decide +kernel
theorem dX8_addStep_60 : decode cX8_addStep 60 = .ok (.invokespecial 48, 3) := by decide +kernel
theorem dX8_addStep_63 : decode cX8_addStep 63 = .ok (.athrow, 1) := by decide +kernel
theorem dX8_addStep_64 : decode cX8_addStep 64 = .ok (.aload_n 0, 1) := by decide +kernel
theorem dX8_addStep_65 : decode cX8_addStep 65 = .ok (.getfield 27, 3) := by decide +kernel
theorem dX8_addStep_68 : decode cX8_addStep 68 = .ok (.invokevirtual 51, 3) := by decide +kernel
theorem dX8_addStep_71 : decode cX8_addStep 71 = .ok (.aload_n 0, 1) := by decide +kernel
theorem dX8_addStep_72 : decode cX8_addStep 72 = .ok (.getfield 16, 3) := by decide +kernel
theorem dX8_addStep_75 : decode cX8_addStep 75 = .ok (.iload_n 1, 1) := by decide +kernel
theorem dX8_addStep_76 : decode cX8_addStep 76 = .ok (.iload_n 2, 1) := by decide +kernel
theorem dX8_addStep_77 : decode cX8_addStep 77 = .ok (.iload_n 3, 1) := by decide +kernel
theorem dX8_addStep_78 : decode cX8_addStep 78 = .ok (.iload 4, 2) := by decide +kernel
theorem dX8_addStep_80 : decode cX8_addStep 80 = .ok (.iload 5, 2) := by decide +kernel
theorem dX8_addStep_82 : decode cX8_addStep 82 = .ok (.iload 6, 2) := by decide +kernel
theorem dX8_addStep_84 : decode cX8_addStep 84 = .ok (.invokevirtual 80, 3) := by decide +kernel
theorem dX8_addStep_87 : decode cX8_addStep 87 = .ok (.ireturn, 1) := by decide +kernel
theorem dX8_addChannel_0 : decode cX8_addChannel 0 = .ok (.iload_n 1, 1) := by decide +kernel
theorem dX8_addChannel_1 : decode cX8_addChannel 1 = .ok (.ifCond .lt 8, 3) := by decide +kernel
theorem dX8_addChannel_4 : decode cX8_addChannel 4 = .ok (.iload_n 1, 1) := by decide +kernel
theorem dX8_addChannel_5 : decode cX8_addChannel 5 = .ok (.iconst 2, 1) := by decide +kernel
theorem dX8_addChannel_6 : decode cX8_addChannel 6 = .ok (.if_icmp .le 13, 3) := by decide +kernel
theorem dX8_addChannel_9 : decode cX8_addChannel 9 = .ok (.new 69, 3) := by decide +kernel
theorem dX8_addChannel_12 : decode cX8_addChannel 12 = .ok (.dup, 1) := by decide +kernel
theorem dX8_addChannel_13 : decode cX8_addChannel 13 = .ok (.ldc 84, 2) := by decide +kernel
theorem dX8_addChannel_15 : decode cX8_addChannel 15 = .ok (.invokespecial 73, 3) := by decide +kernel
theorem dX8_addChannel_18 : decode cX8_addChannel 18 = .ok (.athrow, 1) := by decide +kernel
theorem dX8_addChannel_19 : decode cX8_addChannel 19 = .ok (.aload_n 0, 1) := by decide +kernel
theorem dX8_addChannel_20 : decode cX8_addChannel 20 = .ok (.getfield 16, 3) := by decide +kernel
theorem dX8_addChannel_23 : decode cX8_addChannel 23 = .ok (.getfield 86, 3) := by decide +kernel
theorem dX8_addChannel_26 : decode cX8_addChannel 26 = .ok (.iconst 2, 1) := by decide +kernel
theorem dX8_addChannel_27 : decode cX8_addChannel 27 = .ok (.if_icmp .lt 13, 3) := by decide +kernel
theorem dX8_addChannel_30 : decode cX8_addChannel 30 = .ok (.new 44, 3) := by decide +kernel
theorem dX8_addChannel_33 : decode cX8_addChannel 33 = .ok (.dup, 1) := by decide +kernel
theorem dX8_addChannel_34 : decode cX8_addChannel 34 = .ok (.ldc 89, 2) := by decide +kernel
theorem dX8_addChannel_36 : decode cX8_addChannel 36 = .ok (.invokespecial 48, 3) := by decide +kernel
theorem dX8_addChannel_39 : decode cX8_addChannel 39 = .ok (.athrow, 1) := by decide +kernel
theorem dX8_addChannel_40 : decode cX8_addChannel 40 = .ok (.aload_n 0, 1) := by decide +kernel
theorem dX8_addChannel_41 : decode cX8_addChannel 41 = .ok (.getfield 27, 3) := by decide +kernel
theorem dX8_addChannel_44 : decode cX8_addChannel 44 = .ok (.invokevirtual 51, 3) := by decide +kernel
theorem dX8_addChannel_47 : decode cX8_addChannel 47 = .ok (.aload_n 0, 1) := by decide +kernel
theorem dX8_addChannel_48 : decode cX8_addChannel 48 = .ok (.getfield 16, 3) := by decide +kernel
theorem dX8_addChannel_51 : decode cX8_addChannel 51 = .ok (.iload_n 1, 1) := by decide +kernel
theorem dX8_addChannel_52 : decode cX8_addChannel 52 = .ok (.invokevirtual 91, 3) := by decide +kernel
theorem dX8_addChannel_55 : decode cX8_addChannel 55 = .ok (.ireturn, 1) := by decide +kernel
theorem dX8_setStart_0 : decode cX8_setStart 0 = .ok (.iload_n 1, 1) := by decide +kernel
theorem dX8_setStart_1 : decode cX8_setStart 1 = .ok (.invokestatic 95, 3) := by decide +kernel
theorem dX8_setStart_4 : decode cX8_setStart 4 = .ok (.iload_n 2, 1) := by decide +kernel
theorem dX8_setStart_5 : decode cX8_setStart 5 = .ok (.invokestatic 98, 3) := by decide +kernel
theorem dX8_setStart_8 : decode cX8_setStart 8 = .ok (.aload_n 0, 1) := by decide +kernel
theorem dX8_setStart_9 : decode cX8_setStart 9 = .ok (.getfield 27, 3) := by decide +kernel
theorem dX8_setStart_12 : decode cX8_setStart 12 = .ok (.invokevirtual 51, 3) := by decide +kernel
theorem dX8_setStart_15 : decode cX8_setStart 15 = .ok (.aload_n 0, 1) := by decide +kernel
theorem dX8_setStart_16 : decode cX8_setStart 16 = .ok (.getfield 16, 3) := by decide +kernel
theorem dX8_setStart_19 : decode cX8_setStart 19 = .ok (.getfield 101, 3) := by decide +kernel
theorem dX8_setStart_22 : decode cX8_setStart 22 = .ok (.iload_n 1, 1) := by decide +kernel
theorem dX8_setStart_23 : decode cX8_setStart 23 = .ok (.iaload, 1) := by decide +kernel
theorem dX8_setStart_24 : decode cX8_setStart 24 = .ok (.istore_n 3, 1) := by decide +kernel
theorem dX8_setStart_25 : decode cX8_setStart 25 = .ok (.aload_n 0, 1) := by decide +kernel
theorem dX8_setStart_26 : decode cX8_setStart 26 = .ok (.getfield 16, 3) := by decide +kernel
theorem dX8_setStart_29 : decode cX8_setStart 29 = .ok (.getfield 101, 3) := by decide +kernel
theorem dX8_setStart_32 : decode cX8_setStart 32 = .ok (.iload_n 1, 1) := by decide +kernel
theorem dX8_setStart_33 : decode cX8_setStart 33 = .ok (.iload_n 2, 1) := by decide +kernel
theorem dX8_setStart_34 : decode cX8_setStart 34 = .ok (.iastore, 1) := by decide +kernel
theorem dX8_setStart_35 : decode cX8_setStart 35 = .ok (.iload_n 3, 1) := by decide +kernel
theorem dX8_setStart_36 : decode cX8_setStart 36 = .ok (.ireturn, 1) := by decide +kernel
theorem dX8_setMarks_0 : decode cX8_setMarks 0 = .ok (.aload_n 0, 1) := by decide +kernel
theorem dX8_setMarks_1 : decode cX8_setMarks 1 = .ok (.iload_n 1, 1) := by decide +kernel
theorem dX8_setMarks_2 : decode cX8_setMarks 2 = .ok (.invokevirtual 58, 3) := by decide +kernel
theorem dX8_setMarks_5 : decode cX8_setMarks 5 = .ok (.iload_n 2, 1) := by decide +kernel
theorem dX8_setMarks_6 : decode cX8_setMarks 6 = .ok (.invokestatic 62, 3) := by decide +kernel
theorem dX8_setMarks_9 : decode cX8_setMarks 9 = .ok (.aload_n 0, 1) := by decide +kernel
theorem dX8_setMarks_10 : decode cX8_setMarks 10 = .ok (.getfield 27, 3) := by decide +kernel
theorem dX8_setMarks_13 : decode cX8_setMarks 13 = .ok (.invokevirtual 51, 3) := by decide +kernel
theorem dX8_setMarks_16 : decode cX8_setMarks 16 = .ok (.aload_n 0, 1) := by decide +kernel
theorem dX8_setMarks_17 : decode cX8_setMarks 17 = .ok (.getfield 16, 3) := by decide +kernel
theorem dX8_setMarks_20 : decode cX8_setMarks 20 = .ok (.iload_n 1, 1) := by decide +kernel
theorem dX8_setMarks_21 : decode cX8_setMarks 21 = .ok (.iload_n 2, 1) := by decide +kernel
theorem dX8_setMarks_22 : decode cX8_setMarks 22 = .ok (.iload_n 3, 1) := by decide +kernel
theorem dX8_setMarks_23 : decode cX8_setMarks 23 = .ok (.ifCond .eq 7, 3) := by decide +kernel
theorem dX8_setMarks_26 : decode cX8_setMarks 26 = .ok (.iconst 1, 1) := by decide +kernel
theorem dX8_setMarks_27 : decode cX8_setMarks 27 = .ok (.goto 4, 3) := by decide +kernel
theorem dX8_setMarks_30 : decode cX8_setMarks 30 = .ok (.iconst 0, 1) := by decide +kernel
theorem dX8_setMarks_31 : decode cX8_setMarks 31 = .ok (.iload 4, 2) := by decide +kernel
theorem dX8_setMarks_33 : decode cX8_setMarks 33 = .ok (.ifCond .eq 7, 3) := by decide +kernel
theorem dX8_setMarks_36 : decode cX8_setMarks 36 = .ok (.iconst 2, 1) := by decide +kernel
theorem dX8_setMarks_37 : decode cX8_setMarks 37 = .ok (.goto 4, 3) := by decide +kernel
theorem dX8_setMarks_40 : decode cX8_setMarks 40 = .ok (.iconst 0, 1) := by decide +kernel
theorem dX8_setMarks_41 : decode cX8_setMarks 41 = .ok (.ior, 1) := by decide +kernel
theorem dX8_setMarks_42 : decode cX8_setMarks 42 = .ok (.invokevirtual 104, 3) := by decide +kernel
theorem dX8_setMarks_45 : decode cX8_setMarks 45 = .ok (.ireturn, 1) := by decide +kernel
theorem dX8_addInvariant_0 : decode cX8_addInvariant 0 = .ok (.iload_n 1, 1) := by decide +kernel
theorem dX8_addInvariant_1 : decode cX8_addInvariant 1 = .ok (.invokestatic 95, 3) := by decide +kernel
theorem dX8_addInvariant_4 : decode cX8_addInvariant 4 = .ok (.iload_n 2, 1) := by decide +kernel
theorem dX8_addInvariant_5 : decode cX8_addInvariant 5 = .ok (.invokestatic 98, 3) := by decide +kernel
theorem dX8_addInvariant_8 : decode cX8_addInvariant 8 = .ok (.aload_n 0, 1) := by decide +kernel
theorem dX8_addInvariant_9 : decode cX8_addInvariant 9 = .ok (.getfield 16, 3) := by decide +kernel
theorem dX8_addInvariant_12 : decode cX8_addInvariant 12 = .ok (.getfield 108, 3) := by decide +kernel
theorem dX8_addInvariant_15 : decode cX8_addInvariant 15 = .ok (.iconst 4, 1) := by decide +kernel
theorem dX8_addInvariant_16 : decode cX8_addInvariant 16 = .ok (.if_icmp .lt 13, 3) := by decide +kernel
theorem dX8_addInvariant_19 : decode cX8_addInvariant 19 = .ok (.new 44, 3) := by decide +kernel
theorem dX8_addInvariant_22 : decode cX8_addInvariant 22 = .ok (.dup, 1) := by decide +kernel
theorem dX8_addInvariant_23 : decode cX8_addInvariant 23 = .ok (.ldc 111, 2) := by decide +kernel
theorem dX8_addInvariant_25 : decode cX8_addInvariant 25 = .ok (.invokespecial 48, 3) := by decide +kernel
theorem dX8_addInvariant_28 : decode cX8_addInvariant 28 = .ok (.athrow, 1) := by decide +kernel
theorem dX8_addInvariant_29 : decode cX8_addInvariant 29 = .ok (.aload_n 0, 1) := by decide +kernel
theorem dX8_addInvariant_30 : decode cX8_addInvariant 30 = .ok (.getfield 27, 3) := by decide +kernel
theorem dX8_addInvariant_33 : decode cX8_addInvariant 33 = .ok (.invokevirtual 51, 3) := by decide +kernel
theorem dX8_addInvariant_36 : decode cX8_addInvariant 36 = .ok (.aload_n 0, 1) := by decide +kernel
theorem dX8_addInvariant_37 : decode cX8_addInvariant 37 = .ok (.getfield 16, 3) := by decide +kernel
theorem dX8_addInvariant_40 : decode cX8_addInvariant 40 = .ok (.iload_n 1, 1) := by decide +kernel
theorem dX8_addInvariant_41 : decode cX8_addInvariant 41 = .ok (.iload_n 2, 1) := by decide +kernel
theorem dX8_addInvariant_42 : decode cX8_addInvariant 42 = .ok (.invokevirtual 113, 3) := by decide +kernel
theorem dX8_addInvariant_45 : decode cX8_addInvariant 45 = .ok (.ireturn, 1) := by decide +kernel
theorem dX8_areAlike_0 : decode cX8_areAlike 0 = .ok (.aload_n 0, 1) := by decide +kernel
theorem dX8_areAlike_1 : decode cX8_areAlike 1 = .ok (.iload_n 1, 1) := by decide +kernel
theorem dX8_areAlike_2 : decode cX8_areAlike 2 = .ok (.invokevirtual 58, 3) := by decide +kernel
theorem dX8_areAlike_5 : decode cX8_areAlike 5 = .ok (.aload_n 0, 1) := by decide +kernel
theorem dX8_areAlike_6 : decode cX8_areAlike 6 = .ok (.iload_n 2, 1) := by decide +kernel
theorem dX8_areAlike_7 : decode cX8_areAlike 7 = .ok (.invokevirtual 58, 3) := by decide +kernel
theorem dX8_areAlike_10 : decode cX8_areAlike 10 = .ok (.aload_n 0, 1) := by decide +kernel
theorem dX8_areAlike_11 : decode cX8_areAlike 11 = .ok (.getfield 16, 3) := by decide +kernel
theorem dX8_areAlike_14 : decode cX8_areAlike 14 = .ok (.iload_n 1, 1) := by decide +kernel
theorem dX8_areAlike_15 : decode cX8_areAlike 15 = .ok (.iload_n 2, 1) := by decide +kernel
theorem dX8_areAlike_16 : decode cX8_areAlike 16 = .ok (.invokevirtual 117, 3) := by decide +kernel
theorem dX8_areAlike_19 : decode cX8_areAlike 19 = .ok (.ireturn, 1) := by decide +kernel
theorem dX8_begin_0 : decode cX8_begin 0 = .ok (.iload_n 1, 1) := by decide +kernel
theorem dX8_begin_1 : decode cX8_begin 1 = .ok (.bipush 97, 2) := by decide +kernel
theorem dX8_begin_3 : decode cX8_begin 3 = .ok (.if_icmp .eq 31, 3) := by decide +kernel
theorem dX8_begin_6 : decode cX8_begin 6 = .ok (.iload_n 1, 1) := by decide +kernel
theorem dX8_begin_7 : decode cX8_begin 7 = .ok (.bipush 112, 2) := by decide +kernel
theorem dX8_begin_9 : decode cX8_begin 9 = .ok (.if_icmp .eq 25, 3) := by decide +kernel
theorem dX8_begin_12 : decode cX8_begin 12 = .ok (.iload_n 1, 1) := by decide +kernel
theorem dX8_begin_13 : decode cX8_begin 13 = .ok (.bipush 115, 2) := by decide +kernel
theorem dX8_begin_15 : decode cX8_begin 15 = .ok (.if_icmp .eq 19, 3) := by decide +kernel
theorem dX8_begin_18 : decode cX8_begin 18 = .ok (.iload_n 1, 1) := by decide +kernel
theorem dX8_begin_19 : decode cX8_begin 19 = .ok (.bipush 104, 2) := by decide +kernel
theorem dX8_begin_21 : decode cX8_begin 21 = .ok (.if_icmp .eq 13, 3) := by decide +kernel
theorem dX8_begin_24 : decode cX8_begin 24 = .ok (.new 69, 3) := by decide +kernel
theorem dX8_begin_27 : decode cX8_begin 27 = .ok (.dup, 1) := by decide +kernel
theorem dX8_begin_28 : decode cX8_begin 28 = .ok (.ldc 121, 2) := by decide +kernel
theorem dX8_begin_30 : decode cX8_begin 30 = .ok (.invokespecial 73, 3) := by decide +kernel
theorem dX8_begin_33 : decode cX8_begin 33 = .ok (.athrow, 1) := by decide +kernel
theorem dX8_begin_34 : decode cX8_begin 34 = .ok (.iload_n 1, 1) := by decide +kernel
theorem dX8_begin_35 : decode cX8_begin 35 = .ok (.bipush 115, 2) := by decide +kernel
theorem dX8_begin_37 : decode cX8_begin 37 = .ok (.if_icmp .ne 23, 3) := by decide +kernel
theorem dX8_begin_40 : decode cX8_begin 40 = .ok (.aload_n 0, 1) := by decide +kernel
theorem dX8_begin_41 : decode cX8_begin 41 = .ok (.getfield 16, 3) := by decide +kernel
theorem dX8_begin_44 : decode cX8_begin 44 = .ok (.invokevirtual 123, 3) := by decide +kernel
theorem dX8_begin_47 : decode cX8_begin 47 = .ok (.ifCond .eq 13, 3) := by decide +kernel
theorem dX8_begin_50 : decode cX8_begin 50 = .ok (.new 127, 3) := by decide +kernel
theorem dX8_begin_53 : decode cX8_begin 53 = .ok (.dup, 1) := by decide +kernel
theorem dX8_begin_54 : decode cX8_begin 54 = .ok (.ldc 129, 2) := by decide +kernel
theorem dX8_begin_56 : decode cX8_begin 56 = .ok (.invokespecial 131, 3) := by decide +kernel
theorem dX8_begin_59 : decode cX8_begin 59 = .ok (.athrow, 1) := by decide +kernel
theorem dX8_begin_60 : decode cX8_begin 60 = .ok (.aload_n 0, 1) := by decide +kernel
theorem dX8_begin_61 : decode cX8_begin 61 = .ok (.getfield 27, 3) := by decide +kernel
theorem dX8_begin_64 : decode cX8_begin 64 = .ok (.iload_n 1, 1) := by decide +kernel
theorem dX8_begin_65 : decode cX8_begin 65 = .ok (.invokevirtual 132, 3) := by decide +kernel
theorem dX8_begin_68 : decode cX8_begin 68 = .ok (.aload_n 0, 1) := by decide +kernel
theorem dX8_begin_69 : decode cX8_begin 69 = .ok (.getfield 27, 3) := by decide +kernel
theorem dX8_begin_72 : decode cX8_begin 72 = .ok (.invokevirtual 136, 3) := by decide +kernel
theorem dX8_begin_75 : decode cX8_begin 75 = .ok (.ireturn, 1) := by decide +kernel
theorem dX8_search_0 : decode cX8_search 0 = .ok (.aload_n 0, 1) := by decide +kernel
theorem dX8_search_1 : decode cX8_search 1 = .ok (.invokevirtual 140, 3) := by decide +kernel
theorem dX8_search_4 : decode cX8_search 4 = .ok (.iload_n 1, 1) := by decide +kernel
theorem dX8_search_5 : decode cX8_search 5 = .ok (.iconst 1, 1) := by decide +kernel
theorem dX8_search_6 : decode cX8_search 6 = .ok (.if_icmp .lt 10, 3) := by decide +kernel
theorem dX8_search_9 : decode cX8_search 9 = .ok (.iload_n 1, 1) := by decide +kernel
theorem dX8_search_10 : decode cX8_search 10 = .ok (.sipush 500, 3) := by decide +kernel
theorem dX8_search_13 : decode cX8_search 13 = .ok (.if_icmp .le 13, 3) := by decide +kernel
theorem dX8_search_16 : decode cX8_search 16 = .ok (.new 69, 3) := by decide +kernel
theorem dX8_search_19 : decode cX8_search 19 = .ok (.dup, 1) := by decide +kernel
theorem dX8_search_20 : decode cX8_search 20 = .ok (.ldc 143, 2) := by decide +kernel
theorem dX8_search_22 : decode cX8_search 22 = .ok (.invokespecial 73, 3) := by decide +kernel
theorem dX8_search_25 : decode cX8_search 25 = .ok (.athrow, 1) := by decide +kernel
theorem dX8_search_26 : decode cX8_search 26 = .ok (.aload_n 0, 1) := by decide +kernel
theorem dX8_search_27 : decode cX8_search 27 = .ok (.getfield 27, 3) := by decide +kernel
theorem dX8_search_30 : decode cX8_search 30 = .ok (.iload_n 1, 1) := by decide +kernel
theorem dX8_search_31 : decode cX8_search 31 = .ok (.invokevirtual 145, 3) := by decide +kernel
theorem dX8_search_34 : decode cX8_search 34 = .ok (.ireturn, 1) := by decide +kernel
theorem dX8_verdict_0 : decode cX8_verdict 0 = .ok (.aload_n 0, 1) := by decide +kernel
theorem dX8_verdict_1 : decode cX8_verdict 1 = .ok (.invokevirtual 140, 3) := by decide +kernel
theorem dX8_verdict_4 : decode cX8_verdict 4 = .ok (.aload_n 0, 1) := by decide +kernel
theorem dX8_verdict_5 : decode cX8_verdict 5 = .ok (.getfield 27, 3) := by decide +kernel
theorem dX8_verdict_8 : decode cX8_verdict 8 = .ok (.invokevirtual 136, 3) := by decide +kernel
theorem dX8_verdict_11 : decode cX8_verdict 11 = .ok (.ireturn, 1) := by decide +kernel
theorem dX8_states_0 : decode cX8_states 0 = .ok (.aload_n 0, 1) := by decide +kernel
theorem dX8_states_1 : decode cX8_states 1 = .ok (.invokevirtual 140, 3) := by decide +kernel
theorem dX8_states_4 : decode cX8_states 4 = .ok (.aload_n 0, 1) := by decide +kernel
theorem dX8_states_5 : decode cX8_states 5 = .ok (.getfield 27, 3) := by decide +kernel
theorem dX8_states_8 : decode cX8_states 8 = .ok (.getfield 148, 3) := by decide +kernel
theorem dX8_states_11 : decode cX8_states 11 = .ok (.getfield 152, 3) := by decide +kernel
theorem dX8_states_14 : decode cX8_states 14 = .ok (.ireturn, 1) := by decide +kernel
theorem dX8_goneOn_0 : decode cX8_goneOn 0 = .ok (.aload_n 0, 1) := by decide +kernel
theorem dX8_goneOn_1 : decode cX8_goneOn 1 = .ok (.invokevirtual 140, 3) := by decide +kernel
theorem dX8_goneOn_4 : decode cX8_goneOn 4 = .ok (.aload_n 0, 1) := by decide +kernel
theorem dX8_goneOn_5 : decode cX8_goneOn 5 = .ok (.getfield 27, 3) := by decide +kernel
theorem dX8_goneOn_8 : decode cX8_goneOn 8 = .ok (.getfield 155, 3) := by decide +kernel
theorem dX8_goneOn_11 : decode cX8_goneOn 11 = .ok (.ireturn, 1) := by decide +kernel
theorem dX8_codeOf_0 : decode cX8_codeOf 0 = .ok (.aload_n 0, 1) := by decide +kernel
theorem dX8_codeOf_1 : decode cX8_codeOf 1 = .ok (.invokevirtual 140, 3) := by decide +kernel
theorem dX8_codeOf_4 : decode cX8_codeOf 4 = .ok (.aload_n 0, 1) := by decide +kernel
theorem dX8_codeOf_5 : decode cX8_codeOf 5 = .ok (.iload_n 1, 1) := by decide +kernel
theorem dX8_codeOf_6 : decode cX8_codeOf 6 = .ok (.invokevirtual 158, 3) := by decide +kernel
theorem dX8_codeOf_9 : decode cX8_codeOf 9 = .ok (.aload_n 0, 1) := by decide +kernel
theorem dX8_codeOf_10 : decode cX8_codeOf 10 = .ok (.getfield 27, 3) := by decide +kernel
theorem dX8_codeOf_13 : decode cX8_codeOf 13 = .ok (.getfield 148, 3) := by decide +kernel
theorem dX8_codeOf_16 : decode cX8_codeOf 16 = .ok (.getfield 161, 3) := by decide +kernel
theorem dX8_codeOf_19 : decode cX8_codeOf 19 = .ok (.iload_n 1, 1) := by decide +kernel
theorem dX8_codeOf_20 : decode cX8_codeOf 20 = .ok (.laload, 1) := by decide +kernel
theorem dX8_codeOf_21 : decode cX8_codeOf 21 = .ok (.lreturn, 1) := by decide +kernel
theorem dX8_moves_0 : decode cX8_moves 0 = .ok (.aload_n 0, 1) := by decide +kernel
theorem dX8_moves_1 : decode cX8_moves 1 = .ok (.invokevirtual 140, 3) := by decide +kernel
theorem dX8_moves_4 : decode cX8_moves 4 = .ok (.aload_n 0, 1) := by decide +kernel
theorem dX8_moves_5 : decode cX8_moves 5 = .ok (.iload_n 1, 1) := by decide +kernel
theorem dX8_moves_6 : decode cX8_moves 6 = .ok (.invokevirtual 158, 3) := by decide +kernel
theorem dX8_moves_9 : decode cX8_moves 9 = .ok (.aload_n 0, 1) := by decide +kernel
theorem dX8_moves_10 : decode cX8_moves 10 = .ok (.getfield 27, 3) := by decide +kernel
theorem dX8_moves_13 : decode cX8_moves 13 = .ok (.iload_n 1, 1) := by decide +kernel
theorem dX8_moves_14 : decode cX8_moves 14 = .ok (.invokevirtual 165, 3) := by decide +kernel
theorem dX8_moves_17 : decode cX8_moves 17 = .ok (.ireturn, 1) := by decide +kernel
theorem dX8_reached_0 : decode cX8_reached 0 = .ok (.aload_n 0, 1) := by decide +kernel
theorem dX8_reached_1 : decode cX8_reached 1 = .ok (.invokevirtual 140, 3) := by decide +kernel
theorem dX8_reached_4 : decode cX8_reached 4 = .ok (.aload_n 0, 1) := by decide +kernel
theorem dX8_reached_5 : decode cX8_reached 5 = .ok (.iload_n 1, 1) := by decide +kernel
theorem dX8_reached_6 : decode cX8_reached 6 = .ok (.invokevirtual 158, 3) := by decide +kernel
theorem dX8_reached_9 : decode cX8_reached 9 = .ok (.iload_n 2, 1) := by decide +kernel
theorem dX8_reached_10 : decode cX8_reached 10 = .ok (.ifCond .lt 15, 3) := by decide +kernel
theorem dX8_reached_13 : decode cX8_reached 13 = .ok (.iload_n 2, 1) := by decide +kernel
theorem dX8_reached_14 : decode cX8_reached 14 = .ok (.aload_n 0, 1) := by decide +kernel
theorem dX8_reached_15 : decode cX8_reached 15 = .ok (.getfield 27, 3) := by decide +kernel
theorem dX8_reached_18 : decode cX8_reached 18 = .ok (.iload_n 1, 1) := by decide +kernel
theorem dX8_reached_19 : decode cX8_reached 19 = .ok (.invokevirtual 165, 3) := by decide +kernel
theorem dX8_reached_22 : decode cX8_reached 22 = .ok (.if_icmp .lt 13, 3) := by decide +kernel
theorem dX8_reached_25 : decode cX8_reached 25 = .ok (.new 168, 3) := by decide +kernel
theorem dX8_reached_28 : decode cX8_reached 28 = .ok (.dup, 1) := by decide +kernel
theorem dX8_reached_29 : decode cX8_reached 29 = .ok (.ldc 170, 2) := by decide +kernel
theorem dX8_reached_31 : decode cX8_reached 31 = .ok (.invokespecial 172, 3) := by decide +kernel
theorem dX8_reached_34 : decode cX8_reached 34 = .ok (.athrow, 1) := by decide +kernel
theorem dX8_reached_35 : decode cX8_reached 35 = .ok (.aload_n 0, 1) := by decide +kernel
theorem dX8_reached_36 : decode cX8_reached 36 = .ok (.getfield 27, 3) := by decide +kernel
theorem dX8_reached_39 : decode cX8_reached 39 = .ok (.iload_n 1, 1) := by decide +kernel
theorem dX8_reached_40 : decode cX8_reached 40 = .ok (.iload_n 2, 1) := by decide +kernel
theorem dX8_reached_41 : decode cX8_reached 41 = .ok (.invokevirtual 173, 3) := by decide +kernel
theorem dX8_reached_44 : decode cX8_reached 44 = .ok (.lreturn, 1) := by decide +kernel
theorem dX8_variableIn_0 : decode cX8_variableIn 0 = .ok (.aload_n 0, 1) := by decide +kernel
theorem dX8_variableIn_1 : decode cX8_variableIn 1 = .ok (.invokevirtual 140, 3) := by decide +kernel
theorem dX8_variableIn_4 : decode cX8_variableIn 4 = .ok (.aload_n 0, 1) := by decide +kernel
theorem dX8_variableIn_5 : decode cX8_variableIn 5 = .ok (.iload_n 1, 1) := by decide +kernel
theorem dX8_variableIn_6 : decode cX8_variableIn 6 = .ok (.invokevirtual 158, 3) := by decide +kernel
theorem dX8_variableIn_9 : decode cX8_variableIn 9 = .ok (.iload_n 2, 1) := by decide +kernel
theorem dX8_variableIn_10 : decode cX8_variableIn 10 = .ok (.invokestatic 95, 3) := by decide +kernel
theorem dX8_variableIn_13 : decode cX8_variableIn 13 = .ok (.aload_n 0, 1) := by decide +kernel
theorem dX8_variableIn_14 : decode cX8_variableIn 14 = .ok (.getfield 27, 3) := by decide +kernel
theorem dX8_variableIn_17 : decode cX8_variableIn 17 = .ok (.getfield 148, 3) := by decide +kernel
theorem dX8_variableIn_20 : decode cX8_variableIn 20 = .ok (.iload_n 1, 1) := by decide +kernel
theorem dX8_variableIn_21 : decode cX8_variableIn 21 = .ok (.iload_n 2, 1) := by decide +kernel
theorem dX8_variableIn_22 : decode cX8_variableIn 22 = .ok (.invokevirtual 177, 3) := by decide +kernel
theorem dX8_variableIn_25 : decode cX8_variableIn 25 = .ok (.ireturn, 1) := by decide +kernel
theorem dX8_made_0 : decode cX8_made 0 = .ok (.aload_n 0, 1) := by decide +kernel
theorem dX8_made_1 : decode cX8_made 1 = .ok (.invokevirtual 140, 3) := by decide +kernel
theorem dX8_made_4 : decode cX8_made 4 = .ok (.aload_n 0, 1) := by decide +kernel
theorem dX8_made_5 : decode cX8_made 5 = .ok (.getfield 27, 3) := by decide +kernel
theorem dX8_made_8 : decode cX8_made 8 = .ok (.getfield 180, 3) := by decide +kernel
theorem dX8_made_11 : decode cX8_made 11 = .ok (.lreturn, 1) := by decide +kernel
theorem dX8_fault_0 : decode cX8_fault 0 = .ok (.aload_n 0, 1) := by decide +kernel
theorem dX8_fault_1 : decode cX8_fault 1 = .ok (.invokevirtual 184, 3) := by decide +kernel
theorem dX8_fault_4 : decode cX8_fault 4 = .ok (.aload_n 0, 1) := by decide +kernel
theorem dX8_fault_5 : decode cX8_fault 5 = .ok (.getfield 27, 3) := by decide +kernel
theorem dX8_fault_8 : decode cX8_fault 8 = .ok (.getfield 187, 3) := by decide +kernel
theorem dX8_fault_11 : decode cX8_fault 11 = .ok (.ireturn, 1) := by decide +kernel
theorem dX8_traceLength_0 : decode cX8_traceLength 0 = .ok (.aload_n 0, 1) := by decide +kernel
theorem dX8_traceLength_1 : decode cX8_traceLength 1 = .ok (.invokevirtual 184, 3) := by decide +kernel
theorem dX8_traceLength_4 : decode cX8_traceLength 4 = .ok (.aload_n 0, 1) := by decide +kernel
theorem dX8_traceLength_5 : decode cX8_traceLength 5 = .ok (.getfield 27, 3) := by decide +kernel
theorem dX8_traceLength_8 : decode cX8_traceLength 8 = .ok (.getfield 191, 3) := by decide +kernel
theorem dX8_traceLength_11 : decode cX8_traceLength 11 = .ok (.ireturn, 1) := by decide +kernel
theorem dX8_traceProcess_0 : decode cX8_traceProcess 0 = .ok (.aload_n 0, 1) := by decide +kernel
theorem dX8_traceProcess_1 : decode cX8_traceProcess 1 = .ok (.invokevirtual 184, 3) := by decide +kernel
theorem dX8_traceProcess_4 : decode cX8_traceProcess 4 = .ok (.aload_n 0, 1) := by decide +kernel
theorem dX8_traceProcess_5 : decode cX8_traceProcess 5 = .ok (.iload_n 1, 1) := by decide +kernel
theorem dX8_traceProcess_6 : decode cX8_traceProcess 6 = .ok (.invokevirtual 194, 3) := by decide +kernel
theorem dX8_traceProcess_9 : decode cX8_traceProcess 9 = .ok (.aload_n 0, 1) := by decide +kernel
theorem dX8_traceProcess_10 : decode cX8_traceProcess 10 = .ok (.getfield 27, 3) := by decide +kernel
theorem dX8_traceProcess_13 : decode cX8_traceProcess 13 = .ok (.getfield 197, 3) := by decide +kernel
theorem dX8_traceProcess_16 : decode cX8_traceProcess 16 = .ok (.iload_n 1, 1) := by decide +kernel
theorem dX8_traceProcess_17 : decode cX8_traceProcess 17 = .ok (.iaload, 1) := by decide +kernel
theorem dX8_traceProcess_18 : decode cX8_traceProcess 18 = .ok (.invokestatic 200, 3) := by decide +kernel
theorem dX8_traceProcess_21 : decode cX8_traceProcess 21 = .ok (.invokestatic 205, 3) := by decide +kernel
theorem dX8_traceProcess_24 : decode cX8_traceProcess 24 = .ok (.ireturn, 1) := by decide +kernel
theorem dX8_traceStep_0 : decode cX8_traceStep 0 = .ok (.aload_n 0, 1) := by decide +kernel
theorem dX8_traceStep_1 : decode cX8_traceStep 1 = .ok (.invokevirtual 184, 3) := by decide +kernel
theorem dX8_traceStep_4 : decode cX8_traceStep 4 = .ok (.aload_n 0, 1) := by decide +kernel
theorem dX8_traceStep_5 : decode cX8_traceStep 5 = .ok (.iload_n 1, 1) := by decide +kernel
theorem dX8_traceStep_6 : decode cX8_traceStep 6 = .ok (.invokevirtual 194, 3) := by decide +kernel
theorem dX8_traceStep_9 : decode cX8_traceStep 9 = .ok (.aload_n 0, 1) := by decide +kernel
theorem dX8_traceStep_10 : decode cX8_traceStep 10 = .ok (.getfield 27, 3) := by decide +kernel
theorem dX8_traceStep_13 : decode cX8_traceStep 13 = .ok (.getfield 197, 3) := by decide +kernel
theorem dX8_traceStep_16 : decode cX8_traceStep 16 = .ok (.iload_n 1, 1) := by decide +kernel
theorem dX8_traceStep_17 : decode cX8_traceStep 17 = .ok (.iaload, 1) := by decide +kernel
theorem dX8_traceStep_18 : decode cX8_traceStep 18 = .ok (.invokestatic 200, 3) := by decide +kernel
theorem dX8_traceStep_21 : decode cX8_traceStep 21 = .ok (.invokestatic 208, 3) := by decide +kernel
theorem dX8_traceStep_24 : decode cX8_traceStep 24 = .ok (.ireturn, 1) := by decide +kernel
theorem dX8_replays_0 : decode cX8_replays 0 = .ok (.aload_n 0, 1) := by decide +kernel
theorem dX8_replays_1 : decode cX8_replays 1 = .ok (.invokevirtual 184, 3) := by decide +kernel
theorem dX8_replays_4 : decode cX8_replays 4 = .ok (.aload_n 0, 1) := by decide +kernel
theorem dX8_replays_5 : decode cX8_replays 5 = .ok (.getfield 27, 3) := by decide +kernel
theorem dX8_replays_8 : decode cX8_replays 8 = .ok (.invokevirtual 211, 3) := by decide +kernel
theorem dX8_replays_11 : decode cX8_replays 11 = .ok (.ireturn, 1) := by decide +kernel
theorem dX8_recurs_0 : decode cX8_recurs 0 = .ok (.iload_n 1, 1) := by decide +kernel
theorem dX8_recurs_1 : decode cX8_recurs 1 = .ok (.invokestatic 95, 3) := by decide +kernel
theorem dX8_recurs_4 : decode cX8_recurs 4 = .ok (.iload_n 2, 1) := by decide +kernel
theorem dX8_recurs_5 : decode cX8_recurs 5 = .ok (.invokestatic 98, 3) := by decide +kernel
theorem dX8_recurs_8 : decode cX8_recurs 8 = .ok (.aload_n 0, 1) := by decide +kernel
theorem dX8_recurs_9 : decode cX8_recurs 9 = .ok (.invokevirtual 214, 3) := by decide +kernel
theorem dX8_recurs_12 : decode cX8_recurs 12 = .ok (.aload_n 0, 1) := by decide +kernel
theorem dX8_recurs_13 : decode cX8_recurs 13 = .ok (.getfield 36, 3) := by decide +kernel
theorem dX8_recurs_16 : decode cX8_recurs 16 = .ok (.iload_n 1, 1) := by decide +kernel
theorem dX8_recurs_17 : decode cX8_recurs 17 = .ok (.iload_n 2, 1) := by decide +kernel
theorem dX8_recurs_18 : decode cX8_recurs 18 = .ok (.iload_n 3, 1) := by decide +kernel
theorem dX8_recurs_19 : decode cX8_recurs 19 = .ok (.invokevirtual 217, 3) := by decide +kernel
theorem dX8_recurs_22 : decode cX8_recurs 22 = .ok (.ifCond .ne 7, 3) := by decide +kernel
theorem dX8_recurs_25 : decode cX8_recurs 25 = .ok (.iconst 1, 1) := by decide +kernel
theorem dX8_recurs_26 : decode cX8_recurs 26 = .ok (.goto 4, 3) := by decide +kernel
theorem dX8_recurs_29 : decode cX8_recurs 29 = .ok (.iconst 0, 1) := by decide +kernel
theorem dX8_recurs_30 : decode cX8_recurs 30 = .ok (.ireturn, 1) := by decide +kernel
theorem dX8_recursByTaking_0 : decode cX8_recursByTaking 0 = .ok (.iload_n 1, 1) := by decide +kernel
theorem dX8_recursByTaking_1 : decode cX8_recursByTaking 1 = .ok (.invokestatic 95, 3) := by decide +kernel
theorem dX8_recursByTaking_4 : decode cX8_recursByTaking 4 = .ok (.iload_n 2, 1) := by decide +kernel
theorem dX8_recursByTaking_5 : decode cX8_recursByTaking 5 = .ok (.invokestatic 98, 3) := by decide +kernel
theorem dX8_recursByTaking_8 : decode cX8_recursByTaking 8 = .ok (.aload_n 0, 1) := by decide +kernel
theorem dX8_recursByTaking_9 : decode cX8_recursByTaking 9 = .ok (.invokevirtual 214, 3) := by decide +kernel
theorem dX8_recursByTaking_12 : decode cX8_recursByTaking 12 = .ok (.aload_n 0, 1) := by decide +kernel
theorem dX8_recursByTaking_13 : decode cX8_recursByTaking 13 = .ok (.getfield 36, 3) := by decide +kernel
theorem dX8_recursByTaking_16 : decode cX8_recursByTaking 16 = .ok (.iload_n 1, 1) := by decide +kernel
theorem dX8_recursByTaking_17 : decode cX8_recursByTaking 17 = .ok (.iload_n 2, 1) := by decide +kernel
theorem dX8_recursByTaking_18 : decode cX8_recursByTaking 18 = .ok (.invokevirtual 221, 3) := by decide +kernel
theorem dX8_recursByTaking_21 : decode cX8_recursByTaking 21 = .ok (.ireturn, 1) := by decide +kernel
theorem dX8_comes_0 : decode cX8_comes 0 = .ok (.iload_n 1, 1) := by decide +kernel
theorem dX8_comes_1 : decode cX8_comes 1 = .ok (.invokestatic 95, 3) := by decide +kernel
theorem dX8_comes_4 : decode cX8_comes 4 = .ok (.iload_n 2, 1) := by decide +kernel
theorem dX8_comes_5 : decode cX8_comes 5 = .ok (.invokestatic 98, 3) := by decide +kernel
theorem dX8_comes_8 : decode cX8_comes 8 = .ok (.aload_n 0, 1) := by decide +kernel
theorem dX8_comes_9 : decode cX8_comes 9 = .ok (.invokevirtual 214, 3) := by decide +kernel
theorem dX8_comes_12 : decode cX8_comes 12 = .ok (.aload_n 0, 1) := by decide +kernel
theorem dX8_comes_13 : decode cX8_comes 13 = .ok (.getfield 36, 3) := by decide +kernel
theorem dX8_comes_16 : decode cX8_comes 16 = .ok (.iload_n 1, 1) := by decide +kernel
theorem dX8_comes_17 : decode cX8_comes 17 = .ok (.iload_n 2, 1) := by decide +kernel
theorem dX8_comes_18 : decode cX8_comes 18 = .ok (.iload_n 3, 1) := by decide +kernel
theorem dX8_comes_19 : decode cX8_comes 19 = .ok (.invokevirtual 224, 3) := by decide +kernel
theorem dX8_comes_22 : decode cX8_comes 22 = .ok (.ifCond .ne 7, 3) := by decide +kernel
theorem dX8_comes_25 : decode cX8_comes 25 = .ok (.iconst 1, 1) := by decide +kernel
theorem dX8_comes_26 : decode cX8_comes 26 = .ok (.goto 4, 3) := by decide +kernel
theorem dX8_comes_29 : decode cX8_comes 29 = .ok (.iconst 0, 1) := by decide +kernel
theorem dX8_comes_30 : decode cX8_comes 30 = .ok (.ireturn, 1) := by decide +kernel
theorem dX8_follows_0 : decode cX8_follows 0 = .ok (.iload_n 1, 1) := by decide +kernel
theorem dX8_follows_1 : decode cX8_follows 1 = .ok (.invokestatic 95, 3) := by decide +kernel
theorem dX8_follows_4 : decode cX8_follows 4 = .ok (.iload_n 2, 1) := by decide +kernel
theorem dX8_follows_5 : decode cX8_follows 5 = .ok (.invokestatic 98, 3) := by decide +kernel
theorem dX8_follows_8 : decode cX8_follows 8 = .ok (.iload_n 3, 1) := by decide +kernel
theorem dX8_follows_9 : decode cX8_follows 9 = .ok (.invokestatic 95, 3) := by decide +kernel
theorem dX8_follows_12 : decode cX8_follows 12 = .ok (.iload 4, 2) := by decide +kernel
theorem dX8_follows_14 : decode cX8_follows 14 = .ok (.invokestatic 98, 3) := by decide +kernel
theorem dX8_follows_17 : decode cX8_follows 17 = .ok (.aload_n 0, 1) := by decide +kernel
theorem dX8_follows_18 : decode cX8_follows 18 = .ok (.invokevirtual 214, 3) := by decide +kernel
theorem dX8_follows_21 : decode cX8_follows 21 = .ok (.aload_n 0, 1) := by decide +kernel
theorem dX8_follows_22 : decode cX8_follows 22 = .ok (.getfield 36, 3) := by decide +kernel
theorem dX8_follows_25 : decode cX8_follows 25 = .ok (.iload_n 1, 1) := by decide +kernel
theorem dX8_follows_26 : decode cX8_follows 26 = .ok (.iload_n 2, 1) := by decide +kernel
theorem dX8_follows_27 : decode cX8_follows 27 = .ok (.iload_n 3, 1) := by decide +kernel
theorem dX8_follows_28 : decode cX8_follows 28 = .ok (.iload 4, 2) := by decide +kernel
theorem dX8_follows_30 : decode cX8_follows 30 = .ok (.iload 5, 2) := by decide +kernel
theorem dX8_follows_32 : decode cX8_follows 32 = .ok (.invokevirtual 227, 3) := by decide +kernel
theorem dX8_follows_35 : decode cX8_follows 35 = .ok (.ifCond .ne 7, 3) := by decide +kernel
theorem dX8_follows_38 : decode cX8_follows 38 = .ok (.iconst 1, 1) := by decide +kernel
theorem dX8_follows_39 : decode cX8_follows 39 = .ok (.goto 4, 3) := by decide +kernel
theorem dX8_follows_42 : decode cX8_follows 42 = .ok (.iconst 0, 1) := by decide +kernel
theorem dX8_follows_43 : decode cX8_follows 43 = .ok (.ireturn, 1) := by decide +kernel
theorem dX8_distance_0 : decode cX8_distance 0 = .ok (.iload_n 1, 1) := by decide +kernel
theorem dX8_distance_1 : decode cX8_distance 1 = .ok (.invokestatic 95, 3) := by decide +kernel
theorem dX8_distance_4 : decode cX8_distance 4 = .ok (.iload_n 2, 1) := by decide +kernel
theorem dX8_distance_5 : decode cX8_distance 5 = .ok (.invokestatic 98, 3) := by decide +kernel
theorem dX8_distance_8 : decode cX8_distance 8 = .ok (.aload_n 0, 1) := by decide +kernel
theorem dX8_distance_9 : decode cX8_distance 9 = .ok (.invokevirtual 214, 3) := by decide +kernel
theorem dX8_distance_12 : decode cX8_distance 12 = .ok (.aload_n 0, 1) := by decide +kernel
theorem dX8_distance_13 : decode cX8_distance 13 = .ok (.getfield 27, 3) := by decide +kernel
theorem dX8_distance_16 : decode cX8_distance 16 = .ok (.getfield 148, 3) := by decide +kernel
theorem dX8_distance_19 : decode cX8_distance 19 = .ok (.iload_n 1, 1) := by decide +kernel
theorem dX8_distance_20 : decode cX8_distance 20 = .ok (.iload_n 2, 1) := by decide +kernel
theorem dX8_distance_21 : decode cX8_distance 21 = .ok (.invokevirtual 231, 3) := by decide +kernel
theorem dX8_distance_24 : decode cX8_distance 24 = .ok (.istore_n 3, 1) := by decide +kernel
theorem dX8_distance_25 : decode cX8_distance 25 = .ok (.iload_n 3, 1) := by decide +kernel
theorem dX8_distance_26 : decode cX8_distance 26 = .ok (.iconst (-1), 1) := by decide +kernel
theorem dX8_distance_27 : decode cX8_distance 27 = .ok (.if_icmp .ne 13, 3) := by decide +kernel
theorem dX8_distance_30 : decode cX8_distance 30 = .ok (.new 168, 3) := by decide +kernel
theorem dX8_distance_33 : decode cX8_distance 33 = .ok (.dup, 1) := by decide +kernel
theorem dX8_distance_34 : decode cX8_distance 34 = .ok (.ldc 234, 2) := by decide +kernel
theorem dX8_distance_36 : decode cX8_distance 36 = .ok (.invokespecial 172, 3) := by decide +kernel
theorem dX8_distance_39 : decode cX8_distance 39 = .ok (.athrow, 1) := by decide +kernel
theorem dX8_distance_40 : decode cX8_distance 40 = .ok (.aload_n 0, 1) := by decide +kernel
theorem dX8_distance_41 : decode cX8_distance 41 = .ok (.getfield 27, 3) := by decide +kernel
theorem dX8_distance_44 : decode cX8_distance 44 = .ok (.getfield 148, 3) := by decide +kernel
theorem dX8_distance_47 : decode cX8_distance 47 = .ok (.getfield 236, 3) := by decide +kernel
theorem dX8_distance_50 : decode cX8_distance 50 = .ok (.iload_n 3, 1) := by decide +kernel
theorem dX8_distance_51 : decode cX8_distance 51 = .ok (.iaload, 1) := by decide +kernel
theorem dX8_distance_52 : decode cX8_distance 52 = .ok (.ireturn, 1) := by decide +kernel
theorem dX8_components_0 : decode cX8_components 0 = .ok (.aload_n 0, 1) := by decide +kernel
theorem dX8_components_1 : decode cX8_components 1 = .ok (.invokevirtual 214, 3) := by decide +kernel
theorem dX8_components_4 : decode cX8_components 4 = .ok (.aload_n 0, 1) := by decide +kernel
theorem dX8_components_5 : decode cX8_components 5 = .ok (.getfield 36, 3) := by decide +kernel
theorem dX8_components_8 : decode cX8_components 8 = .ok (.invokevirtual 239, 3) := by decide +kernel
theorem dX8_components_11 : decode cX8_components 11 = .ok (.ireturn, 1) := by decide +kernel
theorem dX8_meanMoves_0 : decode cX8_meanMoves 0 = .ok (.aload_n 0, 1) := by decide +kernel
theorem dX8_meanMoves_1 : decode cX8_meanMoves 1 = .ok (.invokevirtual 140, 3) := by decide +kernel
theorem dX8_meanMoves_4 : decode cX8_meanMoves 4 = .ok (.aload_n 0, 1) := by decide +kernel
theorem dX8_meanMoves_5 : decode cX8_meanMoves 5 = .ok (.getfield 27, 3) := by decide +kernel
theorem dX8_meanMoves_8 : decode cX8_meanMoves 8 = .ok (.invokevirtual 242, 3) := by decide +kernel
theorem dX8_meanMoves_11 : decode cX8_meanMoves 11 = .ok (.l2d, 1) := by decide +kernel
theorem dX8_meanMoves_12 : decode cX8_meanMoves 12 = .ok (.aload_n 0, 1) := by decide +kernel
theorem dX8_meanMoves_13 : decode cX8_meanMoves 13 = .ok (.getfield 27, 3) := by decide +kernel
theorem dX8_meanMoves_16 : decode cX8_meanMoves 16 = .ok (.getfield 148, 3) := by decide +kernel
theorem dX8_meanMoves_19 : decode cX8_meanMoves 19 = .ok (.getfield 152, 3) := by decide +kernel
theorem dX8_meanMoves_22 : decode cX8_meanMoves 22 = .ok (.i2d, 1) := by decide +kernel
theorem dX8_meanMoves_23 : decode cX8_meanMoves 23 = .ok (.ddiv, 1) := by decide +kernel
theorem dX8_meanMoves_24 : decode cX8_meanMoves 24 = .ok (.dreturn, 1) := by decide +kernel
theorem dX8_newShare_0 : decode cX8_newShare 0 = .ok (.aload_n 0, 1) := by decide +kernel
theorem dX8_newShare_1 : decode cX8_newShare 1 = .ok (.invokevirtual 140, 3) := by decide +kernel
theorem dX8_newShare_4 : decode cX8_newShare 4 = .ok (.aload_n 0, 1) := by decide +kernel
theorem dX8_newShare_5 : decode cX8_newShare 5 = .ok (.getfield 27, 3) := by decide +kernel
theorem dX8_newShare_8 : decode cX8_newShare 8 = .ok (.getfield 180, 3) := by decide +kernel
theorem dX8_newShare_11 : decode cX8_newShare 11 = .ok (.lconst 0, 1) := by decide +kernel
theorem dX8_newShare_12 : decode cX8_newShare 12 = .ok (.lcmp, 1) := by decide +kernel
theorem dX8_newShare_13 : decode cX8_newShare 13 = .ok (.ifCond .ne 13, 3) := by decide +kernel
theorem dX8_newShare_16 : decode cX8_newShare 16 = .ok (.new 246, 3) := by decide +kernel
theorem dX8_newShare_19 : decode cX8_newShare 19 = .ok (.dup, 1) := by decide +kernel
theorem dX8_newShare_20 : decode cX8_newShare 20 = .ok (.ldc 248, 2) := by decide +kernel
theorem dX8_newShare_22 : decode cX8_newShare 22 = .ok (.invokespecial 250, 3) := by decide +kernel
theorem dX8_newShare_25 : decode cX8_newShare 25 = .ok (.athrow, 1) := by decide +kernel
theorem dX8_newShare_26 : decode cX8_newShare 26 = .ok (.aload_n 0, 1) := by decide +kernel
theorem dX8_newShare_27 : decode cX8_newShare 27 = .ok (.getfield 27, 3) := by decide +kernel
theorem dX8_newShare_30 : decode cX8_newShare 30 = .ok (.getfield 148, 3) := by decide +kernel
theorem dX8_newShare_33 : decode cX8_newShare 33 = .ok (.getfield 152, 3) := by decide +kernel
theorem dX8_newShare_36 : decode cX8_newShare 36 = .ok (.iconst 1, 1) := by decide +kernel
theorem dX8_newShare_37 : decode cX8_newShare 37 = .ok (.isub, 1) := by decide +kernel
theorem dX8_newShare_38 : decode cX8_newShare 38 = .ok (.i2f, 1) := by decide +kernel
theorem dX8_newShare_39 : decode cX8_newShare 39 = .ok (.aload_n 0, 1) := by decide +kernel
theorem dX8_newShare_40 : decode cX8_newShare 40 = .ok (.getfield 27, 3) := by decide +kernel
theorem dX8_newShare_43 : decode cX8_newShare 43 = .ok (.getfield 180, 3) := by decide +kernel
theorem dX8_newShare_46 : decode cX8_newShare 46 = .ok (.l2f, 1) := by decide +kernel
theorem dX8_newShare_47 : decode cX8_newShare 47 = .ok (.fdiv, 1) := by decide +kernel
theorem dX8_newShare_48 : decode cX8_newShare 48 = .ok (.freturn, 1) := by decide +kernel
theorem dX8_isSound_0 : decode cX8_isSound 0 = .ok (.aload_n 0, 1) := by decide +kernel
theorem dX8_isSound_1 : decode cX8_isSound 1 = .ok (.getfield 27, 3) := by decide +kernel
theorem dX8_isSound_4 : decode cX8_isSound 4 = .ok (.getfield 251, 3) := by decide +kernel
theorem dX8_isSound_7 : decode cX8_isSound 7 = .ok (.ifCond .eq 13, 3) := by decide +kernel
theorem dX8_isSound_10 : decode cX8_isSound 10 = .ok (.aload_n 0, 1) := by decide +kernel
theorem dX8_isSound_11 : decode cX8_isSound 11 = .ok (.getfield 27, 3) := by decide +kernel
theorem dX8_isSound_14 : decode cX8_isSound 14 = .ok (.invokevirtual 255, 3) := by decide +kernel
theorem dX8_isSound_17 : decode cX8_isSound 17 = .ok (.ifCond .eq 7, 3) := by decide +kernel
theorem dX8_isSound_20 : decode cX8_isSound 20 = .ok (.iconst 1, 1) := by decide +kernel
theorem dX8_isSound_21 : decode cX8_isSound 21 = .ok (.goto 4, 3) := by decide +kernel
theorem dX8_isSound_24 : decode cX8_isSound 24 = .ok (.iconst 0, 1) := by decide +kernel
theorem dX8_isSound_25 : decode cX8_isSound 25 = .ok (.ireturn, 1) := by decide +kernel
theorem dX8_needProcess_0 : decode cX8_needProcess 0 = .ok (.iload_n 1, 1) := by decide +kernel
theorem dX8_needProcess_1 : decode cX8_needProcess 1 = .ok (.ifCond .lt 14, 3) := by decide +kernel
theorem dX8_needProcess_4 : decode cX8_needProcess 4 = .ok (.iload_n 1, 1) := by decide +kernel
theorem dX8_needProcess_5 : decode cX8_needProcess 5 = .ok (.aload_n 0, 1) := by decide +kernel
theorem dX8_needProcess_6 : decode cX8_needProcess 6 = .ok (.getfield 16, 3) := by decide +kernel
theorem dX8_needProcess_9 : decode cX8_needProcess 9 = .ok (.getfield 40, 3) := by decide +kernel
theorem dX8_needProcess_12 : decode cX8_needProcess 12 = .ok (.if_icmp .lt 14, 3) := by decide +kernel
theorem dX8_needProcess_15 : decode cX8_needProcess 15 = .ok (.new 258, 3) := by decide +kernel
theorem dX8_needProcess_18 : decode cX8_needProcess 18 = .ok (.dup, 1) := by decide +kernel
theorem dX8_needProcess_19 : decode cX8_needProcess 19 = .ok (.ldc_w 260, 3) := by decide +kernel
theorem dX8_needProcess_22 : decode cX8_needProcess 22 = .ok (.invokespecial 262, 3) := by decide +kernel
theorem dX8_needProcess_25 : decode cX8_needProcess 25 = .ok (.athrow, 1) := by decide +kernel
theorem dX8_needProcess_26 : decode cX8_needProcess 26 = .ok (.return_, 1) := by decide +kernel
theorem dX8_needLocation_0 : decode cX8_needLocation 0 = .ok (.iload_n 0, 1) := by decide +kernel
theorem dX8_needLocation_1 : decode cX8_needLocation 1 = .ok (.ifCond .lt 9, 3) := by decide +kernel
theorem dX8_needLocation_4 : decode cX8_needLocation 4 = .ok (.iload_n 0, 1) := by decide +kernel
theorem dX8_needLocation_5 : decode cX8_needLocation 5 = .ok (.bipush 12, 2) := by decide +kernel
theorem dX8_needLocation_7 : decode cX8_needLocation 7 = .ok (.if_icmp .lt 14, 3) := by decide +kernel
theorem dX8_needLocation_10 : decode cX8_needLocation 10 = .ok (.new 69, 3) := by decide +kernel
theorem dX8_needLocation_13 : decode cX8_needLocation 13 = .ok (.dup, 1) := by decide +kernel
theorem dX8_needLocation_14 : decode cX8_needLocation 14 = .ok (.ldc_w 263, 3) := by decide +kernel
theorem dX8_needLocation_17 : decode cX8_needLocation 17 = .ok (.invokespecial 73, 3) := by decide +kernel
theorem dX8_needLocation_20 : decode cX8_needLocation 20 = .ok (.athrow, 1) := by decide +kernel
theorem dX8_needLocation_21 : decode cX8_needLocation 21 = .ok (.return_, 1) := by decide +kernel
theorem dX8_needVariable_0 : decode cX8_needVariable 0 = .ok (.iload_n 0, 1) := by decide +kernel
theorem dX8_needVariable_1 : decode cX8_needVariable 1 = .ok (.ifCond .lt 9, 3) := by decide +kernel
theorem dX8_needVariable_4 : decode cX8_needVariable 4 = .ok (.iload_n 0, 1) := by decide +kernel
theorem dX8_needVariable_5 : decode cX8_needVariable 5 = .ok (.bipush 9, 2) := by decide +kernel
theorem dX8_needVariable_7 : decode cX8_needVariable 7 = .ok (.if_icmp .lt 14, 3) := by decide +kernel
theorem dX8_needVariable_10 : decode cX8_needVariable 10 = .ok (.new 69, 3) := by decide +kernel
theorem dX8_needVariable_13 : decode cX8_needVariable 13 = .ok (.dup, 1) := by decide +kernel
theorem dX8_needVariable_14 : decode cX8_needVariable 14 = .ok (.ldc_w 265, 3) := by decide +kernel
theorem dX8_needVariable_17 : decode cX8_needVariable 17 = .ok (.invokespecial 73, 3) := by decide +kernel
theorem dX8_needVariable_20 : decode cX8_needVariable 20 = .ok (.athrow, 1) := by decide +kernel
theorem dX8_needVariable_21 : decode cX8_needVariable 21 = .ok (.return_, 1) := by decide +kernel
theorem dX8_needNumber_0 : decode cX8_needNumber 0 = .ok (.iload_n 0, 1) := by decide +kernel
theorem dX8_needNumber_1 : decode cX8_needNumber 1 = .ok (.invokestatic 267, 3) := by decide +kernel
theorem dX8_needNumber_4 : decode cX8_needNumber 4 = .ok (.ifCond .ne 14, 3) := by decide +kernel
theorem dX8_needNumber_7 : decode cX8_needNumber 7 = .ok (.new 69, 3) := by decide +kernel
theorem dX8_needNumber_10 : decode cX8_needNumber 10 = .ok (.dup, 1) := by decide +kernel
theorem dX8_needNumber_11 : decode cX8_needNumber 11 = .ok (.ldc_w 271, 3) := by decide +kernel
theorem dX8_needNumber_14 : decode cX8_needNumber 14 = .ok (.invokespecial 73, 3) := by decide +kernel
theorem dX8_needNumber_17 : decode cX8_needNumber 17 = .ok (.athrow, 1) := by decide +kernel
theorem dX8_needNumber_18 : decode cX8_needNumber 18 = .ok (.return_, 1) := by decide +kernel
theorem dX8_needSearch_0 : decode cX8_needSearch 0 = .ok (.aload_n 0, 1) := by decide +kernel
theorem dX8_needSearch_1 : decode cX8_needSearch 1 = .ok (.getfield 27, 3) := by decide +kernel
theorem dX8_needSearch_4 : decode cX8_needSearch 4 = .ok (.getfield 251, 3) := by decide +kernel
theorem dX8_needSearch_7 : decode cX8_needSearch 7 = .ok (.ifCond .ne 14, 3) := by decide +kernel
theorem dX8_needSearch_10 : decode cX8_needSearch 10 = .ok (.new 44, 3) := by decide +kernel
theorem dX8_needSearch_13 : decode cX8_needSearch 13 = .ok (.dup, 1) := by decide +kernel
theorem dX8_needSearch_14 : decode cX8_needSearch 14 = .ok (.ldc_w 273, 3) := by decide +kernel
theorem dX8_needSearch_17 : decode cX8_needSearch 17 = .ok (.invokespecial 48, 3) := by decide +kernel
theorem dX8_needSearch_20 : decode cX8_needSearch 20 = .ok (.athrow, 1) := by decide +kernel
theorem dX8_needSearch_21 : decode cX8_needSearch 21 = .ok (.return_, 1) := by decide +kernel
theorem dX8_needState_0 : decode cX8_needState 0 = .ok (.iload_n 1, 1) := by decide +kernel
theorem dX8_needState_1 : decode cX8_needState 1 = .ok (.ifCond .lt 17, 3) := by decide +kernel
theorem dX8_needState_4 : decode cX8_needState 4 = .ok (.iload_n 1, 1) := by decide +kernel
theorem dX8_needState_5 : decode cX8_needState 5 = .ok (.aload_n 0, 1) := by decide +kernel
theorem dX8_needState_6 : decode cX8_needState 6 = .ok (.getfield 27, 3) := by decide +kernel
theorem dX8_needState_9 : decode cX8_needState 9 = .ok (.getfield 148, 3) := by decide +kernel
theorem dX8_needState_12 : decode cX8_needState 12 = .ok (.getfield 152, 3) := by decide +kernel
theorem dX8_needState_15 : decode cX8_needState 15 = .ok (.if_icmp .lt 13, 3) := by decide +kernel
theorem dX8_needState_18 : decode cX8_needState 18 = .ok (.new 258, 3) := by decide +kernel
theorem dX8_needState_21 : decode cX8_needState 21 = .ok (.dup, 1) := by decide +kernel
theorem dX8_needState_22 : decode cX8_needState 22 = .ok (.ldc 234, 2) := by decide +kernel
theorem dX8_needState_24 : decode cX8_needState 24 = .ok (.invokespecial 262, 3) := by decide +kernel
theorem dX8_needState_27 : decode cX8_needState 27 = .ok (.athrow, 1) := by decide +kernel
theorem dX8_needState_28 : decode cX8_needState 28 = .ok (.return_, 1) := by decide +kernel
theorem dX8_needFault_0 : decode cX8_needFault 0 = .ok (.aload_n 0, 1) := by decide +kernel
theorem dX8_needFault_1 : decode cX8_needFault 1 = .ok (.invokevirtual 140, 3) := by decide +kernel
theorem dX8_needFault_4 : decode cX8_needFault 4 = .ok (.aload_n 0, 1) := by decide +kernel
theorem dX8_needFault_5 : decode cX8_needFault 5 = .ok (.getfield 27, 3) := by decide +kernel
theorem dX8_needFault_8 : decode cX8_needFault 8 = .ok (.getfield 187, 3) := by decide +kernel
theorem dX8_needFault_11 : decode cX8_needFault 11 = .ok (.bipush 45, 2) := by decide +kernel
theorem dX8_needFault_13 : decode cX8_needFault 13 = .ok (.if_icmp .ne 14, 3) := by decide +kernel
theorem dX8_needFault_16 : decode cX8_needFault 16 = .ok (.new 168, 3) := by decide +kernel
theorem dX8_needFault_19 : decode cX8_needFault 19 = .ok (.dup, 1) := by decide +kernel
theorem dX8_needFault_20 : decode cX8_needFault 20 = .ok (.ldc_w 275, 3) := by decide +kernel
theorem dX8_needFault_23 : decode cX8_needFault 23 = .ok (.invokespecial 172, 3) := by decide +kernel
theorem dX8_needFault_26 : decode cX8_needFault 26 = .ok (.athrow, 1) := by decide +kernel
theorem dX8_needFault_27 : decode cX8_needFault 27 = .ok (.return_, 1) := by decide +kernel
theorem dX8_needPlace_0 : decode cX8_needPlace 0 = .ok (.iload_n 1, 1) := by decide +kernel
theorem dX8_needPlace_1 : decode cX8_needPlace 1 = .ok (.ifCond .lt 14, 3) := by decide +kernel
theorem dX8_needPlace_4 : decode cX8_needPlace 4 = .ok (.iload_n 1, 1) := by decide +kernel
theorem dX8_needPlace_5 : decode cX8_needPlace 5 = .ok (.aload_n 0, 1) := by decide +kernel
theorem dX8_needPlace_6 : decode cX8_needPlace 6 = .ok (.getfield 27, 3) := by decide +kernel
theorem dX8_needPlace_9 : decode cX8_needPlace 9 = .ok (.getfield 191, 3) := by decide +kernel
theorem dX8_needPlace_12 : decode cX8_needPlace 12 = .ok (.if_icmp .lt 14, 3) := by decide +kernel
theorem dX8_needPlace_15 : decode cX8_needPlace 15 = .ok (.new 258, 3) := by decide +kernel
theorem dX8_needPlace_18 : decode cX8_needPlace 18 = .ok (.dup, 1) := by decide +kernel
theorem dX8_needPlace_19 : decode cX8_needPlace 19 = .ok (.ldc_w 277, 3) := by decide +kernel
theorem dX8_needPlace_22 : decode cX8_needPlace 22 = .ok (.invokespecial 262, 3) := by decide +kernel
theorem dX8_needPlace_25 : decode cX8_needPlace 25 = .ok (.athrow, 1) := by decide +kernel
theorem dX8_needPlace_26 : decode cX8_needPlace 26 = .ok (.return_, 1) := by decide +kernel
theorem dX8_needAllRuns_0 : decode cX8_needAllRuns 0 = .ok (.aload_n 0, 1) := by decide +kernel
theorem dX8_needAllRuns_1 : decode cX8_needAllRuns 1 = .ok (.getfield 27, 3) := by decide +kernel
theorem dX8_needAllRuns_4 : decode cX8_needAllRuns 4 = .ok (.getfield 251, 3) := by decide +kernel
theorem dX8_needAllRuns_7 : decode cX8_needAllRuns 7 = .ok (.ifCond .eq 27, 3) := by decide +kernel
theorem dX8_needAllRuns_10 : decode cX8_needAllRuns 10 = .ok (.aload_n 0, 1) := by decide +kernel
theorem dX8_needAllRuns_11 : decode cX8_needAllRuns 11 = .ok (.getfield 27, 3) := by decide +kernel
theorem dX8_needAllRuns_14 : decode cX8_needAllRuns 14 = .ok (.getfield 279, 3) := by decide +kernel
theorem dX8_needAllRuns_17 : decode cX8_needAllRuns 17 = .ok (.bipush 97, 2) := by decide +kernel
theorem dX8_needAllRuns_19 : decode cX8_needAllRuns 19 = .ok (.if_icmp .ne 15, 3) := by decide +kernel
theorem dX8_needAllRuns_22 : decode cX8_needAllRuns 22 = .ok (.aload_n 0, 1) := by decide +kernel
theorem dX8_needAllRuns_23 : decode cX8_needAllRuns 23 = .ok (.getfield 27, 3) := by decide +kernel
theorem dX8_needAllRuns_26 : decode cX8_needAllRuns 26 = .ok (.invokevirtual 136, 3) := by decide +kernel
theorem dX8_needAllRuns_29 : decode cX8_needAllRuns 29 = .ok (.bipush 110, 2) := by decide +kernel
theorem dX8_needAllRuns_31 : decode cX8_needAllRuns 31 = .ok (.if_icmp .eq 14, 3) := by decide +kernel
theorem dX8_needAllRuns_34 : decode cX8_needAllRuns 34 = .ok (.new 44, 3) := by decide +kernel
theorem dX8_needAllRuns_37 : decode cX8_needAllRuns 37 = .ok (.dup, 1) := by decide +kernel
theorem dX8_needAllRuns_38 : decode cX8_needAllRuns 38 = .ok (.ldc_w 282, 3) := by decide +kernel
theorem dX8_needAllRuns_41 : decode cX8_needAllRuns 41 = .ok (.invokespecial 48, 3) := by decide +kernel
theorem dX8_needAllRuns_44 : decode cX8_needAllRuns 44 = .ok (.athrow, 1) := by decide +kernel
theorem dX8_needAllRuns_45 : decode cX8_needAllRuns 45 = .ok (.return_, 1) := by decide +kernel
theorem dX9_init_0 : decode cX9_init 0 = .ok (.aload_n 0, 1) := by decide +kernel
theorem dX9_init_1 : decode cX9_init 1 = .ok (.invokespecial 1, 3) := by decide +kernel
theorem dX9_init_4 : decode cX9_init 4 = .ok (.aload_n 0, 1) := by decide +kernel
theorem dX9_init_5 : decode cX9_init 5 = .ok (.iconst 3, 1) := by decide +kernel
theorem dX9_init_6 : decode cX9_init 6 = .ok (.newarray .int, 2) := by decide +kernel
theorem dX9_init_8 : decode cX9_init 8 = .ok (.putfield 7, 3) := by decide +kernel
theorem dX9_init_11 : decode cX9_init 11 = .ok (.aload_n 0, 1) := by decide +kernel
theorem dX9_init_12 : decode cX9_init 12 = .ok (.bipush 42, 2) := by decide +kernel
theorem dX9_init_14 : decode cX9_init 14 = .ok (.newarray .int, 2) := by decide +kernel
theorem dX9_init_16 : decode cX9_init 16 = .ok (.putfield 13, 3) := by decide +kernel
theorem dX9_init_19 : decode cX9_init 19 = .ok (.aload_n 0, 1) := by decide +kernel
theorem dX9_init_20 : decode cX9_init 20 = .ok (.bipush 42, 2) := by decide +kernel
theorem dX9_init_22 : decode cX9_init 22 = .ok (.newarray .int, 2) := by decide +kernel
theorem dX9_init_24 : decode cX9_init 24 = .ok (.putfield 16, 3) := by decide +kernel
theorem dX9_init_27 : decode cX9_init 27 = .ok (.aload_n 0, 1) := by decide +kernel
theorem dX9_init_28 : decode cX9_init 28 = .ok (.bipush 42, 2) := by decide +kernel
theorem dX9_init_30 : decode cX9_init 30 = .ok (.newarray .int, 2) := by decide +kernel
theorem dX9_init_32 : decode cX9_init 32 = .ok (.putfield 19, 3) := by decide +kernel
theorem dX9_init_35 : decode cX9_init 35 = .ok (.aload_n 0, 1) := by decide +kernel
theorem dX9_init_36 : decode cX9_init 36 = .ok (.bipush 42, 2) := by decide +kernel
theorem dX9_init_38 : decode cX9_init 38 = .ok (.newarray .int, 2) := by decide +kernel
theorem dX9_init_40 : decode cX9_init 40 = .ok (.putfield 22, 3) := by decide +kernel
theorem dX9_init_43 : decode cX9_init 43 = .ok (.aload_n 0, 1) := by decide +kernel
theorem dX9_init_44 : decode cX9_init 44 = .ok (.bipush 42, 2) := by decide +kernel
theorem dX9_init_46 : decode cX9_init 46 = .ok (.newarray .int, 2) := by decide +kernel
theorem dX9_init_48 : decode cX9_init 48 = .ok (.putfield 25, 3) := by decide +kernel
theorem dX9_init_51 : decode cX9_init 51 = .ok (.aload_n 0, 1) := by decide +kernel
theorem dX9_init_52 : decode cX9_init 52 = .ok (.iconst 2, 1) := by decide +kernel
theorem dX9_init_53 : decode cX9_init 53 = .ok (.newarray .int, 2) := by decide +kernel
theorem dX9_init_55 : decode cX9_init 55 = .ok (.putfield 28, 3) := by decide +kernel
theorem dX9_init_58 : decode cX9_init 58 = .ok (.aload_n 0, 1) := by decide +kernel
theorem dX9_init_59 : decode cX9_init 59 = .ok (.bipush 9, 2) := by decide +kernel
theorem dX9_init_61 : decode cX9_init 61 = .ok (.newarray .int, 2) := by decide +kernel
theorem dX9_init_63 : decode cX9_init 63 = .ok (.putfield 31, 3) := by decide +kernel
theorem dX9_init_66 : decode cX9_init 66 = .ok (.aload_n 0, 1) := by decide +kernel
theorem dX9_init_67 : decode cX9_init 67 = .ok (.iconst 4, 1) := by decide +kernel
theorem dX9_init_68 : decode cX9_init 68 = .ok (.newarray .int, 2) := by decide +kernel
theorem dX9_init_70 : decode cX9_init 70 = .ok (.putfield 34, 3) := by decide +kernel
theorem dX9_init_73 : decode cX9_init 73 = .ok (.aload_n 0, 1) := by decide +kernel
theorem dX9_init_74 : decode cX9_init 74 = .ok (.iconst 4, 1) := by decide +kernel
theorem dX9_init_75 : decode cX9_init 75 = .ok (.newarray .int, 2) := by decide +kernel
theorem dX9_init_77 : decode cX9_init 77 = .ok (.putfield 37, 3) := by decide +kernel
theorem dX9_init_80 : decode cX9_init 80 = .ok (.aload_n 0, 1) := by decide +kernel
theorem dX9_init_81 : decode cX9_init 81 = .ok (.bipush 36, 2) := by decide +kernel
theorem dX9_init_83 : decode cX9_init 83 = .ok (.newarray .boolean, 2) := by decide +kernel
theorem dX9_init_85 : decode cX9_init 85 = .ok (.putfield 40, 3) := by decide +kernel
theorem dX9_init_88 : decode cX9_init 88 = .ok (.aload_n 0, 1) := by decide +kernel
theorem dX9_init_89 : decode cX9_init 89 = .ok (.bipush 36, 2) := by decide +kernel
theorem dX9_init_91 : decode cX9_init 91 = .ok (.newarray .boolean, 2) := by decide +kernel
theorem dX9_init_93 : decode cX9_init 93 = .ok (.putfield 44, 3) := by decide +kernel
theorem dX9_init_96 : decode cX9_init 96 = .ok (.aload_n 0, 1) := by decide +kernel
theorem dX9_init_97 : decode cX9_init 97 = .ok (.sipush 2000, 3) := by decide +kernel
theorem dX9_init_100 : decode cX9_init 100 = .ok (.newarray .long, 2) := by decide +kernel
theorem dX9_init_102 : decode cX9_init 102 = .ok (.putfield 47, 3) := by decide +kernel
theorem dX9_init_105 : decode cX9_init 105 = .ok (.aload_n 0, 1) := by decide +kernel
theorem dX9_init_106 : decode cX9_init 106 = .ok (.sipush 2000, 3) := by decide +kernel
theorem dX9_init_109 : decode cX9_init 109 = .ok (.newarray .int, 2) := by decide +kernel
theorem dX9_init_111 : decode cX9_init 111 = .ok (.putfield 51, 3) := by decide +kernel
theorem dX9_init_114 : decode cX9_init 114 = .ok (.aload_n 0, 1) := by decide +kernel
theorem dX9_init_115 : decode cX9_init 115 = .ok (.sipush 2000, 3) := by decide +kernel
theorem dX9_init_118 : decode cX9_init 118 = .ok (.newarray .int, 2) := by decide +kernel
theorem dX9_init_120 : decode cX9_init 120 = .ok (.putfield 54, 3) := by decide +kernel
theorem dX9_init_123 : decode cX9_init 123 = .ok (.aload_n 0, 1) := by decide +kernel
theorem dX9_init_124 : decode cX9_init 124 = .ok (.sipush 2000, 3) := by decide +kernel
theorem dX9_init_127 : decode cX9_init 127 = .ok (.newarray .int, 2) := by decide +kernel
theorem dX9_init_129 : decode cX9_init 129 = .ok (.putfield 57, 3) := by decide +kernel
theorem dX9_init_132 : decode cX9_init 132 = .ok (.aload_n 0, 1) := by decide +kernel
theorem dX9_init_133 : decode cX9_init 133 = .ok (.sipush 8192, 3) := by decide +kernel
theorem dX9_init_136 : decode cX9_init 136 = .ok (.newarray .int, 2) := by decide +kernel
theorem dX9_init_138 : decode cX9_init 138 = .ok (.putfield 60, 3) := by decide +kernel
theorem dX9_init_141 : decode cX9_init 141 = .ok (.aload_n 0, 1) := by decide +kernel
theorem dX9_init_142 : decode cX9_init 142 = .ok (.sipush 509, 3) := by decide +kernel
theorem dX9_init_145 : decode cX9_init 145 = .ok (.newarray .boolean, 2) := by decide +kernel
theorem dX9_init_147 : decode cX9_init 147 = .ok (.putfield 63, 3) := by decide +kernel
theorem dX9_init_150 : decode cX9_init 150 = .ok (.aload_n 0, 1) := by decide +kernel
theorem dX9_init_151 : decode cX9_init 151 = .ok (.sipush 2001, 3) := by decide +kernel
theorem dX9_init_154 : decode cX9_init 154 = .ok (.newarray .int, 2) := by decide +kernel
theorem dX9_init_156 : decode cX9_init 156 = .ok (.putfield 66, 3) := by decide +kernel
theorem dX9_init_159 : decode cX9_init 159 = .ok (.aload_n 0, 1) := by decide +kernel
theorem dX9_init_160 : decode cX9_init 160 = .ok (.ldc 69, 2) := by decide +kernel
theorem dX9_init_162 : decode cX9_init 162 = .ok (.newarray .int, 2) := by decide +kernel
theorem dX9_init_164 : decode cX9_init 164 = .ok (.putfield 70, 3) := by decide +kernel
theorem dX9_init_167 : decode cX9_init 167 = .ok (.aload_n 0, 1) := by decide +kernel
theorem dX9_init_168 : decode cX9_init 168 = .ok (.iconst 3, 1) := by decide +kernel
theorem dX9_init_169 : decode cX9_init 169 = .ok (.newarray .int, 2) := by decide +kernel
theorem dX9_init_171 : decode cX9_init 171 = .ok (.putfield 73, 3) := by decide +kernel
theorem dX9_init_174 : decode cX9_init 174 = .ok (.aload_n 0, 1) := by decide +kernel
theorem dX9_init_175 : decode cX9_init 175 = .ok (.bipush 9, 2) := by decide +kernel
theorem dX9_init_177 : decode cX9_init 177 = .ok (.newarray .int, 2) := by decide +kernel
theorem dX9_init_179 : decode cX9_init 179 = .ok (.putfield 76, 3) := by decide +kernel
theorem dX9_init_182 : decode cX9_init 182 = .ok (.aload_n 0, 1) := by decide +kernel
theorem dX9_init_183 : decode cX9_init 183 = .ok (.iconst 2, 1) := by decide +kernel
theorem dX9_init_184 : decode cX9_init 184 = .ok (.newarray .int, 2) := by decide +kernel
theorem dX9_init_186 : decode cX9_init 186 = .ok (.putfield 79, 3) := by decide +kernel
theorem dX9_init_189 : decode cX9_init 189 = .ok (.aload_n 0, 1) := by decide +kernel
theorem dX9_init_190 : decode cX9_init 190 = .ok (.iconst 4, 1) := by decide +kernel
theorem dX9_init_191 : decode cX9_init 191 = .ok (.newarray .int, 2) := by decide +kernel
theorem dX9_init_193 : decode cX9_init 193 = .ok (.putfield 82, 3) := by decide +kernel
theorem dX9_init_196 : decode cX9_init 196 = .ok (.aload_n 0, 1) := by decide +kernel
theorem dX9_init_197 : decode cX9_init 197 = .ok (.iconst 3, 1) := by decide +kernel
theorem dX9_init_198 : decode cX9_init 198 = .ok (.newarray .int, 2) := by decide +kernel
theorem dX9_init_200 : decode cX9_init 200 = .ok (.putfield 85, 3) := by decide +kernel
theorem dX9_init_203 : decode cX9_init 203 = .ok (.aload_n 0, 1) := by decide +kernel
theorem dX9_init_204 : decode cX9_init 204 = .ok (.bipush 9, 2) := by decide +kernel
theorem dX9_init_206 : decode cX9_init 206 = .ok (.newarray .int, 2) := by decide +kernel
theorem dX9_init_208 : decode cX9_init 208 = .ok (.putfield 88, 3) := by decide +kernel
theorem dX9_init_211 : decode cX9_init 211 = .ok (.aload_n 0, 1) := by decide +kernel
theorem dX9_init_212 : decode cX9_init 212 = .ok (.iconst 2, 1) := by decide +kernel
theorem dX9_init_213 : decode cX9_init 213 = .ok (.newarray .int, 2) := by decide +kernel
theorem dX9_init_215 : decode cX9_init 215 = .ok (.putfield 91, 3) := by decide +kernel
theorem dX9_init_218 : decode cX9_init 218 = .ok (.aload_n 0, 1) := by decide +kernel
theorem dX9_init_219 : decode cX9_init 219 = .ok (.iconst 4, 1) := by decide +kernel
theorem dX9_init_220 : decode cX9_init 220 = .ok (.newarray .int, 2) := by decide +kernel
theorem dX9_init_222 : decode cX9_init 222 = .ok (.putfield 94, 3) := by decide +kernel
theorem dX9_init_225 : decode cX9_init 225 = .ok (.aload_n 0, 1) := by decide +kernel
theorem dX9_init_226 : decode cX9_init 226 = .ok (.sipush 450, 3) := by decide +kernel
theorem dX9_init_229 : decode cX9_init 229 = .ok (.newarray .int, 2) := by decide +kernel
theorem dX9_init_231 : decode cX9_init 231 = .ok (.putfield 97, 3) := by decide +kernel
theorem dX9_init_234 : decode cX9_init 234 = .ok (.aload_n 0, 1) := by decide +kernel
theorem dX9_init_235 : decode cX9_init 235 = .ok (.sipush 450, 3) := by decide +kernel
theorem dX9_init_238 : decode cX9_init 238 = .ok (.newarray .int, 2) := by decide +kernel
theorem dX9_init_240 : decode cX9_init 240 = .ok (.putfield 100, 3) := by decide +kernel
theorem dX9_init_243 : decode cX9_init 243 = .ok (.aload_n 0, 1) := by decide +kernel
theorem dX9_init_244 : decode cX9_init 244 = .ok (.sipush 450, 3) := by decide +kernel
theorem dX9_init_247 : decode cX9_init 247 = .ok (.newarray .int, 2) := by decide +kernel
theorem dX9_init_249 : decode cX9_init 249 = .ok (.putfield 103, 3) := by decide +kernel
theorem dX9_init_252 : decode cX9_init 252 = .ok (.aload_n 0, 1) := by decide +kernel
theorem dX9_init_253 : decode cX9_init 253 = .ok (.sipush 450, 3) := by decide +kernel
theorem dX9_init_256 : decode cX9_init 256 = .ok (.newarray .int, 2) := by decide +kernel
theorem dX9_init_258 : decode cX9_init 258 = .ok (.putfield 106, 3) := by decide +kernel
theorem dX9_init_261 : decode cX9_init 261 = .ok (.aload_n 0, 1) := by decide +kernel
theorem dX9_init_262 : decode cX9_init 262 = .ok (.sipush 2000, 3) := by decide +kernel
theorem dX9_init_265 : decode cX9_init 265 = .ok (.newarray .int, 2) := by decide +kernel
theorem dX9_init_267 : decode cX9_init 267 = .ok (.putfield 109, 3) := by decide +kernel
theorem dX9_init_270 : decode cX9_init 270 = .ok (.aload_n 0, 1) := by decide +kernel
theorem dX9_init_271 : decode cX9_init 271 = .ok (.sipush 2000, 3) := by decide +kernel
theorem dX9_init_274 : decode cX9_init 274 = .ok (.newarray .int, 2) := by decide +kernel
theorem dX9_init_276 : decode cX9_init 276 = .ok (.putfield 112, 3) := by decide +kernel
theorem dX9_init_279 : decode cX9_init 279 = .ok (.aload_n 0, 1) := by decide +kernel
theorem dX9_init_280 : decode cX9_init 280 = .ok (.sipush 2000, 3) := by decide +kernel
theorem dX9_init_283 : decode cX9_init 283 = .ok (.newarray .int, 2) := by decide +kernel
theorem dX9_init_285 : decode cX9_init 285 = .ok (.putfield 115, 3) := by decide +kernel
theorem dX9_init_288 : decode cX9_init 288 = .ok (.aload_n 0, 1) := by decide +kernel
theorem dX9_init_289 : decode cX9_init 289 = .ok (.sipush 2000, 3) := by decide +kernel
theorem dX9_init_292 : decode cX9_init 292 = .ok (.newarray .int, 2) := by decide +kernel
theorem dX9_init_294 : decode cX9_init 294 = .ok (.putfield 118, 3) := by decide +kernel
theorem dX9_init_297 : decode cX9_init 297 = .ok (.aload_n 0, 1) := by decide +kernel
theorem dX9_init_298 : decode cX9_init 298 = .ok (.sipush 2000, 3) := by decide +kernel
theorem dX9_init_301 : decode cX9_init 301 = .ok (.newarray .int, 2) := by decide +kernel
theorem dX9_init_303 : decode cX9_init 303 = .ok (.putfield 121, 3) := by decide +kernel
theorem dX9_init_306 : decode cX9_init 306 = .ok (.aload_n 0, 1) := by decide +kernel
theorem dX9_init_307 : decode cX9_init 307 = .ok (.sipush 2000, 3) := by decide +kernel
theorem dX9_init_310 : decode cX9_init 310 = .ok (.newarray .int, 2) := by decide +kernel
theorem dX9_init_312 : decode cX9_init 312 = .ok (.putfield 124, 3) := by decide +kernel
theorem dX9_init_315 : decode cX9_init 315 = .ok (.aload_n 0, 1) := by decide +kernel
theorem dX9_init_316 : decode cX9_init 316 = .ok (.sipush 2000, 3) := by decide +kernel
theorem dX9_init_319 : decode cX9_init 319 = .ok (.newarray .int, 2) := by decide +kernel
theorem dX9_init_321 : decode cX9_init 321 = .ok (.putfield 127, 3) := by decide +kernel
theorem dX9_init_324 : decode cX9_init 324 = .ok (.aload_n 0, 1) := by decide +kernel
theorem dX9_init_325 : decode cX9_init 325 = .ok (.sipush 2000, 3) := by decide +kernel
theorem dX9_init_328 : decode cX9_init 328 = .ok (.newarray .int, 2) := by decide +kernel
theorem dX9_init_330 : decode cX9_init 330 = .ok (.putfield 130, 3) := by decide +kernel
theorem dX9_init_333 : decode cX9_init 333 = .ok (.aload_n 0, 1) := by decide +kernel
theorem dX9_init_334 : decode cX9_init 334 = .ok (.sipush 2000, 3) := by decide +kernel
theorem dX9_init_337 : decode cX9_init 337 = .ok (.newarray .boolean, 2) := by decide +kernel
theorem dX9_init_339 : decode cX9_init 339 = .ok (.putfield 133, 3) := by decide +kernel
theorem dX9_init_342 : decode cX9_init 342 = .ok (.aload_n 0, 1) := by decide +kernel
theorem dX9_init_343 : decode cX9_init 343 = .ok (.sipush 2000, 3) := by decide +kernel
theorem dX9_init_346 : decode cX9_init 346 = .ok (.newarray .boolean, 2) := by decide +kernel
theorem dX9_init_348 : decode cX9_init 348 = .ok (.putfield 136, 3) := by decide +kernel
theorem dX9_init_351 : decode cX9_init 351 = .ok (.aload_n 0, 1) := by decide +kernel
theorem dX9_init_352 : decode cX9_init 352 = .ok (.sipush 2000, 3) := by decide +kernel
theorem dX9_init_355 : decode cX9_init 355 = .ok (.newarray .boolean, 2) := by decide +kernel
theorem dX9_init_357 : decode cX9_init 357 = .ok (.putfield 139, 3) := by decide +kernel
theorem dX9_init_360 : decode cX9_init 360 = .ok (.return_, 1) := by decide +kernel
theorem dX9_thrown_0 : decode cX9_thrown 0 = .ok (.aload_n 0, 1) := by decide +kernel
theorem dX9_thrown_1 : decode cX9_thrown 1 = .ok (.getfield 142, 3) := by decide +kernel
theorem dX9_thrown_4 : decode cX9_thrown 4 = .ok (.ireturn, 1) := by decide +kernel
theorem dX9_fails_0 : decode cX9_fails 0 = .ok (.aload_n 0, 1) := by decide +kernel
theorem dX9_fails_1 : decode cX9_fails 1 = .ok (.iload_n 1, 1) := by decide +kernel
theorem dX9_fails_2 : decode cX9_fails 2 = .ok (.putfield 142, 3) := by decide +kernel
theorem dX9_fails_5 : decode cX9_fails 5 = .ok (.iconst 0, 1) := by decide +kernel
theorem dX9_fails_6 : decode cX9_fails 6 = .ok (.ireturn, 1) := by decide +kernel
theorem dX9_in_0 : decode cX9_in 0 = .ok (.iload_n 0, 1) := by decide +kernel
theorem dX9_in_1 : decode cX9_in 1 = .ok (.iload_n 1, 1) := by decide +kernel
theorem dX9_in_2 : decode cX9_in 2 = .ok (.if_icmp .lt 12, 3) := by decide +kernel
theorem dX9_in_5 : decode cX9_in 5 = .ok (.iload_n 0, 1) := by decide +kernel
theorem dX9_in_6 : decode cX9_in 6 = .ok (.iload_n 2, 1) := by decide +kernel
theorem dX9_in_7 : decode cX9_in 7 = .ok (.if_icmp .gt 7, 3) := by decide +kernel
theorem dX9_in_10 : decode cX9_in 10 = .ok (.iconst 1, 1) := by decide +kernel
theorem dX9_in_11 : decode cX9_in 11 = .ok (.goto 4, 3) := by decide +kernel
theorem dX9_in_14 : decode cX9_in 14 = .ok (.iconst 0, 1) := by decide +kernel
theorem dX9_in_15 : decode cX9_in 15 = .ok (.ireturn, 1) := by decide +kernel
theorem dX9_codes_0 : decode cX9_codes 0 = .ok (.lconst 0, 1) := by decide +kernel
theorem dX9_codes_1 : decode cX9_codes 1 = .ok (.lstore_n 1, 1) := by decide +kernel
theorem dX9_codes_2 : decode cX9_codes 2 = .ok (.iconst 0, 1) := by decide +kernel
theorem dX9_codes_3 : decode cX9_codes 3 = .ok (.istore_n 3, 1) := by decide +kernel
theorem dX9_codes_4 : decode cX9_codes 4 = .ok (.iload_n 3, 1) := by decide +kernel
theorem dX9_codes_5 : decode cX9_codes 5 = .ok (.iconst 3, 1) := by decide +kernel
theorem dX9_codes_6 : decode cX9_codes 6 = .ok (.if_icmp .ge 55, 3) := by decide +kernel
theorem dX9_codes_9 : decode cX9_codes 9 = .ok (.lload_n 1, 1) := by decide +kernel
theorem dX9_codes_10 : decode cX9_codes 10 = .ok (.ldc2_w 146, 3) := by decide +kernel
theorem dX9_codes_13 : decode cX9_codes 13 = .ok (.lmul, 1) := by decide +kernel
theorem dX9_codes_14 : decode cX9_codes 14 = .ok (.aload_n 0, 1) := by decide +kernel
theorem dX9_codes_15 : decode cX9_codes 15 = .ok (.getfield 85, 3) := by decide +kernel
theorem dX9_codes_18 : decode cX9_codes 18 = .ok (.iload_n 3, 1) := by decide +kernel
theorem dX9_codes_19 : decode cX9_codes 19 = .ok (.iaload, 1) := by decide +kernel
theorem dX9_codes_20 : decode cX9_codes 20 = .ok (.i2l, 1) := by decide +kernel
theorem dX9_codes_21 : decode cX9_codes 21 = .ok (.ladd, 1) := by decide +kernel
theorem dX9_codes_22 : decode cX9_codes 22 = .ok (.ldc2_w 148, 3) := by decide +kernel
theorem dX9_codes_25 : decode cX9_codes 25 = .ok (.lmul, 1) := by decide +kernel
theorem dX9_codes_26 : decode cX9_codes 26 = .ok (.aload_n 0, 1) := by decide +kernel
theorem dX9_codes_27 : decode cX9_codes 27 = .ok (.getfield 88, 3) := by decide +kernel
theorem dX9_codes_30 : decode cX9_codes 30 = .ok (.iconst 3, 1) := by decide +kernel
theorem dX9_codes_31 : decode cX9_codes 31 = .ok (.iconst 2, 1) := by decide +kernel
theorem dX9_codes_32 : decode cX9_codes 32 = .ok (.iload_n 3, 1) := by decide +kernel
theorem dX9_codes_33 : decode cX9_codes 33 = .ok (.imul, 1) := by decide +kernel
theorem dX9_codes_34 : decode cX9_codes 34 = .ok (.iadd, 1) := by decide +kernel
theorem dX9_codes_35 : decode cX9_codes 35 = .ok (.iaload, 1) := by decide +kernel
theorem dX9_codes_36 : decode cX9_codes 36 = .ok (.i2l, 1) := by decide +kernel
theorem dX9_codes_37 : decode cX9_codes 37 = .ok (.ladd, 1) := by decide +kernel
theorem dX9_codes_38 : decode cX9_codes 38 = .ok (.ldc2_w 148, 3) := by decide +kernel
theorem dX9_codes_41 : decode cX9_codes 41 = .ok (.lmul, 1) := by decide +kernel
theorem dX9_codes_42 : decode cX9_codes 42 = .ok (.aload_n 0, 1) := by decide +kernel
theorem dX9_codes_43 : decode cX9_codes 43 = .ok (.getfield 88, 3) := by decide +kernel
theorem dX9_codes_46 : decode cX9_codes 46 = .ok (.iconst 4, 1) := by decide +kernel
theorem dX9_codes_47 : decode cX9_codes 47 = .ok (.iconst 2, 1) := by decide +kernel
theorem dX9_codes_48 : decode cX9_codes 48 = .ok (.iload_n 3, 1) := by decide +kernel
theorem dX9_codes_49 : decode cX9_codes 49 = .ok (.imul, 1) := by decide +kernel
theorem dX9_codes_50 : decode cX9_codes 50 = .ok (.iadd, 1) := by decide +kernel
theorem dX9_codes_51 : decode cX9_codes 51 = .ok (.iaload, 1) := by decide +kernel
theorem dX9_codes_52 : decode cX9_codes 52 = .ok (.i2l, 1) := by decide +kernel
theorem dX9_codes_53 : decode cX9_codes 53 = .ok (.ladd, 1) := by decide +kernel
theorem dX9_codes_54 : decode cX9_codes 54 = .ok (.lstore_n 1, 1) := by decide +kernel
theorem dX9_codes_55 : decode cX9_codes 55 = .ok (.iinc 3 1, 3) := by decide +kernel
theorem dX9_codes_58 : decode cX9_codes 58 = .ok (.goto (-54), 3) := by decide +kernel
theorem dX9_codes_61 : decode cX9_codes 61 = .ok (.iconst 0, 1) := by decide +kernel
theorem dX9_codes_62 : decode cX9_codes 62 = .ok (.istore_n 3, 1) := by decide +kernel
theorem dX9_codes_63 : decode cX9_codes 63 = .ok (.iload_n 3, 1) := by decide +kernel
theorem dX9_codes_64 : decode cX9_codes 64 = .ok (.iconst 3, 1) := by decide +kernel
theorem dX9_codes_65 : decode cX9_codes 65 = .ok (.if_icmp .ge 23, 3) := by decide +kernel
theorem dX9_codes_68 : decode cX9_codes 68 = .ok (.lload_n 1, 1) := by decide +kernel
theorem dX9_codes_69 : decode cX9_codes 69 = .ok (.ldc2_w 148, 3) := by decide +kernel
theorem dX9_codes_72 : decode cX9_codes 72 = .ok (.lmul, 1) := by decide +kernel
theorem dX9_codes_73 : decode cX9_codes 73 = .ok (.aload_n 0, 1) := by decide +kernel
theorem dX9_codes_74 : decode cX9_codes 74 = .ok (.getfield 88, 3) := by decide +kernel
theorem dX9_codes_77 : decode cX9_codes 77 = .ok (.iload_n 3, 1) := by decide +kernel
theorem dX9_codes_78 : decode cX9_codes 78 = .ok (.iaload, 1) := by decide +kernel
theorem dX9_codes_79 : decode cX9_codes 79 = .ok (.i2l, 1) := by decide +kernel
theorem dX9_codes_80 : decode cX9_codes 80 = .ok (.ladd, 1) := by decide +kernel
theorem dX9_codes_81 : decode cX9_codes 81 = .ok (.lstore_n 1, 1) := by decide +kernel
theorem dX9_codes_82 : decode cX9_codes 82 = .ok (.iinc 3 1, 3) := by decide +kernel
theorem dX9_codes_85 : decode cX9_codes 85 = .ok (.goto (-22), 3) := by decide +kernel
theorem dX9_codes_88 : decode cX9_codes 88 = .ok (.iconst 0, 1) := by decide +kernel
theorem dX9_codes_89 : decode cX9_codes 89 = .ok (.istore_n 3, 1) := by decide +kernel
theorem dX9_codes_90 : decode cX9_codes 90 = .ok (.iload_n 3, 1) := by decide +kernel
theorem dX9_codes_91 : decode cX9_codes 91 = .ok (.iconst 2, 1) := by decide +kernel
theorem dX9_codes_92 : decode cX9_codes 92 = .ok (.if_icmp .ge 53, 3) := by decide +kernel
theorem dX9_codes_95 : decode cX9_codes 95 = .ok (.lload_n 1, 1) := by decide +kernel
theorem dX9_codes_96 : decode cX9_codes 96 = .ok (.ldc2_w 150, 3) := by decide +kernel
theorem dX9_codes_99 : decode cX9_codes 99 = .ok (.lmul, 1) := by decide +kernel
theorem dX9_codes_100 : decode cX9_codes 100 = .ok (.aload_n 0, 1) := by decide +kernel
theorem dX9_codes_101 : decode cX9_codes 101 = .ok (.getfield 91, 3) := by decide +kernel
theorem dX9_codes_104 : decode cX9_codes 104 = .ok (.iload_n 3, 1) := by decide +kernel
theorem dX9_codes_105 : decode cX9_codes 105 = .ok (.iaload, 1) := by decide +kernel
theorem dX9_codes_106 : decode cX9_codes 106 = .ok (.i2l, 1) := by decide +kernel
theorem dX9_codes_107 : decode cX9_codes 107 = .ok (.ladd, 1) := by decide +kernel
theorem dX9_codes_108 : decode cX9_codes 108 = .ok (.ldc2_w 148, 3) := by decide +kernel
theorem dX9_codes_111 : decode cX9_codes 111 = .ok (.lmul, 1) := by decide +kernel
theorem dX9_codes_112 : decode cX9_codes 112 = .ok (.aload_n 0, 1) := by decide +kernel
theorem dX9_codes_113 : decode cX9_codes 113 = .ok (.getfield 94, 3) := by decide +kernel
theorem dX9_codes_116 : decode cX9_codes 116 = .ok (.iconst 2, 1) := by decide +kernel
theorem dX9_codes_117 : decode cX9_codes 117 = .ok (.iload_n 3, 1) := by decide +kernel
theorem dX9_codes_118 : decode cX9_codes 118 = .ok (.imul, 1) := by decide +kernel
theorem dX9_codes_119 : decode cX9_codes 119 = .ok (.iaload, 1) := by decide +kernel
theorem dX9_codes_120 : decode cX9_codes 120 = .ok (.i2l, 1) := by decide +kernel
theorem dX9_codes_121 : decode cX9_codes 121 = .ok (.ladd, 1) := by decide +kernel
theorem dX9_codes_122 : decode cX9_codes 122 = .ok (.ldc2_w 148, 3) := by decide +kernel
theorem dX9_codes_125 : decode cX9_codes 125 = .ok (.lmul, 1) := by decide +kernel
theorem dX9_codes_126 : decode cX9_codes 126 = .ok (.aload_n 0, 1) := by decide +kernel
theorem dX9_codes_127 : decode cX9_codes 127 = .ok (.getfield 94, 3) := by decide +kernel
theorem dX9_codes_130 : decode cX9_codes 130 = .ok (.iconst 2, 1) := by decide +kernel
theorem dX9_codes_131 : decode cX9_codes 131 = .ok (.iload_n 3, 1) := by decide +kernel
theorem dX9_codes_132 : decode cX9_codes 132 = .ok (.imul, 1) := by decide +kernel
theorem dX9_codes_133 : decode cX9_codes 133 = .ok (.iconst 1, 1) := by decide +kernel
theorem dX9_codes_134 : decode cX9_codes 134 = .ok (.iadd, 1) := by decide +kernel
theorem dX9_codes_135 : decode cX9_codes 135 = .ok (.iaload, 1) := by decide +kernel
theorem dX9_codes_136 : decode cX9_codes 136 = .ok (.i2l, 1) := by decide +kernel
theorem dX9_codes_137 : decode cX9_codes 137 = .ok (.ladd, 1) := by decide +kernel
theorem dX9_codes_138 : decode cX9_codes 138 = .ok (.lstore_n 1, 1) := by decide +kernel
theorem dX9_codes_139 : decode cX9_codes 139 = .ok (.iinc 3 1, 3) := by decide +kernel
theorem dX9_codes_142 : decode cX9_codes 142 = .ok (.goto (-52), 3) := by decide +kernel
theorem dX9_codes_145 : decode cX9_codes 145 = .ok (.lload_n 1, 1) := by decide +kernel
theorem dX9_codes_146 : decode cX9_codes 146 = .ok (.lreturn, 1) := by decide +kernel
theorem dX9_opens_0 : decode cX9_opens 0 = .ok (.lload_n 1, 1) := by decide +kernel
theorem dX9_opens_1 : decode cX9_opens 1 = .ok (.lstore_n 3, 1) := by decide +kernel
theorem dX9_opens_2 : decode cX9_opens 2 = .ok (.iconst 1, 1) := by decide +kernel
theorem dX9_opens_3 : decode cX9_opens 3 = .ok (.istore 5, 2) := by decide +kernel
theorem dX9_opens_5 : decode cX9_opens 5 = .ok (.iload 5, 2) := by decide +kernel
theorem dX9_opens_7 : decode cX9_opens 7 = .ok (.ifCond .lt 68, 3) := by decide +kernel
theorem dX9_opens_10 : decode cX9_opens 10 = .ok (.aload_n 0, 1) := by decide +kernel
theorem dX9_opens_11 : decode cX9_opens 11 = .ok (.getfield 82, 3) := by decide +kernel
theorem dX9_opens_14 : decode cX9_opens 14 = .ok (.iconst 2, 1) := by decide +kernel
theorem dX9_opens_15 : decode cX9_opens 15 = .ok (.iload 5, 2) := by decide +kernel
theorem dX9_opens_17 : decode cX9_opens 17 = .ok (.imul, 1) := by decide +kernel
theorem dX9_opens_18 : decode cX9_opens 18 = .ok (.iconst 1, 1) := by decide +kernel
theorem dX9_opens_19 : decode cX9_opens 19 = .ok (.iadd, 1) := by decide +kernel
theorem dX9_opens_20 : decode cX9_opens 20 = .ok (.lload_n 3, 1) := by decide +kernel
theorem dX9_opens_21 : decode cX9_opens 21 = .ok (.ldc2_w 148, 3) := by decide +kernel
theorem dX9_opens_24 : decode cX9_opens 24 = .ok (.lrem, 1) := by decide +kernel
theorem dX9_opens_25 : decode cX9_opens 25 = .ok (.l2i, 1) := by decide +kernel
theorem dX9_opens_26 : decode cX9_opens 26 = .ok (.iastore, 1) := by decide +kernel
theorem dX9_opens_27 : decode cX9_opens 27 = .ok (.aload_n 0, 1) := by decide +kernel
theorem dX9_opens_28 : decode cX9_opens 28 = .ok (.getfield 82, 3) := by decide +kernel
theorem dX9_opens_31 : decode cX9_opens 31 = .ok (.iconst 2, 1) := by decide +kernel
theorem dX9_opens_32 : decode cX9_opens 32 = .ok (.iload 5, 2) := by decide +kernel
theorem dX9_opens_34 : decode cX9_opens 34 = .ok (.imul, 1) := by decide +kernel
theorem dX9_opens_35 : decode cX9_opens 35 = .ok (.lload_n 3, 1) := by decide +kernel
theorem dX9_opens_36 : decode cX9_opens 36 = .ok (.ldc2_w 148, 3) := by decide +kernel
theorem dX9_opens_39 : decode cX9_opens 39 = .ok (.ldiv, 1) := by decide +kernel
theorem dX9_opens_40 : decode cX9_opens 40 = .ok (.ldc2_w 148, 3) := by decide +kernel
theorem dX9_opens_43 : decode cX9_opens 43 = .ok (.lrem, 1) := by decide +kernel
theorem dX9_opens_44 : decode cX9_opens 44 = .ok (.l2i, 1) := by decide +kernel
theorem dX9_opens_45 : decode cX9_opens 45 = .ok (.iastore, 1) := by decide +kernel
theorem dX9_opens_46 : decode cX9_opens 46 = .ok (.aload_n 0, 1) := by decide +kernel
theorem dX9_opens_47 : decode cX9_opens 47 = .ok (.getfield 79, 3) := by decide +kernel
theorem dX9_opens_50 : decode cX9_opens 50 = .ok (.iload 5, 2) := by decide +kernel
theorem dX9_opens_52 : decode cX9_opens 52 = .ok (.lload_n 3, 1) := by decide +kernel
theorem dX9_opens_53 : decode cX9_opens 53 = .ok (.ldc2_w 152, 3) := by decide +kernel
theorem dX9_opens_56 : decode cX9_opens 56 = .ok (.ldiv, 1) := by decide +kernel
theorem dX9_opens_57 : decode cX9_opens 57 = .ok (.ldc2_w 150, 3) := by decide +kernel
theorem dX9_opens_60 : decode cX9_opens 60 = .ok (.lrem, 1) := by decide +kernel
theorem dX9_opens_61 : decode cX9_opens 61 = .ok (.l2i, 1) := by decide +kernel
theorem dX9_opens_62 : decode cX9_opens 62 = .ok (.iastore, 1) := by decide +kernel
theorem dX9_opens_63 : decode cX9_opens 63 = .ok (.lload_n 3, 1) := by decide +kernel
theorem dX9_opens_64 : decode cX9_opens 64 = .ok (.ldc2_w 154, 3) := by decide +kernel
theorem dX9_opens_67 : decode cX9_opens 67 = .ok (.ldiv, 1) := by decide +kernel
theorem dX9_opens_68 : decode cX9_opens 68 = .ok (.lstore_n 3, 1) := by decide +kernel
theorem dX9_opens_69 : decode cX9_opens 69 = .ok (.iinc 5 (-1), 3) := by decide +kernel
theorem dX9_opens_72 : decode cX9_opens 72 = .ok (.goto (-67), 3) := by decide +kernel
theorem dX9_opens_75 : decode cX9_opens 75 = .ok (.iconst 2, 1) := by decide +kernel
theorem dX9_opens_76 : decode cX9_opens 76 = .ok (.istore 5, 2) := by decide +kernel
theorem dX9_opens_78 : decode cX9_opens 78 = .ok (.iload 5, 2) := by decide +kernel
theorem dX9_opens_80 : decode cX9_opens 80 = .ok (.ifCond .lt 28, 3) := by decide +kernel
theorem dX9_opens_83 : decode cX9_opens 83 = .ok (.aload_n 0, 1) := by decide +kernel
theorem dX9_opens_84 : decode cX9_opens 84 = .ok (.getfield 76, 3) := by decide +kernel
theorem dX9_opens_87 : decode cX9_opens 87 = .ok (.iload 5, 2) := by decide +kernel
theorem dX9_opens_89 : decode cX9_opens 89 = .ok (.lload_n 3, 1) := by decide +kernel
theorem dX9_opens_90 : decode cX9_opens 90 = .ok (.ldc2_w 148, 3) := by decide +kernel
theorem dX9_opens_93 : decode cX9_opens 93 = .ok (.lrem, 1) := by decide +kernel
theorem dX9_opens_94 : decode cX9_opens 94 = .ok (.l2i, 1) := by decide +kernel
theorem dX9_opens_95 : decode cX9_opens 95 = .ok (.iastore, 1) := by decide +kernel
theorem dX9_opens_96 : decode cX9_opens 96 = .ok (.lload_n 3, 1) := by decide +kernel
theorem dX9_opens_97 : decode cX9_opens 97 = .ok (.ldc2_w 148, 3) := by decide +kernel
theorem dX9_opens_100 : decode cX9_opens 100 = .ok (.ldiv, 1) := by decide +kernel
theorem dX9_opens_101 : decode cX9_opens 101 = .ok (.lstore_n 3, 1) := by decide +kernel
theorem dX9_opens_102 : decode cX9_opens 102 = .ok (.iinc 5 (-1), 3) := by decide +kernel
theorem dX9_opens_105 : decode cX9_opens 105 = .ok (.goto (-27), 3) := by decide +kernel
theorem dX9_opens_108 : decode cX9_opens 108 = .ok (.iconst 2, 1) := by decide +kernel
theorem dX9_opens_109 : decode cX9_opens 109 = .ok (.istore 5, 2) := by decide +kernel
theorem dX9_opens_111 : decode cX9_opens 111 = .ok (.iload 5, 2) := by decide +kernel
theorem dX9_opens_113 : decode cX9_opens 113 = .ok (.ifCond .lt 70, 3) := by decide +kernel
theorem dX9_opens_116 : decode cX9_opens 116 = .ok (.aload_n 0, 1) := by decide +kernel
theorem dX9_opens_117 : decode cX9_opens 117 = .ok (.getfield 76, 3) := by decide +kernel
theorem dX9_opens_120 : decode cX9_opens 120 = .ok (.iconst 4, 1) := by decide +kernel
theorem dX9_opens_121 : decode cX9_opens 121 = .ok (.iconst 2, 1) := by decide +kernel
theorem dX9_opens_122 : decode cX9_opens 122 = .ok (.iload 5, 2) := by decide +kernel
theorem dX9_opens_124 : decode cX9_opens 124 = .ok (.imul, 1) := by decide +kernel
theorem dX9_opens_125 : decode cX9_opens 125 = .ok (.iadd, 1) := by decide +kernel
theorem dX9_opens_126 : decode cX9_opens 126 = .ok (.lload_n 3, 1) := by decide +kernel
theorem dX9_opens_127 : decode cX9_opens 127 = .ok (.ldc2_w 148, 3) := by decide +kernel
theorem dX9_opens_130 : decode cX9_opens 130 = .ok (.lrem, 1) := by decide +kernel
theorem dX9_opens_131 : decode cX9_opens 131 = .ok (.l2i, 1) := by decide +kernel
theorem dX9_opens_132 : decode cX9_opens 132 = .ok (.iastore, 1) := by decide +kernel
theorem dX9_opens_133 : decode cX9_opens 133 = .ok (.aload_n 0, 1) := by decide +kernel
theorem dX9_opens_134 : decode cX9_opens 134 = .ok (.getfield 76, 3) := by decide +kernel
theorem dX9_opens_137 : decode cX9_opens 137 = .ok (.iconst 3, 1) := by decide +kernel
theorem dX9_opens_138 : decode cX9_opens 138 = .ok (.iconst 2, 1) := by decide +kernel
theorem dX9_opens_139 : decode cX9_opens 139 = .ok (.iload 5, 2) := by decide +kernel
theorem dX9_opens_141 : decode cX9_opens 141 = .ok (.imul, 1) := by decide +kernel
theorem dX9_opens_142 : decode cX9_opens 142 = .ok (.iadd, 1) := by decide +kernel
theorem dX9_opens_143 : decode cX9_opens 143 = .ok (.lload_n 3, 1) := by decide +kernel
theorem dX9_opens_144 : decode cX9_opens 144 = .ok (.ldc2_w 148, 3) := by decide +kernel
theorem dX9_opens_147 : decode cX9_opens 147 = .ok (.ldiv, 1) := by decide +kernel
theorem dX9_opens_148 : decode cX9_opens 148 = .ok (.ldc2_w 148, 3) := by decide +kernel
theorem dX9_opens_151 : decode cX9_opens 151 = .ok (.lrem, 1) := by decide +kernel
theorem dX9_opens_152 : decode cX9_opens 152 = .ok (.l2i, 1) := by decide +kernel
theorem dX9_opens_153 : decode cX9_opens 153 = .ok (.iastore, 1) := by decide +kernel
theorem dX9_opens_154 : decode cX9_opens 154 = .ok (.aload_n 0, 1) := by decide +kernel
theorem dX9_opens_155 : decode cX9_opens 155 = .ok (.getfield 73, 3) := by decide +kernel
theorem dX9_opens_158 : decode cX9_opens 158 = .ok (.iload 5, 2) := by decide +kernel
theorem dX9_opens_160 : decode cX9_opens 160 = .ok (.lload_n 3, 1) := by decide +kernel
theorem dX9_opens_161 : decode cX9_opens 161 = .ok (.ldc2_w 152, 3) := by decide +kernel
theorem dX9_opens_164 : decode cX9_opens 164 = .ok (.ldiv, 1) := by decide +kernel
theorem dX9_opens_165 : decode cX9_opens 165 = .ok (.ldc2_w 146, 3) := by decide +kernel
theorem dX9_opens_168 : decode cX9_opens 168 = .ok (.lrem, 1) := by decide +kernel
theorem dX9_opens_169 : decode cX9_opens 169 = .ok (.l2i, 1) := by decide +kernel
theorem dX9_opens_170 : decode cX9_opens 170 = .ok (.iastore, 1) := by decide +kernel
theorem dX9_opens_171 : decode cX9_opens 171 = .ok (.lload_n 3, 1) := by decide +kernel
theorem dX9_opens_172 : decode cX9_opens 172 = .ok (.ldc2_w 156, 3) := by decide +kernel
theorem dX9_opens_175 : decode cX9_opens 175 = .ok (.ldiv, 1) := by decide +kernel
theorem dX9_opens_176 : decode cX9_opens 176 = .ok (.lstore_n 3, 1) := by decide +kernel
theorem dX9_opens_177 : decode cX9_opens 177 = .ok (.iinc 5 (-1), 3) := by decide +kernel
theorem dX9_opens_180 : decode cX9_opens 180 = .ok (.goto (-69), 3) := by decide +kernel
theorem dX9_opens_183 : decode cX9_opens 183 = .ok (.return_, 1) := by decide +kernel
theorem dX9_copies_0 : decode cX9_copies 0 = .ok (.iconst 0, 1) := by decide +kernel
theorem dX9_copies_1 : decode cX9_copies 1 = .ok (.istore_n 1, 1) := by decide +kernel
theorem dX9_copies_2 : decode cX9_copies 2 = .ok (.iload_n 1, 1) := by decide +kernel
theorem dX9_copies_3 : decode cX9_copies 3 = .ok (.iconst 3, 1) := by decide +kernel
theorem dX9_copies_4 : decode cX9_copies 4 = .ok (.if_icmp .ge 21, 3) := by decide +kernel
theorem dX9_copies_7 : decode cX9_copies 7 = .ok (.aload_n 0, 1) := by decide +kernel
theorem dX9_copies_8 : decode cX9_copies 8 = .ok (.getfield 85, 3) := by decide +kernel
theorem dX9_copies_11 : decode cX9_copies 11 = .ok (.iload_n 1, 1) := by decide +kernel
theorem dX9_copies_12 : decode cX9_copies 12 = .ok (.aload_n 0, 1) := by decide +kernel
theorem dX9_copies_13 : decode cX9_copies 13 = .ok (.getfield 73, 3) := by decide +kernel
theorem dX9_copies_16 : decode cX9_copies 16 = .ok (.iload_n 1, 1) := by decide +kernel
theorem dX9_copies_17 : decode cX9_copies 17 = .ok (.iaload, 1) := by decide +kernel
theorem dX9_copies_18 : decode cX9_copies 18 = .ok (.iastore, 1) := by decide +kernel
theorem dX9_copies_19 : decode cX9_copies 19 = .ok (.iinc 1 1, 3) := by decide +kernel
theorem dX9_copies_22 : decode cX9_copies 22 = .ok (.goto (-20), 3) := by decide +kernel
theorem dX9_copies_25 : decode cX9_copies 25 = .ok (.iconst 0, 1) := by decide +kernel
theorem dX9_copies_26 : decode cX9_copies 26 = .ok (.istore_n 1, 1) := by decide +kernel
theorem dX9_copies_27 : decode cX9_copies 27 = .ok (.iload_n 1, 1) := by decide +kernel
theorem dX9_copies_28 : decode cX9_copies 28 = .ok (.bipush 9, 2) := by decide +kernel
theorem dX9_copies_30 : decode cX9_copies 30 = .ok (.if_icmp .ge 21, 3) := by decide +kernel
theorem dX9_copies_33 : decode cX9_copies 33 = .ok (.aload_n 0, 1) := by decide +kernel
theorem dX9_copies_34 : decode cX9_copies 34 = .ok (.getfield 88, 3) := by decide +kernel
theorem dX9_copies_37 : decode cX9_copies 37 = .ok (.iload_n 1, 1) := by decide +kernel
theorem dX9_copies_38 : decode cX9_copies 38 = .ok (.aload_n 0, 1) := by decide +kernel
theorem dX9_copies_39 : decode cX9_copies 39 = .ok (.getfield 76, 3) := by decide +kernel
theorem dX9_copies_42 : decode cX9_copies 42 = .ok (.iload_n 1, 1) := by decide +kernel
theorem dX9_copies_43 : decode cX9_copies 43 = .ok (.iaload, 1) := by decide +kernel
theorem dX9_copies_44 : decode cX9_copies 44 = .ok (.iastore, 1) := by decide +kernel
theorem dX9_copies_45 : decode cX9_copies 45 = .ok (.iinc 1 1, 3) := by decide +kernel
theorem dX9_copies_48 : decode cX9_copies 48 = .ok (.goto (-21), 3) := by decide +kernel
theorem dX9_copies_51 : decode cX9_copies 51 = .ok (.iconst 0, 1) := by decide +kernel
theorem dX9_copies_52 : decode cX9_copies 52 = .ok (.istore_n 1, 1) := by decide +kernel
theorem dX9_copies_53 : decode cX9_copies 53 = .ok (.iload_n 1, 1) := by decide +kernel
theorem dX9_copies_54 : decode cX9_copies 54 = .ok (.iconst 2, 1) := by decide +kernel
theorem dX9_copies_55 : decode cX9_copies 55 = .ok (.if_icmp .ge 21, 3) := by decide +kernel
theorem dX9_copies_58 : decode cX9_copies 58 = .ok (.aload_n 0, 1) := by decide +kernel
theorem dX9_copies_59 : decode cX9_copies 59 = .ok (.getfield 91, 3) := by decide +kernel
theorem dX9_copies_62 : decode cX9_copies 62 = .ok (.iload_n 1, 1) := by decide +kernel
theorem dX9_copies_63 : decode cX9_copies 63 = .ok (.aload_n 0, 1) := by decide +kernel
theorem dX9_copies_64 : decode cX9_copies 64 = .ok (.getfield 79, 3) := by decide +kernel
theorem dX9_copies_67 : decode cX9_copies 67 = .ok (.iload_n 1, 1) := by decide +kernel
theorem dX9_copies_68 : decode cX9_copies 68 = .ok (.iaload, 1) := by decide +kernel
theorem dX9_copies_69 : decode cX9_copies 69 = .ok (.iastore, 1) := by decide +kernel
theorem dX9_copies_70 : decode cX9_copies 70 = .ok (.iinc 1 1, 3) := by decide +kernel
theorem dX9_copies_73 : decode cX9_copies 73 = .ok (.goto (-20), 3) := by decide +kernel
theorem dX9_copies_76 : decode cX9_copies 76 = .ok (.iconst 0, 1) := by decide +kernel
theorem dX9_copies_77 : decode cX9_copies 77 = .ok (.istore_n 1, 1) := by decide +kernel
theorem dX9_copies_78 : decode cX9_copies 78 = .ok (.iload_n 1, 1) := by decide +kernel
theorem dX9_copies_79 : decode cX9_copies 79 = .ok (.iconst 4, 1) := by decide +kernel
theorem dX9_copies_80 : decode cX9_copies 80 = .ok (.if_icmp .ge 21, 3) := by decide +kernel
theorem dX9_copies_83 : decode cX9_copies 83 = .ok (.aload_n 0, 1) := by decide +kernel
theorem dX9_copies_84 : decode cX9_copies 84 = .ok (.getfield 94, 3) := by decide +kernel
theorem dX9_copies_87 : decode cX9_copies 87 = .ok (.iload_n 1, 1) := by decide +kernel
theorem dX9_copies_88 : decode cX9_copies 88 = .ok (.aload_n 0, 1) := by decide +kernel
theorem dX9_copies_89 : decode cX9_copies 89 = .ok (.getfield 82, 3) := by decide +kernel
theorem dX9_copies_92 : decode cX9_copies 92 = .ok (.iload_n 1, 1) := by decide +kernel
theorem dX9_copies_93 : decode cX9_copies 93 = .ok (.iaload, 1) := by decide +kernel
theorem dX9_copies_94 : decode cX9_copies 94 = .ok (.iastore, 1) := by decide +kernel
theorem dX9_copies_95 : decode cX9_copies 95 = .ok (.iinc 1 1, 3) := by decide +kernel
theorem dX9_copies_98 : decode cX9_copies 98 = .ok (.goto (-20), 3) := by decide +kernel
theorem dX9_copies_101 : decode cX9_copies 101 = .ok (.return_, 1) := by decide +kernel
theorem dX9_isHere_0 : decode cX9_isHere 0 = .ok (.aload_n 0, 1) := by decide +kernel
theorem dX9_isHere_1 : decode cX9_isHere 1 = .ok (.getfield 13, 3) := by decide +kernel
theorem dX9_isHere_4 : decode cX9_isHere 4 = .ok (.bipush 14, 2) := by decide +kernel
theorem dX9_isHere_6 : decode cX9_isHere 6 = .ok (.iload_n 1, 1) := by decide +kernel
theorem dX9_isHere_7 : decode cX9_isHere 7 = .ok (.imul, 1) := by decide +kernel
theorem dX9_isHere_8 : decode cX9_isHere 8 = .ok (.iload_n 2, 1) := by decide +kernel
theorem dX9_isHere_9 : decode cX9_isHere 9 = .ok (.iadd, 1) := by decide +kernel
theorem dX9_isHere_10 : decode cX9_isHere 10 = .ok (.iaload, 1) := by decide +kernel
theorem dX9_isHere_11 : decode cX9_isHere 11 = .ok (.aload_n 0, 1) := by decide +kernel
theorem dX9_isHere_12 : decode cX9_isHere 12 = .ok (.getfield 73, 3) := by decide +kernel
theorem dX9_isHere_15 : decode cX9_isHere 15 = .ok (.iload_n 1, 1) := by decide +kernel
theorem dX9_isHere_16 : decode cX9_isHere 16 = .ok (.iaload, 1) := by decide +kernel
theorem dX9_isHere_17 : decode cX9_isHere 17 = .ok (.if_icmp .ne 7, 3) := by decide +kernel
theorem dX9_isHere_20 : decode cX9_isHere 20 = .ok (.iconst 1, 1) := by decide +kernel
theorem dX9_isHere_21 : decode cX9_isHere 21 = .ok (.goto 4, 3) := by decide +kernel
theorem dX9_isHere_24 : decode cX9_isHere 24 = .ok (.iconst 0, 1) := by decide +kernel
theorem dX9_isHere_25 : decode cX9_isHere 25 = .ok (.ireturn, 1) := by decide +kernel
theorem dX9_isFree_0 : decode cX9_isFree 0 = .ok (.aload_n 0, 1) := by decide +kernel
theorem dX9_isFree_1 : decode cX9_isFree 1 = .ok (.getfield 19, 3) := by decide +kernel
theorem dX9_isFree_4 : decode cX9_isFree 4 = .ok (.iload_n 1, 1) := by decide +kernel
theorem dX9_isFree_5 : decode cX9_isFree 5 = .ok (.iaload, 1) := by decide +kernel
theorem dX9_isFree_6 : decode cX9_isFree 6 = .ok (.istore_n 2, 1) := by decide +kernel
theorem dX9_isFree_7 : decode cX9_isFree 7 = .ok (.iload_n 2, 1) := by decide +kernel
theorem dX9_isFree_8 : decode cX9_isFree 8 = .ok (.bipush 61, 2) := by decide +kernel
theorem dX9_isFree_10 : decode cX9_isFree 10 = .ok (.if_icmp .ne 29, 3) := by decide +kernel
theorem dX9_isFree_13 : decode cX9_isFree 13 = .ok (.aload_n 0, 1) := by decide +kernel
theorem dX9_isFree_14 : decode cX9_isFree 14 = .ok (.getfield 76, 3) := by decide +kernel
theorem dX9_isFree_17 : decode cX9_isFree 17 = .ok (.aload_n 0, 1) := by decide +kernel
theorem dX9_isFree_18 : decode cX9_isFree 18 = .ok (.getfield 22, 3) := by decide +kernel
theorem dX9_isFree_21 : decode cX9_isFree 21 = .ok (.iload_n 1, 1) := by decide +kernel
theorem dX9_isFree_22 : decode cX9_isFree 22 = .ok (.iaload, 1) := by decide +kernel
theorem dX9_isFree_23 : decode cX9_isFree 23 = .ok (.iaload, 1) := by decide +kernel
theorem dX9_isFree_24 : decode cX9_isFree 24 = .ok (.aload_n 0, 1) := by decide +kernel
theorem dX9_isFree_25 : decode cX9_isFree 25 = .ok (.getfield 25, 3) := by decide +kernel
theorem dX9_isFree_28 : decode cX9_isFree 28 = .ok (.iload_n 1, 1) := by decide +kernel
theorem dX9_isFree_29 : decode cX9_isFree 29 = .ok (.iaload, 1) := by decide +kernel
theorem dX9_isFree_30 : decode cX9_isFree 30 = .ok (.if_icmp .ne 7, 3) := by decide +kernel
theorem dX9_isFree_33 : decode cX9_isFree 33 = .ok (.iconst 1, 1) := by decide +kernel
theorem dX9_isFree_34 : decode cX9_isFree 34 = .ok (.goto 4, 3) := by decide +kernel
theorem dX9_isFree_37 : decode cX9_isFree 37 = .ok (.iconst 0, 1) := by decide +kernel
theorem dX9_isFree_38 : decode cX9_isFree 38 = .ok (.ireturn, 1) := by decide +kernel
theorem dX9_isFree_39 : decode cX9_isFree 39 = .ok (.iload_n 2, 1) := by decide +kernel
theorem dX9_isFree_40 : decode cX9_isFree 40 = .ok (.bipush 33, 2) := by decide +kernel
theorem dX9_isFree_42 : decode cX9_isFree 42 = .ok (.if_icmp .ne 29, 3) := by decide +kernel
theorem dX9_isFree_45 : decode cX9_isFree 45 = .ok (.aload_n 0, 1) := by decide +kernel
theorem dX9_isFree_46 : decode cX9_isFree 46 = .ok (.getfield 76, 3) := by decide +kernel
theorem dX9_isFree_49 : decode cX9_isFree 49 = .ok (.aload_n 0, 1) := by decide +kernel
theorem dX9_isFree_50 : decode cX9_isFree 50 = .ok (.getfield 22, 3) := by decide +kernel
theorem dX9_isFree_53 : decode cX9_isFree 53 = .ok (.iload_n 1, 1) := by decide +kernel
theorem dX9_isFree_54 : decode cX9_isFree 54 = .ok (.iaload, 1) := by decide +kernel
theorem dX9_isFree_55 : decode cX9_isFree 55 = .ok (.iaload, 1) := by decide +kernel
theorem dX9_isFree_56 : decode cX9_isFree 56 = .ok (.aload_n 0, 1) := by decide +kernel
theorem dX9_isFree_57 : decode cX9_isFree 57 = .ok (.getfield 25, 3) := by decide +kernel
theorem dX9_isFree_60 : decode cX9_isFree 60 = .ok (.iload_n 1, 1) := by decide +kernel
theorem dX9_isFree_61 : decode cX9_isFree 61 = .ok (.iaload, 1) := by decide +kernel
theorem dX9_isFree_62 : decode cX9_isFree 62 = .ok (.if_icmp .eq 7, 3) := by decide +kernel
theorem dX9_isFree_65 : decode cX9_isFree 65 = .ok (.iconst 1, 1) := by decide +kernel
theorem dX9_isFree_66 : decode cX9_isFree 66 = .ok (.goto 4, 3) := by decide +kernel
theorem dX9_isFree_69 : decode cX9_isFree 69 = .ok (.iconst 0, 1) := by decide +kernel
theorem dX9_isFree_70 : decode cX9_isFree 70 = .ok (.ireturn, 1) := by decide +kernel
theorem dX9_isFree_71 : decode cX9_isFree 71 = .ok (.iload_n 2, 1) := by decide +kernel
theorem dX9_isFree_72 : decode cX9_isFree 72 = .ok (.bipush 119, 2) := by decide +kernel
theorem dX9_isFree_74 : decode cX9_isFree 74 = .ok (.if_icmp .ne 34, 3) := by decide +kernel
theorem dX9_isFree_77 : decode cX9_isFree 77 = .ok (.aload_n 0, 1) := by decide +kernel
theorem dX9_isFree_78 : decode cX9_isFree 78 = .ok (.getfield 79, 3) := by decide +kernel
theorem dX9_isFree_81 : decode cX9_isFree 81 = .ok (.aload_n 0, 1) := by decide +kernel
theorem dX9_isFree_82 : decode cX9_isFree 82 = .ok (.getfield 22, 3) := by decide +kernel
theorem dX9_isFree_85 : decode cX9_isFree 85 = .ok (.iload_n 1, 1) := by decide +kernel
theorem dX9_isFree_86 : decode cX9_isFree 86 = .ok (.iaload, 1) := by decide +kernel
theorem dX9_isFree_87 : decode cX9_isFree 87 = .ok (.iaload, 1) := by decide +kernel
theorem dX9_isFree_88 : decode cX9_isFree 88 = .ok (.aload_n 0, 1) := by decide +kernel
theorem dX9_isFree_89 : decode cX9_isFree 89 = .ok (.getfield 28, 3) := by decide +kernel
theorem dX9_isFree_92 : decode cX9_isFree 92 = .ok (.aload_n 0, 1) := by decide +kernel
theorem dX9_isFree_93 : decode cX9_isFree 93 = .ok (.getfield 22, 3) := by decide +kernel
theorem dX9_isFree_96 : decode cX9_isFree 96 = .ok (.iload_n 1, 1) := by decide +kernel
theorem dX9_isFree_97 : decode cX9_isFree 97 = .ok (.iaload, 1) := by decide +kernel
theorem dX9_isFree_98 : decode cX9_isFree 98 = .ok (.iaload, 1) := by decide +kernel
theorem dX9_isFree_99 : decode cX9_isFree 99 = .ok (.if_icmp .ge 7, 3) := by decide +kernel
theorem dX9_isFree_102 : decode cX9_isFree 102 = .ok (.iconst 1, 1) := by decide +kernel
theorem dX9_isFree_103 : decode cX9_isFree 103 = .ok (.goto 4, 3) := by decide +kernel
theorem dX9_isFree_106 : decode cX9_isFree 106 = .ok (.iconst 0, 1) := by decide +kernel
theorem dX9_isFree_107 : decode cX9_isFree 107 = .ok (.ireturn, 1) := by decide +kernel
theorem dX9_isFree_108 : decode cX9_isFree 108 = .ok (.iload_n 2, 1) := by decide +kernel
theorem dX9_isFree_109 : decode cX9_isFree 109 = .ok (.bipush 114, 2) := by decide +kernel
theorem dX9_isFree_111 : decode cX9_isFree 111 = .ok (.if_icmp .ne 17, 3) := by decide +kernel
theorem dX9_isFree_114 : decode cX9_isFree 114 = .ok (.aload_n 0, 1) := by decide +kernel
theorem dX9_isFree_115 : decode cX9_isFree 115 = .ok (.getfield 79, 3) := by decide +kernel
theorem dX9_isFree_118 : decode cX9_isFree 118 = .ok (.aload_n 0, 1) := by decide +kernel
theorem dX9_isFree_119 : decode cX9_isFree 119 = .ok (.getfield 22, 3) := by decide +kernel
theorem dX9_isFree_122 : decode cX9_isFree 122 = .ok (.iload_n 1, 1) := by decide +kernel
theorem dX9_isFree_123 : decode cX9_isFree 123 = .ok (.iaload, 1) := by decide +kernel
theorem dX9_isFree_124 : decode cX9_isFree 124 = .ok (.iaload, 1) := by decide +kernel
theorem dX9_isFree_125 : decode cX9_isFree 125 = .ok (.ifCond .le 7, 3) := by decide +kernel
theorem dX9_isFree_128 : decode cX9_isFree 128 = .ok (.iconst 1, 1) := by decide +kernel
theorem dX9_isFree_129 : decode cX9_isFree 129 = .ok (.goto 4, 3) := by decide +kernel
theorem dX9_isFree_132 : decode cX9_isFree 132 = .ok (.iconst 0, 1) := by decide +kernel
theorem dX9_isFree_133 : decode cX9_isFree 133 = .ok (.ireturn, 1) := by decide +kernel
theorem dX9_adds_0 : decode cX9_adds 0 = .ok (.aload_n 0, 1) := by decide +kernel
theorem dX9_adds_1 : decode cX9_adds 1 = .ok (.getfield 97, 3) := by decide +kernel
theorem dX9_adds_4 : decode cX9_adds 4 = .ok (.aload_n 0, 1) := by decide +kernel
theorem dX9_adds_5 : decode cX9_adds 5 = .ok (.getfield 158, 3) := by decide +kernel
theorem dX9_adds_8 : decode cX9_adds 8 = .ok (.iload_n 1, 1) := by decide +kernel
theorem dX9_adds_9 : decode cX9_adds 9 = .ok (.iastore, 1) := by decide +kernel
theorem dX9_adds_10 : decode cX9_adds 10 = .ok (.aload_n 0, 1) := by decide +kernel
theorem dX9_adds_11 : decode cX9_adds 11 = .ok (.getfield 100, 3) := by decide +kernel
theorem dX9_adds_14 : decode cX9_adds 14 = .ok (.aload_n 0, 1) := by decide +kernel
theorem dX9_adds_15 : decode cX9_adds 15 = .ok (.getfield 158, 3) := by decide +kernel
theorem dX9_adds_18 : decode cX9_adds 18 = .ok (.iload_n 2, 1) := by decide +kernel
theorem dX9_adds_19 : decode cX9_adds 19 = .ok (.iastore, 1) := by decide +kernel
theorem dX9_adds_20 : decode cX9_adds 20 = .ok (.aload_n 0, 1) := by decide +kernel
theorem dX9_adds_21 : decode cX9_adds 21 = .ok (.getfield 103, 3) := by decide +kernel
theorem dX9_adds_24 : decode cX9_adds 24 = .ok (.aload_n 0, 1) := by decide +kernel
theorem dX9_adds_25 : decode cX9_adds 25 = .ok (.getfield 158, 3) := by decide +kernel
theorem dX9_adds_28 : decode cX9_adds 28 = .ok (.iload_n 3, 1) := by decide +kernel
theorem dX9_adds_29 : decode cX9_adds 29 = .ok (.iastore, 1) := by decide +kernel
theorem dX9_adds_30 : decode cX9_adds 30 = .ok (.aload_n 0, 1) := by decide +kernel
theorem dX9_adds_31 : decode cX9_adds 31 = .ok (.getfield 106, 3) := by decide +kernel
theorem dX9_adds_34 : decode cX9_adds 34 = .ok (.aload_n 0, 1) := by decide +kernel
theorem dX9_adds_35 : decode cX9_adds 35 = .ok (.getfield 158, 3) := by decide +kernel
theorem dX9_adds_38 : decode cX9_adds 38 = .ok (.iload 4, 2) := by decide +kernel
theorem dX9_adds_40 : decode cX9_adds 40 = .ok (.iastore, 1) := by decide +kernel
theorem dX9_adds_41 : decode cX9_adds 41 = .ok (.aload_n 0, 1) := by decide +kernel
theorem dX9_adds_42 : decode cX9_adds 42 = .ok (.dup, 1) := by decide +kernel
theorem dX9_adds_43 : decode cX9_adds 43 = .ok (.getfield 158, 3) := by decide +kernel
theorem dX9_adds_46 : decode cX9_adds 46 = .ok (.iconst 1, 1) := by decide +kernel
theorem dX9_adds_47 : decode cX9_adds 47 = .ok (.iadd, 1) := by decide +kernel
theorem dX9_adds_48 : decode cX9_adds 48 = .ok (.putfield 158, 3) := by decide +kernel
theorem dX9_adds_51 : decode cX9_adds 51 = .ok (.return_, 1) := by decide +kernel
theorem dX9_pairs_0 : decode cX9_pairs 0 = .ok (.aload_n 0, 1) := by decide +kernel
theorem dX9_pairs_1 : decode cX9_pairs 1 = .ok (.getfield 22, 3) := by decide +kernel
theorem dX9_pairs_4 : decode cX9_pairs 4 = .ok (.bipush 14, 2) := by decide +kernel
theorem dX9_pairs_6 : decode cX9_pairs 6 = .ok (.iload_n 1, 1) := by decide +kernel
theorem dX9_pairs_7 : decode cX9_pairs 7 = .ok (.imul, 1) := by decide +kernel
theorem dX9_pairs_8 : decode cX9_pairs 8 = .ok (.iload_n 2, 1) := by decide +kernel
theorem dX9_pairs_9 : decode cX9_pairs 9 = .ok (.iadd, 1) := by decide +kernel
theorem dX9_pairs_10 : decode cX9_pairs 10 = .ok (.iaload, 1) := by decide +kernel
theorem dX9_pairs_11 : decode cX9_pairs 11 = .ok (.istore_n 3, 1) := by decide +kernel
theorem dX9_pairs_12 : decode cX9_pairs 12 = .ok (.iconst 0, 1) := by decide +kernel
theorem dX9_pairs_13 : decode cX9_pairs 13 = .ok (.istore 4, 2) := by decide +kernel
theorem dX9_pairs_15 : decode cX9_pairs 15 = .ok (.iload 4, 2) := by decide +kernel
theorem dX9_pairs_17 : decode cX9_pairs 17 = .ok (.aload_n 0, 1) := by decide +kernel
theorem dX9_pairs_18 : decode cX9_pairs 18 = .ok (.getfield 161, 3) := by decide +kernel
theorem dX9_pairs_21 : decode cX9_pairs 21 = .ok (.if_icmp .ge 95, 3) := by decide +kernel
theorem dX9_pairs_24 : decode cX9_pairs 24 = .ok (.iload 4, 2) := by decide +kernel
theorem dX9_pairs_26 : decode cX9_pairs 26 = .ok (.iload_n 1, 1) := by decide +kernel
theorem dX9_pairs_27 : decode cX9_pairs 27 = .ok (.if_icmp .ne 6, 3) := by decide +kernel
theorem dX9_pairs_30 : decode cX9_pairs 30 = .ok (.goto 80, 3) := by decide +kernel
theorem dX9_pairs_33 : decode cX9_pairs 33 = .ok (.iconst 0, 1) := by decide +kernel
theorem dX9_pairs_34 : decode cX9_pairs 34 = .ok (.istore 5, 2) := by decide +kernel
theorem dX9_pairs_36 : decode cX9_pairs 36 = .ok (.iload 5, 2) := by decide +kernel
theorem dX9_pairs_38 : decode cX9_pairs 38 = .ok (.aload_n 0, 1) := by decide +kernel
theorem dX9_pairs_39 : decode cX9_pairs 39 = .ok (.getfield 7, 3) := by decide +kernel
theorem dX9_pairs_42 : decode cX9_pairs 42 = .ok (.iload 4, 2) := by decide +kernel
theorem dX9_pairs_44 : decode cX9_pairs 44 = .ok (.iaload, 1) := by decide +kernel
theorem dX9_pairs_45 : decode cX9_pairs 45 = .ok (.if_icmp .ge 65, 3) := by decide +kernel
theorem dX9_pairs_48 : decode cX9_pairs 48 = .ok (.aload_n 0, 1) := by decide +kernel
theorem dX9_pairs_49 : decode cX9_pairs 49 = .ok (.iload 4, 2) := by decide +kernel
theorem dX9_pairs_51 : decode cX9_pairs 51 = .ok (.iload 5, 2) := by decide +kernel
theorem dX9_pairs_53 : decode cX9_pairs 53 = .ok (.invokevirtual 164, 3) := by decide +kernel
theorem dX9_pairs_56 : decode cX9_pairs 56 = .ok (.ifCond .eq 48, 3) := by decide +kernel
theorem dX9_pairs_59 : decode cX9_pairs 59 = .ok (.aload_n 0, 1) := by decide +kernel
theorem dX9_pairs_60 : decode cX9_pairs 60 = .ok (.getfield 19, 3) := by decide +kernel
theorem dX9_pairs_63 : decode cX9_pairs 63 = .ok (.bipush 14, 2) := by decide +kernel
theorem dX9_pairs_65 : decode cX9_pairs 65 = .ok (.iload 4, 2) := by decide +kernel
theorem dX9_pairs_67 : decode cX9_pairs 67 = .ok (.imul, 1) := by decide +kernel
theorem dX9_pairs_68 : decode cX9_pairs 68 = .ok (.iload 5, 2) := by decide +kernel
theorem dX9_pairs_70 : decode cX9_pairs 70 = .ok (.iadd, 1) := by decide +kernel
theorem dX9_pairs_71 : decode cX9_pairs 71 = .ok (.iaload, 1) := by decide +kernel
theorem dX9_pairs_72 : decode cX9_pairs 72 = .ok (.bipush 114, 2) := by decide +kernel
theorem dX9_pairs_74 : decode cX9_pairs 74 = .ok (.if_icmp .ne 30, 3) := by decide +kernel
theorem dX9_pairs_77 : decode cX9_pairs 77 = .ok (.aload_n 0, 1) := by decide +kernel
theorem dX9_pairs_78 : decode cX9_pairs 78 = .ok (.getfield 22, 3) := by decide +kernel
theorem dX9_pairs_81 : decode cX9_pairs 81 = .ok (.bipush 14, 2) := by decide +kernel
theorem dX9_pairs_83 : decode cX9_pairs 83 = .ok (.iload 4, 2) := by decide +kernel
theorem dX9_pairs_85 : decode cX9_pairs 85 = .ok (.imul, 1) := by decide +kernel
theorem dX9_pairs_86 : decode cX9_pairs 86 = .ok (.iload 5, 2) := by decide +kernel
theorem dX9_pairs_88 : decode cX9_pairs 88 = .ok (.iadd, 1) := by decide +kernel
theorem dX9_pairs_89 : decode cX9_pairs 89 = .ok (.iaload, 1) := by decide +kernel
theorem dX9_pairs_90 : decode cX9_pairs 90 = .ok (.iload_n 3, 1) := by decide +kernel
theorem dX9_pairs_91 : decode cX9_pairs 91 = .ok (.if_icmp .ne 13, 3) := by decide +kernel
theorem dX9_pairs_94 : decode cX9_pairs 94 = .ok (.aload_n 0, 1) := by decide +kernel
theorem dX9_pairs_95 : decode cX9_pairs 95 = .ok (.iload_n 1, 1) := by decide +kernel
theorem dX9_pairs_96 : decode cX9_pairs 96 = .ok (.iload_n 2, 1) := by decide +kernel
theorem dX9_pairs_97 : decode cX9_pairs 97 = .ok (.iload 4, 2) := by decide +kernel
theorem dX9_pairs_99 : decode cX9_pairs 99 = .ok (.iload 5, 2) := by decide +kernel
theorem dX9_pairs_101 : decode cX9_pairs 101 = .ok (.invokevirtual 168, 3) := by decide +kernel
theorem dX9_pairs_104 : decode cX9_pairs 104 = .ok (.iinc 5 1, 3) := by decide +kernel
theorem dX9_pairs_107 : decode cX9_pairs 107 = .ok (.goto (-71), 3) := by decide +kernel
theorem dX9_pairs_110 : decode cX9_pairs 110 = .ok (.iinc 4 1, 3) := by decide +kernel
theorem dX9_pairs_113 : decode cX9_pairs 113 = .ok (.goto (-98), 3) := by decide +kernel
theorem dX9_pairs_116 : decode cX9_pairs 116 = .ok (.return_, 1) := by decide +kernel
theorem dX9_finds_0 : decode cX9_finds 0 = .ok (.aload_n 0, 1) := by decide +kernel
theorem dX9_finds_1 : decode cX9_finds 1 = .ok (.iconst 0, 1) := by decide +kernel
theorem dX9_finds_2 : decode cX9_finds 2 = .ok (.putfield 158, 3) := by decide +kernel
theorem dX9_finds_5 : decode cX9_finds 5 = .ok (.iconst 0, 1) := by decide +kernel
theorem dX9_finds_6 : decode cX9_finds 6 = .ok (.istore_n 1, 1) := by decide +kernel
theorem dX9_finds_7 : decode cX9_finds 7 = .ok (.iload_n 1, 1) := by decide +kernel
theorem dX9_finds_8 : decode cX9_finds 8 = .ok (.aload_n 0, 1) := by decide +kernel
theorem dX9_finds_9 : decode cX9_finds 9 = .ok (.getfield 161, 3) := by decide +kernel
theorem dX9_finds_12 : decode cX9_finds 12 = .ok (.if_icmp .ge 96, 3) := by decide +kernel
theorem dX9_finds_15 : decode cX9_finds 15 = .ok (.iconst 0, 1) := by decide +kernel
theorem dX9_finds_16 : decode cX9_finds 16 = .ok (.istore_n 2, 1) := by decide +kernel
theorem dX9_finds_17 : decode cX9_finds 17 = .ok (.iload_n 2, 1) := by decide +kernel
theorem dX9_finds_18 : decode cX9_finds 18 = .ok (.aload_n 0, 1) := by decide +kernel
theorem dX9_finds_19 : decode cX9_finds 19 = .ok (.getfield 7, 3) := by decide +kernel
theorem dX9_finds_22 : decode cX9_finds 22 = .ok (.iload_n 1, 1) := by decide +kernel
theorem dX9_finds_23 : decode cX9_finds 23 = .ok (.iaload, 1) := by decide +kernel
theorem dX9_finds_24 : decode cX9_finds 24 = .ok (.if_icmp .ge 78, 3) := by decide +kernel
theorem dX9_finds_27 : decode cX9_finds 27 = .ok (.bipush 14, 2) := by decide +kernel
theorem dX9_finds_29 : decode cX9_finds 29 = .ok (.iload_n 1, 1) := by decide +kernel
theorem dX9_finds_30 : decode cX9_finds 30 = .ok (.imul, 1) := by decide +kernel
theorem dX9_finds_31 : decode cX9_finds 31 = .ok (.iload_n 2, 1) := by decide +kernel
theorem dX9_finds_32 : decode cX9_finds 32 = .ok (.iadd, 1) := by decide +kernel
theorem dX9_finds_33 : decode cX9_finds 33 = .ok (.istore_n 3, 1) := by decide +kernel
theorem dX9_finds_34 : decode cX9_finds 34 = .ok (.aload_n 0, 1) := by decide +kernel
theorem dX9_finds_35 : decode cX9_finds 35 = .ok (.iload_n 1, 1) := by decide +kernel
theorem dX9_finds_36 : decode cX9_finds 36 = .ok (.iload_n 2, 1) := by decide +kernel
theorem dX9_finds_37 : decode cX9_finds 37 = .ok (.invokevirtual 164, 3) := by decide +kernel
theorem dX9_finds_40 : decode cX9_finds 40 = .ok (.ifCond .ne 6, 3) := by decide +kernel
theorem dX9_finds_43 : decode cX9_finds 43 = .ok (.goto 53, 3) := by decide +kernel
theorem dX9_finds_46 : decode cX9_finds 46 = .ok (.aload_n 0, 1) := by decide +kernel
theorem dX9_finds_47 : decode cX9_finds 47 = .ok (.getfield 19, 3) := by decide +kernel
theorem dX9_finds_50 : decode cX9_finds 50 = .ok (.iload_n 3, 1) := by decide +kernel
theorem dX9_finds_51 : decode cX9_finds 51 = .ok (.iaload, 1) := by decide +kernel
theorem dX9_finds_52 : decode cX9_finds 52 = .ok (.bipush 119, 2) := by decide +kernel
theorem dX9_finds_54 : decode cX9_finds 54 = .ok (.if_icmp .ne 26, 3) := by decide +kernel
theorem dX9_finds_57 : decode cX9_finds 57 = .ok (.aload_n 0, 1) := by decide +kernel
theorem dX9_finds_58 : decode cX9_finds 58 = .ok (.getfield 28, 3) := by decide +kernel
theorem dX9_finds_61 : decode cX9_finds 61 = .ok (.aload_n 0, 1) := by decide +kernel
theorem dX9_finds_62 : decode cX9_finds 62 = .ok (.getfield 22, 3) := by decide +kernel
theorem dX9_finds_65 : decode cX9_finds 65 = .ok (.iload_n 3, 1) := by decide +kernel
theorem dX9_finds_66 : decode cX9_finds 66 = .ok (.iaload, 1) := by decide +kernel
theorem dX9_finds_67 : decode cX9_finds 67 = .ok (.iaload, 1) := by decide +kernel
theorem dX9_finds_68 : decode cX9_finds 68 = .ok (.ifCond .ne 12, 3) := by decide +kernel
theorem dX9_finds_71 : decode cX9_finds 71 = .ok (.aload_n 0, 1) := by decide +kernel
theorem dX9_finds_72 : decode cX9_finds 72 = .ok (.iload_n 1, 1) := by decide +kernel
theorem dX9_finds_73 : decode cX9_finds 73 = .ok (.iload_n 2, 1) := by decide +kernel
theorem dX9_finds_74 : decode cX9_finds 74 = .ok (.invokevirtual 172, 3) := by decide +kernel
theorem dX9_finds_77 : decode cX9_finds 77 = .ok (.goto 19, 3) := by decide +kernel
theorem dX9_finds_80 : decode cX9_finds 80 = .ok (.aload_n 0, 1) := by decide +kernel
theorem dX9_finds_81 : decode cX9_finds 81 = .ok (.iload_n 3, 1) := by decide +kernel
theorem dX9_finds_82 : decode cX9_finds 82 = .ok (.invokevirtual 176, 3) := by decide +kernel
theorem dX9_finds_85 : decode cX9_finds 85 = .ok (.ifCond .eq 11, 3) := by decide +kernel
theorem dX9_finds_88 : decode cX9_finds 88 = .ok (.aload_n 0, 1) := by decide +kernel
theorem dX9_finds_89 : decode cX9_finds 89 = .ok (.iload_n 1, 1) := by decide +kernel
theorem dX9_finds_90 : decode cX9_finds 90 = .ok (.iload_n 2, 1) := by decide +kernel
theorem dX9_finds_91 : decode cX9_finds 91 = .ok (.iconst (-1), 1) := by decide +kernel
theorem dX9_finds_92 : decode cX9_finds 92 = .ok (.iconst (-1), 1) := by decide +kernel
theorem dX9_finds_93 : decode cX9_finds 93 = .ok (.invokevirtual 168, 3) := by decide +kernel
theorem dX9_finds_96 : decode cX9_finds 96 = .ok (.iinc 2 1, 3) := by decide +kernel
theorem dX9_finds_99 : decode cX9_finds 99 = .ok (.goto (-82), 3) := by decide +kernel
theorem dX9_finds_102 : decode cX9_finds 102 = .ok (.iinc 1 1, 3) := by decide +kernel
theorem dX9_finds_105 : decode cX9_finds 105 = .ok (.goto (-98), 3) := by decide +kernel
theorem dX9_finds_108 : decode cX9_finds 108 = .ok (.iconst (-1), 1) := by decide +kernel
theorem dX9_finds_109 : decode cX9_finds 109 = .ok (.istore_n 1, 1) := by decide +kernel
theorem dX9_finds_110 : decode cX9_finds 110 = .ok (.aload_n 0, 1) := by decide +kernel
theorem dX9_finds_111 : decode cX9_finds 111 = .ok (.getfield 158, 3) := by decide +kernel
theorem dX9_finds_114 : decode cX9_finds 114 = .ok (.iconst 1, 1) := by decide +kernel
theorem dX9_finds_115 : decode cX9_finds 115 = .ok (.isub, 1) := by decide +kernel
theorem dX9_finds_116 : decode cX9_finds 116 = .ok (.istore_n 2, 1) := by decide +kernel
theorem dX9_finds_117 : decode cX9_finds 117 = .ok (.iload_n 2, 1) := by decide +kernel
theorem dX9_finds_118 : decode cX9_finds 118 = .ok (.ifCond .lt 45, 3) := by decide +kernel
theorem dX9_finds_121 : decode cX9_finds 121 = .ok (.aload_n 0, 1) := by decide +kernel
theorem dX9_finds_122 : decode cX9_finds 122 = .ok (.getfield 44, 3) := by decide +kernel
theorem dX9_finds_125 : decode cX9_finds 125 = .ok (.bipush 12, 2) := by decide +kernel
theorem dX9_finds_127 : decode cX9_finds 127 = .ok (.aload_n 0, 1) := by decide +kernel
theorem dX9_finds_128 : decode cX9_finds 128 = .ok (.getfield 97, 3) := by decide +kernel
theorem dX9_finds_131 : decode cX9_finds 131 = .ok (.iload_n 2, 1) := by decide +kernel
theorem dX9_finds_132 : decode cX9_finds 132 = .ok (.iaload, 1) := by decide +kernel
theorem dX9_finds_133 : decode cX9_finds 133 = .ok (.imul, 1) := by decide +kernel
theorem dX9_finds_134 : decode cX9_finds 134 = .ok (.aload_n 0, 1) := by decide +kernel
theorem dX9_finds_135 : decode cX9_finds 135 = .ok (.getfield 73, 3) := by decide +kernel
theorem dX9_finds_138 : decode cX9_finds 138 = .ok (.aload_n 0, 1) := by decide +kernel
theorem dX9_finds_139 : decode cX9_finds 139 = .ok (.getfield 97, 3) := by decide +kernel
theorem dX9_finds_142 : decode cX9_finds 142 = .ok (.iload_n 2, 1) := by decide +kernel
theorem dX9_finds_143 : decode cX9_finds 143 = .ok (.iaload, 1) := by decide +kernel
theorem dX9_finds_144 : decode cX9_finds 144 = .ok (.iaload, 1) := by decide +kernel
theorem dX9_finds_145 : decode cX9_finds 145 = .ok (.iadd, 1) := by decide +kernel
theorem dX9_finds_146 : decode cX9_finds 146 = .ok (.baload, 1) := by decide +kernel
theorem dX9_finds_147 : decode cX9_finds 147 = .ok (.ifCond .eq 10, 3) := by decide +kernel
theorem dX9_finds_150 : decode cX9_finds 150 = .ok (.aload_n 0, 1) := by decide +kernel
theorem dX9_finds_151 : decode cX9_finds 151 = .ok (.getfield 97, 3) := by decide +kernel
theorem dX9_finds_154 : decode cX9_finds 154 = .ok (.iload_n 2, 1) := by decide +kernel
theorem dX9_finds_155 : decode cX9_finds 155 = .ok (.iaload, 1) := by decide +kernel
theorem dX9_finds_156 : decode cX9_finds 156 = .ok (.istore_n 1, 1) := by decide +kernel
theorem dX9_finds_157 : decode cX9_finds 157 = .ok (.iinc 2 (-1), 3) := by decide +kernel
theorem dX9_finds_160 : decode cX9_finds 160 = .ok (.goto (-43), 3) := by decide +kernel
theorem dX9_finds_163 : decode cX9_finds 163 = .ok (.iload_n 1, 1) := by decide +kernel
theorem dX9_finds_164 : decode cX9_finds 164 = .ok (.iconst (-1), 1) := by decide +kernel
theorem dX9_finds_165 : decode cX9_finds 165 = .ok (.if_icmp .ne 4, 3) := by decide +kernel
theorem dX9_finds_168 : decode cX9_finds 168 = .ok (.return_, 1) := by decide +kernel
theorem dX9_finds_169 : decode cX9_finds 169 = .ok (.aload_n 0, 1) := by decide +kernel
theorem dX9_finds_170 : decode cX9_finds 170 = .ok (.iload_n 1, 1) := by decide +kernel
theorem dX9_finds_171 : decode cX9_finds 171 = .ok (.invokevirtual 180, 3) := by decide +kernel
theorem dX9_finds_174 : decode cX9_finds 174 = .ok (.return_, 1) := by decide +kernel
theorem dX9_keeps_0 : decode cX9_keeps 0 = .ok (.iconst 0, 1) := by decide +kernel
theorem dX9_keeps_1 : decode cX9_keeps 1 = .ok (.istore_n 2, 1) := by decide +kernel
theorem dX9_keeps_2 : decode cX9_keeps 2 = .ok (.iconst 0, 1) := by decide +kernel
theorem dX9_keeps_3 : decode cX9_keeps 3 = .ok (.istore_n 3, 1) := by decide +kernel
theorem dX9_keeps_4 : decode cX9_keeps 4 = .ok (.iload_n 3, 1) := by decide +kernel
theorem dX9_keeps_5 : decode cX9_keeps 5 = .ok (.aload_n 0, 1) := by decide +kernel
theorem dX9_keeps_6 : decode cX9_keeps 6 = .ok (.getfield 158, 3) := by decide +kernel
theorem dX9_keeps_9 : decode cX9_keeps 9 = .ok (.if_icmp .ge 68, 3) := by decide +kernel
theorem dX9_keeps_12 : decode cX9_keeps 12 = .ok (.aload_n 0, 1) := by decide +kernel
theorem dX9_keeps_13 : decode cX9_keeps 13 = .ok (.getfield 97, 3) := by decide +kernel
theorem dX9_keeps_16 : decode cX9_keeps 16 = .ok (.iload_n 3, 1) := by decide +kernel
theorem dX9_keeps_17 : decode cX9_keeps 17 = .ok (.iaload, 1) := by decide +kernel
theorem dX9_keeps_18 : decode cX9_keeps 18 = .ok (.iload_n 1, 1) := by decide +kernel
theorem dX9_keeps_19 : decode cX9_keeps 19 = .ok (.if_icmp .eq 6, 3) := by decide +kernel
theorem dX9_keeps_22 : decode cX9_keeps 22 = .ok (.goto 49, 3) := by decide +kernel
theorem dX9_keeps_25 : decode cX9_keeps 25 = .ok (.aload_n 0, 1) := by decide +kernel
theorem dX9_keeps_26 : decode cX9_keeps 26 = .ok (.getfield 97, 3) := by decide +kernel
theorem dX9_keeps_29 : decode cX9_keeps 29 = .ok (.iload_n 2, 1) := by decide +kernel
theorem dX9_keeps_30 : decode cX9_keeps 30 = .ok (.iload_n 1, 1) := by decide +kernel
theorem dX9_keeps_31 : decode cX9_keeps 31 = .ok (.iastore, 1) := by decide +kernel
theorem dX9_keeps_32 : decode cX9_keeps 32 = .ok (.aload_n 0, 1) := by decide +kernel
theorem dX9_keeps_33 : decode cX9_keeps 33 = .ok (.getfield 100, 3) := by decide +kernel
theorem dX9_keeps_36 : decode cX9_keeps 36 = .ok (.iload_n 2, 1) := by decide +kernel
theorem dX9_keeps_37 : decode cX9_keeps 37 = .ok (.aload_n 0, 1) := by decide +kernel
theorem dX9_keeps_38 : decode cX9_keeps 38 = .ok (.getfield 100, 3) := by decide +kernel
theorem dX9_keeps_41 : decode cX9_keeps 41 = .ok (.iload_n 3, 1) := by decide +kernel
theorem dX9_keeps_42 : decode cX9_keeps 42 = .ok (.iaload, 1) := by decide +kernel
theorem dX9_keeps_43 : decode cX9_keeps 43 = .ok (.iastore, 1) := by decide +kernel
theorem dX9_keeps_44 : decode cX9_keeps 44 = .ok (.aload_n 0, 1) := by decide +kernel
theorem dX9_keeps_45 : decode cX9_keeps 45 = .ok (.getfield 103, 3) := by decide +kernel
theorem dX9_keeps_48 : decode cX9_keeps 48 = .ok (.iload_n 2, 1) := by decide +kernel
theorem dX9_keeps_49 : decode cX9_keeps 49 = .ok (.aload_n 0, 1) := by decide +kernel
theorem dX9_keeps_50 : decode cX9_keeps 50 = .ok (.getfield 103, 3) := by decide +kernel
theorem dX9_keeps_53 : decode cX9_keeps 53 = .ok (.iload_n 3, 1) := by decide +kernel
theorem dX9_keeps_54 : decode cX9_keeps 54 = .ok (.iaload, 1) := by decide +kernel
theorem dX9_keeps_55 : decode cX9_keeps 55 = .ok (.iastore, 1) := by decide +kernel
theorem dX9_keeps_56 : decode cX9_keeps 56 = .ok (.aload_n 0, 1) := by decide +kernel
theorem dX9_keeps_57 : decode cX9_keeps 57 = .ok (.getfield 106, 3) := by decide +kernel
theorem dX9_keeps_60 : decode cX9_keeps 60 = .ok (.iload_n 2, 1) := by decide +kernel
theorem dX9_keeps_61 : decode cX9_keeps 61 = .ok (.aload_n 0, 1) := by decide +kernel
theorem dX9_keeps_62 : decode cX9_keeps 62 = .ok (.getfield 106, 3) := by decide +kernel
theorem dX9_keeps_65 : decode cX9_keeps 65 = .ok (.iload_n 3, 1) := by decide +kernel
theorem dX9_keeps_66 : decode cX9_keeps 66 = .ok (.iaload, 1) := by decide +kernel
theorem dX9_keeps_67 : decode cX9_keeps 67 = .ok (.iastore, 1) := by decide +kernel
theorem dX9_keeps_68 : decode cX9_keeps 68 = .ok (.iinc 2 1, 3) := by decide +kernel
theorem dX9_keeps_71 : decode cX9_keeps 71 = .ok (.iinc 3 1, 3) := by decide +kernel
theorem dX9_keeps_74 : decode cX9_keeps 74 = .ok (.goto (-70), 3) := by decide +kernel
theorem dX9_keeps_77 : decode cX9_keeps 77 = .ok (.aload_n 0, 1) := by decide +kernel
theorem dX9_keeps_78 : decode cX9_keeps 78 = .ok (.iload_n 2, 1) := by decide +kernel
theorem dX9_keeps_79 : decode cX9_keeps 79 = .ok (.putfield 158, 3) := by decide +kernel
theorem dX9_keeps_82 : decode cX9_keeps 82 = .ok (.return_, 1) := by decide +kernel
theorem dX9_makes_0 : decode cX9_makes 0 = .ok (.bipush 14, 2) := by decide +kernel
theorem dX9_makes_2 : decode cX9_makes 2 = .ok (.aload_n 0, 1) := by decide +kernel
theorem dX9_makes_3 : decode cX9_makes 3 = .ok (.getfield 97, 3) := by decide +kernel
theorem dX9_makes_6 : decode cX9_makes 6 = .ok (.iload_n 1, 1) := by decide +kernel
theorem dX9_makes_7 : decode cX9_makes 7 = .ok (.iaload, 1) := by decide +kernel
theorem dX9_makes_8 : decode cX9_makes 8 = .ok (.imul, 1) := by decide +kernel
theorem dX9_makes_9 : decode cX9_makes 9 = .ok (.aload_n 0, 1) := by decide +kernel
theorem dX9_makes_10 : decode cX9_makes 10 = .ok (.getfield 100, 3) := by decide +kernel
theorem dX9_makes_13 : decode cX9_makes 13 = .ok (.iload_n 1, 1) := by decide +kernel
theorem dX9_makes_14 : decode cX9_makes 14 = .ok (.iaload, 1) := by decide +kernel
theorem dX9_makes_15 : decode cX9_makes 15 = .ok (.iadd, 1) := by decide +kernel
theorem dX9_makes_16 : decode cX9_makes 16 = .ok (.istore_n 2, 1) := by decide +kernel
theorem dX9_makes_17 : decode cX9_makes 17 = .ok (.aload_n 0, 1) := by decide +kernel
theorem dX9_makes_18 : decode cX9_makes 18 = .ok (.getfield 22, 3) := by decide +kernel
theorem dX9_makes_21 : decode cX9_makes 21 = .ok (.iload_n 2, 1) := by decide +kernel
theorem dX9_makes_22 : decode cX9_makes 22 = .ok (.iaload, 1) := by decide +kernel
theorem dX9_makes_23 : decode cX9_makes 23 = .ok (.istore_n 3, 1) := by decide +kernel
theorem dX9_makes_24 : decode cX9_makes 24 = .ok (.aload_n 0, 1) := by decide +kernel
theorem dX9_makes_25 : decode cX9_makes 25 = .ok (.invokevirtual 184, 3) := by decide +kernel
theorem dX9_makes_28 : decode cX9_makes 28 = .ok (.aload_n 0, 1) := by decide +kernel
theorem dX9_makes_29 : decode cX9_makes 29 = .ok (.getfield 85, 3) := by decide +kernel
theorem dX9_makes_32 : decode cX9_makes 32 = .ok (.aload_n 0, 1) := by decide +kernel
theorem dX9_makes_33 : decode cX9_makes 33 = .ok (.getfield 97, 3) := by decide +kernel
theorem dX9_makes_36 : decode cX9_makes 36 = .ok (.iload_n 1, 1) := by decide +kernel
theorem dX9_makes_37 : decode cX9_makes 37 = .ok (.iaload, 1) := by decide +kernel
theorem dX9_makes_38 : decode cX9_makes 38 = .ok (.aload_n 0, 1) := by decide +kernel
theorem dX9_makes_39 : decode cX9_makes 39 = .ok (.getfield 16, 3) := by decide +kernel
theorem dX9_makes_42 : decode cX9_makes 42 = .ok (.iload_n 2, 1) := by decide +kernel
theorem dX9_makes_43 : decode cX9_makes 43 = .ok (.iaload, 1) := by decide +kernel
theorem dX9_makes_44 : decode cX9_makes 44 = .ok (.iastore, 1) := by decide +kernel
theorem dX9_makes_45 : decode cX9_makes 45 = .ok (.aload_n 0, 1) := by decide +kernel
theorem dX9_makes_46 : decode cX9_makes 46 = .ok (.getfield 103, 3) := by decide +kernel
theorem dX9_makes_49 : decode cX9_makes 49 = .ok (.iload_n 1, 1) := by decide +kernel
theorem dX9_makes_50 : decode cX9_makes 50 = .ok (.iaload, 1) := by decide +kernel
theorem dX9_makes_51 : decode cX9_makes 51 = .ok (.iconst (-1), 1) := by decide +kernel
theorem dX9_makes_52 : decode cX9_makes 52 = .ok (.if_icmp .eq 63, 3) := by decide +kernel
theorem dX9_makes_55 : decode cX9_makes 55 = .ok (.bipush 14, 2) := by decide +kernel
theorem dX9_makes_57 : decode cX9_makes 57 = .ok (.aload_n 0, 1) := by decide +kernel
theorem dX9_makes_58 : decode cX9_makes 58 = .ok (.getfield 103, 3) := by decide +kernel
theorem dX9_makes_61 : decode cX9_makes 61 = .ok (.iload_n 1, 1) := by decide +kernel
theorem dX9_makes_62 : decode cX9_makes 62 = .ok (.iaload, 1) := by decide +kernel
theorem dX9_makes_63 : decode cX9_makes 63 = .ok (.imul, 1) := by decide +kernel
theorem dX9_makes_64 : decode cX9_makes 64 = .ok (.aload_n 0, 1) := by decide +kernel
theorem dX9_makes_65 : decode cX9_makes 65 = .ok (.getfield 106, 3) := by decide +kernel
theorem dX9_makes_68 : decode cX9_makes 68 = .ok (.iload_n 1, 1) := by decide +kernel
theorem dX9_makes_69 : decode cX9_makes 69 = .ok (.iaload, 1) := by decide +kernel
theorem dX9_makes_70 : decode cX9_makes 70 = .ok (.iadd, 1) := by decide +kernel
theorem dX9_makes_71 : decode cX9_makes 71 = .ok (.istore 4, 2) := by decide +kernel
theorem dX9_makes_73 : decode cX9_makes 73 = .ok (.aload_n 0, 1) := by decide +kernel
theorem dX9_makes_74 : decode cX9_makes 74 = .ok (.getfield 85, 3) := by decide +kernel
theorem dX9_makes_77 : decode cX9_makes 77 = .ok (.aload_n 0, 1) := by decide +kernel
theorem dX9_makes_78 : decode cX9_makes 78 = .ok (.getfield 103, 3) := by decide +kernel
theorem dX9_makes_81 : decode cX9_makes 81 = .ok (.iload_n 1, 1) := by decide +kernel
theorem dX9_makes_82 : decode cX9_makes 82 = .ok (.iaload, 1) := by decide +kernel
theorem dX9_makes_83 : decode cX9_makes 83 = .ok (.aload_n 0, 1) := by decide +kernel
theorem dX9_makes_84 : decode cX9_makes 84 = .ok (.getfield 16, 3) := by decide +kernel
theorem dX9_makes_87 : decode cX9_makes 87 = .ok (.iload 4, 2) := by decide +kernel
theorem dX9_makes_89 : decode cX9_makes 89 = .ok (.iaload, 1) := by decide +kernel
theorem dX9_makes_90 : decode cX9_makes 90 = .ok (.iastore, 1) := by decide +kernel
theorem dX9_makes_91 : decode cX9_makes 91 = .ok (.aload_n 0, 1) := by decide +kernel
theorem dX9_makes_92 : decode cX9_makes 92 = .ok (.getfield 88, 3) := by decide +kernel
theorem dX9_makes_95 : decode cX9_makes 95 = .ok (.aload_n 0, 1) := by decide +kernel
theorem dX9_makes_96 : decode cX9_makes 96 = .ok (.getfield 25, 3) := by decide +kernel
theorem dX9_makes_99 : decode cX9_makes 99 = .ok (.iload 4, 2) := by decide +kernel
theorem dX9_makes_101 : decode cX9_makes 101 = .ok (.iaload, 1) := by decide +kernel
theorem dX9_makes_102 : decode cX9_makes 102 = .ok (.aload_n 0, 1) := by decide +kernel
theorem dX9_makes_103 : decode cX9_makes 103 = .ok (.getfield 76, 3) := by decide +kernel
theorem dX9_makes_106 : decode cX9_makes 106 = .ok (.aload_n 0, 1) := by decide +kernel
theorem dX9_makes_107 : decode cX9_makes 107 = .ok (.getfield 25, 3) := by decide +kernel
theorem dX9_makes_110 : decode cX9_makes 110 = .ok (.iload_n 2, 1) := by decide +kernel
theorem dX9_makes_111 : decode cX9_makes 111 = .ok (.iaload, 1) := by decide +kernel
theorem dX9_makes_112 : decode cX9_makes 112 = .ok (.iaload, 1) := by decide +kernel
theorem dX9_makes_113 : decode cX9_makes 113 = .ok (.iastore, 1) := by decide +kernel
theorem dX9_makes_114 : decode cX9_makes 114 = .ok (.return_, 1) := by decide +kernel
theorem dX9_makes_115 : decode cX9_makes 115 = .ok (.aload_n 0, 1) := by decide +kernel
theorem dX9_makes_116 : decode cX9_makes 116 = .ok (.getfield 19, 3) := by decide +kernel
theorem dX9_makes_119 : decode cX9_makes 119 = .ok (.iload_n 2, 1) := by decide +kernel
theorem dX9_makes_120 : decode cX9_makes 120 = .ok (.iaload, 1) := by decide +kernel
theorem dX9_makes_121 : decode cX9_makes 121 = .ok (.bipush 115, 2) := by decide +kernel
theorem dX9_makes_123 : decode cX9_makes 123 = .ok (.if_icmp .ne 15, 3) := by decide +kernel
theorem dX9_makes_126 : decode cX9_makes 126 = .ok (.aload_n 0, 1) := by decide +kernel
theorem dX9_makes_127 : decode cX9_makes 127 = .ok (.getfield 88, 3) := by decide +kernel
theorem dX9_makes_130 : decode cX9_makes 130 = .ok (.iload_n 3, 1) := by decide +kernel
theorem dX9_makes_131 : decode cX9_makes 131 = .ok (.aload_n 0, 1) := by decide +kernel
theorem dX9_makes_132 : decode cX9_makes 132 = .ok (.getfield 25, 3) := by decide +kernel
theorem dX9_makes_135 : decode cX9_makes 135 = .ok (.iload_n 2, 1) := by decide +kernel
theorem dX9_makes_136 : decode cX9_makes 136 = .ok (.iaload, 1) := by decide +kernel
theorem dX9_makes_137 : decode cX9_makes 137 = .ok (.iastore, 1) := by decide +kernel
theorem dX9_makes_138 : decode cX9_makes 138 = .ok (.aload_n 0, 1) := by decide +kernel
theorem dX9_makes_139 : decode cX9_makes 139 = .ok (.getfield 19, 3) := by decide +kernel
theorem dX9_makes_142 : decode cX9_makes 142 = .ok (.iload_n 2, 1) := by decide +kernel
theorem dX9_makes_143 : decode cX9_makes 143 = .ok (.iaload, 1) := by decide +kernel
theorem dX9_makes_144 : decode cX9_makes 144 = .ok (.bipush 105, 2) := by decide +kernel
theorem dX9_makes_146 : decode cX9_makes 146 = .ok (.if_icmp .ne 24, 3) := by decide +kernel
theorem dX9_makes_149 : decode cX9_makes 149 = .ok (.aload_n 0, 1) := by decide +kernel
theorem dX9_makes_150 : decode cX9_makes 150 = .ok (.getfield 88, 3) := by decide +kernel
theorem dX9_makes_153 : decode cX9_makes 153 = .ok (.iload_n 3, 1) := by decide +kernel
theorem dX9_makes_154 : decode cX9_makes 154 = .ok (.aload_n 0, 1) := by decide +kernel
theorem dX9_makes_155 : decode cX9_makes 155 = .ok (.getfield 76, 3) := by decide +kernel
theorem dX9_makes_158 : decode cX9_makes 158 = .ok (.iload_n 3, 1) := by decide +kernel
theorem dX9_makes_159 : decode cX9_makes 159 = .ok (.iaload, 1) := by decide +kernel
theorem dX9_makes_160 : decode cX9_makes 160 = .ok (.aload_n 0, 1) := by decide +kernel
theorem dX9_makes_161 : decode cX9_makes 161 = .ok (.getfield 25, 3) := by decide +kernel
theorem dX9_makes_164 : decode cX9_makes 164 = .ok (.iload_n 2, 1) := by decide +kernel
theorem dX9_makes_165 : decode cX9_makes 165 = .ok (.iaload, 1) := by decide +kernel
theorem dX9_makes_166 : decode cX9_makes 166 = .ok (.iadd, 1) := by decide +kernel
theorem dX9_makes_167 : decode cX9_makes 167 = .ok (.iconst 4, 1) := by decide +kernel
theorem dX9_makes_168 : decode cX9_makes 168 = .ok (.irem, 1) := by decide +kernel
theorem dX9_makes_169 : decode cX9_makes 169 = .ok (.iastore, 1) := by decide +kernel
theorem dX9_makes_170 : decode cX9_makes 170 = .ok (.aload_n 0, 1) := by decide +kernel
theorem dX9_makes_171 : decode cX9_makes 171 = .ok (.getfield 19, 3) := by decide +kernel
theorem dX9_makes_174 : decode cX9_makes 174 = .ok (.iload_n 2, 1) := by decide +kernel
theorem dX9_makes_175 : decode cX9_makes 175 = .ok (.iaload, 1) := by decide +kernel
theorem dX9_makes_176 : decode cX9_makes 176 = .ok (.bipush 119, 2) := by decide +kernel
theorem dX9_makes_178 : decode cX9_makes 178 = .ok (.if_icmp .ne 39, 3) := by decide +kernel
theorem dX9_makes_181 : decode cX9_makes 181 = .ok (.aload_n 0, 1) := by decide +kernel
theorem dX9_makes_182 : decode cX9_makes 182 = .ok (.getfield 94, 3) := by decide +kernel
theorem dX9_makes_185 : decode cX9_makes 185 = .ok (.iconst 2, 1) := by decide +kernel
theorem dX9_makes_186 : decode cX9_makes 186 = .ok (.iload_n 3, 1) := by decide +kernel
theorem dX9_makes_187 : decode cX9_makes 187 = .ok (.imul, 1) := by decide +kernel
theorem dX9_makes_188 : decode cX9_makes 188 = .ok (.aload_n 0, 1) := by decide +kernel
theorem dX9_makes_189 : decode cX9_makes 189 = .ok (.getfield 79, 3) := by decide +kernel
theorem dX9_makes_192 : decode cX9_makes 192 = .ok (.iload_n 3, 1) := by decide +kernel
theorem dX9_makes_193 : decode cX9_makes 193 = .ok (.iaload, 1) := by decide +kernel
theorem dX9_makes_194 : decode cX9_makes 194 = .ok (.iadd, 1) := by decide +kernel
theorem dX9_makes_195 : decode cX9_makes 195 = .ok (.aload_n 0, 1) := by decide +kernel
theorem dX9_makes_196 : decode cX9_makes 196 = .ok (.getfield 76, 3) := by decide +kernel
theorem dX9_makes_199 : decode cX9_makes 199 = .ok (.aload_n 0, 1) := by decide +kernel
theorem dX9_makes_200 : decode cX9_makes 200 = .ok (.getfield 25, 3) := by decide +kernel
theorem dX9_makes_203 : decode cX9_makes 203 = .ok (.iload_n 2, 1) := by decide +kernel
theorem dX9_makes_204 : decode cX9_makes 204 = .ok (.iaload, 1) := by decide +kernel
theorem dX9_makes_205 : decode cX9_makes 205 = .ok (.iaload, 1) := by decide +kernel
theorem dX9_makes_206 : decode cX9_makes 206 = .ok (.iastore, 1) := by decide +kernel
theorem dX9_makes_207 : decode cX9_makes 207 = .ok (.aload_n 0, 1) := by decide +kernel
theorem dX9_makes_208 : decode cX9_makes 208 = .ok (.getfield 91, 3) := by decide +kernel
theorem dX9_makes_211 : decode cX9_makes 211 = .ok (.iload_n 3, 1) := by decide +kernel
theorem dX9_makes_212 : decode cX9_makes 212 = .ok (.dup2, 1) := by decide +kernel
theorem dX9_makes_213 : decode cX9_makes 213 = .ok (.iaload, 1) := by decide +kernel
theorem dX9_makes_214 : decode cX9_makes 214 = .ok (.iconst 1, 1) := by decide +kernel
theorem dX9_makes_215 : decode cX9_makes 215 = .ok (.iadd, 1) := by decide +kernel
theorem dX9_makes_216 : decode cX9_makes 216 = .ok (.iastore, 1) := by decide +kernel
theorem dX9_makes_217 : decode cX9_makes 217 = .ok (.aload_n 0, 1) := by decide +kernel
theorem dX9_makes_218 : decode cX9_makes 218 = .ok (.getfield 19, 3) := by decide +kernel
theorem dX9_makes_221 : decode cX9_makes 221 = .ok (.iload_n 2, 1) := by decide +kernel
theorem dX9_makes_222 : decode cX9_makes 222 = .ok (.iaload, 1) := by decide +kernel
theorem dX9_makes_223 : decode cX9_makes 223 = .ok (.bipush 114, 2) := by decide +kernel
theorem dX9_makes_225 : decode cX9_makes 225 = .ok (.if_icmp .ne 61, 3) := by decide +kernel
theorem dX9_makes_228 : decode cX9_makes 228 = .ok (.aload_n 0, 1) := by decide +kernel
theorem dX9_makes_229 : decode cX9_makes 229 = .ok (.getfield 88, 3) := by decide +kernel
theorem dX9_makes_232 : decode cX9_makes 232 = .ok (.aload_n 0, 1) := by decide +kernel
theorem dX9_makes_233 : decode cX9_makes 233 = .ok (.getfield 25, 3) := by decide +kernel
theorem dX9_makes_236 : decode cX9_makes 236 = .ok (.iload_n 2, 1) := by decide +kernel
theorem dX9_makes_237 : decode cX9_makes 237 = .ok (.iaload, 1) := by decide +kernel
theorem dX9_makes_238 : decode cX9_makes 238 = .ok (.aload_n 0, 1) := by decide +kernel
theorem dX9_makes_239 : decode cX9_makes 239 = .ok (.getfield 82, 3) := by decide +kernel
theorem dX9_makes_242 : decode cX9_makes 242 = .ok (.iconst 2, 1) := by decide +kernel
theorem dX9_makes_243 : decode cX9_makes 243 = .ok (.iload_n 3, 1) := by decide +kernel
theorem dX9_makes_244 : decode cX9_makes 244 = .ok (.imul, 1) := by decide +kernel
theorem dX9_makes_245 : decode cX9_makes 245 = .ok (.iaload, 1) := by decide +kernel
theorem dX9_makes_246 : decode cX9_makes 246 = .ok (.iastore, 1) := by decide +kernel
theorem dX9_makes_247 : decode cX9_makes 247 = .ok (.aload_n 0, 1) := by decide +kernel
theorem dX9_makes_248 : decode cX9_makes 248 = .ok (.getfield 94, 3) := by decide +kernel
theorem dX9_makes_251 : decode cX9_makes 251 = .ok (.iconst 2, 1) := by decide +kernel
theorem dX9_makes_252 : decode cX9_makes 252 = .ok (.iload_n 3, 1) := by decide +kernel
theorem dX9_makes_253 : decode cX9_makes 253 = .ok (.imul, 1) := by decide +kernel
theorem dX9_makes_254 : decode cX9_makes 254 = .ok (.aload_n 0, 1) := by decide +kernel
theorem dX9_makes_255 : decode cX9_makes 255 = .ok (.getfield 82, 3) := by decide +kernel
theorem dX9_makes_258 : decode cX9_makes 258 = .ok (.iconst 2, 1) := by decide +kernel
theorem dX9_makes_259 : decode cX9_makes 259 = .ok (.iload_n 3, 1) := by decide +kernel
theorem dX9_makes_260 : decode cX9_makes 260 = .ok (.imul, 1) := by decide +kernel
theorem dX9_makes_261 : decode cX9_makes 261 = .ok (.iconst 1, 1) := by decide +kernel
theorem dX9_makes_262 : decode cX9_makes 262 = .ok (.iadd, 1) := by decide +kernel
theorem dX9_makes_263 : decode cX9_makes 263 = .ok (.iaload, 1) := by decide +kernel
theorem dX9_makes_264 : decode cX9_makes 264 = .ok (.iastore, 1) := by decide +kernel
theorem dX9_makes_265 : decode cX9_makes 265 = .ok (.aload_n 0, 1) := by decide +kernel
theorem dX9_makes_266 : decode cX9_makes 266 = .ok (.getfield 94, 3) := by decide +kernel
theorem dX9_makes_269 : decode cX9_makes 269 = .ok (.iconst 2, 1) := by decide +kernel
theorem dX9_makes_270 : decode cX9_makes 270 = .ok (.iload_n 3, 1) := by decide +kernel
theorem dX9_makes_271 : decode cX9_makes 271 = .ok (.imul, 1) := by decide +kernel
theorem dX9_makes_272 : decode cX9_makes 272 = .ok (.iconst 1, 1) := by decide +kernel
theorem dX9_makes_273 : decode cX9_makes 273 = .ok (.iadd, 1) := by decide +kernel
theorem dX9_makes_274 : decode cX9_makes 274 = .ok (.iconst 0, 1) := by decide +kernel
theorem dX9_makes_275 : decode cX9_makes 275 = .ok (.iastore, 1) := by decide +kernel
theorem dX9_makes_276 : decode cX9_makes 276 = .ok (.aload_n 0, 1) := by decide +kernel
theorem dX9_makes_277 : decode cX9_makes 277 = .ok (.getfield 91, 3) := by decide +kernel
theorem dX9_makes_280 : decode cX9_makes 280 = .ok (.iload_n 3, 1) := by decide +kernel
theorem dX9_makes_281 : decode cX9_makes 281 = .ok (.dup2, 1) := by decide +kernel
theorem dX9_makes_282 : decode cX9_makes 282 = .ok (.iaload, 1) := by decide +kernel
theorem dX9_makes_283 : decode cX9_makes 283 = .ok (.iconst 1, 1) := by decide +kernel
theorem dX9_makes_284 : decode cX9_makes 284 = .ok (.isub, 1) := by decide +kernel
theorem dX9_makes_285 : decode cX9_makes 285 = .ok (.iastore, 1) := by decide +kernel
theorem dX9_makes_286 : decode cX9_makes 286 = .ok (.return_, 1) := by decide +kernel
theorem dX9_asserts_0 : decode cX9_asserts 0 = .ok (.bipush 14, 2) := by decide +kernel
theorem dX9_asserts_2 : decode cX9_asserts 2 = .ok (.aload_n 0, 1) := by decide +kernel
theorem dX9_asserts_3 : decode cX9_asserts 3 = .ok (.getfield 97, 3) := by decide +kernel
theorem dX9_asserts_6 : decode cX9_asserts 6 = .ok (.iload_n 1, 1) := by decide +kernel
theorem dX9_asserts_7 : decode cX9_asserts 7 = .ok (.iaload, 1) := by decide +kernel
theorem dX9_asserts_8 : decode cX9_asserts 8 = .ok (.imul, 1) := by decide +kernel
theorem dX9_asserts_9 : decode cX9_asserts 9 = .ok (.aload_n 0, 1) := by decide +kernel
theorem dX9_asserts_10 : decode cX9_asserts 10 = .ok (.getfield 100, 3) := by decide +kernel
theorem dX9_asserts_13 : decode cX9_asserts 13 = .ok (.iload_n 1, 1) := by decide +kernel
theorem dX9_asserts_14 : decode cX9_asserts 14 = .ok (.iaload, 1) := by decide +kernel
theorem dX9_asserts_15 : decode cX9_asserts 15 = .ok (.iadd, 1) := by decide +kernel
theorem dX9_asserts_16 : decode cX9_asserts 16 = .ok (.istore_n 2, 1) := by decide +kernel
theorem dX9_asserts_17 : decode cX9_asserts 17 = .ok (.aload_n 0, 1) := by decide +kernel
theorem dX9_asserts_18 : decode cX9_asserts 18 = .ok (.getfield 19, 3) := by decide +kernel
theorem dX9_asserts_21 : decode cX9_asserts 21 = .ok (.iload_n 2, 1) := by decide +kernel
theorem dX9_asserts_22 : decode cX9_asserts 22 = .ok (.iaload, 1) := by decide +kernel
theorem dX9_asserts_23 : decode cX9_asserts 23 = .ok (.bipush 97, 2) := by decide +kernel
theorem dX9_asserts_25 : decode cX9_asserts 25 = .ok (.if_icmp .ne 27, 3) := by decide +kernel
theorem dX9_asserts_28 : decode cX9_asserts 28 = .ok (.aload_n 0, 1) := by decide +kernel
theorem dX9_asserts_29 : decode cX9_asserts 29 = .ok (.getfield 76, 3) := by decide +kernel
theorem dX9_asserts_32 : decode cX9_asserts 32 = .ok (.aload_n 0, 1) := by decide +kernel
theorem dX9_asserts_33 : decode cX9_asserts 33 = .ok (.getfield 22, 3) := by decide +kernel
theorem dX9_asserts_36 : decode cX9_asserts 36 = .ok (.iload_n 2, 1) := by decide +kernel
theorem dX9_asserts_37 : decode cX9_asserts 37 = .ok (.iaload, 1) := by decide +kernel
theorem dX9_asserts_38 : decode cX9_asserts 38 = .ok (.iaload, 1) := by decide +kernel
theorem dX9_asserts_39 : decode cX9_asserts 39 = .ok (.aload_n 0, 1) := by decide +kernel
theorem dX9_asserts_40 : decode cX9_asserts 40 = .ok (.getfield 25, 3) := by decide +kernel
theorem dX9_asserts_43 : decode cX9_asserts 43 = .ok (.iload_n 2, 1) := by decide +kernel
theorem dX9_asserts_44 : decode cX9_asserts 44 = .ok (.iaload, 1) := by decide +kernel
theorem dX9_asserts_45 : decode cX9_asserts 45 = .ok (.if_icmp .ne 7, 3) := by decide +kernel
theorem dX9_asserts_48 : decode cX9_asserts 48 = .ok (.iconst 1, 1) := by decide +kernel
theorem dX9_asserts_49 : decode cX9_asserts 49 = .ok (.goto 4, 3) := by decide +kernel
theorem dX9_asserts_52 : decode cX9_asserts 52 = .ok (.iconst 0, 1) := by decide +kernel
theorem dX9_asserts_53 : decode cX9_asserts 53 = .ok (.ireturn, 1) := by decide +kernel
theorem dX9_swapped_0 : decode cX9_swapped 0 = .ok (.iload_n 0, 1) := by decide +kernel
theorem dX9_swapped_1 : decode cX9_swapped 1 = .ok (.iconst 3, 1) := by decide +kernel
theorem dX9_swapped_2 : decode cX9_swapped 2 = .ok (.if_icmp .ge 7, 3) := by decide +kernel
theorem dX9_swapped_5 : decode cX9_swapped 5 = .ok (.iload_n 0, 1) := by decide +kernel
theorem dX9_swapped_6 : decode cX9_swapped 6 = .ok (.goto 16, 3) := by decide +kernel
theorem dX9_swapped_9 : decode cX9_swapped 9 = .ok (.iload_n 0, 1) := by decide +kernel
theorem dX9_swapped_10 : decode cX9_swapped 10 = .ok (.iconst 3, 1) := by decide +kernel
theorem dX9_swapped_11 : decode cX9_swapped 11 = .ok (.isub, 1) := by decide +kernel
theorem dX9_swapped_12 : decode cX9_swapped 12 = .ok (.iconst 2, 1) := by decide +kernel
theorem dX9_swapped_13 : decode cX9_swapped 13 = .ok (.iload_n 1, 1) := by decide +kernel
theorem dX9_swapped_14 : decode cX9_swapped 14 = .ok (.imul, 1) := by decide +kernel
theorem dX9_swapped_15 : decode cX9_swapped 15 = .ok (.isub, 1) := by decide +kernel
theorem dX9_swapped_16 : decode cX9_swapped 16 = .ok (.iconst 3, 1) := by decide +kernel
theorem dX9_swapped_17 : decode cX9_swapped 17 = .ok (.iadd, 1) := by decide +kernel
theorem dX9_swapped_18 : decode cX9_swapped 18 = .ok (.iconst 2, 1) := by decide +kernel
theorem dX9_swapped_19 : decode cX9_swapped 19 = .ok (.iload_n 2, 1) := by decide +kernel
theorem dX9_swapped_20 : decode cX9_swapped 20 = .ok (.imul, 1) := by decide +kernel
theorem dX9_swapped_21 : decode cX9_swapped 21 = .ok (.iadd, 1) := by decide +kernel
theorem dX9_swapped_22 : decode cX9_swapped 22 = .ok (.ireturn, 1) := by decide +kernel
theorem dX9_isLikeStep_0 : decode cX9_isLikeStep 0 = .ok (.bipush 14, 2) := by decide +kernel
theorem dX9_isLikeStep_2 : decode cX9_isLikeStep 2 = .ok (.iload_n 1, 1) := by decide +kernel
theorem dX9_isLikeStep_3 : decode cX9_isLikeStep 3 = .ok (.imul, 1) := by decide +kernel
theorem dX9_isLikeStep_4 : decode cX9_isLikeStep 4 = .ok (.iload_n 3, 1) := by decide +kernel
theorem dX9_isLikeStep_5 : decode cX9_isLikeStep 5 = .ok (.iadd, 1) := by decide +kernel
theorem dX9_isLikeStep_6 : decode cX9_isLikeStep 6 = .ok (.istore 4, 2) := by decide +kernel
theorem dX9_isLikeStep_8 : decode cX9_isLikeStep 8 = .ok (.bipush 14, 2) := by decide +kernel
theorem dX9_isLikeStep_10 : decode cX9_isLikeStep 10 = .ok (.iload_n 2, 1) := by decide +kernel
theorem dX9_isLikeStep_11 : decode cX9_isLikeStep 11 = .ok (.imul, 1) := by decide +kernel
theorem dX9_isLikeStep_12 : decode cX9_isLikeStep 12 = .ok (.iload_n 3, 1) := by decide +kernel
theorem dX9_isLikeStep_13 : decode cX9_isLikeStep 13 = .ok (.iadd, 1) := by decide +kernel
theorem dX9_isLikeStep_14 : decode cX9_isLikeStep 14 = .ok (.istore 5, 2) := by decide +kernel
theorem dX9_isLikeStep_16 : decode cX9_isLikeStep 16 = .ok (.aload_n 0, 1) := by decide +kernel
theorem dX9_isLikeStep_17 : decode cX9_isLikeStep 17 = .ok (.getfield 13, 3) := by decide +kernel
theorem dX9_isLikeStep_20 : decode cX9_isLikeStep 20 = .ok (.iload 4, 2) := by decide +kernel
theorem dX9_isLikeStep_22 : decode cX9_isLikeStep 22 = .ok (.iaload, 1) := by decide +kernel
theorem dX9_isLikeStep_23 : decode cX9_isLikeStep 23 = .ok (.aload_n 0, 1) := by decide +kernel
theorem dX9_isLikeStep_24 : decode cX9_isLikeStep 24 = .ok (.getfield 13, 3) := by decide +kernel
theorem dX9_isLikeStep_27 : decode cX9_isLikeStep 27 = .ok (.iload 5, 2) := by decide +kernel
theorem dX9_isLikeStep_29 : decode cX9_isLikeStep 29 = .ok (.iaload, 1) := by decide +kernel
theorem dX9_isLikeStep_30 : decode cX9_isLikeStep 30 = .ok (.if_icmp .ne 41, 3) := by decide +kernel
theorem dX9_isLikeStep_33 : decode cX9_isLikeStep 33 = .ok (.aload_n 0, 1) := by decide +kernel
theorem dX9_isLikeStep_34 : decode cX9_isLikeStep 34 = .ok (.getfield 16, 3) := by decide +kernel
theorem dX9_isLikeStep_37 : decode cX9_isLikeStep 37 = .ok (.iload 4, 2) := by decide +kernel
theorem dX9_isLikeStep_39 : decode cX9_isLikeStep 39 = .ok (.iaload, 1) := by decide +kernel
theorem dX9_isLikeStep_40 : decode cX9_isLikeStep 40 = .ok (.aload_n 0, 1) := by decide +kernel
theorem dX9_isLikeStep_41 : decode cX9_isLikeStep 41 = .ok (.getfield 16, 3) := by decide +kernel
theorem dX9_isLikeStep_44 : decode cX9_isLikeStep 44 = .ok (.iload 5, 2) := by decide +kernel
theorem dX9_isLikeStep_46 : decode cX9_isLikeStep 46 = .ok (.iaload, 1) := by decide +kernel
theorem dX9_isLikeStep_47 : decode cX9_isLikeStep 47 = .ok (.if_icmp .ne 24, 3) := by decide +kernel
theorem dX9_isLikeStep_50 : decode cX9_isLikeStep 50 = .ok (.aload_n 0, 1) := by decide +kernel
theorem dX9_isLikeStep_51 : decode cX9_isLikeStep 51 = .ok (.getfield 19, 3) := by decide +kernel
theorem dX9_isLikeStep_54 : decode cX9_isLikeStep 54 = .ok (.iload 4, 2) := by decide +kernel
theorem dX9_isLikeStep_56 : decode cX9_isLikeStep 56 = .ok (.iaload, 1) := by decide +kernel
theorem dX9_isLikeStep_57 : decode cX9_isLikeStep 57 = .ok (.aload_n 0, 1) := by decide +kernel
theorem dX9_isLikeStep_58 : decode cX9_isLikeStep 58 = .ok (.getfield 19, 3) := by decide +kernel
theorem dX9_isLikeStep_61 : decode cX9_isLikeStep 61 = .ok (.iload 5, 2) := by decide +kernel
theorem dX9_isLikeStep_63 : decode cX9_isLikeStep 63 = .ok (.iaload, 1) := by decide +kernel
theorem dX9_isLikeStep_64 : decode cX9_isLikeStep 64 = .ok (.if_icmp .ne 7, 3) := by decide +kernel
theorem dX9_isLikeStep_67 : decode cX9_isLikeStep 67 = .ok (.iconst 1, 1) := by decide +kernel
theorem dX9_isLikeStep_68 : decode cX9_isLikeStep 68 = .ok (.goto 4, 3) := by decide +kernel
theorem dX9_isLikeStep_71 : decode cX9_isLikeStep 71 = .ok (.iconst 0, 1) := by decide +kernel
theorem dX9_isLikeStep_72 : decode cX9_isLikeStep 72 = .ok (.istore 6, 2) := by decide +kernel
theorem dX9_isLikeStep_74 : decode cX9_isLikeStep 74 = .ok (.iload 6, 2) := by decide +kernel
theorem dX9_isLikeStep_76 : decode cX9_isLikeStep 76 = .ok (.ifCond .ne 5, 3) := by decide +kernel
theorem dX9_isLikeStep_79 : decode cX9_isLikeStep 79 = .ok (.iconst 0, 1) := by decide +kernel
theorem dX9_isLikeStep_80 : decode cX9_isLikeStep 80 = .ok (.ireturn, 1) := by decide +kernel
theorem dX9_isLikeStep_81 : decode cX9_isLikeStep 81 = .ok (.aload_n 0, 1) := by decide +kernel
theorem dX9_isLikeStep_82 : decode cX9_isLikeStep 82 = .ok (.getfield 19, 3) := by decide +kernel
theorem dX9_isLikeStep_85 : decode cX9_isLikeStep 85 = .ok (.iload 4, 2) := by decide +kernel
theorem dX9_isLikeStep_87 : decode cX9_isLikeStep 87 = .ok (.iaload, 1) := by decide +kernel
theorem dX9_isLikeStep_88 : decode cX9_isLikeStep 88 = .ok (.bipush 107, 2) := by decide +kernel
theorem dX9_isLikeStep_90 : decode cX9_isLikeStep 90 = .ok (.if_icmp .ne 5, 3) := by decide +kernel
theorem dX9_isLikeStep_93 : decode cX9_isLikeStep 93 = .ok (.iconst 1, 1) := by decide +kernel
theorem dX9_isLikeStep_94 : decode cX9_isLikeStep 94 = .ok (.ireturn, 1) := by decide +kernel
theorem dX9_isLikeStep_95 : decode cX9_isLikeStep 95 = .ok (.aload_n 0, 1) := by decide +kernel
theorem dX9_isLikeStep_96 : decode cX9_isLikeStep 96 = .ok (.getfield 19, 3) := by decide +kernel
theorem dX9_isLikeStep_99 : decode cX9_isLikeStep 99 = .ok (.iload 4, 2) := by decide +kernel
theorem dX9_isLikeStep_101 : decode cX9_isLikeStep 101 = .ok (.iaload, 1) := by decide +kernel
theorem dX9_isLikeStep_102 : decode cX9_isLikeStep 102 = .ok (.bipush 119, 2) := by decide +kernel
theorem dX9_isLikeStep_104 : decode cX9_isLikeStep 104 = .ok (.if_icmp .eq 15, 3) := by decide +kernel
theorem dX9_isLikeStep_107 : decode cX9_isLikeStep 107 = .ok (.aload_n 0, 1) := by decide +kernel
theorem dX9_isLikeStep_108 : decode cX9_isLikeStep 108 = .ok (.getfield 19, 3) := by decide +kernel
theorem dX9_isLikeStep_111 : decode cX9_isLikeStep 111 = .ok (.iload 4, 2) := by decide +kernel
theorem dX9_isLikeStep_113 : decode cX9_isLikeStep 113 = .ok (.iaload, 1) := by decide +kernel
theorem dX9_isLikeStep_114 : decode cX9_isLikeStep 114 = .ok (.bipush 114, 2) := by decide +kernel
theorem dX9_isLikeStep_116 : decode cX9_isLikeStep 116 = .ok (.if_icmp .ne 48, 3) := by decide +kernel
theorem dX9_isLikeStep_119 : decode cX9_isLikeStep 119 = .ok (.aload_n 0, 1) := by decide +kernel
theorem dX9_isLikeStep_120 : decode cX9_isLikeStep 120 = .ok (.getfield 22, 3) := by decide +kernel
theorem dX9_isLikeStep_123 : decode cX9_isLikeStep 123 = .ok (.iload 4, 2) := by decide +kernel
theorem dX9_isLikeStep_125 : decode cX9_isLikeStep 125 = .ok (.iaload, 1) := by decide +kernel
theorem dX9_isLikeStep_126 : decode cX9_isLikeStep 126 = .ok (.aload_n 0, 1) := by decide +kernel
theorem dX9_isLikeStep_127 : decode cX9_isLikeStep 127 = .ok (.getfield 22, 3) := by decide +kernel
theorem dX9_isLikeStep_130 : decode cX9_isLikeStep 130 = .ok (.iload 5, 2) := by decide +kernel
theorem dX9_isLikeStep_132 : decode cX9_isLikeStep 132 = .ok (.iaload, 1) := by decide +kernel
theorem dX9_isLikeStep_133 : decode cX9_isLikeStep 133 = .ok (.if_icmp .ne 29, 3) := by decide +kernel
theorem dX9_isLikeStep_136 : decode cX9_isLikeStep 136 = .ok (.aload_n 0, 1) := by decide +kernel
theorem dX9_isLikeStep_137 : decode cX9_isLikeStep 137 = .ok (.getfield 25, 3) := by decide +kernel
theorem dX9_isLikeStep_140 : decode cX9_isLikeStep 140 = .ok (.iload 4, 2) := by decide +kernel
theorem dX9_isLikeStep_142 : decode cX9_isLikeStep 142 = .ok (.iaload, 1) := by decide +kernel
theorem dX9_isLikeStep_143 : decode cX9_isLikeStep 143 = .ok (.iload_n 1, 1) := by decide +kernel
theorem dX9_isLikeStep_144 : decode cX9_isLikeStep 144 = .ok (.iload_n 2, 1) := by decide +kernel
theorem dX9_isLikeStep_145 : decode cX9_isLikeStep 145 = .ok (.invokestatic 187, 3) := by decide +kernel
theorem dX9_isLikeStep_148 : decode cX9_isLikeStep 148 = .ok (.aload_n 0, 1) := by decide +kernel
theorem dX9_isLikeStep_149 : decode cX9_isLikeStep 149 = .ok (.getfield 25, 3) := by decide +kernel
theorem dX9_isLikeStep_152 : decode cX9_isLikeStep 152 = .ok (.iload 5, 2) := by decide +kernel
theorem dX9_isLikeStep_154 : decode cX9_isLikeStep 154 = .ok (.iaload, 1) := by decide +kernel
theorem dX9_isLikeStep_155 : decode cX9_isLikeStep 155 = .ok (.if_icmp .ne 7, 3) := by decide +kernel
theorem dX9_isLikeStep_158 : decode cX9_isLikeStep 158 = .ok (.iconst 1, 1) := by decide +kernel
theorem dX9_isLikeStep_159 : decode cX9_isLikeStep 159 = .ok (.goto 4, 3) := by decide +kernel
theorem dX9_isLikeStep_162 : decode cX9_isLikeStep 162 = .ok (.iconst 0, 1) := by decide +kernel
theorem dX9_isLikeStep_163 : decode cX9_isLikeStep 163 = .ok (.ireturn, 1) := by decide +kernel
theorem dX9_isLikeStep_164 : decode cX9_isLikeStep 164 = .ok (.aload_n 0, 1) := by decide +kernel
theorem dX9_isLikeStep_165 : decode cX9_isLikeStep 165 = .ok (.getfield 22, 3) := by decide +kernel
theorem dX9_isLikeStep_168 : decode cX9_isLikeStep 168 = .ok (.iload 4, 2) := by decide +kernel
theorem dX9_isLikeStep_170 : decode cX9_isLikeStep 170 = .ok (.iaload, 1) := by decide +kernel
theorem dX9_isLikeStep_171 : decode cX9_isLikeStep 171 = .ok (.iload_n 1, 1) := by decide +kernel
theorem dX9_isLikeStep_172 : decode cX9_isLikeStep 172 = .ok (.iload_n 2, 1) := by decide +kernel
theorem dX9_isLikeStep_173 : decode cX9_isLikeStep 173 = .ok (.invokestatic 187, 3) := by decide +kernel
theorem dX9_isLikeStep_176 : decode cX9_isLikeStep 176 = .ok (.aload_n 0, 1) := by decide +kernel
theorem dX9_isLikeStep_177 : decode cX9_isLikeStep 177 = .ok (.getfield 22, 3) := by decide +kernel
theorem dX9_isLikeStep_180 : decode cX9_isLikeStep 180 = .ok (.iload 5, 2) := by decide +kernel
theorem dX9_isLikeStep_182 : decode cX9_isLikeStep 182 = .ok (.iaload, 1) := by decide +kernel
theorem dX9_isLikeStep_183 : decode cX9_isLikeStep 183 = .ok (.if_icmp .ne 24, 3) := by decide +kernel
theorem dX9_isLikeStep_186 : decode cX9_isLikeStep 186 = .ok (.aload_n 0, 1) := by decide +kernel
theorem dX9_isLikeStep_187 : decode cX9_isLikeStep 187 = .ok (.getfield 25, 3) := by decide +kernel
theorem dX9_isLikeStep_190 : decode cX9_isLikeStep 190 = .ok (.iload 4, 2) := by decide +kernel
theorem dX9_isLikeStep_192 : decode cX9_isLikeStep 192 = .ok (.iaload, 1) := by decide +kernel
theorem dX9_isLikeStep_193 : decode cX9_isLikeStep 193 = .ok (.aload_n 0, 1) := by decide +kernel
theorem dX9_isLikeStep_194 : decode cX9_isLikeStep 194 = .ok (.getfield 25, 3) := by decide +kernel
theorem dX9_isLikeStep_197 : decode cX9_isLikeStep 197 = .ok (.iload 5, 2) := by decide +kernel
theorem dX9_isLikeStep_199 : decode cX9_isLikeStep 199 = .ok (.iaload, 1) := by decide +kernel
theorem dX9_isLikeStep_200 : decode cX9_isLikeStep 200 = .ok (.if_icmp .ne 7, 3) := by decide +kernel
theorem dX9_isLikeStep_203 : decode cX9_isLikeStep 203 = .ok (.iconst 1, 1) := by decide +kernel
theorem dX9_isLikeStep_204 : decode cX9_isLikeStep 204 = .ok (.goto 4, 3) := by decide +kernel
theorem dX9_isLikeStep_207 : decode cX9_isLikeStep 207 = .ok (.iconst 0, 1) := by decide +kernel
theorem dX9_isLikeStep_208 : decode cX9_isLikeStep 208 = .ok (.ireturn, 1) := by decide +kernel
theorem dX9_areLike_0 : decode cX9_areLike 0 = .ok (.aload_n 0, 1) := by decide +kernel
theorem dX9_areLike_1 : decode cX9_areLike 1 = .ok (.getfield 7, 3) := by decide +kernel
theorem dX9_areLike_4 : decode cX9_areLike 4 = .ok (.iload_n 1, 1) := by decide +kernel
theorem dX9_areLike_5 : decode cX9_areLike 5 = .ok (.iaload, 1) := by decide +kernel
theorem dX9_areLike_6 : decode cX9_areLike 6 = .ok (.aload_n 0, 1) := by decide +kernel
theorem dX9_areLike_7 : decode cX9_areLike 7 = .ok (.getfield 7, 3) := by decide +kernel
theorem dX9_areLike_10 : decode cX9_areLike 10 = .ok (.iload_n 2, 1) := by decide +kernel
theorem dX9_areLike_11 : decode cX9_areLike 11 = .ok (.iaload, 1) := by decide +kernel
theorem dX9_areLike_12 : decode cX9_areLike 12 = .ok (.if_icmp .eq 5, 3) := by decide +kernel
theorem dX9_areLike_15 : decode cX9_areLike 15 = .ok (.iconst 0, 1) := by decide +kernel
theorem dX9_areLike_16 : decode cX9_areLike 16 = .ok (.ireturn, 1) := by decide +kernel
theorem dX9_areLike_17 : decode cX9_areLike 17 = .ok (.iconst 0, 1) := by decide +kernel
theorem dX9_areLike_18 : decode cX9_areLike 18 = .ok (.istore_n 3, 1) := by decide +kernel
theorem dX9_areLike_19 : decode cX9_areLike 19 = .ok (.iload_n 3, 1) := by decide +kernel
theorem dX9_areLike_20 : decode cX9_areLike 20 = .ok (.aload_n 0, 1) := by decide +kernel
theorem dX9_areLike_21 : decode cX9_areLike 21 = .ok (.getfield 7, 3) := by decide +kernel
theorem dX9_areLike_24 : decode cX9_areLike 24 = .ok (.iload_n 1, 1) := by decide +kernel
theorem dX9_areLike_25 : decode cX9_areLike 25 = .ok (.iaload, 1) := by decide +kernel
theorem dX9_areLike_26 : decode cX9_areLike 26 = .ok (.if_icmp .ge 21, 3) := by decide +kernel
theorem dX9_areLike_29 : decode cX9_areLike 29 = .ok (.aload_n 0, 1) := by decide +kernel
theorem dX9_areLike_30 : decode cX9_areLike 30 = .ok (.iload_n 1, 1) := by decide +kernel
theorem dX9_areLike_31 : decode cX9_areLike 31 = .ok (.iload_n 2, 1) := by decide +kernel
theorem dX9_areLike_32 : decode cX9_areLike 32 = .ok (.iload_n 3, 1) := by decide +kernel
theorem dX9_areLike_33 : decode cX9_areLike 33 = .ok (.invokevirtual 191, 3) := by decide +kernel
theorem dX9_areLike_36 : decode cX9_areLike 36 = .ok (.ifCond .ne 5, 3) := by decide +kernel
theorem dX9_areLike_39 : decode cX9_areLike 39 = .ok (.iconst 0, 1) := by decide +kernel
theorem dX9_areLike_40 : decode cX9_areLike 40 = .ok (.ireturn, 1) := by decide +kernel
theorem dX9_areLike_41 : decode cX9_areLike 41 = .ok (.iinc 3 1, 3) := by decide +kernel
theorem dX9_areLike_44 : decode cX9_areLike 44 = .ok (.goto (-25), 3) := by decide +kernel
theorem dX9_areLike_47 : decode cX9_areLike 47 = .ok (.iconst 0, 1) := by decide +kernel
theorem dX9_areLike_48 : decode cX9_areLike 48 = .ok (.istore_n 3, 1) := by decide +kernel
theorem dX9_areLike_49 : decode cX9_areLike 49 = .ok (.iload_n 3, 1) := by decide +kernel
theorem dX9_areLike_50 : decode cX9_areLike 50 = .ok (.bipush 12, 2) := by decide +kernel
theorem dX9_areLike_52 : decode cX9_areLike 52 = .ok (.if_icmp .ge 61, 3) := by decide +kernel
theorem dX9_areLike_55 : decode cX9_areLike 55 = .ok (.aload_n 0, 1) := by decide +kernel
theorem dX9_areLike_56 : decode cX9_areLike 56 = .ok (.getfield 40, 3) := by decide +kernel
theorem dX9_areLike_59 : decode cX9_areLike 59 = .ok (.bipush 12, 2) := by decide +kernel
theorem dX9_areLike_61 : decode cX9_areLike 61 = .ok (.iload_n 1, 1) := by decide +kernel
theorem dX9_areLike_62 : decode cX9_areLike 62 = .ok (.imul, 1) := by decide +kernel
theorem dX9_areLike_63 : decode cX9_areLike 63 = .ok (.iload_n 3, 1) := by decide +kernel
theorem dX9_areLike_64 : decode cX9_areLike 64 = .ok (.iadd, 1) := by decide +kernel
theorem dX9_areLike_65 : decode cX9_areLike 65 = .ok (.baload, 1) := by decide +kernel
theorem dX9_areLike_66 : decode cX9_areLike 66 = .ok (.aload_n 0, 1) := by decide +kernel
theorem dX9_areLike_67 : decode cX9_areLike 67 = .ok (.getfield 40, 3) := by decide +kernel
theorem dX9_areLike_70 : decode cX9_areLike 70 = .ok (.bipush 12, 2) := by decide +kernel
theorem dX9_areLike_72 : decode cX9_areLike 72 = .ok (.iload_n 2, 1) := by decide +kernel
theorem dX9_areLike_73 : decode cX9_areLike 73 = .ok (.imul, 1) := by decide +kernel
theorem dX9_areLike_74 : decode cX9_areLike 74 = .ok (.iload_n 3, 1) := by decide +kernel
theorem dX9_areLike_75 : decode cX9_areLike 75 = .ok (.iadd, 1) := by decide +kernel
theorem dX9_areLike_76 : decode cX9_areLike 76 = .ok (.baload, 1) := by decide +kernel
theorem dX9_areLike_77 : decode cX9_areLike 77 = .ok (.if_icmp .ne 28, 3) := by decide +kernel
theorem dX9_areLike_80 : decode cX9_areLike 80 = .ok (.aload_n 0, 1) := by decide +kernel
theorem dX9_areLike_81 : decode cX9_areLike 81 = .ok (.getfield 44, 3) := by decide +kernel
theorem dX9_areLike_84 : decode cX9_areLike 84 = .ok (.bipush 12, 2) := by decide +kernel
theorem dX9_areLike_86 : decode cX9_areLike 86 = .ok (.iload_n 1, 1) := by decide +kernel
theorem dX9_areLike_87 : decode cX9_areLike 87 = .ok (.imul, 1) := by decide +kernel
theorem dX9_areLike_88 : decode cX9_areLike 88 = .ok (.iload_n 3, 1) := by decide +kernel
theorem dX9_areLike_89 : decode cX9_areLike 89 = .ok (.iadd, 1) := by decide +kernel
theorem dX9_areLike_90 : decode cX9_areLike 90 = .ok (.baload, 1) := by decide +kernel
theorem dX9_areLike_91 : decode cX9_areLike 91 = .ok (.aload_n 0, 1) := by decide +kernel
theorem dX9_areLike_92 : decode cX9_areLike 92 = .ok (.getfield 44, 3) := by decide +kernel
theorem dX9_areLike_95 : decode cX9_areLike 95 = .ok (.bipush 12, 2) := by decide +kernel
theorem dX9_areLike_97 : decode cX9_areLike 97 = .ok (.iload_n 2, 1) := by decide +kernel
theorem dX9_areLike_98 : decode cX9_areLike 98 = .ok (.imul, 1) := by decide +kernel
theorem dX9_areLike_99 : decode cX9_areLike 99 = .ok (.iload_n 3, 1) := by decide +kernel
theorem dX9_areLike_100 : decode cX9_areLike 100 = .ok (.iadd, 1) := by decide +kernel
theorem dX9_areLike_101 : decode cX9_areLike 101 = .ok (.baload, 1) := by decide +kernel
theorem dX9_areLike_102 : decode cX9_areLike 102 = .ok (.if_icmp .eq 5, 3) := by decide +kernel
theorem dX9_areLike_105 : decode cX9_areLike 105 = .ok (.iconst 0, 1) := by decide +kernel
theorem dX9_areLike_106 : decode cX9_areLike 106 = .ok (.ireturn, 1) := by decide +kernel
theorem dX9_areLike_107 : decode cX9_areLike 107 = .ok (.iinc 3 1, 3) := by decide +kernel
theorem dX9_areLike_110 : decode cX9_areLike 110 = .ok (.goto (-61), 3) := by decide +kernel
theorem dX9_areLike_113 : decode cX9_areLike 113 = .ok (.aload_n 0, 1) := by decide +kernel
theorem dX9_areLike_114 : decode cX9_areLike 114 = .ok (.getfield 31, 3) := by decide +kernel
theorem dX9_areLike_117 : decode cX9_areLike 117 = .ok (.iconst 3, 1) := by decide +kernel
theorem dX9_areLike_118 : decode cX9_areLike 118 = .ok (.iconst 2, 1) := by decide +kernel
theorem dX9_areLike_119 : decode cX9_areLike 119 = .ok (.iload_n 1, 1) := by decide +kernel
theorem dX9_areLike_120 : decode cX9_areLike 120 = .ok (.imul, 1) := by decide +kernel
theorem dX9_areLike_121 : decode cX9_areLike 121 = .ok (.iadd, 1) := by decide +kernel
theorem dX9_areLike_122 : decode cX9_areLike 122 = .ok (.iaload, 1) := by decide +kernel
theorem dX9_areLike_123 : decode cX9_areLike 123 = .ok (.aload_n 0, 1) := by decide +kernel
theorem dX9_areLike_124 : decode cX9_areLike 124 = .ok (.getfield 31, 3) := by decide +kernel
theorem dX9_areLike_127 : decode cX9_areLike 127 = .ok (.iconst 3, 1) := by decide +kernel
theorem dX9_areLike_128 : decode cX9_areLike 128 = .ok (.iconst 2, 1) := by decide +kernel
theorem dX9_areLike_129 : decode cX9_areLike 129 = .ok (.iload_n 2, 1) := by decide +kernel
theorem dX9_areLike_130 : decode cX9_areLike 130 = .ok (.imul, 1) := by decide +kernel
theorem dX9_areLike_131 : decode cX9_areLike 131 = .ok (.iadd, 1) := by decide +kernel
theorem dX9_areLike_132 : decode cX9_areLike 132 = .ok (.iaload, 1) := by decide +kernel
theorem dX9_areLike_133 : decode cX9_areLike 133 = .ok (.if_icmp .ne 30, 3) := by decide +kernel
theorem dX9_areLike_136 : decode cX9_areLike 136 = .ok (.aload_n 0, 1) := by decide +kernel
theorem dX9_areLike_137 : decode cX9_areLike 137 = .ok (.getfield 31, 3) := by decide +kernel
theorem dX9_areLike_140 : decode cX9_areLike 140 = .ok (.iconst 4, 1) := by decide +kernel
theorem dX9_areLike_141 : decode cX9_areLike 141 = .ok (.iconst 2, 1) := by decide +kernel
theorem dX9_areLike_142 : decode cX9_areLike 142 = .ok (.iload_n 1, 1) := by decide +kernel
theorem dX9_areLike_143 : decode cX9_areLike 143 = .ok (.imul, 1) := by decide +kernel
theorem dX9_areLike_144 : decode cX9_areLike 144 = .ok (.iadd, 1) := by decide +kernel
theorem dX9_areLike_145 : decode cX9_areLike 145 = .ok (.iaload, 1) := by decide +kernel
theorem dX9_areLike_146 : decode cX9_areLike 146 = .ok (.aload_n 0, 1) := by decide +kernel
theorem dX9_areLike_147 : decode cX9_areLike 147 = .ok (.getfield 31, 3) := by decide +kernel
theorem dX9_areLike_150 : decode cX9_areLike 150 = .ok (.iconst 4, 1) := by decide +kernel
theorem dX9_areLike_151 : decode cX9_areLike 151 = .ok (.iconst 2, 1) := by decide +kernel
theorem dX9_areLike_152 : decode cX9_areLike 152 = .ok (.iload_n 2, 1) := by decide +kernel
theorem dX9_areLike_153 : decode cX9_areLike 153 = .ok (.imul, 1) := by decide +kernel
theorem dX9_areLike_154 : decode cX9_areLike 154 = .ok (.iadd, 1) := by decide +kernel
theorem dX9_areLike_155 : decode cX9_areLike 155 = .ok (.iaload, 1) := by decide +kernel
theorem dX9_areLike_156 : decode cX9_areLike 156 = .ok (.if_icmp .ne 7, 3) := by decide +kernel
theorem dX9_areLike_159 : decode cX9_areLike 159 = .ok (.iconst 1, 1) := by decide +kernel
theorem dX9_areLike_160 : decode cX9_areLike 160 = .ok (.goto 4, 3) := by decide +kernel
theorem dX9_areLike_163 : decode cX9_areLike 163 = .ok (.iconst 0, 1) := by decide +kernel
theorem dX9_areLike_164 : decode cX9_areLike 164 = .ok (.ireturn, 1) := by decide +kernel
theorem dX9_exchanges_0 : decode cX9_exchanges 0 = .ok (.aload_n 0, 1) := by decide +kernel
theorem dX9_exchanges_1 : decode cX9_exchanges 1 = .ok (.getfield 85, 3) := by decide +kernel
theorem dX9_exchanges_4 : decode cX9_exchanges 4 = .ok (.iload_n 1, 1) := by decide +kernel
theorem dX9_exchanges_5 : decode cX9_exchanges 5 = .ok (.iaload, 1) := by decide +kernel
theorem dX9_exchanges_6 : decode cX9_exchanges 6 = .ok (.istore_n 3, 1) := by decide +kernel
theorem dX9_exchanges_7 : decode cX9_exchanges 7 = .ok (.aload_n 0, 1) := by decide +kernel
theorem dX9_exchanges_8 : decode cX9_exchanges 8 = .ok (.getfield 88, 3) := by decide +kernel
theorem dX9_exchanges_11 : decode cX9_exchanges 11 = .ok (.iconst 3, 1) := by decide +kernel
theorem dX9_exchanges_12 : decode cX9_exchanges 12 = .ok (.iconst 2, 1) := by decide +kernel
theorem dX9_exchanges_13 : decode cX9_exchanges 13 = .ok (.iload_n 1, 1) := by decide +kernel
theorem dX9_exchanges_14 : decode cX9_exchanges 14 = .ok (.imul, 1) := by decide +kernel
theorem dX9_exchanges_15 : decode cX9_exchanges 15 = .ok (.iadd, 1) := by decide +kernel
theorem dX9_exchanges_16 : decode cX9_exchanges 16 = .ok (.iaload, 1) := by decide +kernel
theorem dX9_exchanges_17 : decode cX9_exchanges 17 = .ok (.istore 4, 2) := by decide +kernel
theorem dX9_exchanges_19 : decode cX9_exchanges 19 = .ok (.aload_n 0, 1) := by decide +kernel
theorem dX9_exchanges_20 : decode cX9_exchanges 20 = .ok (.getfield 88, 3) := by decide +kernel
theorem dX9_exchanges_23 : decode cX9_exchanges 23 = .ok (.iconst 4, 1) := by decide +kernel
theorem dX9_exchanges_24 : decode cX9_exchanges 24 = .ok (.iconst 2, 1) := by decide +kernel
theorem dX9_exchanges_25 : decode cX9_exchanges 25 = .ok (.iload_n 1, 1) := by decide +kernel
theorem dX9_exchanges_26 : decode cX9_exchanges 26 = .ok (.imul, 1) := by decide +kernel
theorem dX9_exchanges_27 : decode cX9_exchanges 27 = .ok (.iadd, 1) := by decide +kernel
theorem dX9_exchanges_28 : decode cX9_exchanges 28 = .ok (.iaload, 1) := by decide +kernel
theorem dX9_exchanges_29 : decode cX9_exchanges 29 = .ok (.istore 5, 2) := by decide +kernel
theorem dX9_exchanges_31 : decode cX9_exchanges 31 = .ok (.aload_n 0, 1) := by decide +kernel
theorem dX9_exchanges_32 : decode cX9_exchanges 32 = .ok (.getfield 85, 3) := by decide +kernel
theorem dX9_exchanges_35 : decode cX9_exchanges 35 = .ok (.iload_n 1, 1) := by decide +kernel
theorem dX9_exchanges_36 : decode cX9_exchanges 36 = .ok (.aload_n 0, 1) := by decide +kernel
theorem dX9_exchanges_37 : decode cX9_exchanges 37 = .ok (.getfield 85, 3) := by decide +kernel
theorem dX9_exchanges_40 : decode cX9_exchanges 40 = .ok (.iload_n 2, 1) := by decide +kernel
theorem dX9_exchanges_41 : decode cX9_exchanges 41 = .ok (.iaload, 1) := by decide +kernel
theorem dX9_exchanges_42 : decode cX9_exchanges 42 = .ok (.iastore, 1) := by decide +kernel
theorem dX9_exchanges_43 : decode cX9_exchanges 43 = .ok (.aload_n 0, 1) := by decide +kernel
theorem dX9_exchanges_44 : decode cX9_exchanges 44 = .ok (.getfield 88, 3) := by decide +kernel
theorem dX9_exchanges_47 : decode cX9_exchanges 47 = .ok (.iconst 3, 1) := by decide +kernel
theorem dX9_exchanges_48 : decode cX9_exchanges 48 = .ok (.iconst 2, 1) := by decide +kernel
theorem dX9_exchanges_49 : decode cX9_exchanges 49 = .ok (.iload_n 1, 1) := by decide +kernel
theorem dX9_exchanges_50 : decode cX9_exchanges 50 = .ok (.imul, 1) := by decide +kernel
theorem dX9_exchanges_51 : decode cX9_exchanges 51 = .ok (.iadd, 1) := by decide +kernel
theorem dX9_exchanges_52 : decode cX9_exchanges 52 = .ok (.aload_n 0, 1) := by decide +kernel
theorem dX9_exchanges_53 : decode cX9_exchanges 53 = .ok (.getfield 88, 3) := by decide +kernel
theorem dX9_exchanges_56 : decode cX9_exchanges 56 = .ok (.iconst 3, 1) := by decide +kernel
theorem dX9_exchanges_57 : decode cX9_exchanges 57 = .ok (.iconst 2, 1) := by decide +kernel
theorem dX9_exchanges_58 : decode cX9_exchanges 58 = .ok (.iload_n 2, 1) := by decide +kernel
theorem dX9_exchanges_59 : decode cX9_exchanges 59 = .ok (.imul, 1) := by decide +kernel
theorem dX9_exchanges_60 : decode cX9_exchanges 60 = .ok (.iadd, 1) := by decide +kernel
theorem dX9_exchanges_61 : decode cX9_exchanges 61 = .ok (.iaload, 1) := by decide +kernel
theorem dX9_exchanges_62 : decode cX9_exchanges 62 = .ok (.iastore, 1) := by decide +kernel
theorem dX9_exchanges_63 : decode cX9_exchanges 63 = .ok (.aload_n 0, 1) := by decide +kernel
theorem dX9_exchanges_64 : decode cX9_exchanges 64 = .ok (.getfield 88, 3) := by decide +kernel
theorem dX9_exchanges_67 : decode cX9_exchanges 67 = .ok (.iconst 4, 1) := by decide +kernel
theorem dX9_exchanges_68 : decode cX9_exchanges 68 = .ok (.iconst 2, 1) := by decide +kernel
theorem dX9_exchanges_69 : decode cX9_exchanges 69 = .ok (.iload_n 1, 1) := by decide +kernel
theorem dX9_exchanges_70 : decode cX9_exchanges 70 = .ok (.imul, 1) := by decide +kernel
theorem dX9_exchanges_71 : decode cX9_exchanges 71 = .ok (.iadd, 1) := by decide +kernel
theorem dX9_exchanges_72 : decode cX9_exchanges 72 = .ok (.aload_n 0, 1) := by decide +kernel
theorem dX9_exchanges_73 : decode cX9_exchanges 73 = .ok (.getfield 88, 3) := by decide +kernel
theorem dX9_exchanges_76 : decode cX9_exchanges 76 = .ok (.iconst 4, 1) := by decide +kernel
theorem dX9_exchanges_77 : decode cX9_exchanges 77 = .ok (.iconst 2, 1) := by decide +kernel
theorem dX9_exchanges_78 : decode cX9_exchanges 78 = .ok (.iload_n 2, 1) := by decide +kernel
theorem dX9_exchanges_79 : decode cX9_exchanges 79 = .ok (.imul, 1) := by decide +kernel
theorem dX9_exchanges_80 : decode cX9_exchanges 80 = .ok (.iadd, 1) := by decide +kernel
theorem dX9_exchanges_81 : decode cX9_exchanges 81 = .ok (.iaload, 1) := by decide +kernel
theorem dX9_exchanges_82 : decode cX9_exchanges 82 = .ok (.iastore, 1) := by decide +kernel
theorem dX9_exchanges_83 : decode cX9_exchanges 83 = .ok (.aload_n 0, 1) := by decide +kernel
theorem dX9_exchanges_84 : decode cX9_exchanges 84 = .ok (.getfield 85, 3) := by decide +kernel
theorem dX9_exchanges_87 : decode cX9_exchanges 87 = .ok (.iload_n 2, 1) := by decide +kernel
theorem dX9_exchanges_88 : decode cX9_exchanges 88 = .ok (.iload_n 3, 1) := by decide +kernel
theorem dX9_exchanges_89 : decode cX9_exchanges 89 = .ok (.iastore, 1) := by decide +kernel
theorem dX9_exchanges_90 : decode cX9_exchanges 90 = .ok (.aload_n 0, 1) := by decide +kernel
theorem dX9_exchanges_91 : decode cX9_exchanges 91 = .ok (.getfield 88, 3) := by decide +kernel
theorem dX9_exchanges_94 : decode cX9_exchanges 94 = .ok (.iconst 3, 1) := by decide +kernel
theorem dX9_exchanges_95 : decode cX9_exchanges 95 = .ok (.iconst 2, 1) := by decide +kernel
theorem dX9_exchanges_96 : decode cX9_exchanges 96 = .ok (.iload_n 2, 1) := by decide +kernel
theorem dX9_exchanges_97 : decode cX9_exchanges 97 = .ok (.imul, 1) := by decide +kernel
theorem dX9_exchanges_98 : decode cX9_exchanges 98 = .ok (.iadd, 1) := by decide +kernel
theorem dX9_exchanges_99 : decode cX9_exchanges 99 = .ok (.iload 4, 2) := by decide +kernel
theorem dX9_exchanges_101 : decode cX9_exchanges 101 = .ok (.iastore, 1) := by decide +kernel
theorem dX9_exchanges_102 : decode cX9_exchanges 102 = .ok (.aload_n 0, 1) := by decide +kernel
theorem dX9_exchanges_103 : decode cX9_exchanges 103 = .ok (.getfield 88, 3) := by decide +kernel
theorem dX9_exchanges_106 : decode cX9_exchanges 106 = .ok (.iconst 4, 1) := by decide +kernel
theorem dX9_exchanges_107 : decode cX9_exchanges 107 = .ok (.iconst 2, 1) := by decide +kernel
theorem dX9_exchanges_108 : decode cX9_exchanges 108 = .ok (.iload_n 2, 1) := by decide +kernel
theorem dX9_exchanges_109 : decode cX9_exchanges 109 = .ok (.imul, 1) := by decide +kernel
theorem dX9_exchanges_110 : decode cX9_exchanges 110 = .ok (.iadd, 1) := by decide +kernel
theorem dX9_exchanges_111 : decode cX9_exchanges 111 = .ok (.iload 5, 2) := by decide +kernel
theorem dX9_exchanges_113 : decode cX9_exchanges 113 = .ok (.iastore, 1) := by decide +kernel
theorem dX9_exchanges_114 : decode cX9_exchanges 114 = .ok (.return_, 1) := by decide +kernel
theorem dX9_lessens_0 : decode cX9_lessens 0 = .ok (.iload_n 2, 1) := by decide +kernel
theorem dX9_lessens_1 : decode cX9_lessens 1 = .ok (.aload_n 0, 1) := by decide +kernel
theorem dX9_lessens_2 : decode cX9_lessens 2 = .ok (.getfield 161, 3) := by decide +kernel
theorem dX9_lessens_5 : decode cX9_lessens 5 = .ok (.if_icmp .ge 12, 3) := by decide +kernel
theorem dX9_lessens_8 : decode cX9_lessens 8 = .ok (.aload_n 0, 1) := by decide +kernel
theorem dX9_lessens_9 : decode cX9_lessens 9 = .ok (.iload_n 1, 1) := by decide +kernel
theorem dX9_lessens_10 : decode cX9_lessens 10 = .ok (.iload_n 2, 1) := by decide +kernel
theorem dX9_lessens_11 : decode cX9_lessens 11 = .ok (.invokevirtual 195, 3) := by decide +kernel
theorem dX9_lessens_14 : decode cX9_lessens 14 = .ok (.ifCond .ne 4, 3) := by decide +kernel
theorem dX9_lessens_17 : decode cX9_lessens 17 = .ok (.return_, 1) := by decide +kernel
theorem dX9_lessens_18 : decode cX9_lessens 18 = .ok (.aload_n 0, 1) := by decide +kernel
theorem dX9_lessens_19 : decode cX9_lessens 19 = .ok (.invokevirtual 198, 3) := by decide +kernel
theorem dX9_lessens_22 : decode cX9_lessens 22 = .ok (.lstore_n 3, 1) := by decide +kernel
theorem dX9_lessens_23 : decode cX9_lessens 23 = .ok (.aload_n 0, 1) := by decide +kernel
theorem dX9_lessens_24 : decode cX9_lessens 24 = .ok (.iload_n 1, 1) := by decide +kernel
theorem dX9_lessens_25 : decode cX9_lessens 25 = .ok (.iload_n 2, 1) := by decide +kernel
theorem dX9_lessens_26 : decode cX9_lessens 26 = .ok (.invokevirtual 202, 3) := by decide +kernel
theorem dX9_lessens_29 : decode cX9_lessens 29 = .ok (.aload_n 0, 1) := by decide +kernel
theorem dX9_lessens_30 : decode cX9_lessens 30 = .ok (.invokevirtual 198, 3) := by decide +kernel
theorem dX9_lessens_33 : decode cX9_lessens 33 = .ok (.lload_n 3, 1) := by decide +kernel
theorem dX9_lessens_34 : decode cX9_lessens 34 = .ok (.lcmp, 1) := by decide +kernel
theorem dX9_lessens_35 : decode cX9_lessens 35 = .ok (.ifCond .le 9, 3) := by decide +kernel
theorem dX9_lessens_38 : decode cX9_lessens 38 = .ok (.aload_n 0, 1) := by decide +kernel
theorem dX9_lessens_39 : decode cX9_lessens 39 = .ok (.iload_n 1, 1) := by decide +kernel
theorem dX9_lessens_40 : decode cX9_lessens 40 = .ok (.iload_n 2, 1) := by decide +kernel
theorem dX9_lessens_41 : decode cX9_lessens 41 = .ok (.invokevirtual 202, 3) := by decide +kernel
theorem dX9_lessens_44 : decode cX9_lessens 44 = .ok (.return_, 1) := by decide +kernel
theorem dX9_found_0 : decode cX9_found 0 = .ok (.iconst 0, 1) := by decide +kernel
theorem dX9_found_1 : decode cX9_found 1 = .ok (.istore_n 1, 1) := by decide +kernel
theorem dX9_found_2 : decode cX9_found 2 = .ok (.iload_n 1, 1) := by decide +kernel
theorem dX9_found_3 : decode cX9_found 3 = .ok (.iconst 3, 1) := by decide +kernel
theorem dX9_found_4 : decode cX9_found 4 = .ok (.if_icmp .ge 36, 3) := by decide +kernel
theorem dX9_found_7 : decode cX9_found 7 = .ok (.aload_n 0, 1) := by decide +kernel
theorem dX9_found_8 : decode cX9_found 8 = .ok (.getfield 205, 3) := by decide +kernel
theorem dX9_found_11 : decode cX9_found 11 = .ok (.bipush 115, 2) := by decide +kernel
theorem dX9_found_13 : decode cX9_found 13 = .ok (.if_icmp .ne 27, 3) := by decide +kernel
theorem dX9_found_16 : decode cX9_found 16 = .ok (.aload_n 0, 1) := by decide +kernel
theorem dX9_found_17 : decode cX9_found 17 = .ok (.iconst 0, 1) := by decide +kernel
theorem dX9_found_18 : decode cX9_found 18 = .ok (.iconst 1, 1) := by decide +kernel
theorem dX9_found_19 : decode cX9_found 19 = .ok (.invokevirtual 208, 3) := by decide +kernel
theorem dX9_found_22 : decode cX9_found 22 = .ok (.aload_n 0, 1) := by decide +kernel
theorem dX9_found_23 : decode cX9_found 23 = .ok (.iconst 0, 1) := by decide +kernel
theorem dX9_found_24 : decode cX9_found 24 = .ok (.iconst 2, 1) := by decide +kernel
theorem dX9_found_25 : decode cX9_found 25 = .ok (.invokevirtual 208, 3) := by decide +kernel
theorem dX9_found_28 : decode cX9_found 28 = .ok (.aload_n 0, 1) := by decide +kernel
theorem dX9_found_29 : decode cX9_found 29 = .ok (.iconst 1, 1) := by decide +kernel
theorem dX9_found_30 : decode cX9_found 30 = .ok (.iconst 2, 1) := by decide +kernel
theorem dX9_found_31 : decode cX9_found 31 = .ok (.invokevirtual 208, 3) := by decide +kernel
theorem dX9_found_34 : decode cX9_found 34 = .ok (.iinc 1 1, 3) := by decide +kernel
theorem dX9_found_37 : decode cX9_found 37 = .ok (.goto (-35), 3) := by decide +kernel
theorem dX9_found_40 : decode cX9_found 40 = .ok (.aload_n 0, 1) := by decide +kernel
theorem dX9_found_41 : decode cX9_found 41 = .ok (.invokevirtual 198, 3) := by decide +kernel
theorem dX9_found_44 : decode cX9_found 44 = .ok (.lreturn, 1) := by decide +kernel
theorem dX9_slotOf_0 : decode cX9_slotOf 0 = .ok (.lload_n 0, 1) := by decide +kernel
theorem dX9_slotOf_1 : decode cX9_slotOf 1 = .ok (.ldc2_w 211, 3) := by decide +kernel
theorem dX9_slotOf_4 : decode cX9_slotOf 4 = .ok (.lmul, 1) := by decide +kernel
theorem dX9_slotOf_5 : decode cX9_slotOf 5 = .ok (.ldc2_w 213, 3) := by decide +kernel
theorem dX9_slotOf_8 : decode cX9_slotOf 8 = .ok (.lrem, 1) := by decide +kernel
theorem dX9_slotOf_9 : decode cX9_slotOf 9 = .ok (.l2i, 1) := by decide +kernel
theorem dX9_slotOf_10 : decode cX9_slotOf 10 = .ok (.ireturn, 1) := by decide +kernel
theorem dX9_indexOf_0 : decode cX9_indexOf 0 = .ok (.lload_n 1, 1) := by decide +kernel
theorem dX9_indexOf_1 : decode cX9_indexOf 1 = .ok (.invokestatic 215, 3) := by decide +kernel
theorem dX9_indexOf_4 : decode cX9_indexOf 4 = .ok (.istore_n 3, 1) := by decide +kernel
theorem dX9_indexOf_5 : decode cX9_indexOf 5 = .ok (.aload_n 0, 1) := by decide +kernel
theorem dX9_indexOf_6 : decode cX9_indexOf 6 = .ok (.getfield 60, 3) := by decide +kernel
theorem dX9_indexOf_9 : decode cX9_indexOf 9 = .ok (.iload_n 3, 1) := by decide +kernel
theorem dX9_indexOf_10 : decode cX9_indexOf 10 = .ok (.iaload, 1) := by decide +kernel
theorem dX9_indexOf_11 : decode cX9_indexOf 11 = .ok (.ifCond .le 41, 3) := by decide +kernel
theorem dX9_indexOf_14 : decode cX9_indexOf 14 = .ok (.aload_n 0, 1) := by decide +kernel
theorem dX9_indexOf_15 : decode cX9_indexOf 15 = .ok (.getfield 47, 3) := by decide +kernel
theorem dX9_indexOf_18 : decode cX9_indexOf 18 = .ok (.aload_n 0, 1) := by decide +kernel
theorem dX9_indexOf_19 : decode cX9_indexOf 19 = .ok (.getfield 60, 3) := by decide +kernel
theorem dX9_indexOf_22 : decode cX9_indexOf 22 = .ok (.iload_n 3, 1) := by decide +kernel
theorem dX9_indexOf_23 : decode cX9_indexOf 23 = .ok (.iaload, 1) := by decide +kernel
theorem dX9_indexOf_24 : decode cX9_indexOf 24 = .ok (.iconst 1, 1) := by decide +kernel
theorem dX9_indexOf_25 : decode cX9_indexOf 25 = .ok (.isub, 1) := by decide +kernel
theorem dX9_indexOf_26 : decode cX9_indexOf 26 = .ok (.laload, 1) := by decide +kernel
theorem dX9_indexOf_27 : decode cX9_indexOf 27 = .ok (.lload_n 1, 1) := by decide +kernel
theorem dX9_indexOf_28 : decode cX9_indexOf 28 = .ok (.lcmp, 1) := by decide +kernel
theorem dX9_indexOf_29 : decode cX9_indexOf 29 = .ok (.ifCond .ne 12, 3) := by decide +kernel
theorem dX9_indexOf_32 : decode cX9_indexOf 32 = .ok (.aload_n 0, 1) := by decide +kernel
theorem dX9_indexOf_33 : decode cX9_indexOf 33 = .ok (.getfield 60, 3) := by decide +kernel
theorem dX9_indexOf_36 : decode cX9_indexOf 36 = .ok (.iload_n 3, 1) := by decide +kernel
theorem dX9_indexOf_37 : decode cX9_indexOf 37 = .ok (.iaload, 1) := by decide +kernel
theorem dX9_indexOf_38 : decode cX9_indexOf 38 = .ok (.iconst 1, 1) := by decide +kernel
theorem dX9_indexOf_39 : decode cX9_indexOf 39 = .ok (.isub, 1) := by decide +kernel
theorem dX9_indexOf_40 : decode cX9_indexOf 40 = .ok (.ireturn, 1) := by decide +kernel
theorem dX9_indexOf_41 : decode cX9_indexOf 41 = .ok (.iload_n 3, 1) := by decide +kernel
theorem dX9_indexOf_42 : decode cX9_indexOf 42 = .ok (.iconst 1, 1) := by decide +kernel
theorem dX9_indexOf_43 : decode cX9_indexOf 43 = .ok (.iadd, 1) := by decide +kernel
theorem dX9_indexOf_44 : decode cX9_indexOf 44 = .ok (.sipush 8192, 3) := by decide +kernel
theorem dX9_indexOf_47 : decode cX9_indexOf 47 = .ok (.irem, 1) := by decide +kernel
theorem dX9_indexOf_48 : decode cX9_indexOf 48 = .ok (.istore_n 3, 1) := by decide +kernel
theorem dX9_indexOf_49 : decode cX9_indexOf 49 = .ok (.goto (-44), 3) := by decide +kernel
theorem dX9_indexOf_52 : decode cX9_indexOf 52 = .ok (.iconst (-1), 1) := by decide +kernel
theorem dX9_indexOf_53 : decode cX9_indexOf 53 = .ok (.ireturn, 1) := by decide +kernel
theorem dX9_isFound_0 : decode cX9_isFound 0 = .ok (.aload_n 0, 1) := by decide +kernel
theorem dX9_isFound_1 : decode cX9_isFound 1 = .ok (.getfield 205, 3) := by decide +kernel
theorem dX9_isFound_4 : decode cX9_isFound 4 = .ok (.bipush 104, 2) := by decide +kernel
theorem dX9_isFound_6 : decode cX9_isFound 6 = .ok (.if_icmp .ne 17, 3) := by decide +kernel
theorem dX9_isFound_9 : decode cX9_isFound 9 = .ok (.aload_n 0, 1) := by decide +kernel
theorem dX9_isFound_10 : decode cX9_isFound 10 = .ok (.getfield 63, 3) := by decide +kernel
theorem dX9_isFound_13 : decode cX9_isFound 13 = .ok (.lload_n 1, 1) := by decide +kernel
theorem dX9_isFound_14 : decode cX9_isFound 14 = .ok (.ldc2_w 219, 3) := by decide +kernel
theorem dX9_isFound_17 : decode cX9_isFound 17 = .ok (.lrem, 1) := by decide +kernel
theorem dX9_isFound_18 : decode cX9_isFound 18 = .ok (.l2i, 1) := by decide +kernel
theorem dX9_isFound_19 : decode cX9_isFound 19 = .ok (.baload, 1) := by decide +kernel
theorem dX9_isFound_20 : decode cX9_isFound 20 = .ok (.goto 17, 3) := by decide +kernel
theorem dX9_isFound_23 : decode cX9_isFound 23 = .ok (.aload_n 0, 1) := by decide +kernel
theorem dX9_isFound_24 : decode cX9_isFound 24 = .ok (.lload_n 1, 1) := by decide +kernel
theorem dX9_isFound_25 : decode cX9_isFound 25 = .ok (.invokevirtual 221, 3) := by decide +kernel
theorem dX9_isFound_28 : decode cX9_isFound 28 = .ok (.iconst (-1), 1) := by decide +kernel
theorem dX9_isFound_29 : decode cX9_isFound 29 = .ok (.if_icmp .eq 7, 3) := by decide +kernel
theorem dX9_isFound_32 : decode cX9_isFound 32 = .ok (.iconst 1, 1) := by decide +kernel
theorem dX9_isFound_33 : decode cX9_isFound 33 = .ok (.goto 4, 3) := by decide +kernel
theorem dX9_isFound_36 : decode cX9_isFound 36 = .ok (.iconst 0, 1) := by decide +kernel
theorem dX9_isFound_37 : decode cX9_isFound 37 = .ok (.ireturn, 1) := by decide +kernel
theorem dX9_discovers_0 : decode cX9_discovers 0 = .ok (.lload_n 1, 1) := by decide +kernel
theorem dX9_discovers_1 : decode cX9_discovers 1 = .ok (.invokestatic 215, 3) := by decide +kernel
theorem dX9_discovers_4 : decode cX9_discovers 4 = .ok (.istore 5, 2) := by decide +kernel
theorem dX9_discovers_6 : decode cX9_discovers 6 = .ok (.aload_n 0, 1) := by decide +kernel
theorem dX9_discovers_7 : decode cX9_discovers 7 = .ok (.getfield 60, 3) := by decide +kernel
theorem dX9_discovers_10 : decode cX9_discovers 10 = .ok (.iload 5, 2) := by decide +kernel
theorem dX9_discovers_12 : decode cX9_discovers 12 = .ok (.iaload, 1) := by decide +kernel
theorem dX9_discovers_13 : decode cX9_discovers 13 = .ok (.ifCond .le 16, 3) := by decide +kernel
theorem dX9_discovers_16 : decode cX9_discovers 16 = .ok (.iload 5, 2) := by decide +kernel
theorem dX9_discovers_18 : decode cX9_discovers 18 = .ok (.iconst 1, 1) := by decide +kernel
theorem dX9_discovers_19 : decode cX9_discovers 19 = .ok (.iadd, 1) := by decide +kernel
theorem dX9_discovers_20 : decode cX9_discovers 20 = .ok (.sipush 8192, 3) := by decide +kernel
theorem dX9_discovers_23 : decode cX9_discovers 23 = .ok (.irem, 1) := by decide +kernel
theorem dX9_discovers_24 : decode cX9_discovers 24 = .ok (.istore 5, 2) := by decide +kernel
theorem dX9_discovers_26 : decode cX9_discovers 26 = .ok (.goto (-20), 3) := by decide +kernel
theorem dX9_discovers_29 : decode cX9_discovers 29 = .ok (.aload_n 0, 1) := by decide +kernel
theorem dX9_discovers_30 : decode cX9_discovers 30 = .ok (.getfield 60, 3) := by decide +kernel
theorem dX9_discovers_33 : decode cX9_discovers 33 = .ok (.iload 5, 2) := by decide +kernel
theorem dX9_discovers_35 : decode cX9_discovers 35 = .ok (.aload_n 0, 1) := by decide +kernel
theorem dX9_discovers_36 : decode cX9_discovers 36 = .ok (.getfield 224, 3) := by decide +kernel
theorem dX9_discovers_39 : decode cX9_discovers 39 = .ok (.iconst 1, 1) := by decide +kernel
theorem dX9_discovers_40 : decode cX9_discovers 40 = .ok (.iadd, 1) := by decide +kernel
theorem dX9_discovers_41 : decode cX9_discovers 41 = .ok (.iastore, 1) := by decide +kernel
theorem dX9_discovers_42 : decode cX9_discovers 42 = .ok (.aload_n 0, 1) := by decide +kernel
theorem dX9_discovers_43 : decode cX9_discovers 43 = .ok (.getfield 63, 3) := by decide +kernel
theorem dX9_discovers_46 : decode cX9_discovers 46 = .ok (.lload_n 1, 1) := by decide +kernel
theorem dX9_discovers_47 : decode cX9_discovers 47 = .ok (.ldc2_w 219, 3) := by decide +kernel
theorem dX9_discovers_50 : decode cX9_discovers 50 = .ok (.lrem, 1) := by decide +kernel
theorem dX9_discovers_51 : decode cX9_discovers 51 = .ok (.l2i, 1) := by decide +kernel
theorem dX9_discovers_52 : decode cX9_discovers 52 = .ok (.iconst 1, 1) := by decide +kernel
theorem dX9_discovers_53 : decode cX9_discovers 53 = .ok (.bastore, 1) := by decide +kernel
theorem dX9_discovers_54 : decode cX9_discovers 54 = .ok (.aload_n 0, 1) := by decide +kernel
theorem dX9_discovers_55 : decode cX9_discovers 55 = .ok (.getfield 47, 3) := by decide +kernel
theorem dX9_discovers_58 : decode cX9_discovers 58 = .ok (.aload_n 0, 1) := by decide +kernel
theorem dX9_discovers_59 : decode cX9_discovers 59 = .ok (.getfield 224, 3) := by decide +kernel
theorem dX9_discovers_62 : decode cX9_discovers 62 = .ok (.lload_n 1, 1) := by decide +kernel
theorem dX9_discovers_63 : decode cX9_discovers 63 = .ok (.lastore, 1) := by decide +kernel
theorem dX9_discovers_64 : decode cX9_discovers 64 = .ok (.aload_n 0, 1) := by decide +kernel
theorem dX9_discovers_65 : decode cX9_discovers 65 = .ok (.getfield 51, 3) := by decide +kernel
theorem dX9_discovers_68 : decode cX9_discovers 68 = .ok (.aload_n 0, 1) := by decide +kernel
theorem dX9_discovers_69 : decode cX9_discovers 69 = .ok (.getfield 224, 3) := by decide +kernel
theorem dX9_discovers_72 : decode cX9_discovers 72 = .ok (.iload_n 3, 1) := by decide +kernel
theorem dX9_discovers_73 : decode cX9_discovers 73 = .ok (.iastore, 1) := by decide +kernel
theorem dX9_discovers_74 : decode cX9_discovers 74 = .ok (.aload_n 0, 1) := by decide +kernel
theorem dX9_discovers_75 : decode cX9_discovers 75 = .ok (.getfield 54, 3) := by decide +kernel
theorem dX9_discovers_78 : decode cX9_discovers 78 = .ok (.aload_n 0, 1) := by decide +kernel
theorem dX9_discovers_79 : decode cX9_discovers 79 = .ok (.getfield 224, 3) := by decide +kernel
theorem dX9_discovers_82 : decode cX9_discovers 82 = .ok (.iload 4, 2) := by decide +kernel
theorem dX9_discovers_84 : decode cX9_discovers 84 = .ok (.iastore, 1) := by decide +kernel
theorem dX9_discovers_85 : decode cX9_discovers 85 = .ok (.aload_n 0, 1) := by decide +kernel
theorem dX9_discovers_86 : decode cX9_discovers 86 = .ok (.getfield 57, 3) := by decide +kernel
theorem dX9_discovers_89 : decode cX9_discovers 89 = .ok (.aload_n 0, 1) := by decide +kernel
theorem dX9_discovers_90 : decode cX9_discovers 90 = .ok (.getfield 224, 3) := by decide +kernel
theorem dX9_discovers_93 : decode cX9_discovers 93 = .ok (.iload_n 3, 1) := by decide +kernel
theorem dX9_discovers_94 : decode cX9_discovers 94 = .ok (.iconst (-1), 1) := by decide +kernel
theorem dX9_discovers_95 : decode cX9_discovers 95 = .ok (.if_icmp .ne 7, 3) := by decide +kernel
theorem dX9_discovers_98 : decode cX9_discovers 98 = .ok (.iconst 0, 1) := by decide +kernel
theorem dX9_discovers_99 : decode cX9_discovers 99 = .ok (.goto 11, 3) := by decide +kernel
theorem dX9_discovers_102 : decode cX9_discovers 102 = .ok (.aload_n 0, 1) := by decide +kernel
theorem dX9_discovers_103 : decode cX9_discovers 103 = .ok (.getfield 57, 3) := by decide +kernel
theorem dX9_discovers_106 : decode cX9_discovers 106 = .ok (.iload_n 3, 1) := by decide +kernel
theorem dX9_discovers_107 : decode cX9_discovers 107 = .ok (.iaload, 1) := by decide +kernel
theorem dX9_discovers_108 : decode cX9_discovers 108 = .ok (.iconst 1, 1) := by decide +kernel
theorem dX9_discovers_109 : decode cX9_discovers 109 = .ok (.iadd, 1) := by decide +kernel
theorem dX9_discovers_110 : decode cX9_discovers 110 = .ok (.iastore, 1) := by decide +kernel
theorem dX9_discovers_111 : decode cX9_discovers 111 = .ok (.aload_n 0, 1) := by decide +kernel
theorem dX9_discovers_112 : decode cX9_discovers 112 = .ok (.dup, 1) := by decide +kernel
theorem dX9_discovers_113 : decode cX9_discovers 113 = .ok (.getfield 224, 3) := by decide +kernel
theorem dX9_discovers_116 : decode cX9_discovers 116 = .ok (.iconst 1, 1) := by decide +kernel
theorem dX9_discovers_117 : decode cX9_discovers 117 = .ok (.iadd, 1) := by decide +kernel
theorem dX9_discovers_118 : decode cX9_discovers 118 = .ok (.putfield 224, 3) := by decide +kernel
theorem dX9_discovers_121 : decode cX9_discovers 121 = .ok (.iconst 0, 1) := by decide +kernel
theorem dX9_discovers_122 : decode cX9_discovers 122 = .ok (.istore 6, 2) := by decide +kernel
theorem dX9_discovers_124 : decode cX9_discovers 124 = .ok (.iload 6, 2) := by decide +kernel
theorem dX9_discovers_126 : decode cX9_discovers 126 = .ok (.aload_n 0, 1) := by decide +kernel
theorem dX9_discovers_127 : decode cX9_discovers 127 = .ok (.getfield 227, 3) := by decide +kernel
theorem dX9_discovers_130 : decode cX9_discovers 130 = .ok (.if_icmp .ge 57, 3) := by decide +kernel
theorem dX9_discovers_133 : decode cX9_discovers 133 = .ok (.aload_n 0, 1) := by decide +kernel
theorem dX9_discovers_134 : decode cX9_discovers 134 = .ok (.getfield 230, 3) := by decide +kernel
theorem dX9_discovers_137 : decode cX9_discovers 137 = .ok (.ifCond .ne 50, 3) := by decide +kernel
theorem dX9_discovers_140 : decode cX9_discovers 140 = .ok (.aload_n 0, 1) := by decide +kernel
theorem dX9_discovers_141 : decode cX9_discovers 141 = .ok (.getfield 88, 3) := by decide +kernel
theorem dX9_discovers_144 : decode cX9_discovers 144 = .ok (.aload_n 0, 1) := by decide +kernel
theorem dX9_discovers_145 : decode cX9_discovers 145 = .ok (.getfield 34, 3) := by decide +kernel
theorem dX9_discovers_148 : decode cX9_discovers 148 = .ok (.iload 6, 2) := by decide +kernel
theorem dX9_discovers_150 : decode cX9_discovers 150 = .ok (.iaload, 1) := by decide +kernel
theorem dX9_discovers_151 : decode cX9_discovers 151 = .ok (.iaload, 1) := by decide +kernel
theorem dX9_discovers_152 : decode cX9_discovers 152 = .ok (.aload_n 0, 1) := by decide +kernel
theorem dX9_discovers_153 : decode cX9_discovers 153 = .ok (.getfield 37, 3) := by decide +kernel
theorem dX9_discovers_156 : decode cX9_discovers 156 = .ok (.iload 6, 2) := by decide +kernel
theorem dX9_discovers_158 : decode cX9_discovers 158 = .ok (.iaload, 1) := by decide +kernel
theorem dX9_discovers_159 : decode cX9_discovers 159 = .ok (.if_icmp .eq 6, 3) := by decide +kernel
theorem dX9_discovers_162 : decode cX9_discovers 162 = .ok (.goto 19, 3) := by decide +kernel
theorem dX9_discovers_165 : decode cX9_discovers 165 = .ok (.aload_n 0, 1) := by decide +kernel
theorem dX9_discovers_166 : decode cX9_discovers 166 = .ok (.bipush 105, 2) := by decide +kernel
theorem dX9_discovers_168 : decode cX9_discovers 168 = .ok (.putfield 230, 3) := by decide +kernel
theorem dX9_discovers_171 : decode cX9_discovers 171 = .ok (.aload_n 0, 1) := by decide +kernel
theorem dX9_discovers_172 : decode cX9_discovers 172 = .ok (.aload_n 0, 1) := by decide +kernel
theorem dX9_discovers_173 : decode cX9_discovers 173 = .ok (.getfield 224, 3) := by decide +kernel
theorem dX9_discovers_176 : decode cX9_discovers 176 = .ok (.iconst 1, 1) := by decide +kernel
theorem dX9_discovers_177 : decode cX9_discovers 177 = .ok (.isub, 1) := by decide +kernel
theorem dX9_discovers_178 : decode cX9_discovers 178 = .ok (.putfield 233, 3) := by decide +kernel
theorem dX9_discovers_181 : decode cX9_discovers 181 = .ok (.iinc 6 1, 3) := by decide +kernel
theorem dX9_discovers_184 : decode cX9_discovers 184 = .ok (.goto (-60), 3) := by decide +kernel
theorem dX9_discovers_187 : decode cX9_discovers 187 = .ok (.aload_n 0, 1) := by decide +kernel
theorem dX9_discovers_188 : decode cX9_discovers 188 = .ok (.aload_n 0, 1) := by decide +kernel
theorem dX9_discovers_189 : decode cX9_discovers 189 = .ok (.getfield 230, 3) := by decide +kernel
theorem dX9_discovers_192 : decode cX9_discovers 192 = .ok (.ifCond .gt 13, 3) := by decide +kernel
theorem dX9_discovers_195 : decode cX9_discovers 195 = .ok (.aload_n 0, 1) := by decide +kernel
theorem dX9_discovers_196 : decode cX9_discovers 196 = .ok (.getfield 224, 3) := by decide +kernel
theorem dX9_discovers_199 : decode cX9_discovers 199 = .ok (.sipush 2000, 3) := by decide +kernel
theorem dX9_discovers_202 : decode cX9_discovers 202 = .ok (.if_icmp .ne 7, 3) := by decide +kernel
theorem dX9_discovers_205 : decode cX9_discovers 205 = .ok (.iconst 1, 1) := by decide +kernel
theorem dX9_discovers_206 : decode cX9_discovers 206 = .ok (.goto 4, 3) := by decide +kernel
theorem dX9_discovers_209 : decode cX9_discovers 209 = .ok (.iconst 0, 1) := by decide +kernel
theorem dX9_discovers_210 : decode cX9_discovers 210 = .ok (.putfield 236, 3) := by decide +kernel
theorem dX9_discovers_213 : decode cX9_discovers 213 = .ok (.return_, 1) := by decide +kernel
theorem dX9_isOwnStep_0 : decode cX9_isOwnStep 0 = .ok (.aload_n 0, 1) := by decide +kernel
theorem dX9_isOwnStep_1 : decode cX9_isOwnStep 1 = .ok (.getfield 19, 3) := by decide +kernel
theorem dX9_isOwnStep_4 : decode cX9_isOwnStep 4 = .ok (.iload_n 2, 1) := by decide +kernel
theorem dX9_isOwnStep_5 : decode cX9_isOwnStep 5 = .ok (.iaload, 1) := by decide +kernel
theorem dX9_isOwnStep_6 : decode cX9_isOwnStep 6 = .ok (.istore_n 3, 1) := by decide +kernel
theorem dX9_isOwnStep_7 : decode cX9_isOwnStep 7 = .ok (.iload_n 3, 1) := by decide +kernel
theorem dX9_isOwnStep_8 : decode cX9_isOwnStep 8 = .ok (.bipush 107, 2) := by decide +kernel
theorem dX9_isOwnStep_10 : decode cX9_isOwnStep 10 = .ok (.if_icmp .ne 5, 3) := by decide +kernel
theorem dX9_isOwnStep_13 : decode cX9_isOwnStep 13 = .ok (.iconst 1, 1) := by decide +kernel
theorem dX9_isOwnStep_14 : decode cX9_isOwnStep 14 = .ok (.ireturn, 1) := by decide +kernel
theorem dX9_isOwnStep_15 : decode cX9_isOwnStep 15 = .ok (.iload_n 3, 1) := by decide +kernel
theorem dX9_isOwnStep_16 : decode cX9_isOwnStep 16 = .ok (.bipush 115, 2) := by decide +kernel
theorem dX9_isOwnStep_18 : decode cX9_isOwnStep 18 = .ok (.if_icmp .eq 21, 3) := by decide +kernel
theorem dX9_isOwnStep_21 : decode cX9_isOwnStep 21 = .ok (.iload_n 3, 1) := by decide +kernel
theorem dX9_isOwnStep_22 : decode cX9_isOwnStep 22 = .ok (.bipush 105, 2) := by decide +kernel
theorem dX9_isOwnStep_24 : decode cX9_isOwnStep 24 = .ok (.if_icmp .eq 15, 3) := by decide +kernel
theorem dX9_isOwnStep_27 : decode cX9_isOwnStep 27 = .ok (.iload_n 3, 1) := by decide +kernel
theorem dX9_isOwnStep_28 : decode cX9_isOwnStep 28 = .ok (.bipush 61, 2) := by decide +kernel
theorem dX9_isOwnStep_30 : decode cX9_isOwnStep 30 = .ok (.if_icmp .eq 9, 3) := by decide +kernel
theorem dX9_isOwnStep_33 : decode cX9_isOwnStep 33 = .ok (.iload_n 3, 1) := by decide +kernel
theorem dX9_isOwnStep_34 : decode cX9_isOwnStep 34 = .ok (.bipush 33, 2) := by decide +kernel
theorem dX9_isOwnStep_36 : decode cX9_isOwnStep 36 = .ok (.if_icmp .ne 35, 3) := by decide +kernel
theorem dX9_isOwnStep_39 : decode cX9_isOwnStep 39 = .ok (.aload_n 0, 1) := by decide +kernel
theorem dX9_isOwnStep_40 : decode cX9_isOwnStep 40 = .ok (.getfield 22, 3) := by decide +kernel
theorem dX9_isOwnStep_43 : decode cX9_isOwnStep 43 = .ok (.iload_n 2, 1) := by decide +kernel
theorem dX9_isOwnStep_44 : decode cX9_isOwnStep 44 = .ok (.iaload, 1) := by decide +kernel
theorem dX9_isOwnStep_45 : decode cX9_isOwnStep 45 = .ok (.iconst 3, 1) := by decide +kernel
theorem dX9_isOwnStep_46 : decode cX9_isOwnStep 46 = .ok (.iconst 2, 1) := by decide +kernel
theorem dX9_isOwnStep_47 : decode cX9_isOwnStep 47 = .ok (.iload_n 1, 1) := by decide +kernel
theorem dX9_isOwnStep_48 : decode cX9_isOwnStep 48 = .ok (.imul, 1) := by decide +kernel
theorem dX9_isOwnStep_49 : decode cX9_isOwnStep 49 = .ok (.iadd, 1) := by decide +kernel
theorem dX9_isOwnStep_50 : decode cX9_isOwnStep 50 = .ok (.if_icmp .eq 17, 3) := by decide +kernel
theorem dX9_isOwnStep_53 : decode cX9_isOwnStep 53 = .ok (.aload_n 0, 1) := by decide +kernel
theorem dX9_isOwnStep_54 : decode cX9_isOwnStep 54 = .ok (.getfield 22, 3) := by decide +kernel
theorem dX9_isOwnStep_57 : decode cX9_isOwnStep 57 = .ok (.iload_n 2, 1) := by decide +kernel
theorem dX9_isOwnStep_58 : decode cX9_isOwnStep 58 = .ok (.iaload, 1) := by decide +kernel
theorem dX9_isOwnStep_59 : decode cX9_isOwnStep 59 = .ok (.iconst 4, 1) := by decide +kernel
theorem dX9_isOwnStep_60 : decode cX9_isOwnStep 60 = .ok (.iconst 2, 1) := by decide +kernel
theorem dX9_isOwnStep_61 : decode cX9_isOwnStep 61 = .ok (.iload_n 1, 1) := by decide +kernel
theorem dX9_isOwnStep_62 : decode cX9_isOwnStep 62 = .ok (.imul, 1) := by decide +kernel
theorem dX9_isOwnStep_63 : decode cX9_isOwnStep 63 = .ok (.iadd, 1) := by decide +kernel
theorem dX9_isOwnStep_64 : decode cX9_isOwnStep 64 = .ok (.if_icmp .ne 7, 3) := by decide +kernel
theorem dX9_isOwnStep_67 : decode cX9_isOwnStep 67 = .ok (.iconst 1, 1) := by decide +kernel
theorem dX9_isOwnStep_68 : decode cX9_isOwnStep 68 = .ok (.goto 4, 3) := by decide +kernel
theorem dX9_isOwnStep_71 : decode cX9_isOwnStep 71 = .ok (.iconst 0, 1) := by decide +kernel
theorem dX9_isOwnStep_72 : decode cX9_isOwnStep 72 = .ok (.ireturn, 1) := by decide +kernel
theorem dX9_isEnough_0 : decode cX9_isEnough 0 = .ok (.iconst 0, 1) := by decide +kernel
theorem dX9_isEnough_1 : decode cX9_isEnough 1 = .ok (.istore_n 2, 1) := by decide +kernel
theorem dX9_isEnough_2 : decode cX9_isEnough 2 = .ok (.iconst 0, 1) := by decide +kernel
theorem dX9_isEnough_3 : decode cX9_isEnough 3 = .ok (.istore_n 3, 1) := by decide +kernel
theorem dX9_isEnough_4 : decode cX9_isEnough 4 = .ok (.iload_n 3, 1) := by decide +kernel
theorem dX9_isEnough_5 : decode cX9_isEnough 5 = .ok (.aload_n 0, 1) := by decide +kernel
theorem dX9_isEnough_6 : decode cX9_isEnough 6 = .ok (.getfield 7, 3) := by decide +kernel
theorem dX9_isEnough_9 : decode cX9_isEnough 9 = .ok (.iload_n 1, 1) := by decide +kernel
theorem dX9_isEnough_10 : decode cX9_isEnough 10 = .ok (.iaload, 1) := by decide +kernel
theorem dX9_isEnough_11 : decode cX9_isEnough 11 = .ok (.if_icmp .ge 34, 3) := by decide +kernel
theorem dX9_isEnough_14 : decode cX9_isEnough 14 = .ok (.aload_n 0, 1) := by decide +kernel
theorem dX9_isEnough_15 : decode cX9_isEnough 15 = .ok (.iload_n 1, 1) := by decide +kernel
theorem dX9_isEnough_16 : decode cX9_isEnough 16 = .ok (.iload_n 3, 1) := by decide +kernel
theorem dX9_isEnough_17 : decode cX9_isEnough 17 = .ok (.invokevirtual 164, 3) := by decide +kernel
theorem dX9_isEnough_20 : decode cX9_isEnough 20 = .ok (.ifCond .eq 19, 3) := by decide +kernel
theorem dX9_isEnough_23 : decode cX9_isEnough 23 = .ok (.aload_n 0, 1) := by decide +kernel
theorem dX9_isEnough_24 : decode cX9_isEnough 24 = .ok (.iload_n 1, 1) := by decide +kernel
theorem dX9_isEnough_25 : decode cX9_isEnough 25 = .ok (.bipush 14, 2) := by decide +kernel
theorem dX9_isEnough_27 : decode cX9_isEnough 27 = .ok (.iload_n 1, 1) := by decide +kernel
theorem dX9_isEnough_28 : decode cX9_isEnough 28 = .ok (.imul, 1) := by decide +kernel
theorem dX9_isEnough_29 : decode cX9_isEnough 29 = .ok (.iload_n 3, 1) := by decide +kernel
theorem dX9_isEnough_30 : decode cX9_isEnough 30 = .ok (.iadd, 1) := by decide +kernel
theorem dX9_isEnough_31 : decode cX9_isEnough 31 = .ok (.invokevirtual 240, 3) := by decide +kernel
theorem dX9_isEnough_34 : decode cX9_isEnough 34 = .ok (.ifCond .ne 5, 3) := by decide +kernel
theorem dX9_isEnough_37 : decode cX9_isEnough 37 = .ok (.iconst 0, 1) := by decide +kernel
theorem dX9_isEnough_38 : decode cX9_isEnough 38 = .ok (.ireturn, 1) := by decide +kernel
theorem dX9_isEnough_39 : decode cX9_isEnough 39 = .ok (.iinc 3 1, 3) := by decide +kernel
theorem dX9_isEnough_42 : decode cX9_isEnough 42 = .ok (.goto (-38), 3) := by decide +kernel
theorem dX9_isEnough_45 : decode cX9_isEnough 45 = .ok (.iconst 0, 1) := by decide +kernel
theorem dX9_isEnough_46 : decode cX9_isEnough 46 = .ok (.istore_n 3, 1) := by decide +kernel
theorem dX9_isEnough_47 : decode cX9_isEnough 47 = .ok (.iload_n 3, 1) := by decide +kernel
theorem dX9_isEnough_48 : decode cX9_isEnough 48 = .ok (.aload_n 0, 1) := by decide +kernel
theorem dX9_isEnough_49 : decode cX9_isEnough 49 = .ok (.getfield 227, 3) := by decide +kernel
theorem dX9_isEnough_52 : decode cX9_isEnough 52 = .ok (.if_icmp .ge 39, 3) := by decide +kernel
theorem dX9_isEnough_55 : decode cX9_isEnough 55 = .ok (.aload_n 0, 1) := by decide +kernel
theorem dX9_isEnough_56 : decode cX9_isEnough 56 = .ok (.getfield 34, 3) := by decide +kernel
theorem dX9_isEnough_59 : decode cX9_isEnough 59 = .ok (.iload_n 3, 1) := by decide +kernel
theorem dX9_isEnough_60 : decode cX9_isEnough 60 = .ok (.iaload, 1) := by decide +kernel
theorem dX9_isEnough_61 : decode cX9_isEnough 61 = .ok (.iconst 3, 1) := by decide +kernel
theorem dX9_isEnough_62 : decode cX9_isEnough 62 = .ok (.iconst 2, 1) := by decide +kernel
theorem dX9_isEnough_63 : decode cX9_isEnough 63 = .ok (.iload_n 1, 1) := by decide +kernel
theorem dX9_isEnough_64 : decode cX9_isEnough 64 = .ok (.imul, 1) := by decide +kernel
theorem dX9_isEnough_65 : decode cX9_isEnough 65 = .ok (.iadd, 1) := by decide +kernel
theorem dX9_isEnough_66 : decode cX9_isEnough 66 = .ok (.if_icmp .eq 17, 3) := by decide +kernel
theorem dX9_isEnough_69 : decode cX9_isEnough 69 = .ok (.aload_n 0, 1) := by decide +kernel
theorem dX9_isEnough_70 : decode cX9_isEnough 70 = .ok (.getfield 34, 3) := by decide +kernel
theorem dX9_isEnough_73 : decode cX9_isEnough 73 = .ok (.iload_n 3, 1) := by decide +kernel
theorem dX9_isEnough_74 : decode cX9_isEnough 74 = .ok (.iaload, 1) := by decide +kernel
theorem dX9_isEnough_75 : decode cX9_isEnough 75 = .ok (.iconst 4, 1) := by decide +kernel
theorem dX9_isEnough_76 : decode cX9_isEnough 76 = .ok (.iconst 2, 1) := by decide +kernel
theorem dX9_isEnough_77 : decode cX9_isEnough 77 = .ok (.iload_n 1, 1) := by decide +kernel
theorem dX9_isEnough_78 : decode cX9_isEnough 78 = .ok (.imul, 1) := by decide +kernel
theorem dX9_isEnough_79 : decode cX9_isEnough 79 = .ok (.iadd, 1) := by decide +kernel
theorem dX9_isEnough_80 : decode cX9_isEnough 80 = .ok (.if_icmp .ne 5, 3) := by decide +kernel
theorem dX9_isEnough_83 : decode cX9_isEnough 83 = .ok (.iconst 0, 1) := by decide +kernel
theorem dX9_isEnough_84 : decode cX9_isEnough 84 = .ok (.ireturn, 1) := by decide +kernel
theorem dX9_isEnough_85 : decode cX9_isEnough 85 = .ok (.iinc 3 1, 3) := by decide +kernel
theorem dX9_isEnough_88 : decode cX9_isEnough 88 = .ok (.goto (-41), 3) := by decide +kernel
theorem dX9_isEnough_91 : decode cX9_isEnough 91 = .ok (.iconst 0, 1) := by decide +kernel
theorem dX9_isEnough_92 : decode cX9_isEnough 92 = .ok (.istore_n 3, 1) := by decide +kernel
theorem dX9_isEnough_93 : decode cX9_isEnough 93 = .ok (.iload_n 3, 1) := by decide +kernel
theorem dX9_isEnough_94 : decode cX9_isEnough 94 = .ok (.aload_n 0, 1) := by decide +kernel
theorem dX9_isEnough_95 : decode cX9_isEnough 95 = .ok (.getfield 158, 3) := by decide +kernel
theorem dX9_isEnough_98 : decode cX9_isEnough 98 = .ok (.if_icmp .ge 43, 3) := by decide +kernel
theorem dX9_isEnough_101 : decode cX9_isEnough 101 = .ok (.aload_n 0, 1) := by decide +kernel
theorem dX9_isEnough_102 : decode cX9_isEnough 102 = .ok (.getfield 97, 3) := by decide +kernel
theorem dX9_isEnough_105 : decode cX9_isEnough 105 = .ok (.iload_n 3, 1) := by decide +kernel
theorem dX9_isEnough_106 : decode cX9_isEnough 106 = .ok (.iaload, 1) := by decide +kernel
theorem dX9_isEnough_107 : decode cX9_isEnough 107 = .ok (.iload_n 1, 1) := by decide +kernel
theorem dX9_isEnough_108 : decode cX9_isEnough 108 = .ok (.if_icmp .eq 6, 3) := by decide +kernel
theorem dX9_isEnough_111 : decode cX9_isEnough 111 = .ok (.goto 24, 3) := by decide +kernel
theorem dX9_isEnough_114 : decode cX9_isEnough 114 = .ok (.iinc 2 1, 3) := by decide +kernel
theorem dX9_isEnough_117 : decode cX9_isEnough 117 = .ok (.aload_n 0, 1) := by decide +kernel
theorem dX9_isEnough_118 : decode cX9_isEnough 118 = .ok (.iload_n 3, 1) := by decide +kernel
theorem dX9_isEnough_119 : decode cX9_isEnough 119 = .ok (.invokevirtual 243, 3) := by decide +kernel
theorem dX9_isEnough_122 : decode cX9_isEnough 122 = .ok (.aload_n 0, 1) := by decide +kernel
theorem dX9_isEnough_123 : decode cX9_isEnough 123 = .ok (.aload_n 0, 1) := by decide +kernel
theorem dX9_isEnough_124 : decode cX9_isEnough 124 = .ok (.invokevirtual 198, 3) := by decide +kernel
theorem dX9_isEnough_127 : decode cX9_isEnough 127 = .ok (.invokevirtual 246, 3) := by decide +kernel
theorem dX9_isEnough_130 : decode cX9_isEnough 130 = .ok (.ifCond .eq 5, 3) := by decide +kernel
theorem dX9_isEnough_133 : decode cX9_isEnough 133 = .ok (.iconst 0, 1) := by decide +kernel
theorem dX9_isEnough_134 : decode cX9_isEnough 134 = .ok (.ireturn, 1) := by decide +kernel
theorem dX9_isEnough_135 : decode cX9_isEnough 135 = .ok (.iinc 3 1, 3) := by decide +kernel
theorem dX9_isEnough_138 : decode cX9_isEnough 138 = .ok (.goto (-45), 3) := by decide +kernel
theorem dX9_isEnough_141 : decode cX9_isEnough 141 = .ok (.iload_n 2, 1) := by decide +kernel
theorem dX9_isEnough_142 : decode cX9_isEnough 142 = .ok (.ifCond .le 7, 3) := by decide +kernel
theorem dX9_isEnough_145 : decode cX9_isEnough 145 = .ok (.iconst 1, 1) := by decide +kernel
theorem dX9_isEnough_146 : decode cX9_isEnough 146 = .ok (.goto 4, 3) := by decide +kernel
theorem dX9_isEnough_149 : decode cX9_isEnough 149 = .ok (.iconst 0, 1) := by decide +kernel
theorem dX9_isEnough_150 : decode cX9_isEnough 150 = .ok (.ireturn, 1) := by decide +kernel
theorem dX9_isStuck_0 : decode cX9_isStuck 0 = .ok (.iconst 0, 1) := by decide +kernel
theorem dX9_isStuck_1 : decode cX9_isStuck 1 = .ok (.istore_n 1, 1) := by decide +kernel
theorem dX9_isStuck_2 : decode cX9_isStuck 2 = .ok (.iload_n 1, 1) := by decide +kernel
theorem dX9_isStuck_3 : decode cX9_isStuck 3 = .ok (.aload_n 0, 1) := by decide +kernel
theorem dX9_isStuck_4 : decode cX9_isStuck 4 = .ok (.getfield 161, 3) := by decide +kernel
theorem dX9_isStuck_7 : decode cX9_isStuck 7 = .ok (.if_icmp .ge 30, 3) := by decide +kernel
theorem dX9_isStuck_10 : decode cX9_isStuck 10 = .ok (.aload_n 0, 1) := by decide +kernel
theorem dX9_isStuck_11 : decode cX9_isStuck 11 = .ok (.getfield 40, 3) := by decide +kernel
theorem dX9_isStuck_14 : decode cX9_isStuck 14 = .ok (.bipush 12, 2) := by decide +kernel
theorem dX9_isStuck_16 : decode cX9_isStuck 16 = .ok (.iload_n 1, 1) := by decide +kernel
theorem dX9_isStuck_17 : decode cX9_isStuck 17 = .ok (.imul, 1) := by decide +kernel
theorem dX9_isStuck_18 : decode cX9_isStuck 18 = .ok (.aload_n 0, 1) := by decide +kernel
theorem dX9_isStuck_19 : decode cX9_isStuck 19 = .ok (.getfield 73, 3) := by decide +kernel
theorem dX9_isStuck_22 : decode cX9_isStuck 22 = .ok (.iload_n 1, 1) := by decide +kernel
theorem dX9_isStuck_23 : decode cX9_isStuck 23 = .ok (.iaload, 1) := by decide +kernel
theorem dX9_isStuck_24 : decode cX9_isStuck 24 = .ok (.iadd, 1) := by decide +kernel
theorem dX9_isStuck_25 : decode cX9_isStuck 25 = .ok (.baload, 1) := by decide +kernel
theorem dX9_isStuck_26 : decode cX9_isStuck 26 = .ok (.ifCond .ne 5, 3) := by decide +kernel
theorem dX9_isStuck_29 : decode cX9_isStuck 29 = .ok (.iconst 1, 1) := by decide +kernel
theorem dX9_isStuck_30 : decode cX9_isStuck 30 = .ok (.ireturn, 1) := by decide +kernel
theorem dX9_isStuck_31 : decode cX9_isStuck 31 = .ok (.iinc 1 1, 3) := by decide +kernel
theorem dX9_isStuck_34 : decode cX9_isStuck 34 = .ok (.goto (-32), 3) := by decide +kernel
theorem dX9_isStuck_37 : decode cX9_isStuck 37 = .ok (.iconst 0, 1) := by decide +kernel
theorem dX9_isStuck_38 : decode cX9_isStuck 38 = .ok (.ireturn, 1) := by decide +kernel
theorem dX9_doers_0 : decode cX9_doers 0 = .ok (.iconst 1, 1) := by decide +kernel
theorem dX9_doers_1 : decode cX9_doers 1 = .ok (.aload_n 0, 1) := by decide +kernel
theorem dX9_doers_2 : decode cX9_doers 2 = .ok (.getfield 97, 3) := by decide +kernel
theorem dX9_doers_5 : decode cX9_doers 5 = .ok (.iload_n 1, 1) := by decide +kernel
theorem dX9_doers_6 : decode cX9_doers 6 = .ok (.iaload, 1) := by decide +kernel
theorem dX9_doers_7 : decode cX9_doers 7 = .ok (.ishl, 1) := by decide +kernel
theorem dX9_doers_8 : decode cX9_doers 8 = .ok (.aload_n 0, 1) := by decide +kernel
theorem dX9_doers_9 : decode cX9_doers 9 = .ok (.getfield 103, 3) := by decide +kernel
theorem dX9_doers_12 : decode cX9_doers 12 = .ok (.iload_n 1, 1) := by decide +kernel
theorem dX9_doers_13 : decode cX9_doers 13 = .ok (.iaload, 1) := by decide +kernel
theorem dX9_doers_14 : decode cX9_doers 14 = .ok (.iconst (-1), 1) := by decide +kernel
theorem dX9_doers_15 : decode cX9_doers 15 = .ok (.if_icmp .ne 7, 3) := by decide +kernel
theorem dX9_doers_18 : decode cX9_doers 18 = .ok (.iconst 0, 1) := by decide +kernel
theorem dX9_doers_19 : decode cX9_doers 19 = .ok (.goto 11, 3) := by decide +kernel
theorem dX9_doers_22 : decode cX9_doers 22 = .ok (.iconst 1, 1) := by decide +kernel
theorem dX9_doers_23 : decode cX9_doers 23 = .ok (.aload_n 0, 1) := by decide +kernel
theorem dX9_doers_24 : decode cX9_doers 24 = .ok (.getfield 103, 3) := by decide +kernel
theorem dX9_doers_27 : decode cX9_doers 27 = .ok (.iload_n 1, 1) := by decide +kernel
theorem dX9_doers_28 : decode cX9_doers 28 = .ok (.iaload, 1) := by decide +kernel
theorem dX9_doers_29 : decode cX9_doers 29 = .ok (.ishl, 1) := by decide +kernel
theorem dX9_doers_30 : decode cX9_doers 30 = .ok (.ior, 1) := by decide +kernel
theorem dX9_doers_31 : decode cX9_doers 31 = .ok (.ireturn, 1) := by decide +kernel
theorem dX9_goesOn_0 : decode cX9_goesOn 0 = .ok (.aload_n 0, 1) := by decide +kernel
theorem dX9_goesOn_1 : decode cX9_goesOn 1 = .ok (.getfield 250, 3) := by decide +kernel
theorem dX9_goesOn_4 : decode cX9_goesOn 4 = .ok (.istore_n 1, 1) := by decide +kernel
theorem dX9_goesOn_5 : decode cX9_goesOn 5 = .ok (.aload_n 0, 1) := by decide +kernel
theorem dX9_goesOn_6 : decode cX9_goesOn 6 = .ok (.dup, 1) := by decide +kernel
theorem dX9_goesOn_7 : decode cX9_goesOn 7 = .ok (.getfield 250, 3) := by decide +kernel
theorem dX9_goesOn_10 : decode cX9_goesOn 10 = .ok (.iconst 1, 1) := by decide +kernel
theorem dX9_goesOn_11 : decode cX9_goesOn 11 = .ok (.iadd, 1) := by decide +kernel
theorem dX9_goesOn_12 : decode cX9_goesOn 12 = .ok (.putfield 250, 3) := by decide +kernel
theorem dX9_goesOn_15 : decode cX9_goesOn 15 = .ok (.aload_n 0, 1) := by decide +kernel
theorem dX9_goesOn_16 : decode cX9_goesOn 16 = .ok (.aload_n 0, 1) := by decide +kernel
theorem dX9_goesOn_17 : decode cX9_goesOn 17 = .ok (.getfield 47, 3) := by decide +kernel
theorem dX9_goesOn_20 : decode cX9_goesOn 20 = .ok (.iload_n 1, 1) := by decide +kernel
theorem dX9_goesOn_21 : decode cX9_goesOn 21 = .ok (.laload, 1) := by decide +kernel
theorem dX9_goesOn_22 : decode cX9_goesOn 22 = .ok (.invokevirtual 253, 3) := by decide +kernel
theorem dX9_goesOn_25 : decode cX9_goesOn 25 = .ok (.aload_n 0, 1) := by decide +kernel
theorem dX9_goesOn_26 : decode cX9_goesOn 26 = .ok (.invokevirtual 257, 3) := by decide +kernel
theorem dX9_goesOn_29 : decode cX9_goesOn 29 = .ok (.aload_n 0, 1) := by decide +kernel
theorem dX9_goesOn_30 : decode cX9_goesOn 30 = .ok (.getfield 66, 3) := by decide +kernel
theorem dX9_goesOn_33 : decode cX9_goesOn 33 = .ok (.iload_n 1, 1) := by decide +kernel
theorem dX9_goesOn_34 : decode cX9_goesOn 34 = .ok (.aload_n 0, 1) := by decide +kernel
theorem dX9_goesOn_35 : decode cX9_goesOn 35 = .ok (.getfield 260, 3) := by decide +kernel
theorem dX9_goesOn_38 : decode cX9_goesOn 38 = .ok (.iastore, 1) := by decide +kernel
theorem dX9_goesOn_39 : decode cX9_goesOn 39 = .ok (.aload_n 0, 1) := by decide +kernel
theorem dX9_goesOn_40 : decode cX9_goesOn 40 = .ok (.getfield 158, 3) := by decide +kernel
theorem dX9_goesOn_43 : decode cX9_goesOn 43 = .ok (.ifCond .ne 26, 3) := by decide +kernel
theorem dX9_goesOn_46 : decode cX9_goesOn 46 = .ok (.aload_n 0, 1) := by decide +kernel
theorem dX9_goesOn_47 : decode cX9_goesOn 47 = .ok (.invokevirtual 263, 3) := by decide +kernel
theorem dX9_goesOn_50 : decode cX9_goesOn 50 = .ok (.ifCond .eq 19, 3) := by decide +kernel
theorem dX9_goesOn_53 : decode cX9_goesOn 53 = .ok (.aload_n 0, 1) := by decide +kernel
theorem dX9_goesOn_54 : decode cX9_goesOn 54 = .ok (.bipush 100, 2) := by decide +kernel
theorem dX9_goesOn_56 : decode cX9_goesOn 56 = .ok (.putfield 230, 3) := by decide +kernel
theorem dX9_goesOn_59 : decode cX9_goesOn 59 = .ok (.aload_n 0, 1) := by decide +kernel
theorem dX9_goesOn_60 : decode cX9_goesOn 60 = .ok (.iload_n 1, 1) := by decide +kernel
theorem dX9_goesOn_61 : decode cX9_goesOn 61 = .ok (.putfield 233, 3) := by decide +kernel
theorem dX9_goesOn_64 : decode cX9_goesOn 64 = .ok (.aload_n 0, 1) := by decide +kernel
theorem dX9_goesOn_65 : decode cX9_goesOn 65 = .ok (.iconst 1, 1) := by decide +kernel
theorem dX9_goesOn_66 : decode cX9_goesOn 66 = .ok (.putfield 236, 3) := by decide +kernel
theorem dX9_goesOn_69 : decode cX9_goesOn 69 = .ok (.iconst 0, 1) := by decide +kernel
theorem dX9_goesOn_70 : decode cX9_goesOn 70 = .ok (.istore_n 2, 1) := by decide +kernel
theorem dX9_goesOn_71 : decode cX9_goesOn 71 = .ok (.iload_n 2, 1) := by decide +kernel
theorem dX9_goesOn_72 : decode cX9_goesOn 72 = .ok (.aload_n 0, 1) := by decide +kernel
theorem dX9_goesOn_73 : decode cX9_goesOn 73 = .ok (.getfield 161, 3) := by decide +kernel
theorem dX9_goesOn_76 : decode cX9_goesOn 76 = .ok (.if_icmp .ge 37, 3) := by decide +kernel
theorem dX9_goesOn_79 : decode cX9_goesOn 79 = .ok (.aload_n 0, 1) := by decide +kernel
theorem dX9_goesOn_80 : decode cX9_goesOn 80 = .ok (.getfield 205, 3) := by decide +kernel
theorem dX9_goesOn_83 : decode cX9_goesOn 83 = .ok (.bipush 112, 2) := by decide +kernel
theorem dX9_goesOn_85 : decode cX9_goesOn 85 = .ok (.if_icmp .ne 28, 3) := by decide +kernel
theorem dX9_goesOn_88 : decode cX9_goesOn 88 = .ok (.aload_n 0, 1) := by decide +kernel
theorem dX9_goesOn_89 : decode cX9_goesOn 89 = .ok (.iload_n 2, 1) := by decide +kernel
theorem dX9_goesOn_90 : decode cX9_goesOn 90 = .ok (.invokevirtual 267, 3) := by decide +kernel
theorem dX9_goesOn_93 : decode cX9_goesOn 93 = .ok (.ifCond .ne 6, 3) := by decide +kernel
theorem dX9_goesOn_96 : decode cX9_goesOn 96 = .ok (.goto 11, 3) := by decide +kernel
theorem dX9_goesOn_99 : decode cX9_goesOn 99 = .ok (.aload_n 0, 1) := by decide +kernel
theorem dX9_goesOn_100 : decode cX9_goesOn 100 = .ok (.iload_n 2, 1) := by decide +kernel
theorem dX9_goesOn_101 : decode cX9_goesOn 101 = .ok (.invokevirtual 180, 3) := by decide +kernel
theorem dX9_goesOn_104 : decode cX9_goesOn 104 = .ok (.goto 9, 3) := by decide +kernel
theorem dX9_goesOn_107 : decode cX9_goesOn 107 = .ok (.iinc 2 1, 3) := by decide +kernel
theorem dX9_goesOn_110 : decode cX9_goesOn 110 = .ok (.goto (-39), 3) := by decide +kernel
theorem dX9_goesOn_113 : decode cX9_goesOn 113 = .ok (.iconst 0, 1) := by decide +kernel
theorem dX9_goesOn_114 : decode cX9_goesOn 114 = .ok (.istore_n 2, 1) := by decide +kernel
theorem dX9_goesOn_115 : decode cX9_goesOn 115 = .ok (.iload_n 2, 1) := by decide +kernel
theorem dX9_goesOn_116 : decode cX9_goesOn 116 = .ok (.aload_n 0, 1) := by decide +kernel
theorem dX9_goesOn_117 : decode cX9_goesOn 117 = .ok (.getfield 158, 3) := by decide +kernel
theorem dX9_goesOn_120 : decode cX9_goesOn 120 = .ok (.if_icmp .ge 158, 3) := by decide +kernel
theorem dX9_goesOn_123 : decode cX9_goesOn 123 = .ok (.aload_n 0, 1) := by decide +kernel
theorem dX9_goesOn_124 : decode cX9_goesOn 124 = .ok (.getfield 236, 3) := by decide +kernel
theorem dX9_goesOn_127 : decode cX9_goesOn 127 = .ok (.ifCond .ne 151, 3) := by decide +kernel
theorem dX9_goesOn_130 : decode cX9_goesOn 130 = .ok (.aload_n 0, 1) := by decide +kernel
theorem dX9_goesOn_131 : decode cX9_goesOn 131 = .ok (.iload_n 2, 1) := by decide +kernel
theorem dX9_goesOn_132 : decode cX9_goesOn 132 = .ok (.invokevirtual 270, 3) := by decide +kernel
theorem dX9_goesOn_135 : decode cX9_goesOn 135 = .ok (.ifCond .eq 42, 3) := by decide +kernel
theorem dX9_goesOn_138 : decode cX9_goesOn 138 = .ok (.aload_n 0, 1) := by decide +kernel
theorem dX9_goesOn_139 : decode cX9_goesOn 139 = .ok (.bipush 97, 2) := by decide +kernel
theorem dX9_goesOn_141 : decode cX9_goesOn 141 = .ok (.putfield 230, 3) := by decide +kernel
theorem dX9_goesOn_144 : decode cX9_goesOn 144 = .ok (.aload_n 0, 1) := by decide +kernel
theorem dX9_goesOn_145 : decode cX9_goesOn 145 = .ok (.iload_n 1, 1) := by decide +kernel
theorem dX9_goesOn_146 : decode cX9_goesOn 146 = .ok (.putfield 233, 3) := by decide +kernel
theorem dX9_goesOn_149 : decode cX9_goesOn 149 = .ok (.aload_n 0, 1) := by decide +kernel
theorem dX9_goesOn_150 : decode cX9_goesOn 150 = .ok (.bipush 16, 2) := by decide +kernel
theorem dX9_goesOn_152 : decode cX9_goesOn 152 = .ok (.aload_n 0, 1) := by decide +kernel
theorem dX9_goesOn_153 : decode cX9_goesOn 153 = .ok (.getfield 97, 3) := by decide +kernel
theorem dX9_goesOn_156 : decode cX9_goesOn 156 = .ok (.iload_n 2, 1) := by decide +kernel
theorem dX9_goesOn_157 : decode cX9_goesOn 157 = .ok (.iaload, 1) := by decide +kernel
theorem dX9_goesOn_158 : decode cX9_goesOn 158 = .ok (.imul, 1) := by decide +kernel
theorem dX9_goesOn_159 : decode cX9_goesOn 159 = .ok (.aload_n 0, 1) := by decide +kernel
theorem dX9_goesOn_160 : decode cX9_goesOn 160 = .ok (.getfield 100, 3) := by decide +kernel
theorem dX9_goesOn_163 : decode cX9_goesOn 163 = .ok (.iload_n 2, 1) := by decide +kernel
theorem dX9_goesOn_164 : decode cX9_goesOn 164 = .ok (.iaload, 1) := by decide +kernel
theorem dX9_goesOn_165 : decode cX9_goesOn 165 = .ok (.iadd, 1) := by decide +kernel
theorem dX9_goesOn_166 : decode cX9_goesOn 166 = .ok (.putfield 273, 3) := by decide +kernel
theorem dX9_goesOn_169 : decode cX9_goesOn 169 = .ok (.aload_n 0, 1) := by decide +kernel
theorem dX9_goesOn_170 : decode cX9_goesOn 170 = .ok (.iconst 1, 1) := by decide +kernel
theorem dX9_goesOn_171 : decode cX9_goesOn 171 = .ok (.putfield 236, 3) := by decide +kernel
theorem dX9_goesOn_174 : decode cX9_goesOn 174 = .ok (.goto 98, 3) := by decide +kernel
theorem dX9_goesOn_177 : decode cX9_goesOn 177 = .ok (.aload_n 0, 1) := by decide +kernel
theorem dX9_goesOn_178 : decode cX9_goesOn 178 = .ok (.dup, 1) := by decide +kernel
theorem dX9_goesOn_179 : decode cX9_goesOn 179 = .ok (.getfield 276, 3) := by decide +kernel
theorem dX9_goesOn_182 : decode cX9_goesOn 182 = .ok (.lconst 1, 1) := by decide +kernel
theorem dX9_goesOn_183 : decode cX9_goesOn 183 = .ok (.ladd, 1) := by decide +kernel
theorem dX9_goesOn_184 : decode cX9_goesOn 184 = .ok (.putfield 276, 3) := by decide +kernel
theorem dX9_goesOn_187 : decode cX9_goesOn 187 = .ok (.aload_n 0, 1) := by decide +kernel
theorem dX9_goesOn_188 : decode cX9_goesOn 188 = .ok (.iload_n 2, 1) := by decide +kernel
theorem dX9_goesOn_189 : decode cX9_goesOn 189 = .ok (.invokevirtual 243, 3) := by decide +kernel
theorem dX9_goesOn_192 : decode cX9_goesOn 192 = .ok (.aload_n 0, 1) := by decide +kernel
theorem dX9_goesOn_193 : decode cX9_goesOn 193 = .ok (.invokevirtual 280, 3) := by decide +kernel
theorem dX9_goesOn_196 : decode cX9_goesOn 196 = .ok (.lstore_n 3, 1) := by decide +kernel
theorem dX9_goesOn_197 : decode cX9_goesOn 197 = .ok (.aload_n 0, 1) := by decide +kernel
theorem dX9_goesOn_198 : decode cX9_goesOn 198 = .ok (.lload_n 3, 1) := by decide +kernel
theorem dX9_goesOn_199 : decode cX9_goesOn 199 = .ok (.invokevirtual 246, 3) := by decide +kernel
theorem dX9_goesOn_202 : decode cX9_goesOn 202 = .ok (.ifCond .ne 25, 3) := by decide +kernel
theorem dX9_goesOn_205 : decode cX9_goesOn 205 = .ok (.aload_n 0, 1) := by decide +kernel
theorem dX9_goesOn_206 : decode cX9_goesOn 206 = .ok (.lload_n 3, 1) := by decide +kernel
theorem dX9_goesOn_207 : decode cX9_goesOn 207 = .ok (.iload_n 1, 1) := by decide +kernel
theorem dX9_goesOn_208 : decode cX9_goesOn 208 = .ok (.bipush 16, 2) := by decide +kernel
theorem dX9_goesOn_210 : decode cX9_goesOn 210 = .ok (.aload_n 0, 1) := by decide +kernel
theorem dX9_goesOn_211 : decode cX9_goesOn 211 = .ok (.getfield 97, 3) := by decide +kernel
theorem dX9_goesOn_214 : decode cX9_goesOn 214 = .ok (.iload_n 2, 1) := by decide +kernel
theorem dX9_goesOn_215 : decode cX9_goesOn 215 = .ok (.iaload, 1) := by decide +kernel
theorem dX9_goesOn_216 : decode cX9_goesOn 216 = .ok (.imul, 1) := by decide +kernel
theorem dX9_goesOn_217 : decode cX9_goesOn 217 = .ok (.aload_n 0, 1) := by decide +kernel
theorem dX9_goesOn_218 : decode cX9_goesOn 218 = .ok (.getfield 100, 3) := by decide +kernel
theorem dX9_goesOn_221 : decode cX9_goesOn 221 = .ok (.iload_n 2, 1) := by decide +kernel
theorem dX9_goesOn_222 : decode cX9_goesOn 222 = .ok (.iaload, 1) := by decide +kernel
theorem dX9_goesOn_223 : decode cX9_goesOn 223 = .ok (.iadd, 1) := by decide +kernel
theorem dX9_goesOn_224 : decode cX9_goesOn 224 = .ok (.invokevirtual 283, 3) := by decide +kernel
theorem dX9_goesOn_227 : decode cX9_goesOn 227 = .ok (.aload_n 0, 1) := by decide +kernel
theorem dX9_goesOn_228 : decode cX9_goesOn 228 = .ok (.getfield 205, 3) := by decide +kernel
theorem dX9_goesOn_231 : decode cX9_goesOn 231 = .ok (.bipush 97, 2) := by decide +kernel
theorem dX9_goesOn_233 : decode cX9_goesOn 233 = .ok (.if_icmp .eq 6, 3) := by decide +kernel
theorem dX9_goesOn_236 : decode cX9_goesOn 236 = .ok (.goto 36, 3) := by decide +kernel
theorem dX9_goesOn_239 : decode cX9_goesOn 239 = .ok (.aload_n 0, 1) := by decide +kernel
theorem dX9_goesOn_240 : decode cX9_goesOn 240 = .ok (.getfield 70, 3) := by decide +kernel
theorem dX9_goesOn_243 : decode cX9_goesOn 243 = .ok (.aload_n 0, 1) := by decide +kernel
theorem dX9_goesOn_244 : decode cX9_goesOn 244 = .ok (.getfield 260, 3) := by decide +kernel
theorem dX9_goesOn_247 : decode cX9_goesOn 247 = .ok (.bipush 8, 2) := by decide +kernel
theorem dX9_goesOn_249 : decode cX9_goesOn 249 = .ok (.aload_n 0, 1) := by decide +kernel
theorem dX9_goesOn_250 : decode cX9_goesOn 250 = .ok (.lload_n 3, 1) := by decide +kernel
theorem dX9_goesOn_251 : decode cX9_goesOn 251 = .ok (.invokevirtual 221, 3) := by decide +kernel
theorem dX9_goesOn_254 : decode cX9_goesOn 254 = .ok (.imul, 1) := by decide +kernel
theorem dX9_goesOn_255 : decode cX9_goesOn 255 = .ok (.aload_n 0, 1) := by decide +kernel
theorem dX9_goesOn_256 : decode cX9_goesOn 256 = .ok (.iload_n 2, 1) := by decide +kernel
theorem dX9_goesOn_257 : decode cX9_goesOn 257 = .ok (.invokevirtual 287, 3) := by decide +kernel
theorem dX9_goesOn_260 : decode cX9_goesOn 260 = .ok (.iadd, 1) := by decide +kernel
theorem dX9_goesOn_261 : decode cX9_goesOn 261 = .ok (.iastore, 1) := by decide +kernel
theorem dX9_goesOn_262 : decode cX9_goesOn 262 = .ok (.aload_n 0, 1) := by decide +kernel
theorem dX9_goesOn_263 : decode cX9_goesOn 263 = .ok (.dup, 1) := by decide +kernel
theorem dX9_goesOn_264 : decode cX9_goesOn 264 = .ok (.getfield 260, 3) := by decide +kernel
theorem dX9_goesOn_267 : decode cX9_goesOn 267 = .ok (.iconst 1, 1) := by decide +kernel
theorem dX9_goesOn_268 : decode cX9_goesOn 268 = .ok (.iadd, 1) := by decide +kernel
theorem dX9_goesOn_269 : decode cX9_goesOn 269 = .ok (.putfield 260, 3) := by decide +kernel
theorem dX9_goesOn_272 : decode cX9_goesOn 272 = .ok (.iinc 2 1, 3) := by decide +kernel
theorem dX9_goesOn_275 : decode cX9_goesOn 275 = .ok (.goto (-160), 3) := by decide +kernel
theorem dX9_goesOn_278 : decode cX9_goesOn 278 = .ok (.aload_n 0, 1) := by decide +kernel
theorem dX9_goesOn_279 : decode cX9_goesOn 279 = .ok (.getfield 66, 3) := by decide +kernel
theorem dX9_goesOn_282 : decode cX9_goesOn 282 = .ok (.iload_n 1, 1) := by decide +kernel
theorem dX9_goesOn_283 : decode cX9_goesOn 283 = .ok (.iconst 1, 1) := by decide +kernel
theorem dX9_goesOn_284 : decode cX9_goesOn 284 = .ok (.iadd, 1) := by decide +kernel
theorem dX9_goesOn_285 : decode cX9_goesOn 285 = .ok (.aload_n 0, 1) := by decide +kernel
theorem dX9_goesOn_286 : decode cX9_goesOn 286 = .ok (.getfield 260, 3) := by decide +kernel
theorem dX9_goesOn_289 : decode cX9_goesOn 289 = .ok (.iastore, 1) := by decide +kernel
theorem dX9_goesOn_290 : decode cX9_goesOn 290 = .ok (.aload_n 0, 1) := by decide +kernel
theorem dX9_goesOn_291 : decode cX9_goesOn 291 = .ok (.aload_n 0, 1) := by decide +kernel
theorem dX9_goesOn_292 : decode cX9_goesOn 292 = .ok (.getfield 236, 3) := by decide +kernel
theorem dX9_goesOn_295 : decode cX9_goesOn 295 = .ok (.ifCond .ne 14, 3) := by decide +kernel
theorem dX9_goesOn_298 : decode cX9_goesOn 298 = .ok (.aload_n 0, 1) := by decide +kernel
theorem dX9_goesOn_299 : decode cX9_goesOn 299 = .ok (.getfield 250, 3) := by decide +kernel
theorem dX9_goesOn_302 : decode cX9_goesOn 302 = .ok (.aload_n 0, 1) := by decide +kernel
theorem dX9_goesOn_303 : decode cX9_goesOn 303 = .ok (.getfield 224, 3) := by decide +kernel
theorem dX9_goesOn_306 : decode cX9_goesOn 306 = .ok (.if_icmp .ne 7, 3) := by decide +kernel
theorem dX9_goesOn_309 : decode cX9_goesOn 309 = .ok (.iconst 1, 1) := by decide +kernel
theorem dX9_goesOn_310 : decode cX9_goesOn 310 = .ok (.goto 4, 3) := by decide +kernel
theorem dX9_goesOn_313 : decode cX9_goesOn 313 = .ok (.iconst 0, 1) := by decide +kernel
theorem dX9_goesOn_314 : decode cX9_goesOn 314 = .ok (.putfield 236, 3) := by decide +kernel
theorem dX9_goesOn_317 : decode cX9_goesOn 317 = .ok (.return_, 1) := by decide +kernel
theorem dX9_drops_0 : decode cX9_drops 0 = .ok (.aload_n 0, 1) := by decide +kernel
theorem dX9_drops_1 : decode cX9_drops 1 = .ok (.iconst 0, 1) := by decide +kernel
theorem dX9_drops_2 : decode cX9_drops 2 = .ok (.putfield 142, 3) := by decide +kernel
theorem dX9_drops_5 : decode cX9_drops 5 = .ok (.aload_n 0, 1) := by decide +kernel
theorem dX9_drops_6 : decode cX9_drops 6 = .ok (.iconst 0, 1) := by decide +kernel
theorem dX9_drops_7 : decode cX9_drops 7 = .ok (.putfield 291, 3) := by decide +kernel
theorem dX9_drops_10 : decode cX9_drops 10 = .ok (.return_, 1) := by decide +kernel
theorem dX9_isProcess_0 : decode cX9_isProcess 0 = .ok (.iload_n 1, 1) := by decide +kernel
theorem dX9_isProcess_1 : decode cX9_isProcess 1 = .ok (.iconst 0, 1) := by decide +kernel
theorem dX9_isProcess_2 : decode cX9_isProcess 2 = .ok (.aload_n 0, 1) := by decide +kernel
theorem dX9_isProcess_3 : decode cX9_isProcess 3 = .ok (.getfield 161, 3) := by decide +kernel
theorem dX9_isProcess_6 : decode cX9_isProcess 6 = .ok (.iconst 1, 1) := by decide +kernel
theorem dX9_isProcess_7 : decode cX9_isProcess 7 = .ok (.isub, 1) := by decide +kernel
theorem dX9_isProcess_8 : decode cX9_isProcess 8 = .ok (.invokestatic 294, 3) := by decide +kernel
theorem dX9_isProcess_11 : decode cX9_isProcess 11 = .ok (.ireturn, 1) := by decide +kernel
theorem dX9_addProcess_0 : decode cX9_addProcess 0 = .ok (.aload_n 0, 1) := by decide +kernel
theorem dX9_addProcess_1 : decode cX9_addProcess 1 = .ok (.getfield 161, 3) := by decide +kernel
theorem dX9_addProcess_4 : decode cX9_addProcess 4 = .ok (.iconst 3, 1) := by decide +kernel
theorem dX9_addProcess_5 : decode cX9_addProcess 5 = .ok (.if_icmp .ne 9, 3) := by decide +kernel
theorem dX9_addProcess_8 : decode cX9_addProcess 8 = .ok (.aload_n 0, 1) := by decide +kernel
theorem dX9_addProcess_9 : decode cX9_addProcess 9 = .ok (.iconst 1, 1) := by decide +kernel
theorem dX9_addProcess_10 : decode cX9_addProcess 10 = .ok (.invokevirtual 297, 3) := by decide +kernel
theorem dX9_addProcess_13 : decode cX9_addProcess 13 = .ok (.ireturn, 1) := by decide +kernel
theorem dX9_addProcess_14 : decode cX9_addProcess 14 = .ok (.aload_n 0, 1) := by decide +kernel
theorem dX9_addProcess_15 : decode cX9_addProcess 15 = .ok (.invokevirtual 300, 3) := by decide +kernel
theorem dX9_addProcess_18 : decode cX9_addProcess 18 = .ok (.aload_n 0, 1) := by decide +kernel
theorem dX9_addProcess_19 : decode cX9_addProcess 19 = .ok (.dup, 1) := by decide +kernel
theorem dX9_addProcess_20 : decode cX9_addProcess 20 = .ok (.getfield 161, 3) := by decide +kernel
theorem dX9_addProcess_23 : decode cX9_addProcess 23 = .ok (.iconst 1, 1) := by decide +kernel
theorem dX9_addProcess_24 : decode cX9_addProcess 24 = .ok (.iadd, 1) := by decide +kernel
theorem dX9_addProcess_25 : decode cX9_addProcess 25 = .ok (.putfield 161, 3) := by decide +kernel
theorem dX9_addProcess_28 : decode cX9_addProcess 28 = .ok (.aload_n 0, 1) := by decide +kernel
theorem dX9_addProcess_29 : decode cX9_addProcess 29 = .ok (.getfield 161, 3) := by decide +kernel
theorem dX9_addProcess_32 : decode cX9_addProcess 32 = .ok (.iconst 1, 1) := by decide +kernel
theorem dX9_addProcess_33 : decode cX9_addProcess 33 = .ok (.isub, 1) := by decide +kernel
theorem dX9_addProcess_34 : decode cX9_addProcess 34 = .ok (.ireturn, 1) := by decide +kernel
theorem dX9_isOf_0 : decode cX9_isOf 0 = .ok (.iload_n 1, 1) := by decide +kernel
theorem dX9_isOf_1 : decode cX9_isOf 1 = .ok (.iconst 0, 1) := by decide +kernel
theorem dX9_isOf_2 : decode cX9_isOf 2 = .ok (.iconst 2, 1) := by decide +kernel
theorem dX9_isOf_3 : decode cX9_isOf 3 = .ok (.invokestatic 294, 3) := by decide +kernel
theorem dX9_isOf_6 : decode cX9_isOf 6 = .ok (.ifCond .ne 21, 3) := by decide +kernel
theorem dX9_isOf_9 : decode cX9_isOf 9 = .ok (.iload_n 1, 1) := by decide +kernel
theorem dX9_isOf_10 : decode cX9_isOf 10 = .ok (.iconst 3, 1) := by decide +kernel
theorem dX9_isOf_11 : decode cX9_isOf 11 = .ok (.iconst 2, 1) := by decide +kernel
theorem dX9_isOf_12 : decode cX9_isOf 12 = .ok (.iload_n 0, 1) := by decide +kernel
theorem dX9_isOf_13 : decode cX9_isOf 13 = .ok (.imul, 1) := by decide +kernel
theorem dX9_isOf_14 : decode cX9_isOf 14 = .ok (.iadd, 1) := by decide +kernel
theorem dX9_isOf_15 : decode cX9_isOf 15 = .ok (.if_icmp .eq 12, 3) := by decide +kernel
theorem dX9_isOf_18 : decode cX9_isOf 18 = .ok (.iload_n 1, 1) := by decide +kernel
theorem dX9_isOf_19 : decode cX9_isOf 19 = .ok (.iconst 4, 1) := by decide +kernel
theorem dX9_isOf_20 : decode cX9_isOf 20 = .ok (.iconst 2, 1) := by decide +kernel
theorem dX9_isOf_21 : decode cX9_isOf 21 = .ok (.iload_n 0, 1) := by decide +kernel
theorem dX9_isOf_22 : decode cX9_isOf 22 = .ok (.imul, 1) := by decide +kernel
theorem dX9_isOf_23 : decode cX9_isOf 23 = .ok (.iadd, 1) := by decide +kernel
theorem dX9_isOf_24 : decode cX9_isOf 24 = .ok (.if_icmp .ne 7, 3) := by decide +kernel
theorem dX9_isOf_27 : decode cX9_isOf 27 = .ok (.iconst 1, 1) := by decide +kernel
theorem dX9_isOf_28 : decode cX9_isOf 28 = .ok (.goto 4, 3) := by decide +kernel
theorem dX9_isOf_31 : decode cX9_isOf 31 = .ok (.iconst 0, 1) := by decide +kernel
theorem dX9_isOf_32 : decode cX9_isOf 32 = .ok (.ireturn, 1) := by decide +kernel
theorem dX9_isRight_0 : decode cX9_isRight 0 = .ok (.iload_n 2, 1) := by decide +kernel
theorem dX9_isRight_1 : decode cX9_isRight 1 = .ok (.bipush 107, 2) := by decide +kernel
theorem dX9_isRight_3 : decode cX9_isRight 3 = .ok (.if_icmp .ne 5, 3) := by decide +kernel
theorem dX9_isRight_6 : decode cX9_isRight 6 = .ok (.iconst 1, 1) := by decide +kernel
theorem dX9_isRight_7 : decode cX9_isRight 7 = .ok (.ireturn, 1) := by decide +kernel
theorem dX9_isRight_8 : decode cX9_isRight 8 = .ok (.iload_n 2, 1) := by decide +kernel
theorem dX9_isRight_9 : decode cX9_isRight 9 = .ok (.bipush 119, 2) := by decide +kernel
theorem dX9_isRight_11 : decode cX9_isRight 11 = .ok (.if_icmp .eq 9, 3) := by decide +kernel
theorem dX9_isRight_14 : decode cX9_isRight 14 = .ok (.iload_n 2, 1) := by decide +kernel
theorem dX9_isRight_15 : decode cX9_isRight 15 = .ok (.bipush 114, 2) := by decide +kernel
theorem dX9_isRight_17 : decode cX9_isRight 17 = .ok (.if_icmp .ne 32, 3) := by decide +kernel
theorem dX9_isRight_20 : decode cX9_isRight 20 = .ok (.iload_n 3, 1) := by decide +kernel
theorem dX9_isRight_21 : decode cX9_isRight 21 = .ok (.iconst 0, 1) := by decide +kernel
theorem dX9_isRight_22 : decode cX9_isRight 22 = .ok (.aload_n 0, 1) := by decide +kernel
theorem dX9_isRight_23 : decode cX9_isRight 23 = .ok (.getfield 303, 3) := by decide +kernel
theorem dX9_isRight_26 : decode cX9_isRight 26 = .ok (.iconst 1, 1) := by decide +kernel
theorem dX9_isRight_27 : decode cX9_isRight 27 = .ok (.isub, 1) := by decide +kernel
theorem dX9_isRight_28 : decode cX9_isRight 28 = .ok (.invokestatic 294, 3) := by decide +kernel
theorem dX9_isRight_31 : decode cX9_isRight 31 = .ok (.ifCond .eq 16, 3) := by decide +kernel
theorem dX9_isRight_34 : decode cX9_isRight 34 = .ok (.iload_n 1, 1) := by decide +kernel
theorem dX9_isRight_35 : decode cX9_isRight 35 = .ok (.iload 4, 2) := by decide +kernel
theorem dX9_isRight_37 : decode cX9_isRight 37 = .ok (.invokestatic 306, 3) := by decide +kernel
theorem dX9_isRight_40 : decode cX9_isRight 40 = .ok (.ifCond .eq 7, 3) := by decide +kernel
theorem dX9_isRight_43 : decode cX9_isRight 43 = .ok (.iconst 1, 1) := by decide +kernel
theorem dX9_isRight_44 : decode cX9_isRight 44 = .ok (.goto 4, 3) := by decide +kernel
theorem dX9_isRight_47 : decode cX9_isRight 47 = .ok (.iconst 0, 1) := by decide +kernel
theorem dX9_isRight_48 : decode cX9_isRight 48 = .ok (.ireturn, 1) := by decide +kernel
theorem dX9_isRight_49 : decode cX9_isRight 49 = .ok (.iload_n 2, 1) := by decide +kernel
theorem dX9_isRight_50 : decode cX9_isRight 50 = .ok (.bipush 115, 2) := by decide +kernel
theorem dX9_isRight_52 : decode cX9_isRight 52 = .ok (.if_icmp .eq 27, 3) := by decide +kernel
theorem dX9_isRight_55 : decode cX9_isRight 55 = .ok (.iload_n 2, 1) := by decide +kernel
theorem dX9_isRight_56 : decode cX9_isRight 56 = .ok (.bipush 105, 2) := by decide +kernel
theorem dX9_isRight_58 : decode cX9_isRight 58 = .ok (.if_icmp .eq 21, 3) := by decide +kernel
theorem dX9_isRight_61 : decode cX9_isRight 61 = .ok (.iload_n 2, 1) := by decide +kernel
theorem dX9_isRight_62 : decode cX9_isRight 62 = .ok (.bipush 61, 2) := by decide +kernel
theorem dX9_isRight_64 : decode cX9_isRight 64 = .ok (.if_icmp .eq 15, 3) := by decide +kernel
theorem dX9_isRight_67 : decode cX9_isRight 67 = .ok (.iload_n 2, 1) := by decide +kernel
theorem dX9_isRight_68 : decode cX9_isRight 68 = .ok (.bipush 33, 2) := by decide +kernel
theorem dX9_isRight_70 : decode cX9_isRight 70 = .ok (.if_icmp .eq 9, 3) := by decide +kernel
theorem dX9_isRight_73 : decode cX9_isRight 73 = .ok (.iload_n 2, 1) := by decide +kernel
theorem dX9_isRight_74 : decode cX9_isRight 74 = .ok (.bipush 97, 2) := by decide +kernel
theorem dX9_isRight_76 : decode cX9_isRight 76 = .ok (.if_icmp .ne 25, 3) := by decide +kernel
theorem dX9_isRight_79 : decode cX9_isRight 79 = .ok (.iload_n 1, 1) := by decide +kernel
theorem dX9_isRight_80 : decode cX9_isRight 80 = .ok (.iload_n 3, 1) := by decide +kernel
theorem dX9_isRight_81 : decode cX9_isRight 81 = .ok (.invokestatic 306, 3) := by decide +kernel
theorem dX9_isRight_84 : decode cX9_isRight 84 = .ok (.ifCond .eq 17, 3) := by decide +kernel
theorem dX9_isRight_87 : decode cX9_isRight 87 = .ok (.iload 4, 2) := by decide +kernel
theorem dX9_isRight_89 : decode cX9_isRight 89 = .ok (.iconst 0, 1) := by decide +kernel
theorem dX9_isRight_90 : decode cX9_isRight 90 = .ok (.iconst 3, 1) := by decide +kernel
theorem dX9_isRight_91 : decode cX9_isRight 91 = .ok (.invokestatic 294, 3) := by decide +kernel
theorem dX9_isRight_94 : decode cX9_isRight 94 = .ok (.ifCond .eq 7, 3) := by decide +kernel
theorem dX9_isRight_97 : decode cX9_isRight 97 = .ok (.iconst 1, 1) := by decide +kernel
theorem dX9_isRight_98 : decode cX9_isRight 98 = .ok (.goto 4, 3) := by decide +kernel
theorem dX9_isRight_101 : decode cX9_isRight 101 = .ok (.iconst 0, 1) := by decide +kernel
theorem dX9_isRight_102 : decode cX9_isRight 102 = .ok (.ireturn, 1) := by decide +kernel
theorem dX9_addStep_0 : decode cX9_addStep 0 = .ok (.aload_n 0, 1) := by decide +kernel
theorem dX9_addStep_1 : decode cX9_addStep 1 = .ok (.iload_n 1, 1) := by decide +kernel
theorem dX9_addStep_2 : decode cX9_addStep 2 = .ok (.invokevirtual 309, 3) := by decide +kernel
theorem dX9_addStep_5 : decode cX9_addStep 5 = .ok (.ifCond .ne 9, 3) := by decide +kernel
theorem dX9_addStep_8 : decode cX9_addStep 8 = .ok (.aload_n 0, 1) := by decide +kernel
theorem dX9_addStep_9 : decode cX9_addStep 9 = .ok (.iconst 1, 1) := by decide +kernel
theorem dX9_addStep_10 : decode cX9_addStep 10 = .ok (.invokevirtual 297, 3) := by decide +kernel
theorem dX9_addStep_13 : decode cX9_addStep 13 = .ok (.ireturn, 1) := by decide +kernel
theorem dX9_addStep_14 : decode cX9_addStep 14 = .ok (.iload_n 2, 1) := by decide +kernel
theorem dX9_addStep_15 : decode cX9_addStep 15 = .ok (.iconst 0, 1) := by decide +kernel
theorem dX9_addStep_16 : decode cX9_addStep 16 = .ok (.bipush 11, 2) := by decide +kernel
theorem dX9_addStep_18 : decode cX9_addStep 18 = .ok (.invokestatic 294, 3) := by decide +kernel
theorem dX9_addStep_21 : decode cX9_addStep 21 = .ok (.ifCond .eq 27, 3) := by decide +kernel
theorem dX9_addStep_24 : decode cX9_addStep 24 = .ok (.iload_n 3, 1) := by decide +kernel
theorem dX9_addStep_25 : decode cX9_addStep 25 = .ok (.iconst 0, 1) := by decide +kernel
theorem dX9_addStep_26 : decode cX9_addStep 26 = .ok (.bipush 11, 2) := by decide +kernel
theorem dX9_addStep_28 : decode cX9_addStep 28 = .ok (.invokestatic 294, 3) := by decide +kernel
theorem dX9_addStep_31 : decode cX9_addStep 31 = .ok (.ifCond .eq 17, 3) := by decide +kernel
theorem dX9_addStep_34 : decode cX9_addStep 34 = .ok (.aload_n 0, 1) := by decide +kernel
theorem dX9_addStep_35 : decode cX9_addStep 35 = .ok (.iload_n 1, 1) := by decide +kernel
theorem dX9_addStep_36 : decode cX9_addStep 36 = .ok (.iload 4, 2) := by decide +kernel
theorem dX9_addStep_38 : decode cX9_addStep 38 = .ok (.iload 5, 2) := by decide +kernel
theorem dX9_addStep_40 : decode cX9_addStep 40 = .ok (.iload 6, 2) := by decide +kernel
theorem dX9_addStep_42 : decode cX9_addStep 42 = .ok (.invokevirtual 312, 3) := by decide +kernel
theorem dX9_addStep_45 : decode cX9_addStep 45 = .ok (.ifCond .ne 9, 3) := by decide +kernel
theorem dX9_addStep_48 : decode cX9_addStep 48 = .ok (.aload_n 0, 1) := by decide +kernel
theorem dX9_addStep_49 : decode cX9_addStep 49 = .ok (.iconst 2, 1) := by decide +kernel
theorem dX9_addStep_50 : decode cX9_addStep 50 = .ok (.invokevirtual 297, 3) := by decide +kernel
theorem dX9_addStep_53 : decode cX9_addStep 53 = .ok (.ireturn, 1) := by decide +kernel
theorem dX9_addStep_54 : decode cX9_addStep 54 = .ok (.aload_n 0, 1) := by decide +kernel
theorem dX9_addStep_55 : decode cX9_addStep 55 = .ok (.getfield 7, 3) := by decide +kernel
theorem dX9_addStep_58 : decode cX9_addStep 58 = .ok (.iload_n 1, 1) := by decide +kernel
theorem dX9_addStep_59 : decode cX9_addStep 59 = .ok (.iaload, 1) := by decide +kernel
theorem dX9_addStep_60 : decode cX9_addStep 60 = .ok (.bipush 14, 2) := by decide +kernel
theorem dX9_addStep_62 : decode cX9_addStep 62 = .ok (.if_icmp .ne 9, 3) := by decide +kernel
theorem dX9_addStep_65 : decode cX9_addStep 65 = .ok (.aload_n 0, 1) := by decide +kernel
theorem dX9_addStep_66 : decode cX9_addStep 66 = .ok (.iconst 3, 1) := by decide +kernel
theorem dX9_addStep_67 : decode cX9_addStep 67 = .ok (.invokevirtual 297, 3) := by decide +kernel
theorem dX9_addStep_70 : decode cX9_addStep 70 = .ok (.ireturn, 1) := by decide +kernel
theorem dX9_addStep_71 : decode cX9_addStep 71 = .ok (.aload_n 0, 1) := by decide +kernel
theorem dX9_addStep_72 : decode cX9_addStep 72 = .ok (.invokevirtual 300, 3) := by decide +kernel
theorem dX9_addStep_75 : decode cX9_addStep 75 = .ok (.bipush 14, 2) := by decide +kernel
theorem dX9_addStep_77 : decode cX9_addStep 77 = .ok (.iload_n 1, 1) := by decide +kernel
theorem dX9_addStep_78 : decode cX9_addStep 78 = .ok (.imul, 1) := by decide +kernel
theorem dX9_addStep_79 : decode cX9_addStep 79 = .ok (.aload_n 0, 1) := by decide +kernel
theorem dX9_addStep_80 : decode cX9_addStep 80 = .ok (.getfield 7, 3) := by decide +kernel
theorem dX9_addStep_83 : decode cX9_addStep 83 = .ok (.iload_n 1, 1) := by decide +kernel
theorem dX9_addStep_84 : decode cX9_addStep 84 = .ok (.iaload, 1) := by decide +kernel
theorem dX9_addStep_85 : decode cX9_addStep 85 = .ok (.iadd, 1) := by decide +kernel
theorem dX9_addStep_86 : decode cX9_addStep 86 = .ok (.istore 7, 2) := by decide +kernel
theorem dX9_addStep_88 : decode cX9_addStep 88 = .ok (.aload_n 0, 1) := by decide +kernel
theorem dX9_addStep_89 : decode cX9_addStep 89 = .ok (.getfield 13, 3) := by decide +kernel
theorem dX9_addStep_92 : decode cX9_addStep 92 = .ok (.iload 7, 2) := by decide +kernel
theorem dX9_addStep_94 : decode cX9_addStep 94 = .ok (.iload_n 2, 1) := by decide +kernel
theorem dX9_addStep_95 : decode cX9_addStep 95 = .ok (.iastore, 1) := by decide +kernel
theorem dX9_addStep_96 : decode cX9_addStep 96 = .ok (.aload_n 0, 1) := by decide +kernel
theorem dX9_addStep_97 : decode cX9_addStep 97 = .ok (.getfield 16, 3) := by decide +kernel
theorem dX9_addStep_100 : decode cX9_addStep 100 = .ok (.iload 7, 2) := by decide +kernel
theorem dX9_addStep_102 : decode cX9_addStep 102 = .ok (.iload_n 3, 1) := by decide +kernel
theorem dX9_addStep_103 : decode cX9_addStep 103 = .ok (.iastore, 1) := by decide +kernel
theorem dX9_addStep_104 : decode cX9_addStep 104 = .ok (.aload_n 0, 1) := by decide +kernel
theorem dX9_addStep_105 : decode cX9_addStep 105 = .ok (.getfield 19, 3) := by decide +kernel
theorem dX9_addStep_108 : decode cX9_addStep 108 = .ok (.iload 7, 2) := by decide +kernel
theorem dX9_addStep_110 : decode cX9_addStep 110 = .ok (.iload 4, 2) := by decide +kernel
theorem dX9_addStep_112 : decode cX9_addStep 112 = .ok (.iastore, 1) := by decide +kernel
theorem dX9_addStep_113 : decode cX9_addStep 113 = .ok (.aload_n 0, 1) := by decide +kernel
theorem dX9_addStep_114 : decode cX9_addStep 114 = .ok (.getfield 22, 3) := by decide +kernel
theorem dX9_addStep_117 : decode cX9_addStep 117 = .ok (.iload 7, 2) := by decide +kernel
theorem dX9_addStep_119 : decode cX9_addStep 119 = .ok (.iload 5, 2) := by decide +kernel
theorem dX9_addStep_121 : decode cX9_addStep 121 = .ok (.iastore, 1) := by decide +kernel
theorem dX9_addStep_122 : decode cX9_addStep 122 = .ok (.aload_n 0, 1) := by decide +kernel
theorem dX9_addStep_123 : decode cX9_addStep 123 = .ok (.getfield 25, 3) := by decide +kernel
theorem dX9_addStep_126 : decode cX9_addStep 126 = .ok (.iload 7, 2) := by decide +kernel
theorem dX9_addStep_128 : decode cX9_addStep 128 = .ok (.iload 6, 2) := by decide +kernel
theorem dX9_addStep_130 : decode cX9_addStep 130 = .ok (.iastore, 1) := by decide +kernel
theorem dX9_addStep_131 : decode cX9_addStep 131 = .ok (.aload_n 0, 1) := by decide +kernel
theorem dX9_addStep_132 : decode cX9_addStep 132 = .ok (.getfield 7, 3) := by decide +kernel
theorem dX9_addStep_135 : decode cX9_addStep 135 = .ok (.iload_n 1, 1) := by decide +kernel
theorem dX9_addStep_136 : decode cX9_addStep 136 = .ok (.dup2, 1) := by decide +kernel
theorem dX9_addStep_137 : decode cX9_addStep 137 = .ok (.iaload, 1) := by decide +kernel
theorem dX9_addStep_138 : decode cX9_addStep 138 = .ok (.iconst 1, 1) := by decide +kernel
theorem dX9_addStep_139 : decode cX9_addStep 139 = .ok (.iadd, 1) := by decide +kernel
theorem dX9_addStep_140 : decode cX9_addStep 140 = .ok (.iastore, 1) := by decide +kernel
theorem dX9_addStep_141 : decode cX9_addStep 141 = .ok (.aload_n 0, 1) := by decide +kernel
theorem dX9_addStep_142 : decode cX9_addStep 142 = .ok (.getfield 7, 3) := by decide +kernel
theorem dX9_addStep_145 : decode cX9_addStep 145 = .ok (.iload_n 1, 1) := by decide +kernel
theorem dX9_addStep_146 : decode cX9_addStep 146 = .ok (.iaload, 1) := by decide +kernel
theorem dX9_addStep_147 : decode cX9_addStep 147 = .ok (.iconst 1, 1) := by decide +kernel
theorem dX9_addStep_148 : decode cX9_addStep 148 = .ok (.isub, 1) := by decide +kernel
theorem dX9_addStep_149 : decode cX9_addStep 149 = .ok (.ireturn, 1) := by decide +kernel
theorem dX9_addChannel_0 : decode cX9_addChannel 0 = .ok (.iload_n 1, 1) := by decide +kernel
theorem dX9_addChannel_1 : decode cX9_addChannel 1 = .ok (.iconst 0, 1) := by decide +kernel
theorem dX9_addChannel_2 : decode cX9_addChannel 2 = .ok (.iconst 2, 1) := by decide +kernel
theorem dX9_addChannel_3 : decode cX9_addChannel 3 = .ok (.invokestatic 294, 3) := by decide +kernel
theorem dX9_addChannel_6 : decode cX9_addChannel 6 = .ok (.ifCond .ne 9, 3) := by decide +kernel
theorem dX9_addChannel_9 : decode cX9_addChannel 9 = .ok (.aload_n 0, 1) := by decide +kernel
theorem dX9_addChannel_10 : decode cX9_addChannel 10 = .ok (.iconst 1, 1) := by decide +kernel
theorem dX9_addChannel_11 : decode cX9_addChannel 11 = .ok (.invokevirtual 297, 3) := by decide +kernel
theorem dX9_addChannel_14 : decode cX9_addChannel 14 = .ok (.ireturn, 1) := by decide +kernel
theorem dX9_addChannel_15 : decode cX9_addChannel 15 = .ok (.aload_n 0, 1) := by decide +kernel
theorem dX9_addChannel_16 : decode cX9_addChannel 16 = .ok (.getfield 303, 3) := by decide +kernel
theorem dX9_addChannel_19 : decode cX9_addChannel 19 = .ok (.iconst 2, 1) := by decide +kernel
theorem dX9_addChannel_20 : decode cX9_addChannel 20 = .ok (.if_icmp .ne 9, 3) := by decide +kernel
theorem dX9_addChannel_23 : decode cX9_addChannel 23 = .ok (.aload_n 0, 1) := by decide +kernel
theorem dX9_addChannel_24 : decode cX9_addChannel 24 = .ok (.iconst 2, 1) := by decide +kernel
theorem dX9_addChannel_25 : decode cX9_addChannel 25 = .ok (.invokevirtual 297, 3) := by decide +kernel
theorem dX9_addChannel_28 : decode cX9_addChannel 28 = .ok (.ireturn, 1) := by decide +kernel
theorem dX9_addChannel_29 : decode cX9_addChannel 29 = .ok (.aload_n 0, 1) := by decide +kernel
theorem dX9_addChannel_30 : decode cX9_addChannel 30 = .ok (.invokevirtual 300, 3) := by decide +kernel
theorem dX9_addChannel_33 : decode cX9_addChannel 33 = .ok (.aload_n 0, 1) := by decide +kernel
theorem dX9_addChannel_34 : decode cX9_addChannel 34 = .ok (.getfield 28, 3) := by decide +kernel
theorem dX9_addChannel_37 : decode cX9_addChannel 37 = .ok (.aload_n 0, 1) := by decide +kernel
theorem dX9_addChannel_38 : decode cX9_addChannel 38 = .ok (.getfield 303, 3) := by decide +kernel
theorem dX9_addChannel_41 : decode cX9_addChannel 41 = .ok (.iload_n 1, 1) := by decide +kernel
theorem dX9_addChannel_42 : decode cX9_addChannel 42 = .ok (.iastore, 1) := by decide +kernel
theorem dX9_addChannel_43 : decode cX9_addChannel 43 = .ok (.aload_n 0, 1) := by decide +kernel
theorem dX9_addChannel_44 : decode cX9_addChannel 44 = .ok (.dup, 1) := by decide +kernel
theorem dX9_addChannel_45 : decode cX9_addChannel 45 = .ok (.getfield 303, 3) := by decide +kernel
theorem dX9_addChannel_48 : decode cX9_addChannel 48 = .ok (.iconst 1, 1) := by decide +kernel
theorem dX9_addChannel_49 : decode cX9_addChannel 49 = .ok (.iadd, 1) := by decide +kernel
theorem dX9_addChannel_50 : decode cX9_addChannel 50 = .ok (.putfield 303, 3) := by decide +kernel
theorem dX9_addChannel_53 : decode cX9_addChannel 53 = .ok (.aload_n 0, 1) := by decide +kernel
theorem dX9_addChannel_54 : decode cX9_addChannel 54 = .ok (.getfield 303, 3) := by decide +kernel
theorem dX9_addChannel_57 : decode cX9_addChannel 57 = .ok (.iconst 1, 1) := by decide +kernel
theorem dX9_addChannel_58 : decode cX9_addChannel 58 = .ok (.isub, 1) := by decide +kernel
theorem dX9_addChannel_59 : decode cX9_addChannel 59 = .ok (.ireturn, 1) := by decide +kernel
theorem dX9_setStart_0 : decode cX9_setStart 0 = .ok (.iload_n 1, 1) := by decide +kernel
theorem dX9_setStart_1 : decode cX9_setStart 1 = .ok (.iconst 0, 1) := by decide +kernel
theorem dX9_setStart_2 : decode cX9_setStart 2 = .ok (.bipush 8, 2) := by decide +kernel
theorem dX9_setStart_4 : decode cX9_setStart 4 = .ok (.invokestatic 294, 3) := by decide +kernel
theorem dX9_setStart_7 : decode cX9_setStart 7 = .ok (.ifCond .eq 12, 3) := by decide +kernel
theorem dX9_setStart_10 : decode cX9_setStart 10 = .ok (.iload_n 2, 1) := by decide +kernel
theorem dX9_setStart_11 : decode cX9_setStart 11 = .ok (.iconst 0, 1) := by decide +kernel
theorem dX9_setStart_12 : decode cX9_setStart 12 = .ok (.iconst 3, 1) := by decide +kernel
theorem dX9_setStart_13 : decode cX9_setStart 13 = .ok (.invokestatic 294, 3) := by decide +kernel
theorem dX9_setStart_16 : decode cX9_setStart 16 = .ok (.ifCond .ne 9, 3) := by decide +kernel
theorem dX9_setStart_19 : decode cX9_setStart 19 = .ok (.aload_n 0, 1) := by decide +kernel
theorem dX9_setStart_20 : decode cX9_setStart 20 = .ok (.iconst 1, 1) := by decide +kernel
theorem dX9_setStart_21 : decode cX9_setStart 21 = .ok (.invokevirtual 297, 3) := by decide +kernel
theorem dX9_setStart_24 : decode cX9_setStart 24 = .ok (.ireturn, 1) := by decide +kernel
theorem dX9_setStart_25 : decode cX9_setStart 25 = .ok (.aload_n 0, 1) := by decide +kernel
theorem dX9_setStart_26 : decode cX9_setStart 26 = .ok (.invokevirtual 300, 3) := by decide +kernel
theorem dX9_setStart_29 : decode cX9_setStart 29 = .ok (.aload_n 0, 1) := by decide +kernel
theorem dX9_setStart_30 : decode cX9_setStart 30 = .ok (.getfield 31, 3) := by decide +kernel
theorem dX9_setStart_33 : decode cX9_setStart 33 = .ok (.iload_n 1, 1) := by decide +kernel
theorem dX9_setStart_34 : decode cX9_setStart 34 = .ok (.iaload, 1) := by decide +kernel
theorem dX9_setStart_35 : decode cX9_setStart 35 = .ok (.istore_n 3, 1) := by decide +kernel
theorem dX9_setStart_36 : decode cX9_setStart 36 = .ok (.aload_n 0, 1) := by decide +kernel
theorem dX9_setStart_37 : decode cX9_setStart 37 = .ok (.getfield 31, 3) := by decide +kernel
theorem dX9_setStart_40 : decode cX9_setStart 40 = .ok (.iload_n 1, 1) := by decide +kernel
theorem dX9_setStart_41 : decode cX9_setStart 41 = .ok (.iload_n 2, 1) := by decide +kernel
theorem dX9_setStart_42 : decode cX9_setStart 42 = .ok (.iastore, 1) := by decide +kernel
theorem dX9_setStart_43 : decode cX9_setStart 43 = .ok (.iload_n 3, 1) := by decide +kernel
theorem dX9_setStart_44 : decode cX9_setStart 44 = .ok (.ireturn, 1) := by decide +kernel
theorem dX9_setMarks_0 : decode cX9_setMarks 0 = .ok (.aload_n 0, 1) := by decide +kernel
theorem dX9_setMarks_1 : decode cX9_setMarks 1 = .ok (.aload_n 0, 1) := by decide +kernel
theorem dX9_setMarks_2 : decode cX9_setMarks 2 = .ok (.iload_n 1, 1) := by decide +kernel
theorem dX9_setMarks_3 : decode cX9_setMarks 3 = .ok (.invokevirtual 309, 3) := by decide +kernel
theorem dX9_setMarks_6 : decode cX9_setMarks 6 = .ok (.ifCond .ne 7, 3) := by decide +kernel
theorem dX9_setMarks_9 : decode cX9_setMarks 9 = .ok (.iconst 1, 1) := by decide +kernel
theorem dX9_setMarks_10 : decode cX9_setMarks 10 = .ok (.goto 18, 3) := by decide +kernel
theorem dX9_setMarks_13 : decode cX9_setMarks 13 = .ok (.iload_n 2, 1) := by decide +kernel
theorem dX9_setMarks_14 : decode cX9_setMarks 14 = .ok (.iconst 0, 1) := by decide +kernel
theorem dX9_setMarks_15 : decode cX9_setMarks 15 = .ok (.bipush 11, 2) := by decide +kernel
theorem dX9_setMarks_17 : decode cX9_setMarks 17 = .ok (.invokestatic 294, 3) := by decide +kernel
theorem dX9_setMarks_20 : decode cX9_setMarks 20 = .ok (.ifCond .ne 7, 3) := by decide +kernel
theorem dX9_setMarks_23 : decode cX9_setMarks 23 = .ok (.iconst 2, 1) := by decide +kernel
theorem dX9_setMarks_24 : decode cX9_setMarks 24 = .ok (.goto 4, 3) := by decide +kernel
theorem dX9_setMarks_27 : decode cX9_setMarks 27 = .ok (.iconst 0, 1) := by decide +kernel
theorem dX9_setMarks_28 : decode cX9_setMarks 28 = .ok (.putfield 142, 3) := by decide +kernel
theorem dX9_setMarks_31 : decode cX9_setMarks 31 = .ok (.aload_n 0, 1) := by decide +kernel
theorem dX9_setMarks_32 : decode cX9_setMarks 32 = .ok (.getfield 142, 3) := by decide +kernel
theorem dX9_setMarks_35 : decode cX9_setMarks 35 = .ok (.ifCond .le 5, 3) := by decide +kernel
theorem dX9_setMarks_38 : decode cX9_setMarks 38 = .ok (.iconst 0, 1) := by decide +kernel
theorem dX9_setMarks_39 : decode cX9_setMarks 39 = .ok (.ireturn, 1) := by decide +kernel
theorem dX9_setMarks_40 : decode cX9_setMarks 40 = .ok (.aload_n 0, 1) := by decide +kernel
theorem dX9_setMarks_41 : decode cX9_setMarks 41 = .ok (.invokevirtual 300, 3) := by decide +kernel
theorem dX9_setMarks_44 : decode cX9_setMarks 44 = .ok (.bipush 12, 2) := by decide +kernel
theorem dX9_setMarks_46 : decode cX9_setMarks 46 = .ok (.iload_n 1, 1) := by decide +kernel
theorem dX9_setMarks_47 : decode cX9_setMarks 47 = .ok (.imul, 1) := by decide +kernel
theorem dX9_setMarks_48 : decode cX9_setMarks 48 = .ok (.iload_n 2, 1) := by decide +kernel
theorem dX9_setMarks_49 : decode cX9_setMarks 49 = .ok (.iadd, 1) := by decide +kernel
theorem dX9_setMarks_50 : decode cX9_setMarks 50 = .ok (.istore 5, 2) := by decide +kernel
theorem dX9_setMarks_52 : decode cX9_setMarks 52 = .ok (.aload_n 0, 1) := by decide +kernel
theorem dX9_setMarks_53 : decode cX9_setMarks 53 = .ok (.getfield 40, 3) := by decide +kernel
theorem dX9_setMarks_56 : decode cX9_setMarks 56 = .ok (.iload 5, 2) := by decide +kernel
theorem dX9_setMarks_58 : decode cX9_setMarks 58 = .ok (.baload, 1) := by decide +kernel
theorem dX9_setMarks_59 : decode cX9_setMarks 59 = .ok (.iload_n 3, 1) := by decide +kernel
theorem dX9_setMarks_60 : decode cX9_setMarks 60 = .ok (.if_icmp .ne 15, 3) := by decide +kernel
theorem dX9_setMarks_63 : decode cX9_setMarks 63 = .ok (.aload_n 0, 1) := by decide +kernel
theorem dX9_setMarks_64 : decode cX9_setMarks 64 = .ok (.getfield 44, 3) := by decide +kernel
theorem dX9_setMarks_67 : decode cX9_setMarks 67 = .ok (.iload 5, 2) := by decide +kernel
theorem dX9_setMarks_69 : decode cX9_setMarks 69 = .ok (.baload, 1) := by decide +kernel
theorem dX9_setMarks_70 : decode cX9_setMarks 70 = .ok (.iload 4, 2) := by decide +kernel
theorem dX9_setMarks_72 : decode cX9_setMarks 72 = .ok (.if_icmp .eq 7, 3) := by decide +kernel
theorem dX9_setMarks_75 : decode cX9_setMarks 75 = .ok (.iconst 1, 1) := by decide +kernel
theorem dX9_setMarks_76 : decode cX9_setMarks 76 = .ok (.goto 4, 3) := by decide +kernel
theorem dX9_setMarks_79 : decode cX9_setMarks 79 = .ok (.iconst 0, 1) := by decide +kernel
theorem dX9_setMarks_80 : decode cX9_setMarks 80 = .ok (.istore 6, 2) := by decide +kernel
theorem dX9_setMarks_82 : decode cX9_setMarks 82 = .ok (.aload_n 0, 1) := by decide +kernel
theorem dX9_setMarks_83 : decode cX9_setMarks 83 = .ok (.getfield 40, 3) := by decide +kernel
theorem dX9_setMarks_86 : decode cX9_setMarks 86 = .ok (.iload 5, 2) := by decide +kernel
theorem dX9_setMarks_88 : decode cX9_setMarks 88 = .ok (.iload_n 3, 1) := by decide +kernel
theorem dX9_setMarks_89 : decode cX9_setMarks 89 = .ok (.bastore, 1) := by decide +kernel
theorem dX9_setMarks_90 : decode cX9_setMarks 90 = .ok (.aload_n 0, 1) := by decide +kernel
theorem dX9_setMarks_91 : decode cX9_setMarks 91 = .ok (.getfield 44, 3) := by decide +kernel
theorem dX9_setMarks_94 : decode cX9_setMarks 94 = .ok (.iload 5, 2) := by decide +kernel
theorem dX9_setMarks_96 : decode cX9_setMarks 96 = .ok (.iload 4, 2) := by decide +kernel
theorem dX9_setMarks_98 : decode cX9_setMarks 98 = .ok (.bastore, 1) := by decide +kernel
theorem dX9_setMarks_99 : decode cX9_setMarks 99 = .ok (.iload 6, 2) := by decide +kernel
theorem dX9_setMarks_101 : decode cX9_setMarks 101 = .ok (.ireturn, 1) := by decide +kernel
theorem dX9_addInvariant_0 : decode cX9_addInvariant 0 = .ok (.iload_n 1, 1) := by decide +kernel
theorem dX9_addInvariant_1 : decode cX9_addInvariant 1 = .ok (.iconst 0, 1) := by decide +kernel
theorem dX9_addInvariant_2 : decode cX9_addInvariant 2 = .ok (.bipush 8, 2) := by decide +kernel
theorem dX9_addInvariant_4 : decode cX9_addInvariant 4 = .ok (.invokestatic 294, 3) := by decide +kernel
theorem dX9_addInvariant_7 : decode cX9_addInvariant 7 = .ok (.ifCond .eq 12, 3) := by decide +kernel
theorem dX9_addInvariant_10 : decode cX9_addInvariant 10 = .ok (.iload_n 2, 1) := by decide +kernel
theorem dX9_addInvariant_11 : decode cX9_addInvariant 11 = .ok (.iconst 0, 1) := by decide +kernel
theorem dX9_addInvariant_12 : decode cX9_addInvariant 12 = .ok (.iconst 3, 1) := by decide +kernel
theorem dX9_addInvariant_13 : decode cX9_addInvariant 13 = .ok (.invokestatic 294, 3) := by decide +kernel
theorem dX9_addInvariant_16 : decode cX9_addInvariant 16 = .ok (.ifCond .ne 9, 3) := by decide +kernel
theorem dX9_addInvariant_19 : decode cX9_addInvariant 19 = .ok (.aload_n 0, 1) := by decide +kernel
theorem dX9_addInvariant_20 : decode cX9_addInvariant 20 = .ok (.iconst 1, 1) := by decide +kernel
theorem dX9_addInvariant_21 : decode cX9_addInvariant 21 = .ok (.invokevirtual 297, 3) := by decide +kernel
theorem dX9_addInvariant_24 : decode cX9_addInvariant 24 = .ok (.ireturn, 1) := by decide +kernel
theorem dX9_addInvariant_25 : decode cX9_addInvariant 25 = .ok (.aload_n 0, 1) := by decide +kernel
theorem dX9_addInvariant_26 : decode cX9_addInvariant 26 = .ok (.getfield 227, 3) := by decide +kernel
theorem dX9_addInvariant_29 : decode cX9_addInvariant 29 = .ok (.iconst 4, 1) := by decide +kernel
theorem dX9_addInvariant_30 : decode cX9_addInvariant 30 = .ok (.if_icmp .ne 9, 3) := by decide +kernel
theorem dX9_addInvariant_33 : decode cX9_addInvariant 33 = .ok (.aload_n 0, 1) := by decide +kernel
theorem dX9_addInvariant_34 : decode cX9_addInvariant 34 = .ok (.iconst 2, 1) := by decide +kernel
theorem dX9_addInvariant_35 : decode cX9_addInvariant 35 = .ok (.invokevirtual 297, 3) := by decide +kernel
theorem dX9_addInvariant_38 : decode cX9_addInvariant 38 = .ok (.ireturn, 1) := by decide +kernel
theorem dX9_addInvariant_39 : decode cX9_addInvariant 39 = .ok (.aload_n 0, 1) := by decide +kernel
theorem dX9_addInvariant_40 : decode cX9_addInvariant 40 = .ok (.invokevirtual 300, 3) := by decide +kernel
theorem dX9_addInvariant_43 : decode cX9_addInvariant 43 = .ok (.aload_n 0, 1) := by decide +kernel
theorem dX9_addInvariant_44 : decode cX9_addInvariant 44 = .ok (.getfield 34, 3) := by decide +kernel
theorem dX9_addInvariant_47 : decode cX9_addInvariant 47 = .ok (.aload_n 0, 1) := by decide +kernel
theorem dX9_addInvariant_48 : decode cX9_addInvariant 48 = .ok (.getfield 227, 3) := by decide +kernel
theorem dX9_addInvariant_51 : decode cX9_addInvariant 51 = .ok (.iload_n 1, 1) := by decide +kernel
theorem dX9_addInvariant_52 : decode cX9_addInvariant 52 = .ok (.iastore, 1) := by decide +kernel
theorem dX9_addInvariant_53 : decode cX9_addInvariant 53 = .ok (.aload_n 0, 1) := by decide +kernel
theorem dX9_addInvariant_54 : decode cX9_addInvariant 54 = .ok (.getfield 37, 3) := by decide +kernel
theorem dX9_addInvariant_57 : decode cX9_addInvariant 57 = .ok (.aload_n 0, 1) := by decide +kernel
theorem dX9_addInvariant_58 : decode cX9_addInvariant 58 = .ok (.getfield 227, 3) := by decide +kernel
theorem dX9_addInvariant_61 : decode cX9_addInvariant 61 = .ok (.iload_n 2, 1) := by decide +kernel
theorem dX9_addInvariant_62 : decode cX9_addInvariant 62 = .ok (.iastore, 1) := by decide +kernel
theorem dX9_addInvariant_63 : decode cX9_addInvariant 63 = .ok (.aload_n 0, 1) := by decide +kernel
theorem dX9_addInvariant_64 : decode cX9_addInvariant 64 = .ok (.dup, 1) := by decide +kernel
theorem dX9_addInvariant_65 : decode cX9_addInvariant 65 = .ok (.getfield 227, 3) := by decide +kernel
theorem dX9_addInvariant_68 : decode cX9_addInvariant 68 = .ok (.iconst 1, 1) := by decide +kernel
theorem dX9_addInvariant_69 : decode cX9_addInvariant 69 = .ok (.iadd, 1) := by decide +kernel
theorem dX9_addInvariant_70 : decode cX9_addInvariant 70 = .ok (.putfield 227, 3) := by decide +kernel
theorem dX9_addInvariant_73 : decode cX9_addInvariant 73 = .ok (.aload_n 0, 1) := by decide +kernel
theorem dX9_addInvariant_74 : decode cX9_addInvariant 74 = .ok (.getfield 227, 3) := by decide +kernel
theorem dX9_addInvariant_77 : decode cX9_addInvariant 77 = .ok (.ireturn, 1) := by decide +kernel
theorem dX9_areAlike_0 : decode cX9_areAlike 0 = .ok (.aload_n 0, 1) := by decide +kernel
theorem dX9_areAlike_1 : decode cX9_areAlike 1 = .ok (.aload_n 0, 1) := by decide +kernel
theorem dX9_areAlike_2 : decode cX9_areAlike 2 = .ok (.iload_n 1, 1) := by decide +kernel
theorem dX9_areAlike_3 : decode cX9_areAlike 3 = .ok (.invokevirtual 309, 3) := by decide +kernel
theorem dX9_areAlike_6 : decode cX9_areAlike 6 = .ok (.ifCond .eq 15, 3) := by decide +kernel
theorem dX9_areAlike_9 : decode cX9_areAlike 9 = .ok (.aload_n 0, 1) := by decide +kernel
theorem dX9_areAlike_10 : decode cX9_areAlike 10 = .ok (.iload_n 2, 1) := by decide +kernel
theorem dX9_areAlike_11 : decode cX9_areAlike 11 = .ok (.invokevirtual 309, 3) := by decide +kernel
theorem dX9_areAlike_14 : decode cX9_areAlike 14 = .ok (.ifCond .eq 7, 3) := by decide +kernel
theorem dX9_areAlike_17 : decode cX9_areAlike 17 = .ok (.iconst 0, 1) := by decide +kernel
theorem dX9_areAlike_18 : decode cX9_areAlike 18 = .ok (.goto 4, 3) := by decide +kernel
theorem dX9_areAlike_21 : decode cX9_areAlike 21 = .ok (.iconst 1, 1) := by decide +kernel
theorem dX9_areAlike_22 : decode cX9_areAlike 22 = .ok (.putfield 142, 3) := by decide +kernel
theorem dX9_areAlike_25 : decode cX9_areAlike 25 = .ok (.aload_n 0, 1) := by decide +kernel
theorem dX9_areAlike_26 : decode cX9_areAlike 26 = .ok (.getfield 142, 3) := by decide +kernel
theorem dX9_areAlike_29 : decode cX9_areAlike 29 = .ok (.ifCond .ne 16, 3) := by decide +kernel
theorem dX9_areAlike_32 : decode cX9_areAlike 32 = .ok (.aload_n 0, 1) := by decide +kernel
theorem dX9_areAlike_33 : decode cX9_areAlike 33 = .ok (.iload_n 1, 1) := by decide +kernel
theorem dX9_areAlike_34 : decode cX9_areAlike 34 = .ok (.iload_n 2, 1) := by decide +kernel
theorem dX9_areAlike_35 : decode cX9_areAlike 35 = .ok (.invokevirtual 195, 3) := by decide +kernel
theorem dX9_areAlike_38 : decode cX9_areAlike 38 = .ok (.ifCond .eq 7, 3) := by decide +kernel
theorem dX9_areAlike_41 : decode cX9_areAlike 41 = .ok (.iconst 1, 1) := by decide +kernel
theorem dX9_areAlike_42 : decode cX9_areAlike 42 = .ok (.goto 4, 3) := by decide +kernel
theorem dX9_areAlike_45 : decode cX9_areAlike 45 = .ok (.iconst 0, 1) := by decide +kernel
theorem dX9_areAlike_46 : decode cX9_areAlike 46 = .ok (.ireturn, 1) := by decide +kernel
theorem dX9_isBarred_0 : decode cX9_isBarred 0 = .ok (.iconst 0, 1) := by decide +kernel
theorem dX9_isBarred_1 : decode cX9_isBarred 1 = .ok (.istore_n 1, 1) := by decide +kernel
theorem dX9_isBarred_2 : decode cX9_isBarred 2 = .ok (.iload_n 1, 1) := by decide +kernel
theorem dX9_isBarred_3 : decode cX9_isBarred 3 = .ok (.aload_n 0, 1) := by decide +kernel
theorem dX9_isBarred_4 : decode cX9_isBarred 4 = .ok (.getfield 227, 3) := by decide +kernel
theorem dX9_isBarred_7 : decode cX9_isBarred 7 = .ok (.if_icmp .ge 82, 3) := by decide +kernel
theorem dX9_isBarred_10 : decode cX9_isBarred 10 = .ok (.aload_n 0, 1) := by decide +kernel
theorem dX9_isBarred_11 : decode cX9_isBarred 11 = .ok (.getfield 34, 3) := by decide +kernel
theorem dX9_isBarred_14 : decode cX9_isBarred 14 = .ok (.iload_n 1, 1) := by decide +kernel
theorem dX9_isBarred_15 : decode cX9_isBarred 15 = .ok (.iaload, 1) := by decide +kernel
theorem dX9_isBarred_16 : decode cX9_isBarred 16 = .ok (.iconst 3, 1) := by decide +kernel
theorem dX9_isBarred_17 : decode cX9_isBarred 17 = .ok (.if_icmp .ge 7, 3) := by decide +kernel
theorem dX9_isBarred_20 : decode cX9_isBarred 20 = .ok (.iconst (-1), 1) := by decide +kernel
theorem dX9_isBarred_21 : decode cX9_isBarred 21 = .ok (.goto 13, 3) := by decide +kernel
theorem dX9_isBarred_24 : decode cX9_isBarred 24 = .ok (.aload_n 0, 1) := by decide +kernel
theorem dX9_isBarred_25 : decode cX9_isBarred 25 = .ok (.getfield 34, 3) := by decide +kernel
theorem dX9_isBarred_28 : decode cX9_isBarred 28 = .ok (.iload_n 1, 1) := by decide +kernel
theorem dX9_isBarred_29 : decode cX9_isBarred 29 = .ok (.iaload, 1) := by decide +kernel
theorem dX9_isBarred_30 : decode cX9_isBarred 30 = .ok (.iconst 3, 1) := by decide +kernel
theorem dX9_isBarred_31 : decode cX9_isBarred 31 = .ok (.isub, 1) := by decide +kernel
theorem dX9_isBarred_32 : decode cX9_isBarred 32 = .ok (.iconst 2, 1) := by decide +kernel
theorem dX9_isBarred_33 : decode cX9_isBarred 33 = .ok (.idiv, 1) := by decide +kernel
theorem dX9_isBarred_34 : decode cX9_isBarred 34 = .ok (.istore_n 2, 1) := by decide +kernel
theorem dX9_isBarred_35 : decode cX9_isBarred 35 = .ok (.iload_n 2, 1) := by decide +kernel
theorem dX9_isBarred_36 : decode cX9_isBarred 36 = .ok (.iconst (-1), 1) := by decide +kernel
theorem dX9_isBarred_37 : decode cX9_isBarred 37 = .ok (.if_icmp .eq 46, 3) := by decide +kernel
theorem dX9_isBarred_40 : decode cX9_isBarred 40 = .ok (.iload_n 2, 1) := by decide +kernel
theorem dX9_isBarred_41 : decode cX9_isBarred 41 = .ok (.aload_n 0, 1) := by decide +kernel
theorem dX9_isBarred_42 : decode cX9_isBarred 42 = .ok (.getfield 161, 3) := by decide +kernel
theorem dX9_isBarred_45 : decode cX9_isBarred 45 = .ok (.if_icmp .lt 6, 3) := by decide +kernel
theorem dX9_isBarred_48 : decode cX9_isBarred 48 = .ok (.goto 35, 3) := by decide +kernel
theorem dX9_isBarred_51 : decode cX9_isBarred 51 = .ok (.iconst 0, 1) := by decide +kernel
theorem dX9_isBarred_52 : decode cX9_isBarred 52 = .ok (.istore_n 3, 1) := by decide +kernel
theorem dX9_isBarred_53 : decode cX9_isBarred 53 = .ok (.iload_n 3, 1) := by decide +kernel
theorem dX9_isBarred_54 : decode cX9_isBarred 54 = .ok (.aload_n 0, 1) := by decide +kernel
theorem dX9_isBarred_55 : decode cX9_isBarred 55 = .ok (.getfield 161, 3) := by decide +kernel
theorem dX9_isBarred_58 : decode cX9_isBarred 58 = .ok (.if_icmp .ge 25, 3) := by decide +kernel
theorem dX9_isBarred_61 : decode cX9_isBarred 61 = .ok (.iload_n 3, 1) := by decide +kernel
theorem dX9_isBarred_62 : decode cX9_isBarred 62 = .ok (.iload_n 2, 1) := by decide +kernel
theorem dX9_isBarred_63 : decode cX9_isBarred 63 = .ok (.if_icmp .eq 14, 3) := by decide +kernel
theorem dX9_isBarred_66 : decode cX9_isBarred 66 = .ok (.aload_n 0, 1) := by decide +kernel
theorem dX9_isBarred_67 : decode cX9_isBarred 67 = .ok (.iload_n 2, 1) := by decide +kernel
theorem dX9_isBarred_68 : decode cX9_isBarred 68 = .ok (.iload_n 3, 1) := by decide +kernel
theorem dX9_isBarred_69 : decode cX9_isBarred 69 = .ok (.invokevirtual 195, 3) := by decide +kernel
theorem dX9_isBarred_72 : decode cX9_isBarred 72 = .ok (.ifCond .eq 5, 3) := by decide +kernel
theorem dX9_isBarred_75 : decode cX9_isBarred 75 = .ok (.iconst 1, 1) := by decide +kernel
theorem dX9_isBarred_76 : decode cX9_isBarred 76 = .ok (.ireturn, 1) := by decide +kernel
theorem dX9_isBarred_77 : decode cX9_isBarred 77 = .ok (.iinc 3 1, 3) := by decide +kernel
theorem dX9_isBarred_80 : decode cX9_isBarred 80 = .ok (.goto (-27), 3) := by decide +kernel
theorem dX9_isBarred_83 : decode cX9_isBarred 83 = .ok (.iinc 1 1, 3) := by decide +kernel
theorem dX9_isBarred_86 : decode cX9_isBarred 86 = .ok (.goto (-84), 3) := by decide +kernel
theorem dX9_isBarred_89 : decode cX9_isBarred 89 = .ok (.iconst 0, 1) := by decide +kernel
theorem dX9_isBarred_90 : decode cX9_isBarred 90 = .ok (.ireturn, 1) := by decide +kernel
theorem dX9_verdictNow_0 : decode cX9_verdictNow 0 = .ok (.aload_n 0, 1) := by decide +kernel
theorem dX9_verdictNow_1 : decode cX9_verdictNow 1 = .ok (.getfield 230, 3) := by decide +kernel
theorem dX9_verdictNow_4 : decode cX9_verdictNow 4 = .ok (.ifCond .le 8, 3) := by decide +kernel
theorem dX9_verdictNow_7 : decode cX9_verdictNow 7 = .ok (.bipush 102, 2) := by decide +kernel
theorem dX9_verdictNow_9 : decode cX9_verdictNow 9 = .ok (.goto 36, 3) := by decide +kernel
theorem dX9_verdictNow_12 : decode cX9_verdictNow 12 = .ok (.aload_n 0, 1) := by decide +kernel
theorem dX9_verdictNow_13 : decode cX9_verdictNow 13 = .ok (.getfield 205, 3) := by decide +kernel
theorem dX9_verdictNow_16 : decode cX9_verdictNow 16 = .ok (.bipush 104, 2) := by decide +kernel
theorem dX9_verdictNow_18 : decode cX9_verdictNow 18 = .ok (.if_icmp .eq 25, 3) := by decide +kernel
theorem dX9_verdictNow_21 : decode cX9_verdictNow 21 = .ok (.aload_n 0, 1) := by decide +kernel
theorem dX9_verdictNow_22 : decode cX9_verdictNow 22 = .ok (.getfield 236, 3) := by decide +kernel
theorem dX9_verdictNow_25 : decode cX9_verdictNow 25 = .ok (.ifCond .eq 18, 3) := by decide +kernel
theorem dX9_verdictNow_28 : decode cX9_verdictNow 28 = .ok (.aload_n 0, 1) := by decide +kernel
theorem dX9_verdictNow_29 : decode cX9_verdictNow 29 = .ok (.getfield 224, 3) := by decide +kernel
theorem dX9_verdictNow_32 : decode cX9_verdictNow 32 = .ok (.sipush 2000, 3) := by decide +kernel
theorem dX9_verdictNow_35 : decode cX9_verdictNow 35 = .ok (.if_icmp .ge 8, 3) := by decide +kernel
theorem dX9_verdictNow_38 : decode cX9_verdictNow 38 = .ok (.bipush 110, 2) := by decide +kernel
theorem dX9_verdictNow_40 : decode cX9_verdictNow 40 = .ok (.goto 5, 3) := by decide +kernel
theorem dX9_verdictNow_43 : decode cX9_verdictNow 43 = .ok (.bipush 63, 2) := by decide +kernel
theorem dX9_verdictNow_45 : decode cX9_verdictNow 45 = .ok (.ireturn, 1) := by decide +kernel
theorem dX9_begin_0 : decode cX9_begin 0 = .ok (.aload_n 0, 1) := by decide +kernel
theorem dX9_begin_1 : decode cX9_begin 1 = .ok (.iload_n 1, 1) := by decide +kernel
theorem dX9_begin_2 : decode cX9_begin 2 = .ok (.bipush 97, 2) := by decide +kernel
theorem dX9_begin_4 : decode cX9_begin 4 = .ok (.if_icmp .eq 25, 3) := by decide +kernel
theorem dX9_begin_7 : decode cX9_begin 7 = .ok (.iload_n 1, 1) := by decide +kernel
theorem dX9_begin_8 : decode cX9_begin 8 = .ok (.bipush 112, 2) := by decide +kernel
theorem dX9_begin_10 : decode cX9_begin 10 = .ok (.if_icmp .eq 19, 3) := by decide +kernel
theorem dX9_begin_13 : decode cX9_begin 13 = .ok (.iload_n 1, 1) := by decide +kernel
theorem dX9_begin_14 : decode cX9_begin 14 = .ok (.bipush 115, 2) := by decide +kernel
theorem dX9_begin_16 : decode cX9_begin 16 = .ok (.if_icmp .eq 13, 3) := by decide +kernel
theorem dX9_begin_19 : decode cX9_begin 19 = .ok (.iload_n 1, 1) := by decide +kernel
theorem dX9_begin_20 : decode cX9_begin 20 = .ok (.bipush 104, 2) := by decide +kernel
theorem dX9_begin_22 : decode cX9_begin 22 = .ok (.if_icmp .eq 7, 3) := by decide +kernel
theorem dX9_begin_25 : decode cX9_begin 25 = .ok (.iconst 1, 1) := by decide +kernel
theorem dX9_begin_26 : decode cX9_begin 26 = .ok (.goto 21, 3) := by decide +kernel
theorem dX9_begin_29 : decode cX9_begin 29 = .ok (.iload_n 1, 1) := by decide +kernel
theorem dX9_begin_30 : decode cX9_begin 30 = .ok (.bipush 115, 2) := by decide +kernel
theorem dX9_begin_32 : decode cX9_begin 32 = .ok (.if_icmp .ne 14, 3) := by decide +kernel
theorem dX9_begin_35 : decode cX9_begin 35 = .ok (.aload_n 0, 1) := by decide +kernel
theorem dX9_begin_36 : decode cX9_begin 36 = .ok (.invokevirtual 316, 3) := by decide +kernel
theorem dX9_begin_39 : decode cX9_begin 39 = .ok (.ifCond .eq 7, 3) := by decide +kernel
theorem dX9_begin_42 : decode cX9_begin 42 = .ok (.iconst 2, 1) := by decide +kernel
theorem dX9_begin_43 : decode cX9_begin 43 = .ok (.goto 4, 3) := by decide +kernel
theorem dX9_begin_46 : decode cX9_begin 46 = .ok (.iconst 0, 1) := by decide +kernel
theorem dX9_begin_47 : decode cX9_begin 47 = .ok (.putfield 142, 3) := by decide +kernel
theorem dX9_begin_50 : decode cX9_begin 50 = .ok (.aload_n 0, 1) := by decide +kernel
theorem dX9_begin_51 : decode cX9_begin 51 = .ok (.getfield 142, 3) := by decide +kernel
theorem dX9_begin_54 : decode cX9_begin 54 = .ok (.ifCond .le 5, 3) := by decide +kernel
theorem dX9_begin_57 : decode cX9_begin 57 = .ok (.iconst 0, 1) := by decide +kernel
theorem dX9_begin_58 : decode cX9_begin 58 = .ok (.ireturn, 1) := by decide +kernel
theorem dX9_begin_59 : decode cX9_begin 59 = .ok (.aload_n 0, 1) := by decide +kernel
theorem dX9_begin_60 : decode cX9_begin 60 = .ok (.iload_n 1, 1) := by decide +kernel
theorem dX9_begin_61 : decode cX9_begin 61 = .ok (.putfield 205, 3) := by decide +kernel
theorem dX9_begin_64 : decode cX9_begin 64 = .ok (.aload_n 0, 1) := by decide +kernel
theorem dX9_begin_65 : decode cX9_begin 65 = .ok (.iconst 1, 1) := by decide +kernel
theorem dX9_begin_66 : decode cX9_begin 66 = .ok (.putfield 291, 3) := by decide +kernel
theorem dX9_begin_69 : decode cX9_begin 69 = .ok (.aload_n 0, 1) := by decide +kernel
theorem dX9_begin_70 : decode cX9_begin 70 = .ok (.iconst 0, 1) := by decide +kernel
theorem dX9_begin_71 : decode cX9_begin 71 = .ok (.putfield 236, 3) := by decide +kernel
theorem dX9_begin_74 : decode cX9_begin 74 = .ok (.aload_n 0, 1) := by decide +kernel
theorem dX9_begin_75 : decode cX9_begin 75 = .ok (.iconst 0, 1) := by decide +kernel
theorem dX9_begin_76 : decode cX9_begin 76 = .ok (.putfield 224, 3) := by decide +kernel
theorem dX9_begin_79 : decode cX9_begin 79 = .ok (.aload_n 0, 1) := by decide +kernel
theorem dX9_begin_80 : decode cX9_begin 80 = .ok (.iconst 0, 1) := by decide +kernel
theorem dX9_begin_81 : decode cX9_begin 81 = .ok (.putfield 250, 3) := by decide +kernel
theorem dX9_begin_84 : decode cX9_begin 84 = .ok (.aload_n 0, 1) := by decide +kernel
theorem dX9_begin_85 : decode cX9_begin 85 = .ok (.iconst 0, 1) := by decide +kernel
theorem dX9_begin_86 : decode cX9_begin 86 = .ok (.putfield 230, 3) := by decide +kernel
theorem dX9_begin_89 : decode cX9_begin 89 = .ok (.aload_n 0, 1) := by decide +kernel
theorem dX9_begin_90 : decode cX9_begin 90 = .ok (.lconst 0, 1) := by decide +kernel
theorem dX9_begin_91 : decode cX9_begin 91 = .ok (.putfield 276, 3) := by decide +kernel
theorem dX9_begin_94 : decode cX9_begin 94 = .ok (.aload_n 0, 1) := by decide +kernel
theorem dX9_begin_95 : decode cX9_begin 95 = .ok (.iconst 0, 1) := by decide +kernel
theorem dX9_begin_96 : decode cX9_begin 96 = .ok (.putfield 260, 3) := by decide +kernel
theorem dX9_begin_99 : decode cX9_begin 99 = .ok (.iconst 0, 1) := by decide +kernel
theorem dX9_begin_100 : decode cX9_begin 100 = .ok (.istore_n 2, 1) := by decide +kernel
theorem dX9_begin_101 : decode cX9_begin 101 = .ok (.iload_n 2, 1) := by decide +kernel
theorem dX9_begin_102 : decode cX9_begin 102 = .ok (.sipush 8192, 3) := by decide +kernel
theorem dX9_begin_105 : decode cX9_begin 105 = .ok (.if_icmp .ge 16, 3) := by decide +kernel
theorem dX9_begin_108 : decode cX9_begin 108 = .ok (.aload_n 0, 1) := by decide +kernel
theorem dX9_begin_109 : decode cX9_begin 109 = .ok (.getfield 60, 3) := by decide +kernel
theorem dX9_begin_112 : decode cX9_begin 112 = .ok (.iload_n 2, 1) := by decide +kernel
theorem dX9_begin_113 : decode cX9_begin 113 = .ok (.iconst 0, 1) := by decide +kernel
theorem dX9_begin_114 : decode cX9_begin 114 = .ok (.iastore, 1) := by decide +kernel
theorem dX9_begin_115 : decode cX9_begin 115 = .ok (.iinc 2 1, 3) := by decide +kernel
theorem dX9_begin_118 : decode cX9_begin 118 = .ok (.goto (-17), 3) := by decide +kernel
theorem dX9_begin_121 : decode cX9_begin 121 = .ok (.iconst 0, 1) := by decide +kernel
theorem dX9_begin_122 : decode cX9_begin 122 = .ok (.istore_n 2, 1) := by decide +kernel
theorem dX9_begin_123 : decode cX9_begin 123 = .ok (.iload_n 2, 1) := by decide +kernel
theorem dX9_begin_124 : decode cX9_begin 124 = .ok (.sipush 509, 3) := by decide +kernel
theorem dX9_begin_127 : decode cX9_begin 127 = .ok (.if_icmp .ge 16, 3) := by decide +kernel
theorem dX9_begin_130 : decode cX9_begin 130 = .ok (.aload_n 0, 1) := by decide +kernel
theorem dX9_begin_131 : decode cX9_begin 131 = .ok (.getfield 63, 3) := by decide +kernel
theorem dX9_begin_134 : decode cX9_begin 134 = .ok (.iload_n 2, 1) := by decide +kernel
theorem dX9_begin_135 : decode cX9_begin 135 = .ok (.iconst 0, 1) := by decide +kernel
theorem dX9_begin_136 : decode cX9_begin 136 = .ok (.bastore, 1) := by decide +kernel
theorem dX9_begin_137 : decode cX9_begin 137 = .ok (.iinc 2 1, 3) := by decide +kernel
theorem dX9_begin_140 : decode cX9_begin 140 = .ok (.goto (-17), 3) := by decide +kernel
theorem dX9_begin_143 : decode cX9_begin 143 = .ok (.iconst 0, 1) := by decide +kernel
theorem dX9_begin_144 : decode cX9_begin 144 = .ok (.istore_n 2, 1) := by decide +kernel
theorem dX9_begin_145 : decode cX9_begin 145 = .ok (.iload_n 2, 1) := by decide +kernel
theorem dX9_begin_146 : decode cX9_begin 146 = .ok (.iconst 3, 1) := by decide +kernel
theorem dX9_begin_147 : decode cX9_begin 147 = .ok (.if_icmp .ge 16, 3) := by decide +kernel
theorem dX9_begin_150 : decode cX9_begin 150 = .ok (.aload_n 0, 1) := by decide +kernel
theorem dX9_begin_151 : decode cX9_begin 151 = .ok (.getfield 85, 3) := by decide +kernel
theorem dX9_begin_154 : decode cX9_begin 154 = .ok (.iload_n 2, 1) := by decide +kernel
theorem dX9_begin_155 : decode cX9_begin 155 = .ok (.iconst 0, 1) := by decide +kernel
theorem dX9_begin_156 : decode cX9_begin 156 = .ok (.iastore, 1) := by decide +kernel
theorem dX9_begin_157 : decode cX9_begin 157 = .ok (.iinc 2 1, 3) := by decide +kernel
theorem dX9_begin_160 : decode cX9_begin 160 = .ok (.goto (-15), 3) := by decide +kernel
theorem dX9_begin_163 : decode cX9_begin 163 = .ok (.iconst 0, 1) := by decide +kernel
theorem dX9_begin_164 : decode cX9_begin 164 = .ok (.istore_n 2, 1) := by decide +kernel
theorem dX9_begin_165 : decode cX9_begin 165 = .ok (.iload_n 2, 1) := by decide +kernel
theorem dX9_begin_166 : decode cX9_begin 166 = .ok (.bipush 9, 2) := by decide +kernel
theorem dX9_begin_168 : decode cX9_begin 168 = .ok (.if_icmp .ge 21, 3) := by decide +kernel
theorem dX9_begin_171 : decode cX9_begin 171 = .ok (.aload_n 0, 1) := by decide +kernel
theorem dX9_begin_172 : decode cX9_begin 172 = .ok (.getfield 88, 3) := by decide +kernel
theorem dX9_begin_175 : decode cX9_begin 175 = .ok (.iload_n 2, 1) := by decide +kernel
theorem dX9_begin_176 : decode cX9_begin 176 = .ok (.aload_n 0, 1) := by decide +kernel
theorem dX9_begin_177 : decode cX9_begin 177 = .ok (.getfield 31, 3) := by decide +kernel
theorem dX9_begin_180 : decode cX9_begin 180 = .ok (.iload_n 2, 1) := by decide +kernel
theorem dX9_begin_181 : decode cX9_begin 181 = .ok (.iaload, 1) := by decide +kernel
theorem dX9_begin_182 : decode cX9_begin 182 = .ok (.iastore, 1) := by decide +kernel
theorem dX9_begin_183 : decode cX9_begin 183 = .ok (.iinc 2 1, 3) := by decide +kernel
theorem dX9_begin_186 : decode cX9_begin 186 = .ok (.goto (-21), 3) := by decide +kernel
theorem dX9_begin_189 : decode cX9_begin 189 = .ok (.iconst 0, 1) := by decide +kernel
theorem dX9_begin_190 : decode cX9_begin 190 = .ok (.istore_n 2, 1) := by decide +kernel
theorem dX9_begin_191 : decode cX9_begin 191 = .ok (.iload_n 2, 1) := by decide +kernel
theorem dX9_begin_192 : decode cX9_begin 192 = .ok (.iconst 2, 1) := by decide +kernel
theorem dX9_begin_193 : decode cX9_begin 193 = .ok (.if_icmp .ge 16, 3) := by decide +kernel
theorem dX9_begin_196 : decode cX9_begin 196 = .ok (.aload_n 0, 1) := by decide +kernel
theorem dX9_begin_197 : decode cX9_begin 197 = .ok (.getfield 91, 3) := by decide +kernel
theorem dX9_begin_200 : decode cX9_begin 200 = .ok (.iload_n 2, 1) := by decide +kernel
theorem dX9_begin_201 : decode cX9_begin 201 = .ok (.iconst 0, 1) := by decide +kernel
theorem dX9_begin_202 : decode cX9_begin 202 = .ok (.iastore, 1) := by decide +kernel
theorem dX9_begin_203 : decode cX9_begin 203 = .ok (.iinc 2 1, 3) := by decide +kernel
theorem dX9_begin_206 : decode cX9_begin 206 = .ok (.goto (-15), 3) := by decide +kernel
theorem dX9_begin_209 : decode cX9_begin 209 = .ok (.iconst 0, 1) := by decide +kernel
theorem dX9_begin_210 : decode cX9_begin 210 = .ok (.istore_n 2, 1) := by decide +kernel
theorem dX9_begin_211 : decode cX9_begin 211 = .ok (.iload_n 2, 1) := by decide +kernel
theorem dX9_begin_212 : decode cX9_begin 212 = .ok (.iconst 4, 1) := by decide +kernel
theorem dX9_begin_213 : decode cX9_begin 213 = .ok (.if_icmp .ge 16, 3) := by decide +kernel
theorem dX9_begin_216 : decode cX9_begin 216 = .ok (.aload_n 0, 1) := by decide +kernel
theorem dX9_begin_217 : decode cX9_begin 217 = .ok (.getfield 94, 3) := by decide +kernel
theorem dX9_begin_220 : decode cX9_begin 220 = .ok (.iload_n 2, 1) := by decide +kernel
theorem dX9_begin_221 : decode cX9_begin 221 = .ok (.iconst 0, 1) := by decide +kernel
theorem dX9_begin_222 : decode cX9_begin 222 = .ok (.iastore, 1) := by decide +kernel
theorem dX9_begin_223 : decode cX9_begin 223 = .ok (.iinc 2 1, 3) := by decide +kernel
theorem dX9_begin_226 : decode cX9_begin 226 = .ok (.goto (-15), 3) := by decide +kernel
theorem dX9_begin_229 : decode cX9_begin 229 = .ok (.aload_n 0, 1) := by decide +kernel
theorem dX9_begin_230 : decode cX9_begin 230 = .ok (.aload_n 0, 1) := by decide +kernel
theorem dX9_begin_231 : decode cX9_begin 231 = .ok (.invokevirtual 280, 3) := by decide +kernel
theorem dX9_begin_234 : decode cX9_begin 234 = .ok (.iconst (-1), 1) := by decide +kernel
theorem dX9_begin_235 : decode cX9_begin 235 = .ok (.iconst 0, 1) := by decide +kernel
theorem dX9_begin_236 : decode cX9_begin 236 = .ok (.invokevirtual 283, 3) := by decide +kernel
theorem dX9_begin_239 : decode cX9_begin 239 = .ok (.aload_n 0, 1) := by decide +kernel
theorem dX9_begin_240 : decode cX9_begin 240 = .ok (.invokevirtual 319, 3) := by decide +kernel
theorem dX9_begin_243 : decode cX9_begin 243 = .ok (.i2c, 1) := by decide +kernel
theorem dX9_begin_244 : decode cX9_begin 244 = .ok (.ireturn, 1) := by decide +kernel
theorem dX9_isThere_0 : decode cX9_isThere 0 = .ok (.aload_n 0, 1) := by decide +kernel
theorem dX9_isThere_1 : decode cX9_isThere 1 = .ok (.aload_n 0, 1) := by decide +kernel
theorem dX9_isThere_2 : decode cX9_isThere 2 = .ok (.getfield 291, 3) := by decide +kernel
theorem dX9_isThere_5 : decode cX9_isThere 5 = .ok (.ifCond .eq 7, 3) := by decide +kernel
theorem dX9_isThere_8 : decode cX9_isThere 8 = .ok (.iconst 0, 1) := by decide +kernel
theorem dX9_isThere_9 : decode cX9_isThere 9 = .ok (.goto 4, 3) := by decide +kernel
theorem dX9_isThere_12 : decode cX9_isThere 12 = .ok (.iconst 1, 1) := by decide +kernel
theorem dX9_isThere_13 : decode cX9_isThere 13 = .ok (.putfield 142, 3) := by decide +kernel
theorem dX9_isThere_16 : decode cX9_isThere 16 = .ok (.aload_n 0, 1) := by decide +kernel
theorem dX9_isThere_17 : decode cX9_isThere 17 = .ok (.getfield 291, 3) := by decide +kernel
theorem dX9_isThere_20 : decode cX9_isThere 20 = .ok (.ireturn, 1) := by decide +kernel
theorem dX9_search_0 : decode cX9_search 0 = .ok (.aload_n 0, 1) := by decide +kernel
theorem dX9_search_1 : decode cX9_search 1 = .ok (.invokevirtual 323, 3) := by decide +kernel
theorem dX9_search_4 : decode cX9_search 4 = .ok (.ifCond .ne 5, 3) := by decide +kernel
theorem dX9_search_7 : decode cX9_search 7 = .ok (.iconst 0, 1) := by decide +kernel
theorem dX9_search_8 : decode cX9_search 8 = .ok (.ireturn, 1) := by decide +kernel
theorem dX9_search_9 : decode cX9_search 9 = .ok (.iload_n 1, 1) := by decide +kernel
theorem dX9_search_10 : decode cX9_search 10 = .ok (.iconst 1, 1) := by decide +kernel
theorem dX9_search_11 : decode cX9_search 11 = .ok (.sipush 500, 3) := by decide +kernel
theorem dX9_search_14 : decode cX9_search 14 = .ok (.invokestatic 294, 3) := by decide +kernel
theorem dX9_search_17 : decode cX9_search 17 = .ok (.ifCond .ne 9, 3) := by decide +kernel
theorem dX9_search_20 : decode cX9_search 20 = .ok (.aload_n 0, 1) := by decide +kernel
theorem dX9_search_21 : decode cX9_search 21 = .ok (.iconst 2, 1) := by decide +kernel
theorem dX9_search_22 : decode cX9_search 22 = .ok (.invokevirtual 297, 3) := by decide +kernel
theorem dX9_search_25 : decode cX9_search 25 = .ok (.ireturn, 1) := by decide +kernel
theorem dX9_search_26 : decode cX9_search 26 = .ok (.aload_n 0, 1) := by decide +kernel
theorem dX9_search_27 : decode cX9_search 27 = .ok (.getfield 224, 3) := by decide +kernel
theorem dX9_search_30 : decode cX9_search 30 = .ok (.istore_n 2, 1) := by decide +kernel
theorem dX9_search_31 : decode cX9_search 31 = .ok (.iconst 0, 1) := by decide +kernel
theorem dX9_search_32 : decode cX9_search 32 = .ok (.istore_n 3, 1) := by decide +kernel
theorem dX9_search_33 : decode cX9_search 33 = .ok (.iload_n 3, 1) := by decide +kernel
theorem dX9_search_34 : decode cX9_search 34 = .ok (.iload_n 1, 1) := by decide +kernel
theorem dX9_search_35 : decode cX9_search 35 = .ok (.if_icmp .ge 20, 3) := by decide +kernel
theorem dX9_search_38 : decode cX9_search 38 = .ok (.aload_n 0, 1) := by decide +kernel
theorem dX9_search_39 : decode cX9_search 39 = .ok (.getfield 236, 3) := by decide +kernel
theorem dX9_search_42 : decode cX9_search 42 = .ok (.ifCond .ne 13, 3) := by decide +kernel
theorem dX9_search_45 : decode cX9_search 45 = .ok (.aload_n 0, 1) := by decide +kernel
theorem dX9_search_46 : decode cX9_search 46 = .ok (.invokevirtual 326, 3) := by decide +kernel
theorem dX9_search_49 : decode cX9_search 49 = .ok (.iinc 3 1, 3) := by decide +kernel
theorem dX9_search_52 : decode cX9_search 52 = .ok (.goto (-19), 3) := by decide +kernel
theorem dX9_search_55 : decode cX9_search 55 = .ok (.aload_n 0, 1) := by decide +kernel
theorem dX9_search_56 : decode cX9_search 56 = .ok (.getfield 224, 3) := by decide +kernel
theorem dX9_search_59 : decode cX9_search 59 = .ok (.iload_n 2, 1) := by decide +kernel
theorem dX9_search_60 : decode cX9_search 60 = .ok (.isub, 1) := by decide +kernel
theorem dX9_search_61 : decode cX9_search 61 = .ok (.ireturn, 1) := by decide +kernel
theorem dX9_verdict_0 : decode cX9_verdict 0 = .ok (.aload_n 0, 1) := by decide +kernel
theorem dX9_verdict_1 : decode cX9_verdict 1 = .ok (.invokevirtual 323, 3) := by decide +kernel
theorem dX9_verdict_4 : decode cX9_verdict 4 = .ok (.ifCond .eq 10, 3) := by decide +kernel
theorem dX9_verdict_7 : decode cX9_verdict 7 = .ok (.aload_n 0, 1) := by decide +kernel
theorem dX9_verdict_8 : decode cX9_verdict 8 = .ok (.invokevirtual 319, 3) := by decide +kernel
theorem dX9_verdict_11 : decode cX9_verdict 11 = .ok (.goto 4, 3) := by decide +kernel
theorem dX9_verdict_14 : decode cX9_verdict 14 = .ok (.iconst 0, 1) := by decide +kernel
theorem dX9_verdict_15 : decode cX9_verdict 15 = .ok (.i2c, 1) := by decide +kernel
theorem dX9_verdict_16 : decode cX9_verdict 16 = .ok (.ireturn, 1) := by decide +kernel
theorem dX9_states_0 : decode cX9_states 0 = .ok (.aload_n 0, 1) := by decide +kernel
theorem dX9_states_1 : decode cX9_states 1 = .ok (.invokevirtual 323, 3) := by decide +kernel
theorem dX9_states_4 : decode cX9_states 4 = .ok (.ifCond .eq 10, 3) := by decide +kernel
theorem dX9_states_7 : decode cX9_states 7 = .ok (.aload_n 0, 1) := by decide +kernel
theorem dX9_states_8 : decode cX9_states 8 = .ok (.getfield 224, 3) := by decide +kernel
theorem dX9_states_11 : decode cX9_states 11 = .ok (.goto 4, 3) := by decide +kernel
theorem dX9_states_14 : decode cX9_states 14 = .ok (.iconst 0, 1) := by decide +kernel
theorem dX9_states_15 : decode cX9_states 15 = .ok (.ireturn, 1) := by decide +kernel
theorem dX9_goneOn_0 : decode cX9_goneOn 0 = .ok (.aload_n 0, 1) := by decide +kernel
theorem dX9_goneOn_1 : decode cX9_goneOn 1 = .ok (.invokevirtual 323, 3) := by decide +kernel
theorem dX9_goneOn_4 : decode cX9_goneOn 4 = .ok (.ifCond .eq 10, 3) := by decide +kernel
theorem dX9_goneOn_7 : decode cX9_goneOn 7 = .ok (.aload_n 0, 1) := by decide +kernel
theorem dX9_goneOn_8 : decode cX9_goneOn 8 = .ok (.getfield 250, 3) := by decide +kernel
theorem dX9_goneOn_11 : decode cX9_goneOn 11 = .ok (.goto 4, 3) := by decide +kernel
theorem dX9_goneOn_14 : decode cX9_goneOn 14 = .ok (.iconst 0, 1) := by decide +kernel
theorem dX9_goneOn_15 : decode cX9_goneOn 15 = .ok (.ireturn, 1) := by decide +kernel
theorem dX9_isState_0 : decode cX9_isState 0 = .ok (.aload_n 0, 1) := by decide +kernel
theorem dX9_isState_1 : decode cX9_isState 1 = .ok (.invokevirtual 323, 3) := by decide +kernel
theorem dX9_isState_4 : decode cX9_isState 4 = .ok (.ifCond .eq 22, 3) := by decide +kernel
theorem dX9_isState_7 : decode cX9_isState 7 = .ok (.iload_n 1, 1) := by decide +kernel
theorem dX9_isState_8 : decode cX9_isState 8 = .ok (.iconst 0, 1) := by decide +kernel
theorem dX9_isState_9 : decode cX9_isState 9 = .ok (.aload_n 0, 1) := by decide +kernel
theorem dX9_isState_10 : decode cX9_isState 10 = .ok (.getfield 224, 3) := by decide +kernel
theorem dX9_isState_13 : decode cX9_isState 13 = .ok (.iconst 1, 1) := by decide +kernel
theorem dX9_isState_14 : decode cX9_isState 14 = .ok (.isub, 1) := by decide +kernel
theorem dX9_isState_15 : decode cX9_isState 15 = .ok (.invokestatic 294, 3) := by decide +kernel
theorem dX9_isState_18 : decode cX9_isState 18 = .ok (.ifCond .ne 8, 3) := by decide +kernel
theorem dX9_isState_21 : decode cX9_isState 21 = .ok (.aload_n 0, 1) := by decide +kernel
theorem dX9_isState_22 : decode cX9_isState 22 = .ok (.iconst 2, 1) := by decide +kernel
theorem dX9_isState_23 : decode cX9_isState 23 = .ok (.putfield 142, 3) := by decide +kernel
theorem dX9_isState_26 : decode cX9_isState 26 = .ok (.aload_n 0, 1) := by decide +kernel
theorem dX9_isState_27 : decode cX9_isState 27 = .ok (.getfield 142, 3) := by decide +kernel
theorem dX9_isState_30 : decode cX9_isState 30 = .ok (.ifCond .ne 7, 3) := by decide +kernel
theorem dX9_isState_33 : decode cX9_isState 33 = .ok (.iconst 1, 1) := by decide +kernel
theorem dX9_isState_34 : decode cX9_isState 34 = .ok (.goto 4, 3) := by decide +kernel
theorem dX9_isState_37 : decode cX9_isState 37 = .ok (.iconst 0, 1) := by decide +kernel
theorem dX9_isState_38 : decode cX9_isState 38 = .ok (.ireturn, 1) := by decide +kernel
theorem dX9_codeOf_0 : decode cX9_codeOf 0 = .ok (.aload_n 0, 1) := by decide +kernel
theorem dX9_codeOf_1 : decode cX9_codeOf 1 = .ok (.iload_n 1, 1) := by decide +kernel
theorem dX9_codeOf_2 : decode cX9_codeOf 2 = .ok (.invokevirtual 329, 3) := by decide +kernel
theorem dX9_codeOf_5 : decode cX9_codeOf 5 = .ok (.ifCond .eq 12, 3) := by decide +kernel
theorem dX9_codeOf_8 : decode cX9_codeOf 8 = .ok (.aload_n 0, 1) := by decide +kernel
theorem dX9_codeOf_9 : decode cX9_codeOf 9 = .ok (.getfield 47, 3) := by decide +kernel
theorem dX9_codeOf_12 : decode cX9_codeOf 12 = .ok (.iload_n 1, 1) := by decide +kernel
theorem dX9_codeOf_13 : decode cX9_codeOf 13 = .ok (.laload, 1) := by decide +kernel
theorem dX9_codeOf_14 : decode cX9_codeOf 14 = .ok (.goto 4, 3) := by decide +kernel
theorem dX9_codeOf_17 : decode cX9_codeOf 17 = .ok (.lconst 0, 1) := by decide +kernel
theorem dX9_codeOf_18 : decode cX9_codeOf 18 = .ok (.lreturn, 1) := by decide +kernel
theorem dX9_movesOf_0 : decode cX9_movesOf 0 = .ok (.aload_n 0, 1) := by decide +kernel
theorem dX9_movesOf_1 : decode cX9_movesOf 1 = .ok (.aload_n 0, 1) := by decide +kernel
theorem dX9_movesOf_2 : decode cX9_movesOf 2 = .ok (.getfield 47, 3) := by decide +kernel
theorem dX9_movesOf_5 : decode cX9_movesOf 5 = .ok (.iload_n 1, 1) := by decide +kernel
theorem dX9_movesOf_6 : decode cX9_movesOf 6 = .ok (.laload, 1) := by decide +kernel
theorem dX9_movesOf_7 : decode cX9_movesOf 7 = .ok (.invokevirtual 253, 3) := by decide +kernel
theorem dX9_movesOf_10 : decode cX9_movesOf 10 = .ok (.aload_n 0, 1) := by decide +kernel
theorem dX9_movesOf_11 : decode cX9_movesOf 11 = .ok (.invokevirtual 257, 3) := by decide +kernel
theorem dX9_movesOf_14 : decode cX9_movesOf 14 = .ok (.aload_n 0, 1) := by decide +kernel
theorem dX9_movesOf_15 : decode cX9_movesOf 15 = .ok (.getfield 158, 3) := by decide +kernel
theorem dX9_movesOf_18 : decode cX9_movesOf 18 = .ok (.ireturn, 1) := by decide +kernel
theorem dX9_moves_0 : decode cX9_moves 0 = .ok (.aload_n 0, 1) := by decide +kernel
theorem dX9_moves_1 : decode cX9_moves 1 = .ok (.iload_n 1, 1) := by decide +kernel
theorem dX9_moves_2 : decode cX9_moves 2 = .ok (.invokevirtual 329, 3) := by decide +kernel
theorem dX9_moves_5 : decode cX9_moves 5 = .ok (.ifCond .eq 11, 3) := by decide +kernel
theorem dX9_moves_8 : decode cX9_moves 8 = .ok (.aload_n 0, 1) := by decide +kernel
theorem dX9_moves_9 : decode cX9_moves 9 = .ok (.iload_n 1, 1) := by decide +kernel
theorem dX9_moves_10 : decode cX9_moves 10 = .ok (.invokevirtual 332, 3) := by decide +kernel
theorem dX9_moves_13 : decode cX9_moves 13 = .ok (.goto 4, 3) := by decide +kernel
theorem dX9_moves_16 : decode cX9_moves 16 = .ok (.iconst 0, 1) := by decide +kernel
theorem dX9_moves_17 : decode cX9_moves 17 = .ok (.ireturn, 1) := by decide +kernel
theorem dX9_reached_0 : decode cX9_reached 0 = .ok (.aload_n 0, 1) := by decide +kernel
theorem dX9_reached_1 : decode cX9_reached 1 = .ok (.iload_n 1, 1) := by decide +kernel
theorem dX9_reached_2 : decode cX9_reached 2 = .ok (.invokevirtual 329, 3) := by decide +kernel
theorem dX9_reached_5 : decode cX9_reached 5 = .ok (.ifCond .ne 5, 3) := by decide +kernel
theorem dX9_reached_8 : decode cX9_reached 8 = .ok (.lconst 0, 1) := by decide +kernel
theorem dX9_reached_9 : decode cX9_reached 9 = .ok (.lreturn, 1) := by decide +kernel
theorem dX9_reached_10 : decode cX9_reached 10 = .ok (.iload_n 2, 1) := by decide +kernel
theorem dX9_reached_11 : decode cX9_reached 11 = .ok (.iconst 0, 1) := by decide +kernel
theorem dX9_reached_12 : decode cX9_reached 12 = .ok (.aload_n 0, 1) := by decide +kernel
theorem dX9_reached_13 : decode cX9_reached 13 = .ok (.iload_n 1, 1) := by decide +kernel
theorem dX9_reached_14 : decode cX9_reached 14 = .ok (.invokevirtual 332, 3) := by decide +kernel
theorem dX9_reached_17 : decode cX9_reached 17 = .ok (.iconst 1, 1) := by decide +kernel
theorem dX9_reached_18 : decode cX9_reached 18 = .ok (.isub, 1) := by decide +kernel
theorem dX9_reached_19 : decode cX9_reached 19 = .ok (.invokestatic 294, 3) := by decide +kernel
theorem dX9_reached_22 : decode cX9_reached 22 = .ok (.ifCond .ne 10, 3) := by decide +kernel
theorem dX9_reached_25 : decode cX9_reached 25 = .ok (.aload_n 0, 1) := by decide +kernel
theorem dX9_reached_26 : decode cX9_reached 26 = .ok (.iconst 3, 1) := by decide +kernel
theorem dX9_reached_27 : decode cX9_reached 27 = .ok (.invokevirtual 297, 3) := by decide +kernel
theorem dX9_reached_30 : decode cX9_reached 30 = .ok (.i2l, 1) := by decide +kernel
theorem dX9_reached_31 : decode cX9_reached 31 = .ok (.lreturn, 1) := by decide +kernel
theorem dX9_reached_32 : decode cX9_reached 32 = .ok (.aload_n 0, 1) := by decide +kernel
theorem dX9_reached_33 : decode cX9_reached 33 = .ok (.iload_n 2, 1) := by decide +kernel
theorem dX9_reached_34 : decode cX9_reached 34 = .ok (.invokevirtual 243, 3) := by decide +kernel
theorem dX9_reached_37 : decode cX9_reached 37 = .ok (.aload_n 0, 1) := by decide +kernel
theorem dX9_reached_38 : decode cX9_reached 38 = .ok (.invokevirtual 198, 3) := by decide +kernel
theorem dX9_reached_41 : decode cX9_reached 41 = .ok (.lreturn, 1) := by decide +kernel
theorem dX9_variableIn_0 : decode cX9_variableIn 0 = .ok (.aload_n 0, 1) := by decide +kernel
theorem dX9_variableIn_1 : decode cX9_variableIn 1 = .ok (.iload_n 1, 1) := by decide +kernel
theorem dX9_variableIn_2 : decode cX9_variableIn 2 = .ok (.invokevirtual 329, 3) := by decide +kernel
theorem dX9_variableIn_5 : decode cX9_variableIn 5 = .ok (.ifCond .ne 5, 3) := by decide +kernel
theorem dX9_variableIn_8 : decode cX9_variableIn 8 = .ok (.iconst 0, 1) := by decide +kernel
theorem dX9_variableIn_9 : decode cX9_variableIn 9 = .ok (.ireturn, 1) := by decide +kernel
theorem dX9_variableIn_10 : decode cX9_variableIn 10 = .ok (.iload_n 2, 1) := by decide +kernel
theorem dX9_variableIn_11 : decode cX9_variableIn 11 = .ok (.iconst 0, 1) := by decide +kernel
theorem dX9_variableIn_12 : decode cX9_variableIn 12 = .ok (.bipush 8, 2) := by decide +kernel
theorem dX9_variableIn_14 : decode cX9_variableIn 14 = .ok (.invokestatic 294, 3) := by decide +kernel
theorem dX9_variableIn_17 : decode cX9_variableIn 17 = .ok (.ifCond .ne 9, 3) := by decide +kernel
theorem dX9_variableIn_20 : decode cX9_variableIn 20 = .ok (.aload_n 0, 1) := by decide +kernel
theorem dX9_variableIn_21 : decode cX9_variableIn 21 = .ok (.iconst 3, 1) := by decide +kernel
theorem dX9_variableIn_22 : decode cX9_variableIn 22 = .ok (.invokevirtual 297, 3) := by decide +kernel
theorem dX9_variableIn_25 : decode cX9_variableIn 25 = .ok (.ireturn, 1) := by decide +kernel
theorem dX9_variableIn_26 : decode cX9_variableIn 26 = .ok (.aload_n 0, 1) := by decide +kernel
theorem dX9_variableIn_27 : decode cX9_variableIn 27 = .ok (.aload_n 0, 1) := by decide +kernel
theorem dX9_variableIn_28 : decode cX9_variableIn 28 = .ok (.getfield 47, 3) := by decide +kernel
theorem dX9_variableIn_31 : decode cX9_variableIn 31 = .ok (.iload_n 1, 1) := by decide +kernel
theorem dX9_variableIn_32 : decode cX9_variableIn 32 = .ok (.laload, 1) := by decide +kernel
theorem dX9_variableIn_33 : decode cX9_variableIn 33 = .ok (.invokevirtual 253, 3) := by decide +kernel
theorem dX9_variableIn_36 : decode cX9_variableIn 36 = .ok (.aload_n 0, 1) := by decide +kernel
theorem dX9_variableIn_37 : decode cX9_variableIn 37 = .ok (.getfield 76, 3) := by decide +kernel
theorem dX9_variableIn_40 : decode cX9_variableIn 40 = .ok (.iload_n 2, 1) := by decide +kernel
theorem dX9_variableIn_41 : decode cX9_variableIn 41 = .ok (.iaload, 1) := by decide +kernel
theorem dX9_variableIn_42 : decode cX9_variableIn 42 = .ok (.ireturn, 1) := by decide +kernel
theorem dX9_made_0 : decode cX9_made 0 = .ok (.aload_n 0, 1) := by decide +kernel
theorem dX9_made_1 : decode cX9_made 1 = .ok (.invokevirtual 323, 3) := by decide +kernel
theorem dX9_made_4 : decode cX9_made 4 = .ok (.ifCond .eq 10, 3) := by decide +kernel
theorem dX9_made_7 : decode cX9_made 7 = .ok (.aload_n 0, 1) := by decide +kernel
theorem dX9_made_8 : decode cX9_made 8 = .ok (.getfield 276, 3) := by decide +kernel
theorem dX9_made_11 : decode cX9_made 11 = .ok (.goto 4, 3) := by decide +kernel
theorem dX9_made_14 : decode cX9_made 14 = .ok (.lconst 0, 1) := by decide +kernel
theorem dX9_made_15 : decode cX9_made 15 = .ok (.lreturn, 1) := by decide +kernel
theorem dX9_isFault_0 : decode cX9_isFault 0 = .ok (.aload_n 0, 1) := by decide +kernel
theorem dX9_isFault_1 : decode cX9_isFault 1 = .ok (.invokevirtual 323, 3) := by decide +kernel
theorem dX9_isFault_4 : decode cX9_isFault 4 = .ok (.ifCond .eq 15, 3) := by decide +kernel
theorem dX9_isFault_7 : decode cX9_isFault 7 = .ok (.aload_n 0, 1) := by decide +kernel
theorem dX9_isFault_8 : decode cX9_isFault 8 = .ok (.getfield 230, 3) := by decide +kernel
theorem dX9_isFault_11 : decode cX9_isFault 11 = .ok (.ifCond .ne 8, 3) := by decide +kernel
theorem dX9_isFault_14 : decode cX9_isFault 14 = .ok (.aload_n 0, 1) := by decide +kernel
theorem dX9_isFault_15 : decode cX9_isFault 15 = .ok (.iconst 2, 1) := by decide +kernel
theorem dX9_isFault_16 : decode cX9_isFault 16 = .ok (.putfield 142, 3) := by decide +kernel
theorem dX9_isFault_19 : decode cX9_isFault 19 = .ok (.aload_n 0, 1) := by decide +kernel
theorem dX9_isFault_20 : decode cX9_isFault 20 = .ok (.getfield 142, 3) := by decide +kernel
theorem dX9_isFault_23 : decode cX9_isFault 23 = .ok (.ifCond .ne 7, 3) := by decide +kernel
theorem dX9_isFault_26 : decode cX9_isFault 26 = .ok (.iconst 1, 1) := by decide +kernel
theorem dX9_isFault_27 : decode cX9_isFault 27 = .ok (.goto 4, 3) := by decide +kernel
theorem dX9_isFault_30 : decode cX9_isFault 30 = .ok (.iconst 0, 1) := by decide +kernel
theorem dX9_isFault_31 : decode cX9_isFault 31 = .ok (.ireturn, 1) := by decide +kernel
theorem dX9_fault_0 : decode cX9_fault 0 = .ok (.aload_n 0, 1) := by decide +kernel
theorem dX9_fault_1 : decode cX9_fault 1 = .ok (.invokevirtual 335, 3) := by decide +kernel
theorem dX9_fault_4 : decode cX9_fault 4 = .ok (.ifCond .eq 10, 3) := by decide +kernel
theorem dX9_fault_7 : decode cX9_fault 7 = .ok (.aload_n 0, 1) := by decide +kernel
theorem dX9_fault_8 : decode cX9_fault 8 = .ok (.getfield 230, 3) := by decide +kernel
theorem dX9_fault_11 : decode cX9_fault 11 = .ok (.goto 4, 3) := by decide +kernel
theorem dX9_fault_14 : decode cX9_fault 14 = .ok (.iconst 0, 1) := by decide +kernel
theorem dX9_fault_15 : decode cX9_fault 15 = .ok (.i2c, 1) := by decide +kernel
theorem dX9_fault_16 : decode cX9_fault 16 = .ok (.ireturn, 1) := by decide +kernel
theorem dX9_length_0 : decode cX9_length 0 = .ok (.aload_n 0, 1) := by decide +kernel
theorem dX9_length_1 : decode cX9_length 1 = .ok (.getfield 57, 3) := by decide +kernel
theorem dX9_length_4 : decode cX9_length 4 = .ok (.aload_n 0, 1) := by decide +kernel
theorem dX9_length_5 : decode cX9_length 5 = .ok (.getfield 233, 3) := by decide +kernel
theorem dX9_length_8 : decode cX9_length 8 = .ok (.iaload, 1) := by decide +kernel
theorem dX9_length_9 : decode cX9_length 9 = .ok (.aload_n 0, 1) := by decide +kernel
theorem dX9_length_10 : decode cX9_length 10 = .ok (.getfield 230, 3) := by decide +kernel
theorem dX9_length_13 : decode cX9_length 13 = .ok (.bipush 97, 2) := by decide +kernel
theorem dX9_length_15 : decode cX9_length 15 = .ok (.if_icmp .ne 7, 3) := by decide +kernel
theorem dX9_length_18 : decode cX9_length 18 = .ok (.iconst 1, 1) := by decide +kernel
theorem dX9_length_19 : decode cX9_length 19 = .ok (.goto 4, 3) := by decide +kernel
theorem dX9_length_22 : decode cX9_length 22 = .ok (.iconst 0, 1) := by decide +kernel
theorem dX9_length_23 : decode cX9_length 23 = .ok (.iadd, 1) := by decide +kernel
theorem dX9_length_24 : decode cX9_length 24 = .ok (.ireturn, 1) := by decide +kernel
theorem dX9_traceLength_0 : decode cX9_traceLength 0 = .ok (.aload_n 0, 1) := by decide +kernel
theorem dX9_traceLength_1 : decode cX9_traceLength 1 = .ok (.invokevirtual 335, 3) := by decide +kernel
theorem dX9_traceLength_4 : decode cX9_traceLength 4 = .ok (.ifCond .eq 10, 3) := by decide +kernel
theorem dX9_traceLength_7 : decode cX9_traceLength 7 = .ok (.aload_n 0, 1) := by decide +kernel
theorem dX9_traceLength_8 : decode cX9_traceLength 8 = .ok (.invokevirtual 338, 3) := by decide +kernel
theorem dX9_traceLength_11 : decode cX9_traceLength 11 = .ok (.goto 4, 3) := by decide +kernel
theorem dX9_traceLength_14 : decode cX9_traceLength 14 = .ok (.iconst 0, 1) := by decide +kernel
theorem dX9_traceLength_15 : decode cX9_traceLength 15 = .ok (.ireturn, 1) := by decide +kernel
theorem dX9_traced_0 : decode cX9_traced 0 = .ok (.aload_n 0, 1) := by decide +kernel
theorem dX9_traced_1 : decode cX9_traced 1 = .ok (.getfield 230, 3) := by decide +kernel
theorem dX9_traced_4 : decode cX9_traced 4 = .ok (.bipush 97, 2) := by decide +kernel
theorem dX9_traced_6 : decode cX9_traced 6 = .ok (.if_icmp .ne 18, 3) := by decide +kernel
theorem dX9_traced_9 : decode cX9_traced 9 = .ok (.iload_n 1, 1) := by decide +kernel
theorem dX9_traced_10 : decode cX9_traced 10 = .ok (.aload_n 0, 1) := by decide +kernel
theorem dX9_traced_11 : decode cX9_traced 11 = .ok (.invokevirtual 338, 3) := by decide +kernel
theorem dX9_traced_14 : decode cX9_traced 14 = .ok (.iconst 1, 1) := by decide +kernel
theorem dX9_traced_15 : decode cX9_traced 15 = .ok (.isub, 1) := by decide +kernel
theorem dX9_traced_16 : decode cX9_traced 16 = .ok (.if_icmp .ne 8, 3) := by decide +kernel
theorem dX9_traced_19 : decode cX9_traced 19 = .ok (.aload_n 0, 1) := by decide +kernel
theorem dX9_traced_20 : decode cX9_traced 20 = .ok (.getfield 273, 3) := by decide +kernel
theorem dX9_traced_23 : decode cX9_traced 23 = .ok (.ireturn, 1) := by decide +kernel
theorem dX9_traced_24 : decode cX9_traced 24 = .ok (.aload_n 0, 1) := by decide +kernel
theorem dX9_traced_25 : decode cX9_traced 25 = .ok (.getfield 233, 3) := by decide +kernel
theorem dX9_traced_28 : decode cX9_traced 28 = .ok (.istore_n 2, 1) := by decide +kernel
theorem dX9_traced_29 : decode cX9_traced 29 = .ok (.aload_n 0, 1) := by decide +kernel
theorem dX9_traced_30 : decode cX9_traced 30 = .ok (.getfield 57, 3) := by decide +kernel
theorem dX9_traced_33 : decode cX9_traced 33 = .ok (.iload_n 2, 1) := by decide +kernel
theorem dX9_traced_34 : decode cX9_traced 34 = .ok (.iaload, 1) := by decide +kernel
theorem dX9_traced_35 : decode cX9_traced 35 = .ok (.iload_n 1, 1) := by decide +kernel
theorem dX9_traced_36 : decode cX9_traced 36 = .ok (.iconst 1, 1) := by decide +kernel
theorem dX9_traced_37 : decode cX9_traced 37 = .ok (.iadd, 1) := by decide +kernel
theorem dX9_traced_38 : decode cX9_traced 38 = .ok (.if_icmp .le 13, 3) := by decide +kernel
theorem dX9_traced_41 : decode cX9_traced 41 = .ok (.aload_n 0, 1) := by decide +kernel
theorem dX9_traced_42 : decode cX9_traced 42 = .ok (.getfield 51, 3) := by decide +kernel
theorem dX9_traced_45 : decode cX9_traced 45 = .ok (.iload_n 2, 1) := by decide +kernel
theorem dX9_traced_46 : decode cX9_traced 46 = .ok (.iaload, 1) := by decide +kernel
theorem dX9_traced_47 : decode cX9_traced 47 = .ok (.istore_n 2, 1) := by decide +kernel
theorem dX9_traced_48 : decode cX9_traced 48 = .ok (.goto (-19), 3) := by decide +kernel
theorem dX9_traced_51 : decode cX9_traced 51 = .ok (.aload_n 0, 1) := by decide +kernel
theorem dX9_traced_52 : decode cX9_traced 52 = .ok (.getfield 54, 3) := by decide +kernel
theorem dX9_traced_55 : decode cX9_traced 55 = .ok (.iload_n 2, 1) := by decide +kernel
theorem dX9_traced_56 : decode cX9_traced 56 = .ok (.iaload, 1) := by decide +kernel
theorem dX9_traced_57 : decode cX9_traced 57 = .ok (.ireturn, 1) := by decide +kernel
theorem dX9_traceProcess_0 : decode cX9_traceProcess 0 = .ok (.aload_n 0, 1) := by decide +kernel
theorem dX9_traceProcess_1 : decode cX9_traceProcess 1 = .ok (.invokevirtual 335, 3) := by decide +kernel
theorem dX9_traceProcess_4 : decode cX9_traceProcess 4 = .ok (.ifCond .ne 5, 3) := by decide +kernel
theorem dX9_traceProcess_7 : decode cX9_traceProcess 7 = .ok (.iconst 0, 1) := by decide +kernel
theorem dX9_traceProcess_8 : decode cX9_traceProcess 8 = .ok (.ireturn, 1) := by decide +kernel
theorem dX9_traceProcess_9 : decode cX9_traceProcess 9 = .ok (.iload_n 1, 1) := by decide +kernel
theorem dX9_traceProcess_10 : decode cX9_traceProcess 10 = .ok (.iconst 0, 1) := by decide +kernel
theorem dX9_traceProcess_11 : decode cX9_traceProcess 11 = .ok (.aload_n 0, 1) := by decide +kernel
theorem dX9_traceProcess_12 : decode cX9_traceProcess 12 = .ok (.invokevirtual 338, 3) := by decide +kernel
theorem dX9_traceProcess_15 : decode cX9_traceProcess 15 = .ok (.iconst 1, 1) := by decide +kernel
theorem dX9_traceProcess_16 : decode cX9_traceProcess 16 = .ok (.isub, 1) := by decide +kernel
theorem dX9_traceProcess_17 : decode cX9_traceProcess 17 = .ok (.invokestatic 294, 3) := by decide +kernel
theorem dX9_traceProcess_20 : decode cX9_traceProcess 20 = .ok (.ifCond .eq 14, 3) := by decide +kernel
theorem dX9_traceProcess_23 : decode cX9_traceProcess 23 = .ok (.aload_n 0, 1) := by decide +kernel
theorem dX9_traceProcess_24 : decode cX9_traceProcess 24 = .ok (.iload_n 1, 1) := by decide +kernel
theorem dX9_traceProcess_25 : decode cX9_traceProcess 25 = .ok (.invokevirtual 341, 3) := by decide +kernel
theorem dX9_traceProcess_28 : decode cX9_traceProcess 28 = .ok (.bipush 16, 2) := by decide +kernel
theorem dX9_traceProcess_30 : decode cX9_traceProcess 30 = .ok (.idiv, 1) := by decide +kernel
theorem dX9_traceProcess_31 : decode cX9_traceProcess 31 = .ok (.goto 8, 3) := by decide +kernel
theorem dX9_traceProcess_34 : decode cX9_traceProcess 34 = .ok (.aload_n 0, 1) := by decide +kernel
theorem dX9_traceProcess_35 : decode cX9_traceProcess 35 = .ok (.iconst 3, 1) := by decide +kernel
theorem dX9_traceProcess_36 : decode cX9_traceProcess 36 = .ok (.invokevirtual 297, 3) := by decide +kernel
theorem dX9_traceProcess_39 : decode cX9_traceProcess 39 = .ok (.ireturn, 1) := by decide +kernel
theorem dX9_traceStep_0 : decode cX9_traceStep 0 = .ok (.aload_n 0, 1) := by decide +kernel
theorem dX9_traceStep_1 : decode cX9_traceStep 1 = .ok (.invokevirtual 335, 3) := by decide +kernel
theorem dX9_traceStep_4 : decode cX9_traceStep 4 = .ok (.ifCond .ne 5, 3) := by decide +kernel
theorem dX9_traceStep_7 : decode cX9_traceStep 7 = .ok (.iconst 0, 1) := by decide +kernel
theorem dX9_traceStep_8 : decode cX9_traceStep 8 = .ok (.ireturn, 1) := by decide +kernel
theorem dX9_traceStep_9 : decode cX9_traceStep 9 = .ok (.iload_n 1, 1) := by decide +kernel
theorem dX9_traceStep_10 : decode cX9_traceStep 10 = .ok (.iconst 0, 1) := by decide +kernel
theorem dX9_traceStep_11 : decode cX9_traceStep 11 = .ok (.aload_n 0, 1) := by decide +kernel
theorem dX9_traceStep_12 : decode cX9_traceStep 12 = .ok (.invokevirtual 338, 3) := by decide +kernel
theorem dX9_traceStep_15 : decode cX9_traceStep 15 = .ok (.iconst 1, 1) := by decide +kernel
theorem dX9_traceStep_16 : decode cX9_traceStep 16 = .ok (.isub, 1) := by decide +kernel
theorem dX9_traceStep_17 : decode cX9_traceStep 17 = .ok (.invokestatic 294, 3) := by decide +kernel
theorem dX9_traceStep_20 : decode cX9_traceStep 20 = .ok (.ifCond .eq 14, 3) := by decide +kernel
theorem dX9_traceStep_23 : decode cX9_traceStep 23 = .ok (.aload_n 0, 1) := by decide +kernel
theorem dX9_traceStep_24 : decode cX9_traceStep 24 = .ok (.iload_n 1, 1) := by decide +kernel
theorem dX9_traceStep_25 : decode cX9_traceStep 25 = .ok (.invokevirtual 341, 3) := by decide +kernel
theorem dX9_traceStep_28 : decode cX9_traceStep 28 = .ok (.bipush 16, 2) := by decide +kernel
theorem dX9_traceStep_30 : decode cX9_traceStep 30 = .ok (.irem, 1) := by decide +kernel
theorem dX9_traceStep_31 : decode cX9_traceStep 31 = .ok (.goto 8, 3) := by decide +kernel
theorem dX9_traceStep_34 : decode cX9_traceStep 34 = .ok (.aload_n 0, 1) := by decide +kernel
theorem dX9_traceStep_35 : decode cX9_traceStep 35 = .ok (.iconst 3, 1) := by decide +kernel
theorem dX9_traceStep_36 : decode cX9_traceStep 36 = .ok (.invokevirtual 297, 3) := by decide +kernel
theorem dX9_traceStep_39 : decode cX9_traceStep 39 = .ok (.ireturn, 1) := by decide +kernel
theorem dX9_replays_0 : decode cX9_replays 0 = .ok (.aload_n 0, 1) := by decide +kernel
theorem dX9_replays_1 : decode cX9_replays 1 = .ok (.invokevirtual 335, 3) := by decide +kernel
theorem dX9_replays_4 : decode cX9_replays 4 = .ok (.ireturn, 1) := by decide +kernel
theorem dX9_isGraph_0 : decode cX9_isGraph 0 = .ok (.aload_n 0, 1) := by decide +kernel
theorem dX9_isGraph_1 : decode cX9_isGraph 1 = .ok (.getfield 291, 3) := by decide +kernel
theorem dX9_isGraph_4 : decode cX9_isGraph 4 = .ok (.ifCond .eq 25, 3) := by decide +kernel
theorem dX9_isGraph_7 : decode cX9_isGraph 7 = .ok (.aload_n 0, 1) := by decide +kernel
theorem dX9_isGraph_8 : decode cX9_isGraph 8 = .ok (.getfield 205, 3) := by decide +kernel
theorem dX9_isGraph_11 : decode cX9_isGraph 11 = .ok (.bipush 97, 2) := by decide +kernel
theorem dX9_isGraph_13 : decode cX9_isGraph 13 = .ok (.if_icmp .ne 16, 3) := by decide +kernel
theorem dX9_isGraph_16 : decode cX9_isGraph 16 = .ok (.aload_n 0, 1) := by decide +kernel
theorem dX9_isGraph_17 : decode cX9_isGraph 17 = .ok (.invokevirtual 319, 3) := by decide +kernel
theorem dX9_isGraph_20 : decode cX9_isGraph 20 = .ok (.bipush 110, 2) := by decide +kernel
theorem dX9_isGraph_22 : decode cX9_isGraph 22 = .ok (.if_icmp .ne 7, 3) := by decide +kernel
theorem dX9_isGraph_25 : decode cX9_isGraph 25 = .ok (.iconst 1, 1) := by decide +kernel
theorem dX9_isGraph_26 : decode cX9_isGraph 26 = .ok (.goto 4, 3) := by decide +kernel
theorem dX9_isGraph_29 : decode cX9_isGraph 29 = .ok (.iconst 0, 1) := by decide +kernel
theorem dX9_isGraph_30 : decode cX9_isGraph 30 = .ok (.ireturn, 1) := by decide +kernel
theorem dX9_valueIn_0 : decode cX9_valueIn 0 = .ok (.aload_n 0, 1) := by decide +kernel
theorem dX9_valueIn_1 : decode cX9_valueIn 1 = .ok (.aload_n 0, 1) := by decide +kernel
theorem dX9_valueIn_2 : decode cX9_valueIn 2 = .ok (.getfield 47, 3) := by decide +kernel
theorem dX9_valueIn_5 : decode cX9_valueIn 5 = .ok (.iload_n 1, 1) := by decide +kernel
theorem dX9_valueIn_6 : decode cX9_valueIn 6 = .ok (.laload, 1) := by decide +kernel
theorem dX9_valueIn_7 : decode cX9_valueIn 7 = .ok (.invokevirtual 253, 3) := by decide +kernel
theorem dX9_valueIn_10 : decode cX9_valueIn 10 = .ok (.aload_n 0, 1) := by decide +kernel
theorem dX9_valueIn_11 : decode cX9_valueIn 11 = .ok (.getfield 76, 3) := by decide +kernel
theorem dX9_valueIn_14 : decode cX9_valueIn 14 = .ok (.iload_n 2, 1) := by decide +kernel
theorem dX9_valueIn_15 : decode cX9_valueIn 15 = .ok (.iaload, 1) := by decide +kernel
theorem dX9_valueIn_16 : decode cX9_valueIn 16 = .ok (.ireturn, 1) := by decide +kernel
theorem dX9_goal_0 : decode cX9_goal 0 = .ok (.aload_n 0, 1) := by decide +kernel
theorem dX9_goal_1 : decode cX9_goal 1 = .ok (.getfield 70, 3) := by decide +kernel
theorem dX9_goal_4 : decode cX9_goal 4 = .ok (.iload_n 1, 1) := by decide +kernel
theorem dX9_goal_5 : decode cX9_goal 5 = .ok (.iaload, 1) := by decide +kernel
theorem dX9_goal_6 : decode cX9_goal 6 = .ok (.bipush 8, 2) := by decide +kernel
theorem dX9_goal_8 : decode cX9_goal 8 = .ok (.idiv, 1) := by decide +kernel
theorem dX9_goal_9 : decode cX9_goal 9 = .ok (.ireturn, 1) := by decide +kernel
theorem dX9_laysSet_0 : decode cX9_laysSet 0 = .ok (.iconst 0, 1) := by decide +kernel
theorem dX9_laysSet_1 : decode cX9_laysSet 1 = .ok (.istore_n 3, 1) := by decide +kernel
theorem dX9_laysSet_2 : decode cX9_laysSet 2 = .ok (.iload_n 3, 1) := by decide +kernel
theorem dX9_laysSet_3 : decode cX9_laysSet 3 = .ok (.aload_n 0, 1) := by decide +kernel
theorem dX9_laysSet_4 : decode cX9_laysSet 4 = .ok (.getfield 224, 3) := by decide +kernel
theorem dX9_laysSet_7 : decode cX9_laysSet 7 = .ok (.if_icmp .ge 30, 3) := by decide +kernel
theorem dX9_laysSet_10 : decode cX9_laysSet 10 = .ok (.aload_n 0, 1) := by decide +kernel
theorem dX9_laysSet_11 : decode cX9_laysSet 11 = .ok (.getfield 133, 3) := by decide +kernel
theorem dX9_laysSet_14 : decode cX9_laysSet 14 = .ok (.iload_n 3, 1) := by decide +kernel
theorem dX9_laysSet_15 : decode cX9_laysSet 15 = .ok (.aload_n 0, 1) := by decide +kernel
theorem dX9_laysSet_16 : decode cX9_laysSet 16 = .ok (.iload_n 3, 1) := by decide +kernel
theorem dX9_laysSet_17 : decode cX9_laysSet 17 = .ok (.iload_n 1, 1) := by decide +kernel
theorem dX9_laysSet_18 : decode cX9_laysSet 18 = .ok (.invokevirtual 344, 3) := by decide +kernel
theorem dX9_laysSet_21 : decode cX9_laysSet 21 = .ok (.iload_n 2, 1) := by decide +kernel
theorem dX9_laysSet_22 : decode cX9_laysSet 22 = .ok (.if_icmp .eq 7, 3) := by decide +kernel
theorem dX9_laysSet_25 : decode cX9_laysSet 25 = .ok (.iconst 1, 1) := by decide +kernel
theorem dX9_laysSet_26 : decode cX9_laysSet 26 = .ok (.goto 4, 3) := by decide +kernel
theorem dX9_laysSet_29 : decode cX9_laysSet 29 = .ok (.iconst 0, 1) := by decide +kernel
theorem dX9_laysSet_30 : decode cX9_laysSet 30 = .ok (.bastore, 1) := by decide +kernel
theorem dX9_laysSet_31 : decode cX9_laysSet 31 = .ok (.iinc 3 1, 3) := by decide +kernel
theorem dX9_laysSet_34 : decode cX9_laysSet 34 = .ok (.goto (-32), 3) := by decide +kernel
theorem dX9_laysSet_37 : decode cX9_laysSet 37 = .ok (.return_, 1) := by decide +kernel
theorem dX9_enters_0 : decode cX9_enters 0 = .ok (.aload_n 0, 1) := by decide +kernel
theorem dX9_enters_1 : decode cX9_enters 1 = .ok (.getfield 109, 3) := by decide +kernel
theorem dX9_enters_4 : decode cX9_enters 4 = .ok (.iload_n 1, 1) := by decide +kernel
theorem dX9_enters_5 : decode cX9_enters 5 = .ok (.aload_n 0, 1) := by decide +kernel
theorem dX9_enters_6 : decode cX9_enters 6 = .ok (.getfield 348, 3) := by decide +kernel
theorem dX9_enters_9 : decode cX9_enters 9 = .ok (.iastore, 1) := by decide +kernel
theorem dX9_enters_10 : decode cX9_enters 10 = .ok (.aload_n 0, 1) := by decide +kernel
theorem dX9_enters_11 : decode cX9_enters 11 = .ok (.getfield 112, 3) := by decide +kernel
theorem dX9_enters_14 : decode cX9_enters 14 = .ok (.iload_n 1, 1) := by decide +kernel
theorem dX9_enters_15 : decode cX9_enters 15 = .ok (.aload_n 0, 1) := by decide +kernel
theorem dX9_enters_16 : decode cX9_enters 16 = .ok (.getfield 348, 3) := by decide +kernel
theorem dX9_enters_19 : decode cX9_enters 19 = .ok (.iastore, 1) := by decide +kernel
theorem dX9_enters_20 : decode cX9_enters 20 = .ok (.aload_n 0, 1) := by decide +kernel
theorem dX9_enters_21 : decode cX9_enters 21 = .ok (.dup, 1) := by decide +kernel
theorem dX9_enters_22 : decode cX9_enters 22 = .ok (.getfield 348, 3) := by decide +kernel
theorem dX9_enters_25 : decode cX9_enters 25 = .ok (.iconst 1, 1) := by decide +kernel
theorem dX9_enters_26 : decode cX9_enters 26 = .ok (.iadd, 1) := by decide +kernel
theorem dX9_enters_27 : decode cX9_enters 27 = .ok (.putfield 348, 3) := by decide +kernel
theorem dX9_enters_30 : decode cX9_enters 30 = .ok (.aload_n 0, 1) := by decide +kernel
theorem dX9_enters_31 : decode cX9_enters 31 = .ok (.getfield 118, 3) := by decide +kernel
theorem dX9_enters_34 : decode cX9_enters 34 = .ok (.aload_n 0, 1) := by decide +kernel
theorem dX9_enters_35 : decode cX9_enters 35 = .ok (.getfield 351, 3) := by decide +kernel
theorem dX9_enters_38 : decode cX9_enters 38 = .ok (.iload_n 1, 1) := by decide +kernel
theorem dX9_enters_39 : decode cX9_enters 39 = .ok (.iastore, 1) := by decide +kernel
theorem dX9_enters_40 : decode cX9_enters 40 = .ok (.aload_n 0, 1) := by decide +kernel
theorem dX9_enters_41 : decode cX9_enters 41 = .ok (.dup, 1) := by decide +kernel
theorem dX9_enters_42 : decode cX9_enters 42 = .ok (.getfield 351, 3) := by decide +kernel
theorem dX9_enters_45 : decode cX9_enters 45 = .ok (.iconst 1, 1) := by decide +kernel
theorem dX9_enters_46 : decode cX9_enters 46 = .ok (.iadd, 1) := by decide +kernel
theorem dX9_enters_47 : decode cX9_enters 47 = .ok (.putfield 351, 3) := by decide +kernel
theorem dX9_enters_50 : decode cX9_enters 50 = .ok (.aload_n 0, 1) := by decide +kernel
theorem dX9_enters_51 : decode cX9_enters 51 = .ok (.getfield 136, 3) := by decide +kernel
theorem dX9_enters_54 : decode cX9_enters 54 = .ok (.iload_n 1, 1) := by decide +kernel
theorem dX9_enters_55 : decode cX9_enters 55 = .ok (.iconst 1, 1) := by decide +kernel
theorem dX9_enters_56 : decode cX9_enters 56 = .ok (.bastore, 1) := by decide +kernel
theorem dX9_enters_57 : decode cX9_enters 57 = .ok (.aload_n 0, 1) := by decide +kernel
theorem dX9_enters_58 : decode cX9_enters 58 = .ok (.getfield 124, 3) := by decide +kernel
theorem dX9_enters_61 : decode cX9_enters 61 = .ok (.iload_n 1, 1) := by decide +kernel
theorem dX9_enters_62 : decode cX9_enters 62 = .ok (.aload_n 0, 1) := by decide +kernel
theorem dX9_enters_63 : decode cX9_enters 63 = .ok (.getfield 66, 3) := by decide +kernel
theorem dX9_enters_66 : decode cX9_enters 66 = .ok (.iload_n 1, 1) := by decide +kernel
theorem dX9_enters_67 : decode cX9_enters 67 = .ok (.iaload, 1) := by decide +kernel
theorem dX9_enters_68 : decode cX9_enters 68 = .ok (.iastore, 1) := by decide +kernel
theorem dX9_enters_69 : decode cX9_enters 69 = .ok (.return_, 1) := by decide +kernel
theorem dX9_closes_0 : decode cX9_closes 0 = .ok (.aload_n 0, 1) := by decide +kernel
theorem dX9_closes_1 : decode cX9_closes 1 = .ok (.getfield 112, 3) := by decide +kernel
theorem dX9_closes_4 : decode cX9_closes 4 = .ok (.iload_n 1, 1) := by decide +kernel
theorem dX9_closes_5 : decode cX9_closes 5 = .ok (.iaload, 1) := by decide +kernel
theorem dX9_closes_6 : decode cX9_closes 6 = .ok (.aload_n 0, 1) := by decide +kernel
theorem dX9_closes_7 : decode cX9_closes 7 = .ok (.getfield 109, 3) := by decide +kernel
theorem dX9_closes_10 : decode cX9_closes 10 = .ok (.iload_n 1, 1) := by decide +kernel
theorem dX9_closes_11 : decode cX9_closes 11 = .ok (.iaload, 1) := by decide +kernel
theorem dX9_closes_12 : decode cX9_closes 12 = .ok (.if_icmp .eq 4, 3) := by decide +kernel
theorem dX9_closes_15 : decode cX9_closes 15 = .ok (.return_, 1) := by decide +kernel
theorem dX9_closes_16 : decode cX9_closes 16 = .ok (.iconst (-1), 1) := by decide +kernel
theorem dX9_closes_17 : decode cX9_closes 17 = .ok (.istore_n 2, 1) := by decide +kernel
theorem dX9_closes_18 : decode cX9_closes 18 = .ok (.iload_n 2, 1) := by decide +kernel
theorem dX9_closes_19 : decode cX9_closes 19 = .ok (.iload_n 1, 1) := by decide +kernel
theorem dX9_closes_20 : decode cX9_closes 20 = .ok (.if_icmp .eq 43, 3) := by decide +kernel
theorem dX9_closes_23 : decode cX9_closes 23 = .ok (.aload_n 0, 1) := by decide +kernel
theorem dX9_closes_24 : decode cX9_closes 24 = .ok (.dup, 1) := by decide +kernel
theorem dX9_closes_25 : decode cX9_closes 25 = .ok (.getfield 351, 3) := by decide +kernel
theorem dX9_closes_28 : decode cX9_closes 28 = .ok (.iconst 1, 1) := by decide +kernel
theorem dX9_closes_29 : decode cX9_closes 29 = .ok (.isub, 1) := by decide +kernel
theorem dX9_closes_30 : decode cX9_closes 30 = .ok (.putfield 351, 3) := by decide +kernel
theorem dX9_closes_33 : decode cX9_closes 33 = .ok (.aload_n 0, 1) := by decide +kernel
theorem dX9_closes_34 : decode cX9_closes 34 = .ok (.getfield 118, 3) := by decide +kernel
theorem dX9_closes_37 : decode cX9_closes 37 = .ok (.aload_n 0, 1) := by decide +kernel
theorem dX9_closes_38 : decode cX9_closes 38 = .ok (.getfield 351, 3) := by decide +kernel
theorem dX9_closes_41 : decode cX9_closes 41 = .ok (.iaload, 1) := by decide +kernel
theorem dX9_closes_42 : decode cX9_closes 42 = .ok (.istore_n 2, 1) := by decide +kernel
theorem dX9_closes_43 : decode cX9_closes 43 = .ok (.aload_n 0, 1) := by decide +kernel
theorem dX9_closes_44 : decode cX9_closes 44 = .ok (.getfield 136, 3) := by decide +kernel
theorem dX9_closes_47 : decode cX9_closes 47 = .ok (.iload_n 2, 1) := by decide +kernel
theorem dX9_closes_48 : decode cX9_closes 48 = .ok (.iconst 0, 1) := by decide +kernel
theorem dX9_closes_49 : decode cX9_closes 49 = .ok (.bastore, 1) := by decide +kernel
theorem dX9_closes_50 : decode cX9_closes 50 = .ok (.aload_n 0, 1) := by decide +kernel
theorem dX9_closes_51 : decode cX9_closes 51 = .ok (.getfield 115, 3) := by decide +kernel
theorem dX9_closes_54 : decode cX9_closes 54 = .ok (.iload_n 2, 1) := by decide +kernel
theorem dX9_closes_55 : decode cX9_closes 55 = .ok (.aload_n 0, 1) := by decide +kernel
theorem dX9_closes_56 : decode cX9_closes 56 = .ok (.getfield 354, 3) := by decide +kernel
theorem dX9_closes_59 : decode cX9_closes 59 = .ok (.iastore, 1) := by decide +kernel
theorem dX9_closes_60 : decode cX9_closes 60 = .ok (.goto (-42), 3) := by decide +kernel
theorem dX9_closes_63 : decode cX9_closes 63 = .ok (.aload_n 0, 1) := by decide +kernel
theorem dX9_closes_64 : decode cX9_closes 64 = .ok (.dup, 1) := by decide +kernel
theorem dX9_closes_65 : decode cX9_closes 65 = .ok (.getfield 354, 3) := by decide +kernel
theorem dX9_closes_68 : decode cX9_closes 68 = .ok (.iconst 1, 1) := by decide +kernel
theorem dX9_closes_69 : decode cX9_closes 69 = .ok (.iadd, 1) := by decide +kernel
theorem dX9_closes_70 : decode cX9_closes 70 = .ok (.putfield 354, 3) := by decide +kernel
theorem dX9_closes_73 : decode cX9_closes 73 = .ok (.return_, 1) := by decide +kernel
theorem dX9_lesser_0 : decode cX9_lesser 0 = .ok (.iload_n 0, 1) := by decide +kernel
theorem dX9_lesser_1 : decode cX9_lesser 1 = .ok (.iload_n 1, 1) := by decide +kernel
theorem dX9_lesser_2 : decode cX9_lesser 2 = .ok (.if_icmp .ge 7, 3) := by decide +kernel
theorem dX9_lesser_5 : decode cX9_lesser 5 = .ok (.iload_n 0, 1) := by decide +kernel
theorem dX9_lesser_6 : decode cX9_lesser 6 = .ok (.goto 4, 3) := by decide +kernel
theorem dX9_lesser_9 : decode cX9_lesser 9 = .ok (.iload_n 1, 1) := by decide +kernel
theorem dX9_lesser_10 : decode cX9_lesser 10 = .ok (.ireturn, 1) := by decide +kernel
theorem dX9_walks_0 : decode cX9_walks 0 = .ok (.iconst 1, 1) := by decide +kernel
theorem dX9_walks_1 : decode cX9_walks 1 = .ok (.istore_n 2, 1) := by decide +kernel
theorem dX9_walks_2 : decode cX9_walks 2 = .ok (.aload_n 0, 1) := by decide +kernel
theorem dX9_walks_3 : decode cX9_walks 3 = .ok (.getfield 121, 3) := by decide +kernel
theorem dX9_walks_6 : decode cX9_walks 6 = .ok (.iconst 0, 1) := by decide +kernel
theorem dX9_walks_7 : decode cX9_walks 7 = .ok (.iload_n 1, 1) := by decide +kernel
theorem dX9_walks_8 : decode cX9_walks 8 = .ok (.iastore, 1) := by decide +kernel
theorem dX9_walks_9 : decode cX9_walks 9 = .ok (.aload_n 0, 1) := by decide +kernel
theorem dX9_walks_10 : decode cX9_walks 10 = .ok (.iload_n 1, 1) := by decide +kernel
theorem dX9_walks_11 : decode cX9_walks 11 = .ok (.invokevirtual 357, 3) := by decide +kernel
theorem dX9_walks_14 : decode cX9_walks 14 = .ok (.iload_n 2, 1) := by decide +kernel
theorem dX9_walks_15 : decode cX9_walks 15 = .ok (.ifCond .le 180, 3) := by decide +kernel
theorem dX9_walks_18 : decode cX9_walks 18 = .ok (.aload_n 0, 1) := by decide +kernel
theorem dX9_walks_19 : decode cX9_walks 19 = .ok (.getfield 121, 3) := by decide +kernel
theorem dX9_walks_22 : decode cX9_walks 22 = .ok (.iload_n 2, 1) := by decide +kernel
theorem dX9_walks_23 : decode cX9_walks 23 = .ok (.iconst 1, 1) := by decide +kernel
theorem dX9_walks_24 : decode cX9_walks 24 = .ok (.isub, 1) := by decide +kernel
theorem dX9_walks_25 : decode cX9_walks 25 = .ok (.iaload, 1) := by decide +kernel
theorem dX9_walks_26 : decode cX9_walks 26 = .ok (.istore_n 3, 1) := by decide +kernel
theorem dX9_walks_27 : decode cX9_walks 27 = .ok (.aload_n 0, 1) := by decide +kernel
theorem dX9_walks_28 : decode cX9_walks 28 = .ok (.getfield 124, 3) := by decide +kernel
theorem dX9_walks_31 : decode cX9_walks 31 = .ok (.iload_n 3, 1) := by decide +kernel
theorem dX9_walks_32 : decode cX9_walks 32 = .ok (.iaload, 1) := by decide +kernel
theorem dX9_walks_33 : decode cX9_walks 33 = .ok (.aload_n 0, 1) := by decide +kernel
theorem dX9_walks_34 : decode cX9_walks 34 = .ok (.getfield 66, 3) := by decide +kernel
theorem dX9_walks_37 : decode cX9_walks 37 = .ok (.iload_n 3, 1) := by decide +kernel
theorem dX9_walks_38 : decode cX9_walks 38 = .ok (.iconst 1, 1) := by decide +kernel
theorem dX9_walks_39 : decode cX9_walks 39 = .ok (.iadd, 1) := by decide +kernel
theorem dX9_walks_40 : decode cX9_walks 40 = .ok (.iaload, 1) := by decide +kernel
theorem dX9_walks_41 : decode cX9_walks 41 = .ok (.if_icmp .ne 53, 3) := by decide +kernel
theorem dX9_walks_44 : decode cX9_walks 44 = .ok (.aload_n 0, 1) := by decide +kernel
theorem dX9_walks_45 : decode cX9_walks 45 = .ok (.iload_n 3, 1) := by decide +kernel
theorem dX9_walks_46 : decode cX9_walks 46 = .ok (.invokevirtual 360, 3) := by decide +kernel
theorem dX9_walks_49 : decode cX9_walks 49 = .ok (.iinc 2 (-1), 3) := by decide +kernel
theorem dX9_walks_52 : decode cX9_walks 52 = .ok (.iload_n 2, 1) := by decide +kernel
theorem dX9_walks_53 : decode cX9_walks 53 = .ok (.ifCond .le (-39), 3) := by decide +kernel
theorem dX9_walks_56 : decode cX9_walks 56 = .ok (.aload_n 0, 1) := by decide +kernel
theorem dX9_walks_57 : decode cX9_walks 57 = .ok (.getfield 112, 3) := by decide +kernel
theorem dX9_walks_60 : decode cX9_walks 60 = .ok (.aload_n 0, 1) := by decide +kernel
theorem dX9_walks_61 : decode cX9_walks 61 = .ok (.getfield 121, 3) := by decide +kernel
theorem dX9_walks_64 : decode cX9_walks 64 = .ok (.iload_n 2, 1) := by decide +kernel
theorem dX9_walks_65 : decode cX9_walks 65 = .ok (.iconst 1, 1) := by decide +kernel
theorem dX9_walks_66 : decode cX9_walks 66 = .ok (.isub, 1) := by decide +kernel
theorem dX9_walks_67 : decode cX9_walks 67 = .ok (.iaload, 1) := by decide +kernel
theorem dX9_walks_68 : decode cX9_walks 68 = .ok (.aload_n 0, 1) := by decide +kernel
theorem dX9_walks_69 : decode cX9_walks 69 = .ok (.getfield 112, 3) := by decide +kernel
theorem dX9_walks_72 : decode cX9_walks 72 = .ok (.aload_n 0, 1) := by decide +kernel
theorem dX9_walks_73 : decode cX9_walks 73 = .ok (.getfield 121, 3) := by decide +kernel
theorem dX9_walks_76 : decode cX9_walks 76 = .ok (.iload_n 2, 1) := by decide +kernel
theorem dX9_walks_77 : decode cX9_walks 77 = .ok (.iconst 1, 1) := by decide +kernel
theorem dX9_walks_78 : decode cX9_walks 78 = .ok (.isub, 1) := by decide +kernel
theorem dX9_walks_79 : decode cX9_walks 79 = .ok (.iaload, 1) := by decide +kernel
theorem dX9_walks_80 : decode cX9_walks 80 = .ok (.iaload, 1) := by decide +kernel
theorem dX9_walks_81 : decode cX9_walks 81 = .ok (.aload_n 0, 1) := by decide +kernel
theorem dX9_walks_82 : decode cX9_walks 82 = .ok (.getfield 112, 3) := by decide +kernel
theorem dX9_walks_85 : decode cX9_walks 85 = .ok (.iload_n 3, 1) := by decide +kernel
theorem dX9_walks_86 : decode cX9_walks 86 = .ok (.iaload, 1) := by decide +kernel
theorem dX9_walks_87 : decode cX9_walks 87 = .ok (.invokestatic 363, 3) := by decide +kernel
theorem dX9_walks_90 : decode cX9_walks 90 = .ok (.iastore, 1) := by decide +kernel
theorem dX9_walks_91 : decode cX9_walks 91 = .ok (.goto (-77), 3) := by decide +kernel
theorem dX9_walks_94 : decode cX9_walks 94 = .ok (.aload_n 0, 1) := by decide +kernel
theorem dX9_walks_95 : decode cX9_walks 95 = .ok (.aload_n 0, 1) := by decide +kernel
theorem dX9_walks_96 : decode cX9_walks 96 = .ok (.getfield 124, 3) := by decide +kernel
theorem dX9_walks_99 : decode cX9_walks 99 = .ok (.iload_n 3, 1) := by decide +kernel
theorem dX9_walks_100 : decode cX9_walks 100 = .ok (.iaload, 1) := by decide +kernel
theorem dX9_walks_101 : decode cX9_walks 101 = .ok (.invokevirtual 366, 3) := by decide +kernel
theorem dX9_walks_104 : decode cX9_walks 104 = .ok (.istore 4, 2) := by decide +kernel
theorem dX9_walks_106 : decode cX9_walks 106 = .ok (.aload_n 0, 1) := by decide +kernel
theorem dX9_walks_107 : decode cX9_walks 107 = .ok (.getfield 124, 3) := by decide +kernel
theorem dX9_walks_110 : decode cX9_walks 110 = .ok (.iload_n 3, 1) := by decide +kernel
theorem dX9_walks_111 : decode cX9_walks 111 = .ok (.dup2, 1) := by decide +kernel
theorem dX9_walks_112 : decode cX9_walks 112 = .ok (.iaload, 1) := by decide +kernel
theorem dX9_walks_113 : decode cX9_walks 113 = .ok (.iconst 1, 1) := by decide +kernel
theorem dX9_walks_114 : decode cX9_walks 114 = .ok (.iadd, 1) := by decide +kernel
theorem dX9_walks_115 : decode cX9_walks 115 = .ok (.iastore, 1) := by decide +kernel
theorem dX9_walks_116 : decode cX9_walks 116 = .ok (.aload_n 0, 1) := by decide +kernel
theorem dX9_walks_117 : decode cX9_walks 117 = .ok (.getfield 133, 3) := by decide +kernel
theorem dX9_walks_120 : decode cX9_walks 120 = .ok (.iload 4, 2) := by decide +kernel
theorem dX9_walks_122 : decode cX9_walks 122 = .ok (.baload, 1) := by decide +kernel
theorem dX9_walks_123 : decode cX9_walks 123 = .ok (.ifCond .ne 6, 3) := by decide +kernel
theorem dX9_walks_126 : decode cX9_walks 126 = .ok (.goto (-112), 3) := by decide +kernel
theorem dX9_walks_129 : decode cX9_walks 129 = .ok (.aload_n 0, 1) := by decide +kernel
theorem dX9_walks_130 : decode cX9_walks 130 = .ok (.getfield 109, 3) := by decide +kernel
theorem dX9_walks_133 : decode cX9_walks 133 = .ok (.iload 4, 2) := by decide +kernel
theorem dX9_walks_135 : decode cX9_walks 135 = .ok (.iaload, 1) := by decide +kernel
theorem dX9_walks_136 : decode cX9_walks 136 = .ok (.iconst (-1), 1) := by decide +kernel
theorem dX9_walks_137 : decode cX9_walks 137 = .ok (.if_icmp .ne 23, 3) := by decide +kernel
theorem dX9_walks_140 : decode cX9_walks 140 = .ok (.aload_n 0, 1) := by decide +kernel
theorem dX9_walks_141 : decode cX9_walks 141 = .ok (.getfield 121, 3) := by decide +kernel
theorem dX9_walks_144 : decode cX9_walks 144 = .ok (.iload_n 2, 1) := by decide +kernel
theorem dX9_walks_145 : decode cX9_walks 145 = .ok (.iload 4, 2) := by decide +kernel
theorem dX9_walks_147 : decode cX9_walks 147 = .ok (.iastore, 1) := by decide +kernel
theorem dX9_walks_148 : decode cX9_walks 148 = .ok (.iinc 2 1, 3) := by decide +kernel
theorem dX9_walks_151 : decode cX9_walks 151 = .ok (.aload_n 0, 1) := by decide +kernel
theorem dX9_walks_152 : decode cX9_walks 152 = .ok (.iload 4, 2) := by decide +kernel
theorem dX9_walks_154 : decode cX9_walks 154 = .ok (.invokevirtual 357, 3) := by decide +kernel
theorem dX9_walks_157 : decode cX9_walks 157 = .ok (.goto 35, 3) := by decide +kernel
theorem dX9_walks_160 : decode cX9_walks 160 = .ok (.aload_n 0, 1) := by decide +kernel
theorem dX9_walks_161 : decode cX9_walks 161 = .ok (.getfield 136, 3) := by decide +kernel
theorem dX9_walks_164 : decode cX9_walks 164 = .ok (.iload 4, 2) := by decide +kernel
theorem dX9_walks_166 : decode cX9_walks 166 = .ok (.baload, 1) := by decide +kernel
theorem dX9_walks_167 : decode cX9_walks 167 = .ok (.ifCond .eq 25, 3) := by decide +kernel
theorem dX9_walks_170 : decode cX9_walks 170 = .ok (.aload_n 0, 1) := by decide +kernel
theorem dX9_walks_171 : decode cX9_walks 171 = .ok (.getfield 112, 3) := by decide +kernel
theorem dX9_walks_174 : decode cX9_walks 174 = .ok (.iload_n 3, 1) := by decide +kernel
theorem dX9_walks_175 : decode cX9_walks 175 = .ok (.aload_n 0, 1) := by decide +kernel
theorem dX9_walks_176 : decode cX9_walks 176 = .ok (.getfield 112, 3) := by decide +kernel
theorem dX9_walks_179 : decode cX9_walks 179 = .ok (.iload_n 3, 1) := by decide +kernel
theorem dX9_walks_180 : decode cX9_walks 180 = .ok (.iaload, 1) := by decide +kernel
theorem dX9_walks_181 : decode cX9_walks 181 = .ok (.aload_n 0, 1) := by decide +kernel
theorem dX9_walks_182 : decode cX9_walks 182 = .ok (.getfield 109, 3) := by decide +kernel
theorem dX9_walks_185 : decode cX9_walks 185 = .ok (.iload 4, 2) := by decide +kernel
theorem dX9_walks_187 : decode cX9_walks 187 = .ok (.iaload, 1) := by decide +kernel
theorem dX9_walks_188 : decode cX9_walks 188 = .ok (.invokestatic 363, 3) := by decide +kernel
theorem dX9_walks_191 : decode cX9_walks 191 = .ok (.iastore, 1) := by decide +kernel
theorem dX9_walks_192 : decode cX9_walks 192 = .ok (.goto (-178), 3) := by decide +kernel
theorem dX9_walks_195 : decode cX9_walks 195 = .ok (.return_, 1) := by decide +kernel
theorem dX9_findsComponents_0 : decode cX9_findsComponents 0 = .ok (.aload_n 0, 1) := by decide +kernel
theorem dX9_findsComponents_1 : decode cX9_findsComponents 1 = .ok (.iconst 0, 1) := by decide +kernel
theorem dX9_findsComponents_2 : decode cX9_findsComponents 2 = .ok (.putfield 354, 3) := by decide +kernel
theorem dX9_findsComponents_5 : decode cX9_findsComponents 5 = .ok (.aload_n 0, 1) := by decide +kernel
theorem dX9_findsComponents_6 : decode cX9_findsComponents 6 = .ok (.iconst 0, 1) := by decide +kernel
theorem dX9_findsComponents_7 : decode cX9_findsComponents 7 = .ok (.putfield 351, 3) := by decide +kernel
theorem dX9_findsComponents_10 : decode cX9_findsComponents 10 = .ok (.aload_n 0, 1) := by decide +kernel
theorem dX9_findsComponents_11 : decode cX9_findsComponents 11 = .ok (.iconst 0, 1) := by decide +kernel
theorem dX9_findsComponents_12 : decode cX9_findsComponents 12 = .ok (.putfield 348, 3) := by decide +kernel
theorem dX9_findsComponents_15 : decode cX9_findsComponents 15 = .ok (.iconst 0, 1) := by decide +kernel
theorem dX9_findsComponents_16 : decode cX9_findsComponents 16 = .ok (.istore_n 1, 1) := by decide +kernel
theorem dX9_findsComponents_17 : decode cX9_findsComponents 17 = .ok (.iload_n 1, 1) := by decide +kernel
theorem dX9_findsComponents_18 : decode cX9_findsComponents 18 = .ok (.aload_n 0, 1) := by decide +kernel
theorem dX9_findsComponents_19 : decode cX9_findsComponents 19 = .ok (.getfield 224, 3) := by decide +kernel
theorem dX9_findsComponents_22 : decode cX9_findsComponents 22 = .ok (.if_icmp .ge 23, 3) := by decide +kernel
theorem dX9_findsComponents_25 : decode cX9_findsComponents 25 = .ok (.aload_n 0, 1) := by decide +kernel
theorem dX9_findsComponents_26 : decode cX9_findsComponents 26 = .ok (.getfield 109, 3) := by decide +kernel
theorem dX9_findsComponents_29 : decode cX9_findsComponents 29 = .ok (.iload_n 1, 1) := by decide +kernel
theorem dX9_findsComponents_30 : decode cX9_findsComponents 30 = .ok (.iconst (-1), 1) := by decide +kernel
theorem dX9_findsComponents_31 : decode cX9_findsComponents 31 = .ok (.iastore, 1) := by decide +kernel
theorem dX9_findsComponents_32 : decode cX9_findsComponents 32 = .ok (.aload_n 0, 1) := by decide +kernel
theorem dX9_findsComponents_33 : decode cX9_findsComponents 33 = .ok (.getfield 136, 3) := by decide +kernel
theorem dX9_findsComponents_36 : decode cX9_findsComponents 36 = .ok (.iload_n 1, 1) := by decide +kernel
theorem dX9_findsComponents_37 : decode cX9_findsComponents 37 = .ok (.iconst 0, 1) := by decide +kernel
theorem dX9_findsComponents_38 : decode cX9_findsComponents 38 = .ok (.bastore, 1) := by decide +kernel
theorem dX9_findsComponents_39 : decode cX9_findsComponents 39 = .ok (.iinc 1 1, 3) := by decide +kernel
theorem dX9_findsComponents_42 : decode cX9_findsComponents 42 = .ok (.goto (-25), 3) := by decide +kernel
theorem dX9_findsComponents_45 : decode cX9_findsComponents 45 = .ok (.iconst 0, 1) := by decide +kernel
theorem dX9_findsComponents_46 : decode cX9_findsComponents 46 = .ok (.istore_n 1, 1) := by decide +kernel
theorem dX9_findsComponents_47 : decode cX9_findsComponents 47 = .ok (.iload_n 1, 1) := by decide +kernel
theorem dX9_findsComponents_48 : decode cX9_findsComponents 48 = .ok (.aload_n 0, 1) := by decide +kernel
theorem dX9_findsComponents_49 : decode cX9_findsComponents 49 = .ok (.getfield 224, 3) := by decide +kernel
theorem dX9_findsComponents_52 : decode cX9_findsComponents 52 = .ok (.if_icmp .ge 33, 3) := by decide +kernel
theorem dX9_findsComponents_55 : decode cX9_findsComponents 55 = .ok (.aload_n 0, 1) := by decide +kernel
theorem dX9_findsComponents_56 : decode cX9_findsComponents 56 = .ok (.getfield 133, 3) := by decide +kernel
theorem dX9_findsComponents_59 : decode cX9_findsComponents 59 = .ok (.iload_n 1, 1) := by decide +kernel
theorem dX9_findsComponents_60 : decode cX9_findsComponents 60 = .ok (.baload, 1) := by decide +kernel
theorem dX9_findsComponents_61 : decode cX9_findsComponents 61 = .ok (.ifCond .eq 18, 3) := by decide +kernel
theorem dX9_findsComponents_64 : decode cX9_findsComponents 64 = .ok (.aload_n 0, 1) := by decide +kernel
theorem dX9_findsComponents_65 : decode cX9_findsComponents 65 = .ok (.getfield 109, 3) := by decide +kernel
theorem dX9_findsComponents_68 : decode cX9_findsComponents 68 = .ok (.iload_n 1, 1) := by decide +kernel
theorem dX9_findsComponents_69 : decode cX9_findsComponents 69 = .ok (.iaload, 1) := by decide +kernel
theorem dX9_findsComponents_70 : decode cX9_findsComponents 70 = .ok (.iconst (-1), 1) := by decide +kernel
theorem dX9_findsComponents_71 : decode cX9_findsComponents 71 = .ok (.if_icmp .ne 8, 3) := by decide +kernel
theorem dX9_findsComponents_74 : decode cX9_findsComponents 74 = .ok (.aload_n 0, 1) := by decide +kernel
theorem dX9_findsComponents_75 : decode cX9_findsComponents 75 = .ok (.iload_n 1, 1) := by decide +kernel
theorem dX9_findsComponents_76 : decode cX9_findsComponents 76 = .ok (.invokevirtual 369, 3) := by decide +kernel
theorem dX9_findsComponents_79 : decode cX9_findsComponents 79 = .ok (.iinc 1 1, 3) := by decide +kernel
theorem dX9_findsComponents_82 : decode cX9_findsComponents 82 = .ok (.goto (-35), 3) := by decide +kernel
theorem dX9_findsComponents_85 : decode cX9_findsComponents 85 = .ok (.return_, 1) := by decide +kernel
theorem dX9_canStay_0 : decode cX9_canStay 0 = .ok (.aload_n 0, 1) := by decide +kernel
theorem dX9_canStay_1 : decode cX9_canStay 1 = .ok (.invokevirtual 372, 3) := by decide +kernel
theorem dX9_canStay_4 : decode cX9_canStay 4 = .ok (.iconst 1, 1) := by decide +kernel
theorem dX9_canStay_5 : decode cX9_canStay 5 = .ok (.aload_n 0, 1) := by decide +kernel
theorem dX9_canStay_6 : decode cX9_canStay 6 = .ok (.getfield 161, 3) := by decide +kernel
theorem dX9_canStay_9 : decode cX9_canStay 9 = .ok (.ishl, 1) := by decide +kernel
theorem dX9_canStay_10 : decode cX9_canStay 10 = .ok (.iconst 1, 1) := by decide +kernel
theorem dX9_canStay_11 : decode cX9_canStay 11 = .ok (.isub, 1) := by decide +kernel
theorem dX9_canStay_12 : decode cX9_canStay 12 = .ok (.istore_n 2, 1) := by decide +kernel
theorem dX9_canStay_13 : decode cX9_canStay 13 = .ok (.iconst 0, 1) := by decide +kernel
theorem dX9_canStay_14 : decode cX9_canStay 14 = .ok (.istore_n 3, 1) := by decide +kernel
theorem dX9_canStay_15 : decode cX9_canStay 15 = .ok (.iload_n 3, 1) := by decide +kernel
theorem dX9_canStay_16 : decode cX9_canStay 16 = .ok (.aload_n 0, 1) := by decide +kernel
theorem dX9_canStay_17 : decode cX9_canStay 17 = .ok (.getfield 354, 3) := by decide +kernel
theorem dX9_canStay_20 : decode cX9_canStay 20 = .ok (.if_icmp .ge 30, 3) := by decide +kernel
theorem dX9_canStay_23 : decode cX9_canStay 23 = .ok (.aload_n 0, 1) := by decide +kernel
theorem dX9_canStay_24 : decode cX9_canStay 24 = .ok (.getfield 127, 3) := by decide +kernel
theorem dX9_canStay_27 : decode cX9_canStay 27 = .ok (.iload_n 3, 1) := by decide +kernel
theorem dX9_canStay_28 : decode cX9_canStay 28 = .ok (.iconst 0, 1) := by decide +kernel
theorem dX9_canStay_29 : decode cX9_canStay 29 = .ok (.iastore, 1) := by decide +kernel
theorem dX9_canStay_30 : decode cX9_canStay 30 = .ok (.aload_n 0, 1) := by decide +kernel
theorem dX9_canStay_31 : decode cX9_canStay 31 = .ok (.getfield 130, 3) := by decide +kernel
theorem dX9_canStay_34 : decode cX9_canStay 34 = .ok (.iload_n 3, 1) := by decide +kernel
theorem dX9_canStay_35 : decode cX9_canStay 35 = .ok (.iconst 0, 1) := by decide +kernel
theorem dX9_canStay_36 : decode cX9_canStay 36 = .ok (.iastore, 1) := by decide +kernel
theorem dX9_canStay_37 : decode cX9_canStay 37 = .ok (.aload_n 0, 1) := by decide +kernel
theorem dX9_canStay_38 : decode cX9_canStay 38 = .ok (.getfield 139, 3) := by decide +kernel
theorem dX9_canStay_41 : decode cX9_canStay 41 = .ok (.iload_n 3, 1) := by decide +kernel
theorem dX9_canStay_42 : decode cX9_canStay 42 = .ok (.iconst 0, 1) := by decide +kernel
theorem dX9_canStay_43 : decode cX9_canStay 43 = .ok (.bastore, 1) := by decide +kernel
theorem dX9_canStay_44 : decode cX9_canStay 44 = .ok (.iinc 3 1, 3) := by decide +kernel
theorem dX9_canStay_47 : decode cX9_canStay 47 = .ok (.goto (-32), 3) := by decide +kernel
theorem dX9_canStay_50 : decode cX9_canStay 50 = .ok (.iconst 0, 1) := by decide +kernel
theorem dX9_canStay_51 : decode cX9_canStay 51 = .ok (.istore_n 3, 1) := by decide +kernel
theorem dX9_canStay_52 : decode cX9_canStay 52 = .ok (.iload_n 3, 1) := by decide +kernel
theorem dX9_canStay_53 : decode cX9_canStay 53 = .ok (.aload_n 0, 1) := by decide +kernel
theorem dX9_canStay_54 : decode cX9_canStay 54 = .ok (.getfield 224, 3) := by decide +kernel
theorem dX9_canStay_57 : decode cX9_canStay 57 = .ok (.if_icmp .ge 178, 3) := by decide +kernel
theorem dX9_canStay_60 : decode cX9_canStay 60 = .ok (.aload_n 0, 1) := by decide +kernel
theorem dX9_canStay_61 : decode cX9_canStay 61 = .ok (.getfield 133, 3) := by decide +kernel
theorem dX9_canStay_64 : decode cX9_canStay 64 = .ok (.iload_n 3, 1) := by decide +kernel
theorem dX9_canStay_65 : decode cX9_canStay 65 = .ok (.baload, 1) := by decide +kernel
theorem dX9_canStay_66 : decode cX9_canStay 66 = .ok (.ifCond .ne 6, 3) := by decide +kernel
theorem dX9_canStay_69 : decode cX9_canStay 69 = .ok (.goto 160, 3) := by decide +kernel
theorem dX9_canStay_72 : decode cX9_canStay 72 = .ok (.aload_n 0, 1) := by decide +kernel
theorem dX9_canStay_73 : decode cX9_canStay 73 = .ok (.getfield 66, 3) := by decide +kernel
theorem dX9_canStay_76 : decode cX9_canStay 76 = .ok (.iload_n 3, 1) := by decide +kernel
theorem dX9_canStay_77 : decode cX9_canStay 77 = .ok (.iaload, 1) := by decide +kernel
theorem dX9_canStay_78 : decode cX9_canStay 78 = .ok (.aload_n 0, 1) := by decide +kernel
theorem dX9_canStay_79 : decode cX9_canStay 79 = .ok (.getfield 66, 3) := by decide +kernel
theorem dX9_canStay_82 : decode cX9_canStay 82 = .ok (.iload_n 3, 1) := by decide +kernel
theorem dX9_canStay_83 : decode cX9_canStay 83 = .ok (.iconst 1, 1) := by decide +kernel
theorem dX9_canStay_84 : decode cX9_canStay 84 = .ok (.iadd, 1) := by decide +kernel
theorem dX9_canStay_85 : decode cX9_canStay 85 = .ok (.iaload, 1) := by decide +kernel
theorem dX9_canStay_86 : decode cX9_canStay 86 = .ok (.if_icmp .ne 5, 3) := by decide +kernel
theorem dX9_canStay_89 : decode cX9_canStay 89 = .ok (.iconst 1, 1) := by decide +kernel
theorem dX9_canStay_90 : decode cX9_canStay 90 = .ok (.ireturn, 1) := by decide +kernel
theorem dX9_canStay_91 : decode cX9_canStay 91 = .ok (.iconst 0, 1) := by decide +kernel
theorem dX9_canStay_92 : decode cX9_canStay 92 = .ok (.istore 4, 2) := by decide +kernel
theorem dX9_canStay_94 : decode cX9_canStay 94 = .ok (.aload_n 0, 1) := by decide +kernel
theorem dX9_canStay_95 : decode cX9_canStay 95 = .ok (.getfield 66, 3) := by decide +kernel
theorem dX9_canStay_98 : decode cX9_canStay 98 = .ok (.iload_n 3, 1) := by decide +kernel
theorem dX9_canStay_99 : decode cX9_canStay 99 = .ok (.iaload, 1) := by decide +kernel
theorem dX9_canStay_100 : decode cX9_canStay 100 = .ok (.istore 5, 2) := by decide +kernel
theorem dX9_canStay_102 : decode cX9_canStay 102 = .ok (.iload 5, 2) := by decide +kernel
theorem dX9_canStay_104 : decode cX9_canStay 104 = .ok (.aload_n 0, 1) := by decide +kernel
theorem dX9_canStay_105 : decode cX9_canStay 105 = .ok (.getfield 66, 3) := by decide +kernel
theorem dX9_canStay_108 : decode cX9_canStay 108 = .ok (.iload_n 3, 1) := by decide +kernel
theorem dX9_canStay_109 : decode cX9_canStay 109 = .ok (.iconst 1, 1) := by decide +kernel
theorem dX9_canStay_110 : decode cX9_canStay 110 = .ok (.iadd, 1) := by decide +kernel
theorem dX9_canStay_111 : decode cX9_canStay 111 = .ok (.iaload, 1) := by decide +kernel
theorem dX9_canStay_112 : decode cX9_canStay 112 = .ok (.if_icmp .ge 97, 3) := by decide +kernel
theorem dX9_canStay_115 : decode cX9_canStay 115 = .ok (.iload 4, 2) := by decide +kernel
theorem dX9_canStay_117 : decode cX9_canStay 117 = .ok (.aload_n 0, 1) := by decide +kernel
theorem dX9_canStay_118 : decode cX9_canStay 118 = .ok (.getfield 70, 3) := by decide +kernel
theorem dX9_canStay_121 : decode cX9_canStay 121 = .ok (.iload 5, 2) := by decide +kernel
theorem dX9_canStay_123 : decode cX9_canStay 123 = .ok (.iaload, 1) := by decide +kernel
theorem dX9_canStay_124 : decode cX9_canStay 124 = .ok (.bipush 8, 2) := by decide +kernel
theorem dX9_canStay_126 : decode cX9_canStay 126 = .ok (.irem, 1) := by decide +kernel
theorem dX9_canStay_127 : decode cX9_canStay 127 = .ok (.ior, 1) := by decide +kernel
theorem dX9_canStay_128 : decode cX9_canStay 128 = .ok (.istore 4, 2) := by decide +kernel
theorem dX9_canStay_130 : decode cX9_canStay 130 = .ok (.aload_n 0, 1) := by decide +kernel
theorem dX9_canStay_131 : decode cX9_canStay 131 = .ok (.getfield 133, 3) := by decide +kernel
theorem dX9_canStay_134 : decode cX9_canStay 134 = .ok (.aload_n 0, 1) := by decide +kernel
theorem dX9_canStay_135 : decode cX9_canStay 135 = .ok (.iload 5, 2) := by decide +kernel
theorem dX9_canStay_137 : decode cX9_canStay 137 = .ok (.invokevirtual 366, 3) := by decide +kernel
theorem dX9_canStay_140 : decode cX9_canStay 140 = .ok (.baload, 1) := by decide +kernel
theorem dX9_canStay_141 : decode cX9_canStay 141 = .ok (.ifCond .eq 62, 3) := by decide +kernel
theorem dX9_canStay_144 : decode cX9_canStay 144 = .ok (.aload_n 0, 1) := by decide +kernel
theorem dX9_canStay_145 : decode cX9_canStay 145 = .ok (.getfield 115, 3) := by decide +kernel
theorem dX9_canStay_148 : decode cX9_canStay 148 = .ok (.aload_n 0, 1) := by decide +kernel
theorem dX9_canStay_149 : decode cX9_canStay 149 = .ok (.iload 5, 2) := by decide +kernel
theorem dX9_canStay_151 : decode cX9_canStay 151 = .ok (.invokevirtual 366, 3) := by decide +kernel
theorem dX9_canStay_154 : decode cX9_canStay 154 = .ok (.iaload, 1) := by decide +kernel
theorem dX9_canStay_155 : decode cX9_canStay 155 = .ok (.aload_n 0, 1) := by decide +kernel
theorem dX9_canStay_156 : decode cX9_canStay 156 = .ok (.getfield 115, 3) := by decide +kernel
theorem dX9_canStay_159 : decode cX9_canStay 159 = .ok (.iload_n 3, 1) := by decide +kernel
theorem dX9_canStay_160 : decode cX9_canStay 160 = .ok (.iaload, 1) := by decide +kernel
theorem dX9_canStay_161 : decode cX9_canStay 161 = .ok (.if_icmp .eq 6, 3) := by decide +kernel
theorem dX9_canStay_164 : decode cX9_canStay 164 = .ok (.goto 39, 3) := by decide +kernel
theorem dX9_canStay_167 : decode cX9_canStay 167 = .ok (.aload_n 0, 1) := by decide +kernel
theorem dX9_canStay_168 : decode cX9_canStay 168 = .ok (.getfield 139, 3) := by decide +kernel
theorem dX9_canStay_171 : decode cX9_canStay 171 = .ok (.aload_n 0, 1) := by decide +kernel
theorem dX9_canStay_172 : decode cX9_canStay 172 = .ok (.getfield 115, 3) := by decide +kernel
theorem dX9_canStay_175 : decode cX9_canStay 175 = .ok (.iload_n 3, 1) := by decide +kernel
theorem dX9_canStay_176 : decode cX9_canStay 176 = .ok (.iaload, 1) := by decide +kernel
theorem dX9_canStay_177 : decode cX9_canStay 177 = .ok (.iconst 1, 1) := by decide +kernel
theorem dX9_canStay_178 : decode cX9_canStay 178 = .ok (.bastore, 1) := by decide +kernel
theorem dX9_canStay_179 : decode cX9_canStay 179 = .ok (.aload_n 0, 1) := by decide +kernel
theorem dX9_canStay_180 : decode cX9_canStay 180 = .ok (.getfield 130, 3) := by decide +kernel
theorem dX9_canStay_183 : decode cX9_canStay 183 = .ok (.aload_n 0, 1) := by decide +kernel
theorem dX9_canStay_184 : decode cX9_canStay 184 = .ok (.getfield 115, 3) := by decide +kernel
theorem dX9_canStay_187 : decode cX9_canStay 187 = .ok (.iload_n 3, 1) := by decide +kernel
theorem dX9_canStay_188 : decode cX9_canStay 188 = .ok (.iaload, 1) := by decide +kernel
theorem dX9_canStay_189 : decode cX9_canStay 189 = .ok (.dup2, 1) := by decide +kernel
theorem dX9_canStay_190 : decode cX9_canStay 190 = .ok (.iaload, 1) := by decide +kernel
theorem dX9_canStay_191 : decode cX9_canStay 191 = .ok (.aload_n 0, 1) := by decide +kernel
theorem dX9_canStay_192 : decode cX9_canStay 192 = .ok (.getfield 70, 3) := by decide +kernel
theorem dX9_canStay_195 : decode cX9_canStay 195 = .ok (.iload 5, 2) := by decide +kernel
theorem dX9_canStay_197 : decode cX9_canStay 197 = .ok (.iaload, 1) := by decide +kernel
theorem dX9_canStay_198 : decode cX9_canStay 198 = .ok (.bipush 8, 2) := by decide +kernel
theorem dX9_canStay_200 : decode cX9_canStay 200 = .ok (.irem, 1) := by decide +kernel
theorem dX9_canStay_201 : decode cX9_canStay 201 = .ok (.ior, 1) := by decide +kernel
theorem dX9_canStay_202 : decode cX9_canStay 202 = .ok (.iastore, 1) := by decide +kernel
theorem dX9_canStay_203 : decode cX9_canStay 203 = .ok (.iinc 5 1, 3) := by decide +kernel
theorem dX9_canStay_206 : decode cX9_canStay 206 = .ok (.goto (-104), 3) := by decide +kernel
theorem dX9_canStay_209 : decode cX9_canStay 209 = .ok (.aload_n 0, 1) := by decide +kernel
theorem dX9_canStay_210 : decode cX9_canStay 210 = .ok (.getfield 127, 3) := by decide +kernel
theorem dX9_canStay_213 : decode cX9_canStay 213 = .ok (.aload_n 0, 1) := by decide +kernel
theorem dX9_canStay_214 : decode cX9_canStay 214 = .ok (.getfield 115, 3) := by decide +kernel
theorem dX9_canStay_217 : decode cX9_canStay 217 = .ok (.iload_n 3, 1) := by decide +kernel
theorem dX9_canStay_218 : decode cX9_canStay 218 = .ok (.iaload, 1) := by decide +kernel
theorem dX9_canStay_219 : decode cX9_canStay 219 = .ok (.dup2, 1) := by decide +kernel
theorem dX9_canStay_220 : decode cX9_canStay 220 = .ok (.iaload, 1) := by decide +kernel
theorem dX9_canStay_221 : decode cX9_canStay 221 = .ok (.iload_n 2, 1) := by decide +kernel
theorem dX9_canStay_222 : decode cX9_canStay 222 = .ok (.iload 4, 2) := by decide +kernel
theorem dX9_canStay_224 : decode cX9_canStay 224 = .ok (.iconst (-1), 1) := by decide +kernel
theorem dX9_canStay_225 : decode cX9_canStay 225 = .ok (.ixor, 1) := by decide +kernel
theorem dX9_canStay_226 : decode cX9_canStay 226 = .ok (.iand, 1) := by decide +kernel
theorem dX9_canStay_227 : decode cX9_canStay 227 = .ok (.ior, 1) := by decide +kernel
theorem dX9_canStay_228 : decode cX9_canStay 228 = .ok (.iastore, 1) := by decide +kernel
theorem dX9_canStay_229 : decode cX9_canStay 229 = .ok (.iinc 3 1, 3) := by decide +kernel
theorem dX9_canStay_232 : decode cX9_canStay 232 = .ok (.goto (-180), 3) := by decide +kernel
theorem dX9_canStay_235 : decode cX9_canStay 235 = .ok (.iconst 0, 1) := by decide +kernel
theorem dX9_canStay_236 : decode cX9_canStay 236 = .ok (.istore_n 3, 1) := by decide +kernel
theorem dX9_canStay_237 : decode cX9_canStay 237 = .ok (.iload_n 3, 1) := by decide +kernel
theorem dX9_canStay_238 : decode cX9_canStay 238 = .ok (.aload_n 0, 1) := by decide +kernel
theorem dX9_canStay_239 : decode cX9_canStay 239 = .ok (.getfield 354, 3) := by decide +kernel
theorem dX9_canStay_242 : decode cX9_canStay 242 = .ok (.if_icmp .ge 41, 3) := by decide +kernel
theorem dX9_canStay_245 : decode cX9_canStay 245 = .ok (.aload_n 0, 1) := by decide +kernel
theorem dX9_canStay_246 : decode cX9_canStay 246 = .ok (.getfield 139, 3) := by decide +kernel
theorem dX9_canStay_249 : decode cX9_canStay 249 = .ok (.iload_n 3, 1) := by decide +kernel
theorem dX9_canStay_250 : decode cX9_canStay 250 = .ok (.baload, 1) := by decide +kernel
theorem dX9_canStay_251 : decode cX9_canStay 251 = .ok (.ifCond .eq 26, 3) := by decide +kernel
theorem dX9_canStay_254 : decode cX9_canStay 254 = .ok (.iload_n 1, 1) := by decide +kernel
theorem dX9_canStay_255 : decode cX9_canStay 255 = .ok (.ifCond .eq 20, 3) := by decide +kernel
theorem dX9_canStay_258 : decode cX9_canStay 258 = .ok (.aload_n 0, 1) := by decide +kernel
theorem dX9_canStay_259 : decode cX9_canStay 259 = .ok (.getfield 127, 3) := by decide +kernel
theorem dX9_canStay_262 : decode cX9_canStay 262 = .ok (.iload_n 3, 1) := by decide +kernel
theorem dX9_canStay_263 : decode cX9_canStay 263 = .ok (.iaload, 1) := by decide +kernel
theorem dX9_canStay_264 : decode cX9_canStay 264 = .ok (.aload_n 0, 1) := by decide +kernel
theorem dX9_canStay_265 : decode cX9_canStay 265 = .ok (.getfield 130, 3) := by decide +kernel
theorem dX9_canStay_268 : decode cX9_canStay 268 = .ok (.iload_n 3, 1) := by decide +kernel
theorem dX9_canStay_269 : decode cX9_canStay 269 = .ok (.iaload, 1) := by decide +kernel
theorem dX9_canStay_270 : decode cX9_canStay 270 = .ok (.ior, 1) := by decide +kernel
theorem dX9_canStay_271 : decode cX9_canStay 271 = .ok (.iload_n 2, 1) := by decide +kernel
theorem dX9_canStay_272 : decode cX9_canStay 272 = .ok (.if_icmp .ne 5, 3) := by decide +kernel
theorem dX9_canStay_275 : decode cX9_canStay 275 = .ok (.iconst 1, 1) := by decide +kernel
theorem dX9_canStay_276 : decode cX9_canStay 276 = .ok (.ireturn, 1) := by decide +kernel
theorem dX9_canStay_277 : decode cX9_canStay 277 = .ok (.iinc 3 1, 3) := by decide +kernel
theorem dX9_canStay_280 : decode cX9_canStay 280 = .ok (.goto (-43), 3) := by decide +kernel
theorem dX9_canStay_283 : decode cX9_canStay 283 = .ok (.iconst 0, 1) := by decide +kernel
theorem dX9_canStay_284 : decode cX9_canStay 284 = .ok (.ireturn, 1) := by decide +kernel
theorem dX9_narrows_0 : decode cX9_narrows 0 = .ok (.iconst 1, 1) := by decide +kernel
theorem dX9_narrows_1 : decode cX9_narrows 1 = .ok (.istore_n 1, 1) := by decide +kernel
theorem dX9_narrows_2 : decode cX9_narrows 2 = .ok (.iload_n 1, 1) := by decide +kernel
theorem dX9_narrows_3 : decode cX9_narrows 3 = .ok (.ifCond .eq 138, 3) := by decide +kernel
theorem dX9_narrows_6 : decode cX9_narrows 6 = .ok (.iconst 0, 1) := by decide +kernel
theorem dX9_narrows_7 : decode cX9_narrows 7 = .ok (.istore_n 1, 1) := by decide +kernel
theorem dX9_narrows_8 : decode cX9_narrows 8 = .ok (.iconst 0, 1) := by decide +kernel
theorem dX9_narrows_9 : decode cX9_narrows 9 = .ok (.istore_n 2, 1) := by decide +kernel
theorem dX9_narrows_10 : decode cX9_narrows 10 = .ok (.iload_n 2, 1) := by decide +kernel
theorem dX9_narrows_11 : decode cX9_narrows 11 = .ok (.aload_n 0, 1) := by decide +kernel
theorem dX9_narrows_12 : decode cX9_narrows 12 = .ok (.getfield 224, 3) := by decide +kernel
theorem dX9_narrows_15 : decode cX9_narrows 15 = .ok (.if_icmp .ge 123, 3) := by decide +kernel
theorem dX9_narrows_18 : decode cX9_narrows 18 = .ok (.aload_n 0, 1) := by decide +kernel
theorem dX9_narrows_19 : decode cX9_narrows 19 = .ok (.getfield 136, 3) := by decide +kernel
theorem dX9_narrows_22 : decode cX9_narrows 22 = .ok (.iload_n 2, 1) := by decide +kernel
theorem dX9_narrows_23 : decode cX9_narrows 23 = .ok (.baload, 1) := by decide +kernel
theorem dX9_narrows_24 : decode cX9_narrows 24 = .ok (.ifCond .ne 6, 3) := by decide +kernel
theorem dX9_narrows_27 : decode cX9_narrows 27 = .ok (.goto 105, 3) := by decide +kernel
theorem dX9_narrows_30 : decode cX9_narrows 30 = .ok (.aload_n 0, 1) := by decide +kernel
theorem dX9_narrows_31 : decode cX9_narrows 31 = .ok (.getfield 66, 3) := by decide +kernel
theorem dX9_narrows_34 : decode cX9_narrows 34 = .ok (.iload_n 2, 1) := by decide +kernel
theorem dX9_narrows_35 : decode cX9_narrows 35 = .ok (.iaload, 1) := by decide +kernel
theorem dX9_narrows_36 : decode cX9_narrows 36 = .ok (.istore_n 3, 1) := by decide +kernel
theorem dX9_narrows_37 : decode cX9_narrows 37 = .ok (.iload_n 3, 1) := by decide +kernel
theorem dX9_narrows_38 : decode cX9_narrows 38 = .ok (.aload_n 0, 1) := by decide +kernel
theorem dX9_narrows_39 : decode cX9_narrows 39 = .ok (.getfield 66, 3) := by decide +kernel
theorem dX9_narrows_42 : decode cX9_narrows 42 = .ok (.iload_n 2, 1) := by decide +kernel
theorem dX9_narrows_43 : decode cX9_narrows 43 = .ok (.iconst 1, 1) := by decide +kernel
theorem dX9_narrows_44 : decode cX9_narrows 44 = .ok (.iadd, 1) := by decide +kernel
theorem dX9_narrows_45 : decode cX9_narrows 45 = .ok (.iaload, 1) := by decide +kernel
theorem dX9_narrows_46 : decode cX9_narrows 46 = .ok (.if_icmp .ge 86, 3) := by decide +kernel
theorem dX9_narrows_49 : decode cX9_narrows 49 = .ok (.iload_n 1, 1) := by decide +kernel
theorem dX9_narrows_50 : decode cX9_narrows 50 = .ok (.ifCond .ne 29, 3) := by decide +kernel
theorem dX9_narrows_53 : decode cX9_narrows 53 = .ok (.aload_n 0, 1) := by decide +kernel
theorem dX9_narrows_54 : decode cX9_narrows 54 = .ok (.getfield 133, 3) := by decide +kernel
theorem dX9_narrows_57 : decode cX9_narrows 57 = .ok (.aload_n 0, 1) := by decide +kernel
theorem dX9_narrows_58 : decode cX9_narrows 58 = .ok (.iload_n 3, 1) := by decide +kernel
theorem dX9_narrows_59 : decode cX9_narrows 59 = .ok (.invokevirtual 366, 3) := by decide +kernel
theorem dX9_narrows_62 : decode cX9_narrows 62 = .ok (.baload, 1) := by decide +kernel
theorem dX9_narrows_63 : decode cX9_narrows 63 = .ok (.ifCond .eq 20, 3) := by decide +kernel
theorem dX9_narrows_66 : decode cX9_narrows 66 = .ok (.aload_n 0, 1) := by decide +kernel
theorem dX9_narrows_67 : decode cX9_narrows 67 = .ok (.getfield 136, 3) := by decide +kernel
theorem dX9_narrows_70 : decode cX9_narrows 70 = .ok (.aload_n 0, 1) := by decide +kernel
theorem dX9_narrows_71 : decode cX9_narrows 71 = .ok (.iload_n 3, 1) := by decide +kernel
theorem dX9_narrows_72 : decode cX9_narrows 72 = .ok (.invokevirtual 366, 3) := by decide +kernel
theorem dX9_narrows_75 : decode cX9_narrows 75 = .ok (.baload, 1) := by decide +kernel
theorem dX9_narrows_76 : decode cX9_narrows 76 = .ok (.ifCond .ne 7, 3) := by decide +kernel
theorem dX9_narrows_79 : decode cX9_narrows 79 = .ok (.iconst 1, 1) := by decide +kernel
theorem dX9_narrows_80 : decode cX9_narrows 80 = .ok (.goto 4, 3) := by decide +kernel
theorem dX9_narrows_83 : decode cX9_narrows 83 = .ok (.iconst 0, 1) := by decide +kernel
theorem dX9_narrows_84 : decode cX9_narrows 84 = .ok (.istore_n 1, 1) := by decide +kernel
theorem dX9_narrows_85 : decode cX9_narrows 85 = .ok (.aload_n 0, 1) := by decide +kernel
theorem dX9_narrows_86 : decode cX9_narrows 86 = .ok (.getfield 136, 3) := by decide +kernel
theorem dX9_narrows_89 : decode cX9_narrows 89 = .ok (.aload_n 0, 1) := by decide +kernel
theorem dX9_narrows_90 : decode cX9_narrows 90 = .ok (.iload_n 3, 1) := by decide +kernel
theorem dX9_narrows_91 : decode cX9_narrows 91 = .ok (.invokevirtual 366, 3) := by decide +kernel
theorem dX9_narrows_94 : decode cX9_narrows 94 = .ok (.aload_n 0, 1) := by decide +kernel
theorem dX9_narrows_95 : decode cX9_narrows 95 = .ok (.getfield 136, 3) := by decide +kernel
theorem dX9_narrows_98 : decode cX9_narrows 98 = .ok (.aload_n 0, 1) := by decide +kernel
theorem dX9_narrows_99 : decode cX9_narrows 99 = .ok (.iload_n 3, 1) := by decide +kernel
theorem dX9_narrows_100 : decode cX9_narrows 100 = .ok (.invokevirtual 366, 3) := by decide +kernel
theorem dX9_narrows_103 : decode cX9_narrows 103 = .ok (.baload, 1) := by decide +kernel
theorem dX9_narrows_104 : decode cX9_narrows 104 = .ok (.ifCond .ne 16, 3) := by decide +kernel
theorem dX9_narrows_107 : decode cX9_narrows 107 = .ok (.aload_n 0, 1) := by decide +kernel
theorem dX9_narrows_108 : decode cX9_narrows 108 = .ok (.getfield 133, 3) := by decide +kernel
theorem dX9_narrows_111 : decode cX9_narrows 111 = .ok (.aload_n 0, 1) := by decide +kernel
theorem dX9_narrows_112 : decode cX9_narrows 112 = .ok (.iload_n 3, 1) := by decide +kernel
theorem dX9_narrows_113 : decode cX9_narrows 113 = .ok (.invokevirtual 366, 3) := by decide +kernel
theorem dX9_narrows_116 : decode cX9_narrows 116 = .ok (.baload, 1) := by decide +kernel
theorem dX9_narrows_117 : decode cX9_narrows 117 = .ok (.ifCond .eq 7, 3) := by decide +kernel
theorem dX9_narrows_120 : decode cX9_narrows 120 = .ok (.iconst 1, 1) := by decide +kernel
theorem dX9_narrows_121 : decode cX9_narrows 121 = .ok (.goto 4, 3) := by decide +kernel
theorem dX9_narrows_124 : decode cX9_narrows 124 = .ok (.iconst 0, 1) := by decide +kernel
theorem dX9_narrows_125 : decode cX9_narrows 125 = .ok (.bastore, 1) := by decide +kernel
theorem dX9_narrows_126 : decode cX9_narrows 126 = .ok (.iinc 3 1, 3) := by decide +kernel
theorem dX9_narrows_129 : decode cX9_narrows 129 = .ok (.goto (-92), 3) := by decide +kernel
theorem dX9_narrows_132 : decode cX9_narrows 132 = .ok (.iinc 2 1, 3) := by decide +kernel
theorem dX9_narrows_135 : decode cX9_narrows 135 = .ok (.goto (-125), 3) := by decide +kernel
theorem dX9_narrows_138 : decode cX9_narrows 138 = .ok (.goto (-136), 3) := by decide +kernel
theorem dX9_narrows_141 : decode cX9_narrows 141 = .ok (.iconst 0, 1) := by decide +kernel
theorem dX9_narrows_142 : decode cX9_narrows 142 = .ok (.istore_n 2, 1) := by decide +kernel
theorem dX9_narrows_143 : decode cX9_narrows 143 = .ok (.iload_n 2, 1) := by decide +kernel
theorem dX9_narrows_144 : decode cX9_narrows 144 = .ok (.aload_n 0, 1) := by decide +kernel
theorem dX9_narrows_145 : decode cX9_narrows 145 = .ok (.getfield 224, 3) := by decide +kernel
theorem dX9_narrows_148 : decode cX9_narrows 148 = .ok (.if_icmp .ge 38, 3) := by decide +kernel
theorem dX9_narrows_151 : decode cX9_narrows 151 = .ok (.aload_n 0, 1) := by decide +kernel
theorem dX9_narrows_152 : decode cX9_narrows 152 = .ok (.getfield 133, 3) := by decide +kernel
theorem dX9_narrows_155 : decode cX9_narrows 155 = .ok (.iload_n 2, 1) := by decide +kernel
theorem dX9_narrows_156 : decode cX9_narrows 156 = .ok (.aload_n 0, 1) := by decide +kernel
theorem dX9_narrows_157 : decode cX9_narrows 157 = .ok (.getfield 133, 3) := by decide +kernel
theorem dX9_narrows_160 : decode cX9_narrows 160 = .ok (.iload_n 2, 1) := by decide +kernel
theorem dX9_narrows_161 : decode cX9_narrows 161 = .ok (.baload, 1) := by decide +kernel
theorem dX9_narrows_162 : decode cX9_narrows 162 = .ok (.ifCond .eq 16, 3) := by decide +kernel
theorem dX9_narrows_165 : decode cX9_narrows 165 = .ok (.aload_n 0, 1) := by decide +kernel
theorem dX9_narrows_166 : decode cX9_narrows 166 = .ok (.getfield 136, 3) := by decide +kernel
theorem dX9_narrows_169 : decode cX9_narrows 169 = .ok (.iload_n 2, 1) := by decide +kernel
theorem dX9_narrows_170 : decode cX9_narrows 170 = .ok (.baload, 1) := by decide +kernel
theorem dX9_narrows_171 : decode cX9_narrows 171 = .ok (.ifCond .eq 7, 3) := by decide +kernel
theorem dX9_narrows_174 : decode cX9_narrows 174 = .ok (.iconst 1, 1) := by decide +kernel
theorem dX9_narrows_175 : decode cX9_narrows 175 = .ok (.goto 4, 3) := by decide +kernel
theorem dX9_narrows_178 : decode cX9_narrows 178 = .ok (.iconst 0, 1) := by decide +kernel
theorem dX9_narrows_179 : decode cX9_narrows 179 = .ok (.bastore, 1) := by decide +kernel
theorem dX9_narrows_180 : decode cX9_narrows 180 = .ok (.iinc 2 1, 3) := by decide +kernel
theorem dX9_narrows_183 : decode cX9_narrows 183 = .ok (.goto (-40), 3) := by decide +kernel
theorem dX9_narrows_186 : decode cX9_narrows 186 = .ok (.return_, 1) := by decide +kernel
theorem dX9_isAsked_0 : decode cX9_isAsked 0 = .ok (.aload_n 0, 1) := by decide +kernel
theorem dX9_isAsked_1 : decode cX9_isAsked 1 = .ok (.iload_n 1, 1) := by decide +kernel
theorem dX9_isAsked_2 : decode cX9_isAsked 2 = .ok (.iconst 0, 1) := by decide +kernel
theorem dX9_isAsked_3 : decode cX9_isAsked 3 = .ok (.bipush 8, 2) := by decide +kernel
theorem dX9_isAsked_5 : decode cX9_isAsked 5 = .ok (.invokestatic 294, 3) := by decide +kernel
theorem dX9_isAsked_8 : decode cX9_isAsked 8 = .ok (.ifCond .eq 12, 3) := by decide +kernel
theorem dX9_isAsked_11 : decode cX9_isAsked 11 = .ok (.iload_n 2, 1) := by decide +kernel
theorem dX9_isAsked_12 : decode cX9_isAsked 12 = .ok (.iconst 0, 1) := by decide +kernel
theorem dX9_isAsked_13 : decode cX9_isAsked 13 = .ok (.iconst 3, 1) := by decide +kernel
theorem dX9_isAsked_14 : decode cX9_isAsked 14 = .ok (.invokestatic 294, 3) := by decide +kernel
theorem dX9_isAsked_17 : decode cX9_isAsked 17 = .ok (.ifCond .ne 7, 3) := by decide +kernel
theorem dX9_isAsked_20 : decode cX9_isAsked 20 = .ok (.iconst 1, 1) := by decide +kernel
theorem dX9_isAsked_21 : decode cX9_isAsked 21 = .ok (.goto 15, 3) := by decide +kernel
theorem dX9_isAsked_24 : decode cX9_isAsked 24 = .ok (.aload_n 0, 1) := by decide +kernel
theorem dX9_isAsked_25 : decode cX9_isAsked 25 = .ok (.invokevirtual 375, 3) := by decide +kernel
theorem dX9_isAsked_28 : decode cX9_isAsked 28 = .ok (.ifCond .ne 7, 3) := by decide +kernel
theorem dX9_isAsked_31 : decode cX9_isAsked 31 = .ok (.iconst 2, 1) := by decide +kernel
theorem dX9_isAsked_32 : decode cX9_isAsked 32 = .ok (.goto 4, 3) := by decide +kernel
theorem dX9_isAsked_35 : decode cX9_isAsked 35 = .ok (.iconst 0, 1) := by decide +kernel
theorem dX9_isAsked_36 : decode cX9_isAsked 36 = .ok (.putfield 142, 3) := by decide +kernel
theorem dX9_isAsked_39 : decode cX9_isAsked 39 = .ok (.aload_n 0, 1) := by decide +kernel
theorem dX9_isAsked_40 : decode cX9_isAsked 40 = .ok (.getfield 142, 3) := by decide +kernel
theorem dX9_isAsked_43 : decode cX9_isAsked 43 = .ok (.ifCond .ne 7, 3) := by decide +kernel
theorem dX9_isAsked_46 : decode cX9_isAsked 46 = .ok (.iconst 1, 1) := by decide +kernel
theorem dX9_isAsked_47 : decode cX9_isAsked 47 = .ok (.goto 4, 3) := by decide +kernel
theorem dX9_isAsked_50 : decode cX9_isAsked 50 = .ok (.iconst 0, 1) := by decide +kernel
theorem dX9_isAsked_51 : decode cX9_isAsked 51 = .ok (.ireturn, 1) := by decide +kernel
theorem dX9_recurs_0 : decode cX9_recurs 0 = .ok (.aload_n 0, 1) := by decide +kernel
theorem dX9_recurs_1 : decode cX9_recurs 1 = .ok (.iload_n 1, 1) := by decide +kernel
theorem dX9_recurs_2 : decode cX9_recurs 2 = .ok (.iload_n 2, 1) := by decide +kernel
theorem dX9_recurs_3 : decode cX9_recurs 3 = .ok (.invokevirtual 378, 3) := by decide +kernel
theorem dX9_recurs_6 : decode cX9_recurs 6 = .ok (.ifCond .ne 5, 3) := by decide +kernel
theorem dX9_recurs_9 : decode cX9_recurs 9 = .ok (.iconst 0, 1) := by decide +kernel
theorem dX9_recurs_10 : decode cX9_recurs 10 = .ok (.ireturn, 1) := by decide +kernel
theorem dX9_recurs_11 : decode cX9_recurs 11 = .ok (.aload_n 0, 1) := by decide +kernel
theorem dX9_recurs_12 : decode cX9_recurs 12 = .ok (.iload_n 1, 1) := by decide +kernel
theorem dX9_recurs_13 : decode cX9_recurs 13 = .ok (.iload_n 2, 1) := by decide +kernel
theorem dX9_recurs_14 : decode cX9_recurs 14 = .ok (.invokevirtual 381, 3) := by decide +kernel
theorem dX9_recurs_17 : decode cX9_recurs 17 = .ok (.aload_n 0, 1) := by decide +kernel
theorem dX9_recurs_18 : decode cX9_recurs 18 = .ok (.iload_n 3, 1) := by decide +kernel
theorem dX9_recurs_19 : decode cX9_recurs 19 = .ok (.invokevirtual 384, 3) := by decide +kernel
theorem dX9_recurs_22 : decode cX9_recurs 22 = .ok (.ifCond .ne 7, 3) := by decide +kernel
theorem dX9_recurs_25 : decode cX9_recurs 25 = .ok (.iconst 1, 1) := by decide +kernel
theorem dX9_recurs_26 : decode cX9_recurs 26 = .ok (.goto 4, 3) := by decide +kernel
theorem dX9_recurs_29 : decode cX9_recurs 29 = .ok (.iconst 0, 1) := by decide +kernel
theorem dX9_recurs_30 : decode cX9_recurs 30 = .ok (.ireturn, 1) := by decide +kernel
theorem dX9_recursByTaking_0 : decode cX9_recursByTaking 0 = .ok (.aload_n 0, 1) := by decide +kernel
theorem dX9_recursByTaking_1 : decode cX9_recursByTaking 1 = .ok (.iload_n 1, 1) := by decide +kernel
theorem dX9_recursByTaking_2 : decode cX9_recursByTaking 2 = .ok (.iload_n 2, 1) := by decide +kernel
theorem dX9_recursByTaking_3 : decode cX9_recursByTaking 3 = .ok (.iconst 0, 1) := by decide +kernel
theorem dX9_recursByTaking_4 : decode cX9_recursByTaking 4 = .ok (.invokevirtual 388, 3) := by decide +kernel
theorem dX9_recursByTaking_7 : decode cX9_recursByTaking 7 = .ok (.ireturn, 1) := by decide +kernel
theorem dX9_comes_0 : decode cX9_comes 0 = .ok (.aload_n 0, 1) := by decide +kernel
theorem dX9_comes_1 : decode cX9_comes 1 = .ok (.iload_n 1, 1) := by decide +kernel
theorem dX9_comes_2 : decode cX9_comes 2 = .ok (.iload_n 2, 1) := by decide +kernel
theorem dX9_comes_3 : decode cX9_comes 3 = .ok (.invokevirtual 378, 3) := by decide +kernel
theorem dX9_comes_6 : decode cX9_comes 6 = .ok (.ifCond .ne 5, 3) := by decide +kernel
theorem dX9_comes_9 : decode cX9_comes 9 = .ok (.iconst 0, 1) := by decide +kernel
theorem dX9_comes_10 : decode cX9_comes 10 = .ok (.ireturn, 1) := by decide +kernel
theorem dX9_comes_11 : decode cX9_comes 11 = .ok (.aload_n 0, 1) := by decide +kernel
theorem dX9_comes_12 : decode cX9_comes 12 = .ok (.iload_n 1, 1) := by decide +kernel
theorem dX9_comes_13 : decode cX9_comes 13 = .ok (.iload_n 2, 1) := by decide +kernel
theorem dX9_comes_14 : decode cX9_comes 14 = .ok (.invokevirtual 381, 3) := by decide +kernel
theorem dX9_comes_17 : decode cX9_comes 17 = .ok (.iconst 0, 1) := by decide +kernel
theorem dX9_comes_18 : decode cX9_comes 18 = .ok (.istore 4, 2) := by decide +kernel
theorem dX9_comes_20 : decode cX9_comes 20 = .ok (.iload 4, 2) := by decide +kernel
theorem dX9_comes_22 : decode cX9_comes 22 = .ok (.aload_n 0, 1) := by decide +kernel
theorem dX9_comes_23 : decode cX9_comes 23 = .ok (.getfield 224, 3) := by decide +kernel
theorem dX9_comes_26 : decode cX9_comes 26 = .ok (.if_icmp .ge 36, 3) := by decide +kernel
theorem dX9_comes_29 : decode cX9_comes 29 = .ok (.aload_n 0, 1) := by decide +kernel
theorem dX9_comes_30 : decode cX9_comes 30 = .ok (.getfield 136, 3) := by decide +kernel
theorem dX9_comes_33 : decode cX9_comes 33 = .ok (.iload 4, 2) := by decide +kernel
theorem dX9_comes_35 : decode cX9_comes 35 = .ok (.iload 4, 2) := by decide +kernel
theorem dX9_comes_37 : decode cX9_comes 37 = .ok (.ifCond .ne 17, 3) := by decide +kernel
theorem dX9_comes_40 : decode cX9_comes 40 = .ok (.aload_n 0, 1) := by decide +kernel
theorem dX9_comes_41 : decode cX9_comes 41 = .ok (.getfield 133, 3) := by decide +kernel
theorem dX9_comes_44 : decode cX9_comes 44 = .ok (.iload 4, 2) := by decide +kernel
theorem dX9_comes_46 : decode cX9_comes 46 = .ok (.baload, 1) := by decide +kernel
theorem dX9_comes_47 : decode cX9_comes 47 = .ok (.ifCond .eq 7, 3) := by decide +kernel
theorem dX9_comes_50 : decode cX9_comes 50 = .ok (.iconst 1, 1) := by decide +kernel
theorem dX9_comes_51 : decode cX9_comes 51 = .ok (.goto 4, 3) := by decide +kernel
theorem dX9_comes_54 : decode cX9_comes 54 = .ok (.iconst 0, 1) := by decide +kernel
theorem dX9_comes_55 : decode cX9_comes 55 = .ok (.bastore, 1) := by decide +kernel
theorem dX9_comes_56 : decode cX9_comes 56 = .ok (.iinc 4 1, 3) := by decide +kernel
theorem dX9_comes_59 : decode cX9_comes 59 = .ok (.goto (-39), 3) := by decide +kernel
theorem dX9_comes_62 : decode cX9_comes 62 = .ok (.aload_n 0, 1) := by decide +kernel
theorem dX9_comes_63 : decode cX9_comes 63 = .ok (.invokevirtual 392, 3) := by decide +kernel
theorem dX9_comes_66 : decode cX9_comes 66 = .ok (.aload_n 0, 1) := by decide +kernel
theorem dX9_comes_67 : decode cX9_comes 67 = .ok (.iload_n 3, 1) := by decide +kernel
theorem dX9_comes_68 : decode cX9_comes 68 = .ok (.invokevirtual 384, 3) := by decide +kernel
theorem dX9_comes_71 : decode cX9_comes 71 = .ok (.ifCond .ne 7, 3) := by decide +kernel
theorem dX9_comes_74 : decode cX9_comes 74 = .ok (.iconst 1, 1) := by decide +kernel
theorem dX9_comes_75 : decode cX9_comes 75 = .ok (.goto 4, 3) := by decide +kernel
theorem dX9_comes_78 : decode cX9_comes 78 = .ok (.iconst 0, 1) := by decide +kernel
theorem dX9_comes_79 : decode cX9_comes 79 = .ok (.ireturn, 1) := by decide +kernel
theorem dX9_follows_0 : decode cX9_follows 0 = .ok (.aload_n 0, 1) := by decide +kernel
theorem dX9_follows_1 : decode cX9_follows 1 = .ok (.iload_n 1, 1) := by decide +kernel
theorem dX9_follows_2 : decode cX9_follows 2 = .ok (.iconst 0, 1) := by decide +kernel
theorem dX9_follows_3 : decode cX9_follows 3 = .ok (.bipush 8, 2) := by decide +kernel
theorem dX9_follows_5 : decode cX9_follows 5 = .ok (.invokestatic 294, 3) := by decide +kernel
theorem dX9_follows_8 : decode cX9_follows 8 = .ok (.ifCond .eq 32, 3) := by decide +kernel
theorem dX9_follows_11 : decode cX9_follows 11 = .ok (.iload_n 2, 1) := by decide +kernel
theorem dX9_follows_12 : decode cX9_follows 12 = .ok (.iconst 0, 1) := by decide +kernel
theorem dX9_follows_13 : decode cX9_follows 13 = .ok (.iconst 3, 1) := by decide +kernel
theorem dX9_follows_14 : decode cX9_follows 14 = .ok (.invokestatic 294, 3) := by decide +kernel
theorem dX9_follows_17 : decode cX9_follows 17 = .ok (.ifCond .eq 23, 3) := by decide +kernel
theorem dX9_follows_20 : decode cX9_follows 20 = .ok (.iload_n 3, 1) := by decide +kernel
theorem dX9_follows_21 : decode cX9_follows 21 = .ok (.iconst 0, 1) := by decide +kernel
theorem dX9_follows_22 : decode cX9_follows 22 = .ok (.bipush 8, 2) := by decide +kernel
theorem dX9_follows_24 : decode cX9_follows 24 = .ok (.invokestatic 294, 3) := by decide +kernel
theorem dX9_follows_27 : decode cX9_follows 27 = .ok (.ifCond .eq 13, 3) := by decide +kernel
theorem dX9_follows_30 : decode cX9_follows 30 = .ok (.iload 4, 2) := by decide +kernel
theorem dX9_follows_32 : decode cX9_follows 32 = .ok (.iconst 0, 1) := by decide +kernel
theorem dX9_follows_33 : decode cX9_follows 33 = .ok (.iconst 3, 1) := by decide +kernel
theorem dX9_follows_34 : decode cX9_follows 34 = .ok (.invokestatic 294, 3) := by decide +kernel
theorem dX9_follows_37 : decode cX9_follows 37 = .ok (.ifCond .ne 7, 3) := by decide +kernel
theorem dX9_follows_40 : decode cX9_follows 40 = .ok (.iconst 1, 1) := by decide +kernel
theorem dX9_follows_41 : decode cX9_follows 41 = .ok (.goto 15, 3) := by decide +kernel
theorem dX9_follows_44 : decode cX9_follows 44 = .ok (.aload_n 0, 1) := by decide +kernel
theorem dX9_follows_45 : decode cX9_follows 45 = .ok (.invokevirtual 375, 3) := by decide +kernel
theorem dX9_follows_48 : decode cX9_follows 48 = .ok (.ifCond .ne 7, 3) := by decide +kernel
theorem dX9_follows_51 : decode cX9_follows 51 = .ok (.iconst 2, 1) := by decide +kernel
theorem dX9_follows_52 : decode cX9_follows 52 = .ok (.goto 4, 3) := by decide +kernel
theorem dX9_follows_55 : decode cX9_follows 55 = .ok (.iconst 0, 1) := by decide +kernel
theorem dX9_follows_56 : decode cX9_follows 56 = .ok (.putfield 142, 3) := by decide +kernel
theorem dX9_follows_59 : decode cX9_follows 59 = .ok (.aload_n 0, 1) := by decide +kernel
theorem dX9_follows_60 : decode cX9_follows 60 = .ok (.getfield 142, 3) := by decide +kernel
theorem dX9_follows_63 : decode cX9_follows 63 = .ok (.ifCond .le 5, 3) := by decide +kernel
theorem dX9_follows_66 : decode cX9_follows 66 = .ok (.iconst 0, 1) := by decide +kernel
theorem dX9_follows_67 : decode cX9_follows 67 = .ok (.ireturn, 1) := by decide +kernel
theorem dX9_follows_68 : decode cX9_follows 68 = .ok (.aload_n 0, 1) := by decide +kernel
theorem dX9_follows_69 : decode cX9_follows 69 = .ok (.iload_n 3, 1) := by decide +kernel
theorem dX9_follows_70 : decode cX9_follows 70 = .ok (.iload 4, 2) := by decide +kernel
theorem dX9_follows_72 : decode cX9_follows 72 = .ok (.invokevirtual 381, 3) := by decide +kernel
theorem dX9_follows_75 : decode cX9_follows 75 = .ok (.iconst 0, 1) := by decide +kernel
theorem dX9_follows_76 : decode cX9_follows 76 = .ok (.istore 6, 2) := by decide +kernel
theorem dX9_follows_78 : decode cX9_follows 78 = .ok (.iload 6, 2) := by decide +kernel
theorem dX9_follows_80 : decode cX9_follows 80 = .ok (.aload_n 0, 1) := by decide +kernel
theorem dX9_follows_81 : decode cX9_follows 81 = .ok (.getfield 224, 3) := by decide +kernel
theorem dX9_follows_84 : decode cX9_follows 84 = .ok (.if_icmp .ge 42, 3) := by decide +kernel
theorem dX9_follows_87 : decode cX9_follows 87 = .ok (.aload_n 0, 1) := by decide +kernel
theorem dX9_follows_88 : decode cX9_follows 88 = .ok (.getfield 136, 3) := by decide +kernel
theorem dX9_follows_91 : decode cX9_follows 91 = .ok (.iload 6, 2) := by decide +kernel
theorem dX9_follows_93 : decode cX9_follows 93 = .ok (.aload_n 0, 1) := by decide +kernel
theorem dX9_follows_94 : decode cX9_follows 94 = .ok (.getfield 133, 3) := by decide +kernel
theorem dX9_follows_97 : decode cX9_follows 97 = .ok (.iload 6, 2) := by decide +kernel
theorem dX9_follows_99 : decode cX9_follows 99 = .ok (.baload, 1) := by decide +kernel
theorem dX9_follows_100 : decode cX9_follows 100 = .ok (.ifCond .eq 18, 3) := by decide +kernel
theorem dX9_follows_103 : decode cX9_follows 103 = .ok (.aload_n 0, 1) := by decide +kernel
theorem dX9_follows_104 : decode cX9_follows 104 = .ok (.iload 6, 2) := by decide +kernel
theorem dX9_follows_106 : decode cX9_follows 106 = .ok (.iload_n 1, 1) := by decide +kernel
theorem dX9_follows_107 : decode cX9_follows 107 = .ok (.invokevirtual 344, 3) := by decide +kernel
theorem dX9_follows_110 : decode cX9_follows 110 = .ok (.iload_n 2, 1) := by decide +kernel
theorem dX9_follows_111 : decode cX9_follows 111 = .ok (.if_icmp .ne 7, 3) := by decide +kernel
theorem dX9_follows_114 : decode cX9_follows 114 = .ok (.iconst 1, 1) := by decide +kernel
theorem dX9_follows_115 : decode cX9_follows 115 = .ok (.goto 4, 3) := by decide +kernel
theorem dX9_follows_118 : decode cX9_follows 118 = .ok (.iconst 0, 1) := by decide +kernel
theorem dX9_follows_119 : decode cX9_follows 119 = .ok (.bastore, 1) := by decide +kernel
theorem dX9_follows_120 : decode cX9_follows 120 = .ok (.iinc 6 1, 3) := by decide +kernel
theorem dX9_follows_123 : decode cX9_follows 123 = .ok (.goto (-45), 3) := by decide +kernel
theorem dX9_follows_126 : decode cX9_follows 126 = .ok (.aload_n 0, 1) := by decide +kernel
theorem dX9_follows_127 : decode cX9_follows 127 = .ok (.invokevirtual 392, 3) := by decide +kernel
theorem dX9_follows_130 : decode cX9_follows 130 = .ok (.aload_n 0, 1) := by decide +kernel
theorem dX9_follows_131 : decode cX9_follows 131 = .ok (.iload 5, 2) := by decide +kernel
theorem dX9_follows_133 : decode cX9_follows 133 = .ok (.invokevirtual 384, 3) := by decide +kernel
theorem dX9_follows_136 : decode cX9_follows 136 = .ok (.ifCond .ne 7, 3) := by decide +kernel
theorem dX9_follows_139 : decode cX9_follows 139 = .ok (.iconst 1, 1) := by decide +kernel
theorem dX9_follows_140 : decode cX9_follows 140 = .ok (.goto 4, 3) := by decide +kernel
theorem dX9_follows_143 : decode cX9_follows 143 = .ok (.iconst 0, 1) := by decide +kernel
theorem dX9_follows_144 : decode cX9_follows 144 = .ok (.ireturn, 1) := by decide +kernel
theorem dX9_distance_0 : decode cX9_distance 0 = .ok (.aload_n 0, 1) := by decide +kernel
theorem dX9_distance_1 : decode cX9_distance 1 = .ok (.iload_n 1, 1) := by decide +kernel
theorem dX9_distance_2 : decode cX9_distance 2 = .ok (.iload_n 2, 1) := by decide +kernel
theorem dX9_distance_3 : decode cX9_distance 3 = .ok (.invokevirtual 378, 3) := by decide +kernel
theorem dX9_distance_6 : decode cX9_distance 6 = .ok (.ifCond .ne 5, 3) := by decide +kernel
theorem dX9_distance_9 : decode cX9_distance 9 = .ok (.iconst 0, 1) := by decide +kernel
theorem dX9_distance_10 : decode cX9_distance 10 = .ok (.ireturn, 1) := by decide +kernel
theorem dX9_distance_11 : decode cX9_distance 11 = .ok (.iconst 0, 1) := by decide +kernel
theorem dX9_distance_12 : decode cX9_distance 12 = .ok (.istore_n 3, 1) := by decide +kernel
theorem dX9_distance_13 : decode cX9_distance 13 = .ok (.iload_n 3, 1) := by decide +kernel
theorem dX9_distance_14 : decode cX9_distance 14 = .ok (.aload_n 0, 1) := by decide +kernel
theorem dX9_distance_15 : decode cX9_distance 15 = .ok (.getfield 224, 3) := by decide +kernel
theorem dX9_distance_18 : decode cX9_distance 18 = .ok (.if_icmp .ge 26, 3) := by decide +kernel
theorem dX9_distance_21 : decode cX9_distance 21 = .ok (.aload_n 0, 1) := by decide +kernel
theorem dX9_distance_22 : decode cX9_distance 22 = .ok (.iload_n 3, 1) := by decide +kernel
theorem dX9_distance_23 : decode cX9_distance 23 = .ok (.iload_n 1, 1) := by decide +kernel
theorem dX9_distance_24 : decode cX9_distance 24 = .ok (.invokevirtual 344, 3) := by decide +kernel
theorem dX9_distance_27 : decode cX9_distance 27 = .ok (.iload_n 2, 1) := by decide +kernel
theorem dX9_distance_28 : decode cX9_distance 28 = .ok (.if_icmp .ne 10, 3) := by decide +kernel
theorem dX9_distance_31 : decode cX9_distance 31 = .ok (.aload_n 0, 1) := by decide +kernel
theorem dX9_distance_32 : decode cX9_distance 32 = .ok (.getfield 57, 3) := by decide +kernel
theorem dX9_distance_35 : decode cX9_distance 35 = .ok (.iload_n 3, 1) := by decide +kernel
theorem dX9_distance_36 : decode cX9_distance 36 = .ok (.iaload, 1) := by decide +kernel
theorem dX9_distance_37 : decode cX9_distance 37 = .ok (.ireturn, 1) := by decide +kernel
theorem dX9_distance_38 : decode cX9_distance 38 = .ok (.iinc 3 1, 3) := by decide +kernel
theorem dX9_distance_41 : decode cX9_distance 41 = .ok (.goto (-28), 3) := by decide +kernel
theorem dX9_distance_44 : decode cX9_distance 44 = .ok (.aload_n 0, 1) := by decide +kernel
theorem dX9_distance_45 : decode cX9_distance 45 = .ok (.iconst 3, 1) := by decide +kernel
theorem dX9_distance_46 : decode cX9_distance 46 = .ok (.invokevirtual 297, 3) := by decide +kernel
theorem dX9_distance_49 : decode cX9_distance 49 = .ok (.ireturn, 1) := by decide +kernel
theorem dX9_components_0 : decode cX9_components 0 = .ok (.aload_n 0, 1) := by decide +kernel
theorem dX9_components_1 : decode cX9_components 1 = .ok (.aload_n 0, 1) := by decide +kernel
theorem dX9_components_2 : decode cX9_components 2 = .ok (.invokevirtual 375, 3) := by decide +kernel
theorem dX9_components_5 : decode cX9_components 5 = .ok (.ifCond .eq 7, 3) := by decide +kernel
theorem dX9_components_8 : decode cX9_components 8 = .ok (.iconst 0, 1) := by decide +kernel
theorem dX9_components_9 : decode cX9_components 9 = .ok (.goto 4, 3) := by decide +kernel
theorem dX9_components_12 : decode cX9_components 12 = .ok (.iconst 1, 1) := by decide +kernel
theorem dX9_components_13 : decode cX9_components 13 = .ok (.putfield 142, 3) := by decide +kernel
theorem dX9_components_16 : decode cX9_components 16 = .ok (.aload_n 0, 1) := by decide +kernel
theorem dX9_components_17 : decode cX9_components 17 = .ok (.getfield 142, 3) := by decide +kernel
theorem dX9_components_20 : decode cX9_components 20 = .ok (.ifCond .le 5, 3) := by decide +kernel
theorem dX9_components_23 : decode cX9_components 23 = .ok (.iconst 0, 1) := by decide +kernel
theorem dX9_components_24 : decode cX9_components 24 = .ok (.ireturn, 1) := by decide +kernel
theorem dX9_components_25 : decode cX9_components 25 = .ok (.iconst 0, 1) := by decide +kernel
theorem dX9_components_26 : decode cX9_components 26 = .ok (.istore_n 1, 1) := by decide +kernel
theorem dX9_components_27 : decode cX9_components 27 = .ok (.iload_n 1, 1) := by decide +kernel
theorem dX9_components_28 : decode cX9_components 28 = .ok (.aload_n 0, 1) := by decide +kernel
theorem dX9_components_29 : decode cX9_components 29 = .ok (.getfield 224, 3) := by decide +kernel
theorem dX9_components_32 : decode cX9_components 32 = .ok (.if_icmp .ge 16, 3) := by decide +kernel
theorem dX9_components_35 : decode cX9_components 35 = .ok (.aload_n 0, 1) := by decide +kernel
theorem dX9_components_36 : decode cX9_components 36 = .ok (.getfield 133, 3) := by decide +kernel
theorem dX9_components_39 : decode cX9_components 39 = .ok (.iload_n 1, 1) := by decide +kernel
theorem dX9_components_40 : decode cX9_components 40 = .ok (.iconst 1, 1) := by decide +kernel
theorem dX9_components_41 : decode cX9_components 41 = .ok (.bastore, 1) := by decide +kernel
theorem dX9_components_42 : decode cX9_components 42 = .ok (.iinc 1 1, 3) := by decide +kernel
theorem dX9_components_45 : decode cX9_components 45 = .ok (.goto (-18), 3) := by decide +kernel
theorem dX9_components_48 : decode cX9_components 48 = .ok (.aload_n 0, 1) := by decide +kernel
theorem dX9_components_49 : decode cX9_components 49 = .ok (.invokevirtual 372, 3) := by decide +kernel
theorem dX9_components_52 : decode cX9_components 52 = .ok (.aload_n 0, 1) := by decide +kernel
theorem dX9_components_53 : decode cX9_components 53 = .ok (.getfield 354, 3) := by decide +kernel
theorem dX9_components_56 : decode cX9_components 56 = .ok (.ireturn, 1) := by decide +kernel
theorem dX9_meanMoves_0 : decode cX9_meanMoves 0 = .ok (.aload_n 0, 1) := by decide +kernel
theorem dX9_meanMoves_1 : decode cX9_meanMoves 1 = .ok (.invokevirtual 323, 3) := by decide +kernel
theorem dX9_meanMoves_4 : decode cX9_meanMoves 4 = .ok (.ifCond .ne 5, 3) := by decide +kernel
theorem dX9_meanMoves_7 : decode cX9_meanMoves 7 = .ok (.dconst 0, 1) := by decide +kernel
theorem dX9_meanMoves_8 : decode cX9_meanMoves 8 = .ok (.dreturn, 1) := by decide +kernel
theorem dX9_meanMoves_9 : decode cX9_meanMoves 9 = .ok (.iconst 0, 1) := by decide +kernel
theorem dX9_meanMoves_10 : decode cX9_meanMoves 10 = .ok (.istore_n 1, 1) := by decide +kernel
theorem dX9_meanMoves_11 : decode cX9_meanMoves 11 = .ok (.iconst 0, 1) := by decide +kernel
theorem dX9_meanMoves_12 : decode cX9_meanMoves 12 = .ok (.istore_n 2, 1) := by decide +kernel
theorem dX9_meanMoves_13 : decode cX9_meanMoves 13 = .ok (.iload_n 2, 1) := by decide +kernel
theorem dX9_meanMoves_14 : decode cX9_meanMoves 14 = .ok (.aload_n 0, 1) := by decide +kernel
theorem dX9_meanMoves_15 : decode cX9_meanMoves 15 = .ok (.getfield 224, 3) := by decide +kernel
theorem dX9_meanMoves_18 : decode cX9_meanMoves 18 = .ok (.if_icmp .ge 17, 3) := by decide +kernel
theorem dX9_meanMoves_21 : decode cX9_meanMoves 21 = .ok (.iload_n 1, 1) := by decide +kernel
theorem dX9_meanMoves_22 : decode cX9_meanMoves 22 = .ok (.aload_n 0, 1) := by decide +kernel
theorem dX9_meanMoves_23 : decode cX9_meanMoves 23 = .ok (.iload_n 2, 1) := by decide +kernel
theorem dX9_meanMoves_24 : decode cX9_meanMoves 24 = .ok (.invokevirtual 332, 3) := by decide +kernel
theorem dX9_meanMoves_27 : decode cX9_meanMoves 27 = .ok (.iadd, 1) := by decide +kernel
theorem dX9_meanMoves_28 : decode cX9_meanMoves 28 = .ok (.istore_n 1, 1) := by decide +kernel
theorem dX9_meanMoves_29 : decode cX9_meanMoves 29 = .ok (.iinc 2 1, 3) := by decide +kernel
theorem dX9_meanMoves_32 : decode cX9_meanMoves 32 = .ok (.goto (-19), 3) := by decide +kernel
theorem dX9_meanMoves_35 : decode cX9_meanMoves 35 = .ok (.iload_n 1, 1) := by decide +kernel
theorem dX9_meanMoves_36 : decode cX9_meanMoves 36 = .ok (.i2d, 1) := by decide +kernel
theorem dX9_meanMoves_37 : decode cX9_meanMoves 37 = .ok (.aload_n 0, 1) := by decide +kernel
theorem dX9_meanMoves_38 : decode cX9_meanMoves 38 = .ok (.getfield 224, 3) := by decide +kernel
theorem dX9_meanMoves_41 : decode cX9_meanMoves 41 = .ok (.i2d, 1) := by decide +kernel
theorem dX9_meanMoves_42 : decode cX9_meanMoves 42 = .ok (.ddiv, 1) := by decide +kernel
theorem dX9_meanMoves_43 : decode cX9_meanMoves 43 = .ok (.dreturn, 1) := by decide +kernel
theorem dX9_newShare_0 : decode cX9_newShare 0 = .ok (.aload_n 0, 1) := by decide +kernel
theorem dX9_newShare_1 : decode cX9_newShare 1 = .ok (.invokevirtual 323, 3) := by decide +kernel
theorem dX9_newShare_4 : decode cX9_newShare 4 = .ok (.ifCond .ne 5, 3) := by decide +kernel
theorem dX9_newShare_7 : decode cX9_newShare 7 = .ok (.fconst 0, 1) := by decide +kernel
theorem dX9_newShare_8 : decode cX9_newShare 8 = .ok (.freturn, 1) := by decide +kernel
theorem dX9_newShare_9 : decode cX9_newShare 9 = .ok (.aload_n 0, 1) := by decide +kernel
theorem dX9_newShare_10 : decode cX9_newShare 10 = .ok (.aload_n 0, 1) := by decide +kernel
theorem dX9_newShare_11 : decode cX9_newShare 11 = .ok (.getfield 276, 3) := by decide +kernel
theorem dX9_newShare_14 : decode cX9_newShare 14 = .ok (.lconst 0, 1) := by decide +kernel
theorem dX9_newShare_15 : decode cX9_newShare 15 = .ok (.lcmp, 1) := by decide +kernel
theorem dX9_newShare_16 : decode cX9_newShare 16 = .ok (.ifCond .ne 7, 3) := by decide +kernel
theorem dX9_newShare_19 : decode cX9_newShare 19 = .ok (.iconst 2, 1) := by decide +kernel
theorem dX9_newShare_20 : decode cX9_newShare 20 = .ok (.goto 4, 3) := by decide +kernel
theorem dX9_newShare_23 : decode cX9_newShare 23 = .ok (.iconst 0, 1) := by decide +kernel
theorem dX9_newShare_24 : decode cX9_newShare 24 = .ok (.putfield 142, 3) := by decide +kernel
theorem dX9_newShare_27 : decode cX9_newShare 27 = .ok (.aload_n 0, 1) := by decide +kernel
theorem dX9_newShare_28 : decode cX9_newShare 28 = .ok (.getfield 276, 3) := by decide +kernel
theorem dX9_newShare_31 : decode cX9_newShare 31 = .ok (.lconst 0, 1) := by decide +kernel
theorem dX9_newShare_32 : decode cX9_newShare 32 = .ok (.lcmp, 1) := by decide +kernel
theorem dX9_newShare_33 : decode cX9_newShare 33 = .ok (.ifCond .ne 7, 3) := by decide +kernel
theorem dX9_newShare_36 : decode cX9_newShare 36 = .ok (.fconst 0, 1) := by decide +kernel
theorem dX9_newShare_37 : decode cX9_newShare 37 = .ok (.goto 16, 3) := by decide +kernel
theorem dX9_newShare_40 : decode cX9_newShare 40 = .ok (.aload_n 0, 1) := by decide +kernel
theorem dX9_newShare_41 : decode cX9_newShare 41 = .ok (.getfield 224, 3) := by decide +kernel
theorem dX9_newShare_44 : decode cX9_newShare 44 = .ok (.iconst 1, 1) := by decide +kernel
theorem dX9_newShare_45 : decode cX9_newShare 45 = .ok (.isub, 1) := by decide +kernel
theorem dX9_newShare_46 : decode cX9_newShare 46 = .ok (.i2f, 1) := by decide +kernel
theorem dX9_newShare_47 : decode cX9_newShare 47 = .ok (.aload_n 0, 1) := by decide +kernel
theorem dX9_newShare_48 : decode cX9_newShare 48 = .ok (.getfield 276, 3) := by decide +kernel
theorem dX9_newShare_51 : decode cX9_newShare 51 = .ok (.l2f, 1) := by decide +kernel
theorem dX9_newShare_52 : decode cX9_newShare 52 = .ok (.fdiv, 1) := by decide +kernel
theorem dX9_newShare_53 : decode cX9_newShare 53 = .ok (.freturn, 1) := by decide +kernel
theorem dX9_isSound_0 : decode cX9_isSound 0 = .ok (.aload_n 0, 1) := by decide +kernel
theorem dX9_isSound_1 : decode cX9_isSound 1 = .ok (.iconst 0, 1) := by decide +kernel
theorem dX9_isSound_2 : decode cX9_isSound 2 = .ok (.putfield 142, 3) := by decide +kernel
theorem dX9_isSound_5 : decode cX9_isSound 5 = .ok (.iconst 1, 1) := by decide +kernel
theorem dX9_isSound_6 : decode cX9_isSound 6 = .ok (.ireturn, 1) := by decide +kernel
theorem dJx00060_init_a7421_0 : decode cJx00060_init_a7421 0 = .ok (.aload_n 0, 1) := by decide +kernel
theorem dJx00060_init_a7421_1 : decode cJx00060_init_a7421 1 = .ok (.aload_n 1, 1) := by decide +kernel
theorem dJx00060_init_a7421_2 : decode cJx00060_init_a7421 2 = .ok (.invokespecial 7, 3) := by decide +kernel
theorem dJx00060_init_a7421_5 : decode cJx00060_init_a7421 5 = .ok (.return_, 1) := by decide +kernel
theorem dJ9_min_7cf53_0 : decode cJ9_min_7cf53 0 = .ok (.iload_n 0, 1) := by decide +kernel
theorem dJ9_min_7cf53_1 : decode cJ9_min_7cf53 1 = .ok (.iload_n 1, 1) := by decide +kernel
theorem dJ9_min_7cf53_2 : decode cJ9_min_7cf53 2 = .ok (.if_icmp .gt 7, 3) := by decide +kernel
theorem dJ9_min_7cf53_5 : decode cJ9_min_7cf53 5 = .ok (.iload_n 0, 1) := by decide +kernel
theorem dJ9_min_7cf53_6 : decode cJ9_min_7cf53 6 = .ok (.goto 4, 3) := by decide +kernel
theorem dJ9_min_7cf53_9 : decode cJ9_min_7cf53 9 = .ok (.iload_n 1, 1) := by decide +kernel
theorem dJ9_min_7cf53_10 : decode cJ9_min_7cf53 10 = .ok (.ireturn, 1) := by decide +kernel
theorem dJ7_fill_53178_0 : decode cJ7_fill_53178 0 = .ok (.iconst 0, 1) := by decide +kernel
theorem dJ7_fill_53178_1 : decode cJ7_fill_53178 1 = .ok (.istore_n 2, 1) := by decide +kernel
theorem dJ7_fill_53178_2 : decode cJ7_fill_53178 2 = .ok (.aload_n 0, 1) := by decide +kernel
theorem dJ7_fill_53178_3 : decode cJ7_fill_53178 3 = .ok (.arraylength, 1) := by decide +kernel
theorem dJ7_fill_53178_4 : decode cJ7_fill_53178 4 = .ok (.istore_n 3, 1) := by decide +kernel
theorem dJ7_fill_53178_5 : decode cJ7_fill_53178 5 = .ok (.iload_n 2, 1) := by decide +kernel
theorem dJ7_fill_53178_6 : decode cJ7_fill_53178 6 = .ok (.iload_n 3, 1) := by decide +kernel
theorem dJ7_fill_53178_7 : decode cJ7_fill_53178 7 = .ok (.if_icmp .ge 13, 3) := by decide +kernel
theorem dJ7_fill_53178_10 : decode cJ7_fill_53178 10 = .ok (.aload_n 0, 1) := by decide +kernel
theorem dJ7_fill_53178_11 : decode cJ7_fill_53178 11 = .ok (.iload_n 2, 1) := by decide +kernel
theorem dJ7_fill_53178_12 : decode cJ7_fill_53178 12 = .ok (.iload_n 1, 1) := by decide +kernel
theorem dJ7_fill_53178_13 : decode cJ7_fill_53178 13 = .ok (.iastore, 1) := by decide +kernel
theorem dJ7_fill_53178_14 : decode cJ7_fill_53178 14 = .ok (.iinc 2 1, 3) := by decide +kernel
theorem dJ7_fill_53178_17 : decode cJ7_fill_53178 17 = .ok (.goto (-12), 3) := by decide +kernel
theorem dJ7_fill_53178_20 : decode cJ7_fill_53178 20 = .ok (.return_, 1) := by decide +kernel
theorem dJ7_copyOf_59c91_0 : decode cJ7_copyOf_59c91 0 = .ok (.iload_n 1, 1) := by decide +kernel
theorem dJ7_copyOf_59c91_1 : decode cJ7_copyOf_59c91 1 = .ok (.aload_n 0, 1) := by decide +kernel
theorem dJ7_copyOf_59c91_2 : decode cJ7_copyOf_59c91 2 = .ok (.arraylength, 1) := by decide +kernel
theorem dJ7_copyOf_59c91_3 : decode cJ7_copyOf_59c91 3 = .ok (.if_icmp .ne 11, 3) := by decide +kernel
theorem dJ7_copyOf_59c91_6 : decode cJ7_copyOf_59c91 6 = .ok (.aload_n 0, 1) := by decide +kernel
theorem dJ7_copyOf_59c91_7 : decode cJ7_copyOf_59c91 7 = .ok (.invokevirtual 316, 3) := by decide +kernel
theorem dJ7_copyOf_59c91_10 : decode cJ7_copyOf_59c91 10 = .ok (.checkcast 317, 3) := by decide +kernel
theorem dJ7_copyOf_59c91_13 : decode cJ7_copyOf_59c91 13 = .ok (.areturn, 1) := by decide +kernel
theorem dJ7_copyOf_59c91_14 : decode cJ7_copyOf_59c91 14 = .ok (.iload_n 1, 1) := by decide +kernel
theorem dJ7_copyOf_59c91_15 : decode cJ7_copyOf_59c91 15 = .ok (.newarray .int, 2) := by decide +kernel
theorem dJ7_copyOf_59c91_17 : decode cJ7_copyOf_59c91 17 = .ok (.astore_n 2, 1) := by decide +kernel
theorem dJ7_copyOf_59c91_18 : decode cJ7_copyOf_59c91 18 = .ok (.aload_n 0, 1) := by decide +kernel
theorem dJ7_copyOf_59c91_19 : decode cJ7_copyOf_59c91 19 = .ok (.iconst 0, 1) := by decide +kernel
theorem dJ7_copyOf_59c91_20 : decode cJ7_copyOf_59c91 20 = .ok (.aload_n 2, 1) := by decide +kernel
theorem dJ7_copyOf_59c91_21 : decode cJ7_copyOf_59c91 21 = .ok (.iconst 0, 1) := by decide +kernel
theorem dJ7_copyOf_59c91_22 : decode cJ7_copyOf_59c91 22 = .ok (.aload_n 0, 1) := by decide +kernel
theorem dJ7_copyOf_59c91_23 : decode cJ7_copyOf_59c91 23 = .ok (.arraylength, 1) := by decide +kernel
theorem dJ7_copyOf_59c91_24 : decode cJ7_copyOf_59c91 24 = .ok (.iload_n 1, 1) := by decide +kernel
theorem dJ7_copyOf_59c91_25 : decode cJ7_copyOf_59c91 25 = .ok (.invokestatic 304, 3) := by decide +kernel
theorem dJ7_copyOf_59c91_28 : decode cJ7_copyOf_59c91 28 = .ok (.invokestatic 150, 3) := by decide +kernel
theorem dJ7_copyOf_59c91_31 : decode cJ7_copyOf_59c91 31 = .ok (.aload_n 2, 1) := by decide +kernel
theorem dJ7_copyOf_59c91_32 : decode cJ7_copyOf_59c91 32 = .ok (.areturn, 1) := by decide +kernel
theorem dL_addProcess_0 : decode cL_addProcess 0 = .ok (.aload_n 1, 1) := by decide +kernel
theorem dL_addProcess_1 : decode cL_addProcess 1 = .ok (.iconst 0, 1) := by decide +kernel
theorem dL_addProcess_2 : decode cL_addProcess 2 = .ok (.aload_n 0, 1) := by decide +kernel
theorem dL_addProcess_3 : decode cL_addProcess 3 = .ok (.invokevirtual 7, 3) := by decide +kernel
theorem dL_addProcess_6 : decode cL_addProcess 6 = .ok (.i2l, 1) := by decide +kernel
theorem dL_addProcess_7 : decode cL_addProcess 7 = .ok (.lastore, 1) := by decide +kernel
theorem dL_addProcess_8 : decode cL_addProcess 8 = .ok (.goto 6, 3) := by decide +kernel
theorem dL_addProcess_11 : decode cL_addProcess 11 = .ok (.astore_n 2, 1) := by decide +kernel
theorem dL_addProcess_12 : decode cL_addProcess 12 = .ok (.iconst 1, 1) := by decide +kernel
theorem dL_addProcess_13 : decode cL_addProcess 13 = .ok (.ireturn, 1) := by decide +kernel
theorem dL_addProcess_14 : decode cL_addProcess 14 = .ok (.iconst 0, 1) := by decide +kernel
theorem dL_addProcess_15 : decode cL_addProcess 15 = .ok (.ireturn, 1) := by decide +kernel
theorem dL_addStep_0 : decode cL_addStep 0 = .ok (.aload 7, 2) := by decide +kernel
theorem dL_addStep_2 : decode cL_addStep 2 = .ok (.iconst 0, 1) := by decide +kernel
theorem dL_addStep_3 : decode cL_addStep 3 = .ok (.aload_n 0, 1) := by decide +kernel
theorem dL_addStep_4 : decode cL_addStep 4 = .ok (.iload_n 1, 1) := by decide +kernel
theorem dL_addStep_5 : decode cL_addStep 5 = .ok (.iload_n 2, 1) := by decide +kernel
theorem dL_addStep_6 : decode cL_addStep 6 = .ok (.iload_n 3, 1) := by decide +kernel
theorem dL_addStep_7 : decode cL_addStep 7 = .ok (.iload 4, 2) := by decide +kernel
theorem dL_addStep_9 : decode cL_addStep 9 = .ok (.iload 5, 2) := by decide +kernel
theorem dL_addStep_11 : decode cL_addStep 11 = .ok (.iload 6, 2) := by decide +kernel
theorem dL_addStep_13 : decode cL_addStep 13 = .ok (.invokevirtual 15, 3) := by decide +kernel
theorem dL_addStep_16 : decode cL_addStep 16 = .ok (.i2l, 1) := by decide +kernel
theorem dL_addStep_17 : decode cL_addStep 17 = .ok (.lastore, 1) := by decide +kernel
theorem dL_addStep_18 : decode cL_addStep 18 = .ok (.goto 15, 3) := by decide +kernel
theorem dL_addStep_21 : decode cL_addStep 21 = .ok (.astore 8, 2) := by decide +kernel
theorem dL_addStep_23 : decode cL_addStep 23 = .ok (.iconst 1, 1) := by decide +kernel
theorem dL_addStep_24 : decode cL_addStep 24 = .ok (.ireturn, 1) := by decide +kernel
theorem dL_addStep_25 : decode cL_addStep 25 = .ok (.astore 8, 2) := by decide +kernel
theorem dL_addStep_27 : decode cL_addStep 27 = .ok (.iconst 2, 1) := by decide +kernel
theorem dL_addStep_28 : decode cL_addStep 28 = .ok (.ireturn, 1) := by decide +kernel
theorem dL_addStep_29 : decode cL_addStep 29 = .ok (.astore 8, 2) := by decide +kernel
theorem dL_addStep_31 : decode cL_addStep 31 = .ok (.iconst 3, 1) := by decide +kernel
theorem dL_addStep_32 : decode cL_addStep 32 = .ok (.ireturn, 1) := by decide +kernel
theorem dL_addStep_33 : decode cL_addStep 33 = .ok (.iconst 0, 1) := by decide +kernel
theorem dL_addStep_34 : decode cL_addStep 34 = .ok (.ireturn, 1) := by decide +kernel
theorem dL_addChannel_0 : decode cL_addChannel 0 = .ok (.aload_n 2, 1) := by decide +kernel
theorem dL_addChannel_1 : decode cL_addChannel 1 = .ok (.iconst 0, 1) := by decide +kernel
theorem dL_addChannel_2 : decode cL_addChannel 2 = .ok (.aload_n 0, 1) := by decide +kernel
theorem dL_addChannel_3 : decode cL_addChannel 3 = .ok (.iload_n 1, 1) := by decide +kernel
theorem dL_addChannel_4 : decode cL_addChannel 4 = .ok (.invokevirtual 23, 3) := by decide +kernel
theorem dL_addChannel_7 : decode cL_addChannel 7 = .ok (.i2l, 1) := by decide +kernel
theorem dL_addChannel_8 : decode cL_addChannel 8 = .ok (.lastore, 1) := by decide +kernel
theorem dL_addChannel_9 : decode cL_addChannel 9 = .ok (.goto 9, 3) := by decide +kernel
theorem dL_addChannel_12 : decode cL_addChannel 12 = .ok (.astore_n 3, 1) := by decide +kernel
theorem dL_addChannel_13 : decode cL_addChannel 13 = .ok (.iconst 1, 1) := by decide +kernel
theorem dL_addChannel_14 : decode cL_addChannel 14 = .ok (.ireturn, 1) := by decide +kernel
theorem dL_addChannel_15 : decode cL_addChannel 15 = .ok (.astore_n 3, 1) := by decide +kernel
theorem dL_addChannel_16 : decode cL_addChannel 16 = .ok (.iconst 2, 1) := by decide +kernel
theorem dL_addChannel_17 : decode cL_addChannel 17 = .ok (.ireturn, 1) := by decide +kernel
theorem dL_addChannel_18 : decode cL_addChannel 18 = .ok (.iconst 0, 1) := by decide +kernel
theorem dL_addChannel_19 : decode cL_addChannel 19 = .ok (.ireturn, 1) := by decide +kernel
theorem dL_setStart_0 : decode cL_setStart 0 = .ok (.aload_n 3, 1) := by decide +kernel
theorem dL_setStart_1 : decode cL_setStart 1 = .ok (.iconst 0, 1) := by decide +kernel
theorem dL_setStart_2 : decode cL_setStart 2 = .ok (.aload_n 0, 1) := by decide +kernel
theorem dL_setStart_3 : decode cL_setStart 3 = .ok (.iload_n 1, 1) := by decide +kernel
theorem dL_setStart_4 : decode cL_setStart 4 = .ok (.iload_n 2, 1) := by decide +kernel
theorem dL_setStart_5 : decode cL_setStart 5 = .ok (.invokevirtual 27, 3) := by decide +kernel
theorem dL_setStart_8 : decode cL_setStart 8 = .ok (.i2l, 1) := by decide +kernel
theorem dL_setStart_9 : decode cL_setStart 9 = .ok (.lastore, 1) := by decide +kernel
theorem dL_setStart_10 : decode cL_setStart 10 = .ok (.goto 7, 3) := by decide +kernel
theorem dL_setStart_13 : decode cL_setStart 13 = .ok (.astore 4, 2) := by decide +kernel
theorem dL_setStart_15 : decode cL_setStart 15 = .ok (.iconst 1, 1) := by decide +kernel
theorem dL_setStart_16 : decode cL_setStart 16 = .ok (.ireturn, 1) := by decide +kernel
theorem dL_setStart_17 : decode cL_setStart 17 = .ok (.iconst 0, 1) := by decide +kernel
theorem dL_setStart_18 : decode cL_setStart 18 = .ok (.ireturn, 1) := by decide +kernel
theorem dL_setMarks_0 : decode cL_setMarks 0 = .ok (.aload 5, 2) := by decide +kernel
theorem dL_setMarks_2 : decode cL_setMarks 2 = .ok (.iconst 0, 1) := by decide +kernel
theorem dL_setMarks_3 : decode cL_setMarks 3 = .ok (.aload_n 0, 1) := by decide +kernel
theorem dL_setMarks_4 : decode cL_setMarks 4 = .ok (.iload_n 1, 1) := by decide +kernel
theorem dL_setMarks_5 : decode cL_setMarks 5 = .ok (.iload_n 2, 1) := by decide +kernel
theorem dL_setMarks_6 : decode cL_setMarks 6 = .ok (.iload_n 3, 1) := by decide +kernel
theorem dL_setMarks_7 : decode cL_setMarks 7 = .ok (.iload 4, 2) := by decide +kernel
theorem dL_setMarks_9 : decode cL_setMarks 9 = .ok (.invokevirtual 31, 3) := by decide +kernel
theorem dL_setMarks_12 : decode cL_setMarks 12 = .ok (.ifCond .eq 7, 3) := by decide +kernel
theorem dL_setMarks_15 : decode cL_setMarks 15 = .ok (.lconst 1, 1) := by decide +kernel
theorem dL_setMarks_16 : decode cL_setMarks 16 = .ok (.goto 4, 3) := by decide +kernel
theorem dL_setMarks_19 : decode cL_setMarks 19 = .ok (.lconst 0, 1) := by decide +kernel
theorem dL_setMarks_20 : decode cL_setMarks 20 = .ok (.lastore, 1) := by decide +kernel
theorem dL_setMarks_21 : decode cL_setMarks 21 = .ok (.goto 11, 3) := by decide +kernel
theorem dL_setMarks_24 : decode cL_setMarks 24 = .ok (.astore 6, 2) := by decide +kernel
theorem dL_setMarks_26 : decode cL_setMarks 26 = .ok (.iconst 1, 1) := by decide +kernel
theorem dL_setMarks_27 : decode cL_setMarks 27 = .ok (.ireturn, 1) := by decide +kernel
theorem dL_setMarks_28 : decode cL_setMarks 28 = .ok (.astore 6, 2) := by decide +kernel
theorem dL_setMarks_30 : decode cL_setMarks 30 = .ok (.iconst 2, 1) := by decide +kernel
theorem dL_setMarks_31 : decode cL_setMarks 31 = .ok (.ireturn, 1) := by decide +kernel
theorem dL_setMarks_32 : decode cL_setMarks 32 = .ok (.iconst 0, 1) := by decide +kernel
theorem dL_setMarks_33 : decode cL_setMarks 33 = .ok (.ireturn, 1) := by decide +kernel
theorem dL_addInvariant_0 : decode cL_addInvariant 0 = .ok (.aload_n 3, 1) := by decide +kernel
theorem dL_addInvariant_1 : decode cL_addInvariant 1 = .ok (.iconst 0, 1) := by decide +kernel
theorem dL_addInvariant_2 : decode cL_addInvariant 2 = .ok (.aload_n 0, 1) := by decide +kernel
theorem dL_addInvariant_3 : decode cL_addInvariant 3 = .ok (.iload_n 1, 1) := by decide +kernel
theorem dL_addInvariant_4 : decode cL_addInvariant 4 = .ok (.iload_n 2, 1) := by decide +kernel
theorem dL_addInvariant_5 : decode cL_addInvariant 5 = .ok (.invokevirtual 35, 3) := by decide +kernel
theorem dL_addInvariant_8 : decode cL_addInvariant 8 = .ok (.i2l, 1) := by decide +kernel
theorem dL_addInvariant_9 : decode cL_addInvariant 9 = .ok (.lastore, 1) := by decide +kernel
theorem dL_addInvariant_10 : decode cL_addInvariant 10 = .ok (.goto 11, 3) := by decide +kernel
theorem dL_addInvariant_13 : decode cL_addInvariant 13 = .ok (.astore 4, 2) := by decide +kernel
theorem dL_addInvariant_15 : decode cL_addInvariant 15 = .ok (.iconst 1, 1) := by decide +kernel
theorem dL_addInvariant_16 : decode cL_addInvariant 16 = .ok (.ireturn, 1) := by decide +kernel
theorem dL_addInvariant_17 : decode cL_addInvariant 17 = .ok (.astore 4, 2) := by decide +kernel
theorem dL_addInvariant_19 : decode cL_addInvariant 19 = .ok (.iconst 2, 1) := by decide +kernel
theorem dL_addInvariant_20 : decode cL_addInvariant 20 = .ok (.ireturn, 1) := by decide +kernel
theorem dL_addInvariant_21 : decode cL_addInvariant 21 = .ok (.iconst 0, 1) := by decide +kernel
theorem dL_addInvariant_22 : decode cL_addInvariant 22 = .ok (.ireturn, 1) := by decide +kernel
theorem dL_areAlike_0 : decode cL_areAlike 0 = .ok (.aload_n 3, 1) := by decide +kernel
theorem dL_areAlike_1 : decode cL_areAlike 1 = .ok (.iconst 0, 1) := by decide +kernel
theorem dL_areAlike_2 : decode cL_areAlike 2 = .ok (.aload_n 0, 1) := by decide +kernel
theorem dL_areAlike_3 : decode cL_areAlike 3 = .ok (.iload_n 1, 1) := by decide +kernel
theorem dL_areAlike_4 : decode cL_areAlike 4 = .ok (.iload_n 2, 1) := by decide +kernel
theorem dL_areAlike_5 : decode cL_areAlike 5 = .ok (.invokevirtual 38, 3) := by decide +kernel
theorem dL_areAlike_8 : decode cL_areAlike 8 = .ok (.ifCond .eq 7, 3) := by decide +kernel
theorem dL_areAlike_11 : decode cL_areAlike 11 = .ok (.lconst 1, 1) := by decide +kernel
theorem dL_areAlike_12 : decode cL_areAlike 12 = .ok (.goto 4, 3) := by decide +kernel
theorem dL_areAlike_15 : decode cL_areAlike 15 = .ok (.lconst 0, 1) := by decide +kernel
theorem dL_areAlike_16 : decode cL_areAlike 16 = .ok (.lastore, 1) := by decide +kernel
theorem dL_areAlike_17 : decode cL_areAlike 17 = .ok (.goto 7, 3) := by decide +kernel
theorem dL_areAlike_20 : decode cL_areAlike 20 = .ok (.astore 4, 2) := by decide +kernel
theorem dL_areAlike_22 : decode cL_areAlike 22 = .ok (.iconst 1, 1) := by decide +kernel
theorem dL_areAlike_23 : decode cL_areAlike 23 = .ok (.ireturn, 1) := by decide +kernel
theorem dL_areAlike_24 : decode cL_areAlike 24 = .ok (.iconst 0, 1) := by decide +kernel
theorem dL_areAlike_25 : decode cL_areAlike 25 = .ok (.ireturn, 1) := by decide +kernel
theorem dL_begin_0 : decode cL_begin 0 = .ok (.aload_n 2, 1) := by decide +kernel
theorem dL_begin_1 : decode cL_begin 1 = .ok (.iconst 0, 1) := by decide +kernel
theorem dL_begin_2 : decode cL_begin 2 = .ok (.aload_n 0, 1) := by decide +kernel
theorem dL_begin_3 : decode cL_begin 3 = .ok (.iload_n 1, 1) := by decide +kernel
theorem dL_begin_4 : decode cL_begin 4 = .ok (.invokevirtual 42, 3) := by decide +kernel
theorem dL_begin_7 : decode cL_begin 7 = .ok (.i2l, 1) := by decide +kernel
theorem dL_begin_8 : decode cL_begin 8 = .ok (.lastore, 1) := by decide +kernel
theorem dL_begin_9 : decode cL_begin 9 = .ok (.goto 9, 3) := by decide +kernel
theorem dL_begin_12 : decode cL_begin 12 = .ok (.astore_n 3, 1) := by decide +kernel
theorem dL_begin_13 : decode cL_begin 13 = .ok (.iconst 1, 1) := by decide +kernel
theorem dL_begin_14 : decode cL_begin 14 = .ok (.ireturn, 1) := by decide +kernel
theorem dL_begin_15 : decode cL_begin 15 = .ok (.astore_n 3, 1) := by decide +kernel
theorem dL_begin_16 : decode cL_begin 16 = .ok (.iconst 2, 1) := by decide +kernel
theorem dL_begin_17 : decode cL_begin 17 = .ok (.ireturn, 1) := by decide +kernel
theorem dL_begin_18 : decode cL_begin 18 = .ok (.iconst 0, 1) := by decide +kernel
theorem dL_begin_19 : decode cL_begin 19 = .ok (.ireturn, 1) := by decide +kernel
theorem dL_search_0 : decode cL_search 0 = .ok (.aload_n 2, 1) := by decide +kernel
theorem dL_search_1 : decode cL_search 1 = .ok (.iconst 0, 1) := by decide +kernel
theorem dL_search_2 : decode cL_search 2 = .ok (.aload_n 0, 1) := by decide +kernel
theorem dL_search_3 : decode cL_search 3 = .ok (.iload_n 1, 1) := by decide +kernel
theorem dL_search_4 : decode cL_search 4 = .ok (.invokevirtual 48, 3) := by decide +kernel
theorem dL_search_7 : decode cL_search 7 = .ok (.i2l, 1) := by decide +kernel
theorem dL_search_8 : decode cL_search 8 = .ok (.lastore, 1) := by decide +kernel
theorem dL_search_9 : decode cL_search 9 = .ok (.goto 9, 3) := by decide +kernel
theorem dL_search_12 : decode cL_search 12 = .ok (.astore_n 3, 1) := by decide +kernel
theorem dL_search_13 : decode cL_search 13 = .ok (.iconst 1, 1) := by decide +kernel
theorem dL_search_14 : decode cL_search 14 = .ok (.ireturn, 1) := by decide +kernel
theorem dL_search_15 : decode cL_search 15 = .ok (.astore_n 3, 1) := by decide +kernel
theorem dL_search_16 : decode cL_search 16 = .ok (.iconst 2, 1) := by decide +kernel
theorem dL_search_17 : decode cL_search 17 = .ok (.ireturn, 1) := by decide +kernel
theorem dL_search_18 : decode cL_search 18 = .ok (.iconst 0, 1) := by decide +kernel
theorem dL_search_19 : decode cL_search 19 = .ok (.ireturn, 1) := by decide +kernel
theorem dL_verdict_0 : decode cL_verdict 0 = .ok (.aload_n 1, 1) := by decide +kernel
theorem dL_verdict_1 : decode cL_verdict 1 = .ok (.iconst 0, 1) := by decide +kernel
theorem dL_verdict_2 : decode cL_verdict 2 = .ok (.aload_n 0, 1) := by decide +kernel
theorem dL_verdict_3 : decode cL_verdict 3 = .ok (.invokevirtual 51, 3) := by decide +kernel
theorem dL_verdict_6 : decode cL_verdict 6 = .ok (.i2l, 1) := by decide +kernel
theorem dL_verdict_7 : decode cL_verdict 7 = .ok (.lastore, 1) := by decide +kernel
theorem dL_verdict_8 : decode cL_verdict 8 = .ok (.goto 6, 3) := by decide +kernel
theorem dL_verdict_11 : decode cL_verdict 11 = .ok (.astore_n 2, 1) := by decide +kernel
theorem dL_verdict_12 : decode cL_verdict 12 = .ok (.iconst 1, 1) := by decide +kernel
theorem dL_verdict_13 : decode cL_verdict 13 = .ok (.ireturn, 1) := by decide +kernel
theorem dL_verdict_14 : decode cL_verdict 14 = .ok (.iconst 0, 1) := by decide +kernel
theorem dL_verdict_15 : decode cL_verdict 15 = .ok (.ireturn, 1) := by decide +kernel
theorem dL_states_0 : decode cL_states 0 = .ok (.aload_n 1, 1) := by decide +kernel
theorem dL_states_1 : decode cL_states 1 = .ok (.iconst 0, 1) := by decide +kernel
theorem dL_states_2 : decode cL_states 2 = .ok (.aload_n 0, 1) := by decide +kernel
theorem dL_states_3 : decode cL_states 3 = .ok (.invokevirtual 55, 3) := by decide +kernel
theorem dL_states_6 : decode cL_states 6 = .ok (.i2l, 1) := by decide +kernel
theorem dL_states_7 : decode cL_states 7 = .ok (.lastore, 1) := by decide +kernel
theorem dL_states_8 : decode cL_states 8 = .ok (.goto 6, 3) := by decide +kernel
theorem dL_states_11 : decode cL_states 11 = .ok (.astore_n 2, 1) := by decide +kernel
theorem dL_states_12 : decode cL_states 12 = .ok (.iconst 1, 1) := by decide +kernel
theorem dL_states_13 : decode cL_states 13 = .ok (.ireturn, 1) := by decide +kernel
theorem dL_states_14 : decode cL_states 14 = .ok (.iconst 0, 1) := by decide +kernel
theorem dL_states_15 : decode cL_states 15 = .ok (.ireturn, 1) := by decide +kernel
theorem dL_goneOn_0 : decode cL_goneOn 0 = .ok (.aload_n 1, 1) := by decide +kernel
theorem dL_goneOn_1 : decode cL_goneOn 1 = .ok (.iconst 0, 1) := by decide +kernel
theorem dL_goneOn_2 : decode cL_goneOn 2 = .ok (.aload_n 0, 1) := by decide +kernel
theorem dL_goneOn_3 : decode cL_goneOn 3 = .ok (.invokevirtual 58, 3) := by decide +kernel
theorem dL_goneOn_6 : decode cL_goneOn 6 = .ok (.i2l, 1) := by decide +kernel
theorem dL_goneOn_7 : decode cL_goneOn 7 = .ok (.lastore, 1) := by decide +kernel
theorem dL_goneOn_8 : decode cL_goneOn 8 = .ok (.goto 6, 3) := by decide +kernel
theorem dL_goneOn_11 : decode cL_goneOn 11 = .ok (.astore_n 2, 1) := by decide +kernel
theorem dL_goneOn_12 : decode cL_goneOn 12 = .ok (.iconst 1, 1) := by decide +kernel
theorem dL_goneOn_13 : decode cL_goneOn 13 = .ok (.ireturn, 1) := by decide +kernel
theorem dL_goneOn_14 : decode cL_goneOn 14 = .ok (.iconst 0, 1) := by decide +kernel
theorem dL_goneOn_15 : decode cL_goneOn 15 = .ok (.ireturn, 1) := by decide +kernel
theorem dL_codeOf_0 : decode cL_codeOf 0 = .ok (.aload_n 2, 1) := by decide +kernel
theorem dL_codeOf_1 : decode cL_codeOf 1 = .ok (.iconst 0, 1) := by decide +kernel
theorem dL_codeOf_2 : decode cL_codeOf 2 = .ok (.aload_n 0, 1) := by decide +kernel
theorem dL_codeOf_3 : decode cL_codeOf 3 = .ok (.iload_n 1, 1) := by decide +kernel
theorem dL_codeOf_4 : decode cL_codeOf 4 = .ok (.invokevirtual 61, 3) := by decide +kernel
theorem dL_codeOf_7 : decode cL_codeOf 7 = .ok (.lastore, 1) := by decide +kernel
theorem dL_codeOf_8 : decode cL_codeOf 8 = .ok (.goto 9, 3) := by decide +kernel
theorem dL_codeOf_11 : decode cL_codeOf 11 = .ok (.astore_n 3, 1) := by decide +kernel
theorem dL_codeOf_12 : decode cL_codeOf 12 = .ok (.iconst 1, 1) := by decide +kernel
theorem dL_codeOf_13 : decode cL_codeOf 13 = .ok (.ireturn, 1) := by decide +kernel
theorem dL_codeOf_14 : decode cL_codeOf 14 = .ok (.astore_n 3, 1) := by decide +kernel
theorem dL_codeOf_15 : decode cL_codeOf 15 = .ok (.iconst 2, 1) := by decide +kernel
theorem dL_codeOf_16 : decode cL_codeOf 16 = .ok (.ireturn, 1) := by decide +kernel
theorem dL_codeOf_17 : decode cL_codeOf 17 = .ok (.iconst 0, 1) := by decide +kernel
theorem dL_codeOf_18 : decode cL_codeOf 18 = .ok (.ireturn, 1) := by decide +kernel
theorem dL_moves_0 : decode cL_moves 0 = .ok (.aload_n 2, 1) := by decide +kernel
theorem dL_moves_1 : decode cL_moves 1 = .ok (.iconst 0, 1) := by decide +kernel
theorem dL_moves_2 : decode cL_moves 2 = .ok (.aload_n 0, 1) := by decide +kernel
theorem dL_moves_3 : decode cL_moves 3 = .ok (.iload_n 1, 1) := by decide +kernel
theorem dL_moves_4 : decode cL_moves 4 = .ok (.invokevirtual 65, 3) := by decide +kernel
theorem dL_moves_7 : decode cL_moves 7 = .ok (.i2l, 1) := by decide +kernel
theorem dL_moves_8 : decode cL_moves 8 = .ok (.lastore, 1) := by decide +kernel
theorem dL_moves_9 : decode cL_moves 9 = .ok (.goto 9, 3) := by decide +kernel
theorem dL_moves_12 : decode cL_moves 12 = .ok (.astore_n 3, 1) := by decide +kernel
theorem dL_moves_13 : decode cL_moves 13 = .ok (.iconst 1, 1) := by decide +kernel
theorem dL_moves_14 : decode cL_moves 14 = .ok (.ireturn, 1) := by decide +kernel
theorem dL_moves_15 : decode cL_moves 15 = .ok (.astore_n 3, 1) := by decide +kernel
theorem dL_moves_16 : decode cL_moves 16 = .ok (.iconst 2, 1) := by decide +kernel
theorem dL_moves_17 : decode cL_moves 17 = .ok (.ireturn, 1) := by decide +kernel
theorem dL_moves_18 : decode cL_moves 18 = .ok (.iconst 0, 1) := by decide +kernel
theorem dL_moves_19 : decode cL_moves 19 = .ok (.ireturn, 1) := by decide +kernel
theorem dL_reached_0 : decode cL_reached 0 = .ok (.aload_n 3, 1) := by decide +kernel
theorem dL_reached_1 : decode cL_reached 1 = .ok (.iconst 0, 1) := by decide +kernel
theorem dL_reached_2 : decode cL_reached 2 = .ok (.aload_n 0, 1) := by decide +kernel
theorem dL_reached_3 : decode cL_reached 3 = .ok (.iload_n 1, 1) := by decide +kernel
theorem dL_reached_4 : decode cL_reached 4 = .ok (.iload_n 2, 1) := by decide +kernel
theorem dL_reached_5 : decode cL_reached 5 = .ok (.invokevirtual 68, 3) := by decide +kernel
theorem dL_reached_8 : decode cL_reached 8 = .ok (.lastore, 1) := by decide +kernel
theorem dL_reached_9 : decode cL_reached 9 = .ok (.goto 15, 3) := by decide +kernel
theorem dL_reached_12 : decode cL_reached 12 = .ok (.astore 4, 2) := by decide +kernel
theorem dL_reached_14 : decode cL_reached 14 = .ok (.iconst 1, 1) := by decide +kernel
theorem dL_reached_15 : decode cL_reached 15 = .ok (.ireturn, 1) := by decide +kernel
theorem dL_reached_16 : decode cL_reached 16 = .ok (.astore 4, 2) := by decide +kernel
theorem dL_reached_18 : decode cL_reached 18 = .ok (.iconst 2, 1) := by decide +kernel
theorem dL_reached_19 : decode cL_reached 19 = .ok (.ireturn, 1) := by decide +kernel
theorem dL_reached_20 : decode cL_reached 20 = .ok (.astore 4, 2) := by decide +kernel
theorem dL_reached_22 : decode cL_reached 22 = .ok (.iconst 3, 1) := by decide +kernel
theorem dL_reached_23 : decode cL_reached 23 = .ok (.ireturn, 1) := by decide +kernel
theorem dL_reached_24 : decode cL_reached 24 = .ok (.iconst 0, 1) := by decide +kernel
theorem dL_reached_25 : decode cL_reached 25 = .ok (.ireturn, 1) := by decide +kernel
theorem dL_variableIn_0 : decode cL_variableIn 0 = .ok (.aload_n 3, 1) := by decide +kernel
theorem dL_variableIn_1 : decode cL_variableIn 1 = .ok (.iconst 0, 1) := by decide +kernel
theorem dL_variableIn_2 : decode cL_variableIn 2 = .ok (.aload_n 0, 1) := by decide +kernel
theorem dL_variableIn_3 : decode cL_variableIn 3 = .ok (.iload_n 1, 1) := by decide +kernel
theorem dL_variableIn_4 : decode cL_variableIn 4 = .ok (.iload_n 2, 1) := by decide +kernel
theorem dL_variableIn_5 : decode cL_variableIn 5 = .ok (.invokevirtual 74, 3) := by decide +kernel
theorem dL_variableIn_8 : decode cL_variableIn 8 = .ok (.i2l, 1) := by decide +kernel
theorem dL_variableIn_9 : decode cL_variableIn 9 = .ok (.lastore, 1) := by decide +kernel
theorem dL_variableIn_10 : decode cL_variableIn 10 = .ok (.goto 15, 3) := by decide +kernel
theorem dL_variableIn_13 : decode cL_variableIn 13 = .ok (.astore 4, 2) := by decide +kernel
theorem dL_variableIn_15 : decode cL_variableIn 15 = .ok (.iconst 1, 1) := by decide +kernel
theorem dL_variableIn_16 : decode cL_variableIn 16 = .ok (.ireturn, 1) := by decide +kernel
theorem dL_variableIn_17 : decode cL_variableIn 17 = .ok (.astore 4, 2) := by decide +kernel
theorem dL_variableIn_19 : decode cL_variableIn 19 = .ok (.iconst 2, 1) := by decide +kernel
theorem dL_variableIn_20 : decode cL_variableIn 20 = .ok (.ireturn, 1) := by decide +kernel
theorem dL_variableIn_21 : decode cL_variableIn 21 = .ok (.astore 4, 2) := by decide +kernel
theorem dL_variableIn_23 : decode cL_variableIn 23 = .ok (.iconst 3, 1) := by decide +kernel
theorem dL_variableIn_24 : decode cL_variableIn 24 = .ok (.ireturn, 1) := by decide +kernel
theorem dL_variableIn_25 : decode cL_variableIn 25 = .ok (.iconst 0, 1) := by decide +kernel
theorem dL_variableIn_26 : decode cL_variableIn 26 = .ok (.ireturn, 1) := by decide +kernel
theorem dL_made_0 : decode cL_made 0 = .ok (.aload_n 1, 1) := by decide +kernel
theorem dL_made_1 : decode cL_made 1 = .ok (.iconst 0, 1) := by decide +kernel
theorem dL_made_2 : decode cL_made 2 = .ok (.aload_n 0, 1) := by decide +kernel
theorem dL_made_3 : decode cL_made 3 = .ok (.invokevirtual 77, 3) := by decide +kernel
theorem dL_made_6 : decode cL_made 6 = .ok (.lastore, 1) := by decide +kernel
theorem dL_made_7 : decode cL_made 7 = .ok (.goto 6, 3) := by decide +kernel
theorem dL_made_10 : decode cL_made 10 = .ok (.astore_n 2, 1) := by decide +kernel
theorem dL_made_11 : decode cL_made 11 = .ok (.iconst 1, 1) := by decide +kernel
theorem dL_made_12 : decode cL_made 12 = .ok (.ireturn, 1) := by decide +kernel
theorem dL_made_13 : decode cL_made 13 = .ok (.iconst 0, 1) := by decide +kernel
theorem dL_made_14 : decode cL_made 14 = .ok (.ireturn, 1) := by decide +kernel
theorem dL_fault_0 : decode cL_fault 0 = .ok (.aload_n 1, 1) := by decide +kernel
theorem dL_fault_1 : decode cL_fault 1 = .ok (.iconst 0, 1) := by decide +kernel
theorem dL_fault_2 : decode cL_fault 2 = .ok (.aload_n 0, 1) := by decide +kernel
theorem dL_fault_3 : decode cL_fault 3 = .ok (.invokevirtual 81, 3) := by decide +kernel
theorem dL_fault_6 : decode cL_fault 6 = .ok (.i2l, 1) := by decide +kernel
theorem dL_fault_7 : decode cL_fault 7 = .ok (.lastore, 1) := by decide +kernel
theorem dL_fault_8 : decode cL_fault 8 = .ok (.goto 9, 3) := by decide +kernel
theorem dL_fault_11 : decode cL_fault 11 = .ok (.astore_n 2, 1) := by decide +kernel
theorem dL_fault_12 : decode cL_fault 12 = .ok (.iconst 1, 1) := by decide +kernel
theorem dL_fault_13 : decode cL_fault 13 = .ok (.ireturn, 1) := by decide +kernel
theorem dL_fault_14 : decode cL_fault 14 = .ok (.astore_n 2, 1) := by decide +kernel
theorem dL_fault_15 : decode cL_fault 15 = .ok (.iconst 2, 1) := by decide +kernel
theorem dL_fault_16 : decode cL_fault 16 = .ok (.ireturn, 1) := by decide +kernel
theorem dL_fault_17 : decode cL_fault 17 = .ok (.iconst 0, 1) := by decide +kernel
theorem dL_fault_18 : decode cL_fault 18 = .ok (.ireturn, 1) := by decide +kernel
theorem dL_traceLength_0 : decode cL_traceLength 0 = .ok (.aload_n 1, 1) := by decide +kernel
theorem dL_traceLength_1 : decode cL_traceLength 1 = .ok (.iconst 0, 1) := by decide +kernel
theorem dL_traceLength_2 : decode cL_traceLength 2 = .ok (.aload_n 0, 1) := by decide +kernel
theorem dL_traceLength_3 : decode cL_traceLength 3 = .ok (.invokevirtual 84, 3) := by decide +kernel
theorem dL_traceLength_6 : decode cL_traceLength 6 = .ok (.i2l, 1) := by decide +kernel
theorem dL_traceLength_7 : decode cL_traceLength 7 = .ok (.lastore, 1) := by decide +kernel
theorem dL_traceLength_8 : decode cL_traceLength 8 = .ok (.goto 9, 3) := by decide +kernel
theorem dL_traceLength_11 : decode cL_traceLength 11 = .ok (.astore_n 2, 1) := by decide +kernel
theorem dL_traceLength_12 : decode cL_traceLength 12 = .ok (.iconst 1, 1) := by decide +kernel
theorem dL_traceLength_13 : decode cL_traceLength 13 = .ok (.ireturn, 1) := by decide +kernel
theorem dL_traceLength_14 : decode cL_traceLength 14 = .ok (.astore_n 2, 1) := by decide +kernel
theorem dL_traceLength_15 : decode cL_traceLength 15 = .ok (.iconst 2, 1) := by decide +kernel
theorem dL_traceLength_16 : decode cL_traceLength 16 = .ok (.ireturn, 1) := by decide +kernel
theorem dL_traceLength_17 : decode cL_traceLength 17 = .ok (.iconst 0, 1) := by decide +kernel
theorem dL_traceLength_18 : decode cL_traceLength 18 = .ok (.ireturn, 1) := by decide +kernel
theorem dL_traceProcess_0 : decode cL_traceProcess 0 = .ok (.aload_n 2, 1) := by decide +kernel
theorem dL_traceProcess_1 : decode cL_traceProcess 1 = .ok (.iconst 0, 1) := by decide +kernel
theorem dL_traceProcess_2 : decode cL_traceProcess 2 = .ok (.aload_n 0, 1) := by decide +kernel
theorem dL_traceProcess_3 : decode cL_traceProcess 3 = .ok (.iload_n 1, 1) := by decide +kernel
theorem dL_traceProcess_4 : decode cL_traceProcess 4 = .ok (.invokevirtual 87, 3) := by decide +kernel
theorem dL_traceProcess_7 : decode cL_traceProcess 7 = .ok (.i2l, 1) := by decide +kernel
theorem dL_traceProcess_8 : decode cL_traceProcess 8 = .ok (.lastore, 1) := by decide +kernel
theorem dL_traceProcess_9 : decode cL_traceProcess 9 = .ok (.goto 12, 3) := by decide +kernel
theorem dL_traceProcess_12 : decode cL_traceProcess 12 = .ok (.astore_n 3, 1) := by decide +kernel
theorem dL_traceProcess_13 : decode cL_traceProcess 13 = .ok (.iconst 1, 1) := by decide +kernel
theorem dL_traceProcess_14 : decode cL_traceProcess 14 = .ok (.ireturn, 1) := by decide +kernel
theorem dL_traceProcess_15 : decode cL_traceProcess 15 = .ok (.astore_n 3, 1) := by decide +kernel
theorem dL_traceProcess_16 : decode cL_traceProcess 16 = .ok (.iconst 2, 1) := by decide +kernel
theorem dL_traceProcess_17 : decode cL_traceProcess 17 = .ok (.ireturn, 1) := by decide +kernel
theorem dL_traceProcess_18 : decode cL_traceProcess 18 = .ok (.astore_n 3, 1) := by decide +kernel
theorem dL_traceProcess_19 : decode cL_traceProcess 19 = .ok (.iconst 3, 1) := by decide +kernel
theorem dL_traceProcess_20 : decode cL_traceProcess 20 = .ok (.ireturn, 1) := by decide +kernel
theorem dL_traceProcess_21 : decode cL_traceProcess 21 = .ok (.iconst 0, 1) := by decide +kernel
theorem dL_traceProcess_22 : decode cL_traceProcess 22 = .ok (.ireturn, 1) := by decide +kernel
theorem dL_traceStep_0 : decode cL_traceStep 0 = .ok (.aload_n 2, 1) := by decide +kernel
theorem dL_traceStep_1 : decode cL_traceStep 1 = .ok (.iconst 0, 1) := by decide +kernel
theorem dL_traceStep_2 : decode cL_traceStep 2 = .ok (.aload_n 0, 1) := by decide +kernel
theorem dL_traceStep_3 : decode cL_traceStep 3 = .ok (.iload_n 1, 1) := by decide +kernel
theorem dL_traceStep_4 : decode cL_traceStep 4 = .ok (.invokevirtual 90, 3) := by decide +kernel
theorem dL_traceStep_7 : decode cL_traceStep 7 = .ok (.i2l, 1) := by decide +kernel
theorem dL_traceStep_8 : decode cL_traceStep 8 = .ok (.lastore, 1) := by decide +kernel
theorem dL_traceStep_9 : decode cL_traceStep 9 = .ok (.goto 12, 3) := by decide +kernel
theorem dL_traceStep_12 : decode cL_traceStep 12 = .ok (.astore_n 3, 1) := by decide +kernel
theorem dL_traceStep_13 : decode cL_traceStep 13 = .ok (.iconst 1, 1) := by decide +kernel
theorem dL_traceStep_14 : decode cL_traceStep 14 = .ok (.ireturn, 1) := by decide +kernel
theorem dL_traceStep_15 : decode cL_traceStep 15 = .ok (.astore_n 3, 1) := by decide +kernel
theorem dL_traceStep_16 : decode cL_traceStep 16 = .ok (.iconst 2, 1) := by decide +kernel
theorem dL_traceStep_17 : decode cL_traceStep 17 = .ok (.ireturn, 1) := by decide +kernel
theorem dL_traceStep_18 : decode cL_traceStep 18 = .ok (.astore_n 3, 1) := by decide +kernel
theorem dL_traceStep_19 : decode cL_traceStep 19 = .ok (.iconst 3, 1) := by decide +kernel
theorem dL_traceStep_20 : decode cL_traceStep 20 = .ok (.ireturn, 1) := by decide +kernel
theorem dL_traceStep_21 : decode cL_traceStep 21 = .ok (.iconst 0, 1) := by decide +kernel
theorem dL_traceStep_22 : decode cL_traceStep 22 = .ok (.ireturn, 1) := by decide +kernel
theorem dL_replays_0 : decode cL_replays 0 = .ok (.aload_n 1, 1) := by decide +kernel
theorem dL_replays_1 : decode cL_replays 1 = .ok (.iconst 0, 1) := by decide +kernel
theorem dL_replays_2 : decode cL_replays 2 = .ok (.aload_n 0, 1) := by decide +kernel
theorem dL_replays_3 : decode cL_replays 3 = .ok (.invokevirtual 93, 3) := by decide +kernel
theorem dL_replays_6 : decode cL_replays 6 = .ok (.ifCond .eq 7, 3) := by decide +kernel
theorem dL_replays_9 : decode cL_replays 9 = .ok (.lconst 1, 1) := by decide +kernel
theorem dL_replays_10 : decode cL_replays 10 = .ok (.goto 4, 3) := by decide +kernel
theorem dL_replays_13 : decode cL_replays 13 = .ok (.lconst 0, 1) := by decide +kernel
theorem dL_replays_14 : decode cL_replays 14 = .ok (.lastore, 1) := by decide +kernel
theorem dL_replays_15 : decode cL_replays 15 = .ok (.goto 9, 3) := by decide +kernel
theorem dL_replays_18 : decode cL_replays 18 = .ok (.astore_n 2, 1) := by decide +kernel
theorem dL_replays_19 : decode cL_replays 19 = .ok (.iconst 1, 1) := by decide +kernel
theorem dL_replays_20 : decode cL_replays 20 = .ok (.ireturn, 1) := by decide +kernel
theorem dL_replays_21 : decode cL_replays 21 = .ok (.astore_n 2, 1) := by decide +kernel
theorem dL_replays_22 : decode cL_replays 22 = .ok (.iconst 2, 1) := by decide +kernel
theorem dL_replays_23 : decode cL_replays 23 = .ok (.ireturn, 1) := by decide +kernel
theorem dL_replays_24 : decode cL_replays 24 = .ok (.iconst 0, 1) := by decide +kernel
theorem dL_replays_25 : decode cL_replays 25 = .ok (.ireturn, 1) := by decide +kernel
theorem dL_recurs_0 : decode cL_recurs 0 = .ok (.aload 4, 2) := by decide +kernel
theorem dL_recurs_2 : decode cL_recurs 2 = .ok (.iconst 0, 1) := by decide +kernel
theorem dL_recurs_3 : decode cL_recurs 3 = .ok (.aload_n 0, 1) := by decide +kernel
theorem dL_recurs_4 : decode cL_recurs 4 = .ok (.iload_n 1, 1) := by decide +kernel
theorem dL_recurs_5 : decode cL_recurs 5 = .ok (.iload_n 2, 1) := by decide +kernel
theorem dL_recurs_6 : decode cL_recurs 6 = .ok (.iload_n 3, 1) := by decide +kernel
theorem dL_recurs_7 : decode cL_recurs 7 = .ok (.invokevirtual 97, 3) := by decide +kernel
theorem dL_recurs_10 : decode cL_recurs 10 = .ok (.ifCond .eq 7, 3) := by decide +kernel
theorem dL_recurs_13 : decode cL_recurs 13 = .ok (.lconst 1, 1) := by decide +kernel
theorem dL_recurs_14 : decode cL_recurs 14 = .ok (.goto 4, 3) := by decide +kernel
theorem dL_recurs_17 : decode cL_recurs 17 = .ok (.lconst 0, 1) := by decide +kernel
theorem dL_recurs_18 : decode cL_recurs 18 = .ok (.lastore, 1) := by decide +kernel
theorem dL_recurs_19 : decode cL_recurs 19 = .ok (.goto 11, 3) := by decide +kernel
theorem dL_recurs_22 : decode cL_recurs 22 = .ok (.astore 5, 2) := by decide +kernel
theorem dL_recurs_24 : decode cL_recurs 24 = .ok (.iconst 1, 1) := by decide +kernel
theorem dL_recurs_25 : decode cL_recurs 25 = .ok (.ireturn, 1) := by decide +kernel
theorem dL_recurs_26 : decode cL_recurs 26 = .ok (.astore 5, 2) := by decide +kernel
theorem dL_recurs_28 : decode cL_recurs 28 = .ok (.iconst 2, 1) := by decide +kernel
theorem dL_recurs_29 : decode cL_recurs 29 = .ok (.ireturn, 1) := by decide +kernel
theorem dL_recurs_30 : decode cL_recurs 30 = .ok (.iconst 0, 1) := by decide +kernel
theorem dL_recurs_31 : decode cL_recurs 31 = .ok (.ireturn, 1) := by decide +kernel
theorem dL_recursByTaking_0 : decode cL_recursByTaking 0 = .ok (.aload_n 3, 1) := by decide +kernel
theorem dL_recursByTaking_1 : decode cL_recursByTaking 1 = .ok (.iconst 0, 1) := by decide +kernel
theorem dL_recursByTaking_2 : decode cL_recursByTaking 2 = .ok (.aload_n 0, 1) := by decide +kernel
theorem dL_recursByTaking_3 : decode cL_recursByTaking 3 = .ok (.iload_n 1, 1) := by decide +kernel
theorem dL_recursByTaking_4 : decode cL_recursByTaking 4 = .ok (.iload_n 2, 1) := by decide +kernel
theorem dL_recursByTaking_5 : decode cL_recursByTaking 5 = .ok (.invokevirtual 101, 3) := by decide +kernel
theorem dL_recursByTaking_8 : decode cL_recursByTaking 8 = .ok (.ifCond .eq 7, 3) := by decide +kernel
theorem dL_recursByTaking_11 : decode cL_recursByTaking 11 = .ok (.lconst 1, 1) := by decide +kernel
theorem dL_recursByTaking_12 : decode cL_recursByTaking 12 = .ok (.goto 4, 3) := by decide +kernel
theorem dL_recursByTaking_15 : decode cL_recursByTaking 15 = .ok (.lconst 0, 1) := by decide +kernel
theorem dL_recursByTaking_16 : decode cL_recursByTaking 16 = .ok (.lastore, 1) := by decide +kernel
theorem dL_recursByTaking_17 : decode cL_recursByTaking 17 = .ok (.goto 11, 3) := by decide +kernel
theorem dL_recursByTaking_20 : decode cL_recursByTaking 20 = .ok (.astore 4, 2) := by decide +kernel
theorem dL_recursByTaking_22 : decode cL_recursByTaking 22 = .ok (.iconst 1, 1) := by decide +kernel
theorem dL_recursByTaking_23 : decode cL_recursByTaking 23 = .ok (.ireturn, 1) := by decide +kernel
theorem dL_recursByTaking_24 : decode cL_recursByTaking 24 = .ok (.astore 4, 2) := by decide +kernel
theorem dL_recursByTaking_26 : decode cL_recursByTaking 26 = .ok (.iconst 2, 1) := by decide +kernel
theorem dL_recursByTaking_27 : decode cL_recursByTaking 27 = .ok (.ireturn, 1) := by decide +kernel
theorem dL_recursByTaking_28 : decode cL_recursByTaking 28 = .ok (.iconst 0, 1) := by decide +kernel
theorem dL_recursByTaking_29 : decode cL_recursByTaking 29 = .ok (.ireturn, 1) := by decide +kernel
theorem dL_comes_0 : decode cL_comes 0 = .ok (.aload 4, 2) := by decide +kernel
theorem dL_comes_2 : decode cL_comes 2 = .ok (.iconst 0, 1) := by decide +kernel
theorem dL_comes_3 : decode cL_comes 3 = .ok (.aload_n 0, 1) := by decide +kernel
theorem dL_comes_4 : decode cL_comes 4 = .ok (.iload_n 1, 1) := by decide +kernel
theorem dL_comes_5 : decode cL_comes 5 = .ok (.iload_n 2, 1) := by decide +kernel
theorem dL_comes_6 : decode cL_comes 6 = .ok (.iload_n 3, 1) := by decide +kernel
theorem dL_comes_7 : decode cL_comes 7 = .ok (.invokevirtual 104, 3) := by decide +kernel
theorem dL_comes_10 : decode cL_comes 10 = .ok (.ifCond .eq 7, 3) := by decide +kernel
theorem dL_comes_13 : decode cL_comes 13 = .ok (.lconst 1, 1) := by decide +kernel
theorem dL_comes_14 : decode cL_comes 14 = .ok (.goto 4, 3) := by decide +kernel
theorem dL_comes_17 : decode cL_comes 17 = .ok (.lconst 0, 1) := by decide +kernel
theorem dL_comes_18 : decode cL_comes 18 = .ok (.lastore, 1) := by decide +kernel
theorem dL_comes_19 : decode cL_comes 19 = .ok (.goto 11, 3) := by decide +kernel
theorem dL_comes_22 : decode cL_comes 22 = .ok (.astore 5, 2) := by decide +kernel
theorem dL_comes_24 : decode cL_comes 24 = .ok (.iconst 1, 1) := by decide +kernel
theorem dL_comes_25 : decode cL_comes 25 = .ok (.ireturn, 1) := by decide +kernel
theorem dL_comes_26 : decode cL_comes 26 = .ok (.astore 5, 2) := by decide +kernel
theorem dL_comes_28 : decode cL_comes 28 = .ok (.iconst 2, 1) := by decide +kernel
theorem dL_comes_29 : decode cL_comes 29 = .ok (.ireturn, 1) := by decide +kernel
theorem dL_comes_30 : decode cL_comes 30 = .ok (.iconst 0, 1) := by decide +kernel
theorem dL_comes_31 : decode cL_comes 31 = .ok (.ireturn, 1) := by decide +kernel
theorem dL_follows_0 : decode cL_follows 0 = .ok (.aload 6, 2) := by decide +kernel
theorem dL_follows_2 : decode cL_follows 2 = .ok (.iconst 0, 1) := by decide +kernel
theorem dL_follows_3 : decode cL_follows 3 = .ok (.aload_n 0, 1) := by decide +kernel
theorem dL_follows_4 : decode cL_follows 4 = .ok (.iload_n 1, 1) := by decide +kernel
theorem dL_follows_5 : decode cL_follows 5 = .ok (.iload_n 2, 1) := by decide +kernel
theorem dL_follows_6 : decode cL_follows 6 = .ok (.iload_n 3, 1) := by decide +kernel
theorem dL_follows_7 : decode cL_follows 7 = .ok (.iload 4, 2) := by decide +kernel
theorem dL_follows_9 : decode cL_follows 9 = .ok (.iload 5, 2) := by decide +kernel
theorem dL_follows_11 : decode cL_follows 11 = .ok (.invokevirtual 107, 3) := by decide +kernel
theorem dL_follows_14 : decode cL_follows 14 = .ok (.ifCond .eq 7, 3) := by decide +kernel
theorem dL_follows_17 : decode cL_follows 17 = .ok (.lconst 1, 1) := by decide +kernel
theorem dL_follows_18 : decode cL_follows 18 = .ok (.goto 4, 3) := by decide +kernel
theorem dL_follows_21 : decode cL_follows 21 = .ok (.lconst 0, 1) := by decide +kernel
theorem dL_follows_22 : decode cL_follows 22 = .ok (.lastore, 1) := by decide +kernel
theorem dL_follows_23 : decode cL_follows 23 = .ok (.goto 11, 3) := by decide +kernel
theorem dL_follows_26 : decode cL_follows 26 = .ok (.astore 7, 2) := by decide +kernel
theorem dL_follows_28 : decode cL_follows 28 = .ok (.iconst 1, 1) := by decide +kernel
theorem dL_follows_29 : decode cL_follows 29 = .ok (.ireturn, 1) := by decide +kernel
theorem dL_follows_30 : decode cL_follows 30 = .ok (.astore 7, 2) := by decide +kernel
theorem dL_follows_32 : decode cL_follows 32 = .ok (.iconst 2, 1) := by decide +kernel
theorem dL_follows_33 : decode cL_follows 33 = .ok (.ireturn, 1) := by decide +kernel
theorem dL_follows_34 : decode cL_follows 34 = .ok (.iconst 0, 1) := by decide +kernel
theorem dL_follows_35 : decode cL_follows 35 = .ok (.ireturn, 1) := by decide +kernel
theorem dL_distance_0 : decode cL_distance 0 = .ok (.aload_n 3, 1) := by decide +kernel
theorem dL_distance_1 : decode cL_distance 1 = .ok (.iconst 0, 1) := by decide +kernel
theorem dL_distance_2 : decode cL_distance 2 = .ok (.aload_n 0, 1) := by decide +kernel
theorem dL_distance_3 : decode cL_distance 3 = .ok (.iload_n 1, 1) := by decide +kernel
theorem dL_distance_4 : decode cL_distance 4 = .ok (.iload_n 2, 1) := by decide +kernel
theorem dL_distance_5 : decode cL_distance 5 = .ok (.invokevirtual 111, 3) := by decide +kernel
theorem dL_distance_8 : decode cL_distance 8 = .ok (.i2l, 1) := by decide +kernel
theorem dL_distance_9 : decode cL_distance 9 = .ok (.lastore, 1) := by decide +kernel
theorem dL_distance_10 : decode cL_distance 10 = .ok (.goto 15, 3) := by decide +kernel
theorem dL_distance_13 : decode cL_distance 13 = .ok (.astore 4, 2) := by decide +kernel
theorem dL_distance_15 : decode cL_distance 15 = .ok (.iconst 1, 1) := by decide +kernel
theorem dL_distance_16 : decode cL_distance 16 = .ok (.ireturn, 1) := by decide +kernel
theorem dL_distance_17 : decode cL_distance 17 = .ok (.astore 4, 2) := by decide +kernel
theorem dL_distance_19 : decode cL_distance 19 = .ok (.iconst 2, 1) := by decide +kernel
theorem dL_distance_20 : decode cL_distance 20 = .ok (.ireturn, 1) := by decide +kernel
theorem dL_distance_21 : decode cL_distance 21 = .ok (.astore 4, 2) := by decide +kernel
theorem dL_distance_23 : decode cL_distance 23 = .ok (.iconst 3, 1) := by decide +kernel
theorem dL_distance_24 : decode cL_distance 24 = .ok (.ireturn, 1) := by decide +kernel
theorem dL_distance_25 : decode cL_distance 25 = .ok (.iconst 0, 1) := by decide +kernel
theorem dL_distance_26 : decode cL_distance 26 = .ok (.ireturn, 1) := by decide +kernel
theorem dL_components_0 : decode cL_components 0 = .ok (.aload_n 1, 1) := by decide +kernel
theorem dL_components_1 : decode cL_components 1 = .ok (.iconst 0, 1) := by decide +kernel
theorem dL_components_2 : decode cL_components 2 = .ok (.aload_n 0, 1) := by decide +kernel
theorem dL_components_3 : decode cL_components 3 = .ok (.invokevirtual 114, 3) := by decide +kernel
theorem dL_components_6 : decode cL_components 6 = .ok (.i2l, 1) := by decide +kernel
theorem dL_components_7 : decode cL_components 7 = .ok (.lastore, 1) := by decide +kernel
theorem dL_components_8 : decode cL_components 8 = .ok (.goto 6, 3) := by decide +kernel
theorem dL_components_11 : decode cL_components 11 = .ok (.astore_n 2, 1) := by decide +kernel
theorem dL_components_12 : decode cL_components 12 = .ok (.iconst 1, 1) := by decide +kernel
theorem dL_components_13 : decode cL_components 13 = .ok (.ireturn, 1) := by decide +kernel
theorem dL_components_14 : decode cL_components 14 = .ok (.iconst 0, 1) := by decide +kernel
theorem dL_components_15 : decode cL_components 15 = .ok (.ireturn, 1) := by decide +kernel
theorem dL_meanMoves_0 : decode cL_meanMoves 0 = .ok (.aload_n 1, 1) := by decide +kernel
theorem dL_meanMoves_1 : decode cL_meanMoves 1 = .ok (.iconst 0, 1) := by decide +kernel
theorem dL_meanMoves_2 : decode cL_meanMoves 2 = .ok (.aload_n 0, 1) := by decide +kernel
theorem dL_meanMoves_3 : decode cL_meanMoves 3 = .ok (.invokevirtual 117, 3) := by decide +kernel
theorem dL_meanMoves_6 : decode cL_meanMoves 6 = .ok (.dastore, 1) := by decide +kernel
theorem dL_meanMoves_7 : decode cL_meanMoves 7 = .ok (.goto 6, 3) := by decide +kernel
theorem dL_meanMoves_10 : decode cL_meanMoves 10 = .ok (.astore_n 2, 1) := by decide +kernel
theorem dL_meanMoves_11 : decode cL_meanMoves 11 = .ok (.iconst 1, 1) := by decide +kernel
theorem dL_meanMoves_12 : decode cL_meanMoves 12 = .ok (.ireturn, 1) := by decide +kernel
theorem dL_meanMoves_13 : decode cL_meanMoves 13 = .ok (.iconst 0, 1) := by decide +kernel
theorem dL_meanMoves_14 : decode cL_meanMoves 14 = .ok (.ireturn, 1) := by decide +kernel
theorem dL_newShare_0 : decode cL_newShare 0 = .ok (.aload_n 1, 1) := by decide +kernel
theorem dL_newShare_1 : decode cL_newShare 1 = .ok (.iconst 0, 1) := by decide +kernel
theorem dL_newShare_2 : decode cL_newShare 2 = .ok (.aload_n 0, 1) := by decide +kernel
theorem dL_newShare_3 : decode cL_newShare 3 = .ok (.invokevirtual 121, 3) := by decide +kernel
theorem dL_newShare_6 : decode cL_newShare 6 = .ok (.f2d, 1) := by decide +kernel
theorem dL_newShare_7 : decode cL_newShare 7 = .ok (.dastore, 1) := by decide +kernel
theorem dL_newShare_8 : decode cL_newShare 8 = .ok (.goto 9, 3) := by decide +kernel
theorem dL_newShare_11 : decode cL_newShare 11 = .ok (.astore_n 2, 1) := by decide +kernel
theorem dL_newShare_12 : decode cL_newShare 12 = .ok (.iconst 1, 1) := by decide +kernel
theorem dL_newShare_13 : decode cL_newShare 13 = .ok (.ireturn, 1) := by decide +kernel
theorem dL_newShare_14 : decode cL_newShare 14 = .ok (.astore_n 2, 1) := by decide +kernel
theorem dL_newShare_15 : decode cL_newShare 15 = .ok (.iconst 2, 1) := by decide +kernel
theorem dL_newShare_16 : decode cL_newShare 16 = .ok (.ireturn, 1) := by decide +kernel
theorem dL_newShare_17 : decode cL_newShare 17 = .ok (.iconst 0, 1) := by decide +kernel
theorem dL_newShare_18 : decode cL_newShare 18 = .ok (.ireturn, 1) := by decide +kernel
