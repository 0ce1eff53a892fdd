theorem dX4_init_0 : decode cX4_init 0 = .ok (.aload_n 0, 1) := by decide +kernel
theorem dX4_init_1 : decode cX4_init 1 = .ok (.invokespecial 1, 3) := by decide +kernel
theorem dX4_init_4 : decode cX4_init 4 = .ok (.aload_n 0, 1) := by decide +kernel
theorem dX4_init_5 : decode cX4_init 5 = .ok (.bipush 20, 2) := by decide +kernel
theorem dX4_init_7 : decode cX4_init 7 = .ok (.newarray .int, 2) := by decide +kernel
theorem dX4_init_9 : decode cX4_init 9 = .ok (.putfield 7, 3) := by decide +kernel
theorem dX4_init_12 : decode cX4_init 12 = .ok (.aload_n 0, 1) := by decide +kernel
theorem dX4_init_13 : decode cX4_init 13 = .ok (.bipush 40, 2) := by decide +kernel
theorem dX4_init_15 : decode cX4_init 15 = .ok (.newarray .int, 2) := by decide +kernel
theorem dX4_init_17 : decode cX4_init 17 = .ok (.putfield 13, 3) := by decide +kernel
theorem dX4_init_20 : decode cX4_init 20 = .ok (.aload_n 0, 1) := by decide +kernel
theorem dX4_init_21 : decode cX4_init 21 = .ok (.iconst 2, 1) := by decide +kernel
theorem dX4_init_22 : decode cX4_init 22 = .ok (.newarray .boolean, 2) := by decide +kernel
theorem dX4_init_24 : decode cX4_init 24 = .ok (.putfield 16, 3) := by decide +kernel
theorem dX4_init_27 : decode cX4_init 27 = .ok (.aload_n 0, 1) := by decide +kernel
theorem dX4_init_28 : decode cX4_init 28 = .ok (.bipush 18, 2) := by decide +kernel
theorem dX4_init_30 : decode cX4_init 30 = .ok (.newarray .int, 2) := by decide +kernel
theorem dX4_init_32 : decode cX4_init 32 = .ok (.putfield 20, 3) := by decide +kernel
theorem dX4_init_35 : decode cX4_init 35 = .ok (.aload_n 0, 1) := by decide +kernel
theorem dX4_init_36 : decode cX4_init 36 = .ok (.bipush 18, 2) := by decide +kernel
theorem dX4_init_38 : decode cX4_init 38 = .ok (.newarray .int, 2) := by decide +kernel
theorem dX4_init_40 : decode cX4_init 40 = .ok (.putfield 23, 3) := by decide +kernel
theorem dX4_init_43 : decode cX4_init 43 = .ok (.aload_n 0, 1) := by decide +kernel
theorem dX4_init_44 : decode cX4_init 44 = .ok (.bipush 18, 2) := by decide +kernel
theorem dX4_init_46 : decode cX4_init 46 = .ok (.newarray .int, 2) := by decide +kernel
theorem dX4_init_48 : decode cX4_init 48 = .ok (.putfield 26, 3) := by decide +kernel
theorem dX4_init_51 : decode cX4_init 51 = .ok (.aload_n 0, 1) := by decide +kernel
theorem dX4_init_52 : decode cX4_init 52 = .ok (.bipush 18, 2) := by decide +kernel
theorem dX4_init_54 : decode cX4_init 54 = .ok (.newarray .int, 2) := by decide +kernel
theorem dX4_init_56 : decode cX4_init 56 = .ok (.putfield 29, 3) := by decide +kernel
theorem dX4_init_59 : decode cX4_init 59 = .ok (.aload_n 0, 1) := by decide +kernel
theorem dX4_init_60 : decode cX4_init 60 = .ok (.bipush 41, 2) := by decide +kernel
theorem dX4_init_62 : decode cX4_init 62 = .ok (.newarray .int, 2) := by decide +kernel
theorem dX4_init_64 : decode cX4_init 64 = .ok (.putfield 32, 3) := by decide +kernel
theorem dX4_init_67 : decode cX4_init 67 = .ok (.aload_n 0, 1) := by decide +kernel
theorem dX4_init_68 : decode cX4_init 68 = .ok (.bipush 41, 2) := by decide +kernel
theorem dX4_init_70 : decode cX4_init 70 = .ok (.newarray .int, 2) := by decide +kernel
theorem dX4_init_72 : decode cX4_init 72 = .ok (.putfield 35, 3) := by decide +kernel
theorem dX4_init_75 : decode cX4_init 75 = .ok (.aload_n 0, 1) := by decide +kernel
theorem dX4_init_76 : decode cX4_init 76 = .ok (.bipush 41, 2) := by decide +kernel
theorem dX4_init_78 : decode cX4_init 78 = .ok (.newarray .int, 2) := by decide +kernel
theorem dX4_init_80 : decode cX4_init 80 = .ok (.putfield 38, 3) := by decide +kernel
theorem dX4_init_83 : decode cX4_init 83 = .ok (.aload_n 0, 1) := by decide +kernel
theorem dX4_init_84 : decode cX4_init 84 = .ok (.bipush 41, 2) := by decide +kernel
theorem dX4_init_86 : decode cX4_init 86 = .ok (.newarray .int, 2) := by decide +kernel
theorem dX4_init_88 : decode cX4_init 88 = .ok (.putfield 41, 3) := by decide +kernel
theorem dX4_init_91 : decode cX4_init 91 = .ok (.aload_n 0, 1) := by decide +kernel
theorem dX4_init_92 : decode cX4_init 92 = .ok (.sipush 169, 3) := by decide +kernel
theorem dX4_init_95 : decode cX4_init 95 = .ok (.newarray .int, 2) := by decide +kernel
theorem dX4_init_97 : decode cX4_init 97 = .ok (.putfield 44, 3) := by decide +kernel
theorem dX4_init_100 : decode cX4_init 100 = .ok (.aload_n 0, 1) := by decide +kernel
theorem dX4_init_101 : decode cX4_init 101 = .ok (.sipush 169, 3) := by decide +kernel
theorem dX4_init_104 : decode cX4_init 104 = .ok (.newarray .int, 2) := by decide +kernel
theorem dX4_init_106 : decode cX4_init 106 = .ok (.putfield 47, 3) := by decide +kernel
theorem dX4_init_109 : decode cX4_init 109 = .ok (.aload_n 0, 1) := by decide +kernel
theorem dX4_init_110 : decode cX4_init 110 = .ok (.sipush 169, 3) := by decide +kernel
theorem dX4_init_113 : decode cX4_init 113 = .ok (.newarray .int, 2) := by decide +kernel
theorem dX4_init_115 : decode cX4_init 115 = .ok (.putfield 50, 3) := by decide +kernel
theorem dX4_init_118 : decode cX4_init 118 = .ok (.aload_n 0, 1) := by decide +kernel
theorem dX4_init_119 : decode cX4_init 119 = .ok (.getfield 7, 3) := by decide +kernel
theorem dX4_init_122 : decode cX4_init 122 = .ok (.iconst 0, 1) := by decide +kernel
theorem dX4_init_123 : decode cX4_init 123 = .ok (.bipush 8, 2) := by decide +kernel
theorem dX4_init_125 : decode cX4_init 125 = .ok (.iastore, 1) := by decide +kernel
theorem dX4_init_126 : decode cX4_init 126 = .ok (.return_, 1) := by decide +kernel
theorem dX4_in_0 : decode cX4_in 0 = .ok (.iload_n 0, 1) := by decide +kernel
theorem dX4_in_1 : decode cX4_in 1 = .ok (.iload_n 1, 1) := by decide +kernel
theorem dX4_in_2 : decode cX4_in 2 = .ok (.if_icmp .lt 12, 3) := by decide +kernel
theorem dX4_in_5 : decode cX4_in 5 = .ok (.iload_n 0, 1) := by decide +kernel
theorem dX4_in_6 : decode cX4_in 6 = .ok (.iload_n 2, 1) := by decide +kernel
theorem dX4_in_7 : decode cX4_in 7 = .ok (.if_icmp .gt 7, 3) := by decide +kernel
theorem dX4_in_10 : decode cX4_in 10 = .ok (.iconst 1, 1) := by decide +kernel
theorem dX4_in_11 : decode cX4_in 11 = .ok (.goto 4, 3) := by decide +kernel
theorem dX4_in_14 : decode cX4_in 14 = .ok (.iconst 0, 1) := by decide +kernel
theorem dX4_in_15 : decode cX4_in 15 = .ok (.ireturn, 1) := by decide +kernel
theorem dX4_at_0 : decode cX4_at 0 = .ok (.bipush 13, 2) := by decide +kernel
theorem dX4_at_2 : decode cX4_at 2 = .ok (.iload_n 1, 1) := by decide +kernel
theorem dX4_at_3 : decode cX4_at 3 = .ok (.imul, 1) := by decide +kernel
theorem dX4_at_4 : decode cX4_at 4 = .ok (.iload_n 0, 1) := by decide +kernel
theorem dX4_at_5 : decode cX4_at 5 = .ok (.iadd, 1) := by decide +kernel
theorem dX4_at_6 : decode cX4_at 6 = .ok (.ireturn, 1) := by decide +kernel
theorem dX4_mark_0 : decode cX4_mark 0 = .ok (.iconst 0, 1) := by decide +kernel
theorem dX4_mark_1 : decode cX4_mark 1 = .ok (.istore_n 3, 1) := by decide +kernel
theorem dX4_mark_2 : decode cX4_mark 2 = .ok (.iload_n 3, 1) := by decide +kernel
theorem dX4_mark_3 : decode cX4_mark 3 = .ok (.aload_n 0, 1) := by decide +kernel
theorem dX4_mark_4 : decode cX4_mark 4 = .ok (.getfield 29, 3) := by decide +kernel
theorem dX4_mark_7 : decode cX4_mark 7 = .ok (.iload_n 1, 1) := by decide +kernel
theorem dX4_mark_8 : decode cX4_mark 8 = .ok (.iaload, 1) := by decide +kernel
theorem dX4_mark_9 : decode cX4_mark 9 = .ok (.if_icmp .gt 127, 3) := by decide +kernel
theorem dX4_mark_12 : decode cX4_mark 12 = .ok (.aload_n 0, 1) := by decide +kernel
theorem dX4_mark_13 : decode cX4_mark 13 = .ok (.getfield 20, 3) := by decide +kernel
theorem dX4_mark_16 : decode cX4_mark 16 = .ok (.iload_n 1, 1) := by decide +kernel
theorem dX4_mark_17 : decode cX4_mark 17 = .ok (.iaload, 1) := by decide +kernel
theorem dX4_mark_18 : decode cX4_mark 18 = .ok (.ifCond .ne 23, 3) := by decide +kernel
theorem dX4_mark_21 : decode cX4_mark 21 = .ok (.aload_n 0, 1) := by decide +kernel
theorem dX4_mark_22 : decode cX4_mark 22 = .ok (.getfield 23, 3) := by decide +kernel
theorem dX4_mark_25 : decode cX4_mark 25 = .ok (.iload_n 1, 1) := by decide +kernel
theorem dX4_mark_26 : decode cX4_mark 26 = .ok (.iaload, 1) := by decide +kernel
theorem dX4_mark_27 : decode cX4_mark 27 = .ok (.iload_n 3, 1) := by decide +kernel
theorem dX4_mark_28 : decode cX4_mark 28 = .ok (.iadd, 1) := by decide +kernel
theorem dX4_mark_29 : decode cX4_mark 29 = .ok (.aload_n 0, 1) := by decide +kernel
theorem dX4_mark_30 : decode cX4_mark 30 = .ok (.getfield 26, 3) := by decide +kernel
theorem dX4_mark_33 : decode cX4_mark 33 = .ok (.iload_n 1, 1) := by decide +kernel
theorem dX4_mark_34 : decode cX4_mark 34 = .ok (.iaload, 1) := by decide +kernel
theorem dX4_mark_35 : decode cX4_mark 35 = .ok (.invokestatic 53, 3) := by decide +kernel
theorem dX4_mark_38 : decode cX4_mark 38 = .ok (.goto 20, 3) := by decide +kernel
theorem dX4_mark_41 : decode cX4_mark 41 = .ok (.aload_n 0, 1) := by decide +kernel
theorem dX4_mark_42 : decode cX4_mark 42 = .ok (.getfield 23, 3) := by decide +kernel
theorem dX4_mark_45 : decode cX4_mark 45 = .ok (.iload_n 1, 1) := by decide +kernel
theorem dX4_mark_46 : decode cX4_mark 46 = .ok (.iaload, 1) := by decide +kernel
theorem dX4_mark_47 : decode cX4_mark 47 = .ok (.aload_n 0, 1) := by decide +kernel
theorem dX4_mark_48 : decode cX4_mark 48 = .ok (.getfield 26, 3) := by decide +kernel
theorem dX4_mark_51 : decode cX4_mark 51 = .ok (.iload_n 1, 1) := by decide +kernel
theorem dX4_mark_52 : decode cX4_mark 52 = .ok (.iaload, 1) := by decide +kernel
theorem dX4_mark_53 : decode cX4_mark 53 = .ok (.iload_n 3, 1) := by decide +kernel
theorem dX4_mark_54 : decode cX4_mark 54 = .ok (.iadd, 1) := by decide +kernel
theorem dX4_mark_55 : decode cX4_mark 55 = .ok (.invokestatic 53, 3) := by decide +kernel
theorem dX4_mark_58 : decode cX4_mark 58 = .ok (.istore 4, 2) := by decide +kernel
theorem dX4_mark_60 : decode cX4_mark 60 = .ok (.aload_n 0, 1) := by decide +kernel
theorem dX4_mark_61 : decode cX4_mark 61 = .ok (.getfield 50, 3) := by decide +kernel
theorem dX4_mark_64 : decode cX4_mark 64 = .ok (.iload 4, 2) := by decide +kernel
theorem dX4_mark_66 : decode cX4_mark 66 = .ok (.dup2, 1) := by decide +kernel
theorem dX4_mark_67 : decode cX4_mark 67 = .ok (.iaload, 1) := by decide +kernel
theorem dX4_mark_68 : decode cX4_mark 68 = .ok (.iload_n 2, 1) := by decide +kernel
theorem dX4_mark_69 : decode cX4_mark 69 = .ok (.iadd, 1) := by decide +kernel
theorem dX4_mark_70 : decode cX4_mark 70 = .ok (.iastore, 1) := by decide +kernel
theorem dX4_mark_71 : decode cX4_mark 71 = .ok (.iload_n 3, 1) := by decide +kernel
theorem dX4_mark_72 : decode cX4_mark 72 = .ok (.aload_n 0, 1) := by decide +kernel
theorem dX4_mark_73 : decode cX4_mark 73 = .ok (.getfield 29, 3) := by decide +kernel
theorem dX4_mark_76 : decode cX4_mark 76 = .ok (.iload_n 1, 1) := by decide +kernel
theorem dX4_mark_77 : decode cX4_mark 77 = .ok (.iaload, 1) := by decide +kernel
theorem dX4_mark_78 : decode cX4_mark 78 = .ok (.if_icmp .ge 52, 3) := by decide +kernel
theorem dX4_mark_81 : decode cX4_mark 81 = .ok (.aload_n 0, 1) := by decide +kernel
theorem dX4_mark_82 : decode cX4_mark 82 = .ok (.getfield 44, 3) := by decide +kernel
theorem dX4_mark_85 : decode cX4_mark 85 = .ok (.iload 4, 2) := by decide +kernel
theorem dX4_mark_87 : decode cX4_mark 87 = .ok (.dup2, 1) := by decide +kernel
theorem dX4_mark_88 : decode cX4_mark 88 = .ok (.iaload, 1) := by decide +kernel
theorem dX4_mark_89 : decode cX4_mark 89 = .ok (.aload_n 0, 1) := by decide +kernel
theorem dX4_mark_90 : decode cX4_mark 90 = .ok (.getfield 20, 3) := by decide +kernel
theorem dX4_mark_93 : decode cX4_mark 93 = .ok (.iload_n 1, 1) := by decide +kernel
theorem dX4_mark_94 : decode cX4_mark 94 = .ok (.iaload, 1) := by decide +kernel
theorem dX4_mark_95 : decode cX4_mark 95 = .ok (.ifCond .ne 7, 3) := by decide +kernel
theorem dX4_mark_98 : decode cX4_mark 98 = .ok (.iload_n 2, 1) := by decide +kernel
theorem dX4_mark_99 : decode cX4_mark 99 = .ok (.goto 4, 3) := by decide +kernel
theorem dX4_mark_102 : decode cX4_mark 102 = .ok (.iconst 0, 1) := by decide +kernel
theorem dX4_mark_103 : decode cX4_mark 103 = .ok (.iadd, 1) := by decide +kernel
theorem dX4_mark_104 : decode cX4_mark 104 = .ok (.iastore, 1) := by decide +kernel
theorem dX4_mark_105 : decode cX4_mark 105 = .ok (.aload_n 0, 1) := by decide +kernel
theorem dX4_mark_106 : decode cX4_mark 106 = .ok (.getfield 47, 3) := by decide +kernel
theorem dX4_mark_109 : decode cX4_mark 109 = .ok (.iload 4, 2) := by decide +kernel
theorem dX4_mark_111 : decode cX4_mark 111 = .ok (.dup2, 1) := by decide +kernel
theorem dX4_mark_112 : decode cX4_mark 112 = .ok (.iaload, 1) := by decide +kernel
theorem dX4_mark_113 : decode cX4_mark 113 = .ok (.aload_n 0, 1) := by decide +kernel
theorem dX4_mark_114 : decode cX4_mark 114 = .ok (.getfield 20, 3) := by decide +kernel
theorem dX4_mark_117 : decode cX4_mark 117 = .ok (.iload_n 1, 1) := by decide +kernel
theorem dX4_mark_118 : decode cX4_mark 118 = .ok (.iaload, 1) := by decide +kernel
theorem dX4_mark_119 : decode cX4_mark 119 = .ok (.iconst 1, 1) := by decide +kernel
theorem dX4_mark_120 : decode cX4_mark 120 = .ok (.if_icmp .ne 7, 3) := by decide +kernel
theorem dX4_mark_123 : decode cX4_mark 123 = .ok (.iload_n 2, 1) := by decide +kernel
theorem dX4_mark_124 : decode cX4_mark 124 = .ok (.goto 4, 3) := by decide +kernel
theorem dX4_mark_127 : decode cX4_mark 127 = .ok (.iconst 0, 1) := by decide +kernel
theorem dX4_mark_128 : decode cX4_mark 128 = .ok (.iadd, 1) := by decide +kernel
theorem dX4_mark_129 : decode cX4_mark 129 = .ok (.iastore, 1) := by decide +kernel
theorem dX4_mark_130 : decode cX4_mark 130 = .ok (.iinc 3 1, 3) := by decide +kernel
theorem dX4_mark_133 : decode cX4_mark 133 = .ok (.goto (-131), 3) := by decide +kernel
theorem dX4_mark_136 : decode cX4_mark 136 = .ok (.return_, 1) := by decide +kernel
theorem dX4_addFace_0 : decode cX4_addFace 0 = .ok (.aload_n 0, 1) := by decide +kernel
theorem dX4_addFace_1 : decode cX4_addFace 1 = .ok (.getfield 20, 3) := by decide +kernel
theorem dX4_addFace_4 : decode cX4_addFace 4 = .ok (.aload_n 0, 1) := by decide +kernel
theorem dX4_addFace_5 : decode cX4_addFace 5 = .ok (.getfield 57, 3) := by decide +kernel
theorem dX4_addFace_8 : decode cX4_addFace 8 = .ok (.iload_n 1, 1) := by decide +kernel
theorem dX4_addFace_9 : decode cX4_addFace 9 = .ok (.iastore, 1) := by decide +kernel
theorem dX4_addFace_10 : decode cX4_addFace 10 = .ok (.aload_n 0, 1) := by decide +kernel
theorem dX4_addFace_11 : decode cX4_addFace 11 = .ok (.getfield 23, 3) := by decide +kernel
theorem dX4_addFace_14 : decode cX4_addFace 14 = .ok (.aload_n 0, 1) := by decide +kernel
theorem dX4_addFace_15 : decode cX4_addFace 15 = .ok (.getfield 57, 3) := by decide +kernel
theorem dX4_addFace_18 : decode cX4_addFace 18 = .ok (.iload_n 2, 1) := by decide +kernel
theorem dX4_addFace_19 : decode cX4_addFace 19 = .ok (.iastore, 1) := by decide +kernel
theorem dX4_addFace_20 : decode cX4_addFace 20 = .ok (.aload_n 0, 1) := by decide +kernel
theorem dX4_addFace_21 : decode cX4_addFace 21 = .ok (.getfield 26, 3) := by decide +kernel
theorem dX4_addFace_24 : decode cX4_addFace 24 = .ok (.aload_n 0, 1) := by decide +kernel
theorem dX4_addFace_25 : decode cX4_addFace 25 = .ok (.getfield 57, 3) := by decide +kernel
theorem dX4_addFace_28 : decode cX4_addFace 28 = .ok (.iload_n 3, 1) := by decide +kernel
theorem dX4_addFace_29 : decode cX4_addFace 29 = .ok (.iastore, 1) := by decide +kernel
theorem dX4_addFace_30 : decode cX4_addFace 30 = .ok (.aload_n 0, 1) := by decide +kernel
theorem dX4_addFace_31 : decode cX4_addFace 31 = .ok (.getfield 29, 3) := by decide +kernel
theorem dX4_addFace_34 : decode cX4_addFace 34 = .ok (.aload_n 0, 1) := by decide +kernel
theorem dX4_addFace_35 : decode cX4_addFace 35 = .ok (.getfield 57, 3) := by decide +kernel
theorem dX4_addFace_38 : decode cX4_addFace 38 = .ok (.iload 4, 2) := by decide +kernel
theorem dX4_addFace_40 : decode cX4_addFace 40 = .ok (.iastore, 1) := by decide +kernel
theorem dX4_addFace_41 : decode cX4_addFace 41 = .ok (.aload_n 0, 1) := by decide +kernel
theorem dX4_addFace_42 : decode cX4_addFace 42 = .ok (.aload_n 0, 1) := by decide +kernel
theorem dX4_addFace_43 : decode cX4_addFace 43 = .ok (.getfield 57, 3) := by decide +kernel
theorem dX4_addFace_46 : decode cX4_addFace 46 = .ok (.iconst 1, 1) := by decide +kernel
theorem dX4_addFace_47 : decode cX4_addFace 47 = .ok (.invokevirtual 61, 3) := by decide +kernel
theorem dX4_addFace_50 : decode cX4_addFace 50 = .ok (.aload_n 0, 1) := by decide +kernel
theorem dX4_addFace_51 : decode cX4_addFace 51 = .ok (.dup, 1) := by decide +kernel
theorem dX4_addFace_52 : decode cX4_addFace 52 = .ok (.getfield 57, 3) := by decide +kernel
theorem dX4_addFace_55 : decode cX4_addFace 55 = .ok (.iconst 1, 1) := by decide +kernel
theorem dX4_addFace_56 : decode cX4_addFace 56 = .ok (.iadd, 1) := by decide +kernel
theorem dX4_addFace_57 : decode cX4_addFace 57 = .ok (.putfield 57, 3) := by decide +kernel
theorem dX4_addFace_60 : decode cX4_addFace 60 = .ok (.return_, 1) := by decide +kernel
theorem dX4_addCorner_0 : decode cX4_addCorner 0 = .ok (.aload_n 0, 1) := by decide +kernel
theorem dX4_addCorner_1 : decode cX4_addCorner 1 = .ok (.getfield 32, 3) := by decide +kernel
theorem dX4_addCorner_4 : decode cX4_addCorner 4 = .ok (.aload_n 0, 1) := by decide +kernel
theorem dX4_addCorner_5 : decode cX4_addCorner 5 = .ok (.getfield 65, 3) := by decide +kernel
theorem dX4_addCorner_8 : decode cX4_addCorner 8 = .ok (.iload_n 1, 1) := by decide +kernel
theorem dX4_addCorner_9 : decode cX4_addCorner 9 = .ok (.iastore, 1) := by decide +kernel
theorem dX4_addCorner_10 : decode cX4_addCorner 10 = .ok (.aload_n 0, 1) := by decide +kernel
theorem dX4_addCorner_11 : decode cX4_addCorner 11 = .ok (.getfield 35, 3) := by decide +kernel
theorem dX4_addCorner_14 : decode cX4_addCorner 14 = .ok (.aload_n 0, 1) := by decide +kernel
theorem dX4_addCorner_15 : decode cX4_addCorner 15 = .ok (.getfield 65, 3) := by decide +kernel
theorem dX4_addCorner_18 : decode cX4_addCorner 18 = .ok (.iload_n 2, 1) := by decide +kernel
theorem dX4_addCorner_19 : decode cX4_addCorner 19 = .ok (.iastore, 1) := by decide +kernel
theorem dX4_addCorner_20 : decode cX4_addCorner 20 = .ok (.aload_n 0, 1) := by decide +kernel
theorem dX4_addCorner_21 : decode cX4_addCorner 21 = .ok (.getfield 38, 3) := by decide +kernel
theorem dX4_addCorner_24 : decode cX4_addCorner 24 = .ok (.aload_n 0, 1) := by decide +kernel
theorem dX4_addCorner_25 : decode cX4_addCorner 25 = .ok (.getfield 65, 3) := by decide +kernel
theorem dX4_addCorner_28 : decode cX4_addCorner 28 = .ok (.iload_n 3, 1) := by decide +kernel
theorem dX4_addCorner_29 : decode cX4_addCorner 29 = .ok (.iastore, 1) := by decide +kernel
theorem dX4_addCorner_30 : decode cX4_addCorner 30 = .ok (.aload_n 0, 1) := by decide +kernel
theorem dX4_addCorner_31 : decode cX4_addCorner 31 = .ok (.getfield 41, 3) := by decide +kernel
theorem dX4_addCorner_34 : decode cX4_addCorner 34 = .ok (.aload_n 0, 1) := by decide +kernel
theorem dX4_addCorner_35 : decode cX4_addCorner 35 = .ok (.getfield 65, 3) := by decide +kernel
theorem dX4_addCorner_38 : decode cX4_addCorner 38 = .ok (.iload 4, 2) := by decide +kernel
theorem dX4_addCorner_40 : decode cX4_addCorner 40 = .ok (.iastore, 1) := by decide +kernel
theorem dX4_addCorner_41 : decode cX4_addCorner 41 = .ok (.aload_n 0, 1) := by decide +kernel
theorem dX4_addCorner_42 : decode cX4_addCorner 42 = .ok (.dup, 1) := by decide +kernel
theorem dX4_addCorner_43 : decode cX4_addCorner 43 = .ok (.getfield 65, 3) := by decide +kernel
theorem dX4_addCorner_46 : decode cX4_addCorner 46 = .ok (.iconst 1, 1) := by decide +kernel
theorem dX4_addCorner_47 : decode cX4_addCorner 47 = .ok (.iadd, 1) := by decide +kernel
theorem dX4_addCorner_48 : decode cX4_addCorner 48 = .ok (.putfield 65, 3) := by decide +kernel
theorem dX4_addCorner_51 : decode cX4_addCorner 51 = .ok (.return_, 1) := by decide +kernel
theorem dX4_less_0 : decode cX4_less 0 = .ok (.iload_n 0, 1) := by decide +kernel
theorem dX4_less_1 : decode cX4_less 1 = .ok (.iload_n 1, 1) := by decide +kernel
theorem dX4_less_2 : decode cX4_less 2 = .ok (.if_icmp .ge 7, 3) := by decide +kernel
theorem dX4_less_5 : decode cX4_less 5 = .ok (.iload_n 0, 1) := by decide +kernel
theorem dX4_less_6 : decode cX4_less 6 = .ok (.goto 4, 3) := by decide +kernel
theorem dX4_less_9 : decode cX4_less 9 = .ok (.iload_n 1, 1) := by decide +kernel
theorem dX4_less_10 : decode cX4_less 10 = .ok (.ireturn, 1) := by decide +kernel
theorem dX4_push_0 : decode cX4_push 0 = .ok (.aload_n 0, 1) := by decide +kernel
theorem dX4_push_1 : decode cX4_push 1 = .ok (.getfield 32, 3) := by decide +kernel
theorem dX4_push_4 : decode cX4_push 4 = .ok (.iload_n 1, 1) := by decide +kernel
theorem dX4_push_5 : decode cX4_push 5 = .ok (.iaload, 1) := by decide +kernel
theorem dX4_push_6 : decode cX4_push 6 = .ok (.istore 4, 2) := by decide +kernel
theorem dX4_push_8 : decode cX4_push 8 = .ok (.aload_n 0, 1) := by decide +kernel
theorem dX4_push_9 : decode cX4_push 9 = .ok (.getfield 35, 3) := by decide +kernel
theorem dX4_push_12 : decode cX4_push 12 = .ok (.iload_n 1, 1) := by decide +kernel
theorem dX4_push_13 : decode cX4_push 13 = .ok (.iaload, 1) := by decide +kernel
theorem dX4_push_14 : decode cX4_push 14 = .ok (.istore 5, 2) := by decide +kernel
theorem dX4_push_16 : decode cX4_push 16 = .ok (.aload_n 0, 1) := by decide +kernel
theorem dX4_push_17 : decode cX4_push 17 = .ok (.getfield 38, 3) := by decide +kernel
theorem dX4_push_20 : decode cX4_push 20 = .ok (.iload_n 1, 1) := by decide +kernel
theorem dX4_push_21 : decode cX4_push 21 = .ok (.iaload, 1) := by decide +kernel
theorem dX4_push_22 : decode cX4_push 22 = .ok (.istore 6, 2) := by decide +kernel
theorem dX4_push_24 : decode cX4_push 24 = .ok (.aload_n 0, 1) := by decide +kernel
theorem dX4_push_25 : decode cX4_push 25 = .ok (.getfield 41, 3) := by decide +kernel
theorem dX4_push_28 : decode cX4_push 28 = .ok (.iload_n 1, 1) := by decide +kernel
theorem dX4_push_29 : decode cX4_push 29 = .ok (.iaload, 1) := by decide +kernel
theorem dX4_push_30 : decode cX4_push 30 = .ok (.istore 7, 2) := by decide +kernel
theorem dX4_push_32 : decode cX4_push 32 = .ok (.iload 4, 2) := by decide +kernel
theorem dX4_push_34 : decode cX4_push 34 = .ok (.iload 6, 2) := by decide +kernel
theorem dX4_push_36 : decode cX4_push 36 = .ok (.iload_n 2, 1) := by decide +kernel
theorem dX4_push_37 : decode cX4_push 37 = .ok (.imul, 1) := by decide +kernel
theorem dX4_push_38 : decode cX4_push 38 = .ok (.iadd, 1) := by decide +kernel
theorem dX4_push_39 : decode cX4_push 39 = .ok (.istore 8, 2) := by decide +kernel
theorem dX4_push_41 : decode cX4_push 41 = .ok (.iload 5, 2) := by decide +kernel
theorem dX4_push_43 : decode cX4_push 43 = .ok (.iload 7, 2) := by decide +kernel
theorem dX4_push_45 : decode cX4_push 45 = .ok (.iload_n 3, 1) := by decide +kernel
theorem dX4_push_46 : decode cX4_push 46 = .ok (.imul, 1) := by decide +kernel
theorem dX4_push_47 : decode cX4_push 47 = .ok (.iadd, 1) := by decide +kernel
theorem dX4_push_48 : decode cX4_push 48 = .ok (.istore 9, 2) := by decide +kernel
theorem dX4_push_50 : decode cX4_push 50 = .ok (.aload_n 0, 1) := by decide +kernel
theorem dX4_push_51 : decode cX4_push 51 = .ok (.iconst 1, 1) := by decide +kernel
theorem dX4_push_52 : decode cX4_push 52 = .ok (.iload 8, 2) := by decide +kernel
theorem dX4_push_54 : decode cX4_push 54 = .ok (.iload 5, 2) := by decide +kernel
theorem dX4_push_56 : decode cX4_push 56 = .ok (.iload 9, 2) := by decide +kernel
theorem dX4_push_58 : decode cX4_push 58 = .ok (.invokestatic 68, 3) := by decide +kernel
theorem dX4_push_61 : decode cX4_push 61 = .ok (.iload_n 3, 1) := by decide +kernel
theorem dX4_push_62 : decode cX4_push 62 = .ok (.invokevirtual 71, 3) := by decide +kernel
theorem dX4_push_65 : decode cX4_push 65 = .ok (.aload_n 0, 1) := by decide +kernel
theorem dX4_push_66 : decode cX4_push 66 = .ok (.iconst 0, 1) := by decide +kernel
theorem dX4_push_67 : decode cX4_push 67 = .ok (.iload 4, 2) := by decide +kernel
theorem dX4_push_69 : decode cX4_push 69 = .ok (.iload 8, 2) := by decide +kernel
theorem dX4_push_71 : decode cX4_push 71 = .ok (.invokestatic 68, 3) := by decide +kernel
theorem dX4_push_74 : decode cX4_push 74 = .ok (.iload 9, 2) := by decide +kernel
theorem dX4_push_76 : decode cX4_push 76 = .ok (.iload_n 2, 1) := by decide +kernel
theorem dX4_push_77 : decode cX4_push 77 = .ok (.invokevirtual 71, 3) := by decide +kernel
theorem dX4_push_80 : decode cX4_push 80 = .ok (.aload_n 0, 1) := by decide +kernel
theorem dX4_push_81 : decode cX4_push 81 = .ok (.iload 8, 2) := by decide +kernel
theorem dX4_push_83 : decode cX4_push 83 = .ok (.iload 5, 2) := by decide +kernel
theorem dX4_push_85 : decode cX4_push 85 = .ok (.iload 6, 2) := by decide +kernel
theorem dX4_push_87 : decode cX4_push 87 = .ok (.ineg, 1) := by decide +kernel
theorem dX4_push_88 : decode cX4_push 88 = .ok (.iload 7, 2) := by decide +kernel
theorem dX4_push_90 : decode cX4_push 90 = .ok (.invokevirtual 75, 3) := by decide +kernel
theorem dX4_push_93 : decode cX4_push 93 = .ok (.aload_n 0, 1) := by decide +kernel
theorem dX4_push_94 : decode cX4_push 94 = .ok (.iload 8, 2) := by decide +kernel
theorem dX4_push_96 : decode cX4_push 96 = .ok (.iload 5, 2) := by decide +kernel
theorem dX4_push_98 : decode cX4_push 98 = .ok (.iload 6, 2) := by decide +kernel
theorem dX4_push_100 : decode cX4_push 100 = .ok (.iload 7, 2) := by decide +kernel
theorem dX4_push_102 : decode cX4_push 102 = .ok (.invokevirtual 75, 3) := by decide +kernel
theorem dX4_push_105 : decode cX4_push 105 = .ok (.aload_n 0, 1) := by decide +kernel
theorem dX4_push_106 : decode cX4_push 106 = .ok (.iload 4, 2) := by decide +kernel
theorem dX4_push_108 : decode cX4_push 108 = .ok (.iload 9, 2) := by decide +kernel
theorem dX4_push_110 : decode cX4_push 110 = .ok (.iload 6, 2) := by decide +kernel
theorem dX4_push_112 : decode cX4_push 112 = .ok (.iload 7, 2) := by decide +kernel
theorem dX4_push_114 : decode cX4_push 114 = .ok (.ineg, 1) := by decide +kernel
theorem dX4_push_115 : decode cX4_push 115 = .ok (.invokevirtual 75, 3) := by decide +kernel
theorem dX4_push_118 : decode cX4_push 118 = .ok (.aload_n 0, 1) := by decide +kernel
theorem dX4_push_119 : decode cX4_push 119 = .ok (.iload 4, 2) := by decide +kernel
theorem dX4_push_121 : decode cX4_push 121 = .ok (.iload 9, 2) := by decide +kernel
theorem dX4_push_123 : decode cX4_push 123 = .ok (.iload 6, 2) := by decide +kernel
theorem dX4_push_125 : decode cX4_push 125 = .ok (.iload 7, 2) := by decide +kernel
theorem dX4_push_127 : decode cX4_push 127 = .ok (.invokevirtual 75, 3) := by decide +kernel
theorem dX4_push_130 : decode cX4_push 130 = .ok (.aload_n 0, 1) := by decide +kernel
theorem dX4_push_131 : decode cX4_push 131 = .ok (.iload 8, 2) := by decide +kernel
theorem dX4_push_133 : decode cX4_push 133 = .ok (.iload 9, 2) := by decide +kernel
theorem dX4_push_135 : decode cX4_push 135 = .ok (.iload 6, 2) := by decide +kernel
theorem dX4_push_137 : decode cX4_push 137 = .ok (.ineg, 1) := by decide +kernel
theorem dX4_push_138 : decode cX4_push 138 = .ok (.iload 7, 2) := by decide +kernel
theorem dX4_push_140 : decode cX4_push 140 = .ok (.ineg, 1) := by decide +kernel
theorem dX4_push_141 : decode cX4_push 141 = .ok (.invokevirtual 75, 3) := by decide +kernel
theorem dX4_push_144 : decode cX4_push 144 = .ok (.return_, 1) := by decide +kernel
theorem dX4_pop_0 : decode cX4_pop 0 = .ok (.iconst 0, 1) := by decide +kernel
theorem dX4_pop_1 : decode cX4_pop 1 = .ok (.istore_n 1, 1) := by decide +kernel
theorem dX4_pop_2 : decode cX4_pop 2 = .ok (.iload_n 1, 1) := by decide +kernel
theorem dX4_pop_3 : decode cX4_pop 3 = .ok (.iconst 2, 1) := by decide +kernel
theorem dX4_pop_4 : decode cX4_pop 4 = .ok (.if_icmp .ge 28, 3) := by decide +kernel
theorem dX4_pop_7 : decode cX4_pop 7 = .ok (.aload_n 0, 1) := by decide +kernel
theorem dX4_pop_8 : decode cX4_pop 8 = .ok (.dup, 1) := by decide +kernel
theorem dX4_pop_9 : decode cX4_pop 9 = .ok (.getfield 57, 3) := by decide +kernel
theorem dX4_pop_12 : decode cX4_pop 12 = .ok (.iconst 1, 1) := by decide +kernel
theorem dX4_pop_13 : decode cX4_pop 13 = .ok (.isub, 1) := by decide +kernel
theorem dX4_pop_14 : decode cX4_pop 14 = .ok (.putfield 57, 3) := by decide +kernel
theorem dX4_pop_17 : decode cX4_pop 17 = .ok (.aload_n 0, 1) := by decide +kernel
theorem dX4_pop_18 : decode cX4_pop 18 = .ok (.aload_n 0, 1) := by decide +kernel
theorem dX4_pop_19 : decode cX4_pop 19 = .ok (.getfield 57, 3) := by decide +kernel
theorem dX4_pop_22 : decode cX4_pop 22 = .ok (.iconst (-1), 1) := by decide +kernel
theorem dX4_pop_23 : decode cX4_pop 23 = .ok (.invokevirtual 61, 3) := by decide +kernel
theorem dX4_pop_26 : decode cX4_pop 26 = .ok (.iinc 1 1, 3) := by decide +kernel
theorem dX4_pop_29 : decode cX4_pop 29 = .ok (.goto (-27), 3) := by decide +kernel
theorem dX4_pop_32 : decode cX4_pop 32 = .ok (.aload_n 0, 1) := by decide +kernel
theorem dX4_pop_33 : decode cX4_pop 33 = .ok (.dup, 1) := by decide +kernel
theorem dX4_pop_34 : decode cX4_pop 34 = .ok (.getfield 65, 3) := by decide +kernel
theorem dX4_pop_37 : decode cX4_pop 37 = .ok (.iconst 5, 1) := by decide +kernel
theorem dX4_pop_38 : decode cX4_pop 38 = .ok (.isub, 1) := by decide +kernel
theorem dX4_pop_39 : decode cX4_pop 39 = .ok (.putfield 65, 3) := by decide +kernel
theorem dX4_pop_42 : decode cX4_pop 42 = .ok (.return_, 1) := by decide +kernel
theorem dX4_lay_0 : decode cX4_lay 0 = .ok (.aload_n 0, 1) := by decide +kernel
theorem dX4_lay_1 : decode cX4_lay 1 = .ok (.iconst 0, 1) := by decide +kernel
theorem dX4_lay_2 : decode cX4_lay 2 = .ok (.putfield 57, 3) := by decide +kernel
theorem dX4_lay_5 : decode cX4_lay 5 = .ok (.aload_n 0, 1) := by decide +kernel
theorem dX4_lay_6 : decode cX4_lay 6 = .ok (.iconst 0, 1) := by decide +kernel
theorem dX4_lay_7 : decode cX4_lay 7 = .ok (.putfield 65, 3) := by decide +kernel
theorem dX4_lay_10 : decode cX4_lay 10 = .ok (.iconst 0, 1) := by decide +kernel
theorem dX4_lay_11 : decode cX4_lay 11 = .ok (.istore_n 1, 1) := by decide +kernel
theorem dX4_lay_12 : decode cX4_lay 12 = .ok (.iload_n 1, 1) := by decide +kernel
theorem dX4_lay_13 : decode cX4_lay 13 = .ok (.sipush 169, 3) := by decide +kernel
theorem dX4_lay_16 : decode cX4_lay 16 = .ok (.if_icmp .ge 30, 3) := by decide +kernel
theorem dX4_lay_19 : decode cX4_lay 19 = .ok (.aload_n 0, 1) := by decide +kernel
theorem dX4_lay_20 : decode cX4_lay 20 = .ok (.getfield 44, 3) := by decide +kernel
theorem dX4_lay_23 : decode cX4_lay 23 = .ok (.iload_n 1, 1) := by decide +kernel
theorem dX4_lay_24 : decode cX4_lay 24 = .ok (.iconst 0, 1) := by decide +kernel
theorem dX4_lay_25 : decode cX4_lay 25 = .ok (.iastore, 1) := by decide +kernel
theorem dX4_lay_26 : decode cX4_lay 26 = .ok (.aload_n 0, 1) := by decide +kernel
theorem dX4_lay_27 : decode cX4_lay 27 = .ok (.getfield 47, 3) := by decide +kernel
theorem dX4_lay_30 : decode cX4_lay 30 = .ok (.iload_n 1, 1) := by decide +kernel
theorem dX4_lay_31 : decode cX4_lay 31 = .ok (.iconst 0, 1) := by decide +kernel
theorem dX4_lay_32 : decode cX4_lay 32 = .ok (.iastore, 1) := by decide +kernel
theorem dX4_lay_33 : decode cX4_lay 33 = .ok (.aload_n 0, 1) := by decide +kernel
theorem dX4_lay_34 : decode cX4_lay 34 = .ok (.getfield 50, 3) := by decide +kernel
theorem dX4_lay_37 : decode cX4_lay 37 = .ok (.iload_n 1, 1) := by decide +kernel
theorem dX4_lay_38 : decode cX4_lay 38 = .ok (.iconst 0, 1) := by decide +kernel
theorem dX4_lay_39 : decode cX4_lay 39 = .ok (.iastore, 1) := by decide +kernel
theorem dX4_lay_40 : decode cX4_lay 40 = .ok (.iinc 1 1, 3) := by decide +kernel
theorem dX4_lay_43 : decode cX4_lay 43 = .ok (.goto (-31), 3) := by decide +kernel
theorem dX4_lay_46 : decode cX4_lay 46 = .ok (.aload_n 0, 1) := by decide +kernel
theorem dX4_lay_47 : decode cX4_lay 47 = .ok (.iconst 0, 1) := by decide +kernel
theorem dX4_lay_48 : decode cX4_lay 48 = .ok (.iconst 0, 1) := by decide +kernel
theorem dX4_lay_49 : decode cX4_lay 49 = .ok (.iconst 0, 1) := by decide +kernel
theorem dX4_lay_50 : decode cX4_lay 50 = .ok (.aload_n 0, 1) := by decide +kernel
theorem dX4_lay_51 : decode cX4_lay 51 = .ok (.getfield 7, 3) := by decide +kernel
theorem dX4_lay_54 : decode cX4_lay 54 = .ok (.iconst 0, 1) := by decide +kernel
theorem dX4_lay_55 : decode cX4_lay 55 = .ok (.iaload, 1) := by decide +kernel
theorem dX4_lay_56 : decode cX4_lay 56 = .ok (.invokevirtual 71, 3) := by decide +kernel
theorem dX4_lay_59 : decode cX4_lay 59 = .ok (.aload_n 0, 1) := by decide +kernel
theorem dX4_lay_60 : decode cX4_lay 60 = .ok (.iconst 1, 1) := by decide +kernel
theorem dX4_lay_61 : decode cX4_lay 61 = .ok (.iconst 0, 1) := by decide +kernel
theorem dX4_lay_62 : decode cX4_lay 62 = .ok (.iconst 0, 1) := by decide +kernel
theorem dX4_lay_63 : decode cX4_lay 63 = .ok (.aload_n 0, 1) := by decide +kernel
theorem dX4_lay_64 : decode cX4_lay 64 = .ok (.getfield 7, 3) := by decide +kernel
theorem dX4_lay_67 : decode cX4_lay 67 = .ok (.iconst 0, 1) := by decide +kernel
theorem dX4_lay_68 : decode cX4_lay 68 = .ok (.iaload, 1) := by decide +kernel
theorem dX4_lay_69 : decode cX4_lay 69 = .ok (.invokevirtual 71, 3) := by decide +kernel
theorem dX4_lay_72 : decode cX4_lay 72 = .ok (.aload_n 0, 1) := by decide +kernel
theorem dX4_lay_73 : decode cX4_lay 73 = .ok (.iconst 0, 1) := by decide +kernel
theorem dX4_lay_74 : decode cX4_lay 74 = .ok (.iconst 0, 1) := by decide +kernel
theorem dX4_lay_75 : decode cX4_lay 75 = .ok (.iconst 1, 1) := by decide +kernel
theorem dX4_lay_76 : decode cX4_lay 76 = .ok (.iconst 1, 1) := by decide +kernel
theorem dX4_lay_77 : decode cX4_lay 77 = .ok (.invokevirtual 75, 3) := by decide +kernel
theorem dX4_lay_80 : decode cX4_lay 80 = .ok (.iconst 0, 1) := by decide +kernel
theorem dX4_lay_81 : decode cX4_lay 81 = .ok (.istore_n 1, 1) := by decide +kernel
theorem dX4_lay_82 : decode cX4_lay 82 = .ok (.iload_n 1, 1) := by decide +kernel
theorem dX4_lay_83 : decode cX4_lay 83 = .ok (.aload_n 0, 1) := by decide +kernel
theorem dX4_lay_84 : decode cX4_lay 84 = .ok (.getfield 7, 3) := by decide +kernel
theorem dX4_lay_87 : decode cX4_lay 87 = .ok (.iconst 1, 1) := by decide +kernel
theorem dX4_lay_88 : decode cX4_lay 88 = .ok (.iaload, 1) := by decide +kernel
theorem dX4_lay_89 : decode cX4_lay 89 = .ok (.if_icmp .ge 47, 3) := by decide +kernel
theorem dX4_lay_92 : decode cX4_lay 92 = .ok (.aload_n 0, 1) := by decide +kernel
theorem dX4_lay_93 : decode cX4_lay 93 = .ok (.aload_n 0, 1) := by decide +kernel
theorem dX4_lay_94 : decode cX4_lay 94 = .ok (.getfield 7, 3) := by decide +kernel
theorem dX4_lay_97 : decode cX4_lay 97 = .ok (.iconst 2, 1) := by decide +kernel
theorem dX4_lay_98 : decode cX4_lay 98 = .ok (.iconst 3, 1) := by decide +kernel
theorem dX4_lay_99 : decode cX4_lay 99 = .ok (.iload_n 1, 1) := by decide +kernel
theorem dX4_lay_100 : decode cX4_lay 100 = .ok (.imul, 1) := by decide +kernel
theorem dX4_lay_101 : decode cX4_lay 101 = .ok (.iadd, 1) := by decide +kernel
theorem dX4_lay_102 : decode cX4_lay 102 = .ok (.iaload, 1) := by decide +kernel
theorem dX4_lay_103 : decode cX4_lay 103 = .ok (.aload_n 0, 1) := by decide +kernel
theorem dX4_lay_104 : decode cX4_lay 104 = .ok (.getfield 7, 3) := by decide +kernel
theorem dX4_lay_107 : decode cX4_lay 107 = .ok (.iconst 2, 1) := by decide +kernel
theorem dX4_lay_108 : decode cX4_lay 108 = .ok (.iconst 3, 1) := by decide +kernel
theorem dX4_lay_109 : decode cX4_lay 109 = .ok (.iload_n 1, 1) := by decide +kernel
theorem dX4_lay_110 : decode cX4_lay 110 = .ok (.imul, 1) := by decide +kernel
theorem dX4_lay_111 : decode cX4_lay 111 = .ok (.iadd, 1) := by decide +kernel
theorem dX4_lay_112 : decode cX4_lay 112 = .ok (.iconst 1, 1) := by decide +kernel
theorem dX4_lay_113 : decode cX4_lay 113 = .ok (.iadd, 1) := by decide +kernel
theorem dX4_lay_114 : decode cX4_lay 114 = .ok (.iaload, 1) := by decide +kernel
theorem dX4_lay_115 : decode cX4_lay 115 = .ok (.aload_n 0, 1) := by decide +kernel
theorem dX4_lay_116 : decode cX4_lay 116 = .ok (.getfield 7, 3) := by decide +kernel
theorem dX4_lay_119 : decode cX4_lay 119 = .ok (.iconst 2, 1) := by decide +kernel
theorem dX4_lay_120 : decode cX4_lay 120 = .ok (.iconst 3, 1) := by decide +kernel
theorem dX4_lay_121 : decode cX4_lay 121 = .ok (.iload_n 1, 1) := by decide +kernel
theorem dX4_lay_122 : decode cX4_lay 122 = .ok (.imul, 1) := by decide +kernel
theorem dX4_lay_123 : decode cX4_lay 123 = .ok (.iadd, 1) := by decide +kernel
theorem dX4_lay_124 : decode cX4_lay 124 = .ok (.iconst 2, 1) := by decide +kernel
theorem dX4_lay_125 : decode cX4_lay 125 = .ok (.iadd, 1) := by decide +kernel
theorem dX4_lay_126 : decode cX4_lay 126 = .ok (.iaload, 1) := by decide +kernel
theorem dX4_lay_127 : decode cX4_lay 127 = .ok (.invokevirtual 78, 3) := by decide +kernel
theorem dX4_lay_130 : decode cX4_lay 130 = .ok (.iinc 1 1, 3) := by decide +kernel
theorem dX4_lay_133 : decode cX4_lay 133 = .ok (.goto (-51), 3) := by decide +kernel
theorem dX4_lay_136 : decode cX4_lay 136 = .ok (.return_, 1) := by decide +kernel
theorem dX4_isPiece_0 : decode cX4_isPiece 0 = .ok (.iload 4, 2) := by decide +kernel
theorem dX4_isPiece_2 : decode cX4_isPiece 2 = .ok (.ifCond .ne 17, 3) := by decide +kernel
theorem dX4_isPiece_5 : decode cX4_isPiece 5 = .ok (.iload_n 3, 1) := by decide +kernel
theorem dX4_isPiece_6 : decode cX4_isPiece 6 = .ok (.ifCond .ge 9, 3) := by decide +kernel
theorem dX4_isPiece_9 : decode cX4_isPiece 9 = .ok (.iload_n 1, 1) := by decide +kernel
theorem dX4_isPiece_10 : decode cX4_isPiece 10 = .ok (.iconst 1, 1) := by decide +kernel
theorem dX4_isPiece_11 : decode cX4_isPiece 11 = .ok (.isub, 1) := by decide +kernel
theorem dX4_isPiece_12 : decode cX4_isPiece 12 = .ok (.goto 8, 3) := by decide +kernel
theorem dX4_isPiece_15 : decode cX4_isPiece 15 = .ok (.iload_n 1, 1) := by decide +kernel
theorem dX4_isPiece_16 : decode cX4_isPiece 16 = .ok (.goto 4, 3) := by decide +kernel
theorem dX4_isPiece_19 : decode cX4_isPiece 19 = .ok (.iload_n 1, 1) := by decide +kernel
theorem dX4_isPiece_20 : decode cX4_isPiece 20 = .ok (.istore 5, 2) := by decide +kernel
theorem dX4_isPiece_22 : decode cX4_isPiece 22 = .ok (.iload 4, 2) := by decide +kernel
theorem dX4_isPiece_24 : decode cX4_isPiece 24 = .ok (.iconst 1, 1) := by decide +kernel
theorem dX4_isPiece_25 : decode cX4_isPiece 25 = .ok (.if_icmp .ne 17, 3) := by decide +kernel
theorem dX4_isPiece_28 : decode cX4_isPiece 28 = .ok (.iload_n 3, 1) := by decide +kernel
theorem dX4_isPiece_29 : decode cX4_isPiece 29 = .ok (.ifCond .ge 9, 3) := by decide +kernel
theorem dX4_isPiece_32 : decode cX4_isPiece 32 = .ok (.iload_n 2, 1) := by decide +kernel
theorem dX4_isPiece_33 : decode cX4_isPiece 33 = .ok (.iconst 1, 1) := by decide +kernel
theorem dX4_isPiece_34 : decode cX4_isPiece 34 = .ok (.isub, 1) := by decide +kernel
theorem dX4_isPiece_35 : decode cX4_isPiece 35 = .ok (.goto 8, 3) := by decide +kernel
theorem dX4_isPiece_38 : decode cX4_isPiece 38 = .ok (.iload_n 2, 1) := by decide +kernel
theorem dX4_isPiece_39 : decode cX4_isPiece 39 = .ok (.goto 4, 3) := by decide +kernel
theorem dX4_isPiece_42 : decode cX4_isPiece 42 = .ok (.iload_n 2, 1) := by decide +kernel
theorem dX4_isPiece_43 : decode cX4_isPiece 43 = .ok (.istore 6, 2) := by decide +kernel
theorem dX4_isPiece_45 : decode cX4_isPiece 45 = .ok (.iload 5, 2) := by decide +kernel
theorem dX4_isPiece_47 : decode cX4_isPiece 47 = .ok (.iconst 0, 1) := by decide +kernel
theorem dX4_isPiece_48 : decode cX4_isPiece 48 = .ok (.bipush 12, 2) := by decide +kernel
theorem dX4_isPiece_50 : decode cX4_isPiece 50 = .ok (.invokestatic 82, 3) := by decide +kernel
theorem dX4_isPiece_53 : decode cX4_isPiece 53 = .ok (.ifCond .eq 45, 3) := by decide +kernel
theorem dX4_isPiece_56 : decode cX4_isPiece 56 = .ok (.iload 6, 2) := by decide +kernel
theorem dX4_isPiece_58 : decode cX4_isPiece 58 = .ok (.iconst 0, 1) := by decide +kernel
theorem dX4_isPiece_59 : decode cX4_isPiece 59 = .ok (.bipush 12, 2) := by decide +kernel
theorem dX4_isPiece_61 : decode cX4_isPiece 61 = .ok (.invokestatic 82, 3) := by decide +kernel
theorem dX4_isPiece_64 : decode cX4_isPiece 64 = .ok (.ifCond .eq 34, 3) := by decide +kernel
theorem dX4_isPiece_67 : decode cX4_isPiece 67 = .ok (.iload 4, 2) := by decide +kernel
theorem dX4_isPiece_69 : decode cX4_isPiece 69 = .ok (.ifCond .ne 10, 3) := by decide +kernel
theorem dX4_isPiece_72 : decode cX4_isPiece 72 = .ok (.aload_n 0, 1) := by decide +kernel
theorem dX4_isPiece_73 : decode cX4_isPiece 73 = .ok (.getfield 44, 3) := by decide +kernel
theorem dX4_isPiece_76 : decode cX4_isPiece 76 = .ok (.goto 7, 3) := by decide +kernel
theorem dX4_isPiece_79 : decode cX4_isPiece 79 = .ok (.aload_n 0, 1) := by decide +kernel
theorem dX4_isPiece_80 : decode cX4_isPiece 80 = .ok (.getfield 47, 3) := by decide +kernel
theorem dX4_isPiece_83 : decode cX4_isPiece 83 = .ok (.iload 5, 2) := by decide +kernel
theorem dX4_isPiece_85 : decode cX4_isPiece 85 = .ok (.iload 6, 2) := by decide +kernel
theorem dX4_isPiece_87 : decode cX4_isPiece 87 = .ok (.invokestatic 53, 3) := by decide +kernel
theorem dX4_isPiece_90 : decode cX4_isPiece 90 = .ok (.iaload, 1) := by decide +kernel
theorem dX4_isPiece_91 : decode cX4_isPiece 91 = .ok (.ifCond .le 7, 3) := by decide +kernel
theorem dX4_isPiece_94 : decode cX4_isPiece 94 = .ok (.iconst 1, 1) := by decide +kernel
theorem dX4_isPiece_95 : decode cX4_isPiece 95 = .ok (.goto 4, 3) := by decide +kernel
theorem dX4_isPiece_98 : decode cX4_isPiece 98 = .ok (.iconst 0, 1) := by decide +kernel
theorem dX4_isPiece_99 : decode cX4_isPiece 99 = .ok (.ireturn, 1) := by decide +kernel
theorem dX4_reach_0 : decode cX4_reach 0 = .ok (.iload_n 2, 1) := by decide +kernel
theorem dX4_reach_1 : decode cX4_reach 1 = .ok (.ifCond .ne 12, 3) := by decide +kernel
theorem dX4_reach_4 : decode cX4_reach 4 = .ok (.aload_n 0, 1) := by decide +kernel
theorem dX4_reach_5 : decode cX4_reach 5 = .ok (.getfield 38, 3) := by decide +kernel
theorem dX4_reach_8 : decode cX4_reach 8 = .ok (.iload_n 1, 1) := by decide +kernel
theorem dX4_reach_9 : decode cX4_reach 9 = .ok (.iaload, 1) := by decide +kernel
theorem dX4_reach_10 : decode cX4_reach 10 = .ok (.goto 9, 3) := by decide +kernel
theorem dX4_reach_13 : decode cX4_reach 13 = .ok (.aload_n 0, 1) := by decide +kernel
theorem dX4_reach_14 : decode cX4_reach 14 = .ok (.getfield 41, 3) := by decide +kernel
theorem dX4_reach_17 : decode cX4_reach 17 = .ok (.iload_n 1, 1) := by decide +kernel
theorem dX4_reach_18 : decode cX4_reach 18 = .ok (.iaload, 1) := by decide +kernel
theorem dX4_reach_19 : decode cX4_reach 19 = .ok (.istore_n 3, 1) := by decide +kernel
theorem dX4_reach_20 : decode cX4_reach 20 = .ok (.iconst 0, 1) := by decide +kernel
theorem dX4_reach_21 : decode cX4_reach 21 = .ok (.istore 4, 2) := by decide +kernel
theorem dX4_reach_23 : decode cX4_reach 23 = .ok (.aload_n 0, 1) := by decide +kernel
theorem dX4_reach_24 : decode cX4_reach 24 = .ok (.aload_n 0, 1) := by decide +kernel
theorem dX4_reach_25 : decode cX4_reach 25 = .ok (.getfield 32, 3) := by decide +kernel
theorem dX4_reach_28 : decode cX4_reach 28 = .ok (.iload_n 1, 1) := by decide +kernel
theorem dX4_reach_29 : decode cX4_reach 29 = .ok (.iaload, 1) := by decide +kernel
theorem dX4_reach_30 : decode cX4_reach 30 = .ok (.iload_n 2, 1) := by decide +kernel
theorem dX4_reach_31 : decode cX4_reach 31 = .ok (.ifCond .ne 10, 3) := by decide +kernel
theorem dX4_reach_34 : decode cX4_reach 34 = .ok (.iload_n 3, 1) := by decide +kernel
theorem dX4_reach_35 : decode cX4_reach 35 = .ok (.iload 4, 2) := by decide +kernel
theorem dX4_reach_37 : decode cX4_reach 37 = .ok (.imul, 1) := by decide +kernel
theorem dX4_reach_38 : decode cX4_reach 38 = .ok (.goto 4, 3) := by decide +kernel
theorem dX4_reach_41 : decode cX4_reach 41 = .ok (.iconst 0, 1) := by decide +kernel
theorem dX4_reach_42 : decode cX4_reach 42 = .ok (.iadd, 1) := by decide +kernel
theorem dX4_reach_43 : decode cX4_reach 43 = .ok (.aload_n 0, 1) := by decide +kernel
theorem dX4_reach_44 : decode cX4_reach 44 = .ok (.getfield 35, 3) := by decide +kernel
theorem dX4_reach_47 : decode cX4_reach 47 = .ok (.iload_n 1, 1) := by decide +kernel
theorem dX4_reach_48 : decode cX4_reach 48 = .ok (.iaload, 1) := by decide +kernel
theorem dX4_reach_49 : decode cX4_reach 49 = .ok (.iload_n 2, 1) := by decide +kernel
theorem dX4_reach_50 : decode cX4_reach 50 = .ok (.iconst 1, 1) := by decide +kernel
theorem dX4_reach_51 : decode cX4_reach 51 = .ok (.if_icmp .ne 10, 3) := by decide +kernel
theorem dX4_reach_54 : decode cX4_reach 54 = .ok (.iload_n 3, 1) := by decide +kernel
theorem dX4_reach_55 : decode cX4_reach 55 = .ok (.iload 4, 2) := by decide +kernel
theorem dX4_reach_57 : decode cX4_reach 57 = .ok (.imul, 1) := by decide +kernel
theorem dX4_reach_58 : decode cX4_reach 58 = .ok (.goto 4, 3) := by decide +kernel
theorem dX4_reach_61 : decode cX4_reach 61 = .ok (.iconst 0, 1) := by decide +kernel
theorem dX4_reach_62 : decode cX4_reach 62 = .ok (.iadd, 1) := by decide +kernel
theorem dX4_reach_63 : decode cX4_reach 63 = .ok (.iload_n 3, 1) := by decide +kernel
theorem dX4_reach_64 : decode cX4_reach 64 = .ok (.iload_n 2, 1) := by decide +kernel
theorem dX4_reach_65 : decode cX4_reach 65 = .ok (.invokevirtual 86, 3) := by decide +kernel
theorem dX4_reach_68 : decode cX4_reach 68 = .ok (.ifCond .eq 9, 3) := by decide +kernel
theorem dX4_reach_71 : decode cX4_reach 71 = .ok (.iinc 4 1, 3) := by decide +kernel
theorem dX4_reach_74 : decode cX4_reach 74 = .ok (.goto (-51), 3) := by decide +kernel
theorem dX4_reach_77 : decode cX4_reach 77 = .ok (.iload 4, 2) := by decide +kernel
theorem dX4_reach_79 : decode cX4_reach 79 = .ok (.ireturn, 1) := by decide +kernel
theorem dX4_isFree_0 : decode cX4_isFree 0 = .ok (.aload_n 0, 1) := by decide +kernel
theorem dX4_isFree_1 : decode cX4_isFree 1 = .ok (.getfield 50, 3) := by decide +kernel
theorem dX4_isFree_4 : decode cX4_isFree 4 = .ok (.iload_n 1, 1) := by decide +kernel
theorem dX4_isFree_5 : decode cX4_isFree 5 = .ok (.iload_n 2, 1) := by decide +kernel
theorem dX4_isFree_6 : decode cX4_isFree 6 = .ok (.invokestatic 53, 3) := by decide +kernel
theorem dX4_isFree_9 : decode cX4_isFree 9 = .ok (.iaload, 1) := by decide +kernel
theorem dX4_isFree_10 : decode cX4_isFree 10 = .ok (.ifCond .ne 7, 3) := by decide +kernel
theorem dX4_isFree_13 : decode cX4_isFree 13 = .ok (.iconst 1, 1) := by decide +kernel
theorem dX4_isFree_14 : decode cX4_isFree 14 = .ok (.goto 4, 3) := by decide +kernel
theorem dX4_isFree_17 : decode cX4_isFree 17 = .ok (.iconst 0, 1) := by decide +kernel
theorem dX4_isFree_18 : decode cX4_isFree 18 = .ok (.ireturn, 1) := by decide +kernel
theorem dX4_hits_0 : decode cX4_hits 0 = .ok (.aload_n 0, 1) := by decide +kernel
theorem dX4_hits_1 : decode cX4_hits 1 = .ok (.getfield 38, 3) := by decide +kernel
theorem dX4_hits_4 : decode cX4_hits 4 = .ok (.iload_n 1, 1) := by decide +kernel
theorem dX4_hits_5 : decode cX4_hits 5 = .ok (.iaload, 1) := by decide +kernel
theorem dX4_hits_6 : decode cX4_hits 6 = .ok (.istore 4, 2) := by decide +kernel
theorem dX4_hits_8 : decode cX4_hits 8 = .ok (.aload_n 0, 1) := by decide +kernel
theorem dX4_hits_9 : decode cX4_hits 9 = .ok (.getfield 41, 3) := by decide +kernel
theorem dX4_hits_12 : decode cX4_hits 12 = .ok (.iload_n 1, 1) := by decide +kernel
theorem dX4_hits_13 : decode cX4_hits 13 = .ok (.iaload, 1) := by decide +kernel
theorem dX4_hits_14 : decode cX4_hits 14 = .ok (.istore 5, 2) := by decide +kernel
theorem dX4_hits_16 : decode cX4_hits 16 = .ok (.aload_n 0, 1) := by decide +kernel
theorem dX4_hits_17 : decode cX4_hits 17 = .ok (.getfield 32, 3) := by decide +kernel
theorem dX4_hits_20 : decode cX4_hits 20 = .ok (.iload_n 1, 1) := by decide +kernel
theorem dX4_hits_21 : decode cX4_hits 21 = .ok (.iaload, 1) := by decide +kernel
theorem dX4_hits_22 : decode cX4_hits 22 = .ok (.iload 4, 2) := by decide +kernel
theorem dX4_hits_24 : decode cX4_hits 24 = .ok (.iload_n 2, 1) := by decide +kernel
theorem dX4_hits_25 : decode cX4_hits 25 = .ok (.imul, 1) := by decide +kernel
theorem dX4_hits_26 : decode cX4_hits 26 = .ok (.iadd, 1) := by decide +kernel
theorem dX4_hits_27 : decode cX4_hits 27 = .ok (.istore 6, 2) := by decide +kernel
theorem dX4_hits_29 : decode cX4_hits 29 = .ok (.aload_n 0, 1) := by decide +kernel
theorem dX4_hits_30 : decode cX4_hits 30 = .ok (.getfield 35, 3) := by decide +kernel
theorem dX4_hits_33 : decode cX4_hits 33 = .ok (.iload_n 1, 1) := by decide +kernel
theorem dX4_hits_34 : decode cX4_hits 34 = .ok (.iaload, 1) := by decide +kernel
theorem dX4_hits_35 : decode cX4_hits 35 = .ok (.iload 5, 2) := by decide +kernel
theorem dX4_hits_37 : decode cX4_hits 37 = .ok (.iload_n 3, 1) := by decide +kernel
theorem dX4_hits_38 : decode cX4_hits 38 = .ok (.imul, 1) := by decide +kernel
theorem dX4_hits_39 : decode cX4_hits 39 = .ok (.iadd, 1) := by decide +kernel
theorem dX4_hits_40 : decode cX4_hits 40 = .ok (.istore 7, 2) := by decide +kernel
theorem dX4_hits_42 : decode cX4_hits 42 = .ok (.iconst 1, 1) := by decide +kernel
theorem dX4_hits_43 : decode cX4_hits 43 = .ok (.istore 8, 2) := by decide +kernel
theorem dX4_hits_45 : decode cX4_hits 45 = .ok (.iconst 1, 1) := by decide +kernel
theorem dX4_hits_46 : decode cX4_hits 46 = .ok (.istore 9, 2) := by decide +kernel
theorem dX4_hits_48 : decode cX4_hits 48 = .ok (.iload 9, 2) := by decide +kernel
theorem dX4_hits_50 : decode cX4_hits 50 = .ok (.iload_n 3, 1) := by decide +kernel
theorem dX4_hits_51 : decode cX4_hits 51 = .ok (.if_icmp .gt 42, 3) := by decide +kernel
theorem dX4_hits_54 : decode cX4_hits 54 = .ok (.iload 8, 2) := by decide +kernel
theorem dX4_hits_56 : decode cX4_hits 56 = .ok (.ifCond .eq 28, 3) := by decide +kernel
theorem dX4_hits_59 : decode cX4_hits 59 = .ok (.aload_n 0, 1) := by decide +kernel
theorem dX4_hits_60 : decode cX4_hits 60 = .ok (.iload 6, 2) := by decide +kernel
theorem dX4_hits_62 : decode cX4_hits 62 = .ok (.aload_n 0, 1) := by decide +kernel
theorem dX4_hits_63 : decode cX4_hits 63 = .ok (.getfield 35, 3) := by decide +kernel
theorem dX4_hits_66 : decode cX4_hits 66 = .ok (.iload_n 1, 1) := by decide +kernel
theorem dX4_hits_67 : decode cX4_hits 67 = .ok (.iaload, 1) := by decide +kernel
theorem dX4_hits_68 : decode cX4_hits 68 = .ok (.iload 5, 2) := by decide +kernel
theorem dX4_hits_70 : decode cX4_hits 70 = .ok (.iload 9, 2) := by decide +kernel
theorem dX4_hits_72 : decode cX4_hits 72 = .ok (.imul, 1) := by decide +kernel
theorem dX4_hits_73 : decode cX4_hits 73 = .ok (.iadd, 1) := by decide +kernel
theorem dX4_hits_74 : decode cX4_hits 74 = .ok (.invokevirtual 90, 3) := by decide +kernel
theorem dX4_hits_77 : decode cX4_hits 77 = .ok (.ifCond .eq 7, 3) := by decide +kernel
theorem dX4_hits_80 : decode cX4_hits 80 = .ok (.iconst 1, 1) := by decide +kernel
theorem dX4_hits_81 : decode cX4_hits 81 = .ok (.goto 4, 3) := by decide +kernel
theorem dX4_hits_84 : decode cX4_hits 84 = .ok (.iconst 0, 1) := by decide +kernel
theorem dX4_hits_85 : decode cX4_hits 85 = .ok (.istore 8, 2) := by decide +kernel
theorem dX4_hits_87 : decode cX4_hits 87 = .ok (.iinc 9 1, 3) := by decide +kernel
theorem dX4_hits_90 : decode cX4_hits 90 = .ok (.goto (-42), 3) := by decide +kernel
theorem dX4_hits_93 : decode cX4_hits 93 = .ok (.iconst 1, 1) := by decide +kernel
theorem dX4_hits_94 : decode cX4_hits 94 = .ok (.istore 9, 2) := by decide +kernel
theorem dX4_hits_96 : decode cX4_hits 96 = .ok (.iload 9, 2) := by decide +kernel
theorem dX4_hits_98 : decode cX4_hits 98 = .ok (.iload_n 2, 1) := by decide +kernel
theorem dX4_hits_99 : decode cX4_hits 99 = .ok (.if_icmp .gt 42, 3) := by decide +kernel
theorem dX4_hits_102 : decode cX4_hits 102 = .ok (.iload 8, 2) := by decide +kernel
theorem dX4_hits_104 : decode cX4_hits 104 = .ok (.ifCond .eq 28, 3) := by decide +kernel
theorem dX4_hits_107 : decode cX4_hits 107 = .ok (.aload_n 0, 1) := by decide +kernel
theorem dX4_hits_108 : decode cX4_hits 108 = .ok (.aload_n 0, 1) := by decide +kernel
theorem dX4_hits_109 : decode cX4_hits 109 = .ok (.getfield 32, 3) := by decide +kernel
theorem dX4_hits_112 : decode cX4_hits 112 = .ok (.iload_n 1, 1) := by decide +kernel
theorem dX4_hits_113 : decode cX4_hits 113 = .ok (.iaload, 1) := by decide +kernel
theorem dX4_hits_114 : decode cX4_hits 114 = .ok (.iload 4, 2) := by decide +kernel
theorem dX4_hits_116 : decode cX4_hits 116 = .ok (.iload 9, 2) := by decide +kernel
theorem dX4_hits_118 : decode cX4_hits 118 = .ok (.imul, 1) := by decide +kernel
theorem dX4_hits_119 : decode cX4_hits 119 = .ok (.iadd, 1) := by decide +kernel
theorem dX4_hits_120 : decode cX4_hits 120 = .ok (.iload 7, 2) := by decide +kernel
theorem dX4_hits_122 : decode cX4_hits 122 = .ok (.invokevirtual 90, 3) := by decide +kernel
theorem dX4_hits_125 : decode cX4_hits 125 = .ok (.ifCond .eq 7, 3) := by decide +kernel
theorem dX4_hits_128 : decode cX4_hits 128 = .ok (.iconst 1, 1) := by decide +kernel
theorem dX4_hits_129 : decode cX4_hits 129 = .ok (.goto 4, 3) := by decide +kernel
theorem dX4_hits_132 : decode cX4_hits 132 = .ok (.iconst 0, 1) := by decide +kernel
theorem dX4_hits_133 : decode cX4_hits 133 = .ok (.istore 8, 2) := by decide +kernel
theorem dX4_hits_135 : decode cX4_hits 135 = .ok (.iinc 9 1, 3) := by decide +kernel
theorem dX4_hits_138 : decode cX4_hits 138 = .ok (.goto (-42), 3) := by decide +kernel
theorem dX4_hits_141 : decode cX4_hits 141 = .ok (.iload 8, 2) := by decide +kernel
theorem dX4_hits_143 : decode cX4_hits 143 = .ok (.ifCond .ne 7, 3) := by decide +kernel
theorem dX4_hits_146 : decode cX4_hits 146 = .ok (.iconst 1, 1) := by decide +kernel
theorem dX4_hits_147 : decode cX4_hits 147 = .ok (.goto 4, 3) := by decide +kernel
theorem dX4_hits_150 : decode cX4_hits 150 = .ok (.iconst 0, 1) := by decide +kernel
theorem dX4_hits_151 : decode cX4_hits 151 = .ok (.ireturn, 1) := by decide +kernel
theorem dX4_whyNot_0 : decode cX4_whyNot 0 = .ok (.iload_n 2, 1) := by decide +kernel
theorem dX4_whyNot_1 : decode cX4_whyNot 1 = .ok (.aload_n 0, 1) := by decide +kernel
theorem dX4_whyNot_2 : decode cX4_whyNot 2 = .ok (.iload_n 1, 1) := by decide +kernel
theorem dX4_whyNot_3 : decode cX4_whyNot 3 = .ok (.iconst 0, 1) := by decide +kernel
theorem dX4_whyNot_4 : decode cX4_whyNot 4 = .ok (.invokevirtual 94, 3) := by decide +kernel
theorem dX4_whyNot_7 : decode cX4_whyNot 7 = .ok (.if_icmp .gt 13, 3) := by decide +kernel
theorem dX4_whyNot_10 : decode cX4_whyNot 10 = .ok (.iload_n 3, 1) := by decide +kernel
theorem dX4_whyNot_11 : decode cX4_whyNot 11 = .ok (.aload_n 0, 1) := by decide +kernel
theorem dX4_whyNot_12 : decode cX4_whyNot 12 = .ok (.iload_n 1, 1) := by decide +kernel
theorem dX4_whyNot_13 : decode cX4_whyNot 13 = .ok (.iconst 1, 1) := by decide +kernel
theorem dX4_whyNot_14 : decode cX4_whyNot 14 = .ok (.invokevirtual 94, 3) := by decide +kernel
theorem dX4_whyNot_17 : decode cX4_whyNot 17 = .ok (.if_icmp .le 5, 3) := by decide +kernel
theorem dX4_whyNot_20 : decode cX4_whyNot 20 = .ok (.iconst 1, 1) := by decide +kernel
theorem dX4_whyNot_21 : decode cX4_whyNot 21 = .ok (.ireturn, 1) := by decide +kernel
theorem dX4_whyNot_22 : decode cX4_whyNot 22 = .ok (.aload_n 0, 1) := by decide +kernel
theorem dX4_whyNot_23 : decode cX4_whyNot 23 = .ok (.getfield 32, 3) := by decide +kernel
theorem dX4_whyNot_26 : decode cX4_whyNot 26 = .ok (.iload_n 1, 1) := by decide +kernel
theorem dX4_whyNot_27 : decode cX4_whyNot 27 = .ok (.iaload, 1) := by decide +kernel
theorem dX4_whyNot_28 : decode cX4_whyNot 28 = .ok (.aload_n 0, 1) := by decide +kernel
theorem dX4_whyNot_29 : decode cX4_whyNot 29 = .ok (.getfield 38, 3) := by decide +kernel
theorem dX4_whyNot_32 : decode cX4_whyNot 32 = .ok (.iload_n 1, 1) := by decide +kernel
theorem dX4_whyNot_33 : decode cX4_whyNot 33 = .ok (.iaload, 1) := by decide +kernel
theorem dX4_whyNot_34 : decode cX4_whyNot 34 = .ok (.iload_n 2, 1) := by decide +kernel
theorem dX4_whyNot_35 : decode cX4_whyNot 35 = .ok (.imul, 1) := by decide +kernel
theorem dX4_whyNot_36 : decode cX4_whyNot 36 = .ok (.iadd, 1) := by decide +kernel
theorem dX4_whyNot_37 : decode cX4_whyNot 37 = .ok (.aload_n 0, 1) := by decide +kernel
theorem dX4_whyNot_38 : decode cX4_whyNot 38 = .ok (.getfield 35, 3) := by decide +kernel
theorem dX4_whyNot_41 : decode cX4_whyNot 41 = .ok (.iload_n 1, 1) := by decide +kernel
theorem dX4_whyNot_42 : decode cX4_whyNot 42 = .ok (.iaload, 1) := by decide +kernel
theorem dX4_whyNot_43 : decode cX4_whyNot 43 = .ok (.iadd, 1) := by decide +kernel
theorem dX4_whyNot_44 : decode cX4_whyNot 44 = .ok (.aload_n 0, 1) := by decide +kernel
theorem dX4_whyNot_45 : decode cX4_whyNot 45 = .ok (.getfield 41, 3) := by decide +kernel
theorem dX4_whyNot_48 : decode cX4_whyNot 48 = .ok (.iload_n 1, 1) := by decide +kernel
theorem dX4_whyNot_49 : decode cX4_whyNot 49 = .ok (.iaload, 1) := by decide +kernel
theorem dX4_whyNot_50 : decode cX4_whyNot 50 = .ok (.iload_n 3, 1) := by decide +kernel
theorem dX4_whyNot_51 : decode cX4_whyNot 51 = .ok (.imul, 1) := by decide +kernel
theorem dX4_whyNot_52 : decode cX4_whyNot 52 = .ok (.iadd, 1) := by decide +kernel
theorem dX4_whyNot_53 : decode cX4_whyNot 53 = .ok (.aload_n 0, 1) := by decide +kernel
theorem dX4_whyNot_54 : decode cX4_whyNot 54 = .ok (.getfield 7, 3) := by decide +kernel
theorem dX4_whyNot_57 : decode cX4_whyNot 57 = .ok (.iconst 0, 1) := by decide +kernel
theorem dX4_whyNot_58 : decode cX4_whyNot 58 = .ok (.iaload, 1) := by decide +kernel
theorem dX4_whyNot_59 : decode cX4_whyNot 59 = .ok (.if_icmp .le 5, 3) := by decide +kernel
theorem dX4_whyNot_62 : decode cX4_whyNot 62 = .ok (.iconst 2, 1) := by decide +kernel
theorem dX4_whyNot_63 : decode cX4_whyNot 63 = .ok (.ireturn, 1) := by decide +kernel
theorem dX4_whyNot_64 : decode cX4_whyNot 64 = .ok (.aload_n 0, 1) := by decide +kernel
theorem dX4_whyNot_65 : decode cX4_whyNot 65 = .ok (.iload_n 1, 1) := by decide +kernel
theorem dX4_whyNot_66 : decode cX4_whyNot 66 = .ok (.iload_n 2, 1) := by decide +kernel
theorem dX4_whyNot_67 : decode cX4_whyNot 67 = .ok (.iload_n 3, 1) := by decide +kernel
theorem dX4_whyNot_68 : decode cX4_whyNot 68 = .ok (.invokevirtual 97, 3) := by decide +kernel
theorem dX4_whyNot_71 : decode cX4_whyNot 71 = .ok (.ifCond .eq 7, 3) := by decide +kernel
theorem dX4_whyNot_74 : decode cX4_whyNot 74 = .ok (.iconst 3, 1) := by decide +kernel
theorem dX4_whyNot_75 : decode cX4_whyNot 75 = .ok (.goto 4, 3) := by decide +kernel
theorem dX4_whyNot_78 : decode cX4_whyNot 78 = .ok (.iconst 0, 1) := by decide +kernel
theorem dX4_whyNot_79 : decode cX4_whyNot 79 = .ok (.ireturn, 1) := by decide +kernel
theorem dX4_isCorner_0 : decode cX4_isCorner 0 = .ok (.iload_n 1, 1) := by decide +kernel
theorem dX4_isCorner_1 : decode cX4_isCorner 1 = .ok (.iconst 0, 1) := by decide +kernel
theorem dX4_isCorner_2 : decode cX4_isCorner 2 = .ok (.aload_n 0, 1) := by decide +kernel
theorem dX4_isCorner_3 : decode cX4_isCorner 3 = .ok (.getfield 65, 3) := by decide +kernel
theorem dX4_isCorner_6 : decode cX4_isCorner 6 = .ok (.iconst 1, 1) := by decide +kernel
theorem dX4_isCorner_7 : decode cX4_isCorner 7 = .ok (.isub, 1) := by decide +kernel
theorem dX4_isCorner_8 : decode cX4_isCorner 8 = .ok (.invokestatic 82, 3) := by decide +kernel
theorem dX4_isCorner_11 : decode cX4_isCorner 11 = .ok (.ireturn, 1) := by decide +kernel
theorem dX4_size_0 : decode cX4_size 0 = .ok (.iload_n 1, 1) := by decide +kernel
theorem dX4_size_1 : decode cX4_size 1 = .ok (.iconst 4, 1) := by decide +kernel
theorem dX4_size_2 : decode cX4_size 2 = .ok (.bipush 12, 2) := by decide +kernel
theorem dX4_size_4 : decode cX4_size 4 = .ok (.invokestatic 82, 3) := by decide +kernel
theorem dX4_size_7 : decode cX4_size 7 = .ok (.ifCond .ne 6, 3) := by decide +kernel
theorem dX4_size_10 : decode cX4_size 10 = .ok (.bipush (-2), 2) := by decide +kernel
theorem dX4_size_12 : decode cX4_size 12 = .ok (.ireturn, 1) := by decide +kernel
theorem dX4_size_13 : decode cX4_size 13 = .ok (.aload_n 0, 1) := by decide +kernel
theorem dX4_size_14 : decode cX4_size 14 = .ok (.getfield 7, 3) := by decide +kernel
theorem dX4_size_17 : decode cX4_size 17 = .ok (.iconst 1, 1) := by decide +kernel
theorem dX4_size_18 : decode cX4_size 18 = .ok (.iaload, 1) := by decide +kernel
theorem dX4_size_19 : decode cX4_size 19 = .ok (.ifCond .le 6, 3) := by decide +kernel
theorem dX4_size_22 : decode cX4_size 22 = .ok (.bipush (-3), 2) := by decide +kernel
theorem dX4_size_24 : decode cX4_size 24 = .ok (.ireturn, 1) := by decide +kernel
theorem dX4_size_25 : decode cX4_size 25 = .ok (.aload_n 0, 1) := by decide +kernel
theorem dX4_size_26 : decode cX4_size 26 = .ok (.getfield 7, 3) := by decide +kernel
theorem dX4_size_29 : decode cX4_size 29 = .ok (.iconst 0, 1) := by decide +kernel
theorem dX4_size_30 : decode cX4_size 30 = .ok (.iaload, 1) := by decide +kernel
theorem dX4_size_31 : decode cX4_size 31 = .ok (.istore_n 2, 1) := by decide +kernel
theorem dX4_size_32 : decode cX4_size 32 = .ok (.aload_n 0, 1) := by decide +kernel
theorem dX4_size_33 : decode cX4_size 33 = .ok (.getfield 7, 3) := by decide +kernel
theorem dX4_size_36 : decode cX4_size 36 = .ok (.iconst 0, 1) := by decide +kernel
theorem dX4_size_37 : decode cX4_size 37 = .ok (.iload_n 1, 1) := by decide +kernel
theorem dX4_size_38 : decode cX4_size 38 = .ok (.iastore, 1) := by decide +kernel
theorem dX4_size_39 : decode cX4_size 39 = .ok (.iload_n 2, 1) := by decide +kernel
theorem dX4_size_40 : decode cX4_size 40 = .ok (.ireturn, 1) := by decide +kernel
theorem dX4_put_0 : decode cX4_put 0 = .ok (.aload_n 0, 1) := by decide +kernel
theorem dX4_put_1 : decode cX4_put 1 = .ok (.invokevirtual 100, 3) := by decide +kernel
theorem dX4_put_4 : decode cX4_put 4 = .ok (.aload_n 0, 1) := by decide +kernel
theorem dX4_put_5 : decode cX4_put 5 = .ok (.iload_n 1, 1) := by decide +kernel
theorem dX4_put_6 : decode cX4_put 6 = .ok (.invokevirtual 103, 3) := by decide +kernel
theorem dX4_put_9 : decode cX4_put 9 = .ok (.ifCond .ne 5, 3) := by decide +kernel
theorem dX4_put_12 : decode cX4_put 12 = .ok (.iconst (-1), 1) := by decide +kernel
theorem dX4_put_13 : decode cX4_put 13 = .ok (.ireturn, 1) := by decide +kernel
theorem dX4_put_14 : decode cX4_put 14 = .ok (.iload_n 2, 1) := by decide +kernel
theorem dX4_put_15 : decode cX4_put 15 = .ok (.iconst 1, 1) := by decide +kernel
theorem dX4_put_16 : decode cX4_put 16 = .ok (.bipush 12, 2) := by decide +kernel
theorem dX4_put_18 : decode cX4_put 18 = .ok (.invokestatic 82, 3) := by decide +kernel
theorem dX4_put_21 : decode cX4_put 21 = .ok (.ifCond .eq 13, 3) := by decide +kernel
theorem dX4_put_24 : decode cX4_put 24 = .ok (.iload_n 3, 1) := by decide +kernel
theorem dX4_put_25 : decode cX4_put 25 = .ok (.iconst 1, 1) := by decide +kernel
theorem dX4_put_26 : decode cX4_put 26 = .ok (.bipush 12, 2) := by decide +kernel
theorem dX4_put_28 : decode cX4_put 28 = .ok (.invokestatic 82, 3) := by decide +kernel
theorem dX4_put_31 : decode cX4_put 31 = .ok (.ifCond .ne 6, 3) := by decide +kernel
theorem dX4_put_34 : decode cX4_put 34 = .ok (.bipush (-2), 2) := by decide +kernel
theorem dX4_put_36 : decode cX4_put 36 = .ok (.ireturn, 1) := by decide +kernel
theorem dX4_put_37 : decode cX4_put 37 = .ok (.aload_n 0, 1) := by decide +kernel
theorem dX4_put_38 : decode cX4_put 38 = .ok (.getfield 7, 3) := by decide +kernel
theorem dX4_put_41 : decode cX4_put 41 = .ok (.iconst 1, 1) := by decide +kernel
theorem dX4_put_42 : decode cX4_put 42 = .ok (.iaload, 1) := by decide +kernel
theorem dX4_put_43 : decode cX4_put 43 = .ok (.bipush 6, 2) := by decide +kernel
theorem dX4_put_45 : decode cX4_put 45 = .ok (.if_icmp .ne 6, 3) := by decide +kernel
theorem dX4_put_48 : decode cX4_put 48 = .ok (.bipush (-4), 2) := by decide +kernel
theorem dX4_put_50 : decode cX4_put 50 = .ok (.ireturn, 1) := by decide +kernel
theorem dX4_put_51 : decode cX4_put 51 = .ok (.aload_n 0, 1) := by decide +kernel
theorem dX4_put_52 : decode cX4_put 52 = .ok (.iload_n 1, 1) := by decide +kernel
theorem dX4_put_53 : decode cX4_put 53 = .ok (.iload_n 2, 1) := by decide +kernel
theorem dX4_put_54 : decode cX4_put 54 = .ok (.iload_n 3, 1) := by decide +kernel
theorem dX4_put_55 : decode cX4_put 55 = .ok (.invokevirtual 107, 3) := by decide +kernel
theorem dX4_put_58 : decode cX4_put 58 = .ok (.ifCond .le 6, 3) := by decide +kernel
theorem dX4_put_61 : decode cX4_put 61 = .ok (.bipush (-5), 2) := by decide +kernel
theorem dX4_put_63 : decode cX4_put 63 = .ok (.ireturn, 1) := by decide +kernel
theorem dX4_put_64 : decode cX4_put 64 = .ok (.iconst 2, 1) := by decide +kernel
theorem dX4_put_65 : decode cX4_put 65 = .ok (.iconst 3, 1) := by decide +kernel
theorem dX4_put_66 : decode cX4_put 66 = .ok (.aload_n 0, 1) := by decide +kernel
theorem dX4_put_67 : decode cX4_put 67 = .ok (.getfield 7, 3) := by decide +kernel
theorem dX4_put_70 : decode cX4_put 70 = .ok (.iconst 1, 1) := by decide +kernel
theorem dX4_put_71 : decode cX4_put 71 = .ok (.iaload, 1) := by decide +kernel
theorem dX4_put_72 : decode cX4_put 72 = .ok (.imul, 1) := by decide +kernel
theorem dX4_put_73 : decode cX4_put 73 = .ok (.iadd, 1) := by decide +kernel
theorem dX4_put_74 : decode cX4_put 74 = .ok (.istore 4, 2) := by decide +kernel
theorem dX4_put_76 : decode cX4_put 76 = .ok (.aload_n 0, 1) := by decide +kernel
theorem dX4_put_77 : decode cX4_put 77 = .ok (.getfield 7, 3) := by decide +kernel
theorem dX4_put_80 : decode cX4_put 80 = .ok (.iload 4, 2) := by decide +kernel
theorem dX4_put_82 : decode cX4_put 82 = .ok (.iload_n 1, 1) := by decide +kernel
theorem dX4_put_83 : decode cX4_put 83 = .ok (.iastore, 1) := by decide +kernel
theorem dX4_put_84 : decode cX4_put 84 = .ok (.aload_n 0, 1) := by decide +kernel
theorem dX4_put_85 : decode cX4_put 85 = .ok (.getfield 7, 3) := by decide +kernel
theorem dX4_put_88 : decode cX4_put 88 = .ok (.iload 4, 2) := by decide +kernel
theorem dX4_put_90 : decode cX4_put 90 = .ok (.iconst 1, 1) := by decide +kernel
theorem dX4_put_91 : decode cX4_put 91 = .ok (.iadd, 1) := by decide +kernel
theorem dX4_put_92 : decode cX4_put 92 = .ok (.iload_n 2, 1) := by decide +kernel
theorem dX4_put_93 : decode cX4_put 93 = .ok (.iastore, 1) := by decide +kernel
theorem dX4_put_94 : decode cX4_put 94 = .ok (.aload_n 0, 1) := by decide +kernel
theorem dX4_put_95 : decode cX4_put 95 = .ok (.getfield 7, 3) := by decide +kernel
theorem dX4_put_98 : decode cX4_put 98 = .ok (.iload 4, 2) := by decide +kernel
theorem dX4_put_100 : decode cX4_put 100 = .ok (.iconst 2, 1) := by decide +kernel
theorem dX4_put_101 : decode cX4_put 101 = .ok (.iadd, 1) := by decide +kernel
theorem dX4_put_102 : decode cX4_put 102 = .ok (.iload_n 3, 1) := by decide +kernel
theorem dX4_put_103 : decode cX4_put 103 = .ok (.iastore, 1) := by decide +kernel
theorem dX4_put_104 : decode cX4_put 104 = .ok (.aload_n 0, 1) := by decide +kernel
theorem dX4_put_105 : decode cX4_put 105 = .ok (.getfield 7, 3) := by decide +kernel
theorem dX4_put_108 : decode cX4_put 108 = .ok (.iconst 1, 1) := by decide +kernel
theorem dX4_put_109 : decode cX4_put 109 = .ok (.dup2, 1) := by decide +kernel
theorem dX4_put_110 : decode cX4_put 110 = .ok (.iaload, 1) := by decide +kernel
theorem dX4_put_111 : decode cX4_put 111 = .ok (.iconst 1, 1) := by decide +kernel
theorem dX4_put_112 : decode cX4_put 112 = .ok (.iadd, 1) := by decide +kernel
theorem dX4_put_113 : decode cX4_put 113 = .ok (.iastore, 1) := by decide +kernel
theorem dX4_put_114 : decode cX4_put 114 = .ok (.aload_n 0, 1) := by decide +kernel
theorem dX4_put_115 : decode cX4_put 115 = .ok (.getfield 57, 3) := by decide +kernel
theorem dX4_put_118 : decode cX4_put 118 = .ok (.iconst 2, 1) := by decide +kernel
theorem dX4_put_119 : decode cX4_put 119 = .ok (.iadd, 1) := by decide +kernel
theorem dX4_put_120 : decode cX4_put 120 = .ok (.ireturn, 1) := by decide +kernel
theorem dX4_off_0 : decode cX4_off 0 = .ok (.aload_n 0, 1) := by decide +kernel
theorem dX4_off_1 : decode cX4_off 1 = .ok (.getfield 7, 3) := by decide +kernel
theorem dX4_off_4 : decode cX4_off 4 = .ok (.iconst 1, 1) := by decide +kernel
theorem dX4_off_5 : decode cX4_off 5 = .ok (.iaload, 1) := by decide +kernel
theorem dX4_off_6 : decode cX4_off 6 = .ok (.ifCond .ne 6, 3) := by decide +kernel
theorem dX4_off_9 : decode cX4_off 9 = .ok (.bipush (-3), 2) := by decide +kernel
theorem dX4_off_11 : decode cX4_off 11 = .ok (.ireturn, 1) := by decide +kernel
theorem dX4_off_12 : decode cX4_off 12 = .ok (.aload_n 0, 1) := by decide +kernel
theorem dX4_off_13 : decode cX4_off 13 = .ok (.getfield 7, 3) := by decide +kernel
theorem dX4_off_16 : decode cX4_off 16 = .ok (.iconst 1, 1) := by decide +kernel
theorem dX4_off_17 : decode cX4_off 17 = .ok (.dup2, 1) := by decide +kernel
theorem dX4_off_18 : decode cX4_off 18 = .ok (.iaload, 1) := by decide +kernel
theorem dX4_off_19 : decode cX4_off 19 = .ok (.iconst 1, 1) := by decide +kernel
theorem dX4_off_20 : decode cX4_off 20 = .ok (.isub, 1) := by decide +kernel
theorem dX4_off_21 : decode cX4_off 21 = .ok (.iastore, 1) := by decide +kernel
theorem dX4_off_22 : decode cX4_off 22 = .ok (.aload_n 0, 1) := by decide +kernel
theorem dX4_off_23 : decode cX4_off 23 = .ok (.getfield 7, 3) := by decide +kernel
theorem dX4_off_26 : decode cX4_off 26 = .ok (.iconst 1, 1) := by decide +kernel
theorem dX4_off_27 : decode cX4_off 27 = .ok (.iaload, 1) := by decide +kernel
theorem dX4_off_28 : decode cX4_off 28 = .ok (.ireturn, 1) := by decide +kernel
theorem dX4_why_0 : decode cX4_why 0 = .ok (.aload_n 0, 1) := by decide +kernel
theorem dX4_why_1 : decode cX4_why 1 = .ok (.invokevirtual 100, 3) := by decide +kernel
theorem dX4_why_4 : decode cX4_why 4 = .ok (.aload_n 0, 1) := by decide +kernel
theorem dX4_why_5 : decode cX4_why 5 = .ok (.iload_n 1, 1) := by decide +kernel
theorem dX4_why_6 : decode cX4_why 6 = .ok (.invokevirtual 103, 3) := by decide +kernel
theorem dX4_why_9 : decode cX4_why 9 = .ok (.ifCond .ne 5, 3) := by decide +kernel
theorem dX4_why_12 : decode cX4_why 12 = .ok (.iconst (-1), 1) := by decide +kernel
theorem dX4_why_13 : decode cX4_why 13 = .ok (.ireturn, 1) := by decide +kernel
theorem dX4_why_14 : decode cX4_why 14 = .ok (.iload_n 2, 1) := by decide +kernel
theorem dX4_why_15 : decode cX4_why 15 = .ok (.iconst 1, 1) := by decide +kernel
theorem dX4_why_16 : decode cX4_why 16 = .ok (.bipush 12, 2) := by decide +kernel
theorem dX4_why_18 : decode cX4_why 18 = .ok (.invokestatic 82, 3) := by decide +kernel
theorem dX4_why_21 : decode cX4_why 21 = .ok (.ifCond .eq 23, 3) := by decide +kernel
theorem dX4_why_24 : decode cX4_why 24 = .ok (.iload_n 3, 1) := by decide +kernel
theorem dX4_why_25 : decode cX4_why 25 = .ok (.iconst 1, 1) := by decide +kernel
theorem dX4_why_26 : decode cX4_why 26 = .ok (.bipush 12, 2) := by decide +kernel
theorem dX4_why_28 : decode cX4_why 28 = .ok (.invokestatic 82, 3) := by decide +kernel
theorem dX4_why_31 : decode cX4_why 31 = .ok (.ifCond .eq 13, 3) := by decide +kernel
theorem dX4_why_34 : decode cX4_why 34 = .ok (.aload_n 0, 1) := by decide +kernel
theorem dX4_why_35 : decode cX4_why 35 = .ok (.iload_n 1, 1) := by decide +kernel
theorem dX4_why_36 : decode cX4_why 36 = .ok (.iload_n 2, 1) := by decide +kernel
theorem dX4_why_37 : decode cX4_why 37 = .ok (.iload_n 3, 1) := by decide +kernel
theorem dX4_why_38 : decode cX4_why 38 = .ok (.invokevirtual 107, 3) := by decide +kernel
theorem dX4_why_41 : decode cX4_why 41 = .ok (.goto 5, 3) := by decide +kernel
theorem dX4_why_44 : decode cX4_why 44 = .ok (.bipush (-2), 2) := by decide +kernel
theorem dX4_why_46 : decode cX4_why 46 = .ok (.ireturn, 1) := by decide +kernel
theorem dX4_corner_0 : decode cX4_corner 0 = .ok (.aload_n 0, 1) := by decide +kernel
theorem dX4_corner_1 : decode cX4_corner 1 = .ok (.invokevirtual 100, 3) := by decide +kernel
theorem dX4_corner_4 : decode cX4_corner 4 = .ok (.aload_n 0, 1) := by decide +kernel
theorem dX4_corner_5 : decode cX4_corner 5 = .ok (.iload_n 1, 1) := by decide +kernel
theorem dX4_corner_6 : decode cX4_corner 6 = .ok (.invokevirtual 103, 3) := by decide +kernel
theorem dX4_corner_9 : decode cX4_corner 9 = .ok (.ifCond .ne 5, 3) := by decide +kernel
theorem dX4_corner_12 : decode cX4_corner 12 = .ok (.iconst (-1), 1) := by decide +kernel
theorem dX4_corner_13 : decode cX4_corner 13 = .ok (.ireturn, 1) := by decide +kernel
theorem dX4_corner_14 : decode cX4_corner 14 = .ok (.iload_n 2, 1) := by decide +kernel
theorem dX4_corner_15 : decode cX4_corner 15 = .ok (.tableswitch 89 0 5 #[37, 47, 57, 66, 75, 82], 37) := by decide +kernel
theorem dX4_corner_52 : decode cX4_corner 52 = .ok (.aload_n 0, 1) := by decide +kernel
theorem dX4_corner_53 : decode cX4_corner 53 = .ok (.getfield 32, 3) := by decide +kernel
theorem dX4_corner_56 : decode cX4_corner 56 = .ok (.iload_n 1, 1) := by decide +kernel
theorem dX4_corner_57 : decode cX4_corner 57 = .ok (.iaload, 1) := by decide +kernel
theorem dX4_corner_58 : decode cX4_corner 58 = .ok (.bipush 100, 2) := by decide +kernel
theorem dX4_corner_60 : decode cX4_corner 60 = .ok (.iadd, 1) := by decide +kernel
theorem dX4_corner_61 : decode cX4_corner 61 = .ok (.ireturn, 1) := by decide +kernel
theorem dX4_corner_62 : decode cX4_corner 62 = .ok (.aload_n 0, 1) := by decide +kernel
theorem dX4_corner_63 : decode cX4_corner 63 = .ok (.getfield 35, 3) := by decide +kernel
theorem dX4_corner_66 : decode cX4_corner 66 = .ok (.iload_n 1, 1) := by decide +kernel
theorem dX4_corner_67 : decode cX4_corner 67 = .ok (.iaload, 1) := by decide +kernel
theorem dX4_corner_68 : decode cX4_corner 68 = .ok (.bipush 100, 2) := by decide +kernel
theorem dX4_corner_70 : decode cX4_corner 70 = .ok (.iadd, 1) := by decide +kernel
theorem dX4_corner_71 : decode cX4_corner 71 = .ok (.ireturn, 1) := by decide +kernel
theorem dX4_corner_72 : decode cX4_corner 72 = .ok (.aload_n 0, 1) := by decide +kernel
theorem dX4_corner_73 : decode cX4_corner 73 = .ok (.getfield 38, 3) := by decide +kernel
theorem dX4_corner_76 : decode cX4_corner 76 = .ok (.iload_n 1, 1) := by decide +kernel
theorem dX4_corner_77 : decode cX4_corner 77 = .ok (.iaload, 1) := by decide +kernel
theorem dX4_corner_78 : decode cX4_corner 78 = .ok (.iconst 1, 1) := by decide +kernel
theorem dX4_corner_79 : decode cX4_corner 79 = .ok (.iadd, 1) := by decide +kernel
theorem dX4_corner_80 : decode cX4_corner 80 = .ok (.ireturn, 1) := by decide +kernel
theorem dX4_corner_81 : decode cX4_corner 81 = .ok (.aload_n 0, 1) := by decide +kernel
theorem dX4_corner_82 : decode cX4_corner 82 = .ok (.getfield 41, 3) := by decide +kernel
theorem dX4_corner_85 : decode cX4_corner 85 = .ok (.iload_n 1, 1) := by decide +kernel
theorem dX4_corner_86 : decode cX4_corner 86 = .ok (.iaload, 1) := by decide +kernel
theorem dX4_corner_87 : decode cX4_corner 87 = .ok (.iconst 1, 1) := by decide +kernel
theorem dX4_corner_88 : decode cX4_corner 88 = .ok (.iadd, 1) := by decide +kernel
theorem dX4_corner_89 : decode cX4_corner 89 = .ok (.ireturn, 1) := by decide +kernel
theorem dX4_corner_90 : decode cX4_corner 90 = .ok (.aload_n 0, 1) := by decide +kernel
theorem dX4_corner_91 : decode cX4_corner 91 = .ok (.iload_n 1, 1) := by decide +kernel
theorem dX4_corner_92 : decode cX4_corner 92 = .ok (.iconst 0, 1) := by decide +kernel
theorem dX4_corner_93 : decode cX4_corner 93 = .ok (.invokevirtual 94, 3) := by decide +kernel
theorem dX4_corner_96 : decode cX4_corner 96 = .ok (.ireturn, 1) := by decide +kernel
theorem dX4_corner_97 : decode cX4_corner 97 = .ok (.aload_n 0, 1) := by decide +kernel
theorem dX4_corner_98 : decode cX4_corner 98 = .ok (.iload_n 1, 1) := by decide +kernel
theorem dX4_corner_99 : decode cX4_corner 99 = .ok (.iconst 1, 1) := by decide +kernel
theorem dX4_corner_100 : decode cX4_corner 100 = .ok (.invokevirtual 94, 3) := by decide +kernel
theorem dX4_corner_103 : decode cX4_corner 103 = .ok (.ireturn, 1) := by decide +kernel
theorem dX4_corner_104 : decode cX4_corner 104 = .ok (.bipush (-2), 2) := by decide +kernel
theorem dX4_corner_106 : decode cX4_corner 106 = .ok (.ireturn, 1) := by decide +kernel
theorem dX4_isFace_0 : decode cX4_isFace 0 = .ok (.iload_n 1, 1) := by decide +kernel
theorem dX4_isFace_1 : decode cX4_isFace 1 = .ok (.iconst 0, 1) := by decide +kernel
theorem dX4_isFace_2 : decode cX4_isFace 2 = .ok (.aload_n 0, 1) := by decide +kernel
theorem dX4_isFace_3 : decode cX4_isFace 3 = .ok (.getfield 57, 3) := by decide +kernel
theorem dX4_isFace_6 : decode cX4_isFace 6 = .ok (.iconst 1, 1) := by decide +kernel
theorem dX4_isFace_7 : decode cX4_isFace 7 = .ok (.isub, 1) := by decide +kernel
theorem dX4_isFace_8 : decode cX4_isFace 8 = .ok (.invokestatic 82, 3) := by decide +kernel
theorem dX4_isFace_11 : decode cX4_isFace 11 = .ok (.ireturn, 1) := by decide +kernel
theorem dX4_face_0 : decode cX4_face 0 = .ok (.aload_n 0, 1) := by decide +kernel
theorem dX4_face_1 : decode cX4_face 1 = .ok (.invokevirtual 100, 3) := by decide +kernel
theorem dX4_face_4 : decode cX4_face 4 = .ok (.aload_n 0, 1) := by decide +kernel
theorem dX4_face_5 : decode cX4_face 5 = .ok (.iload_n 1, 1) := by decide +kernel
theorem dX4_face_6 : decode cX4_face 6 = .ok (.invokevirtual 111, 3) := by decide +kernel
theorem dX4_face_9 : decode cX4_face 9 = .ok (.ifCond .ne 5, 3) := by decide +kernel
theorem dX4_face_12 : decode cX4_face 12 = .ok (.iconst (-1), 1) := by decide +kernel
theorem dX4_face_13 : decode cX4_face 13 = .ok (.ireturn, 1) := by decide +kernel
theorem dX4_face_14 : decode cX4_face 14 = .ok (.iload_n 2, 1) := by decide +kernel
theorem dX4_face_15 : decode cX4_face 15 = .ok (.tableswitch 63 0 3 #[29, 36, 46, 56], 29) := by decide +kernel
theorem dX4_face_44 : decode cX4_face 44 = .ok (.aload_n 0, 1) := by decide +kernel
theorem dX4_face_45 : decode cX4_face 45 = .ok (.getfield 20, 3) := by decide +kernel
theorem dX4_face_48 : decode cX4_face 48 = .ok (.iload_n 1, 1) := by decide +kernel
theorem dX4_face_49 : decode cX4_face 49 = .ok (.iaload, 1) := by decide +kernel
theorem dX4_face_50 : decode cX4_face 50 = .ok (.ireturn, 1) := by decide +kernel
theorem dX4_face_51 : decode cX4_face 51 = .ok (.aload_n 0, 1) := by decide +kernel
theorem dX4_face_52 : decode cX4_face 52 = .ok (.getfield 23, 3) := by decide +kernel
theorem dX4_face_55 : decode cX4_face 55 = .ok (.iload_n 1, 1) := by decide +kernel
theorem dX4_face_56 : decode cX4_face 56 = .ok (.iaload, 1) := by decide +kernel
theorem dX4_face_57 : decode cX4_face 57 = .ok (.bipush 100, 2) := by decide +kernel
theorem dX4_face_59 : decode cX4_face 59 = .ok (.iadd, 1) := by decide +kernel
theorem dX4_face_60 : decode cX4_face 60 = .ok (.ireturn, 1) := by decide +kernel
theorem dX4_face_61 : decode cX4_face 61 = .ok (.aload_n 0, 1) := by decide +kernel
theorem dX4_face_62 : decode cX4_face 62 = .ok (.getfield 26, 3) := by decide +kernel
theorem dX4_face_65 : decode cX4_face 65 = .ok (.iload_n 1, 1) := by decide +kernel
theorem dX4_face_66 : decode cX4_face 66 = .ok (.iaload, 1) := by decide +kernel
theorem dX4_face_67 : decode cX4_face 67 = .ok (.bipush 100, 2) := by decide +kernel
theorem dX4_face_69 : decode cX4_face 69 = .ok (.iadd, 1) := by decide +kernel
theorem dX4_face_70 : decode cX4_face 70 = .ok (.ireturn, 1) := by decide +kernel
theorem dX4_face_71 : decode cX4_face 71 = .ok (.aload_n 0, 1) := by decide +kernel
theorem dX4_face_72 : decode cX4_face 72 = .ok (.getfield 29, 3) := by decide +kernel
theorem dX4_face_75 : decode cX4_face 75 = .ok (.iload_n 1, 1) := by decide +kernel
theorem dX4_face_76 : decode cX4_face 76 = .ok (.iaload, 1) := by decide +kernel
theorem dX4_face_77 : decode cX4_face 77 = .ok (.ireturn, 1) := by decide +kernel
theorem dX4_face_78 : decode cX4_face 78 = .ok (.bipush (-2), 2) := by decide +kernel
theorem dX4_face_80 : decode cX4_face 80 = .ok (.ireturn, 1) := by decide +kernel
theorem dX4_on_0 : decode cX4_on 0 = .ok (.iload_n 1, 1) := by decide +kernel
theorem dX4_on_1 : decode cX4_on 1 = .ok (.bipush (-12), 2) := by decide +kernel
theorem dX4_on_3 : decode cX4_on 3 = .ok (.bipush 12, 2) := by decide +kernel
theorem dX4_on_5 : decode cX4_on 5 = .ok (.invokestatic 82, 3) := by decide +kernel
theorem dX4_on_8 : decode cX4_on 8 = .ok (.ifCond .eq 14, 3) := by decide +kernel
theorem dX4_on_11 : decode cX4_on 11 = .ok (.iload_n 2, 1) := by decide +kernel
theorem dX4_on_12 : decode cX4_on 12 = .ok (.bipush (-12), 2) := by decide +kernel
theorem dX4_on_14 : decode cX4_on 14 = .ok (.bipush 12, 2) := by decide +kernel
theorem dX4_on_16 : decode cX4_on 16 = .ok (.invokestatic 82, 3) := by decide +kernel
theorem dX4_on_19 : decode cX4_on 19 = .ok (.ifCond .ne 6, 3) := by decide +kernel
theorem dX4_on_22 : decode cX4_on 22 = .ok (.bipush (-2), 2) := by decide +kernel
theorem dX4_on_24 : decode cX4_on 24 = .ok (.ireturn, 1) := by decide +kernel
theorem dX4_on_25 : decode cX4_on 25 = .ok (.aload_n 0, 1) := by decide +kernel
theorem dX4_on_26 : decode cX4_on 26 = .ok (.invokevirtual 100, 3) := by decide +kernel
theorem dX4_on_29 : decode cX4_on 29 = .ok (.iload_n 1, 1) := by decide +kernel
theorem dX4_on_30 : decode cX4_on 30 = .ok (.ifCond .lt 7, 3) := by decide +kernel
theorem dX4_on_33 : decode cX4_on 33 = .ok (.iload_n 2, 1) := by decide +kernel
theorem dX4_on_34 : decode cX4_on 34 = .ok (.ifCond .ge 7, 3) := by decide +kernel
theorem dX4_on_37 : decode cX4_on 37 = .ok (.iconst 0, 1) := by decide +kernel
theorem dX4_on_38 : decode cX4_on 38 = .ok (.goto 13, 3) := by decide +kernel
theorem dX4_on_41 : decode cX4_on 41 = .ok (.aload_n 0, 1) := by decide +kernel
theorem dX4_on_42 : decode cX4_on 42 = .ok (.getfield 50, 3) := by decide +kernel
theorem dX4_on_45 : decode cX4_on 45 = .ok (.iload_n 1, 1) := by decide +kernel
theorem dX4_on_46 : decode cX4_on 46 = .ok (.iload_n 2, 1) := by decide +kernel
theorem dX4_on_47 : decode cX4_on 47 = .ok (.invokestatic 53, 3) := by decide +kernel
theorem dX4_on_50 : decode cX4_on 50 = .ok (.iaload, 1) := by decide +kernel
theorem dX4_on_51 : decode cX4_on 51 = .ok (.ireturn, 1) := by decide +kernel
theorem dX4_layWays_0 : decode cX4_layWays 0 = .ok (.aload_n 0, 1) := by decide +kernel
theorem dX4_layWays_1 : decode cX4_layWays 1 = .ok (.iconst 0, 1) := by decide +kernel
theorem dX4_layWays_2 : decode cX4_layWays 2 = .ok (.putfield 114, 3) := by decide +kernel
theorem dX4_layWays_5 : decode cX4_layWays 5 = .ok (.aload_n 0, 1) := by decide +kernel
theorem dX4_layWays_6 : decode cX4_layWays 6 = .ok (.iconst 0, 1) := by decide +kernel
theorem dX4_layWays_7 : decode cX4_layWays 7 = .ok (.putfield 117, 3) := by decide +kernel
theorem dX4_layWays_10 : decode cX4_layWays 10 = .ok (.aload_n 0, 1) := by decide +kernel
theorem dX4_layWays_11 : decode cX4_layWays 11 = .ok (.bipush (-6), 2) := by decide +kernel
theorem dX4_layWays_13 : decode cX4_layWays 13 = .ok (.putfield 120, 3) := by decide +kernel
theorem dX4_layWays_16 : decode cX4_layWays 16 = .ok (.aload_n 0, 1) := by decide +kernel
theorem dX4_layWays_17 : decode cX4_layWays 17 = .ok (.bipush (-6), 2) := by decide +kernel
theorem dX4_layWays_19 : decode cX4_layWays 19 = .ok (.putfield 123, 3) := by decide +kernel
theorem dX4_layWays_22 : decode cX4_layWays 22 = .ok (.aload_n 0, 1) := by decide +kernel
theorem dX4_layWays_23 : decode cX4_layWays 23 = .ok (.bipush (-6), 2) := by decide +kernel
theorem dX4_layWays_25 : decode cX4_layWays 25 = .ok (.putfield 126, 3) := by decide +kernel
theorem dX4_layWays_28 : decode cX4_layWays 28 = .ok (.iconst 0, 1) := by decide +kernel
theorem dX4_layWays_29 : decode cX4_layWays 29 = .ok (.istore_n 2, 1) := by decide +kernel
theorem dX4_layWays_30 : decode cX4_layWays 30 = .ok (.iload_n 2, 1) := by decide +kernel
theorem dX4_layWays_31 : decode cX4_layWays 31 = .ok (.aload_n 0, 1) := by decide +kernel
theorem dX4_layWays_32 : decode cX4_layWays 32 = .ok (.getfield 65, 3) := by decide +kernel
theorem dX4_layWays_35 : decode cX4_layWays 35 = .ok (.if_icmp .ge 92, 3) := by decide +kernel
theorem dX4_layWays_38 : decode cX4_layWays 38 = .ok (.iload_n 1, 1) := by decide +kernel
theorem dX4_layWays_39 : decode cX4_layWays 39 = .ok (.bipush 6, 2) := by decide +kernel
theorem dX4_layWays_41 : decode cX4_layWays 41 = .ok (.if_icmp .ge 86, 3) := by decide +kernel
theorem dX4_layWays_44 : decode cX4_layWays 44 = .ok (.aload_n 0, 1) := by decide +kernel
theorem dX4_layWays_45 : decode cX4_layWays 45 = .ok (.iload_n 2, 1) := by decide +kernel
theorem dX4_layWays_46 : decode cX4_layWays 46 = .ok (.iconst 0, 1) := by decide +kernel
theorem dX4_layWays_47 : decode cX4_layWays 47 = .ok (.invokevirtual 94, 3) := by decide +kernel
theorem dX4_layWays_50 : decode cX4_layWays 50 = .ok (.istore_n 3, 1) := by decide +kernel
theorem dX4_layWays_51 : decode cX4_layWays 51 = .ok (.aload_n 0, 1) := by decide +kernel
theorem dX4_layWays_52 : decode cX4_layWays 52 = .ok (.iload_n 2, 1) := by decide +kernel
theorem dX4_layWays_53 : decode cX4_layWays 53 = .ok (.iconst 1, 1) := by decide +kernel
theorem dX4_layWays_54 : decode cX4_layWays 54 = .ok (.invokevirtual 94, 3) := by decide +kernel
theorem dX4_layWays_57 : decode cX4_layWays 57 = .ok (.istore 4, 2) := by decide +kernel
theorem dX4_layWays_59 : decode cX4_layWays 59 = .ok (.iconst 1, 1) := by decide +kernel
theorem dX4_layWays_60 : decode cX4_layWays 60 = .ok (.istore 5, 2) := by decide +kernel
theorem dX4_layWays_62 : decode cX4_layWays 62 = .ok (.iload 5, 2) := by decide +kernel
theorem dX4_layWays_64 : decode cX4_layWays 64 = .ok (.iload_n 3, 1) := by decide +kernel
theorem dX4_layWays_65 : decode cX4_layWays 65 = .ok (.if_icmp .gt 56, 3) := by decide +kernel
theorem dX4_layWays_68 : decode cX4_layWays 68 = .ok (.iconst 1, 1) := by decide +kernel
theorem dX4_layWays_69 : decode cX4_layWays 69 = .ok (.istore 6, 2) := by decide +kernel
theorem dX4_layWays_71 : decode cX4_layWays 71 = .ok (.iload 6, 2) := by decide +kernel
theorem dX4_layWays_73 : decode cX4_layWays 73 = .ok (.iload 4, 2) := by decide +kernel
theorem dX4_layWays_75 : decode cX4_layWays 75 = .ok (.if_icmp .gt 40, 3) := by decide +kernel
theorem dX4_layWays_78 : decode cX4_layWays 78 = .ok (.aload_n 0, 1) := by decide +kernel
theorem dX4_layWays_79 : decode cX4_layWays 79 = .ok (.iload_n 2, 1) := by decide +kernel
theorem dX4_layWays_80 : decode cX4_layWays 80 = .ok (.iload 5, 2) := by decide +kernel
theorem dX4_layWays_82 : decode cX4_layWays 82 = .ok (.iload 6, 2) := by decide +kernel
theorem dX4_layWays_84 : decode cX4_layWays 84 = .ok (.invokevirtual 107, 3) := by decide +kernel
theorem dX4_layWays_87 : decode cX4_layWays 87 = .ok (.ifCond .ne 22, 3) := by decide +kernel
theorem dX4_layWays_90 : decode cX4_layWays 90 = .ok (.aload_n 0, 1) := by decide +kernel
theorem dX4_layWays_91 : decode cX4_layWays 91 = .ok (.iload_n 2, 1) := by decide +kernel
theorem dX4_layWays_92 : decode cX4_layWays 92 = .ok (.iload 5, 2) := by decide +kernel
theorem dX4_layWays_94 : decode cX4_layWays 94 = .ok (.iload 6, 2) := by decide +kernel
theorem dX4_layWays_96 : decode cX4_layWays 96 = .ok (.invokevirtual 129, 3) := by decide +kernel
theorem dX4_layWays_99 : decode cX4_layWays 99 = .ok (.aload_n 0, 1) := by decide +kernel
theorem dX4_layWays_100 : decode cX4_layWays 100 = .ok (.dup, 1) := by decide +kernel
theorem dX4_layWays_101 : decode cX4_layWays 101 = .ok (.getfield 114, 3) := by decide +kernel
theorem dX4_layWays_104 : decode cX4_layWays 104 = .ok (.iconst 1, 1) := by decide +kernel
theorem dX4_layWays_105 : decode cX4_layWays 105 = .ok (.iadd, 1) := by decide +kernel
theorem dX4_layWays_106 : decode cX4_layWays 106 = .ok (.putfield 114, 3) := by decide +kernel
theorem dX4_layWays_109 : decode cX4_layWays 109 = .ok (.iinc 6 1, 3) := by decide +kernel
theorem dX4_layWays_112 : decode cX4_layWays 112 = .ok (.goto (-41), 3) := by decide +kernel
theorem dX4_layWays_115 : decode cX4_layWays 115 = .ok (.iinc 5 1, 3) := by decide +kernel
theorem dX4_layWays_118 : decode cX4_layWays 118 = .ok (.goto (-56), 3) := by decide +kernel
theorem dX4_layWays_121 : decode cX4_layWays 121 = .ok (.iinc 2 1, 3) := by decide +kernel
theorem dX4_layWays_124 : decode cX4_layWays 124 = .ok (.goto (-94), 3) := by decide +kernel
theorem dX4_layWays_127 : decode cX4_layWays 127 = .ok (.return_, 1) := by decide +kernel
theorem dX4_keepBest_0 : decode cX4_keepBest 0 = .ok (.iload_n 2, 1) := by decide +kernel
theorem dX4_keepBest_1 : decode cX4_keepBest 1 = .ok (.iload_n 3, 1) := by decide +kernel
theorem dX4_keepBest_2 : decode cX4_keepBest 2 = .ok (.imul, 1) := by decide +kernel
theorem dX4_keepBest_3 : decode cX4_keepBest 3 = .ok (.aload_n 0, 1) := by decide +kernel
theorem dX4_keepBest_4 : decode cX4_keepBest 4 = .ok (.getfield 117, 3) := by decide +kernel
theorem dX4_keepBest_7 : decode cX4_keepBest 7 = .ok (.if_icmp .le 25, 3) := by decide +kernel
theorem dX4_keepBest_10 : decode cX4_keepBest 10 = .ok (.aload_n 0, 1) := by decide +kernel
theorem dX4_keepBest_11 : decode cX4_keepBest 11 = .ok (.iload_n 2, 1) := by decide +kernel
theorem dX4_keepBest_12 : decode cX4_keepBest 12 = .ok (.iload_n 3, 1) := by decide +kernel
theorem dX4_keepBest_13 : decode cX4_keepBest 13 = .ok (.imul, 1) := by decide +kernel
theorem dX4_keepBest_14 : decode cX4_keepBest 14 = .ok (.putfield 117, 3) := by decide +kernel
theorem dX4_keepBest_17 : decode cX4_keepBest 17 = .ok (.aload_n 0, 1) := by decide +kernel
theorem dX4_keepBest_18 : decode cX4_keepBest 18 = .ok (.iload_n 1, 1) := by decide +kernel
theorem dX4_keepBest_19 : decode cX4_keepBest 19 = .ok (.putfield 120, 3) := by decide +kernel
theorem dX4_keepBest_22 : decode cX4_keepBest 22 = .ok (.aload_n 0, 1) := by decide +kernel
theorem dX4_keepBest_23 : decode cX4_keepBest 23 = .ok (.iload_n 2, 1) := by decide +kernel
theorem dX4_keepBest_24 : decode cX4_keepBest 24 = .ok (.putfield 123, 3) := by decide +kernel
theorem dX4_keepBest_27 : decode cX4_keepBest 27 = .ok (.aload_n 0, 1) := by decide +kernel
theorem dX4_keepBest_28 : decode cX4_keepBest 28 = .ok (.iload_n 3, 1) := by decide +kernel
theorem dX4_keepBest_29 : decode cX4_keepBest 29 = .ok (.putfield 126, 3) := by decide +kernel
theorem dX4_keepBest_32 : decode cX4_keepBest 32 = .ok (.return_, 1) := by decide +kernel
theorem dX4_ways_0 : decode cX4_ways 0 = .ok (.aload_n 0, 1) := by decide +kernel
theorem dX4_ways_1 : decode cX4_ways 1 = .ok (.invokevirtual 100, 3) := by decide +kernel
theorem dX4_ways_4 : decode cX4_ways 4 = .ok (.aload_n 0, 1) := by decide +kernel
theorem dX4_ways_5 : decode cX4_ways 5 = .ok (.aload_n 0, 1) := by decide +kernel
theorem dX4_ways_6 : decode cX4_ways 6 = .ok (.getfield 7, 3) := by decide +kernel
theorem dX4_ways_9 : decode cX4_ways 9 = .ok (.iconst 1, 1) := by decide +kernel
theorem dX4_ways_10 : decode cX4_ways 10 = .ok (.iaload, 1) := by decide +kernel
theorem dX4_ways_11 : decode cX4_ways 11 = .ok (.invokevirtual 132, 3) := by decide +kernel
theorem dX4_ways_14 : decode cX4_ways 14 = .ok (.aload_n 0, 1) := by decide +kernel
theorem dX4_ways_15 : decode cX4_ways 15 = .ok (.getfield 114, 3) := by decide +kernel
theorem dX4_ways_18 : decode cX4_ways 18 = .ok (.ireturn, 1) := by decide +kernel
theorem dX4_greatest_0 : decode cX4_greatest 0 = .ok (.iload_n 1, 1) := by decide +kernel
theorem dX4_greatest_1 : decode cX4_greatest 1 = .ok (.iconst 0, 1) := by decide +kernel
theorem dX4_greatest_2 : decode cX4_greatest 2 = .ok (.iconst 3, 1) := by decide +kernel
theorem dX4_greatest_3 : decode cX4_greatest 3 = .ok (.invokestatic 82, 3) := by decide +kernel
theorem dX4_greatest_6 : decode cX4_greatest 6 = .ok (.ifCond .ne 6, 3) := by decide +kernel
theorem dX4_greatest_9 : decode cX4_greatest 9 = .ok (.bipush (-2), 2) := by decide +kernel
theorem dX4_greatest_11 : decode cX4_greatest 11 = .ok (.ireturn, 1) := by decide +kernel
theorem dX4_greatest_12 : decode cX4_greatest 12 = .ok (.aload_n 0, 1) := by decide +kernel
theorem dX4_greatest_13 : decode cX4_greatest 13 = .ok (.invokevirtual 100, 3) := by decide +kernel
theorem dX4_greatest_16 : decode cX4_greatest 16 = .ok (.aload_n 0, 1) := by decide +kernel
theorem dX4_greatest_17 : decode cX4_greatest 17 = .ok (.aload_n 0, 1) := by decide +kernel
theorem dX4_greatest_18 : decode cX4_greatest 18 = .ok (.getfield 7, 3) := by decide +kernel
theorem dX4_greatest_21 : decode cX4_greatest 21 = .ok (.iconst 1, 1) := by decide +kernel
theorem dX4_greatest_22 : decode cX4_greatest 22 = .ok (.iaload, 1) := by decide +kernel
theorem dX4_greatest_23 : decode cX4_greatest 23 = .ok (.invokevirtual 132, 3) := by decide +kernel
theorem dX4_greatest_26 : decode cX4_greatest 26 = .ok (.iload_n 1, 1) := by decide +kernel
theorem dX4_greatest_27 : decode cX4_greatest 27 = .ok (.ifCond .ne 22, 3) := by decide +kernel
theorem dX4_greatest_30 : decode cX4_greatest 30 = .ok (.aload_n 0, 1) := by decide +kernel
theorem dX4_greatest_31 : decode cX4_greatest 31 = .ok (.getfield 117, 3) := by decide +kernel
theorem dX4_greatest_34 : decode cX4_greatest 34 = .ok (.ifCond .le 10, 3) := by decide +kernel
theorem dX4_greatest_37 : decode cX4_greatest 37 = .ok (.aload_n 0, 1) := by decide +kernel
theorem dX4_greatest_38 : decode cX4_greatest 38 = .ok (.getfield 117, 3) := by decide +kernel
theorem dX4_greatest_41 : decode cX4_greatest 41 = .ok (.goto 36, 3) := by decide +kernel
theorem dX4_greatest_44 : decode cX4_greatest 44 = .ok (.bipush (-6), 2) := by decide +kernel
theorem dX4_greatest_46 : decode cX4_greatest 46 = .ok (.goto 31, 3) := by decide +kernel
theorem dX4_greatest_49 : decode cX4_greatest 49 = .ok (.iload_n 1, 1) := by decide +kernel
theorem dX4_greatest_50 : decode cX4_greatest 50 = .ok (.iconst 1, 1) := by decide +kernel
theorem dX4_greatest_51 : decode cX4_greatest 51 = .ok (.if_icmp .ne 10, 3) := by decide +kernel
theorem dX4_greatest_54 : decode cX4_greatest 54 = .ok (.aload_n 0, 1) := by decide +kernel
theorem dX4_greatest_55 : decode cX4_greatest 55 = .ok (.getfield 120, 3) := by decide +kernel
theorem dX4_greatest_58 : decode cX4_greatest 58 = .ok (.goto 19, 3) := by decide +kernel
theorem dX4_greatest_61 : decode cX4_greatest 61 = .ok (.iload_n 1, 1) := by decide +kernel
theorem dX4_greatest_62 : decode cX4_greatest 62 = .ok (.iconst 2, 1) := by decide +kernel
theorem dX4_greatest_63 : decode cX4_greatest 63 = .ok (.if_icmp .ne 10, 3) := by decide +kernel
theorem dX4_greatest_66 : decode cX4_greatest 66 = .ok (.aload_n 0, 1) := by decide +kernel
theorem dX4_greatest_67 : decode cX4_greatest 67 = .ok (.getfield 123, 3) := by decide +kernel
theorem dX4_greatest_70 : decode cX4_greatest 70 = .ok (.goto 7, 3) := by decide +kernel
theorem dX4_greatest_73 : decode cX4_greatest 73 = .ok (.aload_n 0, 1) := by decide +kernel
theorem dX4_greatest_74 : decode cX4_greatest 74 = .ok (.getfield 126, 3) := by decide +kernel
theorem dX4_greatest_77 : decode cX4_greatest 77 = .ok (.ireturn, 1) := by decide +kernel
theorem dX4_sizeWith_0 : decode cX4_sizeWith 0 = .ok (.aload_n 0, 1) := by decide +kernel
theorem dX4_sizeWith_1 : decode cX4_sizeWith 1 = .ok (.iload_n 1, 1) := by decide +kernel
theorem dX4_sizeWith_2 : decode cX4_sizeWith 2 = .ok (.iload_n 2, 1) := by decide +kernel
theorem dX4_sizeWith_3 : decode cX4_sizeWith 3 = .ok (.iload_n 3, 1) := by decide +kernel
theorem dX4_sizeWith_4 : decode cX4_sizeWith 4 = .ok (.invokevirtual 78, 3) := by decide +kernel
theorem dX4_sizeWith_7 : decode cX4_sizeWith 7 = .ok (.aload_n 0, 1) := by decide +kernel
theorem dX4_sizeWith_8 : decode cX4_sizeWith 8 = .ok (.aload_n 0, 1) := by decide +kernel
theorem dX4_sizeWith_9 : decode cX4_sizeWith 9 = .ok (.getfield 7, 3) := by decide +kernel
theorem dX4_sizeWith_12 : decode cX4_sizeWith 12 = .ok (.iconst 1, 1) := by decide +kernel
theorem dX4_sizeWith_13 : decode cX4_sizeWith 13 = .ok (.iaload, 1) := by decide +kernel
theorem dX4_sizeWith_14 : decode cX4_sizeWith 14 = .ok (.iconst 1, 1) := by decide +kernel
theorem dX4_sizeWith_15 : decode cX4_sizeWith 15 = .ok (.iadd, 1) := by decide +kernel
theorem dX4_sizeWith_16 : decode cX4_sizeWith 16 = .ok (.invokevirtual 132, 3) := by decide +kernel
theorem dX4_sizeWith_19 : decode cX4_sizeWith 19 = .ok (.aload_n 0, 1) := by decide +kernel
theorem dX4_sizeWith_20 : decode cX4_sizeWith 20 = .ok (.invokevirtual 136, 3) := by decide +kernel
theorem dX4_sizeWith_23 : decode cX4_sizeWith 23 = .ok (.iload_n 2, 1) := by decide +kernel
theorem dX4_sizeWith_24 : decode cX4_sizeWith 24 = .ok (.iload_n 3, 1) := by decide +kernel
theorem dX4_sizeWith_25 : decode cX4_sizeWith 25 = .ok (.imul, 1) := by decide +kernel
theorem dX4_sizeWith_26 : decode cX4_sizeWith 26 = .ok (.aload_n 0, 1) := by decide +kernel
theorem dX4_sizeWith_27 : decode cX4_sizeWith 27 = .ok (.getfield 117, 3) := by decide +kernel
theorem dX4_sizeWith_30 : decode cX4_sizeWith 30 = .ok (.iadd, 1) := by decide +kernel
theorem dX4_sizeWith_31 : decode cX4_sizeWith 31 = .ok (.ireturn, 1) := by decide +kernel
theorem dX4_two_0 : decode cX4_two 0 = .ok (.aload_n 0, 1) := by decide +kernel
theorem dX4_two_1 : decode cX4_two 1 = .ok (.invokevirtual 100, 3) := by decide +kernel
theorem dX4_two_4 : decode cX4_two 4 = .ok (.bipush (-6), 2) := by decide +kernel
theorem dX4_two_6 : decode cX4_two 6 = .ok (.istore_n 1, 1) := by decide +kernel
theorem dX4_two_7 : decode cX4_two 7 = .ok (.aload_n 0, 1) := by decide +kernel
theorem dX4_two_8 : decode cX4_two 8 = .ok (.getfield 7, 3) := by decide +kernel
theorem dX4_two_11 : decode cX4_two 11 = .ok (.iconst 1, 1) := by decide +kernel
theorem dX4_two_12 : decode cX4_two 12 = .ok (.iaload, 1) := by decide +kernel
theorem dX4_two_13 : decode cX4_two 13 = .ok (.bipush 6, 2) := by decide +kernel
theorem dX4_two_15 : decode cX4_two 15 = .ok (.if_icmp .ne 7, 3) := by decide +kernel
theorem dX4_two_18 : decode cX4_two 18 = .ok (.iconst 0, 1) := by decide +kernel
theorem dX4_two_19 : decode cX4_two 19 = .ok (.goto 7, 3) := by decide +kernel
theorem dX4_two_22 : decode cX4_two 22 = .ok (.aload_n 0, 1) := by decide +kernel
theorem dX4_two_23 : decode cX4_two 23 = .ok (.getfield 65, 3) := by decide +kernel
theorem dX4_two_26 : decode cX4_two 26 = .ok (.istore_n 2, 1) := by decide +kernel
theorem dX4_two_27 : decode cX4_two 27 = .ok (.iconst 0, 1) := by decide +kernel
theorem dX4_two_28 : decode cX4_two 28 = .ok (.istore_n 3, 1) := by decide +kernel
theorem dX4_two_29 : decode cX4_two 29 = .ok (.iload_n 3, 1) := by decide +kernel
theorem dX4_two_30 : decode cX4_two 30 = .ok (.iload_n 2, 1) := by decide +kernel
theorem dX4_two_31 : decode cX4_two 31 = .ok (.if_icmp .ge 93, 3) := by decide +kernel
theorem dX4_two_34 : decode cX4_two 34 = .ok (.aload_n 0, 1) := by decide +kernel
theorem dX4_two_35 : decode cX4_two 35 = .ok (.iload_n 3, 1) := by decide +kernel
theorem dX4_two_36 : decode cX4_two 36 = .ok (.iconst 0, 1) := by decide +kernel
theorem dX4_two_37 : decode cX4_two 37 = .ok (.invokevirtual 94, 3) := by decide +kernel
theorem dX4_two_40 : decode cX4_two 40 = .ok (.istore 4, 2) := by decide +kernel
theorem dX4_two_42 : decode cX4_two 42 = .ok (.aload_n 0, 1) := by decide +kernel
theorem dX4_two_43 : decode cX4_two 43 = .ok (.iload_n 3, 1) := by decide +kernel
theorem dX4_two_44 : decode cX4_two 44 = .ok (.iconst 1, 1) := by decide +kernel
theorem dX4_two_45 : decode cX4_two 45 = .ok (.invokevirtual 94, 3) := by decide +kernel
theorem dX4_two_48 : decode cX4_two 48 = .ok (.istore 5, 2) := by decide +kernel
theorem dX4_two_50 : decode cX4_two 50 = .ok (.iconst 1, 1) := by decide +kernel
theorem dX4_two_51 : decode cX4_two 51 = .ok (.istore 6, 2) := by decide +kernel
theorem dX4_two_53 : decode cX4_two 53 = .ok (.iload 6, 2) := by decide +kernel
theorem dX4_two_55 : decode cX4_two 55 = .ok (.iload 4, 2) := by decide +kernel
theorem dX4_two_57 : decode cX4_two 57 = .ok (.if_icmp .gt 61, 3) := by decide +kernel
theorem dX4_two_60 : decode cX4_two 60 = .ok (.iconst 1, 1) := by decide +kernel
theorem dX4_two_61 : decode cX4_two 61 = .ok (.istore 7, 2) := by decide +kernel
theorem dX4_two_63 : decode cX4_two 63 = .ok (.iload 7, 2) := by decide +kernel
theorem dX4_two_65 : decode cX4_two 65 = .ok (.iload 5, 2) := by decide +kernel
theorem dX4_two_67 : decode cX4_two 67 = .ok (.if_icmp .gt 45, 3) := by decide +kernel
theorem dX4_two_70 : decode cX4_two 70 = .ok (.aload_n 0, 1) := by decide +kernel
theorem dX4_two_71 : decode cX4_two 71 = .ok (.iload_n 3, 1) := by decide +kernel
theorem dX4_two_72 : decode cX4_two 72 = .ok (.iload 6, 2) := by decide +kernel
theorem dX4_two_74 : decode cX4_two 74 = .ok (.iload 7, 2) := by decide +kernel
theorem dX4_two_76 : decode cX4_two 76 = .ok (.invokevirtual 107, 3) := by decide +kernel
theorem dX4_two_79 : decode cX4_two 79 = .ok (.ifCond .ne 27, 3) := by decide +kernel
theorem dX4_two_82 : decode cX4_two 82 = .ok (.aload_n 0, 1) := by decide +kernel
theorem dX4_two_83 : decode cX4_two 83 = .ok (.iload_n 3, 1) := by decide +kernel
theorem dX4_two_84 : decode cX4_two 84 = .ok (.iload 6, 2) := by decide +kernel
theorem dX4_two_86 : decode cX4_two 86 = .ok (.iload 7, 2) := by decide +kernel
theorem dX4_two_88 : decode cX4_two 88 = .ok (.invokevirtual 139, 3) := by decide +kernel
theorem dX4_two_91 : decode cX4_two 91 = .ok (.istore 8, 2) := by decide +kernel
theorem dX4_two_93 : decode cX4_two 93 = .ok (.iload 8, 2) := by decide +kernel
theorem dX4_two_95 : decode cX4_two 95 = .ok (.iload_n 1, 1) := by decide +kernel
theorem dX4_two_96 : decode cX4_two 96 = .ok (.if_icmp .le 8, 3) := by decide +kernel
theorem dX4_two_99 : decode cX4_two 99 = .ok (.iload 8, 2) := by decide +kernel
theorem dX4_two_101 : decode cX4_two 101 = .ok (.goto 4, 3) := by decide +kernel
theorem dX4_two_104 : decode cX4_two 104 = .ok (.iload_n 1, 1) := by decide +kernel
theorem dX4_two_105 : decode cX4_two 105 = .ok (.istore_n 1, 1) := by decide +kernel
theorem dX4_two_106 : decode cX4_two 106 = .ok (.iinc 7 1, 3) := by decide +kernel
theorem dX4_two_109 : decode cX4_two 109 = .ok (.goto (-46), 3) := by decide +kernel
theorem dX4_two_112 : decode cX4_two 112 = .ok (.iinc 6 1, 3) := by decide +kernel
theorem dX4_two_115 : decode cX4_two 115 = .ok (.goto (-62), 3) := by decide +kernel
theorem dX4_two_118 : decode cX4_two 118 = .ok (.iinc 3 1, 3) := by decide +kernel
theorem dX4_two_121 : decode cX4_two 121 = .ok (.goto (-92), 3) := by decide +kernel
theorem dX4_two_124 : decode cX4_two 124 = .ok (.iload_n 1, 1) := by decide +kernel
theorem dX4_two_125 : decode cX4_two 125 = .ok (.ireturn, 1) := by decide +kernel
theorem dX4_cOf_0 : decode cX4_cOf 0 = .ok (.iload_n 0, 1) := by decide +kernel
theorem dX4_cOf_1 : decode cX4_cOf 1 = .ok (.tableswitch 56 0 5 #[39, 42, 45, 48, 51, 54], 39) := by decide +kernel
theorem dX4_cOf_40 : decode cX4_cOf 40 = .ok (.bipush 25, 2) := by decide +kernel
theorem dX4_cOf_42 : decode cX4_cOf 42 = .ok (.ireturn, 1) := by decide +kernel
theorem dX4_cOf_43 : decode cX4_cOf 43 = .ok (.bipush 24, 2) := by decide +kernel
theorem dX4_cOf_45 : decode cX4_cOf 45 = .ok (.ireturn, 1) := by decide +kernel
theorem dX4_cOf_46 : decode cX4_cOf 46 = .ok (.bipush 20, 2) := by decide +kernel
theorem dX4_cOf_48 : decode cX4_cOf 48 = .ok (.ireturn, 1) := by decide +kernel
theorem dX4_cOf_49 : decode cX4_cOf 49 = .ok (.bipush 15, 2) := by decide +kernel
theorem dX4_cOf_51 : decode cX4_cOf 51 = .ok (.ireturn, 1) := by decide +kernel
theorem dX4_cOf_52 : decode cX4_cOf 52 = .ok (.bipush 7, 2) := by decide +kernel
theorem dX4_cOf_54 : decode cX4_cOf 54 = .ok (.ireturn, 1) := by decide +kernel
theorem dX4_cOf_55 : decode cX4_cOf 55 = .ok (.iconst 0, 1) := by decide +kernel
theorem dX4_cOf_56 : decode cX4_cOf 56 = .ok (.ireturn, 1) := by decide +kernel
theorem dX4_cOf_57 : decode cX4_cOf 57 = .ok (.bipush 10, 2) := by decide +kernel
theorem dX4_cOf_59 : decode cX4_cOf 59 = .ok (.iload_n 0, 1) := by decide +kernel
theorem dX4_cOf_60 : decode cX4_cOf 60 = .ok (.isub, 1) := by decide +kernel
theorem dX4_cOf_61 : decode cX4_cOf 61 = .ok (.invokestatic 142, 3) := by decide +kernel
theorem dX4_cOf_64 : decode cX4_cOf 64 = .ok (.ineg, 1) := by decide +kernel
theorem dX4_cOf_65 : decode cX4_cOf 65 = .ok (.ireturn, 1) := by decide +kernel
theorem dX4_cOfShut_0 : decode cX4_cOfShut 0 = .ok (.iload_n 0, 1) := by decide +kernel
theorem dX4_cOfShut_1 : decode cX4_cOfShut 1 = .ok (.tableswitch 43 0 3 #[31, 34, 37, 40], 31) := by decide +kernel
theorem dX4_cOfShut_32 : decode cX4_cOfShut 32 = .ok (.bipush 25, 2) := by decide +kernel
theorem dX4_cOfShut_34 : decode cX4_cOfShut 34 = .ok (.ireturn, 1) := by decide +kernel
theorem dX4_cOfShut_35 : decode cX4_cOfShut 35 = .ok (.bipush 24, 2) := by decide +kernel
theorem dX4_cOfShut_37 : decode cX4_cOfShut 37 = .ok (.ireturn, 1) := by decide +kernel
theorem dX4_cOfShut_38 : decode cX4_cOfShut 38 = .ok (.bipush 20, 2) := by decide +kernel
theorem dX4_cOfShut_40 : decode cX4_cOfShut 40 = .ok (.ireturn, 1) := by decide +kernel
theorem dX4_cOfShut_41 : decode cX4_cOfShut 41 = .ok (.bipush 15, 2) := by decide +kernel
theorem dX4_cOfShut_43 : decode cX4_cOfShut 43 = .ok (.ireturn, 1) := by decide +kernel
theorem dX4_cOfShut_44 : decode cX4_cOfShut 44 = .ok (.bipush 7, 2) := by decide +kernel
theorem dX4_cOfShut_46 : decode cX4_cOfShut 46 = .ok (.ireturn, 1) := by decide +kernel
theorem dX4_sOf_0 : decode cX4_sOf 0 = .ok (.iload_n 0, 1) := by decide +kernel
theorem dX4_sOf_1 : decode cX4_sOf 1 = .ok (.iconst 5, 1) := by decide +kernel
theorem dX4_sOf_2 : decode cX4_sOf 2 = .ok (.if_icmp .ge 7, 3) := by decide +kernel
theorem dX4_sOf_5 : decode cX4_sOf 5 = .ok (.iload_n 0, 1) := by decide +kernel
theorem dX4_sOf_6 : decode cX4_sOf 6 = .ok (.goto 7, 3) := by decide +kernel
theorem dX4_sOf_9 : decode cX4_sOf 9 = .ok (.bipush 10, 2) := by decide +kernel
theorem dX4_sOf_11 : decode cX4_sOf 11 = .ok (.iload_n 0, 1) := by decide +kernel
theorem dX4_sOf_12 : decode cX4_sOf 12 = .ok (.isub, 1) := by decide +kernel
theorem dX4_sOf_13 : decode cX4_sOf 13 = .ok (.tableswitch 49 0 4 #[35, 37, 40, 43, 46], 35) := by decide +kernel
theorem dX4_sOf_48 : decode cX4_sOf 48 = .ok (.iconst 0, 1) := by decide +kernel
theorem dX4_sOf_49 : decode cX4_sOf 49 = .ok (.ireturn, 1) := by decide +kernel
theorem dX4_sOf_50 : decode cX4_sOf 50 = .ok (.bipush 7, 2) := by decide +kernel
theorem dX4_sOf_52 : decode cX4_sOf 52 = .ok (.ireturn, 1) := by decide +kernel
theorem dX4_sOf_53 : decode cX4_sOf 53 = .ok (.bipush 15, 2) := by decide +kernel
theorem dX4_sOf_55 : decode cX4_sOf 55 = .ok (.ireturn, 1) := by decide +kernel
theorem dX4_sOf_56 : decode cX4_sOf 56 = .ok (.bipush 20, 2) := by decide +kernel
theorem dX4_sOf_58 : decode cX4_sOf 58 = .ok (.ireturn, 1) := by decide +kernel
theorem dX4_sOf_59 : decode cX4_sOf 59 = .ok (.bipush 24, 2) := by decide +kernel
theorem dX4_sOf_61 : decode cX4_sOf 61 = .ok (.ireturn, 1) := by decide +kernel
theorem dX4_sOf_62 : decode cX4_sOf 62 = .ok (.bipush 25, 2) := by decide +kernel
theorem dX4_sOf_64 : decode cX4_sOf 64 = .ok (.ireturn, 1) := by decide +kernel
theorem dX4_across_0 : decode cX4_across 0 = .ok (.bipush 25, 2) := by decide +kernel
theorem dX4_across_2 : decode cX4_across 2 = .ok (.iload_n 1, 1) := by decide +kernel
theorem dX4_across_3 : decode cX4_across 3 = .ok (.imul, 1) := by decide +kernel
theorem dX4_across_4 : decode cX4_across 4 = .ok (.iload_n 0, 1) := by decide +kernel
theorem dX4_across_5 : decode cX4_across 5 = .ok (.invokestatic 146, 3) := by decide +kernel
theorem dX4_across_8 : decode cX4_across 8 = .ok (.iload_n 2, 1) := by decide +kernel
theorem dX4_across_9 : decode cX4_across 9 = .ok (.imul, 1) := by decide +kernel
theorem dX4_across_10 : decode cX4_across 10 = .ok (.iadd, 1) := by decide +kernel
theorem dX4_across_11 : decode cX4_across 11 = .ok (.ireturn, 1) := by decide +kernel
theorem dX4_upOf_0 : decode cX4_upOf 0 = .ok (.iload_n 0, 1) := by decide +kernel
theorem dX4_upOf_1 : decode cX4_upOf 1 = .ok (.invokestatic 149, 3) := by decide +kernel
theorem dX4_upOf_4 : decode cX4_upOf 4 = .ok (.iload_n 1, 1) := by decide +kernel
theorem dX4_upOf_5 : decode cX4_upOf 5 = .ok (.imul, 1) := by decide +kernel
theorem dX4_upOf_6 : decode cX4_upOf 6 = .ok (.ireturn, 1) := by decide +kernel
theorem dX4_endP_0 : decode cX4_endP 0 = .ok (.aload_n 0, 1) := by decide +kernel
theorem dX4_endP_1 : decode cX4_endP 1 = .ok (.getfield 23, 3) := by decide +kernel
theorem dX4_endP_4 : decode cX4_endP 4 = .ok (.iload_n 1, 1) := by decide +kernel
theorem dX4_endP_5 : decode cX4_endP 5 = .ok (.iaload, 1) := by decide +kernel
theorem dX4_endP_6 : decode cX4_endP 6 = .ok (.aload_n 0, 1) := by decide +kernel
theorem dX4_endP_7 : decode cX4_endP 7 = .ok (.getfield 20, 3) := by decide +kernel
theorem dX4_endP_10 : decode cX4_endP 10 = .ok (.iload_n 1, 1) := by decide +kernel
theorem dX4_endP_11 : decode cX4_endP 11 = .ok (.iaload, 1) := by decide +kernel
theorem dX4_endP_12 : decode cX4_endP 12 = .ok (.ifCond .ne 12, 3) := by decide +kernel
theorem dX4_endP_15 : decode cX4_endP 15 = .ok (.aload_n 0, 1) := by decide +kernel
theorem dX4_endP_16 : decode cX4_endP 16 = .ok (.getfield 29, 3) := by decide +kernel
theorem dX4_endP_19 : decode cX4_endP 19 = .ok (.iload_n 1, 1) := by decide +kernel
theorem dX4_endP_20 : decode cX4_endP 20 = .ok (.iaload, 1) := by decide +kernel
theorem dX4_endP_21 : decode cX4_endP 21 = .ok (.goto 4, 3) := by decide +kernel
theorem dX4_endP_24 : decode cX4_endP 24 = .ok (.iconst 0, 1) := by decide +kernel
theorem dX4_endP_25 : decode cX4_endP 25 = .ok (.iadd, 1) := by decide +kernel
theorem dX4_endP_26 : decode cX4_endP 26 = .ok (.ireturn, 1) := by decide +kernel
theorem dX4_endQ_0 : decode cX4_endQ 0 = .ok (.aload_n 0, 1) := by decide +kernel
theorem dX4_endQ_1 : decode cX4_endQ 1 = .ok (.getfield 26, 3) := by decide +kernel
theorem dX4_endQ_4 : decode cX4_endQ 4 = .ok (.iload_n 1, 1) := by decide +kernel
theorem dX4_endQ_5 : decode cX4_endQ 5 = .ok (.iaload, 1) := by decide +kernel
theorem dX4_endQ_6 : decode cX4_endQ 6 = .ok (.aload_n 0, 1) := by decide +kernel
theorem dX4_endQ_7 : decode cX4_endQ 7 = .ok (.getfield 20, 3) := by decide +kernel
theorem dX4_endQ_10 : decode cX4_endQ 10 = .ok (.iload_n 1, 1) := by decide +kernel
theorem dX4_endQ_11 : decode cX4_endQ 11 = .ok (.iaload, 1) := by decide +kernel
theorem dX4_endQ_12 : decode cX4_endQ 12 = .ok (.iconst 1, 1) := by decide +kernel
theorem dX4_endQ_13 : decode cX4_endQ 13 = .ok (.if_icmp .ne 12, 3) := by decide +kernel
theorem dX4_endQ_16 : decode cX4_endQ 16 = .ok (.aload_n 0, 1) := by decide +kernel
theorem dX4_endQ_17 : decode cX4_endQ 17 = .ok (.getfield 29, 3) := by decide +kernel
theorem dX4_endQ_20 : decode cX4_endQ 20 = .ok (.iload_n 1, 1) := by decide +kernel
theorem dX4_endQ_21 : decode cX4_endQ 21 = .ok (.iaload, 1) := by decide +kernel
theorem dX4_endQ_22 : decode cX4_endQ 22 = .ok (.goto 4, 3) := by decide +kernel
theorem dX4_endQ_25 : decode cX4_endQ 25 = .ok (.iconst 0, 1) := by decide +kernel
theorem dX4_endQ_26 : decode cX4_endQ 26 = .ok (.iadd, 1) := by decide +kernel
theorem dX4_endQ_27 : decode cX4_endQ 27 = .ok (.ireturn, 1) := by decide +kernel
theorem dX4_view_0 : decode cX4_view 0 = .ok (.iload_n 1, 1) := by decide +kernel
theorem dX4_view_1 : decode cX4_view 1 = .ok (.iconst 0, 1) := by decide +kernel
theorem dX4_view_2 : decode cX4_view 2 = .ok (.bipush 10, 2) := by decide +kernel
theorem dX4_view_4 : decode cX4_view 4 = .ok (.invokestatic 82, 3) := by decide +kernel
theorem dX4_view_7 : decode cX4_view 7 = .ok (.ifCond .eq 12, 3) := by decide +kernel
theorem dX4_view_10 : decode cX4_view 10 = .ok (.iload_n 2, 1) := by decide +kernel
theorem dX4_view_11 : decode cX4_view 11 = .ok (.iconst 0, 1) := by decide +kernel
theorem dX4_view_12 : decode cX4_view 12 = .ok (.iconst 3, 1) := by decide +kernel
theorem dX4_view_13 : decode cX4_view 13 = .ok (.invokestatic 82, 3) := by decide +kernel
theorem dX4_view_16 : decode cX4_view 16 = .ok (.ifCond .ne 6, 3) := by decide +kernel
theorem dX4_view_19 : decode cX4_view 19 = .ok (.bipush (-2), 2) := by decide +kernel
theorem dX4_view_21 : decode cX4_view 21 = .ok (.ireturn, 1) := by decide +kernel
theorem dX4_view_22 : decode cX4_view 22 = .ok (.aload_n 0, 1) := by decide +kernel
theorem dX4_view_23 : decode cX4_view 23 = .ok (.invokevirtual 100, 3) := by decide +kernel
theorem dX4_view_26 : decode cX4_view 26 = .ok (.sipush 10000, 3) := by decide +kernel
theorem dX4_view_29 : decode cX4_view 29 = .ok (.istore_n 3, 1) := by decide +kernel
theorem dX4_view_30 : decode cX4_view 30 = .ok (.sipush (-10000), 3) := by decide +kernel
theorem dX4_view_33 : decode cX4_view 33 = .ok (.istore 4, 2) := by decide +kernel
theorem dX4_view_35 : decode cX4_view 35 = .ok (.iconst 0, 1) := by decide +kernel
theorem dX4_view_36 : decode cX4_view 36 = .ok (.istore 5, 2) := by decide +kernel
theorem dX4_view_38 : decode cX4_view 38 = .ok (.iload 5, 2) := by decide +kernel
theorem dX4_view_40 : decode cX4_view 40 = .ok (.aload_n 0, 1) := by decide +kernel
theorem dX4_view_41 : decode cX4_view 41 = .ok (.getfield 57, 3) := by decide +kernel
theorem dX4_view_44 : decode cX4_view 44 = .ok (.if_icmp .ge 119, 3) := by decide +kernel
theorem dX4_view_47 : decode cX4_view 47 = .ok (.iconst 0, 1) := by decide +kernel
theorem dX4_view_48 : decode cX4_view 48 = .ok (.istore 6, 2) := by decide +kernel
theorem dX4_view_50 : decode cX4_view 50 = .ok (.iload 6, 2) := by decide +kernel
theorem dX4_view_52 : decode cX4_view 52 = .ok (.iconst 2, 1) := by decide +kernel
theorem dX4_view_53 : decode cX4_view 53 = .ok (.if_icmp .ge 104, 3) := by decide +kernel
theorem dX4_view_56 : decode cX4_view 56 = .ok (.iload 6, 2) := by decide +kernel
theorem dX4_view_58 : decode cX4_view 58 = .ok (.ifCond .ne 13, 3) := by decide +kernel
theorem dX4_view_61 : decode cX4_view 61 = .ok (.aload_n 0, 1) := by decide +kernel
theorem dX4_view_62 : decode cX4_view 62 = .ok (.getfield 26, 3) := by decide +kernel
theorem dX4_view_65 : decode cX4_view 65 = .ok (.iload 5, 2) := by decide +kernel
theorem dX4_view_67 : decode cX4_view 67 = .ok (.iaload, 1) := by decide +kernel
theorem dX4_view_68 : decode cX4_view 68 = .ok (.goto 9, 3) := by decide +kernel
theorem dX4_view_71 : decode cX4_view 71 = .ok (.aload_n 0, 1) := by decide +kernel
theorem dX4_view_72 : decode cX4_view 72 = .ok (.iload 5, 2) := by decide +kernel
theorem dX4_view_74 : decode cX4_view 74 = .ok (.invokevirtual 152, 3) := by decide +kernel
theorem dX4_view_77 : decode cX4_view 77 = .ok (.istore 7, 2) := by decide +kernel
theorem dX4_view_79 : decode cX4_view 79 = .ok (.iload_n 2, 1) := by decide +kernel
theorem dX4_view_80 : decode cX4_view 80 = .ok (.iconst 2, 1) := by decide +kernel
theorem dX4_view_81 : decode cX4_view 81 = .ok (.if_icmp .ge 33, 3) := by decide +kernel
theorem dX4_view_84 : decode cX4_view 84 = .ok (.iload_n 1, 1) := by decide +kernel
theorem dX4_view_85 : decode cX4_view 85 = .ok (.iload 6, 2) := by decide +kernel
theorem dX4_view_87 : decode cX4_view 87 = .ok (.ifCond .ne 13, 3) := by decide +kernel
theorem dX4_view_90 : decode cX4_view 90 = .ok (.aload_n 0, 1) := by decide +kernel
theorem dX4_view_91 : decode cX4_view 91 = .ok (.getfield 23, 3) := by decide +kernel
theorem dX4_view_94 : decode cX4_view 94 = .ok (.iload 5, 2) := by decide +kernel
theorem dX4_view_96 : decode cX4_view 96 = .ok (.iaload, 1) := by decide +kernel
theorem dX4_view_97 : decode cX4_view 97 = .ok (.goto 9, 3) := by decide +kernel
theorem dX4_view_100 : decode cX4_view 100 = .ok (.aload_n 0, 1) := by decide +kernel
theorem dX4_view_101 : decode cX4_view 101 = .ok (.iload 5, 2) := by decide +kernel
theorem dX4_view_103 : decode cX4_view 103 = .ok (.invokevirtual 155, 3) := by decide +kernel
theorem dX4_view_106 : decode cX4_view 106 = .ok (.iload 7, 2) := by decide +kernel
theorem dX4_view_108 : decode cX4_view 108 = .ok (.invokestatic 158, 3) := by decide +kernel
theorem dX4_view_111 : decode cX4_view 111 = .ok (.goto 9, 3) := by decide +kernel
theorem dX4_view_114 : decode cX4_view 114 = .ok (.iload_n 1, 1) := by decide +kernel
theorem dX4_view_115 : decode cX4_view 115 = .ok (.iload 7, 2) := by decide +kernel
theorem dX4_view_117 : decode cX4_view 117 = .ok (.invokestatic 161, 3) := by decide +kernel
theorem dX4_view_120 : decode cX4_view 120 = .ok (.istore 8, 2) := by decide +kernel
theorem dX4_view_122 : decode cX4_view 122 = .ok (.iload 8, 2) := by decide +kernel
theorem dX4_view_124 : decode cX4_view 124 = .ok (.iload_n 3, 1) := by decide +kernel
theorem dX4_view_125 : decode cX4_view 125 = .ok (.if_icmp .ge 8, 3) := by decide +kernel
theorem dX4_view_128 : decode cX4_view 128 = .ok (.iload 8, 2) := by decide +kernel
theorem dX4_view_130 : decode cX4_view 130 = .ok (.goto 4, 3) := by decide +kernel
theorem dX4_view_133 : decode cX4_view 133 = .ok (.iload_n 3, 1) := by decide +kernel
theorem dX4_view_134 : decode cX4_view 134 = .ok (.istore_n 3, 1) := by decide +kernel
theorem dX4_view_135 : decode cX4_view 135 = .ok (.iload 8, 2) := by decide +kernel
theorem dX4_view_137 : decode cX4_view 137 = .ok (.iload 4, 2) := by decide +kernel
theorem dX4_view_139 : decode cX4_view 139 = .ok (.if_icmp .le 8, 3) := by decide +kernel
theorem dX4_view_142 : decode cX4_view 142 = .ok (.iload 8, 2) := by decide +kernel
theorem dX4_view_144 : decode cX4_view 144 = .ok (.goto 5, 3) := by decide +kernel
theorem dX4_view_147 : decode cX4_view 147 = .ok (.iload 4, 2) := by decide +kernel
theorem dX4_view_149 : decode cX4_view 149 = .ok (.istore 4, 2) := by decide +kernel
theorem dX4_view_151 : decode cX4_view 151 = .ok (.iinc 6 1, 3) := by decide +kernel
theorem dX4_view_154 : decode cX4_view 154 = .ok (.goto (-104), 3) := by decide +kernel
theorem dX4_view_157 : decode cX4_view 157 = .ok (.iinc 5 1, 3) := by decide +kernel
theorem dX4_view_160 : decode cX4_view 160 = .ok (.goto (-122), 3) := by decide +kernel
theorem dX4_view_163 : decode cX4_view 163 = .ok (.sipush 1000, 3) := by decide +kernel
theorem dX4_view_166 : decode cX4_view 166 = .ok (.iload_n 2, 1) := by decide +kernel
theorem dX4_view_167 : decode cX4_view 167 = .ok (.ifCond .eq 8, 3) := by decide +kernel
theorem dX4_view_170 : decode cX4_view 170 = .ok (.iload_n 2, 1) := by decide +kernel
theorem dX4_view_171 : decode cX4_view 171 = .ok (.iconst 3, 1) := by decide +kernel
theorem dX4_view_172 : decode cX4_view 172 = .ok (.if_icmp .ne 7, 3) := by decide +kernel
theorem dX4_view_175 : decode cX4_view 175 = .ok (.iload_n 3, 1) := by decide +kernel
theorem dX4_view_176 : decode cX4_view 176 = .ok (.goto 5, 3) := by decide +kernel
theorem dX4_view_179 : decode cX4_view 179 = .ok (.iload 4, 2) := by decide +kernel
theorem dX4_view_181 : decode cX4_view 181 = .ok (.iadd, 1) := by decide +kernel
theorem dX4_view_182 : decode cX4_view 182 = .ok (.ireturn, 1) := by decide +kernel
theorem dX4_isOver_0 : decode cX4_isOver 0 = .ok (.iload_n 2, 1) := by decide +kernel
theorem dX4_isOver_1 : decode cX4_isOver 1 = .ok (.aload_n 0, 1) := by decide +kernel
theorem dX4_isOver_2 : decode cX4_isOver 2 = .ok (.getfield 23, 3) := by decide +kernel
theorem dX4_isOver_5 : decode cX4_isOver 5 = .ok (.iload_n 1, 1) := by decide +kernel
theorem dX4_isOver_6 : decode cX4_isOver 6 = .ok (.iaload, 1) := by decide +kernel
theorem dX4_isOver_7 : decode cX4_isOver 7 = .ok (.aload_n 0, 1) := by decide +kernel
theorem dX4_isOver_8 : decode cX4_isOver 8 = .ok (.getfield 26, 3) := by decide +kernel
theorem dX4_isOver_11 : decode cX4_isOver 11 = .ok (.iload_n 1, 1) := by decide +kernel
theorem dX4_isOver_12 : decode cX4_isOver 12 = .ok (.iaload, 1) := by decide +kernel
theorem dX4_isOver_13 : decode cX4_isOver 13 = .ok (.invokestatic 158, 3) := by decide +kernel
theorem dX4_isOver_16 : decode cX4_isOver 16 = .ok (.istore 4, 2) := by decide +kernel
theorem dX4_isOver_18 : decode cX4_isOver 18 = .ok (.iload_n 2, 1) := by decide +kernel
theorem dX4_isOver_19 : decode cX4_isOver 19 = .ok (.aload_n 0, 1) := by decide +kernel
theorem dX4_isOver_20 : decode cX4_isOver 20 = .ok (.iload_n 1, 1) := by decide +kernel
theorem dX4_isOver_21 : decode cX4_isOver 21 = .ok (.invokevirtual 155, 3) := by decide +kernel
theorem dX4_isOver_24 : decode cX4_isOver 24 = .ok (.aload_n 0, 1) := by decide +kernel
theorem dX4_isOver_25 : decode cX4_isOver 25 = .ok (.iload_n 1, 1) := by decide +kernel
theorem dX4_isOver_26 : decode cX4_isOver 26 = .ok (.invokevirtual 152, 3) := by decide +kernel
theorem dX4_isOver_29 : decode cX4_isOver 29 = .ok (.invokestatic 158, 3) := by decide +kernel
theorem dX4_isOver_32 : decode cX4_isOver 32 = .ok (.istore 5, 2) := by decide +kernel
theorem dX4_isOver_34 : decode cX4_isOver 34 = .ok (.iload_n 2, 1) := by decide +kernel
theorem dX4_isOver_35 : decode cX4_isOver 35 = .ok (.aload_n 0, 1) := by decide +kernel
theorem dX4_isOver_36 : decode cX4_isOver 36 = .ok (.getfield 26, 3) := by decide +kernel
theorem dX4_isOver_39 : decode cX4_isOver 39 = .ok (.iload_n 1, 1) := by decide +kernel
theorem dX4_isOver_40 : decode cX4_isOver 40 = .ok (.iaload, 1) := by decide +kernel
theorem dX4_isOver_41 : decode cX4_isOver 41 = .ok (.invokestatic 161, 3) := by decide +kernel
theorem dX4_isOver_44 : decode cX4_isOver 44 = .ok (.istore 6, 2) := by decide +kernel
theorem dX4_isOver_46 : decode cX4_isOver 46 = .ok (.iload_n 2, 1) := by decide +kernel
theorem dX4_isOver_47 : decode cX4_isOver 47 = .ok (.aload_n 0, 1) := by decide +kernel
theorem dX4_isOver_48 : decode cX4_isOver 48 = .ok (.iload_n 1, 1) := by decide +kernel
theorem dX4_isOver_49 : decode cX4_isOver 49 = .ok (.invokevirtual 152, 3) := by decide +kernel
theorem dX4_isOver_52 : decode cX4_isOver 52 = .ok (.invokestatic 161, 3) := by decide +kernel
theorem dX4_isOver_55 : decode cX4_isOver 55 = .ok (.istore 7, 2) := by decide +kernel
theorem dX4_isOver_57 : decode cX4_isOver 57 = .ok (.iload_n 3, 1) := by decide +kernel
theorem dX4_isOver_58 : decode cX4_isOver 58 = .ok (.iload 4, 2) := by decide +kernel
theorem dX4_isOver_60 : decode cX4_isOver 60 = .ok (.iload 5, 2) := by decide +kernel
theorem dX4_isOver_62 : decode cX4_isOver 62 = .ok (.invokestatic 82, 3) := by decide +kernel
theorem dX4_isOver_65 : decode cX4_isOver 65 = .ok (.ifCond .ne 16, 3) := by decide +kernel
theorem dX4_isOver_68 : decode cX4_isOver 68 = .ok (.iload_n 3, 1) := by decide +kernel
theorem dX4_isOver_69 : decode cX4_isOver 69 = .ok (.iload 5, 2) := by decide +kernel
theorem dX4_isOver_71 : decode cX4_isOver 71 = .ok (.iload 4, 2) := by decide +kernel
theorem dX4_isOver_73 : decode cX4_isOver 73 = .ok (.invokestatic 82, 3) := by decide +kernel
theorem dX4_isOver_76 : decode cX4_isOver 76 = .ok (.ifCond .ne 5, 3) := by decide +kernel
theorem dX4_isOver_79 : decode cX4_isOver 79 = .ok (.iconst 0, 1) := by decide +kernel
theorem dX4_isOver_80 : decode cX4_isOver 80 = .ok (.ireturn, 1) := by decide +kernel
theorem dX4_isOver_81 : decode cX4_isOver 81 = .ok (.iload 4, 2) := by decide +kernel
theorem dX4_isOver_83 : decode cX4_isOver 83 = .ok (.iload 5, 2) := by decide +kernel
theorem dX4_isOver_85 : decode cX4_isOver 85 = .ok (.if_icmp .ne 28, 3) := by decide +kernel
theorem dX4_isOver_88 : decode cX4_isOver 88 = .ok (.aload_n 0, 1) := by decide +kernel
theorem dX4_isOver_89 : decode cX4_isOver 89 = .ok (.iload 6, 2) := by decide +kernel
theorem dX4_isOver_91 : decode cX4_isOver 91 = .ok (.iload 7, 2) := by decide +kernel
theorem dX4_isOver_93 : decode cX4_isOver 93 = .ok (.if_icmp .le 8, 3) := by decide +kernel
theorem dX4_isOver_96 : decode cX4_isOver 96 = .ok (.iload 6, 2) := by decide +kernel
theorem dX4_isOver_98 : decode cX4_isOver 98 = .ok (.goto 5, 3) := by decide +kernel
theorem dX4_isOver_101 : decode cX4_isOver 101 = .ok (.iload 7, 2) := by decide +kernel
theorem dX4_isOver_103 : decode cX4_isOver 103 = .ok (.putfield 164, 3) := by decide +kernel
theorem dX4_isOver_106 : decode cX4_isOver 106 = .ok (.aload_n 0, 1) := by decide +kernel
theorem dX4_isOver_107 : decode cX4_isOver 107 = .ok (.iconst 1, 1) := by decide +kernel
theorem dX4_isOver_108 : decode cX4_isOver 108 = .ok (.putfield 167, 3) := by decide +kernel
theorem dX4_isOver_111 : decode cX4_isOver 111 = .ok (.iconst 1, 1) := by decide +kernel
theorem dX4_isOver_112 : decode cX4_isOver 112 = .ok (.ireturn, 1) := by decide +kernel
theorem dX4_isOver_113 : decode cX4_isOver 113 = .ok (.aload_n 0, 1) := by decide +kernel
theorem dX4_isOver_114 : decode cX4_isOver 114 = .ok (.iload 5, 2) := by decide +kernel
theorem dX4_isOver_116 : decode cX4_isOver 116 = .ok (.iload 4, 2) := by decide +kernel
theorem dX4_isOver_118 : decode cX4_isOver 118 = .ok (.isub, 1) := by decide +kernel
theorem dX4_isOver_119 : decode cX4_isOver 119 = .ok (.putfield 167, 3) := by decide +kernel
theorem dX4_isOver_122 : decode cX4_isOver 122 = .ok (.aload_n 0, 1) := by decide +kernel
theorem dX4_isOver_123 : decode cX4_isOver 123 = .ok (.iload 6, 2) := by decide +kernel
theorem dX4_isOver_125 : decode cX4_isOver 125 = .ok (.aload_n 0, 1) := by decide +kernel
theorem dX4_isOver_126 : decode cX4_isOver 126 = .ok (.getfield 167, 3) := by decide +kernel
theorem dX4_isOver_129 : decode cX4_isOver 129 = .ok (.imul, 1) := by decide +kernel
theorem dX4_isOver_130 : decode cX4_isOver 130 = .ok (.iload 7, 2) := by decide +kernel
theorem dX4_isOver_132 : decode cX4_isOver 132 = .ok (.iload 6, 2) := by decide +kernel
theorem dX4_isOver_134 : decode cX4_isOver 134 = .ok (.isub, 1) := by decide +kernel
theorem dX4_isOver_135 : decode cX4_isOver 135 = .ok (.iload_n 3, 1) := by decide +kernel
theorem dX4_isOver_136 : decode cX4_isOver 136 = .ok (.iload 4, 2) := by decide +kernel
theorem dX4_isOver_138 : decode cX4_isOver 138 = .ok (.isub, 1) := by decide +kernel
theorem dX4_isOver_139 : decode cX4_isOver 139 = .ok (.imul, 1) := by decide +kernel
theorem dX4_isOver_140 : decode cX4_isOver 140 = .ok (.iadd, 1) := by decide +kernel
theorem dX4_isOver_141 : decode cX4_isOver 141 = .ok (.putfield 164, 3) := by decide +kernel
theorem dX4_isOver_144 : decode cX4_isOver 144 = .ok (.aload_n 0, 1) := by decide +kernel
theorem dX4_isOver_145 : decode cX4_isOver 145 = .ok (.getfield 167, 3) := by decide +kernel
theorem dX4_isOver_148 : decode cX4_isOver 148 = .ok (.ifCond .ge 21, 3) := by decide +kernel
theorem dX4_isOver_151 : decode cX4_isOver 151 = .ok (.aload_n 0, 1) := by decide +kernel
theorem dX4_isOver_152 : decode cX4_isOver 152 = .ok (.aload_n 0, 1) := by decide +kernel
theorem dX4_isOver_153 : decode cX4_isOver 153 = .ok (.getfield 167, 3) := by decide +kernel
theorem dX4_isOver_156 : decode cX4_isOver 156 = .ok (.ineg, 1) := by decide +kernel
theorem dX4_isOver_157 : decode cX4_isOver 157 = .ok (.putfield 167, 3) := by decide +kernel
theorem dX4_isOver_160 : decode cX4_isOver 160 = .ok (.aload_n 0, 1) := by decide +kernel
theorem dX4_isOver_161 : decode cX4_isOver 161 = .ok (.aload_n 0, 1) := by decide +kernel
theorem dX4_isOver_162 : decode cX4_isOver 162 = .ok (.getfield 164, 3) := by decide +kernel
theorem dX4_isOver_165 : decode cX4_isOver 165 = .ok (.ineg, 1) := by decide +kernel
theorem dX4_isOver_166 : decode cX4_isOver 166 = .ok (.putfield 164, 3) := by decide +kernel
theorem dX4_isOver_169 : decode cX4_isOver 169 = .ok (.iconst 1, 1) := by decide +kernel
theorem dX4_isOver_170 : decode cX4_isOver 170 = .ok (.ireturn, 1) := by decide +kernel
theorem dX4_common_0 : decode cX4_common 0 = .ok (.iload_n 0, 1) := by decide +kernel
theorem dX4_common_1 : decode cX4_common 1 = .ok (.istore_n 2, 1) := by decide +kernel
theorem dX4_common_2 : decode cX4_common 2 = .ok (.iload_n 1, 1) := by decide +kernel
theorem dX4_common_3 : decode cX4_common 3 = .ok (.istore_n 3, 1) := by decide +kernel
theorem dX4_common_4 : decode cX4_common 4 = .ok (.iload_n 3, 1) := by decide +kernel
theorem dX4_common_5 : decode cX4_common 5 = .ok (.ifCond .eq 16, 3) := by decide +kernel
theorem dX4_common_8 : decode cX4_common 8 = .ok (.iload_n 2, 1) := by decide +kernel
theorem dX4_common_9 : decode cX4_common 9 = .ok (.iload_n 3, 1) := by decide +kernel
theorem dX4_common_10 : decode cX4_common 10 = .ok (.irem, 1) := by decide +kernel
theorem dX4_common_11 : decode cX4_common 11 = .ok (.istore 4, 2) := by decide +kernel
theorem dX4_common_13 : decode cX4_common 13 = .ok (.iload_n 3, 1) := by decide +kernel
theorem dX4_common_14 : decode cX4_common 14 = .ok (.istore_n 2, 1) := by decide +kernel
theorem dX4_common_15 : decode cX4_common 15 = .ok (.iload 4, 2) := by decide +kernel
theorem dX4_common_17 : decode cX4_common 17 = .ok (.istore_n 3, 1) := by decide +kernel
theorem dX4_common_18 : decode cX4_common 18 = .ok (.goto (-14), 3) := by decide +kernel
theorem dX4_common_21 : decode cX4_common 21 = .ok (.iload_n 2, 1) := by decide +kernel
theorem dX4_common_22 : decode cX4_common 22 = .ok (.ireturn, 1) := by decide +kernel
theorem dX4_above_0 : decode cX4_above 0 = .ok (.iload_n 1, 1) := by decide +kernel
theorem dX4_above_1 : decode cX4_above 1 = .ok (.iconst 0, 1) := by decide +kernel
theorem dX4_above_2 : decode cX4_above 2 = .ok (.bipush 10, 2) := by decide +kernel
theorem dX4_above_4 : decode cX4_above 4 = .ok (.invokestatic 82, 3) := by decide +kernel
theorem dX4_above_7 : decode cX4_above 7 = .ok (.ifCond .eq 25, 3) := by decide +kernel
theorem dX4_above_10 : decode cX4_above 10 = .ok (.iload_n 2, 1) := by decide +kernel
theorem dX4_above_11 : decode cX4_above 11 = .ok (.sipush (-600), 3) := by decide +kernel
theorem dX4_above_14 : decode cX4_above 14 = .ok (.sipush 600, 3) := by decide +kernel
theorem dX4_above_17 : decode cX4_above 17 = .ok (.invokestatic 82, 3) := by decide +kernel
theorem dX4_above_20 : decode cX4_above 20 = .ok (.ifCond .eq 12, 3) := by decide +kernel
theorem dX4_above_23 : decode cX4_above 23 = .ok (.iload_n 3, 1) := by decide +kernel
theorem dX4_above_24 : decode cX4_above 24 = .ok (.iconst 0, 1) := by decide +kernel
theorem dX4_above_25 : decode cX4_above 25 = .ok (.iconst 2, 1) := by decide +kernel
theorem dX4_above_26 : decode cX4_above 26 = .ok (.invokestatic 82, 3) := by decide +kernel
theorem dX4_above_29 : decode cX4_above 29 = .ok (.ifCond .ne 6, 3) := by decide +kernel
theorem dX4_above_32 : decode cX4_above 32 = .ok (.bipush (-2), 2) := by decide +kernel
theorem dX4_above_34 : decode cX4_above 34 = .ok (.ireturn, 1) := by decide +kernel
theorem dX4_above_35 : decode cX4_above 35 = .ok (.aload_n 0, 1) := by decide +kernel
theorem dX4_above_36 : decode cX4_above 36 = .ok (.invokevirtual 100, 3) := by decide +kernel
theorem dX4_above_39 : decode cX4_above 39 = .ok (.bipush (-6), 2) := by decide +kernel
theorem dX4_above_41 : decode cX4_above 41 = .ok (.istore 4, 2) := by decide +kernel
theorem dX4_above_43 : decode cX4_above 43 = .ok (.iconst 0, 1) := by decide +kernel
theorem dX4_above_44 : decode cX4_above 44 = .ok (.istore 5, 2) := by decide +kernel
theorem dX4_above_46 : decode cX4_above 46 = .ok (.iconst 1, 1) := by decide +kernel
theorem dX4_above_47 : decode cX4_above 47 = .ok (.istore 6, 2) := by decide +kernel
theorem dX4_above_49 : decode cX4_above 49 = .ok (.iconst 0, 1) := by decide +kernel
theorem dX4_above_50 : decode cX4_above 50 = .ok (.istore 7, 2) := by decide +kernel
theorem dX4_above_52 : decode cX4_above 52 = .ok (.iload 7, 2) := by decide +kernel
theorem dX4_above_54 : decode cX4_above 54 = .ok (.aload_n 0, 1) := by decide +kernel
theorem dX4_above_55 : decode cX4_above 55 = .ok (.getfield 57, 3) := by decide +kernel
theorem dX4_above_58 : decode cX4_above 58 = .ok (.if_icmp .ge 63, 3) := by decide +kernel
theorem dX4_above_61 : decode cX4_above 61 = .ok (.aload_n 0, 1) := by decide +kernel
theorem dX4_above_62 : decode cX4_above 62 = .ok (.iload 7, 2) := by decide +kernel
theorem dX4_above_64 : decode cX4_above 64 = .ok (.iload_n 1, 1) := by decide +kernel
theorem dX4_above_65 : decode cX4_above 65 = .ok (.iload_n 2, 1) := by decide +kernel
theorem dX4_above_66 : decode cX4_above 66 = .ok (.invokevirtual 170, 3) := by decide +kernel
theorem dX4_above_69 : decode cX4_above 69 = .ok (.ifCond .eq 46, 3) := by decide +kernel
theorem dX4_above_72 : decode cX4_above 72 = .ok (.iload 4, 2) := by decide +kernel
theorem dX4_above_74 : decode cX4_above 74 = .ok (.ifCond .lt 25, 3) := by decide +kernel
theorem dX4_above_77 : decode cX4_above 77 = .ok (.aload_n 0, 1) := by decide +kernel
theorem dX4_above_78 : decode cX4_above 78 = .ok (.getfield 164, 3) := by decide +kernel
theorem dX4_above_81 : decode cX4_above 81 = .ok (.i2l, 1) := by decide +kernel
theorem dX4_above_82 : decode cX4_above 82 = .ok (.iload 6, 2) := by decide +kernel
theorem dX4_above_84 : decode cX4_above 84 = .ok (.i2l, 1) := by decide +kernel
theorem dX4_above_85 : decode cX4_above 85 = .ok (.lmul, 1) := by decide +kernel
theorem dX4_above_86 : decode cX4_above 86 = .ok (.iload 5, 2) := by decide +kernel
theorem dX4_above_88 : decode cX4_above 88 = .ok (.i2l, 1) := by decide +kernel
theorem dX4_above_89 : decode cX4_above 89 = .ok (.aload_n 0, 1) := by decide +kernel
theorem dX4_above_90 : decode cX4_above 90 = .ok (.getfield 167, 3) := by decide +kernel
theorem dX4_above_93 : decode cX4_above 93 = .ok (.i2l, 1) := by decide +kernel
theorem dX4_above_94 : decode cX4_above 94 = .ok (.lmul, 1) := by decide +kernel
theorem dX4_above_95 : decode cX4_above 95 = .ok (.lcmp, 1) := by decide +kernel
theorem dX4_above_96 : decode cX4_above 96 = .ok (.ifCond .le 19, 3) := by decide +kernel
theorem dX4_above_99 : decode cX4_above 99 = .ok (.iload 7, 2) := by decide +kernel
theorem dX4_above_101 : decode cX4_above 101 = .ok (.istore 4, 2) := by decide +kernel
theorem dX4_above_103 : decode cX4_above 103 = .ok (.aload_n 0, 1) := by decide +kernel
theorem dX4_above_104 : decode cX4_above 104 = .ok (.getfield 164, 3) := by decide +kernel
theorem dX4_above_107 : decode cX4_above 107 = .ok (.istore 5, 2) := by decide +kernel
theorem dX4_above_109 : decode cX4_above 109 = .ok (.aload_n 0, 1) := by decide +kernel
theorem dX4_above_110 : decode cX4_above 110 = .ok (.getfield 167, 3) := by decide +kernel
theorem dX4_above_113 : decode cX4_above 113 = .ok (.istore 6, 2) := by decide +kernel
theorem dX4_above_115 : decode cX4_above 115 = .ok (.iinc 7 1, 3) := by decide +kernel
theorem dX4_above_118 : decode cX4_above 118 = .ok (.goto (-66), 3) := by decide +kernel
theorem dX4_above_121 : decode cX4_above 121 = .ok (.iload 4, 2) := by decide +kernel
theorem dX4_above_123 : decode cX4_above 123 = .ok (.ifCond .lt 7, 3) := by decide +kernel
theorem dX4_above_126 : decode cX4_above 126 = .ok (.iload_n 3, 1) := by decide +kernel
theorem dX4_above_127 : decode cX4_above 127 = .ok (.ifCond .ne 6, 3) := by decide +kernel
theorem dX4_above_130 : decode cX4_above 130 = .ok (.iload 4, 2) := by decide +kernel
theorem dX4_above_132 : decode cX4_above 132 = .ok (.ireturn, 1) := by decide +kernel
theorem dX4_above_133 : decode cX4_above 133 = .ok (.iload 6, 2) := by decide +kernel
theorem dX4_above_135 : decode cX4_above 135 = .ok (.iload 5, 2) := by decide +kernel
theorem dX4_above_137 : decode cX4_above 137 = .ok (.invokestatic 173, 3) := by decide +kernel
theorem dX4_above_140 : decode cX4_above 140 = .ok (.istore 7, 2) := by decide +kernel
theorem dX4_above_142 : decode cX4_above 142 = .ok (.iload_n 3, 1) := by decide +kernel
theorem dX4_above_143 : decode cX4_above 143 = .ok (.iconst 1, 1) := by decide +kernel
theorem dX4_above_144 : decode cX4_above 144 = .ok (.if_icmp .ne 14, 3) := by decide +kernel
theorem dX4_above_147 : decode cX4_above 147 = .ok (.iload 5, 2) := by decide +kernel
theorem dX4_above_149 : decode cX4_above 149 = .ok (.iload 7, 2) := by decide +kernel
theorem dX4_above_151 : decode cX4_above 151 = .ok (.idiv, 1) := by decide +kernel
theorem dX4_above_152 : decode cX4_above 152 = .ok (.ldc 176, 2) := by decide +kernel
theorem dX4_above_154 : decode cX4_above 154 = .ok (.iadd, 1) := by decide +kernel
theorem dX4_above_155 : decode cX4_above 155 = .ok (.goto 8, 3) := by decide +kernel
theorem dX4_above_158 : decode cX4_above 158 = .ok (.iload 6, 2) := by decide +kernel
theorem dX4_above_160 : decode cX4_above 160 = .ok (.iload 7, 2) := by decide +kernel
theorem dX4_above_162 : decode cX4_above 162 = .ok (.idiv, 1) := by decide +kernel
theorem dX4_above_163 : decode cX4_above 163 = .ok (.ireturn, 1) := by decide +kernel
theorem dX4_apart_0 : decode cX4_apart 0 = .ok (.aload_n 0, 1) := by decide +kernel
theorem dX4_apart_1 : decode cX4_apart 1 = .ok (.invokevirtual 100, 3) := by decide +kernel
theorem dX4_apart_4 : decode cX4_apart 4 = .ok (.aload_n 0, 1) := by decide +kernel
theorem dX4_apart_5 : decode cX4_apart 5 = .ok (.iload_n 1, 1) := by decide +kernel
theorem dX4_apart_6 : decode cX4_apart 6 = .ok (.invokevirtual 111, 3) := by decide +kernel
theorem dX4_apart_9 : decode cX4_apart 9 = .ok (.ifCond .eq 11, 3) := by decide +kernel
theorem dX4_apart_12 : decode cX4_apart 12 = .ok (.aload_n 0, 1) := by decide +kernel
theorem dX4_apart_13 : decode cX4_apart 13 = .ok (.iload_n 2, 1) := by decide +kernel
theorem dX4_apart_14 : decode cX4_apart 14 = .ok (.invokevirtual 111, 3) := by decide +kernel
theorem dX4_apart_17 : decode cX4_apart 17 = .ok (.ifCond .ne 5, 3) := by decide +kernel
theorem dX4_apart_20 : decode cX4_apart 20 = .ok (.iconst (-1), 1) := by decide +kernel
theorem dX4_apart_21 : decode cX4_apart 21 = .ok (.ireturn, 1) := by decide +kernel
theorem dX4_apart_22 : decode cX4_apart 22 = .ok (.iload_n 3, 1) := by decide +kernel
theorem dX4_apart_23 : decode cX4_apart 23 = .ok (.iconst 0, 1) := by decide +kernel
theorem dX4_apart_24 : decode cX4_apart 24 = .ok (.bipush 10, 2) := by decide +kernel
theorem dX4_apart_26 : decode cX4_apart 26 = .ok (.invokestatic 82, 3) := by decide +kernel
theorem dX4_apart_29 : decode cX4_apart 29 = .ok (.ifCond .ne 6, 3) := by decide +kernel
theorem dX4_apart_32 : decode cX4_apart 32 = .ok (.bipush (-2), 2) := by decide +kernel
theorem dX4_apart_34 : decode cX4_apart 34 = .ok (.ireturn, 1) := by decide +kernel
theorem dX4_apart_35 : decode cX4_apart 35 = .ok (.iload_n 3, 1) := by decide +kernel
theorem dX4_apart_36 : decode cX4_apart 36 = .ok (.aload_n 0, 1) := by decide +kernel
theorem dX4_apart_37 : decode cX4_apart 37 = .ok (.getfield 23, 3) := by decide +kernel
theorem dX4_apart_40 : decode cX4_apart 40 = .ok (.iload_n 1, 1) := by decide +kernel
theorem dX4_apart_41 : decode cX4_apart 41 = .ok (.iaload, 1) := by decide +kernel
theorem dX4_apart_42 : decode cX4_apart 42 = .ok (.aload_n 0, 1) := by decide +kernel
theorem dX4_apart_43 : decode cX4_apart 43 = .ok (.getfield 26, 3) := by decide +kernel
theorem dX4_apart_46 : decode cX4_apart 46 = .ok (.iload_n 1, 1) := by decide +kernel
theorem dX4_apart_47 : decode cX4_apart 47 = .ok (.iaload, 1) := by decide +kernel
theorem dX4_apart_48 : decode cX4_apart 48 = .ok (.invokestatic 158, 3) := by decide +kernel
theorem dX4_apart_51 : decode cX4_apart 51 = .ok (.iload_n 3, 1) := by decide +kernel
theorem dX4_apart_52 : decode cX4_apart 52 = .ok (.aload_n 0, 1) := by decide +kernel
theorem dX4_apart_53 : decode cX4_apart 53 = .ok (.getfield 23, 3) := by decide +kernel
theorem dX4_apart_56 : decode cX4_apart 56 = .ok (.iload_n 2, 1) := by decide +kernel
theorem dX4_apart_57 : decode cX4_apart 57 = .ok (.iaload, 1) := by decide +kernel
theorem dX4_apart_58 : decode cX4_apart 58 = .ok (.aload_n 0, 1) := by decide +kernel
theorem dX4_apart_59 : decode cX4_apart 59 = .ok (.getfield 26, 3) := by decide +kernel
theorem dX4_apart_62 : decode cX4_apart 62 = .ok (.iload_n 2, 1) := by decide +kernel
theorem dX4_apart_63 : decode cX4_apart 63 = .ok (.iaload, 1) := by decide +kernel
theorem dX4_apart_64 : decode cX4_apart 64 = .ok (.invokestatic 158, 3) := by decide +kernel
theorem dX4_apart_67 : decode cX4_apart 67 = .ok (.isub, 1) := by decide +kernel
theorem dX4_apart_68 : decode cX4_apart 68 = .ok (.istore 4, 2) := by decide +kernel
theorem dX4_apart_70 : decode cX4_apart 70 = .ok (.iload_n 3, 1) := by decide +kernel
theorem dX4_apart_71 : decode cX4_apart 71 = .ok (.aload_n 0, 1) := by decide +kernel
theorem dX4_apart_72 : decode cX4_apart 72 = .ok (.getfield 26, 3) := by decide +kernel
theorem dX4_apart_75 : decode cX4_apart 75 = .ok (.iload_n 1, 1) := by decide +kernel
theorem dX4_apart_76 : decode cX4_apart 76 = .ok (.iaload, 1) := by decide +kernel
theorem dX4_apart_77 : decode cX4_apart 77 = .ok (.invokestatic 161, 3) := by decide +kernel
theorem dX4_apart_80 : decode cX4_apart 80 = .ok (.iload_n 3, 1) := by decide +kernel
theorem dX4_apart_81 : decode cX4_apart 81 = .ok (.aload_n 0, 1) := by decide +kernel
theorem dX4_apart_82 : decode cX4_apart 82 = .ok (.getfield 26, 3) := by decide +kernel
theorem dX4_apart_85 : decode cX4_apart 85 = .ok (.iload_n 2, 1) := by decide +kernel
theorem dX4_apart_86 : decode cX4_apart 86 = .ok (.iaload, 1) := by decide +kernel
theorem dX4_apart_87 : decode cX4_apart 87 = .ok (.invokestatic 161, 3) := by decide +kernel
theorem dX4_apart_90 : decode cX4_apart 90 = .ok (.isub, 1) := by decide +kernel
theorem dX4_apart_91 : decode cX4_apart 91 = .ok (.istore 5, 2) := by decide +kernel
theorem dX4_apart_93 : decode cX4_apart 93 = .ok (.iload 4, 2) := by decide +kernel
theorem dX4_apart_95 : decode cX4_apart 95 = .ok (.iload 4, 2) := by decide +kernel
theorem dX4_apart_97 : decode cX4_apart 97 = .ok (.imul, 1) := by decide +kernel
theorem dX4_apart_98 : decode cX4_apart 98 = .ok (.iload 5, 2) := by decide +kernel
theorem dX4_apart_100 : decode cX4_apart 100 = .ok (.iload 5, 2) := by decide +kernel
theorem dX4_apart_102 : decode cX4_apart 102 = .ok (.imul, 1) := by decide +kernel
theorem dX4_apart_103 : decode cX4_apart 103 = .ok (.iadd, 1) := by decide +kernel
theorem dX4_apart_104 : decode cX4_apart 104 = .ok (.ireturn, 1) := by decide +kernel
theorem dX4_image_0 : decode cX4_image 0 = .ok (.iload_n 1, 1) := by decide +kernel
theorem dX4_image_1 : decode cX4_image 1 = .ok (.iconst 0, 1) := by decide +kernel
theorem dX4_image_2 : decode cX4_image 2 = .ok (.iconst 1, 1) := by decide +kernel
theorem dX4_image_3 : decode cX4_image 3 = .ok (.invokestatic 82, 3) := by decide +kernel
theorem dX4_image_6 : decode cX4_image 6 = .ok (.ifCond .ne 6, 3) := by decide +kernel
theorem dX4_image_9 : decode cX4_image 9 = .ok (.bipush (-2), 2) := by decide +kernel
theorem dX4_image_11 : decode cX4_image 11 = .ok (.ireturn, 1) := by decide +kernel
theorem dX4_image_12 : decode cX4_image 12 = .ok (.iconst 0, 1) := by decide +kernel
theorem dX4_image_13 : decode cX4_image 13 = .ok (.istore_n 2, 1) := by decide +kernel
theorem dX4_image_14 : decode cX4_image 14 = .ok (.iload_n 2, 1) := by decide +kernel
theorem dX4_image_15 : decode cX4_image 15 = .ok (.bipush 20, 2) := by decide +kernel
theorem dX4_image_17 : decode cX4_image 17 = .ok (.if_icmp .ge 26, 3) := by decide +kernel
theorem dX4_image_20 : decode cX4_image 20 = .ok (.aload_n 0, 1) := by decide +kernel
theorem dX4_image_21 : decode cX4_image 21 = .ok (.getfield 13, 3) := by decide +kernel
theorem dX4_image_24 : decode cX4_image 24 = .ok (.bipush 20, 2) := by decide +kernel
theorem dX4_image_26 : decode cX4_image 26 = .ok (.iload_n 1, 1) := by decide +kernel
theorem dX4_image_27 : decode cX4_image 27 = .ok (.imul, 1) := by decide +kernel
theorem dX4_image_28 : decode cX4_image 28 = .ok (.iload_n 2, 1) := by decide +kernel
theorem dX4_image_29 : decode cX4_image 29 = .ok (.iadd, 1) := by decide +kernel
theorem dX4_image_30 : decode cX4_image 30 = .ok (.aload_n 0, 1) := by decide +kernel
theorem dX4_image_31 : decode cX4_image 31 = .ok (.getfield 7, 3) := by decide +kernel
theorem dX4_image_34 : decode cX4_image 34 = .ok (.iload_n 2, 1) := by decide +kernel
theorem dX4_image_35 : decode cX4_image 35 = .ok (.iaload, 1) := by decide +kernel
theorem dX4_image_36 : decode cX4_image 36 = .ok (.iastore, 1) := by decide +kernel
theorem dX4_image_37 : decode cX4_image 37 = .ok (.iinc 2 1, 3) := by decide +kernel
theorem dX4_image_40 : decode cX4_image 40 = .ok (.goto (-26), 3) := by decide +kernel
theorem dX4_image_43 : decode cX4_image 43 = .ok (.aload_n 0, 1) := by decide +kernel
theorem dX4_image_44 : decode cX4_image 44 = .ok (.getfield 16, 3) := by decide +kernel
theorem dX4_image_47 : decode cX4_image 47 = .ok (.iload_n 1, 1) := by decide +kernel
theorem dX4_image_48 : decode cX4_image 48 = .ok (.iconst 1, 1) := by decide +kernel
theorem dX4_image_49 : decode cX4_image 49 = .ok (.bastore, 1) := by decide +kernel
theorem dX4_image_50 : decode cX4_image 50 = .ok (.iconst 1, 1) := by decide +kernel
theorem dX4_image_51 : decode cX4_image 51 = .ok (.ireturn, 1) := by decide +kernel
theorem dX4_restore_0 : decode cX4_restore 0 = .ok (.iload_n 1, 1) := by decide +kernel
theorem dX4_restore_1 : decode cX4_restore 1 = .ok (.iconst 0, 1) := by decide +kernel
theorem dX4_restore_2 : decode cX4_restore 2 = .ok (.iconst 1, 1) := by decide +kernel
theorem dX4_restore_3 : decode cX4_restore 3 = .ok (.invokestatic 82, 3) := by decide +kernel
theorem dX4_restore_6 : decode cX4_restore 6 = .ok (.ifCond .ne 6, 3) := by decide +kernel
theorem dX4_restore_9 : decode cX4_restore 9 = .ok (.bipush (-2), 2) := by decide +kernel
theorem dX4_restore_11 : decode cX4_restore 11 = .ok (.ireturn, 1) := by decide +kernel
theorem dX4_restore_12 : decode cX4_restore 12 = .ok (.aload_n 0, 1) := by decide +kernel
theorem dX4_restore_13 : decode cX4_restore 13 = .ok (.getfield 16, 3) := by decide +kernel
theorem dX4_restore_16 : decode cX4_restore 16 = .ok (.iload_n 1, 1) := by decide +kernel
theorem dX4_restore_17 : decode cX4_restore 17 = .ok (.baload, 1) := by decide +kernel
theorem dX4_restore_18 : decode cX4_restore 18 = .ok (.ifCond .ne 6, 3) := by decide +kernel
theorem dX4_restore_21 : decode cX4_restore 21 = .ok (.bipush (-3), 2) := by decide +kernel
theorem dX4_restore_23 : decode cX4_restore 23 = .ok (.ireturn, 1) := by decide +kernel
theorem dX4_restore_24 : decode cX4_restore 24 = .ok (.iconst 0, 1) := by decide +kernel
theorem dX4_restore_25 : decode cX4_restore 25 = .ok (.istore_n 2, 1) := by decide +kernel
theorem dX4_restore_26 : decode cX4_restore 26 = .ok (.iload_n 2, 1) := by decide +kernel
theorem dX4_restore_27 : decode cX4_restore 27 = .ok (.bipush 20, 2) := by decide +kernel
theorem dX4_restore_29 : decode cX4_restore 29 = .ok (.if_icmp .ge 26, 3) := by decide +kernel
theorem dX4_restore_32 : decode cX4_restore 32 = .ok (.aload_n 0, 1) := by decide +kernel
theorem dX4_restore_33 : decode cX4_restore 33 = .ok (.getfield 7, 3) := by decide +kernel
theorem dX4_restore_36 : decode cX4_restore 36 = .ok (.iload_n 2, 1) := by decide +kernel
theorem dX4_restore_37 : decode cX4_restore 37 = .ok (.aload_n 0, 1) := by decide +kernel
theorem dX4_restore_38 : decode cX4_restore 38 = .ok (.getfield 13, 3) := by decide +kernel
theorem dX4_restore_41 : decode cX4_restore 41 = .ok (.bipush 20, 2) := by decide +kernel
theorem dX4_restore_43 : decode cX4_restore 43 = .ok (.iload_n 1, 1) := by decide +kernel
theorem dX4_restore_44 : decode cX4_restore 44 = .ok (.imul, 1) := by decide +kernel
theorem dX4_restore_45 : decode cX4_restore 45 = .ok (.iload_n 2, 1) := by decide +kernel
theorem dX4_restore_46 : decode cX4_restore 46 = .ok (.iadd, 1) := by decide +kernel
theorem dX4_restore_47 : decode cX4_restore 47 = .ok (.iaload, 1) := by decide +kernel
theorem dX4_restore_48 : decode cX4_restore 48 = .ok (.iastore, 1) := by decide +kernel
theorem dX4_restore_49 : decode cX4_restore 49 = .ok (.iinc 2 1, 3) := by decide +kernel
theorem dX4_restore_52 : decode cX4_restore 52 = .ok (.goto (-26), 3) := by decide +kernel
theorem dX4_restore_55 : decode cX4_restore 55 = .ok (.iconst 1, 1) := by decide +kernel
theorem dX4_restore_56 : decode cX4_restore 56 = .ok (.ireturn, 1) := by decide +kernel
theorem dX4_sizes_0 : decode cX4_sizes 0 = .ok (.iconst 0, 1) := by decide +kernel
theorem dX4_sizes_1 : decode cX4_sizes 1 = .ok (.istore_n 1, 1) := by decide +kernel
theorem dX4_sizes_2 : decode cX4_sizes 2 = .ok (.iconst 0, 1) := by decide +kernel
theorem dX4_sizes_3 : decode cX4_sizes 3 = .ok (.istore_n 2, 1) := by decide +kernel
theorem dX4_sizes_4 : decode cX4_sizes 4 = .ok (.iload_n 2, 1) := by decide +kernel
theorem dX4_sizes_5 : decode cX4_sizes 5 = .ok (.aload_n 0, 1) := by decide +kernel
theorem dX4_sizes_6 : decode cX4_sizes 6 = .ok (.getfield 7, 3) := by decide +kernel
theorem dX4_sizes_9 : decode cX4_sizes 9 = .ok (.iconst 1, 1) := by decide +kernel
theorem dX4_sizes_10 : decode cX4_sizes 10 = .ok (.iaload, 1) := by decide +kernel
theorem dX4_sizes_11 : decode cX4_sizes 11 = .ok (.if_icmp .ge 37, 3) := by decide +kernel
theorem dX4_sizes_14 : decode cX4_sizes 14 = .ok (.iload_n 1, 1) := by decide +kernel
theorem dX4_sizes_15 : decode cX4_sizes 15 = .ok (.aload_n 0, 1) := by decide +kernel
theorem dX4_sizes_16 : decode cX4_sizes 16 = .ok (.getfield 7, 3) := by decide +kernel
theorem dX4_sizes_19 : decode cX4_sizes 19 = .ok (.iconst 2, 1) := by decide +kernel
theorem dX4_sizes_20 : decode cX4_sizes 20 = .ok (.iconst 3, 1) := by decide +kernel
theorem dX4_sizes_21 : decode cX4_sizes 21 = .ok (.iload_n 2, 1) := by decide +kernel
theorem dX4_sizes_22 : decode cX4_sizes 22 = .ok (.imul, 1) := by decide +kernel
theorem dX4_sizes_23 : decode cX4_sizes 23 = .ok (.iadd, 1) := by decide +kernel
theorem dX4_sizes_24 : decode cX4_sizes 24 = .ok (.iconst 1, 1) := by decide +kernel
theorem dX4_sizes_25 : decode cX4_sizes 25 = .ok (.iadd, 1) := by decide +kernel
theorem dX4_sizes_26 : decode cX4_sizes 26 = .ok (.iaload, 1) := by decide +kernel
theorem dX4_sizes_27 : decode cX4_sizes 27 = .ok (.aload_n 0, 1) := by decide +kernel
theorem dX4_sizes_28 : decode cX4_sizes 28 = .ok (.getfield 7, 3) := by decide +kernel
theorem dX4_sizes_31 : decode cX4_sizes 31 = .ok (.iconst 2, 1) := by decide +kernel
theorem dX4_sizes_32 : decode cX4_sizes 32 = .ok (.iconst 3, 1) := by decide +kernel
theorem dX4_sizes_33 : decode cX4_sizes 33 = .ok (.iload_n 2, 1) := by decide +kernel
theorem dX4_sizes_34 : decode cX4_sizes 34 = .ok (.imul, 1) := by decide +kernel
theorem dX4_sizes_35 : decode cX4_sizes 35 = .ok (.iadd, 1) := by decide +kernel
theorem dX4_sizes_36 : decode cX4_sizes 36 = .ok (.iconst 2, 1) := by decide +kernel
theorem dX4_sizes_37 : decode cX4_sizes 37 = .ok (.iadd, 1) := by decide +kernel
theorem dX4_sizes_38 : decode cX4_sizes 38 = .ok (.iaload, 1) := by decide +kernel
theorem dX4_sizes_39 : decode cX4_sizes 39 = .ok (.imul, 1) := by decide +kernel
theorem dX4_sizes_40 : decode cX4_sizes 40 = .ok (.iadd, 1) := by decide +kernel
theorem dX4_sizes_41 : decode cX4_sizes 41 = .ok (.istore_n 1, 1) := by decide +kernel
theorem dX4_sizes_42 : decode cX4_sizes 42 = .ok (.iinc 2 1, 3) := by decide +kernel
theorem dX4_sizes_45 : decode cX4_sizes 45 = .ok (.goto (-41), 3) := by decide +kernel
theorem dX4_sizes_48 : decode cX4_sizes 48 = .ok (.iload_n 1, 1) := by decide +kernel
theorem dX4_sizes_49 : decode cX4_sizes 49 = .ok (.ireturn, 1) := by decide +kernel
theorem dX4_places_0 : decode cX4_places 0 = .ok (.iconst 0, 1) := by decide +kernel
theorem dX4_places_1 : decode cX4_places 1 = .ok (.istore_n 1, 1) := by decide +kernel
theorem dX4_places_2 : decode cX4_places 2 = .ok (.iconst 0, 1) := by decide +kernel
theorem dX4_places_3 : decode cX4_places 3 = .ok (.istore_n 2, 1) := by decide +kernel
theorem dX4_places_4 : decode cX4_places 4 = .ok (.iload_n 2, 1) := by decide +kernel
theorem dX4_places_5 : decode cX4_places 5 = .ok (.sipush 169, 3) := by decide +kernel
theorem dX4_places_8 : decode cX4_places 8 = .ok (.if_icmp .ge 26, 3) := by decide +kernel
theorem dX4_places_11 : decode cX4_places 11 = .ok (.iload_n 1, 1) := by decide +kernel
theorem dX4_places_12 : decode cX4_places 12 = .ok (.aload_n 0, 1) := by decide +kernel
theorem dX4_places_13 : decode cX4_places 13 = .ok (.getfield 50, 3) := by decide +kernel
theorem dX4_places_16 : decode cX4_places 16 = .ok (.iload_n 2, 1) := by decide +kernel
theorem dX4_places_17 : decode cX4_places 17 = .ok (.iaload, 1) := by decide +kernel
theorem dX4_places_18 : decode cX4_places 18 = .ok (.ifCond .le 7, 3) := by decide +kernel
theorem dX4_places_21 : decode cX4_places 21 = .ok (.iconst 1, 1) := by decide +kernel
theorem dX4_places_22 : decode cX4_places 22 = .ok (.goto 4, 3) := by decide +kernel
theorem dX4_places_25 : decode cX4_places 25 = .ok (.iconst 0, 1) := by decide +kernel
theorem dX4_places_26 : decode cX4_places 26 = .ok (.iadd, 1) := by decide +kernel
theorem dX4_places_27 : decode cX4_places 27 = .ok (.istore_n 1, 1) := by decide +kernel
theorem dX4_places_28 : decode cX4_places 28 = .ok (.iinc 2 1, 3) := by decide +kernel
theorem dX4_places_31 : decode cX4_places 31 = .ok (.goto (-27), 3) := by decide +kernel
theorem dX4_places_34 : decode cX4_places 34 = .ok (.iload_n 1, 1) := by decide +kernel
theorem dX4_places_35 : decode cX4_places 35 = .ok (.ireturn, 1) := by decide +kernel
theorem dX4_count_0 : decode cX4_count 0 = .ok (.aload_n 0, 1) := by decide +kernel
theorem dX4_count_1 : decode cX4_count 1 = .ok (.invokevirtual 100, 3) := by decide +kernel
theorem dX4_count_4 : decode cX4_count 4 = .ok (.iload_n 1, 1) := by decide +kernel
theorem dX4_count_5 : decode cX4_count 5 = .ok (.tableswitch 107 0 6 #[43, 50, 55, 60, 67, 72, 77], 43) := by decide +kernel
theorem dX4_count_48 : decode cX4_count 48 = .ok (.aload_n 0, 1) := by decide +kernel
theorem dX4_count_49 : decode cX4_count 49 = .ok (.getfield 7, 3) := by decide +kernel
theorem dX4_count_52 : decode cX4_count 52 = .ok (.iconst 1, 1) := by decide +kernel
theorem dX4_count_53 : decode cX4_count 53 = .ok (.iaload, 1) := by decide +kernel
theorem dX4_count_54 : decode cX4_count 54 = .ok (.ireturn, 1) := by decide +kernel
theorem dX4_count_55 : decode cX4_count 55 = .ok (.aload_n 0, 1) := by decide +kernel
theorem dX4_count_56 : decode cX4_count 56 = .ok (.getfield 57, 3) := by decide +kernel
theorem dX4_count_59 : decode cX4_count 59 = .ok (.ireturn, 1) := by decide +kernel
theorem dX4_count_60 : decode cX4_count 60 = .ok (.aload_n 0, 1) := by decide +kernel
theorem dX4_count_61 : decode cX4_count 61 = .ok (.getfield 65, 3) := by decide +kernel
theorem dX4_count_64 : decode cX4_count 64 = .ok (.ireturn, 1) := by decide +kernel
theorem dX4_count_65 : decode cX4_count 65 = .ok (.aload_n 0, 1) := by decide +kernel
theorem dX4_count_66 : decode cX4_count 66 = .ok (.getfield 7, 3) := by decide +kernel
theorem dX4_count_69 : decode cX4_count 69 = .ok (.iconst 0, 1) := by decide +kernel
theorem dX4_count_70 : decode cX4_count 70 = .ok (.iaload, 1) := by decide +kernel
theorem dX4_count_71 : decode cX4_count 71 = .ok (.ireturn, 1) := by decide +kernel
theorem dX4_count_72 : decode cX4_count 72 = .ok (.aload_n 0, 1) := by decide +kernel
theorem dX4_count_73 : decode cX4_count 73 = .ok (.invokevirtual 177, 3) := by decide +kernel
theorem dX4_count_76 : decode cX4_count 76 = .ok (.ireturn, 1) := by decide +kernel
theorem dX4_count_77 : decode cX4_count 77 = .ok (.aload_n 0, 1) := by decide +kernel
theorem dX4_count_78 : decode cX4_count 78 = .ok (.invokevirtual 181, 3) := by decide +kernel
theorem dX4_count_81 : decode cX4_count 81 = .ok (.ireturn, 1) := by decide +kernel
theorem dX4_count_82 : decode cX4_count 82 = .ok (.aload_n 0, 1) := by decide +kernel
theorem dX4_count_83 : decode cX4_count 83 = .ok (.getfield 16, 3) := by decide +kernel
theorem dX4_count_86 : decode cX4_count 86 = .ok (.iconst 0, 1) := by decide +kernel
theorem dX4_count_87 : decode cX4_count 87 = .ok (.baload, 1) := by decide +kernel
theorem dX4_count_88 : decode cX4_count 88 = .ok (.ifCond .eq 7, 3) := by decide +kernel
theorem dX4_count_91 : decode cX4_count 91 = .ok (.iconst 1, 1) := by decide +kernel
theorem dX4_count_92 : decode cX4_count 92 = .ok (.goto 4, 3) := by decide +kernel
theorem dX4_count_95 : decode cX4_count 95 = .ok (.iconst 0, 1) := by decide +kernel
theorem dX4_count_96 : decode cX4_count 96 = .ok (.aload_n 0, 1) := by decide +kernel
theorem dX4_count_97 : decode cX4_count 97 = .ok (.getfield 16, 3) := by decide +kernel
theorem dX4_count_100 : decode cX4_count 100 = .ok (.iconst 1, 1) := by decide +kernel
theorem dX4_count_101 : decode cX4_count 101 = .ok (.baload, 1) := by decide +kernel
theorem dX4_count_102 : decode cX4_count 102 = .ok (.ifCond .eq 7, 3) := by decide +kernel
theorem dX4_count_105 : decode cX4_count 105 = .ok (.iconst 2, 1) := by decide +kernel
theorem dX4_count_106 : decode cX4_count 106 = .ok (.goto 4, 3) := by decide +kernel
theorem dX4_count_109 : decode cX4_count 109 = .ok (.iconst 0, 1) := by decide +kernel
theorem dX4_count_110 : decode cX4_count 110 = .ok (.iadd, 1) := by decide +kernel
theorem dX4_count_111 : decode cX4_count 111 = .ok (.ireturn, 1) := by decide +kernel
theorem dX4_count_112 : decode cX4_count 112 = .ok (.bipush (-2), 2) := by decide +kernel
theorem dX4_count_114 : decode cX4_count 114 = .ok (.ireturn, 1) := by decide +kernel
