theorem dX0_init_0 : decode cX0_init 0 = .ok (.aload_n 0, 1) := by decide +kernel
theorem dX0_init_1 : decode cX0_init 1 = .ok (.invokespecial 3, 3) := by decide +kernel
theorem dX0_init_4 : decode cX0_init 4 = .ok (.aload_n 0, 1) := by decide +kernel
theorem dX0_init_5 : decode cX0_init 5 = .ok (.bipush 6, 2) := by decide +kernel
theorem dX0_init_7 : decode cX0_init 7 = .ok (.newarray .int, 2) := by decide +kernel
theorem dX0_init_9 : decode cX0_init 9 = .ok (.putfield 9, 3) := by decide +kernel
theorem dX0_init_12 : decode cX0_init 12 = .ok (.aload_n 0, 1) := by decide +kernel
theorem dX0_init_13 : decode cX0_init 13 = .ok (.bipush 6, 2) := by decide +kernel
theorem dX0_init_15 : decode cX0_init 15 = .ok (.newarray .int, 2) := by decide +kernel
theorem dX0_init_17 : decode cX0_init 17 = .ok (.putfield 15, 3) := by decide +kernel
theorem dX0_init_20 : decode cX0_init 20 = .ok (.aload_n 0, 1) := by decide +kernel
theorem dX0_init_21 : decode cX0_init 21 = .ok (.bipush 6, 2) := by decide +kernel
theorem dX0_init_23 : decode cX0_init 23 = .ok (.newarray .int, 2) := by decide +kernel
theorem dX0_init_25 : decode cX0_init 25 = .ok (.putfield 18, 3) := by decide +kernel
theorem dX0_init_28 : decode cX0_init 28 = .ok (.aload_n 0, 1) := by decide +kernel
theorem dX0_init_29 : decode cX0_init 29 = .ok (.bipush 14, 2) := by decide +kernel
theorem dX0_init_31 : decode cX0_init 31 = .ok (.newarray .int, 2) := by decide +kernel
theorem dX0_init_33 : decode cX0_init 33 = .ok (.putfield 21, 3) := by decide +kernel
theorem dX0_init_36 : decode cX0_init 36 = .ok (.aload_n 0, 1) := by decide +kernel
theorem dX0_init_37 : decode cX0_init 37 = .ok (.bipush 14, 2) := by decide +kernel
theorem dX0_init_39 : decode cX0_init 39 = .ok (.newarray .int, 2) := by decide +kernel
theorem dX0_init_41 : decode cX0_init 41 = .ok (.putfield 24, 3) := by decide +kernel
theorem dX0_init_44 : decode cX0_init 44 = .ok (.aload_n 0, 1) := by decide +kernel
theorem dX0_init_45 : decode cX0_init 45 = .ok (.bipush 14, 2) := by decide +kernel
theorem dX0_init_47 : decode cX0_init 47 = .ok (.newarray .int, 2) := by decide +kernel
theorem dX0_init_49 : decode cX0_init 49 = .ok (.putfield 27, 3) := by decide +kernel
theorem dX0_init_52 : decode cX0_init 52 = .ok (.aload_n 0, 1) := by decide +kernel
theorem dX0_init_53 : decode cX0_init 53 = .ok (.bipush 14, 2) := by decide +kernel
theorem dX0_init_55 : decode cX0_init 55 = .ok (.newarray .int, 2) := by decide +kernel
theorem dX0_init_57 : decode cX0_init 57 = .ok (.putfield 30, 3) := by decide +kernel
theorem dX0_init_60 : decode cX0_init 60 = .ok (.aload_n 0, 1) := by decide +kernel
theorem dX0_init_61 : decode cX0_init 61 = .ok (.bipush 31, 2) := by decide +kernel
theorem dX0_init_63 : decode cX0_init 63 = .ok (.newarray .int, 2) := by decide +kernel
theorem dX0_init_65 : decode cX0_init 65 = .ok (.putfield 33, 3) := by decide +kernel
theorem dX0_init_68 : decode cX0_init 68 = .ok (.aload_n 0, 1) := by decide +kernel
theorem dX0_init_69 : decode cX0_init 69 = .ok (.bipush 31, 2) := by decide +kernel
theorem dX0_init_71 : decode cX0_init 71 = .ok (.newarray .int, 2) := by decide +kernel
theorem dX0_init_73 : decode cX0_init 73 = .ok (.putfield 36, 3) := by decide +kernel
theorem dX0_init_76 : decode cX0_init 76 = .ok (.aload_n 0, 1) := by decide +kernel
theorem dX0_init_77 : decode cX0_init 77 = .ok (.bipush 31, 2) := by decide +kernel
theorem dX0_init_79 : decode cX0_init 79 = .ok (.newarray .int, 2) := by decide +kernel
theorem dX0_init_81 : decode cX0_init 81 = .ok (.putfield 39, 3) := by decide +kernel
theorem dX0_init_84 : decode cX0_init 84 = .ok (.aload_n 0, 1) := by decide +kernel
theorem dX0_init_85 : decode cX0_init 85 = .ok (.bipush 31, 2) := by decide +kernel
theorem dX0_init_87 : decode cX0_init 87 = .ok (.newarray .int, 2) := by decide +kernel
theorem dX0_init_89 : decode cX0_init 89 = .ok (.putfield 42, 3) := by decide +kernel
theorem dX0_init_92 : decode cX0_init 92 = .ok (.aload_n 0, 1) := by decide +kernel
theorem dX0_init_93 : decode cX0_init 93 = .ok (.bipush 26, 2) := by decide +kernel
theorem dX0_init_95 : decode cX0_init 95 = .ok (.newarray .int, 2) := by decide +kernel
theorem dX0_init_97 : decode cX0_init 97 = .ok (.putfield 45, 3) := by decide +kernel
theorem dX0_init_100 : decode cX0_init 100 = .ok (.aload_n 0, 1) := by decide +kernel
theorem dX0_init_101 : decode cX0_init 101 = .ok (.bipush 26, 2) := by decide +kernel
theorem dX0_init_103 : decode cX0_init 103 = .ok (.newarray .int, 2) := by decide +kernel
theorem dX0_init_105 : decode cX0_init 105 = .ok (.putfield 48, 3) := by decide +kernel
theorem dX0_init_108 : decode cX0_init 108 = .ok (.aload_n 0, 1) := by decide +kernel
theorem dX0_init_109 : decode cX0_init 109 = .ok (.bipush 8, 2) := by decide +kernel
theorem dX0_init_111 : decode cX0_init 111 = .ok (.invokevirtual 51, 3) := by decide +kernel
theorem dX0_init_114 : decode cX0_init 114 = .ok (.return_, 1) := by decide +kernel
theorem dX0_begin_0 : decode cX0_begin 0 = .ok (.aload_n 0, 1) := by decide +kernel
theorem dX0_begin_1 : decode cX0_begin 1 = .ok (.iload_n 1, 1) := by decide +kernel
theorem dX0_begin_2 : decode cX0_begin 2 = .ok (.putfield 55, 3) := by decide +kernel
theorem dX0_begin_5 : decode cX0_begin 5 = .ok (.aload_n 0, 1) := by decide +kernel
theorem dX0_begin_6 : decode cX0_begin 6 = .ok (.iconst 0, 1) := by decide +kernel
theorem dX0_begin_7 : decode cX0_begin 7 = .ok (.putfield 59, 3) := by decide +kernel
theorem dX0_begin_10 : decode cX0_begin 10 = .ok (.aload_n 0, 1) := by decide +kernel
theorem dX0_begin_11 : decode cX0_begin 11 = .ok (.iconst 0, 1) := by decide +kernel
theorem dX0_begin_12 : decode cX0_begin 12 = .ok (.iconst 0, 1) := by decide +kernel
theorem dX0_begin_13 : decode cX0_begin 13 = .ok (.iconst 0, 1) := by decide +kernel
theorem dX0_begin_14 : decode cX0_begin 14 = .ok (.iconst 0, 1) := by decide +kernel
theorem dX0_begin_15 : decode cX0_begin 15 = .ok (.iload_n 1, 1) := by decide +kernel
theorem dX0_begin_16 : decode cX0_begin 16 = .ok (.invokevirtual 62, 3) := by decide +kernel
theorem dX0_begin_19 : decode cX0_begin 19 = .ok (.aload_n 0, 1) := by decide +kernel
theorem dX0_begin_20 : decode cX0_begin 20 = .ok (.iconst 1, 1) := by decide +kernel
theorem dX0_begin_21 : decode cX0_begin 21 = .ok (.iconst 1, 1) := by decide +kernel
theorem dX0_begin_22 : decode cX0_begin 22 = .ok (.iconst 0, 1) := by decide +kernel
theorem dX0_begin_23 : decode cX0_begin 23 = .ok (.iconst 0, 1) := by decide +kernel
theorem dX0_begin_24 : decode cX0_begin 24 = .ok (.iload_n 1, 1) := by decide +kernel
theorem dX0_begin_25 : decode cX0_begin 25 = .ok (.invokevirtual 62, 3) := by decide +kernel
theorem dX0_begin_28 : decode cX0_begin 28 = .ok (.aload_n 0, 1) := by decide +kernel
theorem dX0_begin_29 : decode cX0_begin 29 = .ok (.iconst 0, 1) := by decide +kernel
theorem dX0_begin_30 : decode cX0_begin 30 = .ok (.iconst 0, 1) := by decide +kernel
theorem dX0_begin_31 : decode cX0_begin 31 = .ok (.iconst 0, 1) := by decide +kernel
theorem dX0_begin_32 : decode cX0_begin 32 = .ok (.iconst 1, 1) := by decide +kernel
theorem dX0_begin_33 : decode cX0_begin 33 = .ok (.iconst 1, 1) := by decide +kernel
theorem dX0_begin_34 : decode cX0_begin 34 = .ok (.invokevirtual 66, 3) := by decide +kernel
theorem dX0_begin_37 : decode cX0_begin 37 = .ok (.aload_n 0, 1) := by decide +kernel
theorem dX0_begin_38 : decode cX0_begin 38 = .ok (.invokevirtual 69, 3) := by decide +kernel
theorem dX0_begin_41 : decode cX0_begin 41 = .ok (.return_, 1) := by decide +kernel
theorem dX0_copyFrom_0 : decode cX0_copyFrom 0 = .ok (.aload_n 0, 1) := by decide +kernel
theorem dX0_copyFrom_1 : decode cX0_copyFrom 1 = .ok (.aload_n 1, 1) := by decide +kernel
theorem dX0_copyFrom_2 : decode cX0_copyFrom 2 = .ok (.getfield 55, 3) := by decide +kernel
theorem dX0_copyFrom_5 : decode cX0_copyFrom 5 = .ok (.invokevirtual 51, 3) := by decide +kernel
theorem dX0_copyFrom_8 : decode cX0_copyFrom 8 = .ok (.iconst 0, 1) := by decide +kernel
theorem dX0_copyFrom_9 : decode cX0_copyFrom 9 = .ok (.istore_n 2, 1) := by decide +kernel
theorem dX0_copyFrom_10 : decode cX0_copyFrom 10 = .ok (.iload_n 2, 1) := by decide +kernel
theorem dX0_copyFrom_11 : decode cX0_copyFrom 11 = .ok (.aload_n 1, 1) := by decide +kernel
theorem dX0_copyFrom_12 : decode cX0_copyFrom 12 = .ok (.getfield 59, 3) := by decide +kernel
theorem dX0_copyFrom_15 : decode cX0_copyFrom 15 = .ok (.if_icmp .ge 37, 3) := by decide +kernel
theorem dX0_copyFrom_18 : decode cX0_copyFrom 18 = .ok (.iload_n 2, 1) := by decide +kernel
theorem dX0_copyFrom_19 : decode cX0_copyFrom 19 = .ok (.bipush 6, 2) := by decide +kernel
theorem dX0_copyFrom_21 : decode cX0_copyFrom 21 = .ok (.if_icmp .ge 31, 3) := by decide +kernel
theorem dX0_copyFrom_24 : decode cX0_copyFrom 24 = .ok (.aload_n 0, 1) := by decide +kernel
theorem dX0_copyFrom_25 : decode cX0_copyFrom 25 = .ok (.aload_n 1, 1) := by decide +kernel
theorem dX0_copyFrom_26 : decode cX0_copyFrom 26 = .ok (.getfield 9, 3) := by decide +kernel
theorem dX0_copyFrom_29 : decode cX0_copyFrom 29 = .ok (.iload_n 2, 1) := by decide +kernel
theorem dX0_copyFrom_30 : decode cX0_copyFrom 30 = .ok (.iaload, 1) := by decide +kernel
theorem dX0_copyFrom_31 : decode cX0_copyFrom 31 = .ok (.aload_n 1, 1) := by decide +kernel
theorem dX0_copyFrom_32 : decode cX0_copyFrom 32 = .ok (.getfield 15, 3) := by decide +kernel
theorem dX0_copyFrom_35 : decode cX0_copyFrom 35 = .ok (.iload_n 2, 1) := by decide +kernel
theorem dX0_copyFrom_36 : decode cX0_copyFrom 36 = .ok (.iaload, 1) := by decide +kernel
theorem dX0_copyFrom_37 : decode cX0_copyFrom 37 = .ok (.aload_n 1, 1) := by decide +kernel
theorem dX0_copyFrom_38 : decode cX0_copyFrom 38 = .ok (.getfield 18, 3) := by decide +kernel
theorem dX0_copyFrom_41 : decode cX0_copyFrom 41 = .ok (.iload_n 2, 1) := by decide +kernel
theorem dX0_copyFrom_42 : decode cX0_copyFrom 42 = .ok (.iaload, 1) := by decide +kernel
theorem dX0_copyFrom_43 : decode cX0_copyFrom 43 = .ok (.invokevirtual 72, 3) := by decide +kernel
theorem dX0_copyFrom_46 : decode cX0_copyFrom 46 = .ok (.iinc 2 1, 3) := by decide +kernel
theorem dX0_copyFrom_49 : decode cX0_copyFrom 49 = .ok (.goto (-39), 3) := by decide +kernel
theorem dX0_copyFrom_52 : decode cX0_copyFrom 52 = .ok (.return_, 1) := by decide +kernel
theorem dX0_faces_0 : decode cX0_faces 0 = .ok (.iconst 2, 1) := by decide +kernel
theorem dX0_faces_1 : decode cX0_faces 1 = .ok (.iconst 2, 1) := by decide +kernel
theorem dX0_faces_2 : decode cX0_faces 2 = .ok (.aload_n 0, 1) := by decide +kernel
theorem dX0_faces_3 : decode cX0_faces 3 = .ok (.getfield 59, 3) := by decide +kernel
theorem dX0_faces_6 : decode cX0_faces 6 = .ok (.imul, 1) := by decide +kernel
theorem dX0_faces_7 : decode cX0_faces 7 = .ok (.iadd, 1) := by decide +kernel
theorem dX0_faces_8 : decode cX0_faces 8 = .ok (.ireturn, 1) := by decide +kernel
theorem dX0_corners_0 : decode cX0_corners 0 = .ok (.iconst 1, 1) := by decide +kernel
theorem dX0_corners_1 : decode cX0_corners 1 = .ok (.iconst 5, 1) := by decide +kernel
theorem dX0_corners_2 : decode cX0_corners 2 = .ok (.aload_n 0, 1) := by decide +kernel
theorem dX0_corners_3 : decode cX0_corners 3 = .ok (.getfield 59, 3) := by decide +kernel
theorem dX0_corners_6 : decode cX0_corners 6 = .ok (.imul, 1) := by decide +kernel
theorem dX0_corners_7 : decode cX0_corners 7 = .ok (.iadd, 1) := by decide +kernel
theorem dX0_corners_8 : decode cX0_corners 8 = .ok (.ireturn, 1) := by decide +kernel
theorem dX0_hasFace_0 : decode cX0_hasFace 0 = .ok (.iload_n 1, 1) := by decide +kernel
theorem dX0_hasFace_1 : decode cX0_hasFace 1 = .ok (.ifCond .lt 21, 3) := by decide +kernel
theorem dX0_hasFace_4 : decode cX0_hasFace 4 = .ok (.iload_n 1, 1) := by decide +kernel
theorem dX0_hasFace_5 : decode cX0_hasFace 5 = .ok (.aload_n 0, 1) := by decide +kernel
theorem dX0_hasFace_6 : decode cX0_hasFace 6 = .ok (.invokevirtual 76, 3) := by decide +kernel
theorem dX0_hasFace_9 : decode cX0_hasFace 9 = .ok (.if_icmp .ge 13, 3) := by decide +kernel
theorem dX0_hasFace_12 : decode cX0_hasFace 12 = .ok (.iload_n 1, 1) := by decide +kernel
theorem dX0_hasFace_13 : decode cX0_hasFace 13 = .ok (.bipush 14, 2) := by decide +kernel
theorem dX0_hasFace_15 : decode cX0_hasFace 15 = .ok (.if_icmp .ge 7, 3) := by decide +kernel
theorem dX0_hasFace_18 : decode cX0_hasFace 18 = .ok (.iconst 1, 1) := by decide +kernel
theorem dX0_hasFace_19 : decode cX0_hasFace 19 = .ok (.goto 4, 3) := by decide +kernel
theorem dX0_hasFace_22 : decode cX0_hasFace 22 = .ok (.iconst 0, 1) := by decide +kernel
theorem dX0_hasFace_23 : decode cX0_hasFace 23 = .ok (.ireturn, 1) := by decide +kernel
theorem dX0_hasCorner_0 : decode cX0_hasCorner 0 = .ok (.iload_n 1, 1) := by decide +kernel
theorem dX0_hasCorner_1 : decode cX0_hasCorner 1 = .ok (.ifCond .lt 21, 3) := by decide +kernel
theorem dX0_hasCorner_4 : decode cX0_hasCorner 4 = .ok (.iload_n 1, 1) := by decide +kernel
theorem dX0_hasCorner_5 : decode cX0_hasCorner 5 = .ok (.aload_n 0, 1) := by decide +kernel
theorem dX0_hasCorner_6 : decode cX0_hasCorner 6 = .ok (.invokevirtual 80, 3) := by decide +kernel
theorem dX0_hasCorner_9 : decode cX0_hasCorner 9 = .ok (.if_icmp .ge 13, 3) := by decide +kernel
theorem dX0_hasCorner_12 : decode cX0_hasCorner 12 = .ok (.iload_n 1, 1) := by decide +kernel
theorem dX0_hasCorner_13 : decode cX0_hasCorner 13 = .ok (.bipush 31, 2) := by decide +kernel
theorem dX0_hasCorner_15 : decode cX0_hasCorner 15 = .ok (.if_icmp .ge 7, 3) := by decide +kernel
theorem dX0_hasCorner_18 : decode cX0_hasCorner 18 = .ok (.iconst 1, 1) := by decide +kernel
theorem dX0_hasCorner_19 : decode cX0_hasCorner 19 = .ok (.goto 4, 3) := by decide +kernel
theorem dX0_hasCorner_22 : decode cX0_hasCorner 22 = .ok (.iconst 0, 1) := by decide +kernel
theorem dX0_hasCorner_23 : decode cX0_hasCorner 23 = .ok (.ireturn, 1) := by decide +kernel
theorem dX0_isFull_0 : decode cX0_isFull 0 = .ok (.aload_n 0, 1) := by decide +kernel
theorem dX0_isFull_1 : decode cX0_isFull 1 = .ok (.getfield 59, 3) := by decide +kernel
theorem dX0_isFull_4 : decode cX0_isFull 4 = .ok (.bipush 6, 2) := by decide +kernel
theorem dX0_isFull_6 : decode cX0_isFull 6 = .ok (.if_icmp .lt 7, 3) := by decide +kernel
theorem dX0_isFull_9 : decode cX0_isFull 9 = .ok (.iconst 1, 1) := by decide +kernel
theorem dX0_isFull_10 : decode cX0_isFull 10 = .ok (.goto 4, 3) := by decide +kernel
theorem dX0_isFull_13 : decode cX0_isFull 13 = .ok (.iconst 0, 1) := by decide +kernel
theorem dX0_isFull_14 : decode cX0_isFull 14 = .ok (.ireturn, 1) := by decide +kernel
theorem dX0_addBox_0 : decode cX0_addBox 0 = .ok (.aload_n 0, 1) := by decide +kernel
theorem dX0_addBox_1 : decode cX0_addBox 1 = .ok (.invokevirtual 83, 3) := by decide +kernel
theorem dX0_addBox_4 : decode cX0_addBox 4 = .ok (.ifCond .ne 11, 3) := by decide +kernel
theorem dX0_addBox_7 : decode cX0_addBox 7 = .ok (.aload_n 0, 1) := by decide +kernel
theorem dX0_addBox_8 : decode cX0_addBox 8 = .ok (.iload_n 1, 1) := by decide +kernel
theorem dX0_addBox_9 : decode cX0_addBox 9 = .ok (.invokevirtual 87, 3) := by decide +kernel
theorem dX0_addBox_12 : decode cX0_addBox 12 = .ok (.ifCond .ne 4, 3) := by decide +kernel
theorem dX0_addBox_15 : decode cX0_addBox 15 = .ok (.return_, 1) := by decide +kernel
theorem dX0_addBox_16 : decode cX0_addBox 16 = .ok (.aload_n 0, 1) := by decide +kernel
theorem dX0_addBox_17 : decode cX0_addBox 17 = .ok (.getfield 33, 3) := by decide +kernel
theorem dX0_addBox_20 : decode cX0_addBox 20 = .ok (.iload_n 1, 1) := by decide +kernel
theorem dX0_addBox_21 : decode cX0_addBox 21 = .ok (.iaload, 1) := by decide +kernel
theorem dX0_addBox_22 : decode cX0_addBox 22 = .ok (.istore 4, 2) := by decide +kernel
theorem dX0_addBox_24 : decode cX0_addBox 24 = .ok (.aload_n 0, 1) := by decide +kernel
theorem dX0_addBox_25 : decode cX0_addBox 25 = .ok (.getfield 36, 3) := by decide +kernel
theorem dX0_addBox_28 : decode cX0_addBox 28 = .ok (.iload_n 1, 1) := by decide +kernel
theorem dX0_addBox_29 : decode cX0_addBox 29 = .ok (.iaload, 1) := by decide +kernel
theorem dX0_addBox_30 : decode cX0_addBox 30 = .ok (.istore 5, 2) := by decide +kernel
theorem dX0_addBox_32 : decode cX0_addBox 32 = .ok (.aload_n 0, 1) := by decide +kernel
theorem dX0_addBox_33 : decode cX0_addBox 33 = .ok (.getfield 39, 3) := by decide +kernel
theorem dX0_addBox_36 : decode cX0_addBox 36 = .ok (.iload_n 1, 1) := by decide +kernel
theorem dX0_addBox_37 : decode cX0_addBox 37 = .ok (.iaload, 1) := by decide +kernel
theorem dX0_addBox_38 : decode cX0_addBox 38 = .ok (.istore 6, 2) := by decide +kernel
theorem dX0_addBox_40 : decode cX0_addBox 40 = .ok (.aload_n 0, 1) := by decide +kernel
theorem dX0_addBox_41 : decode cX0_addBox 41 = .ok (.getfield 42, 3) := by decide +kernel
theorem dX0_addBox_44 : decode cX0_addBox 44 = .ok (.iload_n 1, 1) := by decide +kernel
theorem dX0_addBox_45 : decode cX0_addBox 45 = .ok (.iaload, 1) := by decide +kernel
theorem dX0_addBox_46 : decode cX0_addBox 46 = .ok (.istore 7, 2) := by decide +kernel
theorem dX0_addBox_48 : decode cX0_addBox 48 = .ok (.iload 4, 2) := by decide +kernel
theorem dX0_addBox_50 : decode cX0_addBox 50 = .ok (.iload 6, 2) := by decide +kernel
theorem dX0_addBox_52 : decode cX0_addBox 52 = .ok (.iload_n 2, 1) := by decide +kernel
theorem dX0_addBox_53 : decode cX0_addBox 53 = .ok (.imul, 1) := by decide +kernel
theorem dX0_addBox_54 : decode cX0_addBox 54 = .ok (.iadd, 1) := by decide +kernel
theorem dX0_addBox_55 : decode cX0_addBox 55 = .ok (.istore 8, 2) := by decide +kernel
theorem dX0_addBox_57 : decode cX0_addBox 57 = .ok (.iload 5, 2) := by decide +kernel
theorem dX0_addBox_59 : decode cX0_addBox 59 = .ok (.iload 7, 2) := by decide +kernel
theorem dX0_addBox_61 : decode cX0_addBox 61 = .ok (.iload_n 3, 1) := by decide +kernel
theorem dX0_addBox_62 : decode cX0_addBox 62 = .ok (.imul, 1) := by decide +kernel
theorem dX0_addBox_63 : decode cX0_addBox 63 = .ok (.iadd, 1) := by decide +kernel
theorem dX0_addBox_64 : decode cX0_addBox 64 = .ok (.istore 9, 2) := by decide +kernel
theorem dX0_addBox_66 : decode cX0_addBox 66 = .ok (.aload_n 0, 1) := by decide +kernel
theorem dX0_addBox_67 : decode cX0_addBox 67 = .ok (.invokevirtual 76, 3) := by decide +kernel
theorem dX0_addBox_70 : decode cX0_addBox 70 = .ok (.istore 10, 2) := by decide +kernel
theorem dX0_addBox_72 : decode cX0_addBox 72 = .ok (.aload_n 0, 1) := by decide +kernel
theorem dX0_addBox_73 : decode cX0_addBox 73 = .ok (.iload 10, 2) := by decide +kernel
theorem dX0_addBox_75 : decode cX0_addBox 75 = .ok (.iconst 1, 1) := by decide +kernel
theorem dX0_addBox_76 : decode cX0_addBox 76 = .ok (.iload 8, 2) := by decide +kernel
theorem dX0_addBox_78 : decode cX0_addBox 78 = .ok (.iload 5, 2) := by decide +kernel
theorem dX0_addBox_80 : decode cX0_addBox 80 = .ok (.iload 9, 2) := by decide +kernel
theorem dX0_addBox_82 : decode cX0_addBox 82 = .ok (.invokestatic 91, 3) := by decide +kernel
theorem dX0_addBox_85 : decode cX0_addBox 85 = .ok (.iload_n 3, 1) := by decide +kernel
theorem dX0_addBox_86 : decode cX0_addBox 86 = .ok (.invokevirtual 62, 3) := by decide +kernel
theorem dX0_addBox_89 : decode cX0_addBox 89 = .ok (.aload_n 0, 1) := by decide +kernel
theorem dX0_addBox_90 : decode cX0_addBox 90 = .ok (.iload 10, 2) := by decide +kernel
theorem dX0_addBox_92 : decode cX0_addBox 92 = .ok (.iconst 1, 1) := by decide +kernel
theorem dX0_addBox_93 : decode cX0_addBox 93 = .ok (.iadd, 1) := by decide +kernel
theorem dX0_addBox_94 : decode cX0_addBox 94 = .ok (.iconst 0, 1) := by decide +kernel
theorem dX0_addBox_95 : decode cX0_addBox 95 = .ok (.iload 9, 2) := by decide +kernel
theorem dX0_addBox_97 : decode cX0_addBox 97 = .ok (.iload 4, 2) := by decide +kernel
theorem dX0_addBox_99 : decode cX0_addBox 99 = .ok (.iload 8, 2) := by decide +kernel
theorem dX0_addBox_101 : decode cX0_addBox 101 = .ok (.invokestatic 91, 3) := by decide +kernel
theorem dX0_addBox_104 : decode cX0_addBox 104 = .ok (.iload_n 2, 1) := by decide +kernel
theorem dX0_addBox_105 : decode cX0_addBox 105 = .ok (.invokevirtual 62, 3) := by decide +kernel
theorem dX0_addBox_108 : decode cX0_addBox 108 = .ok (.aload_n 0, 1) := by decide +kernel
theorem dX0_addBox_109 : decode cX0_addBox 109 = .ok (.invokevirtual 80, 3) := by decide +kernel
theorem dX0_addBox_112 : decode cX0_addBox 112 = .ok (.istore 11, 2) := by decide +kernel
theorem dX0_addBox_114 : decode cX0_addBox 114 = .ok (.aload_n 0, 1) := by decide +kernel
theorem dX0_addBox_115 : decode cX0_addBox 115 = .ok (.iload 11, 2) := by decide +kernel
theorem dX0_addBox_117 : decode cX0_addBox 117 = .ok (.iload 8, 2) := by decide +kernel
theorem dX0_addBox_119 : decode cX0_addBox 119 = .ok (.iload 5, 2) := by decide +kernel
theorem dX0_addBox_121 : decode cX0_addBox 121 = .ok (.iload 6, 2) := by decide +kernel
theorem dX0_addBox_123 : decode cX0_addBox 123 = .ok (.ineg, 1) := by decide +kernel
theorem dX0_addBox_124 : decode cX0_addBox 124 = .ok (.iload 7, 2) := by decide +kernel
theorem dX0_addBox_126 : decode cX0_addBox 126 = .ok (.invokevirtual 66, 3) := by decide +kernel
theorem dX0_addBox_129 : decode cX0_addBox 129 = .ok (.aload_n 0, 1) := by decide +kernel
theorem dX0_addBox_130 : decode cX0_addBox 130 = .ok (.iload 11, 2) := by decide +kernel
theorem dX0_addBox_132 : decode cX0_addBox 132 = .ok (.iconst 1, 1) := by decide +kernel
theorem dX0_addBox_133 : decode cX0_addBox 133 = .ok (.iadd, 1) := by decide +kernel
theorem dX0_addBox_134 : decode cX0_addBox 134 = .ok (.iload 8, 2) := by decide +kernel
theorem dX0_addBox_136 : decode cX0_addBox 136 = .ok (.iload 5, 2) := by decide +kernel
theorem dX0_addBox_138 : decode cX0_addBox 138 = .ok (.iload 6, 2) := by decide +kernel
theorem dX0_addBox_140 : decode cX0_addBox 140 = .ok (.iload 7, 2) := by decide +kernel
theorem dX0_addBox_142 : decode cX0_addBox 142 = .ok (.invokevirtual 66, 3) := by decide +kernel
theorem dX0_addBox_145 : decode cX0_addBox 145 = .ok (.aload_n 0, 1) := by decide +kernel
theorem dX0_addBox_146 : decode cX0_addBox 146 = .ok (.iload 11, 2) := by decide +kernel
theorem dX0_addBox_148 : decode cX0_addBox 148 = .ok (.iconst 2, 1) := by decide +kernel
theorem dX0_addBox_149 : decode cX0_addBox 149 = .ok (.iadd, 1) := by decide +kernel
theorem dX0_addBox_150 : decode cX0_addBox 150 = .ok (.iload 4, 2) := by decide +kernel
theorem dX0_addBox_152 : decode cX0_addBox 152 = .ok (.iload 9, 2) := by decide +kernel
theorem dX0_addBox_154 : decode cX0_addBox 154 = .ok (.iload 6, 2) := by decide +kernel
theorem dX0_addBox_156 : decode cX0_addBox 156 = .ok (.iload 7, 2) := by decide +kernel
theorem dX0_addBox_158 : decode cX0_addBox 158 = .ok (.ineg, 1) := by decide +kernel
theorem dX0_addBox_159 : decode cX0_addBox 159 = .ok (.invokevirtual 66, 3) := by decide +kernel
theorem dX0_addBox_162 : decode cX0_addBox 162 = .ok (.aload_n 0, 1) := by decide +kernel
theorem dX0_addBox_163 : decode cX0_addBox 163 = .ok (.iload 11, 2) := by decide +kernel
theorem dX0_addBox_165 : decode cX0_addBox 165 = .ok (.iconst 3, 1) := by decide +kernel
theorem dX0_addBox_166 : decode cX0_addBox 166 = .ok (.iadd, 1) := by decide +kernel
theorem dX0_addBox_167 : decode cX0_addBox 167 = .ok (.iload 4, 2) := by decide +kernel
theorem dX0_addBox_169 : decode cX0_addBox 169 = .ok (.iload 9, 2) := by decide +kernel
theorem dX0_addBox_171 : decode cX0_addBox 171 = .ok (.iload 6, 2) := by decide +kernel
theorem dX0_addBox_173 : decode cX0_addBox 173 = .ok (.iload 7, 2) := by decide +kernel
theorem dX0_addBox_175 : decode cX0_addBox 175 = .ok (.invokevirtual 66, 3) := by decide +kernel
theorem dX0_addBox_178 : decode cX0_addBox 178 = .ok (.aload_n 0, 1) := by decide +kernel
theorem dX0_addBox_179 : decode cX0_addBox 179 = .ok (.iload 11, 2) := by decide +kernel
theorem dX0_addBox_181 : decode cX0_addBox 181 = .ok (.iconst 4, 1) := by decide +kernel
theorem dX0_addBox_182 : decode cX0_addBox 182 = .ok (.iadd, 1) := by decide +kernel
theorem dX0_addBox_183 : decode cX0_addBox 183 = .ok (.iload 8, 2) := by decide +kernel
theorem dX0_addBox_185 : decode cX0_addBox 185 = .ok (.iload 9, 2) := by decide +kernel
theorem dX0_addBox_187 : decode cX0_addBox 187 = .ok (.iload 6, 2) := by decide +kernel
theorem dX0_addBox_189 : decode cX0_addBox 189 = .ok (.ineg, 1) := by decide +kernel
theorem dX0_addBox_190 : decode cX0_addBox 190 = .ok (.iload 7, 2) := by decide +kernel
theorem dX0_addBox_192 : decode cX0_addBox 192 = .ok (.ineg, 1) := by decide +kernel
theorem dX0_addBox_193 : decode cX0_addBox 193 = .ok (.invokevirtual 66, 3) := by decide +kernel
theorem dX0_addBox_196 : decode cX0_addBox 196 = .ok (.aload_n 0, 1) := by decide +kernel
theorem dX0_addBox_197 : decode cX0_addBox 197 = .ok (.getfield 9, 3) := by decide +kernel
theorem dX0_addBox_200 : decode cX0_addBox 200 = .ok (.aload_n 0, 1) := by decide +kernel
theorem dX0_addBox_201 : decode cX0_addBox 201 = .ok (.getfield 59, 3) := by decide +kernel
theorem dX0_addBox_204 : decode cX0_addBox 204 = .ok (.iload_n 1, 1) := by decide +kernel
theorem dX0_addBox_205 : decode cX0_addBox 205 = .ok (.iastore, 1) := by decide +kernel
theorem dX0_addBox_206 : decode cX0_addBox 206 = .ok (.aload_n 0, 1) := by decide +kernel
theorem dX0_addBox_207 : decode cX0_addBox 207 = .ok (.getfield 15, 3) := by decide +kernel
theorem dX0_addBox_210 : decode cX0_addBox 210 = .ok (.aload_n 0, 1) := by decide +kernel
theorem dX0_addBox_211 : decode cX0_addBox 211 = .ok (.getfield 59, 3) := by decide +kernel
theorem dX0_addBox_214 : decode cX0_addBox 214 = .ok (.iload_n 2, 1) := by decide +kernel
theorem dX0_addBox_215 : decode cX0_addBox 215 = .ok (.iastore, 1) := by decide +kernel
theorem dX0_addBox_216 : decode cX0_addBox 216 = .ok (.aload_n 0, 1) := by decide +kernel
theorem dX0_addBox_217 : decode cX0_addBox 217 = .ok (.getfield 18, 3) := by decide +kernel
theorem dX0_addBox_220 : decode cX0_addBox 220 = .ok (.aload_n 0, 1) := by decide +kernel
theorem dX0_addBox_221 : decode cX0_addBox 221 = .ok (.getfield 59, 3) := by decide +kernel
theorem dX0_addBox_224 : decode cX0_addBox 224 = .ok (.iload_n 3, 1) := by decide +kernel
theorem dX0_addBox_225 : decode cX0_addBox 225 = .ok (.iastore, 1) := by decide +kernel
theorem dX0_addBox_226 : decode cX0_addBox 226 = .ok (.aload_n 0, 1) := by decide +kernel
theorem dX0_addBox_227 : decode cX0_addBox 227 = .ok (.dup, 1) := by decide +kernel
theorem dX0_addBox_228 : decode cX0_addBox 228 = .ok (.getfield 59, 3) := by decide +kernel
theorem dX0_addBox_231 : decode cX0_addBox 231 = .ok (.iconst 1, 1) := by decide +kernel
theorem dX0_addBox_232 : decode cX0_addBox 232 = .ok (.iadd, 1) := by decide +kernel
theorem dX0_addBox_233 : decode cX0_addBox 233 = .ok (.putfield 59, 3) := by decide +kernel
theorem dX0_addBox_236 : decode cX0_addBox 236 = .ok (.aload_n 0, 1) := by decide +kernel
theorem dX0_addBox_237 : decode cX0_addBox 237 = .ok (.iload 10, 2) := by decide +kernel
theorem dX0_addBox_239 : decode cX0_addBox 239 = .ok (.invokevirtual 97, 3) := by decide +kernel
theorem dX0_addBox_242 : decode cX0_addBox 242 = .ok (.aload_n 0, 1) := by decide +kernel
theorem dX0_addBox_243 : decode cX0_addBox 243 = .ok (.iload 10, 2) := by decide +kernel
theorem dX0_addBox_245 : decode cX0_addBox 245 = .ok (.iconst 1, 1) := by decide +kernel
theorem dX0_addBox_246 : decode cX0_addBox 246 = .ok (.iadd, 1) := by decide +kernel
theorem dX0_addBox_247 : decode cX0_addBox 247 = .ok (.invokevirtual 97, 3) := by decide +kernel
theorem dX0_addBox_250 : decode cX0_addBox 250 = .ok (.return_, 1) := by decide +kernel
theorem dX0_dropBox_0 : decode cX0_dropBox 0 = .ok (.aload_n 0, 1) := by decide +kernel
theorem dX0_dropBox_1 : decode cX0_dropBox 1 = .ok (.getfield 59, 3) := by decide +kernel
theorem dX0_dropBox_4 : decode cX0_dropBox 4 = .ok (.ifCond .ne 4, 3) := by decide +kernel
theorem dX0_dropBox_7 : decode cX0_dropBox 7 = .ok (.return_, 1) := by decide +kernel
theorem dX0_dropBox_8 : decode cX0_dropBox 8 = .ok (.aload_n 0, 1) := by decide +kernel
theorem dX0_dropBox_9 : decode cX0_dropBox 9 = .ok (.dup, 1) := by decide +kernel
theorem dX0_dropBox_10 : decode cX0_dropBox 10 = .ok (.getfield 59, 3) := by decide +kernel
theorem dX0_dropBox_13 : decode cX0_dropBox 13 = .ok (.iconst 1, 1) := by decide +kernel
theorem dX0_dropBox_14 : decode cX0_dropBox 14 = .ok (.isub, 1) := by decide +kernel
theorem dX0_dropBox_15 : decode cX0_dropBox 15 = .ok (.putfield 59, 3) := by decide +kernel
theorem dX0_dropBox_18 : decode cX0_dropBox 18 = .ok (.aload_n 0, 1) := by decide +kernel
theorem dX0_dropBox_19 : decode cX0_dropBox 19 = .ok (.invokevirtual 69, 3) := by decide +kernel
theorem dX0_dropBox_22 : decode cX0_dropBox 22 = .ok (.return_, 1) := by decide +kernel
theorem dX0_setFace_0 : decode cX0_setFace 0 = .ok (.iload_n 1, 1) := by decide +kernel
theorem dX0_setFace_1 : decode cX0_setFace 1 = .ok (.ifCond .lt 9, 3) := by decide +kernel
theorem dX0_setFace_4 : decode cX0_setFace 4 = .ok (.iload_n 1, 1) := by decide +kernel
theorem dX0_setFace_5 : decode cX0_setFace 5 = .ok (.bipush 14, 2) := by decide +kernel
theorem dX0_setFace_7 : decode cX0_setFace 7 = .ok (.if_icmp .lt 4, 3) := by decide +kernel
theorem dX0_setFace_10 : decode cX0_setFace 10 = .ok (.return_, 1) := by decide +kernel
theorem dX0_setFace_11 : decode cX0_setFace 11 = .ok (.aload_n 0, 1) := by decide +kernel
theorem dX0_setFace_12 : decode cX0_setFace 12 = .ok (.getfield 21, 3) := by decide +kernel
theorem dX0_setFace_15 : decode cX0_setFace 15 = .ok (.iload_n 1, 1) := by decide +kernel
theorem dX0_setFace_16 : decode cX0_setFace 16 = .ok (.iload_n 2, 1) := by decide +kernel
theorem dX0_setFace_17 : decode cX0_setFace 17 = .ok (.iastore, 1) := by decide +kernel
theorem dX0_setFace_18 : decode cX0_setFace 18 = .ok (.aload_n 0, 1) := by decide +kernel
theorem dX0_setFace_19 : decode cX0_setFace 19 = .ok (.getfield 24, 3) := by decide +kernel
theorem dX0_setFace_22 : decode cX0_setFace 22 = .ok (.iload_n 1, 1) := by decide +kernel
theorem dX0_setFace_23 : decode cX0_setFace 23 = .ok (.iload_n 3, 1) := by decide +kernel
theorem dX0_setFace_24 : decode cX0_setFace 24 = .ok (.iastore, 1) := by decide +kernel
theorem dX0_setFace_25 : decode cX0_setFace 25 = .ok (.aload_n 0, 1) := by decide +kernel
theorem dX0_setFace_26 : decode cX0_setFace 26 = .ok (.getfield 27, 3) := by decide +kernel
theorem dX0_setFace_29 : decode cX0_setFace 29 = .ok (.iload_n 1, 1) := by decide +kernel
theorem dX0_setFace_30 : decode cX0_setFace 30 = .ok (.iload 4, 2) := by decide +kernel
theorem dX0_setFace_32 : decode cX0_setFace 32 = .ok (.iastore, 1) := by decide +kernel
theorem dX0_setFace_33 : decode cX0_setFace 33 = .ok (.aload_n 0, 1) := by decide +kernel
theorem dX0_setFace_34 : decode cX0_setFace 34 = .ok (.getfield 30, 3) := by decide +kernel
theorem dX0_setFace_37 : decode cX0_setFace 37 = .ok (.iload_n 1, 1) := by decide +kernel
theorem dX0_setFace_38 : decode cX0_setFace 38 = .ok (.iload 5, 2) := by decide +kernel
theorem dX0_setFace_40 : decode cX0_setFace 40 = .ok (.iastore, 1) := by decide +kernel
theorem dX0_setFace_41 : decode cX0_setFace 41 = .ok (.return_, 1) := by decide +kernel
theorem dX0_setCorner_0 : decode cX0_setCorner 0 = .ok (.iload_n 1, 1) := by decide +kernel
theorem dX0_setCorner_1 : decode cX0_setCorner 1 = .ok (.ifCond .lt 9, 3) := by decide +kernel
theorem dX0_setCorner_4 : decode cX0_setCorner 4 = .ok (.iload_n 1, 1) := by decide +kernel
theorem dX0_setCorner_5 : decode cX0_setCorner 5 = .ok (.bipush 31, 2) := by decide +kernel
theorem dX0_setCorner_7 : decode cX0_setCorner 7 = .ok (.if_icmp .lt 4, 3) := by decide +kernel
theorem dX0_setCorner_10 : decode cX0_setCorner 10 = .ok (.return_, 1) := by decide +kernel
theorem dX0_setCorner_11 : decode cX0_setCorner 11 = .ok (.aload_n 0, 1) := by decide +kernel
theorem dX0_setCorner_12 : decode cX0_setCorner 12 = .ok (.getfield 33, 3) := by decide +kernel
theorem dX0_setCorner_15 : decode cX0_setCorner 15 = .ok (.iload_n 1, 1) := by decide +kernel
theorem dX0_setCorner_16 : decode cX0_setCorner 16 = .ok (.iload_n 2, 1) := by decide +kernel
theorem dX0_setCorner_17 : decode cX0_setCorner 17 = .ok (.iastore, 1) := by decide +kernel
theorem dX0_setCorner_18 : decode cX0_setCorner 18 = .ok (.aload_n 0, 1) := by decide +kernel
theorem dX0_setCorner_19 : decode cX0_setCorner 19 = .ok (.getfield 36, 3) := by decide +kernel
theorem dX0_setCorner_22 : decode cX0_setCorner 22 = .ok (.iload_n 1, 1) := by decide +kernel
theorem dX0_setCorner_23 : decode cX0_setCorner 23 = .ok (.iload_n 3, 1) := by decide +kernel
theorem dX0_setCorner_24 : decode cX0_setCorner 24 = .ok (.iastore, 1) := by decide +kernel
theorem dX0_setCorner_25 : decode cX0_setCorner 25 = .ok (.aload_n 0, 1) := by decide +kernel
theorem dX0_setCorner_26 : decode cX0_setCorner 26 = .ok (.getfield 39, 3) := by decide +kernel
theorem dX0_setCorner_29 : decode cX0_setCorner 29 = .ok (.iload_n 1, 1) := by decide +kernel
theorem dX0_setCorner_30 : decode cX0_setCorner 30 = .ok (.iload 4, 2) := by decide +kernel
theorem dX0_setCorner_32 : decode cX0_setCorner 32 = .ok (.iastore, 1) := by decide +kernel
theorem dX0_setCorner_33 : decode cX0_setCorner 33 = .ok (.aload_n 0, 1) := by decide +kernel
theorem dX0_setCorner_34 : decode cX0_setCorner 34 = .ok (.getfield 42, 3) := by decide +kernel
theorem dX0_setCorner_37 : decode cX0_setCorner 37 = .ok (.iload_n 1, 1) := by decide +kernel
theorem dX0_setCorner_38 : decode cX0_setCorner 38 = .ok (.iload 5, 2) := by decide +kernel
theorem dX0_setCorner_40 : decode cX0_setCorner 40 = .ok (.iastore, 1) := by decide +kernel
theorem dX0_setCorner_41 : decode cX0_setCorner 41 = .ok (.return_, 1) := by decide +kernel
theorem dX0_redraw_0 : decode cX0_redraw 0 = .ok (.aload_n 0, 1) := by decide +kernel
theorem dX0_redraw_1 : decode cX0_redraw 1 = .ok (.getfield 45, 3) := by decide +kernel
theorem dX0_redraw_4 : decode cX0_redraw 4 = .ok (.iconst 0, 1) := by decide +kernel
theorem dX0_redraw_5 : decode cX0_redraw 5 = .ok (.invokestatic 100, 3) := by decide +kernel
theorem dX0_redraw_8 : decode cX0_redraw 8 = .ok (.aload_n 0, 1) := by decide +kernel
theorem dX0_redraw_9 : decode cX0_redraw 9 = .ok (.getfield 48, 3) := by decide +kernel
theorem dX0_redraw_12 : decode cX0_redraw 12 = .ok (.iconst 0, 1) := by decide +kernel
theorem dX0_redraw_13 : decode cX0_redraw 13 = .ok (.invokestatic 100, 3) := by decide +kernel
theorem dX0_redraw_16 : decode cX0_redraw 16 = .ok (.iconst 0, 1) := by decide +kernel
theorem dX0_redraw_17 : decode cX0_redraw 17 = .ok (.istore_n 1, 1) := by decide +kernel
theorem dX0_redraw_18 : decode cX0_redraw 18 = .ok (.iload_n 1, 1) := by decide +kernel
theorem dX0_redraw_19 : decode cX0_redraw 19 = .ok (.aload_n 0, 1) := by decide +kernel
theorem dX0_redraw_20 : decode cX0_redraw 20 = .ok (.invokevirtual 76, 3) := by decide +kernel
theorem dX0_redraw_23 : decode cX0_redraw 23 = .ok (.if_icmp .ge 14, 3) := by decide +kernel
theorem dX0_redraw_26 : decode cX0_redraw 26 = .ok (.aload_n 0, 1) := by decide +kernel
theorem dX0_redraw_27 : decode cX0_redraw 27 = .ok (.iload_n 1, 1) := by decide +kernel
theorem dX0_redraw_28 : decode cX0_redraw 28 = .ok (.invokevirtual 97, 3) := by decide +kernel
theorem dX0_redraw_31 : decode cX0_redraw 31 = .ok (.iinc 1 1, 3) := by decide +kernel
theorem dX0_redraw_34 : decode cX0_redraw 34 = .ok (.goto (-16), 3) := by decide +kernel
theorem dX0_redraw_37 : decode cX0_redraw 37 = .ok (.return_, 1) := by decide +kernel
theorem dX0_draw_0 : decode cX0_draw 0 = .ok (.iload_n 1, 1) := by decide +kernel
theorem dX0_draw_1 : decode cX0_draw 1 = .ok (.ifCond .lt 9, 3) := by decide +kernel
theorem dX0_draw_4 : decode cX0_draw 4 = .ok (.iload_n 1, 1) := by decide +kernel
theorem dX0_draw_5 : decode cX0_draw 5 = .ok (.bipush 14, 2) := by decide +kernel
theorem dX0_draw_7 : decode cX0_draw 7 = .ok (.if_icmp .lt 4, 3) := by decide +kernel
theorem dX0_draw_10 : decode cX0_draw 10 = .ok (.return_, 1) := by decide +kernel
theorem dX0_draw_11 : decode cX0_draw 11 = .ok (.aload_n 0, 1) := by decide +kernel
theorem dX0_draw_12 : decode cX0_draw 12 = .ok (.getfield 21, 3) := by decide +kernel
theorem dX0_draw_15 : decode cX0_draw 15 = .ok (.iload_n 1, 1) := by decide +kernel
theorem dX0_draw_16 : decode cX0_draw 16 = .ok (.iaload, 1) := by decide +kernel
theorem dX0_draw_17 : decode cX0_draw 17 = .ok (.istore_n 2, 1) := by decide +kernel
theorem dX0_draw_18 : decode cX0_draw 18 = .ok (.aload_n 0, 1) := by decide +kernel
theorem dX0_draw_19 : decode cX0_draw 19 = .ok (.getfield 24, 3) := by decide +kernel
theorem dX0_draw_22 : decode cX0_draw 22 = .ok (.iload_n 1, 1) := by decide +kernel
theorem dX0_draw_23 : decode cX0_draw 23 = .ok (.iaload, 1) := by decide +kernel
theorem dX0_draw_24 : decode cX0_draw 24 = .ok (.istore_n 3, 1) := by decide +kernel
theorem dX0_draw_25 : decode cX0_draw 25 = .ok (.aload_n 0, 1) := by decide +kernel
theorem dX0_draw_26 : decode cX0_draw 26 = .ok (.getfield 27, 3) := by decide +kernel
theorem dX0_draw_29 : decode cX0_draw 29 = .ok (.iload_n 1, 1) := by decide +kernel
theorem dX0_draw_30 : decode cX0_draw 30 = .ok (.iaload, 1) := by decide +kernel
theorem dX0_draw_31 : decode cX0_draw 31 = .ok (.istore 4, 2) := by decide +kernel
theorem dX0_draw_33 : decode cX0_draw 33 = .ok (.iload 4, 2) := by decide +kernel
theorem dX0_draw_35 : decode cX0_draw 35 = .ok (.aload_n 0, 1) := by decide +kernel
theorem dX0_draw_36 : decode cX0_draw 36 = .ok (.getfield 30, 3) := by decide +kernel
theorem dX0_draw_39 : decode cX0_draw 39 = .ok (.iload_n 1, 1) := by decide +kernel
theorem dX0_draw_40 : decode cX0_draw 40 = .ok (.iaload, 1) := by decide +kernel
theorem dX0_draw_41 : decode cX0_draw 41 = .ok (.iadd, 1) := by decide +kernel
theorem dX0_draw_42 : decode cX0_draw 42 = .ok (.istore 5, 2) := by decide +kernel
theorem dX0_draw_44 : decode cX0_draw 44 = .ok (.iload_n 2, 1) := by decide +kernel
theorem dX0_draw_45 : decode cX0_draw 45 = .ok (.ifCond .ne 7, 3) := by decide +kernel
theorem dX0_draw_48 : decode cX0_draw 48 = .ok (.iconst 1, 1) := by decide +kernel
theorem dX0_draw_49 : decode cX0_draw 49 = .ok (.goto 4, 3) := by decide +kernel
theorem dX0_draw_52 : decode cX0_draw 52 = .ok (.iconst 0, 1) := by decide +kernel
theorem dX0_draw_53 : decode cX0_draw 53 = .ok (.istore 6, 2) := by decide +kernel
theorem dX0_draw_55 : decode cX0_draw 55 = .ok (.aload_n 0, 1) := by decide +kernel
theorem dX0_draw_56 : decode cX0_draw 56 = .ok (.getfield 45, 3) := by decide +kernel
theorem dX0_draw_59 : decode cX0_draw 59 = .ok (.iload_n 2, 1) := by decide +kernel
theorem dX0_draw_60 : decode cX0_draw 60 = .ok (.iload_n 3, 1) := by decide +kernel
theorem dX0_draw_61 : decode cX0_draw 61 = .ok (.iload 4, 2) := by decide +kernel
theorem dX0_draw_63 : decode cX0_draw 63 = .ok (.iload 5, 2) := by decide +kernel
theorem dX0_draw_65 : decode cX0_draw 65 = .ok (.iconst 1, 1) := by decide +kernel
theorem dX0_draw_66 : decode cX0_draw 66 = .ok (.isub, 1) := by decide +kernel
theorem dX0_draw_67 : decode cX0_draw 67 = .ok (.invokestatic 106, 3) := by decide +kernel
theorem dX0_draw_70 : decode cX0_draw 70 = .ok (.invokestatic 109, 3) := by decide +kernel
theorem dX0_draw_73 : decode cX0_draw 73 = .ok (.aload_n 0, 1) := by decide +kernel
theorem dX0_draw_74 : decode cX0_draw 74 = .ok (.getfield 48, 3) := by decide +kernel
theorem dX0_draw_77 : decode cX0_draw 77 = .ok (.iload_n 2, 1) := by decide +kernel
theorem dX0_draw_78 : decode cX0_draw 78 = .ok (.iload_n 3, 1) := by decide +kernel
theorem dX0_draw_79 : decode cX0_draw 79 = .ok (.iload 4, 2) := by decide +kernel
theorem dX0_draw_81 : decode cX0_draw 81 = .ok (.iload 5, 2) := by decide +kernel
theorem dX0_draw_83 : decode cX0_draw 83 = .ok (.invokestatic 106, 3) := by decide +kernel
theorem dX0_draw_86 : decode cX0_draw 86 = .ok (.invokestatic 109, 3) := by decide +kernel
theorem dX0_draw_89 : decode cX0_draw 89 = .ok (.iload 4, 2) := by decide +kernel
theorem dX0_draw_91 : decode cX0_draw 91 = .ok (.istore 7, 2) := by decide +kernel
theorem dX0_draw_93 : decode cX0_draw 93 = .ok (.iload 7, 2) := by decide +kernel
theorem dX0_draw_95 : decode cX0_draw 95 = .ok (.iload 5, 2) := by decide +kernel
theorem dX0_draw_97 : decode cX0_draw 97 = .ok (.if_icmp .gt 25, 3) := by decide +kernel
theorem dX0_draw_100 : decode cX0_draw 100 = .ok (.aload_n 0, 1) := by decide +kernel
theorem dX0_draw_101 : decode cX0_draw 101 = .ok (.getfield 48, 3) := by decide +kernel
theorem dX0_draw_104 : decode cX0_draw 104 = .ok (.iload 6, 2) := by decide +kernel
theorem dX0_draw_106 : decode cX0_draw 106 = .ok (.iload 7, 2) := by decide +kernel
theorem dX0_draw_108 : decode cX0_draw 108 = .ok (.iload_n 3, 1) := by decide +kernel
theorem dX0_draw_109 : decode cX0_draw 109 = .ok (.iload_n 3, 1) := by decide +kernel
theorem dX0_draw_110 : decode cX0_draw 110 = .ok (.invokestatic 106, 3) := by decide +kernel
theorem dX0_draw_113 : decode cX0_draw 113 = .ok (.invokestatic 109, 3) := by decide +kernel
theorem dX0_draw_116 : decode cX0_draw 116 = .ok (.iinc 7 1, 3) := by decide +kernel
theorem dX0_draw_119 : decode cX0_draw 119 = .ok (.goto (-26), 3) := by decide +kernel
theorem dX0_draw_122 : decode cX0_draw 122 = .ok (.return_, 1) := by decide +kernel
theorem dX0_addBits_0 : decode cX0_addBits 0 = .ok (.iload_n 2, 1) := by decide +kernel
theorem dX0_addBits_1 : decode cX0_addBits 1 = .ok (.ifCond .lt 9, 3) := by decide +kernel
theorem dX0_addBits_4 : decode cX0_addBits 4 = .ok (.iload_n 2, 1) := by decide +kernel
theorem dX0_addBits_5 : decode cX0_addBits 5 = .ok (.bipush 13, 2) := by decide +kernel
theorem dX0_addBits_7 : decode cX0_addBits 7 = .ok (.if_icmp .lt 4, 3) := by decide +kernel
theorem dX0_addBits_10 : decode cX0_addBits 10 = .ok (.return_, 1) := by decide +kernel
theorem dX0_addBits_11 : decode cX0_addBits 11 = .ok (.iload_n 1, 1) := by decide +kernel
theorem dX0_addBits_12 : decode cX0_addBits 12 = .ok (.ifCond .ne 7, 3) := by decide +kernel
theorem dX0_addBits_15 : decode cX0_addBits 15 = .ok (.iload_n 2, 1) := by decide +kernel
theorem dX0_addBits_16 : decode cX0_addBits 16 = .ok (.goto 7, 3) := by decide +kernel
theorem dX0_addBits_19 : decode cX0_addBits 19 = .ok (.bipush 13, 2) := by decide +kernel
theorem dX0_addBits_21 : decode cX0_addBits 21 = .ok (.iload_n 2, 1) := by decide +kernel
theorem dX0_addBits_22 : decode cX0_addBits 22 = .ok (.iadd, 1) := by decide +kernel
theorem dX0_addBits_23 : decode cX0_addBits 23 = .ok (.istore 4, 2) := by decide +kernel
theorem dX0_addBits_25 : decode cX0_addBits 25 = .ok (.iload 4, 2) := by decide +kernel
theorem dX0_addBits_27 : decode cX0_addBits 27 = .ok (.aload_n 0, 1) := by decide +kernel
theorem dX0_addBits_28 : decode cX0_addBits 28 = .ok (.arraylength, 1) := by decide +kernel
theorem dX0_addBits_29 : decode cX0_addBits 29 = .ok (.if_icmp .ge 11, 3) := by decide +kernel
theorem dX0_addBits_32 : decode cX0_addBits 32 = .ok (.aload_n 0, 1) := by decide +kernel
theorem dX0_addBits_33 : decode cX0_addBits 33 = .ok (.iload 4, 2) := by decide +kernel
theorem dX0_addBits_35 : decode cX0_addBits 35 = .ok (.dup2, 1) := by decide +kernel
theorem dX0_addBits_36 : decode cX0_addBits 36 = .ok (.iaload, 1) := by decide +kernel
theorem dX0_addBits_37 : decode cX0_addBits 37 = .ok (.iload_n 3, 1) := by decide +kernel
theorem dX0_addBits_38 : decode cX0_addBits 38 = .ok (.ior, 1) := by decide +kernel
theorem dX0_addBits_39 : decode cX0_addBits 39 = .ok (.iastore, 1) := by decide +kernel
theorem dX0_addBits_40 : decode cX0_addBits 40 = .ok (.return_, 1) := by decide +kernel
theorem dX0_bitsOf_0 : decode cX0_bitsOf 0 = .ok (.iload_n 2, 1) := by decide +kernel
theorem dX0_bitsOf_1 : decode cX0_bitsOf 1 = .ok (.ifCond .lt 9, 3) := by decide +kernel
theorem dX0_bitsOf_4 : decode cX0_bitsOf 4 = .ok (.iload_n 2, 1) := by decide +kernel
theorem dX0_bitsOf_5 : decode cX0_bitsOf 5 = .ok (.bipush 13, 2) := by decide +kernel
theorem dX0_bitsOf_7 : decode cX0_bitsOf 7 = .ok (.if_icmp .lt 5, 3) := by decide +kernel
theorem dX0_bitsOf_10 : decode cX0_bitsOf 10 = .ok (.iconst 0, 1) := by decide +kernel
theorem dX0_bitsOf_11 : decode cX0_bitsOf 11 = .ok (.ireturn, 1) := by decide +kernel
theorem dX0_bitsOf_12 : decode cX0_bitsOf 12 = .ok (.iload_n 1, 1) := by decide +kernel
theorem dX0_bitsOf_13 : decode cX0_bitsOf 13 = .ok (.ifCond .ne 7, 3) := by decide +kernel
theorem dX0_bitsOf_16 : decode cX0_bitsOf 16 = .ok (.iload_n 2, 1) := by decide +kernel
theorem dX0_bitsOf_17 : decode cX0_bitsOf 17 = .ok (.goto 7, 3) := by decide +kernel
theorem dX0_bitsOf_20 : decode cX0_bitsOf 20 = .ok (.bipush 13, 2) := by decide +kernel
theorem dX0_bitsOf_22 : decode cX0_bitsOf 22 = .ok (.iload_n 2, 1) := by decide +kernel
theorem dX0_bitsOf_23 : decode cX0_bitsOf 23 = .ok (.iadd, 1) := by decide +kernel
theorem dX0_bitsOf_24 : decode cX0_bitsOf 24 = .ok (.istore_n 3, 1) := by decide +kernel
theorem dX0_bitsOf_25 : decode cX0_bitsOf 25 = .ok (.iload_n 3, 1) := by decide +kernel
theorem dX0_bitsOf_26 : decode cX0_bitsOf 26 = .ok (.aload_n 0, 1) := by decide +kernel
theorem dX0_bitsOf_27 : decode cX0_bitsOf 27 = .ok (.arraylength, 1) := by decide +kernel
theorem dX0_bitsOf_28 : decode cX0_bitsOf 28 = .ok (.if_icmp .ge 9, 3) := by decide +kernel
theorem dX0_bitsOf_31 : decode cX0_bitsOf 31 = .ok (.aload_n 0, 1) := by decide +kernel
theorem dX0_bitsOf_32 : decode cX0_bitsOf 32 = .ok (.iload_n 3, 1) := by decide +kernel
theorem dX0_bitsOf_33 : decode cX0_bitsOf 33 = .ok (.iaload, 1) := by decide +kernel
theorem dX0_bitsOf_34 : decode cX0_bitsOf 34 = .ok (.goto 4, 3) := by decide +kernel
theorem dX0_bitsOf_37 : decode cX0_bitsOf 37 = .ok (.iconst 0, 1) := by decide +kernel
theorem dX0_bitsOf_38 : decode cX0_bitsOf 38 = .ok (.ireturn, 1) := by decide +kernel
theorem dX0_bitsBetween_0 : decode cX0_bitsBetween 0 = .ok (.iconst 1, 1) := by decide +kernel
theorem dX0_bitsBetween_1 : decode cX0_bitsBetween 1 = .ok (.iload_n 1, 1) := by decide +kernel
theorem dX0_bitsBetween_2 : decode cX0_bitsBetween 2 = .ok (.iconst 1, 1) := by decide +kernel
theorem dX0_bitsBetween_3 : decode cX0_bitsBetween 3 = .ok (.iadd, 1) := by decide +kernel
theorem dX0_bitsBetween_4 : decode cX0_bitsBetween 4 = .ok (.ishl, 1) := by decide +kernel
theorem dX0_bitsBetween_5 : decode cX0_bitsBetween 5 = .ok (.iconst 1, 1) := by decide +kernel
theorem dX0_bitsBetween_6 : decode cX0_bitsBetween 6 = .ok (.iload_n 0, 1) := by decide +kernel
theorem dX0_bitsBetween_7 : decode cX0_bitsBetween 7 = .ok (.ishl, 1) := by decide +kernel
theorem dX0_bitsBetween_8 : decode cX0_bitsBetween 8 = .ok (.isub, 1) := by decide +kernel
theorem dX0_bitsBetween_9 : decode cX0_bitsBetween 9 = .ok (.ireturn, 1) := by decide +kernel
theorem dX0_reach_0 : decode cX0_reach 0 = .ok (.aload_n 0, 1) := by decide +kernel
theorem dX0_reach_1 : decode cX0_reach 1 = .ok (.iload_n 1, 1) := by decide +kernel
theorem dX0_reach_2 : decode cX0_reach 2 = .ok (.invokevirtual 87, 3) := by decide +kernel
theorem dX0_reach_5 : decode cX0_reach 5 = .ok (.ifCond .ne 5, 3) := by decide +kernel
theorem dX0_reach_8 : decode cX0_reach 8 = .ok (.iconst 0, 1) := by decide +kernel
theorem dX0_reach_9 : decode cX0_reach 9 = .ok (.ireturn, 1) := by decide +kernel
theorem dX0_reach_10 : decode cX0_reach 10 = .ok (.iload_n 2, 1) := by decide +kernel
theorem dX0_reach_11 : decode cX0_reach 11 = .ok (.ifCond .ne 7, 3) := by decide +kernel
theorem dX0_reach_14 : decode cX0_reach 14 = .ok (.iconst 1, 1) := by decide +kernel
theorem dX0_reach_15 : decode cX0_reach 15 = .ok (.goto 4, 3) := by decide +kernel
theorem dX0_reach_18 : decode cX0_reach 18 = .ok (.iconst 0, 1) := by decide +kernel
theorem dX0_reach_19 : decode cX0_reach 19 = .ok (.istore_n 3, 1) := by decide +kernel
theorem dX0_reach_20 : decode cX0_reach 20 = .ok (.iload_n 3, 1) := by decide +kernel
theorem dX0_reach_21 : decode cX0_reach 21 = .ok (.ifCond .eq 12, 3) := by decide +kernel
theorem dX0_reach_24 : decode cX0_reach 24 = .ok (.aload_n 0, 1) := by decide +kernel
theorem dX0_reach_25 : decode cX0_reach 25 = .ok (.getfield 33, 3) := by decide +kernel
theorem dX0_reach_28 : decode cX0_reach 28 = .ok (.iload_n 1, 1) := by decide +kernel
theorem dX0_reach_29 : decode cX0_reach 29 = .ok (.iaload, 1) := by decide +kernel
theorem dX0_reach_30 : decode cX0_reach 30 = .ok (.goto 9, 3) := by decide +kernel
theorem dX0_reach_33 : decode cX0_reach 33 = .ok (.aload_n 0, 1) := by decide +kernel
theorem dX0_reach_34 : decode cX0_reach 34 = .ok (.getfield 36, 3) := by decide +kernel
theorem dX0_reach_37 : decode cX0_reach 37 = .ok (.iload_n 1, 1) := by decide +kernel
theorem dX0_reach_38 : decode cX0_reach 38 = .ok (.iaload, 1) := by decide +kernel
theorem dX0_reach_39 : decode cX0_reach 39 = .ok (.istore 4, 2) := by decide +kernel
theorem dX0_reach_41 : decode cX0_reach 41 = .ok (.iload_n 3, 1) := by decide +kernel
theorem dX0_reach_42 : decode cX0_reach 42 = .ok (.ifCond .eq 12, 3) := by decide +kernel
theorem dX0_reach_45 : decode cX0_reach 45 = .ok (.aload_n 0, 1) := by decide +kernel
theorem dX0_reach_46 : decode cX0_reach 46 = .ok (.getfield 39, 3) := by decide +kernel
theorem dX0_reach_49 : decode cX0_reach 49 = .ok (.iload_n 1, 1) := by decide +kernel
theorem dX0_reach_50 : decode cX0_reach 50 = .ok (.iaload, 1) := by decide +kernel
theorem dX0_reach_51 : decode cX0_reach 51 = .ok (.goto 9, 3) := by decide +kernel
theorem dX0_reach_54 : decode cX0_reach 54 = .ok (.aload_n 0, 1) := by decide +kernel
theorem dX0_reach_55 : decode cX0_reach 55 = .ok (.getfield 42, 3) := by decide +kernel
theorem dX0_reach_58 : decode cX0_reach 58 = .ok (.iload_n 1, 1) := by decide +kernel
theorem dX0_reach_59 : decode cX0_reach 59 = .ok (.iaload, 1) := by decide +kernel
theorem dX0_reach_60 : decode cX0_reach 60 = .ok (.istore 5, 2) := by decide +kernel
theorem dX0_reach_62 : decode cX0_reach 62 = .ok (.aload_n 0, 1) := by decide +kernel
theorem dX0_reach_63 : decode cX0_reach 63 = .ok (.getfield 45, 3) := by decide +kernel
theorem dX0_reach_66 : decode cX0_reach 66 = .ok (.iload_n 2, 1) := by decide +kernel
theorem dX0_reach_67 : decode cX0_reach 67 = .ok (.iload_n 3, 1) := by decide +kernel
theorem dX0_reach_68 : decode cX0_reach 68 = .ok (.ifCond .eq 12, 3) := by decide +kernel
theorem dX0_reach_71 : decode cX0_reach 71 = .ok (.aload_n 0, 1) := by decide +kernel
theorem dX0_reach_72 : decode cX0_reach 72 = .ok (.getfield 36, 3) := by decide +kernel
theorem dX0_reach_75 : decode cX0_reach 75 = .ok (.iload_n 1, 1) := by decide +kernel
theorem dX0_reach_76 : decode cX0_reach 76 = .ok (.iaload, 1) := by decide +kernel
theorem dX0_reach_77 : decode cX0_reach 77 = .ok (.goto 9, 3) := by decide +kernel
theorem dX0_reach_80 : decode cX0_reach 80 = .ok (.aload_n 0, 1) := by decide +kernel
theorem dX0_reach_81 : decode cX0_reach 81 = .ok (.getfield 33, 3) := by decide +kernel
theorem dX0_reach_84 : decode cX0_reach 84 = .ok (.iload_n 1, 1) := by decide +kernel
theorem dX0_reach_85 : decode cX0_reach 85 = .ok (.iaload, 1) := by decide +kernel
theorem dX0_reach_86 : decode cX0_reach 86 = .ok (.invokestatic 113, 3) := by decide +kernel
theorem dX0_reach_89 : decode cX0_reach 89 = .ok (.istore 6, 2) := by decide +kernel
theorem dX0_reach_91 : decode cX0_reach 91 = .ok (.iload 5, 2) := by decide +kernel
theorem dX0_reach_93 : decode cX0_reach 93 = .ok (.ifCond .le 8, 3) := by decide +kernel
theorem dX0_reach_96 : decode cX0_reach 96 = .ok (.iload 4, 2) := by decide +kernel
theorem dX0_reach_98 : decode cX0_reach 98 = .ok (.goto 7, 3) := by decide +kernel
theorem dX0_reach_101 : decode cX0_reach 101 = .ok (.iload 4, 2) := by decide +kernel
theorem dX0_reach_103 : decode cX0_reach 103 = .ok (.iconst 1, 1) := by decide +kernel
theorem dX0_reach_104 : decode cX0_reach 104 = .ok (.isub, 1) := by decide +kernel
theorem dX0_reach_105 : decode cX0_reach 105 = .ok (.istore 7, 2) := by decide +kernel
theorem dX0_reach_107 : decode cX0_reach 107 = .ok (.iconst 0, 1) := by decide +kernel
theorem dX0_reach_108 : decode cX0_reach 108 = .ok (.istore 8, 2) := by decide +kernel
theorem dX0_reach_110 : decode cX0_reach 110 = .ok (.iload 8, 2) := by decide +kernel
theorem dX0_reach_112 : decode cX0_reach 112 = .ok (.bipush 12, 2) := by decide +kernel
theorem dX0_reach_114 : decode cX0_reach 114 = .ok (.if_icmp .ge 28, 3) := by decide +kernel
theorem dX0_reach_117 : decode cX0_reach 117 = .ok (.iload 6, 2) := by decide +kernel
theorem dX0_reach_119 : decode cX0_reach 119 = .ok (.iload 7, 2) := by decide +kernel
theorem dX0_reach_121 : decode cX0_reach 121 = .ok (.iload 5, 2) := by decide +kernel
theorem dX0_reach_123 : decode cX0_reach 123 = .ok (.iload 8, 2) := by decide +kernel
theorem dX0_reach_125 : decode cX0_reach 125 = .ok (.imul, 1) := by decide +kernel
theorem dX0_reach_126 : decode cX0_reach 126 = .ok (.iadd, 1) := by decide +kernel
theorem dX0_reach_127 : decode cX0_reach 127 = .ok (.invokestatic 117, 3) := by decide +kernel
theorem dX0_reach_130 : decode cX0_reach 130 = .ok (.ifCond .ne 6, 3) := by decide +kernel
theorem dX0_reach_133 : decode cX0_reach 133 = .ok (.iload 8, 2) := by decide +kernel
theorem dX0_reach_135 : decode cX0_reach 135 = .ok (.ireturn, 1) := by decide +kernel
theorem dX0_reach_136 : decode cX0_reach 136 = .ok (.iinc 8 1, 3) := by decide +kernel
theorem dX0_reach_139 : decode cX0_reach 139 = .ok (.goto (-29), 3) := by decide +kernel
theorem dX0_reach_142 : decode cX0_reach 142 = .ok (.bipush 12, 2) := by decide +kernel
theorem dX0_reach_144 : decode cX0_reach 144 = .ok (.ireturn, 1) := by decide +kernel
theorem dX0_reasonAgainst_0 : decode cX0_reasonAgainst 0 = .ok (.iload_n 2, 1) := by decide +kernel
theorem dX0_reasonAgainst_1 : decode cX0_reasonAgainst 1 = .ok (.aload_n 0, 1) := by decide +kernel
theorem dX0_reasonAgainst_2 : decode cX0_reasonAgainst 2 = .ok (.iload_n 1, 1) := by decide +kernel
theorem dX0_reasonAgainst_3 : decode cX0_reasonAgainst 3 = .ok (.iconst 0, 1) := by decide +kernel
theorem dX0_reasonAgainst_4 : decode cX0_reasonAgainst 4 = .ok (.invokevirtual 121, 3) := by decide +kernel
theorem dX0_reasonAgainst_7 : decode cX0_reasonAgainst 7 = .ok (.if_icmp .gt 13, 3) := by decide +kernel
theorem dX0_reasonAgainst_10 : decode cX0_reasonAgainst 10 = .ok (.iload_n 3, 1) := by decide +kernel
theorem dX0_reasonAgainst_11 : decode cX0_reasonAgainst 11 = .ok (.aload_n 0, 1) := by decide +kernel
theorem dX0_reasonAgainst_12 : decode cX0_reasonAgainst 12 = .ok (.iload_n 1, 1) := by decide +kernel
theorem dX0_reasonAgainst_13 : decode cX0_reasonAgainst 13 = .ok (.iconst 1, 1) := by decide +kernel
theorem dX0_reasonAgainst_14 : decode cX0_reasonAgainst 14 = .ok (.invokevirtual 121, 3) := by decide +kernel
theorem dX0_reasonAgainst_17 : decode cX0_reasonAgainst 17 = .ok (.if_icmp .le 5, 3) := by decide +kernel
theorem dX0_reasonAgainst_20 : decode cX0_reasonAgainst 20 = .ok (.iconst 1, 1) := by decide +kernel
theorem dX0_reasonAgainst_21 : decode cX0_reasonAgainst 21 = .ok (.ireturn, 1) := by decide +kernel
theorem dX0_reasonAgainst_22 : decode cX0_reasonAgainst 22 = .ok (.aload_n 0, 1) := by decide +kernel
theorem dX0_reasonAgainst_23 : decode cX0_reasonAgainst 23 = .ok (.iload_n 1, 1) := by decide +kernel
theorem dX0_reasonAgainst_24 : decode cX0_reasonAgainst 24 = .ok (.iload_n 2, 1) := by decide +kernel
theorem dX0_reasonAgainst_25 : decode cX0_reasonAgainst 25 = .ok (.iload_n 3, 1) := by decide +kernel
theorem dX0_reasonAgainst_26 : decode cX0_reasonAgainst 26 = .ok (.invokevirtual 124, 3) := by decide +kernel
theorem dX0_reasonAgainst_29 : decode cX0_reasonAgainst 29 = .ok (.ireturn, 1) := by decide +kernel
theorem dX0_reasonWithinReach_0 : decode cX0_reasonWithinReach 0 = .ok (.aload_n 0, 1) := by decide +kernel
theorem dX0_reasonWithinReach_1 : decode cX0_reasonWithinReach 1 = .ok (.iload_n 1, 1) := by decide +kernel
theorem dX0_reasonWithinReach_2 : decode cX0_reasonWithinReach 2 = .ok (.invokevirtual 87, 3) := by decide +kernel
theorem dX0_reasonWithinReach_5 : decode cX0_reasonWithinReach 5 = .ok (.ifCond .ne 5, 3) := by decide +kernel
theorem dX0_reasonWithinReach_8 : decode cX0_reasonWithinReach 8 = .ok (.iconst 1, 1) := by decide +kernel
theorem dX0_reasonWithinReach_9 : decode cX0_reasonWithinReach 9 = .ok (.ireturn, 1) := by decide +kernel
theorem dX0_reasonWithinReach_10 : decode cX0_reasonWithinReach 10 = .ok (.aload_n 0, 1) := by decide +kernel
theorem dX0_reasonWithinReach_11 : decode cX0_reasonWithinReach 11 = .ok (.getfield 33, 3) := by decide +kernel
theorem dX0_reasonWithinReach_14 : decode cX0_reasonWithinReach 14 = .ok (.iload_n 1, 1) := by decide +kernel
theorem dX0_reasonWithinReach_15 : decode cX0_reasonWithinReach 15 = .ok (.iaload, 1) := by decide +kernel
theorem dX0_reasonWithinReach_16 : decode cX0_reasonWithinReach 16 = .ok (.istore 4, 2) := by decide +kernel
theorem dX0_reasonWithinReach_18 : decode cX0_reasonWithinReach 18 = .ok (.aload_n 0, 1) := by decide +kernel
theorem dX0_reasonWithinReach_19 : decode cX0_reasonWithinReach 19 = .ok (.getfield 36, 3) := by decide +kernel
theorem dX0_reasonWithinReach_22 : decode cX0_reasonWithinReach 22 = .ok (.iload_n 1, 1) := by decide +kernel
theorem dX0_reasonWithinReach_23 : decode cX0_reasonWithinReach 23 = .ok (.iaload, 1) := by decide +kernel
theorem dX0_reasonWithinReach_24 : decode cX0_reasonWithinReach 24 = .ok (.istore 5, 2) := by decide +kernel
theorem dX0_reasonWithinReach_26 : decode cX0_reasonWithinReach 26 = .ok (.aload_n 0, 1) := by decide +kernel
theorem dX0_reasonWithinReach_27 : decode cX0_reasonWithinReach 27 = .ok (.getfield 39, 3) := by decide +kernel
theorem dX0_reasonWithinReach_30 : decode cX0_reasonWithinReach 30 = .ok (.iload_n 1, 1) := by decide +kernel
theorem dX0_reasonWithinReach_31 : decode cX0_reasonWithinReach 31 = .ok (.iaload, 1) := by decide +kernel
theorem dX0_reasonWithinReach_32 : decode cX0_reasonWithinReach 32 = .ok (.istore 6, 2) := by decide +kernel
theorem dX0_reasonWithinReach_34 : decode cX0_reasonWithinReach 34 = .ok (.aload_n 0, 1) := by decide +kernel
theorem dX0_reasonWithinReach_35 : decode cX0_reasonWithinReach 35 = .ok (.getfield 42, 3) := by decide +kernel
theorem dX0_reasonWithinReach_38 : decode cX0_reasonWithinReach 38 = .ok (.iload_n 1, 1) := by decide +kernel
theorem dX0_reasonWithinReach_39 : decode cX0_reasonWithinReach 39 = .ok (.iaload, 1) := by decide +kernel
theorem dX0_reasonWithinReach_40 : decode cX0_reasonWithinReach 40 = .ok (.istore 7, 2) := by decide +kernel
theorem dX0_reasonWithinReach_42 : decode cX0_reasonWithinReach 42 = .ok (.iload 4, 2) := by decide +kernel
theorem dX0_reasonWithinReach_44 : decode cX0_reasonWithinReach 44 = .ok (.iload 6, 2) := by decide +kernel
theorem dX0_reasonWithinReach_46 : decode cX0_reasonWithinReach 46 = .ok (.iload_n 2, 1) := by decide +kernel
theorem dX0_reasonWithinReach_47 : decode cX0_reasonWithinReach 47 = .ok (.imul, 1) := by decide +kernel
theorem dX0_reasonWithinReach_48 : decode cX0_reasonWithinReach 48 = .ok (.iadd, 1) := by decide +kernel
theorem dX0_reasonWithinReach_49 : decode cX0_reasonWithinReach 49 = .ok (.istore 8, 2) := by decide +kernel
theorem dX0_reasonWithinReach_51 : decode cX0_reasonWithinReach 51 = .ok (.iload 5, 2) := by decide +kernel
theorem dX0_reasonWithinReach_53 : decode cX0_reasonWithinReach 53 = .ok (.iload 7, 2) := by decide +kernel
theorem dX0_reasonWithinReach_55 : decode cX0_reasonWithinReach 55 = .ok (.iload_n 3, 1) := by decide +kernel
theorem dX0_reasonWithinReach_56 : decode cX0_reasonWithinReach 56 = .ok (.imul, 1) := by decide +kernel
theorem dX0_reasonWithinReach_57 : decode cX0_reasonWithinReach 57 = .ok (.iadd, 1) := by decide +kernel
theorem dX0_reasonWithinReach_58 : decode cX0_reasonWithinReach 58 = .ok (.istore 9, 2) := by decide +kernel
theorem dX0_reasonWithinReach_60 : decode cX0_reasonWithinReach 60 = .ok (.iload 8, 2) := by decide +kernel
theorem dX0_reasonWithinReach_62 : decode cX0_reasonWithinReach 62 = .ok (.iload 9, 2) := by decide +kernel
theorem dX0_reasonWithinReach_64 : decode cX0_reasonWithinReach 64 = .ok (.iadd, 1) := by decide +kernel
theorem dX0_reasonWithinReach_65 : decode cX0_reasonWithinReach 65 = .ok (.aload_n 0, 1) := by decide +kernel
theorem dX0_reasonWithinReach_66 : decode cX0_reasonWithinReach 66 = .ok (.getfield 55, 3) := by decide +kernel
theorem dX0_reasonWithinReach_69 : decode cX0_reasonWithinReach 69 = .ok (.if_icmp .le 5, 3) := by decide +kernel
theorem dX0_reasonWithinReach_72 : decode cX0_reasonWithinReach 72 = .ok (.iconst 2, 1) := by decide +kernel
theorem dX0_reasonWithinReach_73 : decode cX0_reasonWithinReach 73 = .ok (.ireturn, 1) := by decide +kernel
theorem dX0_reasonWithinReach_74 : decode cX0_reasonWithinReach 74 = .ok (.aload_n 0, 1) := by decide +kernel
theorem dX0_reasonWithinReach_75 : decode cX0_reasonWithinReach 75 = .ok (.iconst 1, 1) := by decide +kernel
theorem dX0_reasonWithinReach_76 : decode cX0_reasonWithinReach 76 = .ok (.iload 8, 2) := by decide +kernel
theorem dX0_reasonWithinReach_78 : decode cX0_reasonWithinReach 78 = .ok (.iload 5, 2) := by decide +kernel
theorem dX0_reasonWithinReach_80 : decode cX0_reasonWithinReach 80 = .ok (.iload 7, 2) := by decide +kernel
theorem dX0_reasonWithinReach_82 : decode cX0_reasonWithinReach 82 = .ok (.iload_n 3, 1) := by decide +kernel
theorem dX0_reasonWithinReach_83 : decode cX0_reasonWithinReach 83 = .ok (.invokevirtual 128, 3) := by decide +kernel
theorem dX0_reasonWithinReach_86 : decode cX0_reasonWithinReach 86 = .ok (.ifCond .ne 18, 3) := by decide +kernel
theorem dX0_reasonWithinReach_89 : decode cX0_reasonWithinReach 89 = .ok (.aload_n 0, 1) := by decide +kernel
theorem dX0_reasonWithinReach_90 : decode cX0_reasonWithinReach 90 = .ok (.iconst 0, 1) := by decide +kernel
theorem dX0_reasonWithinReach_91 : decode cX0_reasonWithinReach 91 = .ok (.iload 9, 2) := by decide +kernel
theorem dX0_reasonWithinReach_93 : decode cX0_reasonWithinReach 93 = .ok (.iload 4, 2) := by decide +kernel
theorem dX0_reasonWithinReach_95 : decode cX0_reasonWithinReach 95 = .ok (.iload 6, 2) := by decide +kernel
theorem dX0_reasonWithinReach_97 : decode cX0_reasonWithinReach 97 = .ok (.iload_n 2, 1) := by decide +kernel
theorem dX0_reasonWithinReach_98 : decode cX0_reasonWithinReach 98 = .ok (.invokevirtual 128, 3) := by decide +kernel
theorem dX0_reasonWithinReach_101 : decode cX0_reasonWithinReach 101 = .ok (.ifCond .eq 7, 3) := by decide +kernel
theorem dX0_reasonWithinReach_104 : decode cX0_reasonWithinReach 104 = .ok (.iconst 1, 1) := by decide +kernel
theorem dX0_reasonWithinReach_105 : decode cX0_reasonWithinReach 105 = .ok (.goto 4, 3) := by decide +kernel
theorem dX0_reasonWithinReach_108 : decode cX0_reasonWithinReach 108 = .ok (.iconst 0, 1) := by decide +kernel
theorem dX0_reasonWithinReach_109 : decode cX0_reasonWithinReach 109 = .ok (.istore 10, 2) := by decide +kernel
theorem dX0_reasonWithinReach_111 : decode cX0_reasonWithinReach 111 = .ok (.iload 10, 2) := by decide +kernel
theorem dX0_reasonWithinReach_113 : decode cX0_reasonWithinReach 113 = .ok (.ifCond .eq 7, 3) := by decide +kernel
theorem dX0_reasonWithinReach_116 : decode cX0_reasonWithinReach 116 = .ok (.iconst 3, 1) := by decide +kernel
theorem dX0_reasonWithinReach_117 : decode cX0_reasonWithinReach 117 = .ok (.goto 4, 3) := by decide +kernel
theorem dX0_reasonWithinReach_120 : decode cX0_reasonWithinReach 120 = .ok (.iconst 0, 1) := by decide +kernel
theorem dX0_reasonWithinReach_121 : decode cX0_reasonWithinReach 121 = .ok (.ireturn, 1) := by decide +kernel
theorem dX0_isAnyTaken_0 : decode cX0_isAnyTaken 0 = .ok (.iload_n 3, 1) := by decide +kernel
theorem dX0_isAnyTaken_1 : decode cX0_isAnyTaken 1 = .ok (.iload 4, 2) := by decide +kernel
theorem dX0_isAnyTaken_3 : decode cX0_isAnyTaken 3 = .ok (.iadd, 1) := by decide +kernel
theorem dX0_isAnyTaken_4 : decode cX0_isAnyTaken 4 = .ok (.istore 6, 2) := by decide +kernel
theorem dX0_isAnyTaken_6 : decode cX0_isAnyTaken 6 = .ok (.iload_n 3, 1) := by decide +kernel
theorem dX0_isAnyTaken_7 : decode cX0_isAnyTaken 7 = .ok (.iload 4, 2) := by decide +kernel
theorem dX0_isAnyTaken_9 : decode cX0_isAnyTaken 9 = .ok (.iload 5, 2) := by decide +kernel
theorem dX0_isAnyTaken_11 : decode cX0_isAnyTaken 11 = .ok (.imul, 1) := by decide +kernel
theorem dX0_isAnyTaken_12 : decode cX0_isAnyTaken 12 = .ok (.iadd, 1) := by decide +kernel
theorem dX0_isAnyTaken_13 : decode cX0_isAnyTaken 13 = .ok (.istore 7, 2) := by decide +kernel
theorem dX0_isAnyTaken_15 : decode cX0_isAnyTaken 15 = .ok (.iload 6, 2) := by decide +kernel
theorem dX0_isAnyTaken_17 : decode cX0_isAnyTaken 17 = .ok (.iload 7, 2) := by decide +kernel
theorem dX0_isAnyTaken_19 : decode cX0_isAnyTaken 19 = .ok (.invokestatic 91, 3) := by decide +kernel
theorem dX0_isAnyTaken_22 : decode cX0_isAnyTaken 22 = .ok (.iload 6, 2) := by decide +kernel
theorem dX0_isAnyTaken_24 : decode cX0_isAnyTaken 24 = .ok (.iload 7, 2) := by decide +kernel
theorem dX0_isAnyTaken_26 : decode cX0_isAnyTaken 26 = .ok (.invokestatic 132, 3) := by decide +kernel
theorem dX0_isAnyTaken_29 : decode cX0_isAnyTaken 29 = .ok (.invokestatic 106, 3) := by decide +kernel
theorem dX0_isAnyTaken_32 : decode cX0_isAnyTaken 32 = .ok (.istore 8, 2) := by decide +kernel
theorem dX0_isAnyTaken_34 : decode cX0_isAnyTaken 34 = .ok (.aload_n 0, 1) := by decide +kernel
theorem dX0_isAnyTaken_35 : decode cX0_isAnyTaken 35 = .ok (.getfield 48, 3) := by decide +kernel
theorem dX0_isAnyTaken_38 : decode cX0_isAnyTaken 38 = .ok (.iload_n 1, 1) := by decide +kernel
theorem dX0_isAnyTaken_39 : decode cX0_isAnyTaken 39 = .ok (.iload_n 2, 1) := by decide +kernel
theorem dX0_isAnyTaken_40 : decode cX0_isAnyTaken 40 = .ok (.invokestatic 113, 3) := by decide +kernel
theorem dX0_isAnyTaken_43 : decode cX0_isAnyTaken 43 = .ok (.iload 8, 2) := by decide +kernel
theorem dX0_isAnyTaken_45 : decode cX0_isAnyTaken 45 = .ok (.iand, 1) := by decide +kernel
theorem dX0_isAnyTaken_46 : decode cX0_isAnyTaken 46 = .ok (.ifCond .eq 7, 3) := by decide +kernel
theorem dX0_isAnyTaken_49 : decode cX0_isAnyTaken 49 = .ok (.iconst 1, 1) := by decide +kernel
theorem dX0_isAnyTaken_50 : decode cX0_isAnyTaken 50 = .ok (.goto 4, 3) := by decide +kernel
theorem dX0_isAnyTaken_53 : decode cX0_isAnyTaken 53 = .ok (.iconst 0, 1) := by decide +kernel
theorem dX0_isAnyTaken_54 : decode cX0_isAnyTaken 54 = .ok (.ireturn, 1) := by decide +kernel
theorem dX0_firstP_0 : decode cX0_firstP 0 = .ok (.aload_n 0, 1) := by decide +kernel
theorem dX0_firstP_1 : decode cX0_firstP 1 = .ok (.iload_n 1, 1) := by decide +kernel
theorem dX0_firstP_2 : decode cX0_firstP 2 = .ok (.invokevirtual 135, 3) := by decide +kernel
theorem dX0_firstP_5 : decode cX0_firstP 5 = .ok (.ifCond .ne 5, 3) := by decide +kernel
theorem dX0_firstP_8 : decode cX0_firstP 8 = .ok (.iconst 0, 1) := by decide +kernel
theorem dX0_firstP_9 : decode cX0_firstP 9 = .ok (.ireturn, 1) := by decide +kernel
theorem dX0_firstP_10 : decode cX0_firstP 10 = .ok (.aload_n 0, 1) := by decide +kernel
theorem dX0_firstP_11 : decode cX0_firstP 11 = .ok (.getfield 21, 3) := by decide +kernel
theorem dX0_firstP_14 : decode cX0_firstP 14 = .ok (.iload_n 1, 1) := by decide +kernel
theorem dX0_firstP_15 : decode cX0_firstP 15 = .ok (.iaload, 1) := by decide +kernel
theorem dX0_firstP_16 : decode cX0_firstP 16 = .ok (.ifCond .ne 12, 3) := by decide +kernel
theorem dX0_firstP_19 : decode cX0_firstP 19 = .ok (.aload_n 0, 1) := by decide +kernel
theorem dX0_firstP_20 : decode cX0_firstP 20 = .ok (.getfield 27, 3) := by decide +kernel
theorem dX0_firstP_23 : decode cX0_firstP 23 = .ok (.iload_n 1, 1) := by decide +kernel
theorem dX0_firstP_24 : decode cX0_firstP 24 = .ok (.iaload, 1) := by decide +kernel
theorem dX0_firstP_25 : decode cX0_firstP 25 = .ok (.goto 9, 3) := by decide +kernel
theorem dX0_firstP_28 : decode cX0_firstP 28 = .ok (.aload_n 0, 1) := by decide +kernel
theorem dX0_firstP_29 : decode cX0_firstP 29 = .ok (.getfield 24, 3) := by decide +kernel
theorem dX0_firstP_32 : decode cX0_firstP 32 = .ok (.iload_n 1, 1) := by decide +kernel
theorem dX0_firstP_33 : decode cX0_firstP 33 = .ok (.iaload, 1) := by decide +kernel
theorem dX0_firstP_34 : decode cX0_firstP 34 = .ok (.ireturn, 1) := by decide +kernel
theorem dX0_firstQ_0 : decode cX0_firstQ 0 = .ok (.aload_n 0, 1) := by decide +kernel
theorem dX0_firstQ_1 : decode cX0_firstQ 1 = .ok (.iload_n 1, 1) := by decide +kernel
theorem dX0_firstQ_2 : decode cX0_firstQ 2 = .ok (.invokevirtual 135, 3) := by decide +kernel
theorem dX0_firstQ_5 : decode cX0_firstQ 5 = .ok (.ifCond .ne 5, 3) := by decide +kernel
theorem dX0_firstQ_8 : decode cX0_firstQ 8 = .ok (.iconst 0, 1) := by decide +kernel
theorem dX0_firstQ_9 : decode cX0_firstQ 9 = .ok (.ireturn, 1) := by decide +kernel
theorem dX0_firstQ_10 : decode cX0_firstQ 10 = .ok (.aload_n 0, 1) := by decide +kernel
theorem dX0_firstQ_11 : decode cX0_firstQ 11 = .ok (.getfield 21, 3) := by decide +kernel
theorem dX0_firstQ_14 : decode cX0_firstQ 14 = .ok (.iload_n 1, 1) := by decide +kernel
theorem dX0_firstQ_15 : decode cX0_firstQ 15 = .ok (.iaload, 1) := by decide +kernel
theorem dX0_firstQ_16 : decode cX0_firstQ 16 = .ok (.iconst 1, 1) := by decide +kernel
theorem dX0_firstQ_17 : decode cX0_firstQ 17 = .ok (.if_icmp .ne 12, 3) := by decide +kernel
theorem dX0_firstQ_20 : decode cX0_firstQ 20 = .ok (.aload_n 0, 1) := by decide +kernel
theorem dX0_firstQ_21 : decode cX0_firstQ 21 = .ok (.getfield 27, 3) := by decide +kernel
theorem dX0_firstQ_24 : decode cX0_firstQ 24 = .ok (.iload_n 1, 1) := by decide +kernel
theorem dX0_firstQ_25 : decode cX0_firstQ 25 = .ok (.iaload, 1) := by decide +kernel
theorem dX0_firstQ_26 : decode cX0_firstQ 26 = .ok (.goto 9, 3) := by decide +kernel
theorem dX0_firstQ_29 : decode cX0_firstQ 29 = .ok (.aload_n 0, 1) := by decide +kernel
theorem dX0_firstQ_30 : decode cX0_firstQ 30 = .ok (.getfield 24, 3) := by decide +kernel
theorem dX0_firstQ_33 : decode cX0_firstQ 33 = .ok (.iload_n 1, 1) := by decide +kernel
theorem dX0_firstQ_34 : decode cX0_firstQ 34 = .ok (.iaload, 1) := by decide +kernel
theorem dX0_firstQ_35 : decode cX0_firstQ 35 = .ok (.ireturn, 1) := by decide +kernel
theorem dX0_lastP_0 : decode cX0_lastP 0 = .ok (.aload_n 0, 1) := by decide +kernel
theorem dX0_lastP_1 : decode cX0_lastP 1 = .ok (.iload_n 1, 1) := by decide +kernel
theorem dX0_lastP_2 : decode cX0_lastP 2 = .ok (.invokevirtual 135, 3) := by decide +kernel
theorem dX0_lastP_5 : decode cX0_lastP 5 = .ok (.ifCond .ne 5, 3) := by decide +kernel
theorem dX0_lastP_8 : decode cX0_lastP 8 = .ok (.iconst 0, 1) := by decide +kernel
theorem dX0_lastP_9 : decode cX0_lastP 9 = .ok (.ireturn, 1) := by decide +kernel
theorem dX0_lastP_10 : decode cX0_lastP 10 = .ok (.aload_n 0, 1) := by decide +kernel
theorem dX0_lastP_11 : decode cX0_lastP 11 = .ok (.getfield 21, 3) := by decide +kernel
theorem dX0_lastP_14 : decode cX0_lastP 14 = .ok (.iload_n 1, 1) := by decide +kernel
theorem dX0_lastP_15 : decode cX0_lastP 15 = .ok (.iaload, 1) := by decide +kernel
theorem dX0_lastP_16 : decode cX0_lastP 16 = .ok (.ifCond .ne 19, 3) := by decide +kernel
theorem dX0_lastP_19 : decode cX0_lastP 19 = .ok (.aload_n 0, 1) := by decide +kernel
theorem dX0_lastP_20 : decode cX0_lastP 20 = .ok (.getfield 27, 3) := by decide +kernel
theorem dX0_lastP_23 : decode cX0_lastP 23 = .ok (.iload_n 1, 1) := by decide +kernel
theorem dX0_lastP_24 : decode cX0_lastP 24 = .ok (.iaload, 1) := by decide +kernel
theorem dX0_lastP_25 : decode cX0_lastP 25 = .ok (.aload_n 0, 1) := by decide +kernel
theorem dX0_lastP_26 : decode cX0_lastP 26 = .ok (.getfield 30, 3) := by decide +kernel
theorem dX0_lastP_29 : decode cX0_lastP 29 = .ok (.iload_n 1, 1) := by decide +kernel
theorem dX0_lastP_30 : decode cX0_lastP 30 = .ok (.iaload, 1) := by decide +kernel
theorem dX0_lastP_31 : decode cX0_lastP 31 = .ok (.iadd, 1) := by decide +kernel
theorem dX0_lastP_32 : decode cX0_lastP 32 = .ok (.goto 9, 3) := by decide +kernel
theorem dX0_lastP_35 : decode cX0_lastP 35 = .ok (.aload_n 0, 1) := by decide +kernel
theorem dX0_lastP_36 : decode cX0_lastP 36 = .ok (.getfield 24, 3) := by decide +kernel
theorem dX0_lastP_39 : decode cX0_lastP 39 = .ok (.iload_n 1, 1) := by decide +kernel
theorem dX0_lastP_40 : decode cX0_lastP 40 = .ok (.iaload, 1) := by decide +kernel
theorem dX0_lastP_41 : decode cX0_lastP 41 = .ok (.ireturn, 1) := by decide +kernel
theorem dX0_lastQ_0 : decode cX0_lastQ 0 = .ok (.aload_n 0, 1) := by decide +kernel
theorem dX0_lastQ_1 : decode cX0_lastQ 1 = .ok (.iload_n 1, 1) := by decide +kernel
theorem dX0_lastQ_2 : decode cX0_lastQ 2 = .ok (.invokevirtual 135, 3) := by decide +kernel
theorem dX0_lastQ_5 : decode cX0_lastQ 5 = .ok (.ifCond .ne 5, 3) := by decide +kernel
theorem dX0_lastQ_8 : decode cX0_lastQ 8 = .ok (.iconst 0, 1) := by decide +kernel
theorem dX0_lastQ_9 : decode cX0_lastQ 9 = .ok (.ireturn, 1) := by decide +kernel
theorem dX0_lastQ_10 : decode cX0_lastQ 10 = .ok (.aload_n 0, 1) := by decide +kernel
theorem dX0_lastQ_11 : decode cX0_lastQ 11 = .ok (.getfield 21, 3) := by decide +kernel
theorem dX0_lastQ_14 : decode cX0_lastQ 14 = .ok (.iload_n 1, 1) := by decide +kernel
theorem dX0_lastQ_15 : decode cX0_lastQ 15 = .ok (.iaload, 1) := by decide +kernel
theorem dX0_lastQ_16 : decode cX0_lastQ 16 = .ok (.iconst 1, 1) := by decide +kernel
theorem dX0_lastQ_17 : decode cX0_lastQ 17 = .ok (.if_icmp .ne 19, 3) := by decide +kernel
theorem dX0_lastQ_20 : decode cX0_lastQ 20 = .ok (.aload_n 0, 1) := by decide +kernel
theorem dX0_lastQ_21 : decode cX0_lastQ 21 = .ok (.getfield 27, 3) := by decide +kernel
theorem dX0_lastQ_24 : decode cX0_lastQ 24 = .ok (.iload_n 1, 1) := by decide +kernel
theorem dX0_lastQ_25 : decode cX0_lastQ 25 = .ok (.iaload, 1) := by decide +kernel
theorem dX0_lastQ_26 : decode cX0_lastQ 26 = .ok (.aload_n 0, 1) := by decide +kernel
theorem dX0_lastQ_27 : decode cX0_lastQ 27 = .ok (.getfield 30, 3) := by decide +kernel
theorem dX0_lastQ_30 : decode cX0_lastQ 30 = .ok (.iload_n 1, 1) := by decide +kernel
theorem dX0_lastQ_31 : decode cX0_lastQ 31 = .ok (.iaload, 1) := by decide +kernel
theorem dX0_lastQ_32 : decode cX0_lastQ 32 = .ok (.iadd, 1) := by decide +kernel
theorem dX0_lastQ_33 : decode cX0_lastQ 33 = .ok (.goto 9, 3) := by decide +kernel
theorem dX0_lastQ_36 : decode cX0_lastQ 36 = .ok (.aload_n 0, 1) := by decide +kernel
theorem dX0_lastQ_37 : decode cX0_lastQ 37 = .ok (.getfield 24, 3) := by decide +kernel
theorem dX0_lastQ_40 : decode cX0_lastQ 40 = .ok (.iload_n 1, 1) := by decide +kernel
theorem dX0_lastQ_41 : decode cX0_lastQ 41 = .ok (.iaload, 1) := by decide +kernel
theorem dX0_lastQ_42 : decode cX0_lastQ 42 = .ok (.ireturn, 1) := by decide +kernel
theorem dX0_facesOn_0 : decode cX0_facesOn 0 = .ok (.iconst 0, 1) := by decide +kernel
theorem dX0_facesOn_1 : decode cX0_facesOn 1 = .ok (.istore_n 3, 1) := by decide +kernel
theorem dX0_facesOn_2 : decode cX0_facesOn 2 = .ok (.iconst 0, 1) := by decide +kernel
theorem dX0_facesOn_3 : decode cX0_facesOn 3 = .ok (.istore 4, 2) := by decide +kernel
theorem dX0_facesOn_5 : decode cX0_facesOn 5 = .ok (.iload 4, 2) := by decide +kernel
theorem dX0_facesOn_7 : decode cX0_facesOn 7 = .ok (.aload_n 0, 1) := by decide +kernel
theorem dX0_facesOn_8 : decode cX0_facesOn 8 = .ok (.invokevirtual 76, 3) := by decide +kernel
theorem dX0_facesOn_11 : decode cX0_facesOn 11 = .ok (.if_icmp .ge 50, 3) := by decide +kernel
theorem dX0_facesOn_14 : decode cX0_facesOn 14 = .ok (.iload_n 1, 1) := by decide +kernel
theorem dX0_facesOn_15 : decode cX0_facesOn 15 = .ok (.aload_n 0, 1) := by decide +kernel
theorem dX0_facesOn_16 : decode cX0_facesOn 16 = .ok (.iload 4, 2) := by decide +kernel
theorem dX0_facesOn_18 : decode cX0_facesOn 18 = .ok (.invokevirtual 138, 3) := by decide +kernel
theorem dX0_facesOn_21 : decode cX0_facesOn 21 = .ok (.aload_n 0, 1) := by decide +kernel
theorem dX0_facesOn_22 : decode cX0_facesOn 22 = .ok (.iload 4, 2) := by decide +kernel
theorem dX0_facesOn_24 : decode cX0_facesOn 24 = .ok (.invokevirtual 142, 3) := by decide +kernel
theorem dX0_facesOn_27 : decode cX0_facesOn 27 = .ok (.invokestatic 145, 3) := by decide +kernel
theorem dX0_facesOn_30 : decode cX0_facesOn 30 = .ok (.ifCond .eq 25, 3) := by decide +kernel
theorem dX0_facesOn_33 : decode cX0_facesOn 33 = .ok (.iload_n 2, 1) := by decide +kernel
theorem dX0_facesOn_34 : decode cX0_facesOn 34 = .ok (.aload_n 0, 1) := by decide +kernel
theorem dX0_facesOn_35 : decode cX0_facesOn 35 = .ok (.iload 4, 2) := by decide +kernel
theorem dX0_facesOn_37 : decode cX0_facesOn 37 = .ok (.invokevirtual 149, 3) := by decide +kernel
theorem dX0_facesOn_40 : decode cX0_facesOn 40 = .ok (.aload_n 0, 1) := by decide +kernel
theorem dX0_facesOn_41 : decode cX0_facesOn 41 = .ok (.iload 4, 2) := by decide +kernel
theorem dX0_facesOn_43 : decode cX0_facesOn 43 = .ok (.invokevirtual 152, 3) := by decide +kernel
theorem dX0_facesOn_46 : decode cX0_facesOn 46 = .ok (.invokestatic 145, 3) := by decide +kernel
theorem dX0_facesOn_49 : decode cX0_facesOn 49 = .ok (.ifCond .eq 6, 3) := by decide +kernel
theorem dX0_facesOn_52 : decode cX0_facesOn 52 = .ok (.iinc 3 1, 3) := by decide +kernel
theorem dX0_facesOn_55 : decode cX0_facesOn 55 = .ok (.iinc 4 1, 3) := by decide +kernel
theorem dX0_facesOn_58 : decode cX0_facesOn 58 = .ok (.goto (-53), 3) := by decide +kernel
theorem dX0_facesOn_61 : decode cX0_facesOn 61 = .ok (.iload_n 3, 1) := by decide +kernel
theorem dX0_facesOn_62 : decode cX0_facesOn 62 = .ok (.ireturn, 1) := by decide +kernel
theorem dX0_placesOnFaces_0 : decode cX0_placesOnFaces 0 = .ok (.iconst 0, 1) := by decide +kernel
theorem dX0_placesOnFaces_1 : decode cX0_placesOnFaces 1 = .ok (.istore_n 1, 1) := by decide +kernel
theorem dX0_placesOnFaces_2 : decode cX0_placesOnFaces 2 = .ok (.iconst 0, 1) := by decide +kernel
theorem dX0_placesOnFaces_3 : decode cX0_placesOnFaces 3 = .ok (.istore_n 2, 1) := by decide +kernel
theorem dX0_placesOnFaces_4 : decode cX0_placesOnFaces 4 = .ok (.iload_n 2, 1) := by decide +kernel
theorem dX0_placesOnFaces_5 : decode cX0_placesOnFaces 5 = .ok (.bipush 13, 2) := by decide +kernel
theorem dX0_placesOnFaces_7 : decode cX0_placesOnFaces 7 = .ok (.if_icmp .ge 24, 3) := by decide +kernel
theorem dX0_placesOnFaces_10 : decode cX0_placesOnFaces 10 = .ok (.iload_n 1, 1) := by decide +kernel
theorem dX0_placesOnFaces_11 : decode cX0_placesOnFaces 11 = .ok (.aload_n 0, 1) := by decide +kernel
theorem dX0_placesOnFaces_12 : decode cX0_placesOnFaces 12 = .ok (.getfield 48, 3) := by decide +kernel
theorem dX0_placesOnFaces_15 : decode cX0_placesOnFaces 15 = .ok (.iconst 0, 1) := by decide +kernel
theorem dX0_placesOnFaces_16 : decode cX0_placesOnFaces 16 = .ok (.iload_n 2, 1) := by decide +kernel
theorem dX0_placesOnFaces_17 : decode cX0_placesOnFaces 17 = .ok (.invokestatic 113, 3) := by decide +kernel
theorem dX0_placesOnFaces_20 : decode cX0_placesOnFaces 20 = .ok (.invokestatic 155, 3) := by decide +kernel
theorem dX0_placesOnFaces_23 : decode cX0_placesOnFaces 23 = .ok (.iadd, 1) := by decide +kernel
theorem dX0_placesOnFaces_24 : decode cX0_placesOnFaces 24 = .ok (.istore_n 1, 1) := by decide +kernel
theorem dX0_placesOnFaces_25 : decode cX0_placesOnFaces 25 = .ok (.iinc 2 1, 3) := by decide +kernel
theorem dX0_placesOnFaces_28 : decode cX0_placesOnFaces 28 = .ok (.goto (-24), 3) := by decide +kernel
theorem dX0_placesOnFaces_31 : decode cX0_placesOnFaces 31 = .ok (.iload_n 1, 1) := by decide +kernel
theorem dX0_placesOnFaces_32 : decode cX0_placesOnFaces 32 = .ok (.ireturn, 1) := by decide +kernel
theorem dX0_sumOfSizes_0 : decode cX0_sumOfSizes 0 = .ok (.iconst 0, 1) := by decide +kernel
theorem dX0_sumOfSizes_1 : decode cX0_sumOfSizes 1 = .ok (.istore_n 1, 1) := by decide +kernel
theorem dX0_sumOfSizes_2 : decode cX0_sumOfSizes 2 = .ok (.iconst 0, 1) := by decide +kernel
theorem dX0_sumOfSizes_3 : decode cX0_sumOfSizes 3 = .ok (.istore_n 2, 1) := by decide +kernel
theorem dX0_sumOfSizes_4 : decode cX0_sumOfSizes 4 = .ok (.iload_n 2, 1) := by decide +kernel
theorem dX0_sumOfSizes_5 : decode cX0_sumOfSizes 5 = .ok (.aload_n 0, 1) := by decide +kernel
theorem dX0_sumOfSizes_6 : decode cX0_sumOfSizes 6 = .ok (.getfield 59, 3) := by decide +kernel
theorem dX0_sumOfSizes_9 : decode cX0_sumOfSizes 9 = .ok (.if_icmp .ge 31, 3) := by decide +kernel
theorem dX0_sumOfSizes_12 : decode cX0_sumOfSizes 12 = .ok (.iload_n 2, 1) := by decide +kernel
theorem dX0_sumOfSizes_13 : decode cX0_sumOfSizes 13 = .ok (.bipush 6, 2) := by decide +kernel
theorem dX0_sumOfSizes_15 : decode cX0_sumOfSizes 15 = .ok (.if_icmp .ge 25, 3) := by decide +kernel
theorem dX0_sumOfSizes_18 : decode cX0_sumOfSizes 18 = .ok (.iload_n 1, 1) := by decide +kernel
theorem dX0_sumOfSizes_19 : decode cX0_sumOfSizes 19 = .ok (.aload_n 0, 1) := by decide +kernel
theorem dX0_sumOfSizes_20 : decode cX0_sumOfSizes 20 = .ok (.getfield 15, 3) := by decide +kernel
theorem dX0_sumOfSizes_23 : decode cX0_sumOfSizes 23 = .ok (.iload_n 2, 1) := by decide +kernel
theorem dX0_sumOfSizes_24 : decode cX0_sumOfSizes 24 = .ok (.iaload, 1) := by decide +kernel
theorem dX0_sumOfSizes_25 : decode cX0_sumOfSizes 25 = .ok (.aload_n 0, 1) := by decide +kernel
theorem dX0_sumOfSizes_26 : decode cX0_sumOfSizes 26 = .ok (.getfield 18, 3) := by decide +kernel
theorem dX0_sumOfSizes_29 : decode cX0_sumOfSizes 29 = .ok (.iload_n 2, 1) := by decide +kernel
theorem dX0_sumOfSizes_30 : decode cX0_sumOfSizes 30 = .ok (.iaload, 1) := by decide +kernel
theorem dX0_sumOfSizes_31 : decode cX0_sumOfSizes 31 = .ok (.imul, 1) := by decide +kernel
theorem dX0_sumOfSizes_32 : decode cX0_sumOfSizes 32 = .ok (.iadd, 1) := by decide +kernel
theorem dX0_sumOfSizes_33 : decode cX0_sumOfSizes 33 = .ok (.istore_n 1, 1) := by decide +kernel
theorem dX0_sumOfSizes_34 : decode cX0_sumOfSizes 34 = .ok (.iinc 2 1, 3) := by decide +kernel
theorem dX0_sumOfSizes_37 : decode cX0_sumOfSizes 37 = .ok (.goto (-33), 3) := by decide +kernel
theorem dX0_sumOfSizes_40 : decode cX0_sumOfSizes 40 = .ok (.iload_n 1, 1) := by decide +kernel
theorem dX0_sumOfSizes_41 : decode cX0_sumOfSizes 41 = .ok (.ireturn, 1) := by decide +kernel
theorem dX0_leastAcross_0 : decode cX0_leastAcross 0 = .ok (.iload_n 1, 1) := by decide +kernel
theorem dX0_leastAcross_1 : decode cX0_leastAcross 1 = .ok (.iconst 0, 1) := by decide +kernel
theorem dX0_leastAcross_2 : decode cX0_leastAcross 2 = .ok (.iconst 0, 1) := by decide +kernel
theorem dX0_leastAcross_3 : decode cX0_leastAcross 3 = .ok (.invokestatic 160, 3) := by decide +kernel
theorem dX0_leastAcross_6 : decode cX0_leastAcross 6 = .ok (.istore_n 2, 1) := by decide +kernel
theorem dX0_leastAcross_7 : decode cX0_leastAcross 7 = .ok (.iconst 0, 1) := by decide +kernel
theorem dX0_leastAcross_8 : decode cX0_leastAcross 8 = .ok (.istore_n 3, 1) := by decide +kernel
theorem dX0_leastAcross_9 : decode cX0_leastAcross 9 = .ok (.iload_n 3, 1) := by decide +kernel
theorem dX0_leastAcross_10 : decode cX0_leastAcross 10 = .ok (.aload_n 0, 1) := by decide +kernel
theorem dX0_leastAcross_11 : decode cX0_leastAcross 11 = .ok (.invokevirtual 76, 3) := by decide +kernel
theorem dX0_leastAcross_14 : decode cX0_leastAcross 14 = .ok (.if_icmp .ge 47, 3) := by decide +kernel
theorem dX0_leastAcross_17 : decode cX0_leastAcross 17 = .ok (.iload_n 2, 1) := by decide +kernel
theorem dX0_leastAcross_18 : decode cX0_leastAcross 18 = .ok (.iload_n 1, 1) := by decide +kernel
theorem dX0_leastAcross_19 : decode cX0_leastAcross 19 = .ok (.aload_n 0, 1) := by decide +kernel
theorem dX0_leastAcross_20 : decode cX0_leastAcross 20 = .ok (.iload_n 3, 1) := by decide +kernel
theorem dX0_leastAcross_21 : decode cX0_leastAcross 21 = .ok (.invokevirtual 138, 3) := by decide +kernel
theorem dX0_leastAcross_24 : decode cX0_leastAcross 24 = .ok (.aload_n 0, 1) := by decide +kernel
theorem dX0_leastAcross_25 : decode cX0_leastAcross 25 = .ok (.iload_n 3, 1) := by decide +kernel
theorem dX0_leastAcross_26 : decode cX0_leastAcross 26 = .ok (.invokevirtual 149, 3) := by decide +kernel
theorem dX0_leastAcross_29 : decode cX0_leastAcross 29 = .ok (.invokestatic 160, 3) := by decide +kernel
theorem dX0_leastAcross_32 : decode cX0_leastAcross 32 = .ok (.invokestatic 91, 3) := by decide +kernel
theorem dX0_leastAcross_35 : decode cX0_leastAcross 35 = .ok (.istore_n 2, 1) := by decide +kernel
theorem dX0_leastAcross_36 : decode cX0_leastAcross 36 = .ok (.iload_n 2, 1) := by decide +kernel
theorem dX0_leastAcross_37 : decode cX0_leastAcross 37 = .ok (.iload_n 1, 1) := by decide +kernel
theorem dX0_leastAcross_38 : decode cX0_leastAcross 38 = .ok (.aload_n 0, 1) := by decide +kernel
theorem dX0_leastAcross_39 : decode cX0_leastAcross 39 = .ok (.iload_n 3, 1) := by decide +kernel
theorem dX0_leastAcross_40 : decode cX0_leastAcross 40 = .ok (.invokevirtual 142, 3) := by decide +kernel
theorem dX0_leastAcross_43 : decode cX0_leastAcross 43 = .ok (.aload_n 0, 1) := by decide +kernel
theorem dX0_leastAcross_44 : decode cX0_leastAcross 44 = .ok (.iload_n 3, 1) := by decide +kernel
theorem dX0_leastAcross_45 : decode cX0_leastAcross 45 = .ok (.invokevirtual 152, 3) := by decide +kernel
theorem dX0_leastAcross_48 : decode cX0_leastAcross 48 = .ok (.invokestatic 160, 3) := by decide +kernel
theorem dX0_leastAcross_51 : decode cX0_leastAcross 51 = .ok (.invokestatic 91, 3) := by decide +kernel
theorem dX0_leastAcross_54 : decode cX0_leastAcross 54 = .ok (.istore_n 2, 1) := by decide +kernel
theorem dX0_leastAcross_55 : decode cX0_leastAcross 55 = .ok (.iinc 3 1, 3) := by decide +kernel
theorem dX0_leastAcross_58 : decode cX0_leastAcross 58 = .ok (.goto (-49), 3) := by decide +kernel
theorem dX0_leastAcross_61 : decode cX0_leastAcross 61 = .ok (.iload_n 2, 1) := by decide +kernel
theorem dX0_leastAcross_62 : decode cX0_leastAcross 62 = .ok (.ireturn, 1) := by decide +kernel
theorem dX0_greatestAcross_0 : decode cX0_greatestAcross 0 = .ok (.iload_n 1, 1) := by decide +kernel
theorem dX0_greatestAcross_1 : decode cX0_greatestAcross 1 = .ok (.iconst 0, 1) := by decide +kernel
theorem dX0_greatestAcross_2 : decode cX0_greatestAcross 2 = .ok (.iconst 0, 1) := by decide +kernel
theorem dX0_greatestAcross_3 : decode cX0_greatestAcross 3 = .ok (.invokestatic 160, 3) := by decide +kernel
theorem dX0_greatestAcross_6 : decode cX0_greatestAcross 6 = .ok (.istore_n 2, 1) := by decide +kernel
theorem dX0_greatestAcross_7 : decode cX0_greatestAcross 7 = .ok (.iconst 0, 1) := by decide +kernel
theorem dX0_greatestAcross_8 : decode cX0_greatestAcross 8 = .ok (.istore_n 3, 1) := by decide +kernel
theorem dX0_greatestAcross_9 : decode cX0_greatestAcross 9 = .ok (.iload_n 3, 1) := by decide +kernel
theorem dX0_greatestAcross_10 : decode cX0_greatestAcross 10 = .ok (.aload_n 0, 1) := by decide +kernel
theorem dX0_greatestAcross_11 : decode cX0_greatestAcross 11 = .ok (.invokevirtual 76, 3) := by decide +kernel
theorem dX0_greatestAcross_14 : decode cX0_greatestAcross 14 = .ok (.if_icmp .ge 47, 3) := by decide +kernel
theorem dX0_greatestAcross_17 : decode cX0_greatestAcross 17 = .ok (.iload_n 2, 1) := by decide +kernel
theorem dX0_greatestAcross_18 : decode cX0_greatestAcross 18 = .ok (.iload_n 1, 1) := by decide +kernel
theorem dX0_greatestAcross_19 : decode cX0_greatestAcross 19 = .ok (.aload_n 0, 1) := by decide +kernel
theorem dX0_greatestAcross_20 : decode cX0_greatestAcross 20 = .ok (.iload_n 3, 1) := by decide +kernel
theorem dX0_greatestAcross_21 : decode cX0_greatestAcross 21 = .ok (.invokevirtual 138, 3) := by decide +kernel
theorem dX0_greatestAcross_24 : decode cX0_greatestAcross 24 = .ok (.aload_n 0, 1) := by decide +kernel
theorem dX0_greatestAcross_25 : decode cX0_greatestAcross 25 = .ok (.iload_n 3, 1) := by decide +kernel
theorem dX0_greatestAcross_26 : decode cX0_greatestAcross 26 = .ok (.invokevirtual 149, 3) := by decide +kernel
theorem dX0_greatestAcross_29 : decode cX0_greatestAcross 29 = .ok (.invokestatic 160, 3) := by decide +kernel
theorem dX0_greatestAcross_32 : decode cX0_greatestAcross 32 = .ok (.invokestatic 132, 3) := by decide +kernel
theorem dX0_greatestAcross_35 : decode cX0_greatestAcross 35 = .ok (.istore_n 2, 1) := by decide +kernel
theorem dX0_greatestAcross_36 : decode cX0_greatestAcross 36 = .ok (.iload_n 2, 1) := by decide +kernel
theorem dX0_greatestAcross_37 : decode cX0_greatestAcross 37 = .ok (.iload_n 1, 1) := by decide +kernel
theorem dX0_greatestAcross_38 : decode cX0_greatestAcross 38 = .ok (.aload_n 0, 1) := by decide +kernel
theorem dX0_greatestAcross_39 : decode cX0_greatestAcross 39 = .ok (.iload_n 3, 1) := by decide +kernel
theorem dX0_greatestAcross_40 : decode cX0_greatestAcross 40 = .ok (.invokevirtual 142, 3) := by decide +kernel
theorem dX0_greatestAcross_43 : decode cX0_greatestAcross 43 = .ok (.aload_n 0, 1) := by decide +kernel
theorem dX0_greatestAcross_44 : decode cX0_greatestAcross 44 = .ok (.iload_n 3, 1) := by decide +kernel
theorem dX0_greatestAcross_45 : decode cX0_greatestAcross 45 = .ok (.invokevirtual 152, 3) := by decide +kernel
theorem dX0_greatestAcross_48 : decode cX0_greatestAcross 48 = .ok (.invokestatic 160, 3) := by decide +kernel
theorem dX0_greatestAcross_51 : decode cX0_greatestAcross 51 = .ok (.invokestatic 132, 3) := by decide +kernel
theorem dX0_greatestAcross_54 : decode cX0_greatestAcross 54 = .ok (.istore_n 2, 1) := by decide +kernel
theorem dX0_greatestAcross_55 : decode cX0_greatestAcross 55 = .ok (.iinc 3 1, 3) := by decide +kernel
theorem dX0_greatestAcross_58 : decode cX0_greatestAcross 58 = .ok (.goto (-49), 3) := by decide +kernel
theorem dX0_greatestAcross_61 : decode cX0_greatestAcross 61 = .ok (.iload_n 2, 1) := by decide +kernel
theorem dX0_greatestAcross_62 : decode cX0_greatestAcross 62 = .ok (.ireturn, 1) := by decide +kernel
theorem dX0_greatestUp_0 : decode cX0_greatestUp 0 = .ok (.iload_n 1, 1) := by decide +kernel
theorem dX0_greatestUp_1 : decode cX0_greatestUp 1 = .ok (.iconst 0, 1) := by decide +kernel
theorem dX0_greatestUp_2 : decode cX0_greatestUp 2 = .ok (.invokestatic 163, 3) := by decide +kernel
theorem dX0_greatestUp_5 : decode cX0_greatestUp 5 = .ok (.istore_n 2, 1) := by decide +kernel
theorem dX0_greatestUp_6 : decode cX0_greatestUp 6 = .ok (.iconst 0, 1) := by decide +kernel
theorem dX0_greatestUp_7 : decode cX0_greatestUp 7 = .ok (.istore_n 3, 1) := by decide +kernel
theorem dX0_greatestUp_8 : decode cX0_greatestUp 8 = .ok (.iload_n 3, 1) := by decide +kernel
theorem dX0_greatestUp_9 : decode cX0_greatestUp 9 = .ok (.aload_n 0, 1) := by decide +kernel
theorem dX0_greatestUp_10 : decode cX0_greatestUp 10 = .ok (.invokevirtual 76, 3) := by decide +kernel
theorem dX0_greatestUp_13 : decode cX0_greatestUp 13 = .ok (.if_icmp .ge 23, 3) := by decide +kernel
theorem dX0_greatestUp_16 : decode cX0_greatestUp 16 = .ok (.iload_n 2, 1) := by decide +kernel
theorem dX0_greatestUp_17 : decode cX0_greatestUp 17 = .ok (.iload_n 1, 1) := by decide +kernel
theorem dX0_greatestUp_18 : decode cX0_greatestUp 18 = .ok (.aload_n 0, 1) := by decide +kernel
theorem dX0_greatestUp_19 : decode cX0_greatestUp 19 = .ok (.iload_n 3, 1) := by decide +kernel
theorem dX0_greatestUp_20 : decode cX0_greatestUp 20 = .ok (.invokevirtual 152, 3) := by decide +kernel
theorem dX0_greatestUp_23 : decode cX0_greatestUp 23 = .ok (.invokestatic 163, 3) := by decide +kernel
theorem dX0_greatestUp_26 : decode cX0_greatestUp 26 = .ok (.invokestatic 132, 3) := by decide +kernel
theorem dX0_greatestUp_29 : decode cX0_greatestUp 29 = .ok (.istore_n 2, 1) := by decide +kernel
theorem dX0_greatestUp_30 : decode cX0_greatestUp 30 = .ok (.iinc 3 1, 3) := by decide +kernel
theorem dX0_greatestUp_33 : decode cX0_greatestUp 33 = .ok (.goto (-25), 3) := by decide +kernel
theorem dX0_greatestUp_36 : decode cX0_greatestUp 36 = .ok (.iload_n 2, 1) := by decide +kernel
theorem dX0_greatestUp_37 : decode cX0_greatestUp 37 = .ok (.ireturn, 1) := by decide +kernel
theorem dX0_leastUp_0 : decode cX0_leastUp 0 = .ok (.iload_n 1, 1) := by decide +kernel
theorem dX0_leastUp_1 : decode cX0_leastUp 1 = .ok (.iconst 0, 1) := by decide +kernel
theorem dX0_leastUp_2 : decode cX0_leastUp 2 = .ok (.invokestatic 163, 3) := by decide +kernel
theorem dX0_leastUp_5 : decode cX0_leastUp 5 = .ok (.istore_n 2, 1) := by decide +kernel
theorem dX0_leastUp_6 : decode cX0_leastUp 6 = .ok (.iconst 0, 1) := by decide +kernel
theorem dX0_leastUp_7 : decode cX0_leastUp 7 = .ok (.istore_n 3, 1) := by decide +kernel
theorem dX0_leastUp_8 : decode cX0_leastUp 8 = .ok (.iload_n 3, 1) := by decide +kernel
theorem dX0_leastUp_9 : decode cX0_leastUp 9 = .ok (.aload_n 0, 1) := by decide +kernel
theorem dX0_leastUp_10 : decode cX0_leastUp 10 = .ok (.invokevirtual 76, 3) := by decide +kernel
theorem dX0_leastUp_13 : decode cX0_leastUp 13 = .ok (.if_icmp .ge 23, 3) := by decide +kernel
theorem dX0_leastUp_16 : decode cX0_leastUp 16 = .ok (.iload_n 2, 1) := by decide +kernel
theorem dX0_leastUp_17 : decode cX0_leastUp 17 = .ok (.iload_n 1, 1) := by decide +kernel
theorem dX0_leastUp_18 : decode cX0_leastUp 18 = .ok (.aload_n 0, 1) := by decide +kernel
theorem dX0_leastUp_19 : decode cX0_leastUp 19 = .ok (.iload_n 3, 1) := by decide +kernel
theorem dX0_leastUp_20 : decode cX0_leastUp 20 = .ok (.invokevirtual 149, 3) := by decide +kernel
theorem dX0_leastUp_23 : decode cX0_leastUp 23 = .ok (.invokestatic 163, 3) := by decide +kernel
theorem dX0_leastUp_26 : decode cX0_leastUp 26 = .ok (.invokestatic 91, 3) := by decide +kernel
theorem dX0_leastUp_29 : decode cX0_leastUp 29 = .ok (.istore_n 2, 1) := by decide +kernel
theorem dX0_leastUp_30 : decode cX0_leastUp 30 = .ok (.iinc 3 1, 3) := by decide +kernel
theorem dX0_leastUp_33 : decode cX0_leastUp 33 = .ok (.goto (-25), 3) := by decide +kernel
theorem dX0_leastUp_36 : decode cX0_leastUp 36 = .ok (.iload_n 2, 1) := by decide +kernel
theorem dX0_leastUp_37 : decode cX0_leastUp 37 = .ok (.ireturn, 1) := by decide +kernel
