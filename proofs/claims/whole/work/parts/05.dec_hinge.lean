theorem dX1_init_0 : decode cX1_init 0 = .ok (.aload_n 0, 1) := by decide +kernel
theorem dX1_init_1 : decode cX1_init 1 = .ok (.invokespecial 3, 3) := by decide +kernel
theorem dX1_init_4 : decode cX1_init 4 = .ok (.return_, 1) := by decide +kernel
theorem dX1_sweep_0 : decode cX1_sweep 0 = .ok (.aload_n 0, 1) := by decide +kernel
theorem dX1_sweep_1 : decode cX1_sweep 1 = .ok (.iconst 0, 1) := by decide +kernel
theorem dX1_sweep_2 : decode cX1_sweep 2 = .ok (.putfield 9, 3) := by decide +kernel
theorem dX1_sweep_5 : decode cX1_sweep 5 = .ok (.aload_n 0, 1) := by decide +kernel
theorem dX1_sweep_6 : decode cX1_sweep 6 = .ok (.iconst 0, 1) := by decide +kernel
theorem dX1_sweep_7 : decode cX1_sweep 7 = .ok (.putfield 15, 3) := by decide +kernel
theorem dX1_sweep_10 : decode cX1_sweep 10 = .ok (.aload_n 1, 1) := by decide +kernel
theorem dX1_sweep_11 : decode cX1_sweep 11 = .ok (.invokevirtual 18, 3) := by decide +kernel
theorem dX1_sweep_14 : decode cX1_sweep 14 = .ok (.ifCond .eq 4, 3) := by decide +kernel
theorem dX1_sweep_17 : decode cX1_sweep 17 = .ok (.return_, 1) := by decide +kernel
theorem dX1_sweep_18 : decode cX1_sweep 18 = .ok (.aload_n 1, 1) := by decide +kernel
theorem dX1_sweep_19 : decode cX1_sweep 19 = .ok (.invokevirtual 24, 3) := by decide +kernel
theorem dX1_sweep_22 : decode cX1_sweep 22 = .ok (.istore_n 2, 1) := by decide +kernel
theorem dX1_sweep_23 : decode cX1_sweep 23 = .ok (.iconst 0, 1) := by decide +kernel
theorem dX1_sweep_24 : decode cX1_sweep 24 = .ok (.istore_n 3, 1) := by decide +kernel
theorem dX1_sweep_25 : decode cX1_sweep 25 = .ok (.iload_n 3, 1) := by decide +kernel
theorem dX1_sweep_26 : decode cX1_sweep 26 = .ok (.iload_n 2, 1) := by decide +kernel
theorem dX1_sweep_27 : decode cX1_sweep 27 = .ok (.if_icmp .ge 78, 3) := by decide +kernel
theorem dX1_sweep_30 : decode cX1_sweep 30 = .ok (.aload_n 1, 1) := by decide +kernel
theorem dX1_sweep_31 : decode cX1_sweep 31 = .ok (.iload_n 3, 1) := by decide +kernel
theorem dX1_sweep_32 : decode cX1_sweep 32 = .ok (.iconst 0, 1) := by decide +kernel
theorem dX1_sweep_33 : decode cX1_sweep 33 = .ok (.invokevirtual 28, 3) := by decide +kernel
theorem dX1_sweep_36 : decode cX1_sweep 36 = .ok (.istore 4, 2) := by decide +kernel
theorem dX1_sweep_38 : decode cX1_sweep 38 = .ok (.aload_n 1, 1) := by decide +kernel
theorem dX1_sweep_39 : decode cX1_sweep 39 = .ok (.iload_n 3, 1) := by decide +kernel
theorem dX1_sweep_40 : decode cX1_sweep 40 = .ok (.iconst 1, 1) := by decide +kernel
theorem dX1_sweep_41 : decode cX1_sweep 41 = .ok (.invokevirtual 28, 3) := by decide +kernel
theorem dX1_sweep_44 : decode cX1_sweep 44 = .ok (.istore 5, 2) := by decide +kernel
theorem dX1_sweep_46 : decode cX1_sweep 46 = .ok (.iconst 1, 1) := by decide +kernel
theorem dX1_sweep_47 : decode cX1_sweep 47 = .ok (.istore 6, 2) := by decide +kernel
theorem dX1_sweep_49 : decode cX1_sweep 49 = .ok (.iload 6, 2) := by decide +kernel
theorem dX1_sweep_51 : decode cX1_sweep 51 = .ok (.iload 4, 2) := by decide +kernel
theorem dX1_sweep_53 : decode cX1_sweep 53 = .ok (.if_icmp .gt 46, 3) := by decide +kernel
theorem dX1_sweep_56 : decode cX1_sweep 56 = .ok (.iconst 1, 1) := by decide +kernel
theorem dX1_sweep_57 : decode cX1_sweep 57 = .ok (.istore 7, 2) := by decide +kernel
theorem dX1_sweep_59 : decode cX1_sweep 59 = .ok (.iload 7, 2) := by decide +kernel
theorem dX1_sweep_61 : decode cX1_sweep 61 = .ok (.iload 5, 2) := by decide +kernel
theorem dX1_sweep_63 : decode cX1_sweep 63 = .ok (.if_icmp .gt 30, 3) := by decide +kernel
theorem dX1_sweep_66 : decode cX1_sweep 66 = .ok (.aload_n 1, 1) := by decide +kernel
theorem dX1_sweep_67 : decode cX1_sweep 67 = .ok (.iload_n 3, 1) := by decide +kernel
theorem dX1_sweep_68 : decode cX1_sweep 68 = .ok (.iload 6, 2) := by decide +kernel
theorem dX1_sweep_70 : decode cX1_sweep 70 = .ok (.iload 7, 2) := by decide +kernel
theorem dX1_sweep_72 : decode cX1_sweep 72 = .ok (.invokevirtual 32, 3) := by decide +kernel
theorem dX1_sweep_75 : decode cX1_sweep 75 = .ok (.ifCond .ne 12, 3) := by decide +kernel
theorem dX1_sweep_78 : decode cX1_sweep 78 = .ok (.aload_n 0, 1) := by decide +kernel
theorem dX1_sweep_79 : decode cX1_sweep 79 = .ok (.iload_n 3, 1) := by decide +kernel
theorem dX1_sweep_80 : decode cX1_sweep 80 = .ok (.iload 6, 2) := by decide +kernel
theorem dX1_sweep_82 : decode cX1_sweep 82 = .ok (.iload 7, 2) := by decide +kernel
theorem dX1_sweep_84 : decode cX1_sweep 84 = .ok (.invokevirtual 36, 3) := by decide +kernel
theorem dX1_sweep_87 : decode cX1_sweep 87 = .ok (.iinc 7 1, 3) := by decide +kernel
theorem dX1_sweep_90 : decode cX1_sweep 90 = .ok (.goto (-31), 3) := by decide +kernel
theorem dX1_sweep_93 : decode cX1_sweep 93 = .ok (.iinc 6 1, 3) := by decide +kernel
theorem dX1_sweep_96 : decode cX1_sweep 96 = .ok (.goto (-47), 3) := by decide +kernel
theorem dX1_sweep_99 : decode cX1_sweep 99 = .ok (.iinc 3 1, 3) := by decide +kernel
theorem dX1_sweep_102 : decode cX1_sweep 102 = .ok (.goto (-77), 3) := by decide +kernel
theorem dX1_sweep_105 : decode cX1_sweep 105 = .ok (.return_, 1) := by decide +kernel
theorem dX1_meet_0 : decode cX1_meet 0 = .ok (.aload_n 0, 1) := by decide +kernel
theorem dX1_meet_1 : decode cX1_meet 1 = .ok (.dup, 1) := by decide +kernel
theorem dX1_meet_2 : decode cX1_meet 2 = .ok (.getfield 9, 3) := by decide +kernel
theorem dX1_meet_5 : decode cX1_meet 5 = .ok (.iconst 1, 1) := by decide +kernel
theorem dX1_meet_6 : decode cX1_meet 6 = .ok (.iadd, 1) := by decide +kernel
theorem dX1_meet_7 : decode cX1_meet 7 = .ok (.putfield 9, 3) := by decide +kernel
theorem dX1_meet_10 : decode cX1_meet 10 = .ok (.iload_n 2, 1) := by decide +kernel
theorem dX1_meet_11 : decode cX1_meet 11 = .ok (.iload_n 3, 1) := by decide +kernel
theorem dX1_meet_12 : decode cX1_meet 12 = .ok (.imul, 1) := by decide +kernel
theorem dX1_meet_13 : decode cX1_meet 13 = .ok (.aload_n 0, 1) := by decide +kernel
theorem dX1_meet_14 : decode cX1_meet 14 = .ok (.getfield 15, 3) := by decide +kernel
theorem dX1_meet_17 : decode cX1_meet 17 = .ok (.if_icmp .gt 4, 3) := by decide +kernel
theorem dX1_meet_20 : decode cX1_meet 20 = .ok (.return_, 1) := by decide +kernel
theorem dX1_meet_21 : decode cX1_meet 21 = .ok (.aload_n 0, 1) := by decide +kernel
theorem dX1_meet_22 : decode cX1_meet 22 = .ok (.iload_n 2, 1) := by decide +kernel
theorem dX1_meet_23 : decode cX1_meet 23 = .ok (.iload_n 3, 1) := by decide +kernel
theorem dX1_meet_24 : decode cX1_meet 24 = .ok (.imul, 1) := by decide +kernel
theorem dX1_meet_25 : decode cX1_meet 25 = .ok (.putfield 15, 3) := by decide +kernel
theorem dX1_meet_28 : decode cX1_meet 28 = .ok (.aload_n 0, 1) := by decide +kernel
theorem dX1_meet_29 : decode cX1_meet 29 = .ok (.iload_n 1, 1) := by decide +kernel
theorem dX1_meet_30 : decode cX1_meet 30 = .ok (.putfield 40, 3) := by decide +kernel
theorem dX1_meet_33 : decode cX1_meet 33 = .ok (.aload_n 0, 1) := by decide +kernel
theorem dX1_meet_34 : decode cX1_meet 34 = .ok (.iload_n 2, 1) := by decide +kernel
theorem dX1_meet_35 : decode cX1_meet 35 = .ok (.putfield 43, 3) := by decide +kernel
theorem dX1_meet_38 : decode cX1_meet 38 = .ok (.aload_n 0, 1) := by decide +kernel
theorem dX1_meet_39 : decode cX1_meet 39 = .ok (.iload_n 3, 1) := by decide +kernel
theorem dX1_meet_40 : decode cX1_meet 40 = .ok (.putfield 46, 3) := by decide +kernel
theorem dX1_meet_43 : decode cX1_meet 43 = .ok (.return_, 1) := by decide +kernel
theorem dX1_bestTwo_0 : decode cX1_bestTwo 0 = .ok (.iconst 0, 1) := by decide +kernel
theorem dX1_bestTwo_1 : decode cX1_bestTwo 1 = .ok (.istore_n 2, 1) := by decide +kernel
theorem dX1_bestTwo_2 : decode cX1_bestTwo 2 = .ok (.aload_n 1, 1) := by decide +kernel
theorem dX1_bestTwo_3 : decode cX1_bestTwo 3 = .ok (.invokevirtual 18, 3) := by decide +kernel
theorem dX1_bestTwo_6 : decode cX1_bestTwo 6 = .ok (.ifCond .eq 5, 3) := by decide +kernel
theorem dX1_bestTwo_9 : decode cX1_bestTwo 9 = .ok (.iload_n 2, 1) := by decide +kernel
theorem dX1_bestTwo_10 : decode cX1_bestTwo 10 = .ok (.ireturn, 1) := by decide +kernel
theorem dX1_bestTwo_11 : decode cX1_bestTwo 11 = .ok (.aload_n 1, 1) := by decide +kernel
theorem dX1_bestTwo_12 : decode cX1_bestTwo 12 = .ok (.invokevirtual 24, 3) := by decide +kernel
theorem dX1_bestTwo_15 : decode cX1_bestTwo 15 = .ok (.istore_n 3, 1) := by decide +kernel
theorem dX1_bestTwo_16 : decode cX1_bestTwo 16 = .ok (.iconst 0, 1) := by decide +kernel
theorem dX1_bestTwo_17 : decode cX1_bestTwo 17 = .ok (.istore 4, 2) := by decide +kernel
theorem dX1_bestTwo_19 : decode cX1_bestTwo 19 = .ok (.iload 4, 2) := by decide +kernel
theorem dX1_bestTwo_21 : decode cX1_bestTwo 21 = .ok (.iload_n 3, 1) := by decide +kernel
theorem dX1_bestTwo_22 : decode cX1_bestTwo 22 = .ok (.if_icmp .ge 97, 3) := by decide +kernel
theorem dX1_bestTwo_25 : decode cX1_bestTwo 25 = .ok (.aload_n 1, 1) := by decide +kernel
theorem dX1_bestTwo_26 : decode cX1_bestTwo 26 = .ok (.iload 4, 2) := by decide +kernel
theorem dX1_bestTwo_28 : decode cX1_bestTwo 28 = .ok (.iconst 0, 1) := by decide +kernel
theorem dX1_bestTwo_29 : decode cX1_bestTwo 29 = .ok (.invokevirtual 28, 3) := by decide +kernel
theorem dX1_bestTwo_32 : decode cX1_bestTwo 32 = .ok (.istore 5, 2) := by decide +kernel
theorem dX1_bestTwo_34 : decode cX1_bestTwo 34 = .ok (.aload_n 1, 1) := by decide +kernel
theorem dX1_bestTwo_35 : decode cX1_bestTwo 35 = .ok (.iload 4, 2) := by decide +kernel
theorem dX1_bestTwo_37 : decode cX1_bestTwo 37 = .ok (.iconst 1, 1) := by decide +kernel
theorem dX1_bestTwo_38 : decode cX1_bestTwo 38 = .ok (.invokevirtual 28, 3) := by decide +kernel
theorem dX1_bestTwo_41 : decode cX1_bestTwo 41 = .ok (.istore 6, 2) := by decide +kernel
theorem dX1_bestTwo_43 : decode cX1_bestTwo 43 = .ok (.iconst 1, 1) := by decide +kernel
theorem dX1_bestTwo_44 : decode cX1_bestTwo 44 = .ok (.istore 7, 2) := by decide +kernel
theorem dX1_bestTwo_46 : decode cX1_bestTwo 46 = .ok (.iload 7, 2) := by decide +kernel
theorem dX1_bestTwo_48 : decode cX1_bestTwo 48 = .ok (.iload 5, 2) := by decide +kernel
theorem dX1_bestTwo_50 : decode cX1_bestTwo 50 = .ok (.if_icmp .gt 63, 3) := by decide +kernel
theorem dX1_bestTwo_53 : decode cX1_bestTwo 53 = .ok (.iconst 1, 1) := by decide +kernel
theorem dX1_bestTwo_54 : decode cX1_bestTwo 54 = .ok (.istore 8, 2) := by decide +kernel
theorem dX1_bestTwo_56 : decode cX1_bestTwo 56 = .ok (.iload 8, 2) := by decide +kernel
theorem dX1_bestTwo_58 : decode cX1_bestTwo 58 = .ok (.iload 6, 2) := by decide +kernel
theorem dX1_bestTwo_60 : decode cX1_bestTwo 60 = .ok (.if_icmp .gt 47, 3) := by decide +kernel
theorem dX1_bestTwo_63 : decode cX1_bestTwo 63 = .ok (.aload_n 1, 1) := by decide +kernel
theorem dX1_bestTwo_64 : decode cX1_bestTwo 64 = .ok (.iload 4, 2) := by decide +kernel
theorem dX1_bestTwo_66 : decode cX1_bestTwo 66 = .ok (.iload 7, 2) := by decide +kernel
theorem dX1_bestTwo_68 : decode cX1_bestTwo 68 = .ok (.iload 8, 2) := by decide +kernel
theorem dX1_bestTwo_70 : decode cX1_bestTwo 70 = .ok (.invokevirtual 32, 3) := by decide +kernel
theorem dX1_bestTwo_73 : decode cX1_bestTwo 73 = .ok (.ifCond .eq 6, 3) := by decide +kernel
theorem dX1_bestTwo_76 : decode cX1_bestTwo 76 = .ok (.goto 25, 3) := by decide +kernel
theorem dX1_bestTwo_79 : decode cX1_bestTwo 79 = .ok (.iload_n 2, 1) := by decide +kernel
theorem dX1_bestTwo_80 : decode cX1_bestTwo 80 = .ok (.iload 7, 2) := by decide +kernel
theorem dX1_bestTwo_82 : decode cX1_bestTwo 82 = .ok (.iload 8, 2) := by decide +kernel
theorem dX1_bestTwo_84 : decode cX1_bestTwo 84 = .ok (.imul, 1) := by decide +kernel
theorem dX1_bestTwo_85 : decode cX1_bestTwo 85 = .ok (.aload_n 0, 1) := by decide +kernel
theorem dX1_bestTwo_86 : decode cX1_bestTwo 86 = .ok (.aload_n 1, 1) := by decide +kernel
theorem dX1_bestTwo_87 : decode cX1_bestTwo 87 = .ok (.iload 4, 2) := by decide +kernel
theorem dX1_bestTwo_89 : decode cX1_bestTwo 89 = .ok (.iload 7, 2) := by decide +kernel
theorem dX1_bestTwo_91 : decode cX1_bestTwo 91 = .ok (.iload 8, 2) := by decide +kernel
theorem dX1_bestTwo_93 : decode cX1_bestTwo 93 = .ok (.invokevirtual 49, 3) := by decide +kernel
theorem dX1_bestTwo_96 : decode cX1_bestTwo 96 = .ok (.iadd, 1) := by decide +kernel
theorem dX1_bestTwo_97 : decode cX1_bestTwo 97 = .ok (.invokestatic 53, 3) := by decide +kernel
theorem dX1_bestTwo_100 : decode cX1_bestTwo 100 = .ok (.istore_n 2, 1) := by decide +kernel
theorem dX1_bestTwo_101 : decode cX1_bestTwo 101 = .ok (.iinc 8 1, 3) := by decide +kernel
theorem dX1_bestTwo_104 : decode cX1_bestTwo 104 = .ok (.goto (-48), 3) := by decide +kernel
theorem dX1_bestTwo_107 : decode cX1_bestTwo 107 = .ok (.iinc 7 1, 3) := by decide +kernel
theorem dX1_bestTwo_110 : decode cX1_bestTwo 110 = .ok (.goto (-64), 3) := by decide +kernel
theorem dX1_bestTwo_113 : decode cX1_bestTwo 113 = .ok (.iinc 4 1, 3) := by decide +kernel
theorem dX1_bestTwo_116 : decode cX1_bestTwo 116 = .ok (.goto (-97), 3) := by decide +kernel
theorem dX1_bestTwo_119 : decode cX1_bestTwo 119 = .ok (.iload_n 2, 1) := by decide +kernel
theorem dX1_bestTwo_120 : decode cX1_bestTwo 120 = .ok (.ireturn, 1) := by decide +kernel
theorem dX1_sizeBehind_0 : decode cX1_sizeBehind 0 = .ok (.aload_n 1, 1) := by decide +kernel
theorem dX1_sizeBehind_1 : decode cX1_sizeBehind 1 = .ok (.iload_n 2, 1) := by decide +kernel
theorem dX1_sizeBehind_2 : decode cX1_sizeBehind 2 = .ok (.iload_n 3, 1) := by decide +kernel
theorem dX1_sizeBehind_3 : decode cX1_sizeBehind 3 = .ok (.iload 4, 2) := by decide +kernel
theorem dX1_sizeBehind_5 : decode cX1_sizeBehind 5 = .ok (.invokevirtual 58, 3) := by decide +kernel
theorem dX1_sizeBehind_8 : decode cX1_sizeBehind 8 = .ok (.aload_n 0, 1) := by decide +kernel
theorem dX1_sizeBehind_9 : decode cX1_sizeBehind 9 = .ok (.aload_n 1, 1) := by decide +kernel
theorem dX1_sizeBehind_10 : decode cX1_sizeBehind 10 = .ok (.invokevirtual 61, 3) := by decide +kernel
theorem dX1_sizeBehind_13 : decode cX1_sizeBehind 13 = .ok (.aload_n 1, 1) := by decide +kernel
theorem dX1_sizeBehind_14 : decode cX1_sizeBehind 14 = .ok (.invokevirtual 65, 3) := by decide +kernel
theorem dX1_sizeBehind_17 : decode cX1_sizeBehind 17 = .ok (.aload_n 0, 1) := by decide +kernel
theorem dX1_sizeBehind_18 : decode cX1_sizeBehind 18 = .ok (.getfield 15, 3) := by decide +kernel
theorem dX1_sizeBehind_21 : decode cX1_sizeBehind 21 = .ok (.ireturn, 1) := by decide +kernel
theorem dX2_init_0 : decode cX2_init 0 = .ok (.aload_n 0, 1) := by decide +kernel
theorem dX2_init_1 : decode cX2_init 1 = .ok (.invokespecial 3, 3) := by decide +kernel
theorem dX2_init_4 : decode cX2_init 4 = .ok (.return_, 1) := by decide +kernel
theorem dX2_look_0 : decode cX2_look 0 = .ok (.aload_n 0, 1) := by decide +kernel
theorem dX2_look_1 : decode cX2_look 1 = .ok (.iconst 0, 1) := by decide +kernel
theorem dX2_look_2 : decode cX2_look 2 = .ok (.putfield 9, 3) := by decide +kernel
theorem dX2_look_5 : decode cX2_look 5 = .ok (.aload_n 0, 1) := by decide +kernel
theorem dX2_look_6 : decode cX2_look 6 = .ok (.iconst 0, 1) := by decide +kernel
theorem dX2_look_7 : decode cX2_look 7 = .ok (.putfield 15, 3) := by decide +kernel
theorem dX2_look_10 : decode cX2_look 10 = .ok (.aload_n 0, 1) := by decide +kernel
theorem dX2_look_11 : decode cX2_look 11 = .ok (.iconst 0, 1) := by decide +kernel
theorem dX2_look_12 : decode cX2_look 12 = .ok (.putfield 19, 3) := by decide +kernel
theorem dX2_look_15 : decode cX2_look 15 = .ok (.aload_n 0, 1) := by decide +kernel
theorem dX2_look_16 : decode cX2_look 16 = .ok (.iconst 1, 1) := by decide +kernel
theorem dX2_look_17 : decode cX2_look 17 = .ok (.putfield 22, 3) := by decide +kernel
theorem dX2_look_20 : decode cX2_look 20 = .ok (.iload_n 2, 1) := by decide +kernel
theorem dX2_look_21 : decode cX2_look 21 = .ok (.invokestatic 25, 3) := by decide +kernel
theorem dX2_look_24 : decode cX2_look 24 = .ok (.ifCond .ne 4, 3) := by decide +kernel
theorem dX2_look_27 : decode cX2_look 27 = .ok (.return_, 1) := by decide +kernel
theorem dX2_look_28 : decode cX2_look 28 = .ok (.iconst 0, 1) := by decide +kernel
theorem dX2_look_29 : decode cX2_look 29 = .ok (.istore 4, 2) := by decide +kernel
theorem dX2_look_31 : decode cX2_look 31 = .ok (.iload 4, 2) := by decide +kernel
theorem dX2_look_33 : decode cX2_look 33 = .ok (.aload_n 1, 1) := by decide +kernel
theorem dX2_look_34 : decode cX2_look 34 = .ok (.invokevirtual 29, 3) := by decide +kernel
theorem dX2_look_37 : decode cX2_look 37 = .ok (.if_icmp .ge 52, 3) := by decide +kernel
theorem dX2_look_40 : decode cX2_look 40 = .ok (.aload_n 1, 1) := by decide +kernel
theorem dX2_look_41 : decode cX2_look 41 = .ok (.iload 4, 2) := by decide +kernel
theorem dX2_look_43 : decode cX2_look 43 = .ok (.invokevirtual 35, 3) := by decide +kernel
theorem dX2_look_46 : decode cX2_look 46 = .ok (.ifCond .ne 6, 3) := by decide +kernel
theorem dX2_look_49 : decode cX2_look 49 = .ok (.goto 34, 3) := by decide +kernel
theorem dX2_look_52 : decode cX2_look 52 = .ok (.aload_n 1, 1) := by decide +kernel
theorem dX2_look_53 : decode cX2_look 53 = .ok (.getfield 38, 3) := by decide +kernel
theorem dX2_look_56 : decode cX2_look 56 = .ok (.iload 4, 2) := by decide +kernel
theorem dX2_look_58 : decode cX2_look 58 = .ok (.iaload, 1) := by decide +kernel
theorem dX2_look_59 : decode cX2_look 59 = .ok (.ifCond .ne 15, 3) := by decide +kernel
theorem dX2_look_62 : decode cX2_look 62 = .ok (.aload_n 0, 1) := by decide +kernel
theorem dX2_look_63 : decode cX2_look 63 = .ok (.aload_n 1, 1) := by decide +kernel
theorem dX2_look_64 : decode cX2_look 64 = .ok (.iload 4, 2) := by decide +kernel
theorem dX2_look_66 : decode cX2_look 66 = .ok (.iload_n 2, 1) := by decide +kernel
theorem dX2_look_67 : decode cX2_look 67 = .ok (.iload_n 3, 1) := by decide +kernel
theorem dX2_look_68 : decode cX2_look 68 = .ok (.invokevirtual 42, 3) := by decide +kernel
theorem dX2_look_71 : decode cX2_look 71 = .ok (.goto 12, 3) := by decide +kernel
theorem dX2_look_74 : decode cX2_look 74 = .ok (.aload_n 0, 1) := by decide +kernel
theorem dX2_look_75 : decode cX2_look 75 = .ok (.aload_n 1, 1) := by decide +kernel
theorem dX2_look_76 : decode cX2_look 76 = .ok (.iload 4, 2) := by decide +kernel
theorem dX2_look_78 : decode cX2_look 78 = .ok (.iload_n 2, 1) := by decide +kernel
theorem dX2_look_79 : decode cX2_look 79 = .ok (.iload_n 3, 1) := by decide +kernel
theorem dX2_look_80 : decode cX2_look 80 = .ok (.invokevirtual 46, 3) := by decide +kernel
theorem dX2_look_83 : decode cX2_look 83 = .ok (.iinc 4 1, 3) := by decide +kernel
theorem dX2_look_86 : decode cX2_look 86 = .ok (.goto (-55), 3) := by decide +kernel
theorem dX2_look_89 : decode cX2_look 89 = .ok (.aload_n 0, 1) := by decide +kernel
theorem dX2_look_90 : decode cX2_look 90 = .ok (.invokevirtual 49, 3) := by decide +kernel
theorem dX2_look_93 : decode cX2_look 93 = .ok (.return_, 1) := by decide +kernel
theorem dX2_meetLevel_0 : decode cX2_meetLevel 0 = .ok (.iload_n 3, 1) := by decide +kernel
theorem dX2_meetLevel_1 : decode cX2_meetLevel 1 = .ok (.aload_n 1, 1) := by decide +kernel
theorem dX2_meetLevel_2 : decode cX2_meetLevel 2 = .ok (.iload_n 2, 1) := by decide +kernel
theorem dX2_meetLevel_3 : decode cX2_meetLevel 3 = .ok (.invokevirtual 52, 3) := by decide +kernel
theorem dX2_meetLevel_6 : decode cX2_meetLevel 6 = .ok (.aload_n 1, 1) := by decide +kernel
theorem dX2_meetLevel_7 : decode cX2_meetLevel 7 = .ok (.iload_n 2, 1) := by decide +kernel
theorem dX2_meetLevel_8 : decode cX2_meetLevel 8 = .ok (.invokevirtual 56, 3) := by decide +kernel
theorem dX2_meetLevel_11 : decode cX2_meetLevel 11 = .ok (.invokestatic 59, 3) := by decide +kernel
theorem dX2_meetLevel_14 : decode cX2_meetLevel 14 = .ok (.istore 5, 2) := by decide +kernel
theorem dX2_meetLevel_16 : decode cX2_meetLevel 16 = .ok (.iload_n 3, 1) := by decide +kernel
theorem dX2_meetLevel_17 : decode cX2_meetLevel 17 = .ok (.aload_n 1, 1) := by decide +kernel
theorem dX2_meetLevel_18 : decode cX2_meetLevel 18 = .ok (.iload_n 2, 1) := by decide +kernel
theorem dX2_meetLevel_19 : decode cX2_meetLevel 19 = .ok (.invokevirtual 63, 3) := by decide +kernel
theorem dX2_meetLevel_22 : decode cX2_meetLevel 22 = .ok (.aload_n 1, 1) := by decide +kernel
theorem dX2_meetLevel_23 : decode cX2_meetLevel 23 = .ok (.iload_n 2, 1) := by decide +kernel
theorem dX2_meetLevel_24 : decode cX2_meetLevel 24 = .ok (.invokevirtual 66, 3) := by decide +kernel
theorem dX2_meetLevel_27 : decode cX2_meetLevel 27 = .ok (.invokestatic 59, 3) := by decide +kernel
theorem dX2_meetLevel_30 : decode cX2_meetLevel 30 = .ok (.istore 6, 2) := by decide +kernel
theorem dX2_meetLevel_32 : decode cX2_meetLevel 32 = .ok (.iload 4, 2) := by decide +kernel
theorem dX2_meetLevel_34 : decode cX2_meetLevel 34 = .ok (.iload 5, 2) := by decide +kernel
theorem dX2_meetLevel_36 : decode cX2_meetLevel 36 = .ok (.iload 6, 2) := by decide +kernel
theorem dX2_meetLevel_38 : decode cX2_meetLevel 38 = .ok (.invokestatic 69, 3) := by decide +kernel
theorem dX2_meetLevel_41 : decode cX2_meetLevel 41 = .ok (.ifCond .eq 18, 3) := by decide +kernel
theorem dX2_meetLevel_44 : decode cX2_meetLevel 44 = .ok (.aload_n 0, 1) := by decide +kernel
theorem dX2_meetLevel_45 : decode cX2_meetLevel 45 = .ok (.iload_n 2, 1) := by decide +kernel
theorem dX2_meetLevel_46 : decode cX2_meetLevel 46 = .ok (.iload_n 3, 1) := by decide +kernel
theorem dX2_meetLevel_47 : decode cX2_meetLevel 47 = .ok (.aload_n 1, 1) := by decide +kernel
theorem dX2_meetLevel_48 : decode cX2_meetLevel 48 = .ok (.iload_n 2, 1) := by decide +kernel
theorem dX2_meetLevel_49 : decode cX2_meetLevel 49 = .ok (.invokevirtual 56, 3) := by decide +kernel
theorem dX2_meetLevel_52 : decode cX2_meetLevel 52 = .ok (.invokestatic 73, 3) := by decide +kernel
theorem dX2_meetLevel_55 : decode cX2_meetLevel 55 = .ok (.iconst 1, 1) := by decide +kernel
theorem dX2_meetLevel_56 : decode cX2_meetLevel 56 = .ok (.invokevirtual 77, 3) := by decide +kernel
theorem dX2_meetLevel_59 : decode cX2_meetLevel 59 = .ok (.return_, 1) := by decide +kernel
theorem dX2_meetSlope_0 : decode cX2_meetSlope 0 = .ok (.iload_n 3, 1) := by decide +kernel
theorem dX2_meetSlope_1 : decode cX2_meetSlope 1 = .ok (.iconst 0, 1) := by decide +kernel
theorem dX2_meetSlope_2 : decode cX2_meetSlope 2 = .ok (.iconst 1, 1) := by decide +kernel
theorem dX2_meetSlope_3 : decode cX2_meetSlope 3 = .ok (.invokestatic 59, 3) := by decide +kernel
theorem dX2_meetSlope_6 : decode cX2_meetSlope 6 = .ok (.istore 5, 2) := by decide +kernel
theorem dX2_meetSlope_8 : decode cX2_meetSlope 8 = .ok (.iload 4, 2) := by decide +kernel
theorem dX2_meetSlope_10 : decode cX2_meetSlope 10 = .ok (.bipush 25, 2) := by decide +kernel
theorem dX2_meetSlope_12 : decode cX2_meetSlope 12 = .ok (.aload_n 1, 1) := by decide +kernel
theorem dX2_meetSlope_13 : decode cX2_meetSlope 13 = .ok (.iload_n 2, 1) := by decide +kernel
theorem dX2_meetSlope_14 : decode cX2_meetSlope 14 = .ok (.invokevirtual 52, 3) := by decide +kernel
theorem dX2_meetSlope_17 : decode cX2_meetSlope 17 = .ok (.imul, 1) := by decide +kernel
theorem dX2_meetSlope_18 : decode cX2_meetSlope 18 = .ok (.isub, 1) := by decide +kernel
theorem dX2_meetSlope_19 : decode cX2_meetSlope 19 = .ok (.istore 6, 2) := by decide +kernel
theorem dX2_meetSlope_21 : decode cX2_meetSlope 21 = .ok (.iload 5, 2) := by decide +kernel
theorem dX2_meetSlope_23 : decode cX2_meetSlope 23 = .ok (.ifCond .ne 24, 3) := by decide +kernel
theorem dX2_meetSlope_26 : decode cX2_meetSlope 26 = .ok (.iload 6, 2) := by decide +kernel
theorem dX2_meetSlope_28 : decode cX2_meetSlope 28 = .ok (.ifCond .ne 18, 3) := by decide +kernel
theorem dX2_meetSlope_31 : decode cX2_meetSlope 31 = .ok (.aload_n 0, 1) := by decide +kernel
theorem dX2_meetSlope_32 : decode cX2_meetSlope 32 = .ok (.iload_n 2, 1) := by decide +kernel
theorem dX2_meetSlope_33 : decode cX2_meetSlope 33 = .ok (.iload_n 3, 1) := by decide +kernel
theorem dX2_meetSlope_34 : decode cX2_meetSlope 34 = .ok (.aload_n 1, 1) := by decide +kernel
theorem dX2_meetSlope_35 : decode cX2_meetSlope 35 = .ok (.iload_n 2, 1) := by decide +kernel
theorem dX2_meetSlope_36 : decode cX2_meetSlope 36 = .ok (.invokevirtual 66, 3) := by decide +kernel
theorem dX2_meetSlope_39 : decode cX2_meetSlope 39 = .ok (.invokestatic 73, 3) := by decide +kernel
theorem dX2_meetSlope_42 : decode cX2_meetSlope 42 = .ok (.iconst 1, 1) := by decide +kernel
theorem dX2_meetSlope_43 : decode cX2_meetSlope 43 = .ok (.invokevirtual 77, 3) := by decide +kernel
theorem dX2_meetSlope_46 : decode cX2_meetSlope 46 = .ok (.return_, 1) := by decide +kernel
theorem dX2_meetSlope_47 : decode cX2_meetSlope 47 = .ok (.iload 5, 2) := by decide +kernel
theorem dX2_meetSlope_49 : decode cX2_meetSlope 49 = .ok (.invokestatic 81, 3) := by decide +kernel
theorem dX2_meetSlope_52 : decode cX2_meetSlope 52 = .ok (.istore 7, 2) := by decide +kernel
theorem dX2_meetSlope_54 : decode cX2_meetSlope 54 = .ok (.iload 5, 2) := by decide +kernel
theorem dX2_meetSlope_56 : decode cX2_meetSlope 56 = .ok (.ifCond .le 8, 3) := by decide +kernel
theorem dX2_meetSlope_59 : decode cX2_meetSlope 59 = .ok (.iload 6, 2) := by decide +kernel
theorem dX2_meetSlope_61 : decode cX2_meetSlope 61 = .ok (.goto 6, 3) := by decide +kernel
theorem dX2_meetSlope_64 : decode cX2_meetSlope 64 = .ok (.iload 6, 2) := by decide +kernel
theorem dX2_meetSlope_66 : decode cX2_meetSlope 66 = .ok (.ineg, 1) := by decide +kernel
theorem dX2_meetSlope_67 : decode cX2_meetSlope 67 = .ok (.istore 8, 2) := by decide +kernel
theorem dX2_meetSlope_69 : decode cX2_meetSlope 69 = .ok (.iload 8, 2) := by decide +kernel
theorem dX2_meetSlope_71 : decode cX2_meetSlope 71 = .ok (.iload 7, 2) := by decide +kernel
theorem dX2_meetSlope_73 : decode cX2_meetSlope 73 = .ok (.aload_n 1, 1) := by decide +kernel
theorem dX2_meetSlope_74 : decode cX2_meetSlope 74 = .ok (.iload_n 2, 1) := by decide +kernel
theorem dX2_meetSlope_75 : decode cX2_meetSlope 75 = .ok (.invokevirtual 56, 3) := by decide +kernel
theorem dX2_meetSlope_78 : decode cX2_meetSlope 78 = .ok (.imul, 1) := by decide +kernel
theorem dX2_meetSlope_79 : decode cX2_meetSlope 79 = .ok (.iload 7, 2) := by decide +kernel
theorem dX2_meetSlope_81 : decode cX2_meetSlope 81 = .ok (.aload_n 1, 1) := by decide +kernel
theorem dX2_meetSlope_82 : decode cX2_meetSlope 82 = .ok (.iload_n 2, 1) := by decide +kernel
theorem dX2_meetSlope_83 : decode cX2_meetSlope 83 = .ok (.invokevirtual 66, 3) := by decide +kernel
theorem dX2_meetSlope_86 : decode cX2_meetSlope 86 = .ok (.imul, 1) := by decide +kernel
theorem dX2_meetSlope_87 : decode cX2_meetSlope 87 = .ok (.invokestatic 69, 3) := by decide +kernel
theorem dX2_meetSlope_90 : decode cX2_meetSlope 90 = .ok (.ifCond .eq 16, 3) := by decide +kernel
theorem dX2_meetSlope_93 : decode cX2_meetSlope 93 = .ok (.aload_n 0, 1) := by decide +kernel
theorem dX2_meetSlope_94 : decode cX2_meetSlope 94 = .ok (.iload_n 2, 1) := by decide +kernel
theorem dX2_meetSlope_95 : decode cX2_meetSlope 95 = .ok (.iload_n 3, 1) := by decide +kernel
theorem dX2_meetSlope_96 : decode cX2_meetSlope 96 = .ok (.iload 8, 2) := by decide +kernel
theorem dX2_meetSlope_98 : decode cX2_meetSlope 98 = .ok (.invokestatic 73, 3) := by decide +kernel
theorem dX2_meetSlope_101 : decode cX2_meetSlope 101 = .ok (.iload 7, 2) := by decide +kernel
theorem dX2_meetSlope_103 : decode cX2_meetSlope 103 = .ok (.invokevirtual 77, 3) := by decide +kernel
theorem dX2_meetSlope_106 : decode cX2_meetSlope 106 = .ok (.return_, 1) := by decide +kernel
theorem dX2_meet_0 : decode cX2_meet 0 = .ok (.aload_n 0, 1) := by decide +kernel
theorem dX2_meet_1 : decode cX2_meet 1 = .ok (.getfield 9, 3) := by decide +kernel
theorem dX2_meet_4 : decode cX2_meet 4 = .ok (.ifCond .eq 19, 3) := by decide +kernel
theorem dX2_meet_7 : decode cX2_meet 7 = .ok (.iload_n 2, 1) := by decide +kernel
theorem dX2_meet_8 : decode cX2_meet 8 = .ok (.aload_n 0, 1) := by decide +kernel
theorem dX2_meet_9 : decode cX2_meet 9 = .ok (.getfield 22, 3) := by decide +kernel
theorem dX2_meet_12 : decode cX2_meet 12 = .ok (.imul, 1) := by decide +kernel
theorem dX2_meet_13 : decode cX2_meet 13 = .ok (.aload_n 0, 1) := by decide +kernel
theorem dX2_meet_14 : decode cX2_meet 14 = .ok (.getfield 19, 3) := by decide +kernel
theorem dX2_meet_17 : decode cX2_meet 17 = .ok (.iload_n 3, 1) := by decide +kernel
theorem dX2_meet_18 : decode cX2_meet 18 = .ok (.imul, 1) := by decide +kernel
theorem dX2_meet_19 : decode cX2_meet 19 = .ok (.if_icmp .gt 4, 3) := by decide +kernel
theorem dX2_meet_22 : decode cX2_meet 22 = .ok (.return_, 1) := by decide +kernel
theorem dX2_meet_23 : decode cX2_meet 23 = .ok (.aload_n 0, 1) := by decide +kernel
theorem dX2_meet_24 : decode cX2_meet 24 = .ok (.iconst 1, 1) := by decide +kernel
theorem dX2_meet_25 : decode cX2_meet 25 = .ok (.putfield 9, 3) := by decide +kernel
theorem dX2_meet_28 : decode cX2_meet 28 = .ok (.aload_n 0, 1) := by decide +kernel
theorem dX2_meet_29 : decode cX2_meet 29 = .ok (.iload_n 1, 1) := by decide +kernel
theorem dX2_meet_30 : decode cX2_meet 30 = .ok (.putfield 15, 3) := by decide +kernel
theorem dX2_meet_33 : decode cX2_meet 33 = .ok (.aload_n 0, 1) := by decide +kernel
theorem dX2_meet_34 : decode cX2_meet 34 = .ok (.iload_n 2, 1) := by decide +kernel
theorem dX2_meet_35 : decode cX2_meet 35 = .ok (.putfield 19, 3) := by decide +kernel
theorem dX2_meet_38 : decode cX2_meet 38 = .ok (.aload_n 0, 1) := by decide +kernel
theorem dX2_meet_39 : decode cX2_meet 39 = .ok (.iload_n 3, 1) := by decide +kernel
theorem dX2_meet_40 : decode cX2_meet 40 = .ok (.putfield 22, 3) := by decide +kernel
theorem dX2_meet_43 : decode cX2_meet 43 = .ok (.return_, 1) := by decide +kernel
theorem dX2_reduce_0 : decode cX2_reduce 0 = .ok (.aload_n 0, 1) := by decide +kernel
theorem dX2_reduce_1 : decode cX2_reduce 1 = .ok (.getfield 22, 3) := by decide +kernel
theorem dX2_reduce_4 : decode cX2_reduce 4 = .ok (.istore_n 1, 1) := by decide +kernel
theorem dX2_reduce_5 : decode cX2_reduce 5 = .ok (.iload_n 1, 1) := by decide +kernel
theorem dX2_reduce_6 : decode cX2_reduce 6 = .ok (.iconst 1, 1) := by decide +kernel
theorem dX2_reduce_7 : decode cX2_reduce 7 = .ok (.if_icmp .le 48, 3) := by decide +kernel
theorem dX2_reduce_10 : decode cX2_reduce 10 = .ok (.aload_n 0, 1) := by decide +kernel
theorem dX2_reduce_11 : decode cX2_reduce 11 = .ok (.getfield 19, 3) := by decide +kernel
theorem dX2_reduce_14 : decode cX2_reduce 14 = .ok (.iload_n 1, 1) := by decide +kernel
theorem dX2_reduce_15 : decode cX2_reduce 15 = .ok (.irem, 1) := by decide +kernel
theorem dX2_reduce_16 : decode cX2_reduce 16 = .ok (.ifCond .ne 33, 3) := by decide +kernel
theorem dX2_reduce_19 : decode cX2_reduce 19 = .ok (.aload_n 0, 1) := by decide +kernel
theorem dX2_reduce_20 : decode cX2_reduce 20 = .ok (.getfield 22, 3) := by decide +kernel
theorem dX2_reduce_23 : decode cX2_reduce 23 = .ok (.iload_n 1, 1) := by decide +kernel
theorem dX2_reduce_24 : decode cX2_reduce 24 = .ok (.irem, 1) := by decide +kernel
theorem dX2_reduce_25 : decode cX2_reduce 25 = .ok (.ifCond .ne 24, 3) := by decide +kernel
theorem dX2_reduce_28 : decode cX2_reduce 28 = .ok (.aload_n 0, 1) := by decide +kernel
theorem dX2_reduce_29 : decode cX2_reduce 29 = .ok (.dup, 1) := by decide +kernel
theorem dX2_reduce_30 : decode cX2_reduce 30 = .ok (.getfield 19, 3) := by decide +kernel
theorem dX2_reduce_33 : decode cX2_reduce 33 = .ok (.iload_n 1, 1) := by decide +kernel
theorem dX2_reduce_34 : decode cX2_reduce 34 = .ok (.idiv, 1) := by decide +kernel
theorem dX2_reduce_35 : decode cX2_reduce 35 = .ok (.putfield 19, 3) := by decide +kernel
theorem dX2_reduce_38 : decode cX2_reduce 38 = .ok (.aload_n 0, 1) := by decide +kernel
theorem dX2_reduce_39 : decode cX2_reduce 39 = .ok (.dup, 1) := by decide +kernel
theorem dX2_reduce_40 : decode cX2_reduce 40 = .ok (.getfield 22, 3) := by decide +kernel
theorem dX2_reduce_43 : decode cX2_reduce 43 = .ok (.iload_n 1, 1) := by decide +kernel
theorem dX2_reduce_44 : decode cX2_reduce 44 = .ok (.idiv, 1) := by decide +kernel
theorem dX2_reduce_45 : decode cX2_reduce 45 = .ok (.putfield 22, 3) := by decide +kernel
theorem dX2_reduce_48 : decode cX2_reduce 48 = .ok (.return_, 1) := by decide +kernel
theorem dX2_reduce_49 : decode cX2_reduce 49 = .ok (.iinc 1 (-1), 3) := by decide +kernel
theorem dX2_reduce_52 : decode cX2_reduce 52 = .ok (.goto (-47), 3) := by decide +kernel
theorem dX2_reduce_55 : decode cX2_reduce 55 = .ok (.return_, 1) := by decide +kernel
theorem dX3_init_0 : decode cX3_init 0 = .ok (.aload_n 0, 1) := by decide +kernel
theorem dX3_init_1 : decode cX3_init 1 = .ok (.invokespecial 3, 3) := by decide +kernel
theorem dX3_init_4 : decode cX3_init 4 = .ok (.aload_n 0, 1) := by decide +kernel
theorem dX3_init_5 : decode cX3_init 5 = .ok (.new 9, 3) := by decide +kernel
theorem dX3_init_8 : decode cX3_init 8 = .ok (.dup, 1) := by decide +kernel
theorem dX3_init_9 : decode cX3_init 9 = .ok (.invokespecial 11, 3) := by decide +kernel
theorem dX3_init_12 : decode cX3_init 12 = .ok (.putfield 12, 3) := by decide +kernel
theorem dX3_init_15 : decode cX3_init 15 = .ok (.aload_n 0, 1) := by decide +kernel
theorem dX3_init_16 : decode cX3_init 16 = .ok (.new 9, 3) := by decide +kernel
theorem dX3_init_19 : decode cX3_init 19 = .ok (.dup, 1) := by decide +kernel
theorem dX3_init_20 : decode cX3_init 20 = .ok (.invokespecial 11, 3) := by decide +kernel
theorem dX3_init_23 : decode cX3_init 23 = .ok (.putfield 16, 3) := by decide +kernel
theorem dX3_init_26 : decode cX3_init 26 = .ok (.aload_n 0, 1) := by decide +kernel
theorem dX3_init_27 : decode cX3_init 27 = .ok (.new 9, 3) := by decide +kernel
theorem dX3_init_30 : decode cX3_init 30 = .ok (.dup, 1) := by decide +kernel
theorem dX3_init_31 : decode cX3_init 31 = .ok (.invokespecial 11, 3) := by decide +kernel
theorem dX3_init_34 : decode cX3_init 34 = .ok (.putfield 19, 3) := by decide +kernel
theorem dX3_init_37 : decode cX3_init 37 = .ok (.aload_n 0, 1) := by decide +kernel
theorem dX3_init_38 : decode cX3_init 38 = .ok (.iconst 0, 1) := by decide +kernel
theorem dX3_init_39 : decode cX3_init 39 = .ok (.putfield 22, 3) := by decide +kernel
theorem dX3_init_42 : decode cX3_init 42 = .ok (.aload_n 0, 1) := by decide +kernel
theorem dX3_init_43 : decode cX3_init 43 = .ok (.new 26, 3) := by decide +kernel
theorem dX3_init_46 : decode cX3_init 46 = .ok (.dup, 1) := by decide +kernel
theorem dX3_init_47 : decode cX3_init 47 = .ok (.invokespecial 28, 3) := by decide +kernel
theorem dX3_init_50 : decode cX3_init 50 = .ok (.putfield 29, 3) := by decide +kernel
theorem dX3_init_53 : decode cX3_init 53 = .ok (.aload_n 0, 1) := by decide +kernel
theorem dX3_init_54 : decode cX3_init 54 = .ok (.new 33, 3) := by decide +kernel
theorem dX3_init_57 : decode cX3_init 57 = .ok (.dup, 1) := by decide +kernel
theorem dX3_init_58 : decode cX3_init 58 = .ok (.invokespecial 35, 3) := by decide +kernel
theorem dX3_init_61 : decode cX3_init 61 = .ok (.putfield 36, 3) := by decide +kernel
theorem dX3_init_64 : decode cX3_init 64 = .ok (.return_, 1) := by decide +kernel
theorem dX3_size_0 : decode cX3_size 0 = .ok (.iload_n 1, 1) := by decide +kernel
theorem dX3_size_1 : decode cX3_size 1 = .ok (.iconst 4, 1) := by decide +kernel
theorem dX3_size_2 : decode cX3_size 2 = .ok (.bipush 12, 2) := by decide +kernel
theorem dX3_size_4 : decode cX3_size 4 = .ok (.invokestatic 40, 3) := by decide +kernel
theorem dX3_size_7 : decode cX3_size 7 = .ok (.ifCond .ne 6, 3) := by decide +kernel
theorem dX3_size_10 : decode cX3_size 10 = .ok (.bipush (-2), 2) := by decide +kernel
theorem dX3_size_12 : decode cX3_size 12 = .ok (.ireturn, 1) := by decide +kernel
theorem dX3_size_13 : decode cX3_size 13 = .ok (.aload_n 0, 1) := by decide +kernel
theorem dX3_size_14 : decode cX3_size 14 = .ok (.getfield 12, 3) := by decide +kernel
theorem dX3_size_17 : decode cX3_size 17 = .ok (.getfield 44, 3) := by decide +kernel
theorem dX3_size_20 : decode cX3_size 20 = .ok (.ifCond .le 6, 3) := by decide +kernel
theorem dX3_size_23 : decode cX3_size 23 = .ok (.bipush (-3), 2) := by decide +kernel
theorem dX3_size_25 : decode cX3_size 25 = .ok (.ireturn, 1) := by decide +kernel
theorem dX3_size_26 : decode cX3_size 26 = .ok (.aload_n 0, 1) := by decide +kernel
theorem dX3_size_27 : decode cX3_size 27 = .ok (.getfield 12, 3) := by decide +kernel
theorem dX3_size_30 : decode cX3_size 30 = .ok (.getfield 47, 3) := by decide +kernel
theorem dX3_size_33 : decode cX3_size 33 = .ok (.istore_n 2, 1) := by decide +kernel
theorem dX3_size_34 : decode cX3_size 34 = .ok (.aload_n 0, 1) := by decide +kernel
theorem dX3_size_35 : decode cX3_size 35 = .ok (.getfield 12, 3) := by decide +kernel
theorem dX3_size_38 : decode cX3_size 38 = .ok (.iload_n 1, 1) := by decide +kernel
theorem dX3_size_39 : decode cX3_size 39 = .ok (.invokevirtual 50, 3) := by decide +kernel
theorem dX3_size_42 : decode cX3_size 42 = .ok (.iload_n 2, 1) := by decide +kernel
theorem dX3_size_43 : decode cX3_size 43 = .ok (.ireturn, 1) := by decide +kernel
theorem dX3_put_0 : decode cX3_put 0 = .ok (.aload_n 0, 1) := by decide +kernel
theorem dX3_put_1 : decode cX3_put 1 = .ok (.getfield 12, 3) := by decide +kernel
theorem dX3_put_4 : decode cX3_put 4 = .ok (.iload_n 1, 1) := by decide +kernel
theorem dX3_put_5 : decode cX3_put 5 = .ok (.invokevirtual 54, 3) := by decide +kernel
theorem dX3_put_8 : decode cX3_put 8 = .ok (.ifCond .ne 5, 3) := by decide +kernel
theorem dX3_put_11 : decode cX3_put 11 = .ok (.iconst (-1), 1) := by decide +kernel
theorem dX3_put_12 : decode cX3_put 12 = .ok (.ireturn, 1) := by decide +kernel
theorem dX3_put_13 : decode cX3_put 13 = .ok (.iload_n 2, 1) := by decide +kernel
theorem dX3_put_14 : decode cX3_put 14 = .ok (.iload_n 3, 1) := by decide +kernel
theorem dX3_put_15 : decode cX3_put 15 = .ok (.invokestatic 58, 3) := by decide +kernel
theorem dX3_put_18 : decode cX3_put 18 = .ok (.ifCond .ne 6, 3) := by decide +kernel
theorem dX3_put_21 : decode cX3_put 21 = .ok (.bipush (-2), 2) := by decide +kernel
theorem dX3_put_23 : decode cX3_put 23 = .ok (.ireturn, 1) := by decide +kernel
theorem dX3_put_24 : decode cX3_put 24 = .ok (.aload_n 0, 1) := by decide +kernel
theorem dX3_put_25 : decode cX3_put 25 = .ok (.getfield 12, 3) := by decide +kernel
theorem dX3_put_28 : decode cX3_put 28 = .ok (.invokevirtual 62, 3) := by decide +kernel
theorem dX3_put_31 : decode cX3_put 31 = .ok (.ifCond .eq 6, 3) := by decide +kernel
theorem dX3_put_34 : decode cX3_put 34 = .ok (.bipush (-4), 2) := by decide +kernel
theorem dX3_put_36 : decode cX3_put 36 = .ok (.ireturn, 1) := by decide +kernel
theorem dX3_put_37 : decode cX3_put 37 = .ok (.aload_n 0, 1) := by decide +kernel
theorem dX3_put_38 : decode cX3_put 38 = .ok (.getfield 12, 3) := by decide +kernel
theorem dX3_put_41 : decode cX3_put 41 = .ok (.iload_n 1, 1) := by decide +kernel
theorem dX3_put_42 : decode cX3_put 42 = .ok (.iload_n 2, 1) := by decide +kernel
theorem dX3_put_43 : decode cX3_put 43 = .ok (.iload_n 3, 1) := by decide +kernel
theorem dX3_put_44 : decode cX3_put 44 = .ok (.invokevirtual 66, 3) := by decide +kernel
theorem dX3_put_47 : decode cX3_put 47 = .ok (.ifCond .eq 6, 3) := by decide +kernel
theorem dX3_put_50 : decode cX3_put 50 = .ok (.bipush (-5), 2) := by decide +kernel
theorem dX3_put_52 : decode cX3_put 52 = .ok (.ireturn, 1) := by decide +kernel
theorem dX3_put_53 : decode cX3_put 53 = .ok (.aload_n 0, 1) := by decide +kernel
theorem dX3_put_54 : decode cX3_put 54 = .ok (.getfield 12, 3) := by decide +kernel
theorem dX3_put_57 : decode cX3_put 57 = .ok (.iload_n 1, 1) := by decide +kernel
theorem dX3_put_58 : decode cX3_put 58 = .ok (.iload_n 2, 1) := by decide +kernel
theorem dX3_put_59 : decode cX3_put 59 = .ok (.iload_n 3, 1) := by decide +kernel
theorem dX3_put_60 : decode cX3_put 60 = .ok (.invokevirtual 70, 3) := by decide +kernel
theorem dX3_put_63 : decode cX3_put 63 = .ok (.aload_n 0, 1) := by decide +kernel
theorem dX3_put_64 : decode cX3_put 64 = .ok (.getfield 12, 3) := by decide +kernel
theorem dX3_put_67 : decode cX3_put 67 = .ok (.invokevirtual 74, 3) := by decide +kernel
theorem dX3_put_70 : decode cX3_put 70 = .ok (.ireturn, 1) := by decide +kernel
theorem dX3_off_0 : decode cX3_off 0 = .ok (.aload_n 0, 1) := by decide +kernel
theorem dX3_off_1 : decode cX3_off 1 = .ok (.getfield 12, 3) := by decide +kernel
theorem dX3_off_4 : decode cX3_off 4 = .ok (.getfield 44, 3) := by decide +kernel
theorem dX3_off_7 : decode cX3_off 7 = .ok (.ifCond .ne 6, 3) := by decide +kernel
theorem dX3_off_10 : decode cX3_off 10 = .ok (.bipush (-3), 2) := by decide +kernel
theorem dX3_off_12 : decode cX3_off 12 = .ok (.ireturn, 1) := by decide +kernel
theorem dX3_off_13 : decode cX3_off 13 = .ok (.aload_n 0, 1) := by decide +kernel
theorem dX3_off_14 : decode cX3_off 14 = .ok (.getfield 12, 3) := by decide +kernel
theorem dX3_off_17 : decode cX3_off 17 = .ok (.invokevirtual 78, 3) := by decide +kernel
theorem dX3_off_20 : decode cX3_off 20 = .ok (.aload_n 0, 1) := by decide +kernel
theorem dX3_off_21 : decode cX3_off 21 = .ok (.getfield 12, 3) := by decide +kernel
theorem dX3_off_24 : decode cX3_off 24 = .ok (.getfield 44, 3) := by decide +kernel
theorem dX3_off_27 : decode cX3_off 27 = .ok (.ireturn, 1) := by decide +kernel
theorem dX3_why_0 : decode cX3_why 0 = .ok (.aload_n 0, 1) := by decide +kernel
theorem dX3_why_1 : decode cX3_why 1 = .ok (.getfield 12, 3) := by decide +kernel
theorem dX3_why_4 : decode cX3_why 4 = .ok (.iload_n 1, 1) := by decide +kernel
theorem dX3_why_5 : decode cX3_why 5 = .ok (.invokevirtual 54, 3) := by decide +kernel
theorem dX3_why_8 : decode cX3_why 8 = .ok (.ifCond .ne 5, 3) := by decide +kernel
theorem dX3_why_11 : decode cX3_why 11 = .ok (.iconst (-1), 1) := by decide +kernel
theorem dX3_why_12 : decode cX3_why 12 = .ok (.ireturn, 1) := by decide +kernel
theorem dX3_why_13 : decode cX3_why 13 = .ok (.iload_n 2, 1) := by decide +kernel
theorem dX3_why_14 : decode cX3_why 14 = .ok (.iload_n 3, 1) := by decide +kernel
theorem dX3_why_15 : decode cX3_why 15 = .ok (.invokestatic 58, 3) := by decide +kernel
theorem dX3_why_18 : decode cX3_why 18 = .ok (.ifCond .ne 6, 3) := by decide +kernel
theorem dX3_why_21 : decode cX3_why 21 = .ok (.bipush (-2), 2) := by decide +kernel
theorem dX3_why_23 : decode cX3_why 23 = .ok (.ireturn, 1) := by decide +kernel
theorem dX3_why_24 : decode cX3_why 24 = .ok (.aload_n 0, 1) := by decide +kernel
theorem dX3_why_25 : decode cX3_why 25 = .ok (.getfield 12, 3) := by decide +kernel
theorem dX3_why_28 : decode cX3_why 28 = .ok (.iload_n 1, 1) := by decide +kernel
theorem dX3_why_29 : decode cX3_why 29 = .ok (.iload_n 2, 1) := by decide +kernel
theorem dX3_why_30 : decode cX3_why 30 = .ok (.iload_n 3, 1) := by decide +kernel
theorem dX3_why_31 : decode cX3_why 31 = .ok (.invokevirtual 66, 3) := by decide +kernel
theorem dX3_why_34 : decode cX3_why 34 = .ok (.ireturn, 1) := by decide +kernel
theorem dX3_corner_0 : decode cX3_corner 0 = .ok (.aload_n 0, 1) := by decide +kernel
theorem dX3_corner_1 : decode cX3_corner 1 = .ok (.getfield 12, 3) := by decide +kernel
theorem dX3_corner_4 : decode cX3_corner 4 = .ok (.iload_n 1, 1) := by decide +kernel
theorem dX3_corner_5 : decode cX3_corner 5 = .ok (.invokevirtual 54, 3) := by decide +kernel
theorem dX3_corner_8 : decode cX3_corner 8 = .ok (.ifCond .ne 5, 3) := by decide +kernel
theorem dX3_corner_11 : decode cX3_corner 11 = .ok (.iconst (-1), 1) := by decide +kernel
theorem dX3_corner_12 : decode cX3_corner 12 = .ok (.ireturn, 1) := by decide +kernel
theorem dX3_corner_13 : decode cX3_corner 13 = .ok (.iload_n 2, 1) := by decide +kernel
theorem dX3_corner_14 : decode cX3_corner 14 = .ok (.tableswitch 108 0 5 #[38, 51, 64, 76, 88, 98], 38) := by decide +kernel
theorem dX3_corner_52 : decode cX3_corner 52 = .ok (.aload_n 0, 1) := by decide +kernel
theorem dX3_corner_53 : decode cX3_corner 53 = .ok (.getfield 12, 3) := by decide +kernel
theorem dX3_corner_56 : decode cX3_corner 56 = .ok (.getfield 81, 3) := by decide +kernel
theorem dX3_corner_59 : decode cX3_corner 59 = .ok (.iload_n 1, 1) := by decide +kernel
theorem dX3_corner_60 : decode cX3_corner 60 = .ok (.iaload, 1) := by decide +kernel
theorem dX3_corner_61 : decode cX3_corner 61 = .ok (.bipush 100, 2) := by decide +kernel
theorem dX3_corner_63 : decode cX3_corner 63 = .ok (.iadd, 1) := by decide +kernel
theorem dX3_corner_64 : decode cX3_corner 64 = .ok (.ireturn, 1) := by decide +kernel
theorem dX3_corner_65 : decode cX3_corner 65 = .ok (.aload_n 0, 1) := by decide +kernel
theorem dX3_corner_66 : decode cX3_corner 66 = .ok (.getfield 12, 3) := by decide +kernel
theorem dX3_corner_69 : decode cX3_corner 69 = .ok (.getfield 85, 3) := by decide +kernel
theorem dX3_corner_72 : decode cX3_corner 72 = .ok (.iload_n 1, 1) := by decide +kernel
theorem dX3_corner_73 : decode cX3_corner 73 = .ok (.iaload, 1) := by decide +kernel
theorem dX3_corner_74 : decode cX3_corner 74 = .ok (.bipush 100, 2) := by decide +kernel
theorem dX3_corner_76 : decode cX3_corner 76 = .ok (.iadd, 1) := by decide +kernel
theorem dX3_corner_77 : decode cX3_corner 77 = .ok (.ireturn, 1) := by decide +kernel
theorem dX3_corner_78 : decode cX3_corner 78 = .ok (.aload_n 0, 1) := by decide +kernel
theorem dX3_corner_79 : decode cX3_corner 79 = .ok (.getfield 12, 3) := by decide +kernel
theorem dX3_corner_82 : decode cX3_corner 82 = .ok (.getfield 88, 3) := by decide +kernel
theorem dX3_corner_85 : decode cX3_corner 85 = .ok (.iload_n 1, 1) := by decide +kernel
theorem dX3_corner_86 : decode cX3_corner 86 = .ok (.iaload, 1) := by decide +kernel
theorem dX3_corner_87 : decode cX3_corner 87 = .ok (.iconst 1, 1) := by decide +kernel
theorem dX3_corner_88 : decode cX3_corner 88 = .ok (.iadd, 1) := by decide +kernel
theorem dX3_corner_89 : decode cX3_corner 89 = .ok (.ireturn, 1) := by decide +kernel
theorem dX3_corner_90 : decode cX3_corner 90 = .ok (.aload_n 0, 1) := by decide +kernel
theorem dX3_corner_91 : decode cX3_corner 91 = .ok (.getfield 12, 3) := by decide +kernel
theorem dX3_corner_94 : decode cX3_corner 94 = .ok (.getfield 91, 3) := by decide +kernel
theorem dX3_corner_97 : decode cX3_corner 97 = .ok (.iload_n 1, 1) := by decide +kernel
theorem dX3_corner_98 : decode cX3_corner 98 = .ok (.iaload, 1) := by decide +kernel
theorem dX3_corner_99 : decode cX3_corner 99 = .ok (.iconst 1, 1) := by decide +kernel
theorem dX3_corner_100 : decode cX3_corner 100 = .ok (.iadd, 1) := by decide +kernel
theorem dX3_corner_101 : decode cX3_corner 101 = .ok (.ireturn, 1) := by decide +kernel
theorem dX3_corner_102 : decode cX3_corner 102 = .ok (.aload_n 0, 1) := by decide +kernel
theorem dX3_corner_103 : decode cX3_corner 103 = .ok (.getfield 12, 3) := by decide +kernel
theorem dX3_corner_106 : decode cX3_corner 106 = .ok (.iload_n 1, 1) := by decide +kernel
theorem dX3_corner_107 : decode cX3_corner 107 = .ok (.iconst 0, 1) := by decide +kernel
theorem dX3_corner_108 : decode cX3_corner 108 = .ok (.invokevirtual 94, 3) := by decide +kernel
theorem dX3_corner_111 : decode cX3_corner 111 = .ok (.ireturn, 1) := by decide +kernel
theorem dX3_corner_112 : decode cX3_corner 112 = .ok (.aload_n 0, 1) := by decide +kernel
theorem dX3_corner_113 : decode cX3_corner 113 = .ok (.getfield 12, 3) := by decide +kernel
theorem dX3_corner_116 : decode cX3_corner 116 = .ok (.iload_n 1, 1) := by decide +kernel
theorem dX3_corner_117 : decode cX3_corner 117 = .ok (.iconst 1, 1) := by decide +kernel
theorem dX3_corner_118 : decode cX3_corner 118 = .ok (.invokevirtual 94, 3) := by decide +kernel
theorem dX3_corner_121 : decode cX3_corner 121 = .ok (.ireturn, 1) := by decide +kernel
theorem dX3_corner_122 : decode cX3_corner 122 = .ok (.bipush (-2), 2) := by decide +kernel
theorem dX3_corner_124 : decode cX3_corner 124 = .ok (.ireturn, 1) := by decide +kernel
theorem dX3_face_0 : decode cX3_face 0 = .ok (.aload_n 0, 1) := by decide +kernel
theorem dX3_face_1 : decode cX3_face 1 = .ok (.getfield 12, 3) := by decide +kernel
theorem dX3_face_4 : decode cX3_face 4 = .ok (.iload_n 1, 1) := by decide +kernel
theorem dX3_face_5 : decode cX3_face 5 = .ok (.invokevirtual 98, 3) := by decide +kernel
theorem dX3_face_8 : decode cX3_face 8 = .ok (.ifCond .ne 5, 3) := by decide +kernel
theorem dX3_face_11 : decode cX3_face 11 = .ok (.iconst (-1), 1) := by decide +kernel
theorem dX3_face_12 : decode cX3_face 12 = .ok (.ireturn, 1) := by decide +kernel
theorem dX3_face_13 : decode cX3_face 13 = .ok (.iload_n 2, 1) := by decide +kernel
theorem dX3_face_14 : decode cX3_face 14 = .ok (.tableswitch 74 0 3 #[30, 40, 52, 64], 30) := by decide +kernel
theorem dX3_face_44 : decode cX3_face 44 = .ok (.aload_n 0, 1) := by decide +kernel
theorem dX3_face_45 : decode cX3_face 45 = .ok (.getfield 12, 3) := by decide +kernel
theorem dX3_face_48 : decode cX3_face 48 = .ok (.getfield 101, 3) := by decide +kernel
theorem dX3_face_51 : decode cX3_face 51 = .ok (.iload_n 1, 1) := by decide +kernel
theorem dX3_face_52 : decode cX3_face 52 = .ok (.iaload, 1) := by decide +kernel
theorem dX3_face_53 : decode cX3_face 53 = .ok (.ireturn, 1) := by decide +kernel
theorem dX3_face_54 : decode cX3_face 54 = .ok (.aload_n 0, 1) := by decide +kernel
theorem dX3_face_55 : decode cX3_face 55 = .ok (.getfield 12, 3) := by decide +kernel
theorem dX3_face_58 : decode cX3_face 58 = .ok (.iload_n 1, 1) := by decide +kernel
theorem dX3_face_59 : decode cX3_face 59 = .ok (.invokevirtual 104, 3) := by decide +kernel
theorem dX3_face_62 : decode cX3_face 62 = .ok (.bipush 100, 2) := by decide +kernel
theorem dX3_face_64 : decode cX3_face 64 = .ok (.iadd, 1) := by decide +kernel
theorem dX3_face_65 : decode cX3_face 65 = .ok (.ireturn, 1) := by decide +kernel
theorem dX3_face_66 : decode cX3_face 66 = .ok (.aload_n 0, 1) := by decide +kernel
theorem dX3_face_67 : decode cX3_face 67 = .ok (.getfield 12, 3) := by decide +kernel
theorem dX3_face_70 : decode cX3_face 70 = .ok (.iload_n 1, 1) := by decide +kernel
theorem dX3_face_71 : decode cX3_face 71 = .ok (.invokevirtual 108, 3) := by decide +kernel
theorem dX3_face_74 : decode cX3_face 74 = .ok (.bipush 100, 2) := by decide +kernel
theorem dX3_face_76 : decode cX3_face 76 = .ok (.iadd, 1) := by decide +kernel
theorem dX3_face_77 : decode cX3_face 77 = .ok (.ireturn, 1) := by decide +kernel
theorem dX3_face_78 : decode cX3_face 78 = .ok (.aload_n 0, 1) := by decide +kernel
theorem dX3_face_79 : decode cX3_face 79 = .ok (.getfield 12, 3) := by decide +kernel
theorem dX3_face_82 : decode cX3_face 82 = .ok (.getfield 111, 3) := by decide +kernel
theorem dX3_face_85 : decode cX3_face 85 = .ok (.iload_n 1, 1) := by decide +kernel
theorem dX3_face_86 : decode cX3_face 86 = .ok (.iaload, 1) := by decide +kernel
theorem dX3_face_87 : decode cX3_face 87 = .ok (.ireturn, 1) := by decide +kernel
theorem dX3_face_88 : decode cX3_face 88 = .ok (.bipush (-2), 2) := by decide +kernel
theorem dX3_face_90 : decode cX3_face 90 = .ok (.ireturn, 1) := by decide +kernel
theorem dX3_on_0 : decode cX3_on 0 = .ok (.iload_n 1, 1) := by decide +kernel
theorem dX3_on_1 : decode cX3_on 1 = .ok (.bipush (-12), 2) := by decide +kernel
theorem dX3_on_3 : decode cX3_on 3 = .ok (.bipush 12, 2) := by decide +kernel
theorem dX3_on_5 : decode cX3_on 5 = .ok (.invokestatic 40, 3) := by decide +kernel
theorem dX3_on_8 : decode cX3_on 8 = .ok (.ifCond .eq 14, 3) := by decide +kernel
theorem dX3_on_11 : decode cX3_on 11 = .ok (.iload_n 2, 1) := by decide +kernel
theorem dX3_on_12 : decode cX3_on 12 = .ok (.bipush (-12), 2) := by decide +kernel
theorem dX3_on_14 : decode cX3_on 14 = .ok (.bipush 12, 2) := by decide +kernel
theorem dX3_on_16 : decode cX3_on 16 = .ok (.invokestatic 40, 3) := by decide +kernel
theorem dX3_on_19 : decode cX3_on 19 = .ok (.ifCond .ne 6, 3) := by decide +kernel
theorem dX3_on_22 : decode cX3_on 22 = .ok (.bipush (-2), 2) := by decide +kernel
theorem dX3_on_24 : decode cX3_on 24 = .ok (.ireturn, 1) := by decide +kernel
theorem dX3_on_25 : decode cX3_on 25 = .ok (.aload_n 0, 1) := by decide +kernel
theorem dX3_on_26 : decode cX3_on 26 = .ok (.getfield 12, 3) := by decide +kernel
theorem dX3_on_29 : decode cX3_on 29 = .ok (.iload_n 1, 1) := by decide +kernel
theorem dX3_on_30 : decode cX3_on 30 = .ok (.iload_n 2, 1) := by decide +kernel
theorem dX3_on_31 : decode cX3_on 31 = .ok (.invokevirtual 114, 3) := by decide +kernel
theorem dX3_on_34 : decode cX3_on 34 = .ok (.ireturn, 1) := by decide +kernel
theorem dX3_ways_0 : decode cX3_ways 0 = .ok (.aload_n 0, 1) := by decide +kernel
theorem dX3_ways_1 : decode cX3_ways 1 = .ok (.getfield 29, 3) := by decide +kernel
theorem dX3_ways_4 : decode cX3_ways 4 = .ok (.aload_n 0, 1) := by decide +kernel
theorem dX3_ways_5 : decode cX3_ways 5 = .ok (.getfield 12, 3) := by decide +kernel
theorem dX3_ways_8 : decode cX3_ways 8 = .ok (.invokevirtual 117, 3) := by decide +kernel
theorem dX3_ways_11 : decode cX3_ways 11 = .ok (.aload_n 0, 1) := by decide +kernel
theorem dX3_ways_12 : decode cX3_ways 12 = .ok (.getfield 29, 3) := by decide +kernel
theorem dX3_ways_15 : decode cX3_ways 15 = .ok (.getfield 121, 3) := by decide +kernel
theorem dX3_ways_18 : decode cX3_ways 18 = .ok (.ireturn, 1) := by decide +kernel
theorem dX3_greatest_0 : decode cX3_greatest 0 = .ok (.iload_n 1, 1) := by decide +kernel
theorem dX3_greatest_1 : decode cX3_greatest 1 = .ok (.iconst 0, 1) := by decide +kernel
theorem dX3_greatest_2 : decode cX3_greatest 2 = .ok (.iconst 3, 1) := by decide +kernel
theorem dX3_greatest_3 : decode cX3_greatest 3 = .ok (.invokestatic 40, 3) := by decide +kernel
theorem dX3_greatest_6 : decode cX3_greatest 6 = .ok (.ifCond .ne 6, 3) := by decide +kernel
theorem dX3_greatest_9 : decode cX3_greatest 9 = .ok (.bipush (-2), 2) := by decide +kernel
theorem dX3_greatest_11 : decode cX3_greatest 11 = .ok (.ireturn, 1) := by decide +kernel
theorem dX3_greatest_12 : decode cX3_greatest 12 = .ok (.aload_n 0, 1) := by decide +kernel
theorem dX3_greatest_13 : decode cX3_greatest 13 = .ok (.getfield 29, 3) := by decide +kernel
theorem dX3_greatest_16 : decode cX3_greatest 16 = .ok (.aload_n 0, 1) := by decide +kernel
theorem dX3_greatest_17 : decode cX3_greatest 17 = .ok (.getfield 12, 3) := by decide +kernel
theorem dX3_greatest_20 : decode cX3_greatest 20 = .ok (.invokevirtual 117, 3) := by decide +kernel
theorem dX3_greatest_23 : decode cX3_greatest 23 = .ok (.aload_n 0, 1) := by decide +kernel
theorem dX3_greatest_24 : decode cX3_greatest 24 = .ok (.getfield 29, 3) := by decide +kernel
theorem dX3_greatest_27 : decode cX3_greatest 27 = .ok (.getfield 121, 3) := by decide +kernel
theorem dX3_greatest_30 : decode cX3_greatest 30 = .ok (.ifCond .ne 6, 3) := by decide +kernel
theorem dX3_greatest_33 : decode cX3_greatest 33 = .ok (.bipush (-6), 2) := by decide +kernel
theorem dX3_greatest_35 : decode cX3_greatest 35 = .ok (.ireturn, 1) := by decide +kernel
theorem dX3_greatest_36 : decode cX3_greatest 36 = .ok (.iload_n 1, 1) := by decide +kernel
theorem dX3_greatest_37 : decode cX3_greatest 37 = .ok (.tableswitch 51 0 2 #[27, 35, 43], 27) := by decide +kernel
theorem dX3_greatest_64 : decode cX3_greatest 64 = .ok (.aload_n 0, 1) := by decide +kernel
theorem dX3_greatest_65 : decode cX3_greatest 65 = .ok (.getfield 29, 3) := by decide +kernel
theorem dX3_greatest_68 : decode cX3_greatest 68 = .ok (.getfield 124, 3) := by decide +kernel
theorem dX3_greatest_71 : decode cX3_greatest 71 = .ok (.ireturn, 1) := by decide +kernel
theorem dX3_greatest_72 : decode cX3_greatest 72 = .ok (.aload_n 0, 1) := by decide +kernel
theorem dX3_greatest_73 : decode cX3_greatest 73 = .ok (.getfield 29, 3) := by decide +kernel
theorem dX3_greatest_76 : decode cX3_greatest 76 = .ok (.getfield 127, 3) := by decide +kernel
theorem dX3_greatest_79 : decode cX3_greatest 79 = .ok (.ireturn, 1) := by decide +kernel
theorem dX3_greatest_80 : decode cX3_greatest 80 = .ok (.aload_n 0, 1) := by decide +kernel
theorem dX3_greatest_81 : decode cX3_greatest 81 = .ok (.getfield 29, 3) := by decide +kernel
theorem dX3_greatest_84 : decode cX3_greatest 84 = .ok (.getfield 130, 3) := by decide +kernel
theorem dX3_greatest_87 : decode cX3_greatest 87 = .ok (.ireturn, 1) := by decide +kernel
theorem dX3_greatest_88 : decode cX3_greatest 88 = .ok (.aload_n 0, 1) := by decide +kernel
theorem dX3_greatest_89 : decode cX3_greatest 89 = .ok (.getfield 29, 3) := by decide +kernel
theorem dX3_greatest_92 : decode cX3_greatest 92 = .ok (.getfield 133, 3) := by decide +kernel
theorem dX3_greatest_95 : decode cX3_greatest 95 = .ok (.ireturn, 1) := by decide +kernel
theorem dX3_two_0 : decode cX3_two 0 = .ok (.aload_n 0, 1) := by decide +kernel
theorem dX3_two_1 : decode cX3_two 1 = .ok (.getfield 29, 3) := by decide +kernel
theorem dX3_two_4 : decode cX3_two 4 = .ok (.aload_n 0, 1) := by decide +kernel
theorem dX3_two_5 : decode cX3_two 5 = .ok (.getfield 12, 3) := by decide +kernel
theorem dX3_two_8 : decode cX3_two 8 = .ok (.invokevirtual 136, 3) := by decide +kernel
theorem dX3_two_11 : decode cX3_two 11 = .ok (.istore_n 1, 1) := by decide +kernel
theorem dX3_two_12 : decode cX3_two 12 = .ok (.iload_n 1, 1) := by decide +kernel
theorem dX3_two_13 : decode cX3_two 13 = .ok (.ifCond .ne 8, 3) := by decide +kernel
theorem dX3_two_16 : decode cX3_two 16 = .ok (.bipush (-6), 2) := by decide +kernel
theorem dX3_two_18 : decode cX3_two 18 = .ok (.goto 4, 3) := by decide +kernel
theorem dX3_two_21 : decode cX3_two 21 = .ok (.iload_n 1, 1) := by decide +kernel
theorem dX3_two_22 : decode cX3_two 22 = .ok (.ireturn, 1) := by decide +kernel
theorem dX3_view_0 : decode cX3_view 0 = .ok (.iload_n 1, 1) := by decide +kernel
theorem dX3_view_1 : decode cX3_view 1 = .ok (.invokestatic 140, 3) := by decide +kernel
theorem dX3_view_4 : decode cX3_view 4 = .ok (.ifCond .ne 6, 3) := by decide +kernel
theorem dX3_view_7 : decode cX3_view 7 = .ok (.bipush (-2), 2) := by decide +kernel
theorem dX3_view_9 : decode cX3_view 9 = .ok (.ireturn, 1) := by decide +kernel
theorem dX3_view_10 : decode cX3_view 10 = .ok (.iload_n 2, 1) := by decide +kernel
theorem dX3_view_11 : decode cX3_view 11 = .ok (.tableswitch 81 0 3 #[29, 42, 55, 68], 29) := by decide +kernel
theorem dX3_view_40 : decode cX3_view 40 = .ok (.aload_n 0, 1) := by decide +kernel
theorem dX3_view_41 : decode cX3_view 41 = .ok (.getfield 12, 3) := by decide +kernel
theorem dX3_view_44 : decode cX3_view 44 = .ok (.iload_n 1, 1) := by decide +kernel
theorem dX3_view_45 : decode cX3_view 45 = .ok (.invokevirtual 143, 3) := by decide +kernel
theorem dX3_view_48 : decode cX3_view 48 = .ok (.sipush 1000, 3) := by decide +kernel
theorem dX3_view_51 : decode cX3_view 51 = .ok (.iadd, 1) := by decide +kernel
theorem dX3_view_52 : decode cX3_view 52 = .ok (.ireturn, 1) := by decide +kernel
theorem dX3_view_53 : decode cX3_view 53 = .ok (.aload_n 0, 1) := by decide +kernel
theorem dX3_view_54 : decode cX3_view 54 = .ok (.getfield 12, 3) := by decide +kernel
theorem dX3_view_57 : decode cX3_view 57 = .ok (.iload_n 1, 1) := by decide +kernel
theorem dX3_view_58 : decode cX3_view 58 = .ok (.invokevirtual 146, 3) := by decide +kernel
theorem dX3_view_61 : decode cX3_view 61 = .ok (.sipush 1000, 3) := by decide +kernel
theorem dX3_view_64 : decode cX3_view 64 = .ok (.iadd, 1) := by decide +kernel
theorem dX3_view_65 : decode cX3_view 65 = .ok (.ireturn, 1) := by decide +kernel
theorem dX3_view_66 : decode cX3_view 66 = .ok (.aload_n 0, 1) := by decide +kernel
theorem dX3_view_67 : decode cX3_view 67 = .ok (.getfield 12, 3) := by decide +kernel
theorem dX3_view_70 : decode cX3_view 70 = .ok (.iload_n 1, 1) := by decide +kernel
theorem dX3_view_71 : decode cX3_view 71 = .ok (.invokevirtual 149, 3) := by decide +kernel
theorem dX3_view_74 : decode cX3_view 74 = .ok (.sipush 1000, 3) := by decide +kernel
theorem dX3_view_77 : decode cX3_view 77 = .ok (.iadd, 1) := by decide +kernel
theorem dX3_view_78 : decode cX3_view 78 = .ok (.ireturn, 1) := by decide +kernel
theorem dX3_view_79 : decode cX3_view 79 = .ok (.aload_n 0, 1) := by decide +kernel
theorem dX3_view_80 : decode cX3_view 80 = .ok (.getfield 12, 3) := by decide +kernel
theorem dX3_view_83 : decode cX3_view 83 = .ok (.iload_n 1, 1) := by decide +kernel
theorem dX3_view_84 : decode cX3_view 84 = .ok (.invokevirtual 152, 3) := by decide +kernel
theorem dX3_view_87 : decode cX3_view 87 = .ok (.sipush 1000, 3) := by decide +kernel
theorem dX3_view_90 : decode cX3_view 90 = .ok (.iadd, 1) := by decide +kernel
theorem dX3_view_91 : decode cX3_view 91 = .ok (.ireturn, 1) := by decide +kernel
theorem dX3_view_92 : decode cX3_view 92 = .ok (.bipush (-2), 2) := by decide +kernel
theorem dX3_view_94 : decode cX3_view 94 = .ok (.ireturn, 1) := by decide +kernel
theorem dX3_above_0 : decode cX3_above 0 = .ok (.iload_n 1, 1) := by decide +kernel
theorem dX3_above_1 : decode cX3_above 1 = .ok (.invokestatic 140, 3) := by decide +kernel
theorem dX3_above_4 : decode cX3_above 4 = .ok (.ifCond .eq 25, 3) := by decide +kernel
theorem dX3_above_7 : decode cX3_above 7 = .ok (.iload_n 2, 1) := by decide +kernel
theorem dX3_above_8 : decode cX3_above 8 = .ok (.sipush (-600), 3) := by decide +kernel
theorem dX3_above_11 : decode cX3_above 11 = .ok (.sipush 600, 3) := by decide +kernel
theorem dX3_above_14 : decode cX3_above 14 = .ok (.invokestatic 40, 3) := by decide +kernel
theorem dX3_above_17 : decode cX3_above 17 = .ok (.ifCond .eq 12, 3) := by decide +kernel
theorem dX3_above_20 : decode cX3_above 20 = .ok (.iload_n 3, 1) := by decide +kernel
theorem dX3_above_21 : decode cX3_above 21 = .ok (.iconst 0, 1) := by decide +kernel
theorem dX3_above_22 : decode cX3_above 22 = .ok (.iconst 2, 1) := by decide +kernel
theorem dX3_above_23 : decode cX3_above 23 = .ok (.invokestatic 40, 3) := by decide +kernel
theorem dX3_above_26 : decode cX3_above 26 = .ok (.ifCond .ne 6, 3) := by decide +kernel
theorem dX3_above_29 : decode cX3_above 29 = .ok (.bipush (-2), 2) := by decide +kernel
theorem dX3_above_31 : decode cX3_above 31 = .ok (.ireturn, 1) := by decide +kernel
theorem dX3_above_32 : decode cX3_above 32 = .ok (.aload_n 0, 1) := by decide +kernel
theorem dX3_above_33 : decode cX3_above 33 = .ok (.getfield 36, 3) := by decide +kernel
theorem dX3_above_36 : decode cX3_above 36 = .ok (.aload_n 0, 1) := by decide +kernel
theorem dX3_above_37 : decode cX3_above 37 = .ok (.getfield 12, 3) := by decide +kernel
theorem dX3_above_40 : decode cX3_above 40 = .ok (.iload_n 1, 1) := by decide +kernel
theorem dX3_above_41 : decode cX3_above 41 = .ok (.iload_n 2, 1) := by decide +kernel
theorem dX3_above_42 : decode cX3_above 42 = .ok (.invokevirtual 155, 3) := by decide +kernel
theorem dX3_above_45 : decode cX3_above 45 = .ok (.aload_n 0, 1) := by decide +kernel
theorem dX3_above_46 : decode cX3_above 46 = .ok (.getfield 36, 3) := by decide +kernel
theorem dX3_above_49 : decode cX3_above 49 = .ok (.getfield 159, 3) := by decide +kernel
theorem dX3_above_52 : decode cX3_above 52 = .ok (.ifCond .ne 6, 3) := by decide +kernel
theorem dX3_above_55 : decode cX3_above 55 = .ok (.bipush (-6), 2) := by decide +kernel
theorem dX3_above_57 : decode cX3_above 57 = .ok (.ireturn, 1) := by decide +kernel
theorem dX3_above_58 : decode cX3_above 58 = .ok (.iload_n 3, 1) := by decide +kernel
theorem dX3_above_59 : decode cX3_above 59 = .ok (.lookupswitch 44 #[(0, 25), (1, 33)], 25) := by decide +kernel
theorem dX3_above_84 : decode cX3_above 84 = .ok (.aload_n 0, 1) := by decide +kernel
theorem dX3_above_85 : decode cX3_above 85 = .ok (.getfield 36, 3) := by decide +kernel
theorem dX3_above_88 : decode cX3_above 88 = .ok (.getfield 163, 3) := by decide +kernel
theorem dX3_above_91 : decode cX3_above 91 = .ok (.ireturn, 1) := by decide +kernel
theorem dX3_above_92 : decode cX3_above 92 = .ok (.aload_n 0, 1) := by decide +kernel
theorem dX3_above_93 : decode cX3_above 93 = .ok (.getfield 36, 3) := by decide +kernel
theorem dX3_above_96 : decode cX3_above 96 = .ok (.getfield 166, 3) := by decide +kernel
theorem dX3_above_99 : decode cX3_above 99 = .ok (.ldc 169, 2) := by decide +kernel
theorem dX3_above_101 : decode cX3_above 101 = .ok (.iadd, 1) := by decide +kernel
theorem dX3_above_102 : decode cX3_above 102 = .ok (.ireturn, 1) := by decide +kernel
theorem dX3_above_103 : decode cX3_above 103 = .ok (.aload_n 0, 1) := by decide +kernel
theorem dX3_above_104 : decode cX3_above 104 = .ok (.getfield 36, 3) := by decide +kernel
theorem dX3_above_107 : decode cX3_above 107 = .ok (.getfield 170, 3) := by decide +kernel
theorem dX3_above_110 : decode cX3_above 110 = .ok (.ireturn, 1) := by decide +kernel
theorem dX3_apart_0 : decode cX3_apart 0 = .ok (.aload_n 0, 1) := by decide +kernel
theorem dX3_apart_1 : decode cX3_apart 1 = .ok (.getfield 12, 3) := by decide +kernel
theorem dX3_apart_4 : decode cX3_apart 4 = .ok (.iload_n 1, 1) := by decide +kernel
theorem dX3_apart_5 : decode cX3_apart 5 = .ok (.invokevirtual 98, 3) := by decide +kernel
theorem dX3_apart_8 : decode cX3_apart 8 = .ok (.ifCond .eq 14, 3) := by decide +kernel
theorem dX3_apart_11 : decode cX3_apart 11 = .ok (.aload_n 0, 1) := by decide +kernel
theorem dX3_apart_12 : decode cX3_apart 12 = .ok (.getfield 12, 3) := by decide +kernel
theorem dX3_apart_15 : decode cX3_apart 15 = .ok (.iload_n 2, 1) := by decide +kernel
theorem dX3_apart_16 : decode cX3_apart 16 = .ok (.invokevirtual 98, 3) := by decide +kernel
theorem dX3_apart_19 : decode cX3_apart 19 = .ok (.ifCond .ne 5, 3) := by decide +kernel
theorem dX3_apart_22 : decode cX3_apart 22 = .ok (.iconst (-1), 1) := by decide +kernel
theorem dX3_apart_23 : decode cX3_apart 23 = .ok (.ireturn, 1) := by decide +kernel
theorem dX3_apart_24 : decode cX3_apart 24 = .ok (.iload_n 3, 1) := by decide +kernel
theorem dX3_apart_25 : decode cX3_apart 25 = .ok (.invokestatic 140, 3) := by decide +kernel
theorem dX3_apart_28 : decode cX3_apart 28 = .ok (.ifCond .ne 6, 3) := by decide +kernel
theorem dX3_apart_31 : decode cX3_apart 31 = .ok (.bipush (-2), 2) := by decide +kernel
theorem dX3_apart_33 : decode cX3_apart 33 = .ok (.ireturn, 1) := by decide +kernel
theorem dX3_apart_34 : decode cX3_apart 34 = .ok (.iload_n 3, 1) := by decide +kernel
theorem dX3_apart_35 : decode cX3_apart 35 = .ok (.aload_n 0, 1) := by decide +kernel
theorem dX3_apart_36 : decode cX3_apart 36 = .ok (.getfield 12, 3) := by decide +kernel
theorem dX3_apart_39 : decode cX3_apart 39 = .ok (.iload_n 1, 1) := by decide +kernel
theorem dX3_apart_40 : decode cX3_apart 40 = .ok (.invokevirtual 104, 3) := by decide +kernel
theorem dX3_apart_43 : decode cX3_apart 43 = .ok (.aload_n 0, 1) := by decide +kernel
theorem dX3_apart_44 : decode cX3_apart 44 = .ok (.getfield 12, 3) := by decide +kernel
theorem dX3_apart_47 : decode cX3_apart 47 = .ok (.iload_n 1, 1) := by decide +kernel
theorem dX3_apart_48 : decode cX3_apart 48 = .ok (.invokevirtual 108, 3) := by decide +kernel
theorem dX3_apart_51 : decode cX3_apart 51 = .ok (.invokestatic 173, 3) := by decide +kernel
theorem dX3_apart_54 : decode cX3_apart 54 = .ok (.iload_n 3, 1) := by decide +kernel
theorem dX3_apart_55 : decode cX3_apart 55 = .ok (.aload_n 0, 1) := by decide +kernel
theorem dX3_apart_56 : decode cX3_apart 56 = .ok (.getfield 12, 3) := by decide +kernel
theorem dX3_apart_59 : decode cX3_apart 59 = .ok (.iload_n 2, 1) := by decide +kernel
theorem dX3_apart_60 : decode cX3_apart 60 = .ok (.invokevirtual 104, 3) := by decide +kernel
theorem dX3_apart_63 : decode cX3_apart 63 = .ok (.aload_n 0, 1) := by decide +kernel
theorem dX3_apart_64 : decode cX3_apart 64 = .ok (.getfield 12, 3) := by decide +kernel
theorem dX3_apart_67 : decode cX3_apart 67 = .ok (.iload_n 2, 1) := by decide +kernel
theorem dX3_apart_68 : decode cX3_apart 68 = .ok (.invokevirtual 108, 3) := by decide +kernel
theorem dX3_apart_71 : decode cX3_apart 71 = .ok (.invokestatic 173, 3) := by decide +kernel
theorem dX3_apart_74 : decode cX3_apart 74 = .ok (.isub, 1) := by decide +kernel
theorem dX3_apart_75 : decode cX3_apart 75 = .ok (.istore 4, 2) := by decide +kernel
theorem dX3_apart_77 : decode cX3_apart 77 = .ok (.iload_n 3, 1) := by decide +kernel
theorem dX3_apart_78 : decode cX3_apart 78 = .ok (.aload_n 0, 1) := by decide +kernel
theorem dX3_apart_79 : decode cX3_apart 79 = .ok (.getfield 12, 3) := by decide +kernel
theorem dX3_apart_82 : decode cX3_apart 82 = .ok (.iload_n 1, 1) := by decide +kernel
theorem dX3_apart_83 : decode cX3_apart 83 = .ok (.invokevirtual 108, 3) := by decide +kernel
theorem dX3_apart_86 : decode cX3_apart 86 = .ok (.invokestatic 176, 3) := by decide +kernel
theorem dX3_apart_89 : decode cX3_apart 89 = .ok (.iload_n 3, 1) := by decide +kernel
theorem dX3_apart_90 : decode cX3_apart 90 = .ok (.aload_n 0, 1) := by decide +kernel
theorem dX3_apart_91 : decode cX3_apart 91 = .ok (.getfield 12, 3) := by decide +kernel
theorem dX3_apart_94 : decode cX3_apart 94 = .ok (.iload_n 2, 1) := by decide +kernel
theorem dX3_apart_95 : decode cX3_apart 95 = .ok (.invokevirtual 108, 3) := by decide +kernel
theorem dX3_apart_98 : decode cX3_apart 98 = .ok (.invokestatic 176, 3) := by decide +kernel
theorem dX3_apart_101 : decode cX3_apart 101 = .ok (.isub, 1) := by decide +kernel
theorem dX3_apart_102 : decode cX3_apart 102 = .ok (.istore 5, 2) := by decide +kernel
theorem dX3_apart_104 : decode cX3_apart 104 = .ok (.iload 4, 2) := by decide +kernel
theorem dX3_apart_106 : decode cX3_apart 106 = .ok (.iload 4, 2) := by decide +kernel
theorem dX3_apart_108 : decode cX3_apart 108 = .ok (.imul, 1) := by decide +kernel
theorem dX3_apart_109 : decode cX3_apart 109 = .ok (.iload 5, 2) := by decide +kernel
theorem dX3_apart_111 : decode cX3_apart 111 = .ok (.iload 5, 2) := by decide +kernel
theorem dX3_apart_113 : decode cX3_apart 113 = .ok (.imul, 1) := by decide +kernel
theorem dX3_apart_114 : decode cX3_apart 114 = .ok (.iadd, 1) := by decide +kernel
theorem dX3_apart_115 : decode cX3_apart 115 = .ok (.ireturn, 1) := by decide +kernel
theorem dX3_image_0 : decode cX3_image 0 = .ok (.iload_n 1, 1) := by decide +kernel
theorem dX3_image_1 : decode cX3_image 1 = .ok (.invokestatic 179, 3) := by decide +kernel
theorem dX3_image_4 : decode cX3_image 4 = .ok (.ifCond .ne 6, 3) := by decide +kernel
theorem dX3_image_7 : decode cX3_image 7 = .ok (.bipush (-2), 2) := by decide +kernel
theorem dX3_image_9 : decode cX3_image 9 = .ok (.ireturn, 1) := by decide +kernel
theorem dX3_image_10 : decode cX3_image 10 = .ok (.aload_n 0, 1) := by decide +kernel
theorem dX3_image_11 : decode cX3_image 11 = .ok (.iload_n 1, 1) := by decide +kernel
theorem dX3_image_12 : decode cX3_image 12 = .ok (.invokevirtual 182, 3) := by decide +kernel
theorem dX3_image_15 : decode cX3_image 15 = .ok (.aload_n 0, 1) := by decide +kernel
theorem dX3_image_16 : decode cX3_image 16 = .ok (.getfield 12, 3) := by decide +kernel
theorem dX3_image_19 : decode cX3_image 19 = .ok (.invokevirtual 186, 3) := by decide +kernel
theorem dX3_image_22 : decode cX3_image 22 = .ok (.aload_n 0, 1) := by decide +kernel
theorem dX3_image_23 : decode cX3_image 23 = .ok (.dup, 1) := by decide +kernel
theorem dX3_image_24 : decode cX3_image 24 = .ok (.getfield 22, 3) := by decide +kernel
theorem dX3_image_27 : decode cX3_image 27 = .ok (.iconst 1, 1) := by decide +kernel
theorem dX3_image_28 : decode cX3_image 28 = .ok (.iload_n 1, 1) := by decide +kernel
theorem dX3_image_29 : decode cX3_image 29 = .ok (.ishl, 1) := by decide +kernel
theorem dX3_image_30 : decode cX3_image 30 = .ok (.ior, 1) := by decide +kernel
theorem dX3_image_31 : decode cX3_image 31 = .ok (.putfield 22, 3) := by decide +kernel
theorem dX3_image_34 : decode cX3_image 34 = .ok (.iconst 1, 1) := by decide +kernel
theorem dX3_image_35 : decode cX3_image 35 = .ok (.ireturn, 1) := by decide +kernel
theorem dX3_restore_0 : decode cX3_restore 0 = .ok (.iload_n 1, 1) := by decide +kernel
theorem dX3_restore_1 : decode cX3_restore 1 = .ok (.invokestatic 179, 3) := by decide +kernel
theorem dX3_restore_4 : decode cX3_restore 4 = .ok (.ifCond .ne 6, 3) := by decide +kernel
theorem dX3_restore_7 : decode cX3_restore 7 = .ok (.bipush (-2), 2) := by decide +kernel
theorem dX3_restore_9 : decode cX3_restore 9 = .ok (.ireturn, 1) := by decide +kernel
theorem dX3_restore_10 : decode cX3_restore 10 = .ok (.aload_n 0, 1) := by decide +kernel
theorem dX3_restore_11 : decode cX3_restore 11 = .ok (.getfield 22, 3) := by decide +kernel
theorem dX3_restore_14 : decode cX3_restore 14 = .ok (.iload_n 1, 1) := by decide +kernel
theorem dX3_restore_15 : decode cX3_restore 15 = .ok (.invokestatic 189, 3) := by decide +kernel
theorem dX3_restore_18 : decode cX3_restore 18 = .ok (.ifCond .ne 6, 3) := by decide +kernel
theorem dX3_restore_21 : decode cX3_restore 21 = .ok (.bipush (-3), 2) := by decide +kernel
theorem dX3_restore_23 : decode cX3_restore 23 = .ok (.ireturn, 1) := by decide +kernel
theorem dX3_restore_24 : decode cX3_restore 24 = .ok (.aload_n 0, 1) := by decide +kernel
theorem dX3_restore_25 : decode cX3_restore 25 = .ok (.getfield 12, 3) := by decide +kernel
theorem dX3_restore_28 : decode cX3_restore 28 = .ok (.aload_n 0, 1) := by decide +kernel
theorem dX3_restore_29 : decode cX3_restore 29 = .ok (.iload_n 1, 1) := by decide +kernel
theorem dX3_restore_30 : decode cX3_restore 30 = .ok (.invokevirtual 182, 3) := by decide +kernel
theorem dX3_restore_33 : decode cX3_restore 33 = .ok (.invokevirtual 186, 3) := by decide +kernel
theorem dX3_restore_36 : decode cX3_restore 36 = .ok (.iconst 1, 1) := by decide +kernel
theorem dX3_restore_37 : decode cX3_restore 37 = .ok (.ireturn, 1) := by decide +kernel
theorem dX3_count_0 : decode cX3_count 0 = .ok (.iload_n 1, 1) := by decide +kernel
theorem dX3_count_1 : decode cX3_count 1 = .ok (.tableswitch 96 0 6 #[43, 51, 59, 67, 75, 83, 91], 43) := by decide +kernel
theorem dX3_count_44 : decode cX3_count 44 = .ok (.aload_n 0, 1) := by decide +kernel
theorem dX3_count_45 : decode cX3_count 45 = .ok (.getfield 12, 3) := by decide +kernel
theorem dX3_count_48 : decode cX3_count 48 = .ok (.getfield 44, 3) := by decide +kernel
theorem dX3_count_51 : decode cX3_count 51 = .ok (.ireturn, 1) := by decide +kernel
theorem dX3_count_52 : decode cX3_count 52 = .ok (.aload_n 0, 1) := by decide +kernel
theorem dX3_count_53 : decode cX3_count 53 = .ok (.getfield 12, 3) := by decide +kernel
theorem dX3_count_56 : decode cX3_count 56 = .ok (.invokevirtual 74, 3) := by decide +kernel
theorem dX3_count_59 : decode cX3_count 59 = .ok (.ireturn, 1) := by decide +kernel
theorem dX3_count_60 : decode cX3_count 60 = .ok (.aload_n 0, 1) := by decide +kernel
theorem dX3_count_61 : decode cX3_count 61 = .ok (.getfield 12, 3) := by decide +kernel
theorem dX3_count_64 : decode cX3_count 64 = .ok (.invokevirtual 192, 3) := by decide +kernel
theorem dX3_count_67 : decode cX3_count 67 = .ok (.ireturn, 1) := by decide +kernel
theorem dX3_count_68 : decode cX3_count 68 = .ok (.aload_n 0, 1) := by decide +kernel
theorem dX3_count_69 : decode cX3_count 69 = .ok (.getfield 12, 3) := by decide +kernel
theorem dX3_count_72 : decode cX3_count 72 = .ok (.getfield 47, 3) := by decide +kernel
theorem dX3_count_75 : decode cX3_count 75 = .ok (.ireturn, 1) := by decide +kernel
theorem dX3_count_76 : decode cX3_count 76 = .ok (.aload_n 0, 1) := by decide +kernel
theorem dX3_count_77 : decode cX3_count 77 = .ok (.getfield 12, 3) := by decide +kernel
theorem dX3_count_80 : decode cX3_count 80 = .ok (.invokevirtual 195, 3) := by decide +kernel
theorem dX3_count_83 : decode cX3_count 83 = .ok (.ireturn, 1) := by decide +kernel
theorem dX3_count_84 : decode cX3_count 84 = .ok (.aload_n 0, 1) := by decide +kernel
theorem dX3_count_85 : decode cX3_count 85 = .ok (.getfield 12, 3) := by decide +kernel
theorem dX3_count_88 : decode cX3_count 88 = .ok (.invokevirtual 198, 3) := by decide +kernel
theorem dX3_count_91 : decode cX3_count 91 = .ok (.ireturn, 1) := by decide +kernel
theorem dX3_count_92 : decode cX3_count 92 = .ok (.aload_n 0, 1) := by decide +kernel
theorem dX3_count_93 : decode cX3_count 93 = .ok (.getfield 22, 3) := by decide +kernel
theorem dX3_count_96 : decode cX3_count 96 = .ok (.ireturn, 1) := by decide +kernel
theorem dX3_count_97 : decode cX3_count 97 = .ok (.bipush (-2), 2) := by decide +kernel
theorem dX3_count_99 : decode cX3_count 99 = .ok (.ireturn, 1) := by decide +kernel
theorem dX3_isWithin_0 : decode cX3_isWithin 0 = .ok (.iload_n 0, 1) := by decide +kernel
theorem dX3_isWithin_1 : decode cX3_isWithin 1 = .ok (.iload_n 1, 1) := by decide +kernel
theorem dX3_isWithin_2 : decode cX3_isWithin 2 = .ok (.if_icmp .lt 12, 3) := by decide +kernel
theorem dX3_isWithin_5 : decode cX3_isWithin 5 = .ok (.iload_n 0, 1) := by decide +kernel
theorem dX3_isWithin_6 : decode cX3_isWithin 6 = .ok (.iload_n 2, 1) := by decide +kernel
theorem dX3_isWithin_7 : decode cX3_isWithin 7 = .ok (.if_icmp .gt 7, 3) := by decide +kernel
theorem dX3_isWithin_10 : decode cX3_isWithin 10 = .ok (.iconst 1, 1) := by decide +kernel
theorem dX3_isWithin_11 : decode cX3_isWithin 11 = .ok (.goto 4, 3) := by decide +kernel
theorem dX3_isWithin_14 : decode cX3_isWithin 14 = .ok (.iconst 0, 1) := by decide +kernel
theorem dX3_isWithin_15 : decode cX3_isWithin 15 = .ok (.ireturn, 1) := by decide +kernel
theorem dX3_areSides_0 : decode cX3_areSides 0 = .ok (.iload_n 0, 1) := by decide +kernel
theorem dX3_areSides_1 : decode cX3_areSides 1 = .ok (.iconst 1, 1) := by decide +kernel
theorem dX3_areSides_2 : decode cX3_areSides 2 = .ok (.bipush 12, 2) := by decide +kernel
theorem dX3_areSides_4 : decode cX3_areSides 4 = .ok (.invokestatic 40, 3) := by decide +kernel
theorem dX3_areSides_7 : decode cX3_areSides 7 = .ok (.ifCond .eq 17, 3) := by decide +kernel
theorem dX3_areSides_10 : decode cX3_areSides 10 = .ok (.iload_n 1, 1) := by decide +kernel
theorem dX3_areSides_11 : decode cX3_areSides 11 = .ok (.iconst 1, 1) := by decide +kernel
theorem dX3_areSides_12 : decode cX3_areSides 12 = .ok (.bipush 12, 2) := by decide +kernel
theorem dX3_areSides_14 : decode cX3_areSides 14 = .ok (.invokestatic 40, 3) := by decide +kernel
theorem dX3_areSides_17 : decode cX3_areSides 17 = .ok (.ifCond .eq 7, 3) := by decide +kernel
theorem dX3_areSides_20 : decode cX3_areSides 20 = .ok (.iconst 1, 1) := by decide +kernel
theorem dX3_areSides_21 : decode cX3_areSides 21 = .ok (.goto 4, 3) := by decide +kernel
theorem dX3_areSides_24 : decode cX3_areSides 24 = .ok (.iconst 0, 1) := by decide +kernel
theorem dX3_areSides_25 : decode cX3_areSides 25 = .ok (.ireturn, 1) := by decide +kernel
theorem dX3_isStep_0 : decode cX3_isStep 0 = .ok (.iload_n 0, 1) := by decide +kernel
theorem dX3_isStep_1 : decode cX3_isStep 1 = .ok (.iconst 0, 1) := by decide +kernel
theorem dX3_isStep_2 : decode cX3_isStep 2 = .ok (.bipush 10, 2) := by decide +kernel
theorem dX3_isStep_4 : decode cX3_isStep 4 = .ok (.invokestatic 40, 3) := by decide +kernel
theorem dX3_isStep_7 : decode cX3_isStep 7 = .ok (.ireturn, 1) := by decide +kernel
theorem dX3_isImage_0 : decode cX3_isImage 0 = .ok (.iload_n 0, 1) := by decide +kernel
theorem dX3_isImage_1 : decode cX3_isImage 1 = .ok (.ifCond .eq 8, 3) := by decide +kernel
theorem dX3_isImage_4 : decode cX3_isImage 4 = .ok (.iload_n 0, 1) := by decide +kernel
theorem dX3_isImage_5 : decode cX3_isImage 5 = .ok (.iconst 1, 1) := by decide +kernel
theorem dX3_isImage_6 : decode cX3_isImage 6 = .ok (.if_icmp .ne 7, 3) := by decide +kernel
theorem dX3_isImage_9 : decode cX3_isImage 9 = .ok (.iconst 1, 1) := by decide +kernel
theorem dX3_isImage_10 : decode cX3_isImage 10 = .ok (.goto 4, 3) := by decide +kernel
theorem dX3_isImage_13 : decode cX3_isImage 13 = .ok (.iconst 0, 1) := by decide +kernel
theorem dX3_isImage_14 : decode cX3_isImage 14 = .ok (.ireturn, 1) := by decide +kernel
theorem dX3_imageAt_0 : decode cX3_imageAt 0 = .ok (.iload_n 1, 1) := by decide +kernel
theorem dX3_imageAt_1 : decode cX3_imageAt 1 = .ok (.ifCond .ne 10, 3) := by decide +kernel
theorem dX3_imageAt_4 : decode cX3_imageAt 4 = .ok (.aload_n 0, 1) := by decide +kernel
theorem dX3_imageAt_5 : decode cX3_imageAt 5 = .ok (.getfield 16, 3) := by decide +kernel
theorem dX3_imageAt_8 : decode cX3_imageAt 8 = .ok (.goto 7, 3) := by decide +kernel
theorem dX3_imageAt_11 : decode cX3_imageAt 11 = .ok (.aload_n 0, 1) := by decide +kernel
theorem dX3_imageAt_12 : decode cX3_imageAt 12 = .ok (.getfield 19, 3) := by decide +kernel
theorem dX3_imageAt_15 : decode cX3_imageAt 15 = .ok (.areturn, 1) := by decide +kernel
theorem dX3_isBit_0 : decode cX3_isBit 0 = .ok (.iload_n 1, 1) := by decide +kernel
theorem dX3_isBit_1 : decode cX3_isBit 1 = .ok (.iconst 0, 1) := by decide +kernel
theorem dX3_isBit_2 : decode cX3_isBit 2 = .ok (.bipush 31, 2) := by decide +kernel
theorem dX3_isBit_4 : decode cX3_isBit 4 = .ok (.invokestatic 40, 3) := by decide +kernel
theorem dX3_isBit_7 : decode cX3_isBit 7 = .ok (.ifCond .eq 16, 3) := by decide +kernel
theorem dX3_isBit_10 : decode cX3_isBit 10 = .ok (.iload_n 0, 1) := by decide +kernel
theorem dX3_isBit_11 : decode cX3_isBit 11 = .ok (.iload_n 1, 1) := by decide +kernel
theorem dX3_isBit_12 : decode cX3_isBit 12 = .ok (.iushr, 1) := by decide +kernel
theorem dX3_isBit_13 : decode cX3_isBit 13 = .ok (.iconst 1, 1) := by decide +kernel
theorem dX3_isBit_14 : decode cX3_isBit 14 = .ok (.iand, 1) := by decide +kernel
theorem dX3_isBit_15 : decode cX3_isBit 15 = .ok (.iconst 1, 1) := by decide +kernel
theorem dX3_isBit_16 : decode cX3_isBit 16 = .ok (.if_icmp .ne 7, 3) := by decide +kernel
theorem dX3_isBit_19 : decode cX3_isBit 19 = .ok (.iconst 1, 1) := by decide +kernel
theorem dX3_isBit_20 : decode cX3_isBit 20 = .ok (.goto 4, 3) := by decide +kernel
theorem dX3_isBit_23 : decode cX3_isBit 23 = .ok (.iconst 0, 1) := by decide +kernel
theorem dX3_isBit_24 : decode cX3_isBit 24 = .ok (.ireturn, 1) := by decide +kernel
theorem dX3_acrossOf_0 : decode cX3_acrossOf 0 = .ok (.iload_n 0, 1) := by decide +kernel
theorem dX3_acrossOf_1 : decode cX3_acrossOf 1 = .ok (.invokestatic 140, 3) := by decide +kernel
theorem dX3_acrossOf_4 : decode cX3_acrossOf 4 = .ok (.ifCond .eq 18, 3) := by decide +kernel
theorem dX3_acrossOf_7 : decode cX3_acrossOf 7 = .ok (.bipush 25, 2) := by decide +kernel
theorem dX3_acrossOf_9 : decode cX3_acrossOf 9 = .ok (.iload_n 1, 1) := by decide +kernel
theorem dX3_acrossOf_10 : decode cX3_acrossOf 10 = .ok (.imul, 1) := by decide +kernel
theorem dX3_acrossOf_11 : decode cX3_acrossOf 11 = .ok (.getstatic 201, 3) := by decide +kernel
theorem dX3_acrossOf_14 : decode cX3_acrossOf 14 = .ok (.iload_n 0, 1) := by decide +kernel
theorem dX3_acrossOf_15 : decode cX3_acrossOf 15 = .ok (.iaload, 1) := by decide +kernel
theorem dX3_acrossOf_16 : decode cX3_acrossOf 16 = .ok (.iload_n 2, 1) := by decide +kernel
theorem dX3_acrossOf_17 : decode cX3_acrossOf 17 = .ok (.imul, 1) := by decide +kernel
theorem dX3_acrossOf_18 : decode cX3_acrossOf 18 = .ok (.iadd, 1) := by decide +kernel
theorem dX3_acrossOf_19 : decode cX3_acrossOf 19 = .ok (.goto 4, 3) := by decide +kernel
theorem dX3_acrossOf_22 : decode cX3_acrossOf 22 = .ok (.iconst 0, 1) := by decide +kernel
theorem dX3_acrossOf_23 : decode cX3_acrossOf 23 = .ok (.ireturn, 1) := by decide +kernel
theorem dX3_upOf_0 : decode cX3_upOf 0 = .ok (.iload_n 0, 1) := by decide +kernel
theorem dX3_upOf_1 : decode cX3_upOf 1 = .ok (.invokestatic 140, 3) := by decide +kernel
theorem dX3_upOf_4 : decode cX3_upOf 4 = .ok (.ifCond .eq 13, 3) := by decide +kernel
theorem dX3_upOf_7 : decode cX3_upOf 7 = .ok (.getstatic 204, 3) := by decide +kernel
theorem dX3_upOf_10 : decode cX3_upOf 10 = .ok (.iload_n 0, 1) := by decide +kernel
theorem dX3_upOf_11 : decode cX3_upOf 11 = .ok (.iaload, 1) := by decide +kernel
theorem dX3_upOf_12 : decode cX3_upOf 12 = .ok (.iload_n 1, 1) := by decide +kernel
theorem dX3_upOf_13 : decode cX3_upOf 13 = .ok (.imul, 1) := by decide +kernel
theorem dX3_upOf_14 : decode cX3_upOf 14 = .ok (.goto 4, 3) := by decide +kernel
theorem dX3_upOf_17 : decode cX3_upOf 17 = .ok (.iconst 0, 1) := by decide +kernel
theorem dX3_upOf_18 : decode cX3_upOf 18 = .ok (.ireturn, 1) := by decide +kernel
