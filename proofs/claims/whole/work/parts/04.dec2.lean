theorem d_m_init_0 : decode b_m_init 0 = .ok (.aload_n 0, 1) := by decide +kernel
theorem d_m_init_1 : decode b_m_init 1 = .ok (.invokespecial 1, 3) := by decide +kernel
theorem d_m_init_4 : decode b_m_init 4 = .ok (.aload_n 0, 1) := by decide +kernel
theorem d_m_init_5 : decode b_m_init 5 = .ok (.sipush 600, 3) := by decide +kernel
theorem d_m_init_8 : decode b_m_init 8 = .ok (.newarray .int, 2) := by decide +kernel
theorem d_m_init_10 : decode b_m_init 10 = .ok (.putfield 7, 3) := by decide +kernel
theorem d_m_init_13 : decode b_m_init 13 = .ok (.aload_n 0, 1) := by decide +kernel
theorem d_m_init_14 : decode b_m_init 14 = .ok (.sipush 1200, 3) := by decide +kernel
theorem d_m_init_17 : decode b_m_init 17 = .ok (.newarray .int, 2) := by decide +kernel
theorem d_m_init_19 : decode b_m_init 19 = .ok (.putfield 13, 3) := by decide +kernel
theorem d_m_init_22 : decode b_m_init 22 = .ok (.aload_n 0, 1) := by decide +kernel
theorem d_m_init_23 : decode b_m_init 23 = .ok (.iconst 2, 1) := by decide +kernel
theorem d_m_init_24 : decode b_m_init 24 = .ok (.newarray .boolean, 2) := by decide +kernel
theorem d_m_init_26 : decode b_m_init 26 = .ok (.putfield 16, 3) := by decide +kernel
theorem d_m_init_29 : decode b_m_init 29 = .ok (.aload_n 0, 1) := by decide +kernel
theorem d_m_init_30 : decode b_m_init 30 = .ok (.sipush 3000, 3) := by decide +kernel
theorem d_m_init_33 : decode b_m_init 33 = .ok (.newarray .int, 2) := by decide +kernel
theorem d_m_init_35 : decode b_m_init 35 = .ok (.putfield 20, 3) := by decide +kernel
theorem d_m_init_38 : decode b_m_init 38 = .ok (.aload_n 0, 1) := by decide +kernel
theorem d_m_init_39 : decode b_m_init 39 = .ok (.sipush 600, 3) := by decide +kernel
theorem d_m_init_42 : decode b_m_init 42 = .ok (.newarray .int, 2) := by decide +kernel
theorem d_m_init_44 : decode b_m_init 44 = .ok (.putfield 23, 3) := by decide +kernel
theorem d_m_init_47 : decode b_m_init 47 = .ok (.aload_n 0, 1) := by decide +kernel
theorem d_m_init_48 : decode b_m_init 48 = .ok (.getfield 7, 3) := by decide +kernel
theorem d_m_init_51 : decode b_m_init 51 = .ok (.iconst 3, 1) := by decide +kernel
theorem d_m_init_52 : decode b_m_init 52 = .ok (.bipush 10, 2) := by decide +kernel
theorem d_m_init_54 : decode b_m_init 54 = .ok (.iastore, 1) := by decide +kernel
theorem d_m_init_55 : decode b_m_init 55 = .ok (.aload_n 0, 1) := by decide +kernel
theorem d_m_init_56 : decode b_m_init 56 = .ok (.getfield 7, 3) := by decide +kernel
theorem d_m_init_59 : decode b_m_init 59 = .ok (.iconst 4, 1) := by decide +kernel
theorem d_m_init_60 : decode b_m_init 60 = .ok (.bipush 25, 2) := by decide +kernel
theorem d_m_init_62 : decode b_m_init 62 = .ok (.iastore, 1) := by decide +kernel
theorem d_m_init_63 : decode b_m_init 63 = .ok (.aload_n 0, 1) := by decide +kernel
theorem d_m_init_64 : decode b_m_init 64 = .ok (.getfield 7, 3) := by decide +kernel
theorem d_m_init_67 : decode b_m_init 67 = .ok (.iconst 5, 1) := by decide +kernel
theorem d_m_init_68 : decode b_m_init 68 = .ok (.ldc 26, 2) := by decide +kernel
theorem d_m_init_70 : decode b_m_init 70 = .ok (.iastore, 1) := by decide +kernel
theorem d_m_init_71 : decode b_m_init 71 = .ok (.aload_n 0, 1) := by decide +kernel
theorem d_m_init_72 : decode b_m_init 72 = .ok (.getfield 7, 3) := by decide +kernel
theorem d_m_init_75 : decode b_m_init 75 = .ok (.bipush 6, 2) := by decide +kernel
theorem d_m_init_77 : decode b_m_init 77 = .ok (.sipush 6000, 3) := by decide +kernel
theorem d_m_init_80 : decode b_m_init 80 = .ok (.iastore, 1) := by decide +kernel
theorem d_m_init_81 : decode b_m_init 81 = .ok (.return_, 1) := by decide +kernel
theorem d_m_in_0 : decode b_m_in 0 = .ok (.iload_n 0, 1) := by decide +kernel
theorem d_m_in_1 : decode b_m_in 1 = .ok (.iload_n 1, 1) := by decide +kernel
theorem d_m_in_2 : decode b_m_in 2 = .ok (.if_icmp .lt 12, 3) := by decide +kernel
theorem d_m_in_5 : decode b_m_in 5 = .ok (.iload_n 0, 1) := by decide +kernel
theorem d_m_in_6 : decode b_m_in 6 = .ok (.iload_n 2, 1) := by decide +kernel
theorem d_m_in_7 : decode b_m_in 7 = .ok (.if_icmp .gt 7, 3) := by decide +kernel
theorem d_m_in_10 : decode b_m_in 10 = .ok (.iconst 1, 1) := by decide +kernel
theorem d_m_in_11 : decode b_m_in 11 = .ok (.goto 4, 3) := by decide +kernel
theorem d_m_in_14 : decode b_m_in 14 = .ok (.iconst 0, 1) := by decide +kernel
theorem d_m_in_15 : decode b_m_in 15 = .ok (.ireturn, 1) := by decide +kernel
theorem d_m_act_0 : decode b_m_act 0 = .ok (.aload_n 0, 1) := by decide +kernel
theorem d_m_act_1 : decode b_m_act 1 = .ok (.getfield 27, 3) := by decide +kernel
theorem d_m_act_4 : decode b_m_act 4 = .ok (.iconst 5, 1) := by decide +kernel
theorem d_m_act_5 : decode b_m_act 5 = .ok (.if_icmp .ne 44, 3) := by decide +kernel
theorem d_m_act_8 : decode b_m_act 8 = .ok (.iconst 0, 1) := by decide +kernel
theorem d_m_act_9 : decode b_m_act 9 = .ok (.istore_n 1, 1) := by decide +kernel
theorem d_m_act_10 : decode b_m_act 10 = .ok (.iload_n 1, 1) := by decide +kernel
theorem d_m_act_11 : decode b_m_act 11 = .ok (.sipush 2400, 3) := by decide +kernel
theorem d_m_act_14 : decode b_m_act 14 = .ok (.if_icmp .ge 25, 3) := by decide +kernel
theorem d_m_act_17 : decode b_m_act 17 = .ok (.aload_n 0, 1) := by decide +kernel
theorem d_m_act_18 : decode b_m_act 18 = .ok (.getfield 20, 3) := by decide +kernel
theorem d_m_act_21 : decode b_m_act 21 = .ok (.iload_n 1, 1) := by decide +kernel
theorem d_m_act_22 : decode b_m_act 22 = .ok (.aload_n 0, 1) := by decide +kernel
theorem d_m_act_23 : decode b_m_act 23 = .ok (.getfield 20, 3) := by decide +kernel
theorem d_m_act_26 : decode b_m_act 26 = .ok (.iload_n 1, 1) := by decide +kernel
theorem d_m_act_27 : decode b_m_act 27 = .ok (.sipush 600, 3) := by decide +kernel
theorem d_m_act_30 : decode b_m_act 30 = .ok (.iadd, 1) := by decide +kernel
theorem d_m_act_31 : decode b_m_act 31 = .ok (.iaload, 1) := by decide +kernel
theorem d_m_act_32 : decode b_m_act 32 = .ok (.iastore, 1) := by decide +kernel
theorem d_m_act_33 : decode b_m_act 33 = .ok (.iinc 1 1, 3) := by decide +kernel
theorem d_m_act_36 : decode b_m_act 36 = .ok (.goto (-26), 3) := by decide +kernel
theorem d_m_act_39 : decode b_m_act 39 = .ok (.aload_n 0, 1) := by decide +kernel
theorem d_m_act_40 : decode b_m_act 40 = .ok (.dup, 1) := by decide +kernel
theorem d_m_act_41 : decode b_m_act 41 = .ok (.getfield 27, 3) := by decide +kernel
theorem d_m_act_44 : decode b_m_act 44 = .ok (.iconst 1, 1) := by decide +kernel
theorem d_m_act_45 : decode b_m_act 45 = .ok (.isub, 1) := by decide +kernel
theorem d_m_act_46 : decode b_m_act 46 = .ok (.putfield 27, 3) := by decide +kernel
theorem d_m_act_49 : decode b_m_act 49 = .ok (.iconst 0, 1) := by decide +kernel
theorem d_m_act_50 : decode b_m_act 50 = .ok (.istore_n 1, 1) := by decide +kernel
theorem d_m_act_51 : decode b_m_act 51 = .ok (.iload_n 1, 1) := by decide +kernel
theorem d_m_act_52 : decode b_m_act 52 = .ok (.sipush 600, 3) := by decide +kernel
theorem d_m_act_55 : decode b_m_act 55 = .ok (.if_icmp .ge 30, 3) := by decide +kernel
theorem d_m_act_58 : decode b_m_act 58 = .ok (.aload_n 0, 1) := by decide +kernel
theorem d_m_act_59 : decode b_m_act 59 = .ok (.getfield 20, 3) := by decide +kernel
theorem d_m_act_62 : decode b_m_act 62 = .ok (.sipush 600, 3) := by decide +kernel
theorem d_m_act_65 : decode b_m_act 65 = .ok (.aload_n 0, 1) := by decide +kernel
theorem d_m_act_66 : decode b_m_act 66 = .ok (.getfield 27, 3) := by decide +kernel
theorem d_m_act_69 : decode b_m_act 69 = .ok (.imul, 1) := by decide +kernel
theorem d_m_act_70 : decode b_m_act 70 = .ok (.iload_n 1, 1) := by decide +kernel
theorem d_m_act_71 : decode b_m_act 71 = .ok (.iadd, 1) := by decide +kernel
theorem d_m_act_72 : decode b_m_act 72 = .ok (.aload_n 0, 1) := by decide +kernel
theorem d_m_act_73 : decode b_m_act 73 = .ok (.getfield 7, 3) := by decide +kernel
theorem d_m_act_76 : decode b_m_act 76 = .ok (.iload_n 1, 1) := by decide +kernel
theorem d_m_act_77 : decode b_m_act 77 = .ok (.iaload, 1) := by decide +kernel
theorem d_m_act_78 : decode b_m_act 78 = .ok (.iastore, 1) := by decide +kernel
theorem d_m_act_79 : decode b_m_act 79 = .ok (.iinc 1 1, 3) := by decide +kernel
theorem d_m_act_82 : decode b_m_act 82 = .ok (.goto (-31), 3) := by decide +kernel
theorem d_m_act_85 : decode b_m_act 85 = .ok (.aload_n 0, 1) := by decide +kernel
theorem d_m_act_86 : decode b_m_act 86 = .ok (.dup, 1) := by decide +kernel
theorem d_m_act_87 : decode b_m_act 87 = .ok (.getfield 27, 3) := by decide +kernel
theorem d_m_act_90 : decode b_m_act 90 = .ok (.iconst 1, 1) := by decide +kernel
theorem d_m_act_91 : decode b_m_act 91 = .ok (.iadd, 1) := by decide +kernel
theorem d_m_act_92 : decode b_m_act 92 = .ok (.putfield 27, 3) := by decide +kernel
theorem d_m_act_95 : decode b_m_act 95 = .ok (.return_, 1) := by decide +kernel
theorem d_m_isRate_0 : decode b_m_isRate 0 = .ok (.iload_n 1, 1) := by decide +kernel
theorem d_m_isRate_1 : decode b_m_isRate 1 = .ok (.iconst 0, 1) := by decide +kernel
theorem d_m_isRate_2 : decode b_m_isRate 2 = .ok (.aload_n 0, 1) := by decide +kernel
theorem d_m_isRate_3 : decode b_m_isRate 3 = .ok (.getfield 7, 3) := by decide +kernel
theorem d_m_isRate_6 : decode b_m_isRate 6 = .ok (.iconst 1, 1) := by decide +kernel
theorem d_m_isRate_7 : decode b_m_isRate 7 = .ok (.iaload, 1) := by decide +kernel
theorem d_m_isRate_8 : decode b_m_isRate 8 = .ok (.iconst 1, 1) := by decide +kernel
theorem d_m_isRate_9 : decode b_m_isRate 9 = .ok (.isub, 1) := by decide +kernel
theorem d_m_isRate_10 : decode b_m_isRate 10 = .ok (.invokestatic 31, 3) := by decide +kernel
theorem d_m_isRate_13 : decode b_m_isRate 13 = .ok (.ireturn, 1) := by decide +kernel
theorem d_m_isStation_0 : decode b_m_isStation 0 = .ok (.iload_n 1, 1) := by decide +kernel
theorem d_m_isStation_1 : decode b_m_isStation 1 = .ok (.iconst 0, 1) := by decide +kernel
theorem d_m_isStation_2 : decode b_m_isStation 2 = .ok (.aload_n 0, 1) := by decide +kernel
theorem d_m_isStation_3 : decode b_m_isStation 3 = .ok (.getfield 7, 3) := by decide +kernel
theorem d_m_isStation_6 : decode b_m_isStation 6 = .ok (.iconst 2, 1) := by decide +kernel
theorem d_m_isStation_7 : decode b_m_isStation 7 = .ok (.iaload, 1) := by decide +kernel
theorem d_m_isStation_8 : decode b_m_isStation 8 = .ok (.iconst 1, 1) := by decide +kernel
theorem d_m_isStation_9 : decode b_m_isStation 9 = .ok (.isub, 1) := by decide +kernel
theorem d_m_isStation_10 : decode b_m_isStation 10 = .ok (.invokestatic 31, 3) := by decide +kernel
theorem d_m_isStation_13 : decode b_m_isStation 13 = .ok (.ireturn, 1) := by decide +kernel
theorem d_m_areBoth_0 : decode b_m_areBoth 0 = .ok (.aload_n 0, 1) := by decide +kernel
theorem d_m_areBoth_1 : decode b_m_areBoth 1 = .ok (.iload_n 1, 1) := by decide +kernel
theorem d_m_areBoth_2 : decode b_m_areBoth 2 = .ok (.invokevirtual 35, 3) := by decide +kernel
theorem d_m_areBoth_5 : decode b_m_areBoth 5 = .ok (.ifCond .eq 15, 3) := by decide +kernel
theorem d_m_areBoth_8 : decode b_m_areBoth 8 = .ok (.aload_n 0, 1) := by decide +kernel
theorem d_m_areBoth_9 : decode b_m_areBoth 9 = .ok (.iload_n 2, 1) := by decide +kernel
theorem d_m_areBoth_10 : decode b_m_areBoth 10 = .ok (.invokevirtual 39, 3) := by decide +kernel
theorem d_m_areBoth_13 : decode b_m_areBoth 13 = .ok (.ifCond .eq 7, 3) := by decide +kernel
theorem d_m_areBoth_16 : decode b_m_areBoth 16 = .ok (.iconst 1, 1) := by decide +kernel
theorem d_m_areBoth_17 : decode b_m_areBoth 17 = .ok (.goto 4, 3) := by decide +kernel
theorem d_m_areBoth_20 : decode b_m_areBoth 20 = .ok (.iconst 0, 1) := by decide +kernel
theorem d_m_areBoth_21 : decode b_m_areBoth 21 = .ok (.ireturn, 1) := by decide +kernel
theorem d_m_pair_0 : decode b_m_pair 0 = .ok (.bipush 30, 2) := by decide +kernel
theorem d_m_pair_2 : decode b_m_pair 2 = .ok (.bipush 8, 2) := by decide +kernel
theorem d_m_pair_4 : decode b_m_pair 4 = .ok (.bipush 8, 2) := by decide +kernel
theorem d_m_pair_6 : decode b_m_pair 6 = .ok (.iload_n 0, 1) := by decide +kernel
theorem d_m_pair_7 : decode b_m_pair 7 = .ok (.imul, 1) := by decide +kernel
theorem d_m_pair_8 : decode b_m_pair 8 = .ok (.iload_n 1, 1) := by decide +kernel
theorem d_m_pair_9 : decode b_m_pair 9 = .ok (.iadd, 1) := by decide +kernel
theorem d_m_pair_10 : decode b_m_pair 10 = .ok (.imul, 1) := by decide +kernel
theorem d_m_pair_11 : decode b_m_pair 11 = .ok (.iadd, 1) := by decide +kernel
theorem d_m_pair_12 : decode b_m_pair 12 = .ok (.ireturn, 1) := by decide +kernel
theorem d_m_side_0 : decode b_m_side 0 = .ok (.sipush 290, 3) := by decide +kernel
theorem d_m_side_3 : decode b_m_side 3 = .ok (.bipush 32, 2) := by decide +kernel
theorem d_m_side_5 : decode b_m_side 5 = .ok (.iload_n 0, 1) := by decide +kernel
theorem d_m_side_6 : decode b_m_side 6 = .ok (.imul, 1) := by decide +kernel
theorem d_m_side_7 : decode b_m_side 7 = .ok (.iadd, 1) := by decide +kernel
theorem d_m_side_8 : decode b_m_side 8 = .ok (.ireturn, 1) := by decide +kernel
theorem d_m_open_0 : decode b_m_open 0 = .ok (.sipush 420, 3) := by decide +kernel
theorem d_m_open_3 : decode b_m_open 3 = .ok (.bipush 16, 2) := by decide +kernel
theorem d_m_open_5 : decode b_m_open 5 = .ok (.iload_n 0, 1) := by decide +kernel
theorem d_m_open_6 : decode b_m_open 6 = .ok (.imul, 1) := by decide +kernel
theorem d_m_open_7 : decode b_m_open 7 = .ok (.iadd, 1) := by decide +kernel
theorem d_m_open_8 : decode b_m_open 8 = .ok (.ireturn, 1) := by decide +kernel
theorem d_m_up_0 : decode b_m_up 0 = .ok (.iload_n 0, 1) := by decide +kernel
theorem d_m_up_1 : decode b_m_up 1 = .ok (.iload_n 1, 1) := by decide +kernel
theorem d_m_up_2 : decode b_m_up 2 = .ok (.iadd, 1) := by decide +kernel
theorem d_m_up_3 : decode b_m_up 3 = .ok (.iconst 1, 1) := by decide +kernel
theorem d_m_up_4 : decode b_m_up 4 = .ok (.isub, 1) := by decide +kernel
theorem d_m_up_5 : decode b_m_up 5 = .ok (.iload_n 1, 1) := by decide +kernel
theorem d_m_up_6 : decode b_m_up 6 = .ok (.idiv, 1) := by decide +kernel
theorem d_m_up_7 : decode b_m_up 7 = .ok (.ireturn, 1) := by decide +kernel
theorem d_m_air_0 : decode b_m_air 0 = .ok (.aload_n 0, 1) := by decide +kernel
theorem d_m_air_1 : decode b_m_air 1 = .ok (.getfield 7, 3) := by decide +kernel
theorem d_m_air_4 : decode b_m_air 4 = .ok (.bipush 18, 2) := by decide +kernel
theorem d_m_air_6 : decode b_m_air 6 = .ok (.iload_n 1, 1) := by decide +kernel
theorem d_m_air_7 : decode b_m_air 7 = .ok (.iadd, 1) := by decide +kernel
theorem d_m_air_8 : decode b_m_air 8 = .ok (.iaload, 1) := by decide +kernel
theorem d_m_air_9 : decode b_m_air 9 = .ok (.istore_n 3, 1) := by decide +kernel
theorem d_m_air_10 : decode b_m_air 10 = .ok (.aload_n 0, 1) := by decide +kernel
theorem d_m_air_11 : decode b_m_air 11 = .ok (.getfield 7, 3) := by decide +kernel
theorem d_m_air_14 : decode b_m_air 14 = .ok (.bipush 10, 2) := by decide +kernel
theorem d_m_air_16 : decode b_m_air 16 = .ok (.iload_n 1, 1) := by decide +kernel
theorem d_m_air_17 : decode b_m_air 17 = .ok (.iadd, 1) := by decide +kernel
theorem d_m_air_18 : decode b_m_air 18 = .ok (.iaload, 1) := by decide +kernel
theorem d_m_air_19 : decode b_m_air 19 = .ok (.ifCond .ne 16, 3) := by decide +kernel
theorem d_m_air_22 : decode b_m_air 22 = .ok (.sipush 252, 3) := by decide +kernel
theorem d_m_air_25 : decode b_m_air 25 = .ok (.bipush 80, 2) := by decide +kernel
theorem d_m_air_27 : decode b_m_air 27 = .ok (.iload_n 2, 1) := by decide +kernel
theorem d_m_air_28 : decode b_m_air 28 = .ok (.imul, 1) := by decide +kernel
theorem d_m_air_29 : decode b_m_air 29 = .ok (.iload_n 3, 1) := by decide +kernel
theorem d_m_air_30 : decode b_m_air 30 = .ok (.invokestatic 42, 3) := by decide +kernel
theorem d_m_air_33 : decode b_m_air 33 = .ok (.iadd, 1) := by decide +kernel
theorem d_m_air_34 : decode b_m_air 34 = .ok (.ireturn, 1) := by decide +kernel
theorem d_m_air_35 : decode b_m_air 35 = .ok (.sipush 220, 3) := by decide +kernel
theorem d_m_air_38 : decode b_m_air 38 = .ok (.bipush 80, 2) := by decide +kernel
theorem d_m_air_40 : decode b_m_air 40 = .ok (.iload_n 2, 1) := by decide +kernel
theorem d_m_air_41 : decode b_m_air 41 = .ok (.imul, 1) := by decide +kernel
theorem d_m_air_42 : decode b_m_air 42 = .ok (.iadd, 1) := by decide +kernel
theorem d_m_air_43 : decode b_m_air 43 = .ok (.iconst 4, 1) := by decide +kernel
theorem d_m_air_44 : decode b_m_air 44 = .ok (.iload_n 3, 1) := by decide +kernel
theorem d_m_air_45 : decode b_m_air 45 = .ok (.imul, 1) := by decide +kernel
theorem d_m_air_46 : decode b_m_air 46 = .ok (.invokestatic 42, 3) := by decide +kernel
theorem d_m_air_49 : decode b_m_air 49 = .ok (.istore 4, 2) := by decide +kernel
theorem d_m_air_51 : decode b_m_air 51 = .ok (.aload_n 0, 1) := by decide +kernel
theorem d_m_air_52 : decode b_m_air 52 = .ok (.getfield 7, 3) := by decide +kernel
theorem d_m_air_55 : decode b_m_air 55 = .ok (.bipush 10, 2) := by decide +kernel
theorem d_m_air_57 : decode b_m_air 57 = .ok (.iload_n 1, 1) := by decide +kernel
theorem d_m_air_58 : decode b_m_air 58 = .ok (.iadd, 1) := by decide +kernel
theorem d_m_air_59 : decode b_m_air 59 = .ok (.iaload, 1) := by decide +kernel
theorem d_m_air_60 : decode b_m_air 60 = .ok (.iconst 1, 1) := by decide +kernel
theorem d_m_air_61 : decode b_m_air 61 = .ok (.if_icmp .ne 13, 3) := by decide +kernel
theorem d_m_air_64 : decode b_m_air 64 = .ok (.bipush 80, 2) := by decide +kernel
theorem d_m_air_66 : decode b_m_air 66 = .ok (.iconst 4, 1) := by decide +kernel
theorem d_m_air_67 : decode b_m_air 67 = .ok (.iload 4, 2) := by decide +kernel
theorem d_m_air_69 : decode b_m_air 69 = .ok (.imul, 1) := by decide +kernel
theorem d_m_air_70 : decode b_m_air 70 = .ok (.iadd, 1) := by decide +kernel
theorem d_m_air_71 : decode b_m_air 71 = .ok (.goto 15, 3) := by decide +kernel
theorem d_m_air_74 : decode b_m_air 74 = .ok (.bipush 100, 2) := by decide +kernel
theorem d_m_air_76 : decode b_m_air 76 = .ok (.bipush 18, 2) := by decide +kernel
theorem d_m_air_78 : decode b_m_air 78 = .ok (.iload 4, 2) := by decide +kernel
theorem d_m_air_80 : decode b_m_air 80 = .ok (.imul, 1) := by decide +kernel
theorem d_m_air_81 : decode b_m_air 81 = .ok (.iconst 5, 1) := by decide +kernel
theorem d_m_air_82 : decode b_m_air 82 = .ok (.invokestatic 42, 3) := by decide +kernel
theorem d_m_air_85 : decode b_m_air 85 = .ok (.iadd, 1) := by decide +kernel
theorem d_m_air_86 : decode b_m_air 86 = .ok (.ireturn, 1) := by decide +kernel
theorem d_m_nominal_0 : decode b_m_nominal 0 = .ok (.aload_n 0, 1) := by decide +kernel
theorem d_m_nominal_1 : decode b_m_nominal 1 = .ok (.iload_n 1, 1) := by decide +kernel
theorem d_m_nominal_2 : decode b_m_nominal 2 = .ok (.sipush 1200, 3) := by decide +kernel
theorem d_m_nominal_5 : decode b_m_nominal 5 = .ok (.invokevirtual 46, 3) := by decide +kernel
theorem d_m_nominal_8 : decode b_m_nominal 8 = .ok (.ireturn, 1) := by decide +kernel
theorem d_m_backoff_0 : decode b_m_backoff 0 = .ok (.bipush 16, 2) := by decide +kernel
theorem d_m_backoff_2 : decode b_m_backoff 2 = .ok (.istore_n 1, 1) := by decide +kernel
theorem d_m_backoff_3 : decode b_m_backoff 3 = .ok (.iconst 0, 1) := by decide +kernel
theorem d_m_backoff_4 : decode b_m_backoff 4 = .ok (.istore_n 2, 1) := by decide +kernel
theorem d_m_backoff_5 : decode b_m_backoff 5 = .ok (.iload_n 2, 1) := by decide +kernel
theorem d_m_backoff_6 : decode b_m_backoff 6 = .ok (.iload_n 0, 1) := by decide +kernel
theorem d_m_backoff_7 : decode b_m_backoff 7 = .ok (.if_icmp .ge 13, 3) := by decide +kernel
theorem d_m_backoff_10 : decode b_m_backoff 10 = .ok (.iload_n 1, 1) := by decide +kernel
theorem d_m_backoff_11 : decode b_m_backoff 11 = .ok (.iconst 2, 1) := by decide +kernel
theorem d_m_backoff_12 : decode b_m_backoff 12 = .ok (.imul, 1) := by decide +kernel
theorem d_m_backoff_13 : decode b_m_backoff 13 = .ok (.istore_n 1, 1) := by decide +kernel
theorem d_m_backoff_14 : decode b_m_backoff 14 = .ok (.iinc 2 1, 3) := by decide +kernel
theorem d_m_backoff_17 : decode b_m_backoff 17 = .ok (.goto (-12), 3) := by decide +kernel
theorem d_m_backoff_20 : decode b_m_backoff 20 = .ok (.bipush 9, 2) := by decide +kernel
theorem d_m_backoff_22 : decode b_m_backoff 22 = .ok (.iload_n 1, 1) := by decide +kernel
theorem d_m_backoff_23 : decode b_m_backoff 23 = .ok (.iconst 1, 1) := by decide +kernel
theorem d_m_backoff_24 : decode b_m_backoff 24 = .ok (.isub, 1) := by decide +kernel
theorem d_m_backoff_25 : decode b_m_backoff 25 = .ok (.sipush 1023, 3) := by decide +kernel
theorem d_m_backoff_28 : decode b_m_backoff 28 = .ok (.if_icmp .le 9, 3) := by decide +kernel
theorem d_m_backoff_31 : decode b_m_backoff 31 = .ok (.sipush 1023, 3) := by decide +kernel
theorem d_m_backoff_34 : decode b_m_backoff 34 = .ok (.goto 6, 3) := by decide +kernel
theorem d_m_backoff_37 : decode b_m_backoff 37 = .ok (.iload_n 1, 1) := by decide +kernel
theorem d_m_backoff_38 : decode b_m_backoff 38 = .ok (.iconst 1, 1) := by decide +kernel
theorem d_m_backoff_39 : decode b_m_backoff 39 = .ok (.isub, 1) := by decide +kernel
theorem d_m_backoff_40 : decode b_m_backoff 40 = .ok (.imul, 1) := by decide +kernel
theorem d_m_backoff_41 : decode b_m_backoff 41 = .ok (.iconst 2, 1) := by decide +kernel
theorem d_m_backoff_42 : decode b_m_backoff 42 = .ok (.idiv, 1) := by decide +kernel
theorem d_m_backoff_43 : decode b_m_backoff 43 = .ok (.ireturn, 1) := by decide +kernel
theorem d_m_timeOf_0 : decode b_m_timeOf 0 = .ok (.aload_n 0, 1) := by decide +kernel
theorem d_m_timeOf_1 : decode b_m_timeOf 1 = .ok (.iload_n 1, 1) := by decide +kernel
theorem d_m_timeOf_2 : decode b_m_timeOf 2 = .ok (.iload_n 2, 1) := by decide +kernel
theorem d_m_timeOf_3 : decode b_m_timeOf 3 = .ok (.invokevirtual 46, 3) := by decide +kernel
theorem d_m_timeOf_6 : decode b_m_timeOf 6 = .ok (.iload_n 3, 1) := by decide +kernel
theorem d_m_timeOf_7 : decode b_m_timeOf 7 = .ok (.invokestatic 49, 3) := by decide +kernel
theorem d_m_timeOf_10 : decode b_m_timeOf 10 = .ok (.iadd, 1) := by decide +kernel
theorem d_m_timeOf_11 : decode b_m_timeOf 11 = .ok (.ireturn, 1) := by decide +kernel
theorem d_m_triesFor_0 : decode b_m_triesFor 0 = .ok (.iconst 0, 1) := by decide +kernel
theorem d_m_triesFor_1 : decode b_m_triesFor 1 = .ok (.istore_n 3, 1) := by decide +kernel
theorem d_m_triesFor_2 : decode b_m_triesFor 2 = .ok (.iconst 0, 1) := by decide +kernel
theorem d_m_triesFor_3 : decode b_m_triesFor 3 = .ok (.istore 4, 2) := by decide +kernel
theorem d_m_triesFor_5 : decode b_m_triesFor 5 = .ok (.iconst 0, 1) := by decide +kernel
theorem d_m_triesFor_6 : decode b_m_triesFor 6 = .ok (.istore 5, 2) := by decide +kernel
theorem d_m_triesFor_8 : decode b_m_triesFor 8 = .ok (.iload 5, 2) := by decide +kernel
theorem d_m_triesFor_10 : decode b_m_triesFor 10 = .ok (.bipush 7, 2) := by decide +kernel
theorem d_m_triesFor_12 : decode b_m_triesFor 12 = .ok (.if_icmp .ge 42, 3) := by decide +kernel
theorem d_m_triesFor_15 : decode b_m_triesFor 15 = .ok (.iload_n 3, 1) := by decide +kernel
theorem d_m_triesFor_16 : decode b_m_triesFor 16 = .ok (.aload_n 0, 1) := by decide +kernel
theorem d_m_triesFor_17 : decode b_m_triesFor 17 = .ok (.iload_n 1, 1) := by decide +kernel
theorem d_m_triesFor_18 : decode b_m_triesFor 18 = .ok (.iload_n 2, 1) := by decide +kernel
theorem d_m_triesFor_19 : decode b_m_triesFor 19 = .ok (.iload 5, 2) := by decide +kernel
theorem d_m_triesFor_21 : decode b_m_triesFor 21 = .ok (.invokevirtual 53, 3) := by decide +kernel
theorem d_m_triesFor_24 : decode b_m_triesFor 24 = .ok (.iadd, 1) := by decide +kernel
theorem d_m_triesFor_25 : decode b_m_triesFor 25 = .ok (.istore_n 3, 1) := by decide +kernel
theorem d_m_triesFor_26 : decode b_m_triesFor 26 = .ok (.iload_n 3, 1) := by decide +kernel
theorem d_m_triesFor_27 : decode b_m_triesFor 27 = .ok (.aload_n 0, 1) := by decide +kernel
theorem d_m_triesFor_28 : decode b_m_triesFor 28 = .ok (.getfield 7, 3) := by decide +kernel
theorem d_m_triesFor_31 : decode b_m_triesFor 31 = .ok (.bipush 6, 2) := by decide +kernel
theorem d_m_triesFor_33 : decode b_m_triesFor 33 = .ok (.iaload, 1) := by decide +kernel
theorem d_m_triesFor_34 : decode b_m_triesFor 34 = .ok (.if_icmp .gt 10, 3) := by decide +kernel
theorem d_m_triesFor_37 : decode b_m_triesFor 37 = .ok (.iload 5, 2) := by decide +kernel
theorem d_m_triesFor_39 : decode b_m_triesFor 39 = .ok (.iconst 1, 1) := by decide +kernel
theorem d_m_triesFor_40 : decode b_m_triesFor 40 = .ok (.iadd, 1) := by decide +kernel
theorem d_m_triesFor_41 : decode b_m_triesFor 41 = .ok (.goto 5, 3) := by decide +kernel
theorem d_m_triesFor_44 : decode b_m_triesFor 44 = .ok (.iload 4, 2) := by decide +kernel
theorem d_m_triesFor_46 : decode b_m_triesFor 46 = .ok (.istore 4, 2) := by decide +kernel
theorem d_m_triesFor_48 : decode b_m_triesFor 48 = .ok (.iinc 5 1, 3) := by decide +kernel
theorem d_m_triesFor_51 : decode b_m_triesFor 51 = .ok (.goto (-43), 3) := by decide +kernel
theorem d_m_triesFor_54 : decode b_m_triesFor 54 = .ok (.iload 4, 2) := by decide +kernel
theorem d_m_triesFor_56 : decode b_m_triesFor 56 = .ok (.ifCond .ne 7, 3) := by decide +kernel
theorem d_m_triesFor_59 : decode b_m_triesFor 59 = .ok (.iconst 1, 1) := by decide +kernel
theorem d_m_triesFor_60 : decode b_m_triesFor 60 = .ok (.goto 5, 3) := by decide +kernel
theorem d_m_triesFor_63 : decode b_m_triesFor 63 = .ok (.iload 4, 2) := by decide +kernel
theorem d_m_triesFor_65 : decode b_m_triesFor 65 = .ok (.ireturn, 1) := by decide +kernel
theorem d_m_allows_0 : decode b_m_allows 0 = .ok (.aload_n 0, 1) := by decide +kernel
theorem d_m_allows_1 : decode b_m_allows 1 = .ok (.getfield 7, 3) := by decide +kernel
theorem d_m_allows_4 : decode b_m_allows 4 = .ok (.iload_n 1, 1) := by decide +kernel
theorem d_m_allows_5 : decode b_m_allows 5 = .ok (.iload_n 2, 1) := by decide +kernel
theorem d_m_allows_6 : decode b_m_allows 6 = .ok (.invokestatic 57, 3) := by decide +kernel
theorem d_m_allows_9 : decode b_m_allows 9 = .ok (.iconst 0, 1) := by decide +kernel
theorem d_m_allows_10 : decode b_m_allows 10 = .ok (.iadd, 1) := by decide +kernel
theorem d_m_allows_11 : decode b_m_allows 11 = .ok (.iaload, 1) := by decide +kernel
theorem d_m_allows_12 : decode b_m_allows 12 = .ok (.iconst 1, 1) := by decide +kernel
theorem d_m_allows_13 : decode b_m_allows 13 = .ok (.if_icmp .ne 7, 3) := by decide +kernel
theorem d_m_allows_16 : decode b_m_allows 16 = .ok (.iconst 1, 1) := by decide +kernel
theorem d_m_allows_17 : decode b_m_allows 17 = .ok (.goto 4, 3) := by decide +kernel
theorem d_m_allows_20 : decode b_m_allows 20 = .ok (.iconst 0, 1) := by decide +kernel
theorem d_m_allows_21 : decode b_m_allows 21 = .ok (.ireturn, 1) := by decide +kernel
theorem d_m_known_0 : decode b_m_known 0 = .ok (.aload_n 0, 1) := by decide +kernel
theorem d_m_known_1 : decode b_m_known 1 = .ok (.getfield 7, 3) := by decide +kernel
theorem d_m_known_4 : decode b_m_known 4 = .ok (.iload_n 1, 1) := by decide +kernel
theorem d_m_known_5 : decode b_m_known 5 = .ok (.iload_n 2, 1) := by decide +kernel
theorem d_m_known_6 : decode b_m_known 6 = .ok (.invokestatic 57, 3) := by decide +kernel
theorem d_m_known_9 : decode b_m_known 9 = .ok (.iconst 1, 1) := by decide +kernel
theorem d_m_known_10 : decode b_m_known 10 = .ok (.iadd, 1) := by decide +kernel
theorem d_m_known_11 : decode b_m_known 11 = .ok (.iaload, 1) := by decide +kernel
theorem d_m_known_12 : decode b_m_known 12 = .ok (.istore_n 3, 1) := by decide +kernel
theorem d_m_known_13 : decode b_m_known 13 = .ok (.iload_n 3, 1) := by decide +kernel
theorem d_m_known_14 : decode b_m_known 14 = .ok (.ifCond .ge 7, 3) := by decide +kernel
theorem d_m_known_17 : decode b_m_known 17 = .ok (.iconst 0, 1) := by decide +kernel
theorem d_m_known_18 : decode b_m_known 18 = .ok (.goto 4, 3) := by decide +kernel
theorem d_m_known_21 : decode b_m_known 21 = .ok (.iload_n 3, 1) := by decide +kernel
theorem d_m_known_22 : decode b_m_known 22 = .ok (.ireturn, 1) := by decide +kernel
theorem d_m_valueOf_0 : decode b_m_valueOf 0 = .ok (.aload_n 0, 1) := by decide +kernel
theorem d_m_valueOf_1 : decode b_m_valueOf 1 = .ok (.iload_n 1, 1) := by decide +kernel
theorem d_m_valueOf_2 : decode b_m_valueOf 2 = .ok (.iload_n 2, 1) := by decide +kernel
theorem d_m_valueOf_3 : decode b_m_valueOf 3 = .ok (.invokevirtual 60, 3) := by decide +kernel
theorem d_m_valueOf_6 : decode b_m_valueOf 6 = .ok (.istore_n 3, 1) := by decide +kernel
theorem d_m_valueOf_7 : decode b_m_valueOf 7 = .ok (.iload_n 3, 1) := by decide +kernel
theorem d_m_valueOf_8 : decode b_m_valueOf 8 = .ok (.sipush 6554, 3) := by decide +kernel
theorem d_m_valueOf_11 : decode b_m_valueOf 11 = .ok (.if_icmp .ge 7, 3) := by decide +kernel
theorem d_m_valueOf_14 : decode b_m_valueOf 14 = .ok (.iconst 0, 1) := by decide +kernel
theorem d_m_valueOf_15 : decode b_m_valueOf 15 = .ok (.goto 25, 3) := by decide +kernel
theorem d_m_valueOf_18 : decode b_m_valueOf 18 = .ok (.iload_n 3, 1) := by decide +kernel
theorem d_m_valueOf_19 : decode b_m_valueOf 19 = .ok (.ldc 63, 2) := by decide +kernel
theorem d_m_valueOf_21 : decode b_m_valueOf 21 = .ok (.if_icmp .le 8, 3) := by decide +kernel
theorem d_m_valueOf_24 : decode b_m_valueOf 24 = .ok (.ldc 63, 2) := by decide +kernel
theorem d_m_valueOf_26 : decode b_m_valueOf 26 = .ok (.goto 4, 3) := by decide +kernel
theorem d_m_valueOf_29 : decode b_m_valueOf 29 = .ok (.iload_n 3, 1) := by decide +kernel
theorem d_m_valueOf_30 : decode b_m_valueOf 30 = .ok (.sipush 9600, 3) := by decide +kernel
theorem d_m_valueOf_33 : decode b_m_valueOf 33 = .ok (.imul, 1) := by decide +kernel
theorem d_m_valueOf_34 : decode b_m_valueOf 34 = .ok (.aload_n 0, 1) := by decide +kernel
theorem d_m_valueOf_35 : decode b_m_valueOf 35 = .ok (.iload_n 2, 1) := by decide +kernel
theorem d_m_valueOf_36 : decode b_m_valueOf 36 = .ok (.invokevirtual 64, 3) := by decide +kernel
theorem d_m_valueOf_39 : decode b_m_valueOf 39 = .ok (.idiv, 1) := by decide +kernel
theorem d_m_valueOf_40 : decode b_m_valueOf 40 = .ok (.ireturn, 1) := by decide +kernel
theorem d_m_betters_0 : decode b_m_betters 0 = .ok (.aload_n 0, 1) := by decide +kernel
theorem d_m_betters_1 : decode b_m_betters 1 = .ok (.iload_n 1, 1) := by decide +kernel
theorem d_m_betters_2 : decode b_m_betters 2 = .ok (.iload_n 2, 1) := by decide +kernel
theorem d_m_betters_3 : decode b_m_betters 3 = .ok (.invokevirtual 67, 3) := by decide +kernel
theorem d_m_betters_6 : decode b_m_betters 6 = .ok (.aload_n 0, 1) := by decide +kernel
theorem d_m_betters_7 : decode b_m_betters 7 = .ok (.iload_n 1, 1) := by decide +kernel
theorem d_m_betters_8 : decode b_m_betters 8 = .ok (.iload_n 3, 1) := by decide +kernel
theorem d_m_betters_9 : decode b_m_betters 9 = .ok (.invokevirtual 67, 3) := by decide +kernel
theorem d_m_betters_12 : decode b_m_betters 12 = .ok (.if_icmp .gt 33, 3) := by decide +kernel
theorem d_m_betters_15 : decode b_m_betters 15 = .ok (.aload_n 0, 1) := by decide +kernel
theorem d_m_betters_16 : decode b_m_betters 16 = .ok (.iload_n 1, 1) := by decide +kernel
theorem d_m_betters_17 : decode b_m_betters 17 = .ok (.iload_n 2, 1) := by decide +kernel
theorem d_m_betters_18 : decode b_m_betters 18 = .ok (.invokevirtual 67, 3) := by decide +kernel
theorem d_m_betters_21 : decode b_m_betters 21 = .ok (.aload_n 0, 1) := by decide +kernel
theorem d_m_betters_22 : decode b_m_betters 22 = .ok (.iload_n 1, 1) := by decide +kernel
theorem d_m_betters_23 : decode b_m_betters 23 = .ok (.iload_n 3, 1) := by decide +kernel
theorem d_m_betters_24 : decode b_m_betters 24 = .ok (.invokevirtual 67, 3) := by decide +kernel
theorem d_m_betters_27 : decode b_m_betters 27 = .ok (.if_icmp .ne 22, 3) := by decide +kernel
theorem d_m_betters_30 : decode b_m_betters 30 = .ok (.aload_n 0, 1) := by decide +kernel
theorem d_m_betters_31 : decode b_m_betters 31 = .ok (.iload_n 1, 1) := by decide +kernel
theorem d_m_betters_32 : decode b_m_betters 32 = .ok (.iload_n 2, 1) := by decide +kernel
theorem d_m_betters_33 : decode b_m_betters 33 = .ok (.invokevirtual 60, 3) := by decide +kernel
theorem d_m_betters_36 : decode b_m_betters 36 = .ok (.aload_n 0, 1) := by decide +kernel
theorem d_m_betters_37 : decode b_m_betters 37 = .ok (.iload_n 1, 1) := by decide +kernel
theorem d_m_betters_38 : decode b_m_betters 38 = .ok (.iload_n 3, 1) := by decide +kernel
theorem d_m_betters_39 : decode b_m_betters 39 = .ok (.invokevirtual 60, 3) := by decide +kernel
theorem d_m_betters_42 : decode b_m_betters 42 = .ok (.if_icmp .le 7, 3) := by decide +kernel
theorem d_m_betters_45 : decode b_m_betters 45 = .ok (.iconst 1, 1) := by decide +kernel
theorem d_m_betters_46 : decode b_m_betters 46 = .ok (.goto 4, 3) := by decide +kernel
theorem d_m_betters_49 : decode b_m_betters 49 = .ok (.iconst 0, 1) := by decide +kernel
theorem d_m_betters_50 : decode b_m_betters 50 = .ok (.ireturn, 1) := by decide +kernel
theorem d_m_bestBut_0 : decode b_m_bestBut 0 = .ok (.bipush (-9), 2) := by decide +kernel
theorem d_m_bestBut_2 : decode b_m_bestBut 2 = .ok (.istore 4, 2) := by decide +kernel
theorem d_m_bestBut_4 : decode b_m_bestBut 4 = .ok (.iconst 0, 1) := by decide +kernel
theorem d_m_bestBut_5 : decode b_m_bestBut 5 = .ok (.istore 5, 2) := by decide +kernel
theorem d_m_bestBut_7 : decode b_m_bestBut 7 = .ok (.iload 5, 2) := by decide +kernel
theorem d_m_bestBut_9 : decode b_m_bestBut 9 = .ok (.aload_n 0, 1) := by decide +kernel
theorem d_m_bestBut_10 : decode b_m_bestBut 10 = .ok (.getfield 7, 3) := by decide +kernel
theorem d_m_bestBut_13 : decode b_m_bestBut 13 = .ok (.iconst 1, 1) := by decide +kernel
theorem d_m_bestBut_14 : decode b_m_bestBut 14 = .ok (.iaload, 1) := by decide +kernel
theorem d_m_bestBut_15 : decode b_m_bestBut 15 = .ok (.if_icmp .ge 59, 3) := by decide +kernel
theorem d_m_bestBut_18 : decode b_m_bestBut 18 = .ok (.aload_n 0, 1) := by decide +kernel
theorem d_m_bestBut_19 : decode b_m_bestBut 19 = .ok (.iload_n 1, 1) := by decide +kernel
theorem d_m_bestBut_20 : decode b_m_bestBut 20 = .ok (.iload 5, 2) := by decide +kernel
theorem d_m_bestBut_22 : decode b_m_bestBut 22 = .ok (.invokevirtual 70, 3) := by decide +kernel
theorem d_m_bestBut_25 : decode b_m_bestBut 25 = .ok (.ifCond .eq 43, 3) := by decide +kernel
theorem d_m_bestBut_28 : decode b_m_bestBut 28 = .ok (.iload 5, 2) := by decide +kernel
theorem d_m_bestBut_30 : decode b_m_bestBut 30 = .ok (.iload_n 2, 1) := by decide +kernel
theorem d_m_bestBut_31 : decode b_m_bestBut 31 = .ok (.if_icmp .eq 37, 3) := by decide +kernel
theorem d_m_bestBut_34 : decode b_m_bestBut 34 = .ok (.aload_n 0, 1) := by decide +kernel
theorem d_m_bestBut_35 : decode b_m_bestBut 35 = .ok (.iload_n 1, 1) := by decide +kernel
theorem d_m_bestBut_36 : decode b_m_bestBut 36 = .ok (.iload 5, 2) := by decide +kernel
theorem d_m_bestBut_38 : decode b_m_bestBut 38 = .ok (.invokevirtual 60, 3) := by decide +kernel
theorem d_m_bestBut_41 : decode b_m_bestBut 41 = .ok (.iload_n 3, 1) := by decide +kernel
theorem d_m_bestBut_42 : decode b_m_bestBut 42 = .ok (.if_icmp .lt 26, 3) := by decide +kernel
theorem d_m_bestBut_45 : decode b_m_bestBut 45 = .ok (.iload 4, 2) := by decide +kernel
theorem d_m_bestBut_47 : decode b_m_bestBut 47 = .ok (.bipush (-9), 2) := by decide +kernel
theorem d_m_bestBut_49 : decode b_m_bestBut 49 = .ok (.if_icmp .eq 15, 3) := by decide +kernel
theorem d_m_bestBut_52 : decode b_m_bestBut 52 = .ok (.aload_n 0, 1) := by decide +kernel
theorem d_m_bestBut_53 : decode b_m_bestBut 53 = .ok (.iload_n 1, 1) := by decide +kernel
theorem d_m_bestBut_54 : decode b_m_bestBut 54 = .ok (.iload 5, 2) := by decide +kernel
theorem d_m_bestBut_56 : decode b_m_bestBut 56 = .ok (.iload 4, 2) := by decide +kernel
theorem d_m_bestBut_58 : decode b_m_bestBut 58 = .ok (.invokevirtual 74, 3) := by decide +kernel
theorem d_m_bestBut_61 : decode b_m_bestBut 61 = .ok (.ifCond .eq 7, 3) := by decide +kernel
theorem d_m_bestBut_64 : decode b_m_bestBut 64 = .ok (.iload 5, 2) := by decide +kernel
theorem d_m_bestBut_66 : decode b_m_bestBut 66 = .ok (.istore 4, 2) := by decide +kernel
theorem d_m_bestBut_68 : decode b_m_bestBut 68 = .ok (.iinc 5 1, 3) := by decide +kernel
theorem d_m_bestBut_71 : decode b_m_bestBut 71 = .ok (.goto (-64), 3) := by decide +kernel
theorem d_m_bestBut_74 : decode b_m_bestBut 74 = .ok (.iload 4, 2) := by decide +kernel
theorem d_m_bestBut_76 : decode b_m_bestBut 76 = .ok (.ireturn, 1) := by decide +kernel
theorem d_m_surestOf_0 : decode b_m_surestOf 0 = .ok (.aload_n 0, 1) := by decide +kernel
theorem d_m_surestOf_1 : decode b_m_surestOf 1 = .ok (.iload_n 1, 1) := by decide +kernel
theorem d_m_surestOf_2 : decode b_m_surestOf 2 = .ok (.bipush (-9), 2) := by decide +kernel
theorem d_m_surestOf_4 : decode b_m_surestOf 4 = .ok (.ldc 77, 2) := by decide +kernel
theorem d_m_surestOf_6 : decode b_m_surestOf 6 = .ok (.invokevirtual 78, 3) := by decide +kernel
theorem d_m_surestOf_9 : decode b_m_surestOf 9 = .ok (.istore_n 2, 1) := by decide +kernel
theorem d_m_surestOf_10 : decode b_m_surestOf 10 = .ok (.iload_n 2, 1) := by decide +kernel
theorem d_m_surestOf_11 : decode b_m_surestOf 11 = .ok (.bipush (-9), 2) := by decide +kernel
theorem d_m_surestOf_13 : decode b_m_surestOf 13 = .ok (.if_icmp .eq 5, 3) := by decide +kernel
theorem d_m_surestOf_16 : decode b_m_surestOf 16 = .ok (.iload_n 2, 1) := by decide +kernel
theorem d_m_surestOf_17 : decode b_m_surestOf 17 = .ok (.ireturn, 1) := by decide +kernel
theorem d_m_surestOf_18 : decode b_m_surestOf 18 = .ok (.bipush (-9), 2) := by decide +kernel
theorem d_m_surestOf_20 : decode b_m_surestOf 20 = .ok (.istore_n 3, 1) := by decide +kernel
theorem d_m_surestOf_21 : decode b_m_surestOf 21 = .ok (.iconst 0, 1) := by decide +kernel
theorem d_m_surestOf_22 : decode b_m_surestOf 22 = .ok (.istore 4, 2) := by decide +kernel
theorem d_m_surestOf_24 : decode b_m_surestOf 24 = .ok (.iload 4, 2) := by decide +kernel
theorem d_m_surestOf_26 : decode b_m_surestOf 26 = .ok (.aload_n 0, 1) := by decide +kernel
theorem d_m_surestOf_27 : decode b_m_surestOf 27 = .ok (.getfield 7, 3) := by decide +kernel
theorem d_m_surestOf_30 : decode b_m_surestOf 30 = .ok (.iconst 1, 1) := by decide +kernel
theorem d_m_surestOf_31 : decode b_m_surestOf 31 = .ok (.iaload, 1) := by decide +kernel
theorem d_m_surestOf_32 : decode b_m_surestOf 32 = .ok (.if_icmp .ge 76, 3) := by decide +kernel
theorem d_m_surestOf_35 : decode b_m_surestOf 35 = .ok (.aload_n 0, 1) := by decide +kernel
theorem d_m_surestOf_36 : decode b_m_surestOf 36 = .ok (.iload_n 1, 1) := by decide +kernel
theorem d_m_surestOf_37 : decode b_m_surestOf 37 = .ok (.iload 4, 2) := by decide +kernel
theorem d_m_surestOf_39 : decode b_m_surestOf 39 = .ok (.invokevirtual 70, 3) := by decide +kernel
theorem d_m_surestOf_42 : decode b_m_surestOf 42 = .ok (.ifCond .eq 60, 3) := by decide +kernel
theorem d_m_surestOf_45 : decode b_m_surestOf 45 = .ok (.iload_n 3, 1) := by decide +kernel
theorem d_m_surestOf_46 : decode b_m_surestOf 46 = .ok (.bipush (-9), 2) := by decide +kernel
theorem d_m_surestOf_48 : decode b_m_surestOf 48 = .ok (.if_icmp .eq 51, 3) := by decide +kernel
theorem d_m_surestOf_51 : decode b_m_surestOf 51 = .ok (.aload_n 0, 1) := by decide +kernel
theorem d_m_surestOf_52 : decode b_m_surestOf 52 = .ok (.iload_n 1, 1) := by decide +kernel
theorem d_m_surestOf_53 : decode b_m_surestOf 53 = .ok (.iload 4, 2) := by decide +kernel
theorem d_m_surestOf_55 : decode b_m_surestOf 55 = .ok (.invokevirtual 60, 3) := by decide +kernel
theorem d_m_surestOf_58 : decode b_m_surestOf 58 = .ok (.aload_n 0, 1) := by decide +kernel
theorem d_m_surestOf_59 : decode b_m_surestOf 59 = .ok (.iload_n 1, 1) := by decide +kernel
theorem d_m_surestOf_60 : decode b_m_surestOf 60 = .ok (.iload_n 3, 1) := by decide +kernel
theorem d_m_surestOf_61 : decode b_m_surestOf 61 = .ok (.invokevirtual 60, 3) := by decide +kernel
theorem d_m_surestOf_64 : decode b_m_surestOf 64 = .ok (.if_icmp .gt 35, 3) := by decide +kernel
theorem d_m_surestOf_67 : decode b_m_surestOf 67 = .ok (.aload_n 0, 1) := by decide +kernel
theorem d_m_surestOf_68 : decode b_m_surestOf 68 = .ok (.iload_n 1, 1) := by decide +kernel
theorem d_m_surestOf_69 : decode b_m_surestOf 69 = .ok (.iload 4, 2) := by decide +kernel
theorem d_m_surestOf_71 : decode b_m_surestOf 71 = .ok (.invokevirtual 60, 3) := by decide +kernel
theorem d_m_surestOf_74 : decode b_m_surestOf 74 = .ok (.aload_n 0, 1) := by decide +kernel
theorem d_m_surestOf_75 : decode b_m_surestOf 75 = .ok (.iload_n 1, 1) := by decide +kernel
theorem d_m_surestOf_76 : decode b_m_surestOf 76 = .ok (.iload_n 3, 1) := by decide +kernel
theorem d_m_surestOf_77 : decode b_m_surestOf 77 = .ok (.invokevirtual 60, 3) := by decide +kernel
theorem d_m_surestOf_80 : decode b_m_surestOf 80 = .ok (.if_icmp .ne 22, 3) := by decide +kernel
theorem d_m_surestOf_83 : decode b_m_surestOf 83 = .ok (.aload_n 0, 1) := by decide +kernel
theorem d_m_surestOf_84 : decode b_m_surestOf 84 = .ok (.iload_n 1, 1) := by decide +kernel
theorem d_m_surestOf_85 : decode b_m_surestOf 85 = .ok (.iload 4, 2) := by decide +kernel
theorem d_m_surestOf_87 : decode b_m_surestOf 87 = .ok (.invokevirtual 67, 3) := by decide +kernel
theorem d_m_surestOf_90 : decode b_m_surestOf 90 = .ok (.aload_n 0, 1) := by decide +kernel
theorem d_m_surestOf_91 : decode b_m_surestOf 91 = .ok (.iload_n 1, 1) := by decide +kernel
theorem d_m_surestOf_92 : decode b_m_surestOf 92 = .ok (.iload_n 3, 1) := by decide +kernel
theorem d_m_surestOf_93 : decode b_m_surestOf 93 = .ok (.invokevirtual 67, 3) := by decide +kernel
theorem d_m_surestOf_96 : decode b_m_surestOf 96 = .ok (.if_icmp .le 6, 3) := by decide +kernel
theorem d_m_surestOf_99 : decode b_m_surestOf 99 = .ok (.iload 4, 2) := by decide +kernel
theorem d_m_surestOf_101 : decode b_m_surestOf 101 = .ok (.istore_n 3, 1) := by decide +kernel
theorem d_m_surestOf_102 : decode b_m_surestOf 102 = .ok (.iinc 4 1, 3) := by decide +kernel
theorem d_m_surestOf_105 : decode b_m_surestOf 105 = .ok (.goto (-81), 3) := by decide +kernel
theorem d_m_surestOf_108 : decode b_m_surestOf 108 = .ok (.iload_n 3, 1) := by decide +kernel
theorem d_m_surestOf_109 : decode b_m_surestOf 109 = .ok (.ireturn, 1) := by decide +kernel
theorem d_m_slowestOf_0 : decode b_m_slowestOf 0 = .ok (.bipush (-9), 2) := by decide +kernel
theorem d_m_slowestOf_2 : decode b_m_slowestOf 2 = .ok (.istore_n 2, 1) := by decide +kernel
theorem d_m_slowestOf_3 : decode b_m_slowestOf 3 = .ok (.iconst 0, 1) := by decide +kernel
theorem d_m_slowestOf_4 : decode b_m_slowestOf 4 = .ok (.istore_n 3, 1) := by decide +kernel
theorem d_m_slowestOf_5 : decode b_m_slowestOf 5 = .ok (.iload_n 3, 1) := by decide +kernel
theorem d_m_slowestOf_6 : decode b_m_slowestOf 6 = .ok (.aload_n 0, 1) := by decide +kernel
theorem d_m_slowestOf_7 : decode b_m_slowestOf 7 = .ok (.getfield 7, 3) := by decide +kernel
theorem d_m_slowestOf_10 : decode b_m_slowestOf 10 = .ok (.iconst 1, 1) := by decide +kernel
theorem d_m_slowestOf_11 : decode b_m_slowestOf 11 = .ok (.iaload, 1) := by decide +kernel
theorem d_m_slowestOf_12 : decode b_m_slowestOf 12 = .ok (.if_icmp .ge 39, 3) := by decide +kernel
theorem d_m_slowestOf_15 : decode b_m_slowestOf 15 = .ok (.aload_n 0, 1) := by decide +kernel
theorem d_m_slowestOf_16 : decode b_m_slowestOf 16 = .ok (.iload_n 1, 1) := by decide +kernel
theorem d_m_slowestOf_17 : decode b_m_slowestOf 17 = .ok (.iload_n 3, 1) := by decide +kernel
theorem d_m_slowestOf_18 : decode b_m_slowestOf 18 = .ok (.invokevirtual 70, 3) := by decide +kernel
theorem d_m_slowestOf_21 : decode b_m_slowestOf 21 = .ok (.ifCond .eq 24, 3) := by decide +kernel
theorem d_m_slowestOf_24 : decode b_m_slowestOf 24 = .ok (.iload_n 2, 1) := by decide +kernel
theorem d_m_slowestOf_25 : decode b_m_slowestOf 25 = .ok (.bipush (-9), 2) := by decide +kernel
theorem d_m_slowestOf_27 : decode b_m_slowestOf 27 = .ok (.if_icmp .eq 16, 3) := by decide +kernel
theorem d_m_slowestOf_30 : decode b_m_slowestOf 30 = .ok (.aload_n 0, 1) := by decide +kernel
theorem d_m_slowestOf_31 : decode b_m_slowestOf 31 = .ok (.iload_n 3, 1) := by decide +kernel
theorem d_m_slowestOf_32 : decode b_m_slowestOf 32 = .ok (.invokevirtual 64, 3) := by decide +kernel
theorem d_m_slowestOf_35 : decode b_m_slowestOf 35 = .ok (.aload_n 0, 1) := by decide +kernel
theorem d_m_slowestOf_36 : decode b_m_slowestOf 36 = .ok (.iload_n 2, 1) := by decide +kernel
theorem d_m_slowestOf_37 : decode b_m_slowestOf 37 = .ok (.invokevirtual 64, 3) := by decide +kernel
theorem d_m_slowestOf_40 : decode b_m_slowestOf 40 = .ok (.if_icmp .le 5, 3) := by decide +kernel
theorem d_m_slowestOf_43 : decode b_m_slowestOf 43 = .ok (.iload_n 3, 1) := by decide +kernel
theorem d_m_slowestOf_44 : decode b_m_slowestOf 44 = .ok (.istore_n 2, 1) := by decide +kernel
theorem d_m_slowestOf_45 : decode b_m_slowestOf 45 = .ok (.iinc 3 1, 3) := by decide +kernel
theorem d_m_slowestOf_48 : decode b_m_slowestOf 48 = .ok (.goto (-43), 3) := by decide +kernel
theorem d_m_slowestOf_51 : decode b_m_slowestOf 51 = .ok (.iload_n 2, 1) := by decide +kernel
theorem d_m_slowestOf_52 : decode b_m_slowestOf 52 = .ok (.ireturn, 1) := by decide +kernel
theorem d_m_fillRoles_0 : decode b_m_fillRoles 0 = .ok (.iload_n 1, 1) := by decide +kernel
theorem d_m_fillRoles_1 : decode b_m_fillRoles 1 = .ok (.invokestatic 81, 3) := by decide +kernel
theorem d_m_fillRoles_4 : decode b_m_fillRoles 4 = .ok (.bipush 18, 2) := by decide +kernel
theorem d_m_fillRoles_6 : decode b_m_fillRoles 6 = .ok (.iadd, 1) := by decide +kernel
theorem d_m_fillRoles_7 : decode b_m_fillRoles 7 = .ok (.istore_n 2, 1) := by decide +kernel
theorem d_m_fillRoles_8 : decode b_m_fillRoles 8 = .ok (.aload_n 0, 1) := by decide +kernel
theorem d_m_fillRoles_9 : decode b_m_fillRoles 9 = .ok (.getfield 7, 3) := by decide +kernel
theorem d_m_fillRoles_12 : decode b_m_fillRoles 12 = .ok (.iload_n 2, 1) := by decide +kernel
theorem d_m_fillRoles_13 : decode b_m_fillRoles 13 = .ok (.aload_n 0, 1) := by decide +kernel
theorem d_m_fillRoles_14 : decode b_m_fillRoles 14 = .ok (.iload_n 1, 1) := by decide +kernel
theorem d_m_fillRoles_15 : decode b_m_fillRoles 15 = .ok (.bipush (-9), 2) := by decide +kernel
theorem d_m_fillRoles_17 : decode b_m_fillRoles 17 = .ok (.iconst 0, 1) := by decide +kernel
theorem d_m_fillRoles_18 : decode b_m_fillRoles 18 = .ok (.invokevirtual 78, 3) := by decide +kernel
theorem d_m_fillRoles_21 : decode b_m_fillRoles 21 = .ok (.iastore, 1) := by decide +kernel
theorem d_m_fillRoles_22 : decode b_m_fillRoles 22 = .ok (.aload_n 0, 1) := by decide +kernel
theorem d_m_fillRoles_23 : decode b_m_fillRoles 23 = .ok (.iload_n 1, 1) := by decide +kernel
theorem d_m_fillRoles_24 : decode b_m_fillRoles 24 = .ok (.aload_n 0, 1) := by decide +kernel
theorem d_m_fillRoles_25 : decode b_m_fillRoles 25 = .ok (.getfield 7, 3) := by decide +kernel
theorem d_m_fillRoles_28 : decode b_m_fillRoles 28 = .ok (.iload_n 2, 1) := by decide +kernel
theorem d_m_fillRoles_29 : decode b_m_fillRoles 29 = .ok (.iaload, 1) := by decide +kernel
theorem d_m_fillRoles_30 : decode b_m_fillRoles 30 = .ok (.iconst 0, 1) := by decide +kernel
theorem d_m_fillRoles_31 : decode b_m_fillRoles 31 = .ok (.invokevirtual 78, 3) := by decide +kernel
theorem d_m_fillRoles_34 : decode b_m_fillRoles 34 = .ok (.istore_n 3, 1) := by decide +kernel
theorem d_m_fillRoles_35 : decode b_m_fillRoles 35 = .ok (.aload_n 0, 1) := by decide +kernel
theorem d_m_fillRoles_36 : decode b_m_fillRoles 36 = .ok (.getfield 7, 3) := by decide +kernel
theorem d_m_fillRoles_39 : decode b_m_fillRoles 39 = .ok (.iload_n 2, 1) := by decide +kernel
theorem d_m_fillRoles_40 : decode b_m_fillRoles 40 = .ok (.iconst 1, 1) := by decide +kernel
theorem d_m_fillRoles_41 : decode b_m_fillRoles 41 = .ok (.iadd, 1) := by decide +kernel
theorem d_m_fillRoles_42 : decode b_m_fillRoles 42 = .ok (.iload_n 3, 1) := by decide +kernel
theorem d_m_fillRoles_43 : decode b_m_fillRoles 43 = .ok (.bipush (-9), 2) := by decide +kernel
theorem d_m_fillRoles_45 : decode b_m_fillRoles 45 = .ok (.if_icmp .ne 12, 3) := by decide +kernel
theorem d_m_fillRoles_48 : decode b_m_fillRoles 48 = .ok (.aload_n 0, 1) := by decide +kernel
theorem d_m_fillRoles_49 : decode b_m_fillRoles 49 = .ok (.getfield 7, 3) := by decide +kernel
theorem d_m_fillRoles_52 : decode b_m_fillRoles 52 = .ok (.iload_n 2, 1) := by decide +kernel
theorem d_m_fillRoles_53 : decode b_m_fillRoles 53 = .ok (.iaload, 1) := by decide +kernel
theorem d_m_fillRoles_54 : decode b_m_fillRoles 54 = .ok (.goto 4, 3) := by decide +kernel
theorem d_m_fillRoles_57 : decode b_m_fillRoles 57 = .ok (.iload_n 3, 1) := by decide +kernel
theorem d_m_fillRoles_58 : decode b_m_fillRoles 58 = .ok (.iastore, 1) := by decide +kernel
theorem d_m_fillRoles_59 : decode b_m_fillRoles 59 = .ok (.aload_n 0, 1) := by decide +kernel
theorem d_m_fillRoles_60 : decode b_m_fillRoles 60 = .ok (.getfield 7, 3) := by decide +kernel
theorem d_m_fillRoles_63 : decode b_m_fillRoles 63 = .ok (.iload_n 2, 1) := by decide +kernel
theorem d_m_fillRoles_64 : decode b_m_fillRoles 64 = .ok (.iconst 2, 1) := by decide +kernel
theorem d_m_fillRoles_65 : decode b_m_fillRoles 65 = .ok (.iadd, 1) := by decide +kernel
theorem d_m_fillRoles_66 : decode b_m_fillRoles 66 = .ok (.aload_n 0, 1) := by decide +kernel
theorem d_m_fillRoles_67 : decode b_m_fillRoles 67 = .ok (.iload_n 1, 1) := by decide +kernel
theorem d_m_fillRoles_68 : decode b_m_fillRoles 68 = .ok (.invokevirtual 84, 3) := by decide +kernel
theorem d_m_fillRoles_71 : decode b_m_fillRoles 71 = .ok (.iastore, 1) := by decide +kernel
theorem d_m_fillRoles_72 : decode b_m_fillRoles 72 = .ok (.aload_n 0, 1) := by decide +kernel
theorem d_m_fillRoles_73 : decode b_m_fillRoles 73 = .ok (.getfield 7, 3) := by decide +kernel
theorem d_m_fillRoles_76 : decode b_m_fillRoles 76 = .ok (.iload_n 2, 1) := by decide +kernel
theorem d_m_fillRoles_77 : decode b_m_fillRoles 77 = .ok (.iconst 3, 1) := by decide +kernel
theorem d_m_fillRoles_78 : decode b_m_fillRoles 78 = .ok (.iadd, 1) := by decide +kernel
theorem d_m_fillRoles_79 : decode b_m_fillRoles 79 = .ok (.aload_n 0, 1) := by decide +kernel
theorem d_m_fillRoles_80 : decode b_m_fillRoles 80 = .ok (.iload_n 1, 1) := by decide +kernel
theorem d_m_fillRoles_81 : decode b_m_fillRoles 81 = .ok (.invokevirtual 87, 3) := by decide +kernel
theorem d_m_fillRoles_84 : decode b_m_fillRoles 84 = .ok (.iastore, 1) := by decide +kernel
theorem d_m_fillRoles_85 : decode b_m_fillRoles 85 = .ok (.return_, 1) := by decide +kernel
theorem d_m_log_0 : decode b_m_log 0 = .ok (.sipush 516, 3) := by decide +kernel
theorem d_m_log_3 : decode b_m_log 3 = .ok (.iconst 4, 1) := by decide +kernel
theorem d_m_log_4 : decode b_m_log 4 = .ok (.aload_n 0, 1) := by decide +kernel
theorem d_m_log_5 : decode b_m_log 5 = .ok (.getfield 7, 3) := by decide +kernel
theorem d_m_log_8 : decode b_m_log 8 = .ok (.bipush 8, 2) := by decide +kernel
theorem d_m_log_10 : decode b_m_log 10 = .ok (.iaload, 1) := by decide +kernel
theorem d_m_log_11 : decode b_m_log 11 = .ok (.bipush 20, 2) := by decide +kernel
theorem d_m_log_13 : decode b_m_log 13 = .ok (.irem, 1) := by decide +kernel
theorem d_m_log_14 : decode b_m_log 14 = .ok (.imul, 1) := by decide +kernel
theorem d_m_log_15 : decode b_m_log 15 = .ok (.iadd, 1) := by decide +kernel
theorem d_m_log_16 : decode b_m_log 16 = .ok (.istore 4, 2) := by decide +kernel
theorem d_m_log_18 : decode b_m_log 18 = .ok (.aload_n 0, 1) := by decide +kernel
theorem d_m_log_19 : decode b_m_log 19 = .ok (.getfield 7, 3) := by decide +kernel
theorem d_m_log_22 : decode b_m_log 22 = .ok (.iload 4, 2) := by decide +kernel
theorem d_m_log_24 : decode b_m_log 24 = .ok (.iload_n 1, 1) := by decide +kernel
theorem d_m_log_25 : decode b_m_log 25 = .ok (.iastore, 1) := by decide +kernel
theorem d_m_log_26 : decode b_m_log 26 = .ok (.aload_n 0, 1) := by decide +kernel
theorem d_m_log_27 : decode b_m_log 27 = .ok (.getfield 7, 3) := by decide +kernel
theorem d_m_log_30 : decode b_m_log 30 = .ok (.iload 4, 2) := by decide +kernel
theorem d_m_log_32 : decode b_m_log 32 = .ok (.iconst 1, 1) := by decide +kernel
theorem d_m_log_33 : decode b_m_log 33 = .ok (.iadd, 1) := by decide +kernel
theorem d_m_log_34 : decode b_m_log 34 = .ok (.iload_n 2, 1) := by decide +kernel
theorem d_m_log_35 : decode b_m_log 35 = .ok (.iastore, 1) := by decide +kernel
theorem d_m_log_36 : decode b_m_log 36 = .ok (.aload_n 0, 1) := by decide +kernel
theorem d_m_log_37 : decode b_m_log 37 = .ok (.getfield 7, 3) := by decide +kernel
theorem d_m_log_40 : decode b_m_log 40 = .ok (.iload 4, 2) := by decide +kernel
theorem d_m_log_42 : decode b_m_log 42 = .ok (.iconst 2, 1) := by decide +kernel
theorem d_m_log_43 : decode b_m_log 43 = .ok (.iadd, 1) := by decide +kernel
theorem d_m_log_44 : decode b_m_log 44 = .ok (.iload_n 3, 1) := by decide +kernel
theorem d_m_log_45 : decode b_m_log 45 = .ok (.iastore, 1) := by decide +kernel
theorem d_m_log_46 : decode b_m_log 46 = .ok (.aload_n 0, 1) := by decide +kernel
theorem d_m_log_47 : decode b_m_log 47 = .ok (.getfield 7, 3) := by decide +kernel
theorem d_m_log_50 : decode b_m_log 50 = .ok (.iload 4, 2) := by decide +kernel
theorem d_m_log_52 : decode b_m_log 52 = .ok (.iconst 3, 1) := by decide +kernel
theorem d_m_log_53 : decode b_m_log 53 = .ok (.iadd, 1) := by decide +kernel
theorem d_m_log_54 : decode b_m_log 54 = .ok (.aload_n 0, 1) := by decide +kernel
theorem d_m_log_55 : decode b_m_log 55 = .ok (.getfield 7, 3) := by decide +kernel
theorem d_m_log_58 : decode b_m_log 58 = .ok (.iconst 0, 1) := by decide +kernel
theorem d_m_log_59 : decode b_m_log 59 = .ok (.iaload, 1) := by decide +kernel
theorem d_m_log_60 : decode b_m_log 60 = .ok (.iastore, 1) := by decide +kernel
theorem d_m_log_61 : decode b_m_log 61 = .ok (.aload_n 0, 1) := by decide +kernel
theorem d_m_log_62 : decode b_m_log 62 = .ok (.getfield 7, 3) := by decide +kernel
theorem d_m_log_65 : decode b_m_log 65 = .ok (.bipush 8, 2) := by decide +kernel
theorem d_m_log_67 : decode b_m_log 67 = .ok (.dup2, 1) := by decide +kernel
theorem d_m_log_68 : decode b_m_log 68 = .ok (.iaload, 1) := by decide +kernel
theorem d_m_log_69 : decode b_m_log 69 = .ok (.iconst 1, 1) := by decide +kernel
theorem d_m_log_70 : decode b_m_log 70 = .ok (.iadd, 1) := by decide +kernel
theorem d_m_log_71 : decode b_m_log 71 = .ok (.iastore, 1) := by decide +kernel
theorem d_m_log_72 : decode b_m_log 72 = .ok (.return_, 1) := by decide +kernel
theorem d_m_endFromNow_0 : decode b_m_endFromNow 0 = .ok (.aload_n 0, 1) := by decide +kernel
theorem d_m_endFromNow_1 : decode b_m_endFromNow 1 = .ok (.getfield 7, 3) := by decide +kernel
theorem d_m_endFromNow_4 : decode b_m_endFromNow 4 = .ok (.iconst 0, 1) := by decide +kernel
theorem d_m_endFromNow_5 : decode b_m_endFromNow 5 = .ok (.iaload, 1) := by decide +kernel
theorem d_m_endFromNow_6 : decode b_m_endFromNow 6 = .ok (.ldc 90, 2) := by decide +kernel
theorem d_m_endFromNow_8 : decode b_m_endFromNow 8 = .ok (.aload_n 0, 1) := by decide +kernel
theorem d_m_endFromNow_9 : decode b_m_endFromNow 9 = .ok (.getfield 7, 3) := by decide +kernel
theorem d_m_endFromNow_12 : decode b_m_endFromNow 12 = .ok (.iconst 5, 1) := by decide +kernel
theorem d_m_endFromNow_13 : decode b_m_endFromNow 13 = .ok (.iaload, 1) := by decide +kernel
theorem d_m_endFromNow_14 : decode b_m_endFromNow 14 = .ok (.isub, 1) := by decide +kernel
theorem d_m_endFromNow_15 : decode b_m_endFromNow 15 = .ok (.if_icmp .le 8, 3) := by decide +kernel
theorem d_m_endFromNow_18 : decode b_m_endFromNow 18 = .ok (.bipush (-9), 2) := by decide +kernel
theorem d_m_endFromNow_20 : decode b_m_endFromNow 20 = .ok (.goto 16, 3) := by decide +kernel
theorem d_m_endFromNow_23 : decode b_m_endFromNow 23 = .ok (.aload_n 0, 1) := by decide +kernel
theorem d_m_endFromNow_24 : decode b_m_endFromNow 24 = .ok (.getfield 7, 3) := by decide +kernel
theorem d_m_endFromNow_27 : decode b_m_endFromNow 27 = .ok (.iconst 0, 1) := by decide +kernel
theorem d_m_endFromNow_28 : decode b_m_endFromNow 28 = .ok (.iaload, 1) := by decide +kernel
theorem d_m_endFromNow_29 : decode b_m_endFromNow 29 = .ok (.aload_n 0, 1) := by decide +kernel
theorem d_m_endFromNow_30 : decode b_m_endFromNow 30 = .ok (.getfield 7, 3) := by decide +kernel
theorem d_m_endFromNow_33 : decode b_m_endFromNow 33 = .ok (.iconst 5, 1) := by decide +kernel
theorem d_m_endFromNow_34 : decode b_m_endFromNow 34 = .ok (.iaload, 1) := by decide +kernel
theorem d_m_endFromNow_35 : decode b_m_endFromNow 35 = .ok (.iadd, 1) := by decide +kernel
theorem d_m_endFromNow_36 : decode b_m_endFromNow 36 = .ok (.ireturn, 1) := by decide +kernel
theorem d_m_sampleOf_0 : decode b_m_sampleOf 0 = .ok (.aload_n 0, 1) := by decide +kernel
theorem d_m_sampleOf_1 : decode b_m_sampleOf 1 = .ok (.getfield 7, 3) := by decide +kernel
theorem d_m_sampleOf_4 : decode b_m_sampleOf 4 = .ok (.iload_n 1, 1) := by decide +kernel
theorem d_m_sampleOf_5 : decode b_m_sampleOf 5 = .ok (.iconst 3, 1) := by decide +kernel
theorem d_m_sampleOf_6 : decode b_m_sampleOf 6 = .ok (.iadd, 1) := by decide +kernel
theorem d_m_sampleOf_7 : decode b_m_sampleOf 7 = .ok (.iaload, 1) := by decide +kernel
theorem d_m_sampleOf_8 : decode b_m_sampleOf 8 = .ok (.i2l, 1) := by decide +kernel
theorem d_m_sampleOf_9 : decode b_m_sampleOf 9 = .ok (.ldc2_w 91, 3) := by decide +kernel
theorem d_m_sampleOf_12 : decode b_m_sampleOf 12 = .ok (.lmul, 1) := by decide +kernel
theorem d_m_sampleOf_13 : decode b_m_sampleOf 13 = .ok (.aload_n 0, 1) := by decide +kernel
theorem d_m_sampleOf_14 : decode b_m_sampleOf 14 = .ok (.getfield 7, 3) := by decide +kernel
theorem d_m_sampleOf_17 : decode b_m_sampleOf 17 = .ok (.iload_n 1, 1) := by decide +kernel
theorem d_m_sampleOf_18 : decode b_m_sampleOf 18 = .ok (.iconst 2, 1) := by decide +kernel
theorem d_m_sampleOf_19 : decode b_m_sampleOf 19 = .ok (.iadd, 1) := by decide +kernel
theorem d_m_sampleOf_20 : decode b_m_sampleOf 20 = .ok (.iaload, 1) := by decide +kernel
theorem d_m_sampleOf_21 : decode b_m_sampleOf 21 = .ok (.i2l, 1) := by decide +kernel
theorem d_m_sampleOf_22 : decode b_m_sampleOf 22 = .ok (.ldiv, 1) := by decide +kernel
theorem d_m_sampleOf_23 : decode b_m_sampleOf 23 = .ok (.l2i, 1) := by decide +kernel
theorem d_m_sampleOf_24 : decode b_m_sampleOf 24 = .ok (.ireturn, 1) := by decide +kernel
theorem d_m_change_0 : decode b_m_change 0 = .ok (.aload_n 0, 1) := by decide +kernel
theorem d_m_change_1 : decode b_m_change 1 = .ok (.iload_n 1, 1) := by decide +kernel
theorem d_m_change_2 : decode b_m_change 2 = .ok (.invokevirtual 93, 3) := by decide +kernel
theorem d_m_change_5 : decode b_m_change 5 = .ok (.aload_n 0, 1) := by decide +kernel
theorem d_m_change_6 : decode b_m_change 6 = .ok (.getfield 7, 3) := by decide +kernel
theorem d_m_change_9 : decode b_m_change 9 = .ok (.iload_n 1, 1) := by decide +kernel
theorem d_m_change_10 : decode b_m_change 10 = .ok (.iconst 1, 1) := by decide +kernel
theorem d_m_change_11 : decode b_m_change 11 = .ok (.iadd, 1) := by decide +kernel
theorem d_m_change_12 : decode b_m_change 12 = .ok (.iaload, 1) := by decide +kernel
theorem d_m_change_13 : decode b_m_change 13 = .ok (.isub, 1) := by decide +kernel
theorem d_m_change_14 : decode b_m_change 14 = .ok (.istore_n 2, 1) := by decide +kernel
theorem d_m_change_15 : decode b_m_change 15 = .ok (.iload_n 2, 1) := by decide +kernel
theorem d_m_change_16 : decode b_m_change 16 = .ok (.sipush 19661, 3) := by decide +kernel
theorem d_m_change_19 : decode b_m_change 19 = .ok (.if_icmp .lt 7, 3) := by decide +kernel
theorem d_m_change_22 : decode b_m_change 22 = .ok (.iconst 1, 1) := by decide +kernel
theorem d_m_change_23 : decode b_m_change 23 = .ok (.goto 15, 3) := by decide +kernel
theorem d_m_change_26 : decode b_m_change 26 = .ok (.iload_n 2, 1) := by decide +kernel
theorem d_m_change_27 : decode b_m_change 27 = .ok (.sipush (-19661), 3) := by decide +kernel
theorem d_m_change_30 : decode b_m_change 30 = .ok (.if_icmp .gt 7, 3) := by decide +kernel
theorem d_m_change_33 : decode b_m_change 33 = .ok (.iconst (-1), 1) := by decide +kernel
theorem d_m_change_34 : decode b_m_change 34 = .ok (.goto 4, 3) := by decide +kernel
theorem d_m_change_37 : decode b_m_change 37 = .ok (.iconst 0, 1) := by decide +kernel
theorem d_m_change_38 : decode b_m_change 38 = .ok (.ireturn, 1) := by decide +kernel
theorem d_m_collapses_0 : decode b_m_collapses 0 = .ok (.iconst 0, 1) := by decide +kernel
theorem d_m_collapses_1 : decode b_m_collapses 1 = .ok (.istore_n 2, 1) := by decide +kernel
theorem d_m_collapses_2 : decode b_m_collapses 2 = .ok (.iconst 0, 1) := by decide +kernel
theorem d_m_collapses_3 : decode b_m_collapses 3 = .ok (.istore_n 3, 1) := by decide +kernel
theorem d_m_collapses_4 : decode b_m_collapses 4 = .ok (.iconst 0, 1) := by decide +kernel
theorem d_m_collapses_5 : decode b_m_collapses 5 = .ok (.istore 4, 2) := by decide +kernel
theorem d_m_collapses_7 : decode b_m_collapses 7 = .ok (.iload 4, 2) := by decide +kernel
theorem d_m_collapses_9 : decode b_m_collapses 9 = .ok (.aload_n 0, 1) := by decide +kernel
theorem d_m_collapses_10 : decode b_m_collapses 10 = .ok (.getfield 7, 3) := by decide +kernel
theorem d_m_collapses_13 : decode b_m_collapses 13 = .ok (.iconst 1, 1) := by decide +kernel
theorem d_m_collapses_14 : decode b_m_collapses 14 = .ok (.iaload, 1) := by decide +kernel
theorem d_m_collapses_15 : decode b_m_collapses 15 = .ok (.if_icmp .ge 62, 3) := by decide +kernel
theorem d_m_collapses_18 : decode b_m_collapses 18 = .ok (.iload_n 1, 1) := by decide +kernel
theorem d_m_collapses_19 : decode b_m_collapses 19 = .ok (.iload 4, 2) := by decide +kernel
theorem d_m_collapses_21 : decode b_m_collapses 21 = .ok (.invokestatic 57, 3) := by decide +kernel
theorem d_m_collapses_24 : decode b_m_collapses 24 = .ok (.istore 5, 2) := by decide +kernel
theorem d_m_collapses_26 : decode b_m_collapses 26 = .ok (.aload_n 0, 1) := by decide +kernel
theorem d_m_collapses_27 : decode b_m_collapses 27 = .ok (.getfield 7, 3) := by decide +kernel
theorem d_m_collapses_30 : decode b_m_collapses 30 = .ok (.iload 5, 2) := by decide +kernel
theorem d_m_collapses_32 : decode b_m_collapses 32 = .ok (.iconst 2, 1) := by decide +kernel
theorem d_m_collapses_33 : decode b_m_collapses 33 = .ok (.iadd, 1) := by decide +kernel
theorem d_m_collapses_34 : decode b_m_collapses 34 = .ok (.iaload, 1) := by decide +kernel
theorem d_m_collapses_35 : decode b_m_collapses 35 = .ok (.ifCond .le 36, 3) := by decide +kernel
theorem d_m_collapses_38 : decode b_m_collapses 38 = .ok (.aload_n 0, 1) := by decide +kernel
theorem d_m_collapses_39 : decode b_m_collapses 39 = .ok (.getfield 7, 3) := by decide +kernel
theorem d_m_collapses_42 : decode b_m_collapses 42 = .ok (.iload 5, 2) := by decide +kernel
theorem d_m_collapses_44 : decode b_m_collapses 44 = .ok (.iconst 1, 1) := by decide +kernel
theorem d_m_collapses_45 : decode b_m_collapses 45 = .ok (.iadd, 1) := by decide +kernel
theorem d_m_collapses_46 : decode b_m_collapses 46 = .ok (.iaload, 1) := by decide +kernel
theorem d_m_collapses_47 : decode b_m_collapses 47 = .ok (.ifCond .lt 24, 3) := by decide +kernel
theorem d_m_collapses_50 : decode b_m_collapses 50 = .ok (.iinc 2 1, 3) := by decide +kernel
theorem d_m_collapses_53 : decode b_m_collapses 53 = .ok (.iload_n 3, 1) := by decide +kernel
theorem d_m_collapses_54 : decode b_m_collapses 54 = .ok (.aload_n 0, 1) := by decide +kernel
theorem d_m_collapses_55 : decode b_m_collapses 55 = .ok (.iload 5, 2) := by decide +kernel
theorem d_m_collapses_57 : decode b_m_collapses 57 = .ok (.invokevirtual 96, 3) := by decide +kernel
theorem d_m_collapses_60 : decode b_m_collapses 60 = .ok (.iconst (-1), 1) := by decide +kernel
theorem d_m_collapses_61 : decode b_m_collapses 61 = .ok (.if_icmp .ne 7, 3) := by decide +kernel
theorem d_m_collapses_64 : decode b_m_collapses 64 = .ok (.iconst 1, 1) := by decide +kernel
theorem d_m_collapses_65 : decode b_m_collapses 65 = .ok (.goto 4, 3) := by decide +kernel
theorem d_m_collapses_68 : decode b_m_collapses 68 = .ok (.iconst 0, 1) := by decide +kernel
theorem d_m_collapses_69 : decode b_m_collapses 69 = .ok (.iadd, 1) := by decide +kernel
theorem d_m_collapses_70 : decode b_m_collapses 70 = .ok (.istore_n 3, 1) := by decide +kernel
theorem d_m_collapses_71 : decode b_m_collapses 71 = .ok (.iinc 4 1, 3) := by decide +kernel
theorem d_m_collapses_74 : decode b_m_collapses 74 = .ok (.goto (-67), 3) := by decide +kernel
theorem d_m_collapses_77 : decode b_m_collapses 77 = .ok (.iload_n 2, 1) := by decide +kernel
theorem d_m_collapses_78 : decode b_m_collapses 78 = .ok (.iconst 2, 1) := by decide +kernel
theorem d_m_collapses_79 : decode b_m_collapses 79 = .ok (.if_icmp .lt 12, 3) := by decide +kernel
theorem d_m_collapses_82 : decode b_m_collapses 82 = .ok (.iload_n 3, 1) := by decide +kernel
theorem d_m_collapses_83 : decode b_m_collapses 83 = .ok (.iload_n 2, 1) := by decide +kernel
theorem d_m_collapses_84 : decode b_m_collapses 84 = .ok (.if_icmp .ne 7, 3) := by decide +kernel
theorem d_m_collapses_87 : decode b_m_collapses 87 = .ok (.iconst 1, 1) := by decide +kernel
theorem d_m_collapses_88 : decode b_m_collapses 88 = .ok (.goto 4, 3) := by decide +kernel
theorem d_m_collapses_91 : decode b_m_collapses 91 = .ok (.iconst 0, 1) := by decide +kernel
theorem d_m_collapses_92 : decode b_m_collapses 92 = .ok (.ireturn, 1) := by decide +kernel
theorem d_m_collapse_0 : decode b_m_collapse 0 = .ok (.iconst 0, 1) := by decide +kernel
theorem d_m_collapse_1 : decode b_m_collapse 1 = .ok (.istore_n 2, 1) := by decide +kernel
theorem d_m_collapse_2 : decode b_m_collapse 2 = .ok (.iload_n 2, 1) := by decide +kernel
theorem d_m_collapse_3 : decode b_m_collapse 3 = .ok (.aload_n 0, 1) := by decide +kernel
theorem d_m_collapse_4 : decode b_m_collapse 4 = .ok (.getfield 7, 3) := by decide +kernel
theorem d_m_collapse_7 : decode b_m_collapse 7 = .ok (.iconst 1, 1) := by decide +kernel
theorem d_m_collapse_8 : decode b_m_collapse 8 = .ok (.iaload, 1) := by decide +kernel
theorem d_m_collapse_9 : decode b_m_collapse 9 = .ok (.if_icmp .ge 81, 3) := by decide +kernel
theorem d_m_collapse_12 : decode b_m_collapse 12 = .ok (.iload_n 1, 1) := by decide +kernel
theorem d_m_collapse_13 : decode b_m_collapse 13 = .ok (.iload_n 2, 1) := by decide +kernel
theorem d_m_collapse_14 : decode b_m_collapse 14 = .ok (.invokestatic 57, 3) := by decide +kernel
theorem d_m_collapse_17 : decode b_m_collapse 17 = .ok (.istore_n 3, 1) := by decide +kernel
theorem d_m_collapse_18 : decode b_m_collapse 18 = .ok (.aload_n 0, 1) := by decide +kernel
theorem d_m_collapse_19 : decode b_m_collapse 19 = .ok (.getfield 7, 3) := by decide +kernel
theorem d_m_collapse_22 : decode b_m_collapse 22 = .ok (.iload_n 3, 1) := by decide +kernel
theorem d_m_collapse_23 : decode b_m_collapse 23 = .ok (.iconst 2, 1) := by decide +kernel
theorem d_m_collapse_24 : decode b_m_collapse 24 = .ok (.iadd, 1) := by decide +kernel
theorem d_m_collapse_25 : decode b_m_collapse 25 = .ok (.iaload, 1) := by decide +kernel
theorem d_m_collapse_26 : decode b_m_collapse 26 = .ok (.ifCond .le 29, 3) := by decide +kernel
theorem d_m_collapse_29 : decode b_m_collapse 29 = .ok (.aload_n 0, 1) := by decide +kernel
theorem d_m_collapse_30 : decode b_m_collapse 30 = .ok (.getfield 7, 3) := by decide +kernel
theorem d_m_collapse_33 : decode b_m_collapse 33 = .ok (.iload_n 3, 1) := by decide +kernel
theorem d_m_collapse_34 : decode b_m_collapse 34 = .ok (.iconst 1, 1) := by decide +kernel
theorem d_m_collapse_35 : decode b_m_collapse 35 = .ok (.iadd, 1) := by decide +kernel
theorem d_m_collapse_36 : decode b_m_collapse 36 = .ok (.aload_n 0, 1) := by decide +kernel
theorem d_m_collapse_37 : decode b_m_collapse 37 = .ok (.iload_n 3, 1) := by decide +kernel
theorem d_m_collapse_38 : decode b_m_collapse 38 = .ok (.invokevirtual 93, 3) := by decide +kernel
theorem d_m_collapse_41 : decode b_m_collapse 41 = .ok (.iastore, 1) := by decide +kernel
theorem d_m_collapse_42 : decode b_m_collapse 42 = .ok (.aload_n 0, 1) := by decide +kernel
theorem d_m_collapse_43 : decode b_m_collapse 43 = .ok (.getfield 7, 3) := by decide +kernel
theorem d_m_collapse_46 : decode b_m_collapse 46 = .ok (.iload_n 3, 1) := by decide +kernel
theorem d_m_collapse_47 : decode b_m_collapse 47 = .ok (.bipush 6, 2) := by decide +kernel
theorem d_m_collapse_49 : decode b_m_collapse 49 = .ok (.iadd, 1) := by decide +kernel
theorem d_m_collapse_50 : decode b_m_collapse 50 = .ok (.iconst 0, 1) := by decide +kernel
theorem d_m_collapse_51 : decode b_m_collapse 51 = .ok (.iastore, 1) := by decide +kernel
theorem d_m_collapse_52 : decode b_m_collapse 52 = .ok (.goto 32, 3) := by decide +kernel
theorem d_m_collapse_55 : decode b_m_collapse 55 = .ok (.aload_n 0, 1) := by decide +kernel
theorem d_m_collapse_56 : decode b_m_collapse 56 = .ok (.getfield 7, 3) := by decide +kernel
theorem d_m_collapse_59 : decode b_m_collapse 59 = .ok (.iload_n 3, 1) := by decide +kernel
theorem d_m_collapse_60 : decode b_m_collapse 60 = .ok (.iconst 1, 1) := by decide +kernel
theorem d_m_collapse_61 : decode b_m_collapse 61 = .ok (.iadd, 1) := by decide +kernel
theorem d_m_collapse_62 : decode b_m_collapse 62 = .ok (.iaload, 1) := by decide +kernel
theorem d_m_collapse_63 : decode b_m_collapse 63 = .ok (.ifCond .lt 21, 3) := by decide +kernel
theorem d_m_collapse_66 : decode b_m_collapse 66 = .ok (.aload_n 0, 1) := by decide +kernel
theorem d_m_collapse_67 : decode b_m_collapse 67 = .ok (.getfield 7, 3) := by decide +kernel
theorem d_m_collapse_70 : decode b_m_collapse 70 = .ok (.iload_n 3, 1) := by decide +kernel
theorem d_m_collapse_71 : decode b_m_collapse 71 = .ok (.iconst 1, 1) := by decide +kernel
theorem d_m_collapse_72 : decode b_m_collapse 72 = .ok (.iadd, 1) := by decide +kernel
theorem d_m_collapse_73 : decode b_m_collapse 73 = .ok (.aload_n 0, 1) := by decide +kernel
theorem d_m_collapse_74 : decode b_m_collapse 74 = .ok (.getfield 7, 3) := by decide +kernel
theorem d_m_collapse_77 : decode b_m_collapse 77 = .ok (.iload_n 3, 1) := by decide +kernel
theorem d_m_collapse_78 : decode b_m_collapse 78 = .ok (.iconst 1, 1) := by decide +kernel
theorem d_m_collapse_79 : decode b_m_collapse 79 = .ok (.iadd, 1) := by decide +kernel
theorem d_m_collapse_80 : decode b_m_collapse 80 = .ok (.iaload, 1) := by decide +kernel
theorem d_m_collapse_81 : decode b_m_collapse 81 = .ok (.iconst 2, 1) := by decide +kernel
theorem d_m_collapse_82 : decode b_m_collapse 82 = .ok (.idiv, 1) := by decide +kernel
theorem d_m_collapse_83 : decode b_m_collapse 83 = .ok (.iastore, 1) := by decide +kernel
theorem d_m_collapse_84 : decode b_m_collapse 84 = .ok (.iinc 2 1, 3) := by decide +kernel
theorem d_m_collapse_87 : decode b_m_collapse 87 = .ok (.goto (-85), 3) := by decide +kernel
theorem d_m_collapse_90 : decode b_m_collapse 90 = .ok (.aload_n 0, 1) := by decide +kernel
theorem d_m_collapse_91 : decode b_m_collapse 91 = .ok (.iconst 2, 1) := by decide +kernel
theorem d_m_collapse_92 : decode b_m_collapse 92 = .ok (.iload_n 1, 1) := by decide +kernel
theorem d_m_collapse_93 : decode b_m_collapse 93 = .ok (.bipush (-9), 2) := by decide +kernel
theorem d_m_collapse_95 : decode b_m_collapse 95 = .ok (.invokevirtual 99, 3) := by decide +kernel
theorem d_m_collapse_98 : decode b_m_collapse 98 = .ok (.aload_n 0, 1) := by decide +kernel
theorem d_m_collapse_99 : decode b_m_collapse 99 = .ok (.getfield 7, 3) := by decide +kernel
theorem d_m_collapse_102 : decode b_m_collapse 102 = .ok (.iload_n 1, 1) := by decide +kernel
theorem d_m_collapse_103 : decode b_m_collapse 103 = .ok (.invokestatic 81, 3) := by decide +kernel
theorem d_m_collapse_106 : decode b_m_collapse 106 = .ok (.iconst 5, 1) := by decide +kernel
theorem d_m_collapse_107 : decode b_m_collapse 107 = .ok (.iadd, 1) := by decide +kernel
theorem d_m_collapse_108 : decode b_m_collapse 108 = .ok (.iaload, 1) := by decide +kernel
theorem d_m_collapse_109 : decode b_m_collapse 109 = .ok (.ifCond .ne 11, 3) := by decide +kernel
theorem d_m_collapse_112 : decode b_m_collapse 112 = .ok (.aload_n 0, 1) := by decide +kernel
theorem d_m_collapse_113 : decode b_m_collapse 113 = .ok (.iconst 3, 1) := by decide +kernel
theorem d_m_collapse_114 : decode b_m_collapse 114 = .ok (.iload_n 1, 1) := by decide +kernel
theorem d_m_collapse_115 : decode b_m_collapse 115 = .ok (.bipush (-9), 2) := by decide +kernel
theorem d_m_collapse_117 : decode b_m_collapse 117 = .ok (.invokevirtual 99, 3) := by decide +kernel
theorem d_m_collapse_120 : decode b_m_collapse 120 = .ok (.aload_n 0, 1) := by decide +kernel
theorem d_m_collapse_121 : decode b_m_collapse 121 = .ok (.getfield 7, 3) := by decide +kernel
theorem d_m_collapse_124 : decode b_m_collapse 124 = .ok (.iload_n 1, 1) := by decide +kernel
theorem d_m_collapse_125 : decode b_m_collapse 125 = .ok (.invokestatic 81, 3) := by decide +kernel
theorem d_m_collapse_128 : decode b_m_collapse 128 = .ok (.iconst 5, 1) := by decide +kernel
theorem d_m_collapse_129 : decode b_m_collapse 129 = .ok (.iadd, 1) := by decide +kernel
theorem d_m_collapse_130 : decode b_m_collapse 130 = .ok (.iconst 1, 1) := by decide +kernel
theorem d_m_collapse_131 : decode b_m_collapse 131 = .ok (.iastore, 1) := by decide +kernel
theorem d_m_collapse_132 : decode b_m_collapse 132 = .ok (.return_, 1) := by decide +kernel
theorem d_m_learn_0 : decode b_m_learn 0 = .ok (.iload_n 1, 1) := by decide +kernel
theorem d_m_learn_1 : decode b_m_learn 1 = .ok (.iload_n 2, 1) := by decide +kernel
theorem d_m_learn_2 : decode b_m_learn 2 = .ok (.invokestatic 57, 3) := by decide +kernel
theorem d_m_learn_5 : decode b_m_learn 5 = .ok (.istore_n 3, 1) := by decide +kernel
theorem d_m_learn_6 : decode b_m_learn 6 = .ok (.aload_n 0, 1) := by decide +kernel
theorem d_m_learn_7 : decode b_m_learn 7 = .ok (.iload_n 3, 1) := by decide +kernel
theorem d_m_learn_8 : decode b_m_learn 8 = .ok (.invokevirtual 93, 3) := by decide +kernel
theorem d_m_learn_11 : decode b_m_learn 11 = .ok (.istore 4, 2) := by decide +kernel
theorem d_m_learn_13 : decode b_m_learn 13 = .ok (.aload_n 0, 1) := by decide +kernel
theorem d_m_learn_14 : decode b_m_learn 14 = .ok (.getfield 7, 3) := by decide +kernel
theorem d_m_learn_17 : decode b_m_learn 17 = .ok (.iload_n 3, 1) := by decide +kernel
theorem d_m_learn_18 : decode b_m_learn 18 = .ok (.iconst 1, 1) := by decide +kernel
theorem d_m_learn_19 : decode b_m_learn 19 = .ok (.iadd, 1) := by decide +kernel
theorem d_m_learn_20 : decode b_m_learn 20 = .ok (.iaload, 1) := by decide +kernel
theorem d_m_learn_21 : decode b_m_learn 21 = .ok (.ifCond .ge 14, 3) := by decide +kernel
theorem d_m_learn_24 : decode b_m_learn 24 = .ok (.aload_n 0, 1) := by decide +kernel
theorem d_m_learn_25 : decode b_m_learn 25 = .ok (.getfield 7, 3) := by decide +kernel
theorem d_m_learn_28 : decode b_m_learn 28 = .ok (.iload_n 3, 1) := by decide +kernel
theorem d_m_learn_29 : decode b_m_learn 29 = .ok (.iconst 1, 1) := by decide +kernel
theorem d_m_learn_30 : decode b_m_learn 30 = .ok (.iadd, 1) := by decide +kernel
theorem d_m_learn_31 : decode b_m_learn 31 = .ok (.iload 4, 2) := by decide +kernel
theorem d_m_learn_33 : decode b_m_learn 33 = .ok (.iastore, 1) := by decide +kernel
theorem d_m_learn_34 : decode b_m_learn 34 = .ok (.return_, 1) := by decide +kernel
theorem d_m_learn_35 : decode b_m_learn 35 = .ok (.aload_n 0, 1) := by decide +kernel
theorem d_m_learn_36 : decode b_m_learn 36 = .ok (.iload_n 3, 1) := by decide +kernel
theorem d_m_learn_37 : decode b_m_learn 37 = .ok (.invokevirtual 96, 3) := by decide +kernel
theorem d_m_learn_40 : decode b_m_learn 40 = .ok (.istore 5, 2) := by decide +kernel
theorem d_m_learn_42 : decode b_m_learn 42 = .ok (.iload 5, 2) := by decide +kernel
theorem d_m_learn_44 : decode b_m_learn 44 = .ok (.ifCond .eq 47, 3) := by decide +kernel
theorem d_m_learn_47 : decode b_m_learn 47 = .ok (.iload 5, 2) := by decide +kernel
theorem d_m_learn_49 : decode b_m_learn 49 = .ok (.aload_n 0, 1) := by decide +kernel
theorem d_m_learn_50 : decode b_m_learn 50 = .ok (.getfield 7, 3) := by decide +kernel
theorem d_m_learn_53 : decode b_m_learn 53 = .ok (.iload_n 3, 1) := by decide +kernel
theorem d_m_learn_54 : decode b_m_learn 54 = .ok (.bipush 6, 2) := by decide +kernel
theorem d_m_learn_56 : decode b_m_learn 56 = .ok (.iadd, 1) := by decide +kernel
theorem d_m_learn_57 : decode b_m_learn 57 = .ok (.iaload, 1) := by decide +kernel
theorem d_m_learn_58 : decode b_m_learn 58 = .ok (.if_icmp .ne 33, 3) := by decide +kernel
theorem d_m_learn_61 : decode b_m_learn 61 = .ok (.aload_n 0, 1) := by decide +kernel
theorem d_m_learn_62 : decode b_m_learn 62 = .ok (.getfield 7, 3) := by decide +kernel
theorem d_m_learn_65 : decode b_m_learn 65 = .ok (.iload_n 3, 1) := by decide +kernel
theorem d_m_learn_66 : decode b_m_learn 66 = .ok (.iconst 1, 1) := by decide +kernel
theorem d_m_learn_67 : decode b_m_learn 67 = .ok (.iadd, 1) := by decide +kernel
theorem d_m_learn_68 : decode b_m_learn 68 = .ok (.iload 4, 2) := by decide +kernel
theorem d_m_learn_70 : decode b_m_learn 70 = .ok (.iastore, 1) := by decide +kernel
theorem d_m_learn_71 : decode b_m_learn 71 = .ok (.aload_n 0, 1) := by decide +kernel
theorem d_m_learn_72 : decode b_m_learn 72 = .ok (.getfield 7, 3) := by decide +kernel
theorem d_m_learn_75 : decode b_m_learn 75 = .ok (.iload_n 3, 1) := by decide +kernel
theorem d_m_learn_76 : decode b_m_learn 76 = .ok (.bipush 6, 2) := by decide +kernel
theorem d_m_learn_78 : decode b_m_learn 78 = .ok (.iadd, 1) := by decide +kernel
theorem d_m_learn_79 : decode b_m_learn 79 = .ok (.iconst 0, 1) := by decide +kernel
theorem d_m_learn_80 : decode b_m_learn 80 = .ok (.iastore, 1) := by decide +kernel
theorem d_m_learn_81 : decode b_m_learn 81 = .ok (.aload_n 0, 1) := by decide +kernel
theorem d_m_learn_82 : decode b_m_learn 82 = .ok (.iconst 1, 1) := by decide +kernel
theorem d_m_learn_83 : decode b_m_learn 83 = .ok (.iload_n 1, 1) := by decide +kernel
theorem d_m_learn_84 : decode b_m_learn 84 = .ok (.iload_n 2, 1) := by decide +kernel
theorem d_m_learn_85 : decode b_m_learn 85 = .ok (.invokevirtual 99, 3) := by decide +kernel
theorem d_m_learn_88 : decode b_m_learn 88 = .ok (.goto 53, 3) := by decide +kernel
theorem d_m_learn_91 : decode b_m_learn 91 = .ok (.aload_n 0, 1) := by decide +kernel
theorem d_m_learn_92 : decode b_m_learn 92 = .ok (.getfield 7, 3) := by decide +kernel
theorem d_m_learn_95 : decode b_m_learn 95 = .ok (.iload_n 3, 1) := by decide +kernel
theorem d_m_learn_96 : decode b_m_learn 96 = .ok (.iconst 1, 1) := by decide +kernel
theorem d_m_learn_97 : decode b_m_learn 97 = .ok (.iadd, 1) := by decide +kernel
theorem d_m_learn_98 : decode b_m_learn 98 = .ok (.aload_n 0, 1) := by decide +kernel
theorem d_m_learn_99 : decode b_m_learn 99 = .ok (.getfield 7, 3) := by decide +kernel
theorem d_m_learn_102 : decode b_m_learn 102 = .ok (.iload_n 3, 1) := by decide +kernel
theorem d_m_learn_103 : decode b_m_learn 103 = .ok (.iconst 1, 1) := by decide +kernel
theorem d_m_learn_104 : decode b_m_learn 104 = .ok (.iadd, 1) := by decide +kernel
theorem d_m_learn_105 : decode b_m_learn 105 = .ok (.iaload, 1) := by decide +kernel
theorem d_m_learn_106 : decode b_m_learn 106 = .ok (.bipush 100, 2) := by decide +kernel
theorem d_m_learn_108 : decode b_m_learn 108 = .ok (.aload_n 0, 1) := by decide +kernel
theorem d_m_learn_109 : decode b_m_learn 109 = .ok (.getfield 7, 3) := by decide +kernel
theorem d_m_learn_112 : decode b_m_learn 112 = .ok (.iconst 4, 1) := by decide +kernel
theorem d_m_learn_113 : decode b_m_learn 113 = .ok (.iaload, 1) := by decide +kernel
theorem d_m_learn_114 : decode b_m_learn 114 = .ok (.isub, 1) := by decide +kernel
theorem d_m_learn_115 : decode b_m_learn 115 = .ok (.imul, 1) := by decide +kernel
theorem d_m_learn_116 : decode b_m_learn 116 = .ok (.iload 4, 2) := by decide +kernel
theorem d_m_learn_118 : decode b_m_learn 118 = .ok (.aload_n 0, 1) := by decide +kernel
theorem d_m_learn_119 : decode b_m_learn 119 = .ok (.getfield 7, 3) := by decide +kernel
theorem d_m_learn_122 : decode b_m_learn 122 = .ok (.iconst 4, 1) := by decide +kernel
theorem d_m_learn_123 : decode b_m_learn 123 = .ok (.iaload, 1) := by decide +kernel
theorem d_m_learn_124 : decode b_m_learn 124 = .ok (.imul, 1) := by decide +kernel
theorem d_m_learn_125 : decode b_m_learn 125 = .ok (.iadd, 1) := by decide +kernel
theorem d_m_learn_126 : decode b_m_learn 126 = .ok (.bipush 100, 2) := by decide +kernel
theorem d_m_learn_128 : decode b_m_learn 128 = .ok (.idiv, 1) := by decide +kernel
theorem d_m_learn_129 : decode b_m_learn 129 = .ok (.iastore, 1) := by decide +kernel
theorem d_m_learn_130 : decode b_m_learn 130 = .ok (.aload_n 0, 1) := by decide +kernel
theorem d_m_learn_131 : decode b_m_learn 131 = .ok (.getfield 7, 3) := by decide +kernel
theorem d_m_learn_134 : decode b_m_learn 134 = .ok (.iload_n 3, 1) := by decide +kernel
theorem d_m_learn_135 : decode b_m_learn 135 = .ok (.bipush 6, 2) := by decide +kernel
theorem d_m_learn_137 : decode b_m_learn 137 = .ok (.iadd, 1) := by decide +kernel
theorem d_m_learn_138 : decode b_m_learn 138 = .ok (.iload 5, 2) := by decide +kernel
theorem d_m_learn_140 : decode b_m_learn 140 = .ok (.iastore, 1) := by decide +kernel
theorem d_m_learn_141 : decode b_m_learn 141 = .ok (.return_, 1) := by decide +kernel
theorem d_m_follow_0 : decode b_m_follow 0 = .ok (.iconst 0, 1) := by decide +kernel
theorem d_m_follow_1 : decode b_m_follow 1 = .ok (.istore_n 2, 1) := by decide +kernel
theorem d_m_follow_2 : decode b_m_follow 2 = .ok (.iload_n 2, 1) := by decide +kernel
theorem d_m_follow_3 : decode b_m_follow 3 = .ok (.aload_n 0, 1) := by decide +kernel
theorem d_m_follow_4 : decode b_m_follow 4 = .ok (.getfield 7, 3) := by decide +kernel
theorem d_m_follow_7 : decode b_m_follow 7 = .ok (.iconst 1, 1) := by decide +kernel
theorem d_m_follow_8 : decode b_m_follow 8 = .ok (.iaload, 1) := by decide +kernel
theorem d_m_follow_9 : decode b_m_follow 9 = .ok (.if_icmp .ge 30, 3) := by decide +kernel
theorem d_m_follow_12 : decode b_m_follow 12 = .ok (.aload_n 0, 1) := by decide +kernel
theorem d_m_follow_13 : decode b_m_follow 13 = .ok (.getfield 7, 3) := by decide +kernel
theorem d_m_follow_16 : decode b_m_follow 16 = .ok (.iload_n 1, 1) := by decide +kernel
theorem d_m_follow_17 : decode b_m_follow 17 = .ok (.iload_n 2, 1) := by decide +kernel
theorem d_m_follow_18 : decode b_m_follow 18 = .ok (.invokestatic 57, 3) := by decide +kernel
theorem d_m_follow_21 : decode b_m_follow 21 = .ok (.iconst 2, 1) := by decide +kernel
theorem d_m_follow_22 : decode b_m_follow 22 = .ok (.iadd, 1) := by decide +kernel
theorem d_m_follow_23 : decode b_m_follow 23 = .ok (.iaload, 1) := by decide +kernel
theorem d_m_follow_24 : decode b_m_follow 24 = .ok (.ifCond .le 9, 3) := by decide +kernel
theorem d_m_follow_27 : decode b_m_follow 27 = .ok (.aload_n 0, 1) := by decide +kernel
theorem d_m_follow_28 : decode b_m_follow 28 = .ok (.iload_n 1, 1) := by decide +kernel
theorem d_m_follow_29 : decode b_m_follow 29 = .ok (.iload_n 2, 1) := by decide +kernel
theorem d_m_follow_30 : decode b_m_follow 30 = .ok (.invokevirtual 103, 3) := by decide +kernel
theorem d_m_follow_33 : decode b_m_follow 33 = .ok (.iinc 2 1, 3) := by decide +kernel
theorem d_m_follow_36 : decode b_m_follow 36 = .ok (.goto (-34), 3) := by decide +kernel
theorem d_m_follow_39 : decode b_m_follow 39 = .ok (.aload_n 0, 1) := by decide +kernel
theorem d_m_follow_40 : decode b_m_follow 40 = .ok (.getfield 7, 3) := by decide +kernel
theorem d_m_follow_43 : decode b_m_follow 43 = .ok (.iload_n 1, 1) := by decide +kernel
theorem d_m_follow_44 : decode b_m_follow 44 = .ok (.invokestatic 81, 3) := by decide +kernel
theorem d_m_follow_47 : decode b_m_follow 47 = .ok (.iconst 5, 1) := by decide +kernel
theorem d_m_follow_48 : decode b_m_follow 48 = .ok (.iadd, 1) := by decide +kernel
theorem d_m_follow_49 : decode b_m_follow 49 = .ok (.iaload, 1) := by decide +kernel
theorem d_m_follow_50 : decode b_m_follow 50 = .ok (.iconst 1, 1) := by decide +kernel
theorem d_m_follow_51 : decode b_m_follow 51 = .ok (.if_icmp .ne 23, 3) := by decide +kernel
theorem d_m_follow_54 : decode b_m_follow 54 = .ok (.aload_n 0, 1) := by decide +kernel
theorem d_m_follow_55 : decode b_m_follow 55 = .ok (.getfield 7, 3) := by decide +kernel
theorem d_m_follow_58 : decode b_m_follow 58 = .ok (.iload_n 1, 1) := by decide +kernel
theorem d_m_follow_59 : decode b_m_follow 59 = .ok (.invokestatic 81, 3) := by decide +kernel
theorem d_m_follow_62 : decode b_m_follow 62 = .ok (.iconst 5, 1) := by decide +kernel
theorem d_m_follow_63 : decode b_m_follow 63 = .ok (.iadd, 1) := by decide +kernel
theorem d_m_follow_64 : decode b_m_follow 64 = .ok (.iconst 0, 1) := by decide +kernel
theorem d_m_follow_65 : decode b_m_follow 65 = .ok (.iastore, 1) := by decide +kernel
theorem d_m_follow_66 : decode b_m_follow 66 = .ok (.aload_n 0, 1) := by decide +kernel
theorem d_m_follow_67 : decode b_m_follow 67 = .ok (.iconst 4, 1) := by decide +kernel
theorem d_m_follow_68 : decode b_m_follow 68 = .ok (.iload_n 1, 1) := by decide +kernel
theorem d_m_follow_69 : decode b_m_follow 69 = .ok (.bipush (-9), 2) := by decide +kernel
theorem d_m_follow_71 : decode b_m_follow 71 = .ok (.invokevirtual 99, 3) := by decide +kernel
theorem d_m_follow_74 : decode b_m_follow 74 = .ok (.return_, 1) := by decide +kernel
theorem d_m_updates_0 : decode b_m_updates 0 = .ok (.iconst 0, 1) := by decide +kernel
theorem d_m_updates_1 : decode b_m_updates 1 = .ok (.istore_n 2, 1) := by decide +kernel
theorem d_m_updates_2 : decode b_m_updates 2 = .ok (.aload_n 0, 1) := by decide +kernel
theorem d_m_updates_3 : decode b_m_updates 3 = .ok (.iload_n 1, 1) := by decide +kernel
theorem d_m_updates_4 : decode b_m_updates 4 = .ok (.invokevirtual 107, 3) := by decide +kernel
theorem d_m_updates_7 : decode b_m_updates 7 = .ok (.ifCond .eq 11, 3) := by decide +kernel
theorem d_m_updates_10 : decode b_m_updates 10 = .ok (.aload_n 0, 1) := by decide +kernel
theorem d_m_updates_11 : decode b_m_updates 11 = .ok (.iload_n 1, 1) := by decide +kernel
theorem d_m_updates_12 : decode b_m_updates 12 = .ok (.invokevirtual 110, 3) := by decide +kernel
theorem d_m_updates_15 : decode b_m_updates 15 = .ok (.goto 8, 3) := by decide +kernel
theorem d_m_updates_18 : decode b_m_updates 18 = .ok (.aload_n 0, 1) := by decide +kernel
theorem d_m_updates_19 : decode b_m_updates 19 = .ok (.iload_n 1, 1) := by decide +kernel
theorem d_m_updates_20 : decode b_m_updates 20 = .ok (.invokevirtual 114, 3) := by decide +kernel
theorem d_m_updates_23 : decode b_m_updates 23 = .ok (.iconst 0, 1) := by decide +kernel
theorem d_m_updates_24 : decode b_m_updates 24 = .ok (.istore_n 3, 1) := by decide +kernel
theorem d_m_updates_25 : decode b_m_updates 25 = .ok (.iload_n 3, 1) := by decide +kernel
theorem d_m_updates_26 : decode b_m_updates 26 = .ok (.aload_n 0, 1) := by decide +kernel
theorem d_m_updates_27 : decode b_m_updates 27 = .ok (.getfield 7, 3) := by decide +kernel
theorem d_m_updates_30 : decode b_m_updates 30 = .ok (.iconst 1, 1) := by decide +kernel
theorem d_m_updates_31 : decode b_m_updates 31 = .ok (.iaload, 1) := by decide +kernel
theorem d_m_updates_32 : decode b_m_updates 32 = .ok (.if_icmp .ge 56, 3) := by decide +kernel
theorem d_m_updates_35 : decode b_m_updates 35 = .ok (.iload_n 1, 1) := by decide +kernel
theorem d_m_updates_36 : decode b_m_updates 36 = .ok (.iload_n 3, 1) := by decide +kernel
theorem d_m_updates_37 : decode b_m_updates 37 = .ok (.invokestatic 57, 3) := by decide +kernel
theorem d_m_updates_40 : decode b_m_updates 40 = .ok (.istore 4, 2) := by decide +kernel
theorem d_m_updates_42 : decode b_m_updates 42 = .ok (.iload_n 2, 1) := by decide +kernel
theorem d_m_updates_43 : decode b_m_updates 43 = .ok (.aload_n 0, 1) := by decide +kernel
theorem d_m_updates_44 : decode b_m_updates 44 = .ok (.getfield 7, 3) := by decide +kernel
theorem d_m_updates_47 : decode b_m_updates 47 = .ok (.iload 4, 2) := by decide +kernel
theorem d_m_updates_49 : decode b_m_updates 49 = .ok (.iconst 2, 1) := by decide +kernel
theorem d_m_updates_50 : decode b_m_updates 50 = .ok (.iadd, 1) := by decide +kernel
theorem d_m_updates_51 : decode b_m_updates 51 = .ok (.iaload, 1) := by decide +kernel
theorem d_m_updates_52 : decode b_m_updates 52 = .ok (.ifCond .le 7, 3) := by decide +kernel
theorem d_m_updates_55 : decode b_m_updates 55 = .ok (.iconst 1, 1) := by decide +kernel
theorem d_m_updates_56 : decode b_m_updates 56 = .ok (.goto 4, 3) := by decide +kernel
theorem d_m_updates_59 : decode b_m_updates 59 = .ok (.iconst 0, 1) := by decide +kernel
theorem d_m_updates_60 : decode b_m_updates 60 = .ok (.iadd, 1) := by decide +kernel
theorem d_m_updates_61 : decode b_m_updates 61 = .ok (.istore_n 2, 1) := by decide +kernel
theorem d_m_updates_62 : decode b_m_updates 62 = .ok (.aload_n 0, 1) := by decide +kernel
theorem d_m_updates_63 : decode b_m_updates 63 = .ok (.getfield 7, 3) := by decide +kernel
theorem d_m_updates_66 : decode b_m_updates 66 = .ok (.iload 4, 2) := by decide +kernel
theorem d_m_updates_68 : decode b_m_updates 68 = .ok (.iconst 2, 1) := by decide +kernel
theorem d_m_updates_69 : decode b_m_updates 69 = .ok (.iadd, 1) := by decide +kernel
theorem d_m_updates_70 : decode b_m_updates 70 = .ok (.iconst 0, 1) := by decide +kernel
theorem d_m_updates_71 : decode b_m_updates 71 = .ok (.iastore, 1) := by decide +kernel
theorem d_m_updates_72 : decode b_m_updates 72 = .ok (.aload_n 0, 1) := by decide +kernel
theorem d_m_updates_73 : decode b_m_updates 73 = .ok (.getfield 7, 3) := by decide +kernel
theorem d_m_updates_76 : decode b_m_updates 76 = .ok (.iload 4, 2) := by decide +kernel
theorem d_m_updates_78 : decode b_m_updates 78 = .ok (.iconst 3, 1) := by decide +kernel
theorem d_m_updates_79 : decode b_m_updates 79 = .ok (.iadd, 1) := by decide +kernel
theorem d_m_updates_80 : decode b_m_updates 80 = .ok (.iconst 0, 1) := by decide +kernel
theorem d_m_updates_81 : decode b_m_updates 81 = .ok (.iastore, 1) := by decide +kernel
theorem d_m_updates_82 : decode b_m_updates 82 = .ok (.iinc 3 1, 3) := by decide +kernel
theorem d_m_updates_85 : decode b_m_updates 85 = .ok (.goto (-60), 3) := by decide +kernel
theorem d_m_updates_88 : decode b_m_updates 88 = .ok (.aload_n 0, 1) := by decide +kernel
theorem d_m_updates_89 : decode b_m_updates 89 = .ok (.getfield 7, 3) := by decide +kernel
theorem d_m_updates_92 : decode b_m_updates 92 = .ok (.iload_n 1, 1) := by decide +kernel
theorem d_m_updates_93 : decode b_m_updates 93 = .ok (.invokestatic 81, 3) := by decide +kernel
theorem d_m_updates_96 : decode b_m_updates 96 = .ok (.iconst 4, 1) := by decide +kernel
theorem d_m_updates_97 : decode b_m_updates 97 = .ok (.iadd, 1) := by decide +kernel
theorem d_m_updates_98 : decode b_m_updates 98 = .ok (.iconst 0, 1) := by decide +kernel
theorem d_m_updates_99 : decode b_m_updates 99 = .ok (.iastore, 1) := by decide +kernel
theorem d_m_updates_100 : decode b_m_updates 100 = .ok (.aload_n 0, 1) := by decide +kernel
theorem d_m_updates_101 : decode b_m_updates 101 = .ok (.getfield 7, 3) := by decide +kernel
theorem d_m_updates_104 : decode b_m_updates 104 = .ok (.iload_n 1, 1) := by decide +kernel
theorem d_m_updates_105 : decode b_m_updates 105 = .ok (.invokestatic 81, 3) := by decide +kernel
theorem d_m_updates_108 : decode b_m_updates 108 = .ok (.bipush 18, 2) := by decide +kernel
theorem d_m_updates_110 : decode b_m_updates 110 = .ok (.iadd, 1) := by decide +kernel
theorem d_m_updates_111 : decode b_m_updates 111 = .ok (.iaload, 1) := by decide +kernel
theorem d_m_updates_112 : decode b_m_updates 112 = .ok (.istore_n 3, 1) := by decide +kernel
theorem d_m_updates_113 : decode b_m_updates 113 = .ok (.aload_n 0, 1) := by decide +kernel
theorem d_m_updates_114 : decode b_m_updates 114 = .ok (.iload_n 1, 1) := by decide +kernel
theorem d_m_updates_115 : decode b_m_updates 115 = .ok (.invokevirtual 117, 3) := by decide +kernel
theorem d_m_updates_118 : decode b_m_updates 118 = .ok (.aload_n 0, 1) := by decide +kernel
theorem d_m_updates_119 : decode b_m_updates 119 = .ok (.getfield 7, 3) := by decide +kernel
theorem d_m_updates_122 : decode b_m_updates 122 = .ok (.iload_n 1, 1) := by decide +kernel
theorem d_m_updates_123 : decode b_m_updates 123 = .ok (.invokestatic 81, 3) := by decide +kernel
theorem d_m_updates_126 : decode b_m_updates 126 = .ok (.bipush 18, 2) := by decide +kernel
theorem d_m_updates_128 : decode b_m_updates 128 = .ok (.iadd, 1) := by decide +kernel
theorem d_m_updates_129 : decode b_m_updates 129 = .ok (.iaload, 1) := by decide +kernel
theorem d_m_updates_130 : decode b_m_updates 130 = .ok (.iload_n 3, 1) := by decide +kernel
theorem d_m_updates_131 : decode b_m_updates 131 = .ok (.if_icmp .eq 21, 3) := by decide +kernel
theorem d_m_updates_134 : decode b_m_updates 134 = .ok (.aload_n 0, 1) := by decide +kernel
theorem d_m_updates_135 : decode b_m_updates 135 = .ok (.iconst 5, 1) := by decide +kernel
theorem d_m_updates_136 : decode b_m_updates 136 = .ok (.iload_n 1, 1) := by decide +kernel
theorem d_m_updates_137 : decode b_m_updates 137 = .ok (.aload_n 0, 1) := by decide +kernel
theorem d_m_updates_138 : decode b_m_updates 138 = .ok (.getfield 7, 3) := by decide +kernel
theorem d_m_updates_141 : decode b_m_updates 141 = .ok (.iload_n 1, 1) := by decide +kernel
theorem d_m_updates_142 : decode b_m_updates 142 = .ok (.invokestatic 81, 3) := by decide +kernel
theorem d_m_updates_145 : decode b_m_updates 145 = .ok (.bipush 18, 2) := by decide +kernel
theorem d_m_updates_147 : decode b_m_updates 147 = .ok (.iadd, 1) := by decide +kernel
theorem d_m_updates_148 : decode b_m_updates 148 = .ok (.iaload, 1) := by decide +kernel
theorem d_m_updates_149 : decode b_m_updates 149 = .ok (.invokevirtual 99, 3) := by decide +kernel
theorem d_m_updates_152 : decode b_m_updates 152 = .ok (.aload_n 0, 1) := by decide +kernel
theorem d_m_updates_153 : decode b_m_updates 153 = .ok (.getfield 7, 3) := by decide +kernel
theorem d_m_updates_156 : decode b_m_updates 156 = .ok (.iload_n 1, 1) := by decide +kernel
theorem d_m_updates_157 : decode b_m_updates 157 = .ok (.invokestatic 81, 3) := by decide +kernel
theorem d_m_updates_160 : decode b_m_updates 160 = .ok (.bipush 16, 2) := by decide +kernel
theorem d_m_updates_162 : decode b_m_updates 162 = .ok (.iadd, 1) := by decide +kernel
theorem d_m_updates_163 : decode b_m_updates 163 = .ok (.aload_n 0, 1) := by decide +kernel
theorem d_m_updates_164 : decode b_m_updates 164 = .ok (.invokevirtual 120, 3) := by decide +kernel
theorem d_m_updates_167 : decode b_m_updates 167 = .ok (.iastore, 1) := by decide +kernel
theorem d_m_updates_168 : decode b_m_updates 168 = .ok (.iload_n 2, 1) := by decide +kernel
theorem d_m_updates_169 : decode b_m_updates 169 = .ok (.ireturn, 1) := by decide +kernel
theorem d_m_updatesDue_0 : decode b_m_updatesDue 0 = .ok (.iconst 0, 1) := by decide +kernel
theorem d_m_updatesDue_1 : decode b_m_updatesDue 1 = .ok (.istore_n 1, 1) := by decide +kernel
theorem d_m_updatesDue_2 : decode b_m_updatesDue 2 = .ok (.iload_n 1, 1) := by decide +kernel
theorem d_m_updatesDue_3 : decode b_m_updatesDue 3 = .ok (.aload_n 0, 1) := by decide +kernel
theorem d_m_updatesDue_4 : decode b_m_updatesDue 4 = .ok (.getfield 7, 3) := by decide +kernel
theorem d_m_updatesDue_7 : decode b_m_updatesDue 7 = .ok (.iconst 2, 1) := by decide +kernel
theorem d_m_updatesDue_8 : decode b_m_updatesDue 8 = .ok (.iaload, 1) := by decide +kernel
theorem d_m_updatesDue_9 : decode b_m_updatesDue 9 = .ok (.if_icmp .ge 44, 3) := by decide +kernel
theorem d_m_updatesDue_12 : decode b_m_updatesDue 12 = .ok (.aload_n 0, 1) := by decide +kernel
theorem d_m_updatesDue_13 : decode b_m_updatesDue 13 = .ok (.getfield 7, 3) := by decide +kernel
theorem d_m_updatesDue_16 : decode b_m_updatesDue 16 = .ok (.iload_n 1, 1) := by decide +kernel
theorem d_m_updatesDue_17 : decode b_m_updatesDue 17 = .ok (.invokestatic 81, 3) := by decide +kernel
theorem d_m_updatesDue_20 : decode b_m_updatesDue 20 = .ok (.bipush 16, 2) := by decide +kernel
theorem d_m_updatesDue_22 : decode b_m_updatesDue 22 = .ok (.iadd, 1) := by decide +kernel
theorem d_m_updatesDue_23 : decode b_m_updatesDue 23 = .ok (.iaload, 1) := by decide +kernel
theorem d_m_updatesDue_24 : decode b_m_updatesDue 24 = .ok (.istore_n 2, 1) := by decide +kernel
theorem d_m_updatesDue_25 : decode b_m_updatesDue 25 = .ok (.iload_n 2, 1) := by decide +kernel
theorem d_m_updatesDue_26 : decode b_m_updatesDue 26 = .ok (.bipush (-9), 2) := by decide +kernel
theorem d_m_updatesDue_28 : decode b_m_updatesDue 28 = .ok (.if_icmp .eq 19, 3) := by decide +kernel
theorem d_m_updatesDue_31 : decode b_m_updatesDue 31 = .ok (.iload_n 2, 1) := by decide +kernel
theorem d_m_updatesDue_32 : decode b_m_updatesDue 32 = .ok (.aload_n 0, 1) := by decide +kernel
theorem d_m_updatesDue_33 : decode b_m_updatesDue 33 = .ok (.getfield 7, 3) := by decide +kernel
theorem d_m_updatesDue_36 : decode b_m_updatesDue 36 = .ok (.iconst 0, 1) := by decide +kernel
theorem d_m_updatesDue_37 : decode b_m_updatesDue 37 = .ok (.iaload, 1) := by decide +kernel
theorem d_m_updatesDue_38 : decode b_m_updatesDue 38 = .ok (.if_icmp .gt 9, 3) := by decide +kernel
theorem d_m_updatesDue_41 : decode b_m_updatesDue 41 = .ok (.aload_n 0, 1) := by decide +kernel
theorem d_m_updatesDue_42 : decode b_m_updatesDue 42 = .ok (.iload_n 1, 1) := by decide +kernel
theorem d_m_updatesDue_43 : decode b_m_updatesDue 43 = .ok (.invokevirtual 124, 3) := by decide +kernel
theorem d_m_updatesDue_46 : decode b_m_updatesDue 46 = .ok (.istore_n 3, 1) := by decide +kernel
theorem d_m_updatesDue_47 : decode b_m_updatesDue 47 = .ok (.iinc 1 1, 3) := by decide +kernel
theorem d_m_updatesDue_50 : decode b_m_updatesDue 50 = .ok (.goto (-48), 3) := by decide +kernel
theorem d_m_updatesDue_53 : decode b_m_updatesDue 53 = .ok (.return_, 1) := by decide +kernel
theorem d_m_addRate_0 : decode b_m_addRate 0 = .ok (.iload_n 1, 1) := by decide +kernel
theorem d_m_addRate_1 : decode b_m_addRate 1 = .ok (.iconst 0, 1) := by decide +kernel
theorem d_m_addRate_2 : decode b_m_addRate 2 = .ok (.iconst 2, 1) := by decide +kernel
theorem d_m_addRate_3 : decode b_m_addRate 3 = .ok (.invokestatic 31, 3) := by decide +kernel
theorem d_m_addRate_6 : decode b_m_addRate 6 = .ok (.ifCond .eq 15, 3) := by decide +kernel
theorem d_m_addRate_9 : decode b_m_addRate 9 = .ok (.iload_n 2, 1) := by decide +kernel
theorem d_m_addRate_10 : decode b_m_addRate 10 = .ok (.bipush 10, 2) := by decide +kernel
theorem d_m_addRate_12 : decode b_m_addRate 12 = .ok (.sipush 10000, 3) := by decide +kernel
theorem d_m_addRate_15 : decode b_m_addRate 15 = .ok (.invokestatic 31, 3) := by decide +kernel
theorem d_m_addRate_18 : decode b_m_addRate 18 = .ok (.ifCond .ne 5, 3) := by decide +kernel
theorem d_m_addRate_21 : decode b_m_addRate 21 = .ok (.iconst (-1), 1) := by decide +kernel
theorem d_m_addRate_22 : decode b_m_addRate 22 = .ok (.ireturn, 1) := by decide +kernel
theorem d_m_addRate_23 : decode b_m_addRate 23 = .ok (.aload_n 0, 1) := by decide +kernel
theorem d_m_addRate_24 : decode b_m_addRate 24 = .ok (.getfield 7, 3) := by decide +kernel
theorem d_m_addRate_27 : decode b_m_addRate 27 = .ok (.iconst 1, 1) := by decide +kernel
theorem d_m_addRate_28 : decode b_m_addRate 28 = .ok (.iaload, 1) := by decide +kernel
theorem d_m_addRate_29 : decode b_m_addRate 29 = .ok (.bipush 8, 2) := by decide +kernel
theorem d_m_addRate_31 : decode b_m_addRate 31 = .ok (.if_icmp .ne 6, 3) := by decide +kernel
theorem d_m_addRate_34 : decode b_m_addRate 34 = .ok (.bipush (-3), 2) := by decide +kernel
theorem d_m_addRate_36 : decode b_m_addRate 36 = .ok (.ireturn, 1) := by decide +kernel
theorem d_m_addRate_37 : decode b_m_addRate 37 = .ok (.aload_n 0, 1) := by decide +kernel
theorem d_m_addRate_38 : decode b_m_addRate 38 = .ok (.invokevirtual 127, 3) := by decide +kernel
theorem d_m_addRate_41 : decode b_m_addRate 41 = .ok (.aload_n 0, 1) := by decide +kernel
theorem d_m_addRate_42 : decode b_m_addRate 42 = .ok (.getfield 7, 3) := by decide +kernel
theorem d_m_addRate_45 : decode b_m_addRate 45 = .ok (.iconst 1, 1) := by decide +kernel
theorem d_m_addRate_46 : decode b_m_addRate 46 = .ok (.iaload, 1) := by decide +kernel
theorem d_m_addRate_47 : decode b_m_addRate 47 = .ok (.istore_n 3, 1) := by decide +kernel
theorem d_m_addRate_48 : decode b_m_addRate 48 = .ok (.aload_n 0, 1) := by decide +kernel
theorem d_m_addRate_49 : decode b_m_addRate 49 = .ok (.getfield 7, 3) := by decide +kernel
theorem d_m_addRate_52 : decode b_m_addRate 52 = .ok (.bipush 10, 2) := by decide +kernel
theorem d_m_addRate_54 : decode b_m_addRate 54 = .ok (.iload_n 3, 1) := by decide +kernel
theorem d_m_addRate_55 : decode b_m_addRate 55 = .ok (.iadd, 1) := by decide +kernel
theorem d_m_addRate_56 : decode b_m_addRate 56 = .ok (.iload_n 1, 1) := by decide +kernel
theorem d_m_addRate_57 : decode b_m_addRate 57 = .ok (.iastore, 1) := by decide +kernel
theorem d_m_addRate_58 : decode b_m_addRate 58 = .ok (.aload_n 0, 1) := by decide +kernel
theorem d_m_addRate_59 : decode b_m_addRate 59 = .ok (.getfield 7, 3) := by decide +kernel
theorem d_m_addRate_62 : decode b_m_addRate 62 = .ok (.bipush 18, 2) := by decide +kernel
theorem d_m_addRate_64 : decode b_m_addRate 64 = .ok (.iload_n 3, 1) := by decide +kernel
theorem d_m_addRate_65 : decode b_m_addRate 65 = .ok (.iadd, 1) := by decide +kernel
theorem d_m_addRate_66 : decode b_m_addRate 66 = .ok (.iload_n 2, 1) := by decide +kernel
theorem d_m_addRate_67 : decode b_m_addRate 67 = .ok (.iastore, 1) := by decide +kernel
theorem d_m_addRate_68 : decode b_m_addRate 68 = .ok (.aload_n 0, 1) := by decide +kernel
theorem d_m_addRate_69 : decode b_m_addRate 69 = .ok (.getfield 7, 3) := by decide +kernel
theorem d_m_addRate_72 : decode b_m_addRate 72 = .ok (.iconst 1, 1) := by decide +kernel
theorem d_m_addRate_73 : decode b_m_addRate 73 = .ok (.dup2, 1) := by decide +kernel
theorem d_m_addRate_74 : decode b_m_addRate 74 = .ok (.iaload, 1) := by decide +kernel
theorem d_m_addRate_75 : decode b_m_addRate 75 = .ok (.iconst 1, 1) := by decide +kernel
theorem d_m_addRate_76 : decode b_m_addRate 76 = .ok (.iadd, 1) := by decide +kernel
theorem d_m_addRate_77 : decode b_m_addRate 77 = .ok (.iastore, 1) := by decide +kernel
theorem d_m_addRate_78 : decode b_m_addRate 78 = .ok (.iconst 0, 1) := by decide +kernel
theorem d_m_addRate_79 : decode b_m_addRate 79 = .ok (.istore 4, 2) := by decide +kernel
theorem d_m_addRate_81 : decode b_m_addRate 81 = .ok (.iload 4, 2) := by decide +kernel
theorem d_m_addRate_83 : decode b_m_addRate 83 = .ok (.aload_n 0, 1) := by decide +kernel
theorem d_m_addRate_84 : decode b_m_addRate 84 = .ok (.getfield 7, 3) := by decide +kernel
theorem d_m_addRate_87 : decode b_m_addRate 87 = .ok (.iconst 2, 1) := by decide +kernel
theorem d_m_addRate_88 : decode b_m_addRate 88 = .ok (.iaload, 1) := by decide +kernel
theorem d_m_addRate_89 : decode b_m_addRate 89 = .ok (.if_icmp .ge 22, 3) := by decide +kernel
theorem d_m_addRate_92 : decode b_m_addRate 92 = .ok (.aload_n 0, 1) := by decide +kernel
theorem d_m_addRate_93 : decode b_m_addRate 93 = .ok (.iload 4, 2) := by decide +kernel
theorem d_m_addRate_95 : decode b_m_addRate 95 = .ok (.iload_n 3, 1) := by decide +kernel
theorem d_m_addRate_96 : decode b_m_addRate 96 = .ok (.invokevirtual 130, 3) := by decide +kernel
theorem d_m_addRate_99 : decode b_m_addRate 99 = .ok (.aload_n 0, 1) := by decide +kernel
theorem d_m_addRate_100 : decode b_m_addRate 100 = .ok (.iload 4, 2) := by decide +kernel
theorem d_m_addRate_102 : decode b_m_addRate 102 = .ok (.invokevirtual 117, 3) := by decide +kernel
theorem d_m_addRate_105 : decode b_m_addRate 105 = .ok (.iinc 4 1, 3) := by decide +kernel
theorem d_m_addRate_108 : decode b_m_addRate 108 = .ok (.goto (-27), 3) := by decide +kernel
theorem d_m_addRate_111 : decode b_m_addRate 111 = .ok (.iload_n 3, 1) := by decide +kernel
theorem d_m_addRate_112 : decode b_m_addRate 112 = .ok (.ireturn, 1) := by decide +kernel
theorem d_m_begins_0 : decode b_m_begins 0 = .ok (.iload_n 1, 1) := by decide +kernel
theorem d_m_begins_1 : decode b_m_begins 1 = .ok (.iload_n 2, 1) := by decide +kernel
theorem d_m_begins_2 : decode b_m_begins 2 = .ok (.invokestatic 57, 3) := by decide +kernel
theorem d_m_begins_5 : decode b_m_begins 5 = .ok (.istore_n 3, 1) := by decide +kernel
theorem d_m_begins_6 : decode b_m_begins 6 = .ok (.aload_n 0, 1) := by decide +kernel
theorem d_m_begins_7 : decode b_m_begins 7 = .ok (.getfield 7, 3) := by decide +kernel
theorem d_m_begins_10 : decode b_m_begins 10 = .ok (.iload_n 3, 1) := by decide +kernel
theorem d_m_begins_11 : decode b_m_begins 11 = .ok (.iconst 0, 1) := by decide +kernel
theorem d_m_begins_12 : decode b_m_begins 12 = .ok (.iadd, 1) := by decide +kernel
theorem d_m_begins_13 : decode b_m_begins 13 = .ok (.iconst 1, 1) := by decide +kernel
theorem d_m_begins_14 : decode b_m_begins 14 = .ok (.iastore, 1) := by decide +kernel
theorem d_m_begins_15 : decode b_m_begins 15 = .ok (.aload_n 0, 1) := by decide +kernel
theorem d_m_begins_16 : decode b_m_begins 16 = .ok (.getfield 7, 3) := by decide +kernel
theorem d_m_begins_19 : decode b_m_begins 19 = .ok (.iload_n 3, 1) := by decide +kernel
theorem d_m_begins_20 : decode b_m_begins 20 = .ok (.iconst 1, 1) := by decide +kernel
theorem d_m_begins_21 : decode b_m_begins 21 = .ok (.iadd, 1) := by decide +kernel
theorem d_m_begins_22 : decode b_m_begins 22 = .ok (.iconst (-1), 1) := by decide +kernel
theorem d_m_begins_23 : decode b_m_begins 23 = .ok (.iastore, 1) := by decide +kernel
theorem d_m_begins_24 : decode b_m_begins 24 = .ok (.aload_n 0, 1) := by decide +kernel
theorem d_m_begins_25 : decode b_m_begins 25 = .ok (.getfield 7, 3) := by decide +kernel
theorem d_m_begins_28 : decode b_m_begins 28 = .ok (.iload_n 3, 1) := by decide +kernel
theorem d_m_begins_29 : decode b_m_begins 29 = .ok (.bipush 7, 2) := by decide +kernel
theorem d_m_begins_31 : decode b_m_begins 31 = .ok (.iadd, 1) := by decide +kernel
theorem d_m_begins_32 : decode b_m_begins 32 = .ok (.sipush 500, 3) := by decide +kernel
theorem d_m_begins_35 : decode b_m_begins 35 = .ok (.iastore, 1) := by decide +kernel
theorem d_m_begins_36 : decode b_m_begins 36 = .ok (.return_, 1) := by decide +kernel
theorem d_m_addStation_0 : decode b_m_addStation 0 = .ok (.aload_n 0, 1) := by decide +kernel
theorem d_m_addStation_1 : decode b_m_addStation 1 = .ok (.getfield 7, 3) := by decide +kernel
theorem d_m_addStation_4 : decode b_m_addStation 4 = .ok (.iconst 2, 1) := by decide +kernel
theorem d_m_addStation_5 : decode b_m_addStation 5 = .ok (.iaload, 1) := by decide +kernel
theorem d_m_addStation_6 : decode b_m_addStation 6 = .ok (.iconst 4, 1) := by decide +kernel
theorem d_m_addStation_7 : decode b_m_addStation 7 = .ok (.if_icmp .ne 6, 3) := by decide +kernel
theorem d_m_addStation_10 : decode b_m_addStation 10 = .ok (.bipush (-3), 2) := by decide +kernel
theorem d_m_addStation_12 : decode b_m_addStation 12 = .ok (.ireturn, 1) := by decide +kernel
theorem d_m_addStation_13 : decode b_m_addStation 13 = .ok (.aload_n 0, 1) := by decide +kernel
theorem d_m_addStation_14 : decode b_m_addStation 14 = .ok (.invokevirtual 127, 3) := by decide +kernel
theorem d_m_addStation_17 : decode b_m_addStation 17 = .ok (.aload_n 0, 1) := by decide +kernel
theorem d_m_addStation_18 : decode b_m_addStation 18 = .ok (.getfield 7, 3) := by decide +kernel
theorem d_m_addStation_21 : decode b_m_addStation 21 = .ok (.iconst 2, 1) := by decide +kernel
theorem d_m_addStation_22 : decode b_m_addStation 22 = .ok (.iaload, 1) := by decide +kernel
theorem d_m_addStation_23 : decode b_m_addStation 23 = .ok (.istore_n 1, 1) := by decide +kernel
theorem d_m_addStation_24 : decode b_m_addStation 24 = .ok (.aload_n 0, 1) := by decide +kernel
theorem d_m_addStation_25 : decode b_m_addStation 25 = .ok (.getfield 7, 3) := by decide +kernel
theorem d_m_addStation_28 : decode b_m_addStation 28 = .ok (.iconst 2, 1) := by decide +kernel
theorem d_m_addStation_29 : decode b_m_addStation 29 = .ok (.dup2, 1) := by decide +kernel
theorem d_m_addStation_30 : decode b_m_addStation 30 = .ok (.iaload, 1) := by decide +kernel
theorem d_m_addStation_31 : decode b_m_addStation 31 = .ok (.iconst 1, 1) := by decide +kernel
theorem d_m_addStation_32 : decode b_m_addStation 32 = .ok (.iadd, 1) := by decide +kernel
theorem d_m_addStation_33 : decode b_m_addStation 33 = .ok (.iastore, 1) := by decide +kernel
theorem d_m_addStation_34 : decode b_m_addStation 34 = .ok (.iconst 0, 1) := by decide +kernel
theorem d_m_addStation_35 : decode b_m_addStation 35 = .ok (.istore_n 2, 1) := by decide +kernel
theorem d_m_addStation_36 : decode b_m_addStation 36 = .ok (.iload_n 2, 1) := by decide +kernel
theorem d_m_addStation_37 : decode b_m_addStation 37 = .ok (.aload_n 0, 1) := by decide +kernel
theorem d_m_addStation_38 : decode b_m_addStation 38 = .ok (.getfield 7, 3) := by decide +kernel
theorem d_m_addStation_41 : decode b_m_addStation 41 = .ok (.iconst 1, 1) := by decide +kernel
theorem d_m_addStation_42 : decode b_m_addStation 42 = .ok (.iaload, 1) := by decide +kernel
theorem d_m_addStation_43 : decode b_m_addStation 43 = .ok (.if_icmp .ge 15, 3) := by decide +kernel
theorem d_m_addStation_46 : decode b_m_addStation 46 = .ok (.aload_n 0, 1) := by decide +kernel
theorem d_m_addStation_47 : decode b_m_addStation 47 = .ok (.iload_n 1, 1) := by decide +kernel
theorem d_m_addStation_48 : decode b_m_addStation 48 = .ok (.iload_n 2, 1) := by decide +kernel
theorem d_m_addStation_49 : decode b_m_addStation 49 = .ok (.invokevirtual 130, 3) := by decide +kernel
theorem d_m_addStation_52 : decode b_m_addStation 52 = .ok (.iinc 2 1, 3) := by decide +kernel
theorem d_m_addStation_55 : decode b_m_addStation 55 = .ok (.goto (-19), 3) := by decide +kernel
theorem d_m_addStation_58 : decode b_m_addStation 58 = .ok (.aload_n 0, 1) := by decide +kernel
theorem d_m_addStation_59 : decode b_m_addStation 59 = .ok (.getfield 7, 3) := by decide +kernel
theorem d_m_addStation_62 : decode b_m_addStation 62 = .ok (.iload_n 1, 1) := by decide +kernel
theorem d_m_addStation_63 : decode b_m_addStation 63 = .ok (.invokestatic 81, 3) := by decide +kernel
theorem d_m_addStation_66 : decode b_m_addStation 66 = .ok (.bipush 17, 2) := by decide +kernel
theorem d_m_addStation_68 : decode b_m_addStation 68 = .ok (.iadd, 1) := by decide +kernel
theorem d_m_addStation_69 : decode b_m_addStation 69 = .ok (.bipush 7, 2) := by decide +kernel
theorem d_m_addStation_71 : decode b_m_addStation 71 = .ok (.iload_n 1, 1) := by decide +kernel
theorem d_m_addStation_72 : decode b_m_addStation 72 = .ok (.imul, 1) := by decide +kernel
theorem d_m_addStation_73 : decode b_m_addStation 73 = .ok (.iconst 1, 1) := by decide +kernel
theorem d_m_addStation_74 : decode b_m_addStation 74 = .ok (.iadd, 1) := by decide +kernel
theorem d_m_addStation_75 : decode b_m_addStation 75 = .ok (.iastore, 1) := by decide +kernel
theorem d_m_addStation_76 : decode b_m_addStation 76 = .ok (.aload_n 0, 1) := by decide +kernel
theorem d_m_addStation_77 : decode b_m_addStation 77 = .ok (.getfield 7, 3) := by decide +kernel
theorem d_m_addStation_80 : decode b_m_addStation 80 = .ok (.iload_n 1, 1) := by decide +kernel
theorem d_m_addStation_81 : decode b_m_addStation 81 = .ok (.invokestatic 81, 3) := by decide +kernel
theorem d_m_addStation_84 : decode b_m_addStation 84 = .ok (.bipush 16, 2) := by decide +kernel
theorem d_m_addStation_86 : decode b_m_addStation 86 = .ok (.iadd, 1) := by decide +kernel
theorem d_m_addStation_87 : decode b_m_addStation 87 = .ok (.aload_n 0, 1) := by decide +kernel
theorem d_m_addStation_88 : decode b_m_addStation 88 = .ok (.invokevirtual 120, 3) := by decide +kernel
theorem d_m_addStation_91 : decode b_m_addStation 91 = .ok (.iastore, 1) := by decide +kernel
theorem d_m_addStation_92 : decode b_m_addStation 92 = .ok (.iconst 0, 1) := by decide +kernel
theorem d_m_addStation_93 : decode b_m_addStation 93 = .ok (.istore_n 2, 1) := by decide +kernel
theorem d_m_addStation_94 : decode b_m_addStation 94 = .ok (.iload_n 2, 1) := by decide +kernel
theorem d_m_addStation_95 : decode b_m_addStation 95 = .ok (.iconst 3, 1) := by decide +kernel
theorem d_m_addStation_96 : decode b_m_addStation 96 = .ok (.if_icmp .ge 25, 3) := by decide +kernel
theorem d_m_addStation_99 : decode b_m_addStation 99 = .ok (.aload_n 0, 1) := by decide +kernel
theorem d_m_addStation_100 : decode b_m_addStation 100 = .ok (.getfield 7, 3) := by decide +kernel
theorem d_m_addStation_103 : decode b_m_addStation 103 = .ok (.iload_n 1, 1) := by decide +kernel
theorem d_m_addStation_104 : decode b_m_addStation 104 = .ok (.invokestatic 81, 3) := by decide +kernel
theorem d_m_addStation_107 : decode b_m_addStation 107 = .ok (.bipush 22, 2) := by decide +kernel
theorem d_m_addStation_109 : decode b_m_addStation 109 = .ok (.iadd, 1) := by decide +kernel
theorem d_m_addStation_110 : decode b_m_addStation 110 = .ok (.iload_n 2, 1) := by decide +kernel
theorem d_m_addStation_111 : decode b_m_addStation 111 = .ok (.iadd, 1) := by decide +kernel
theorem d_m_addStation_112 : decode b_m_addStation 112 = .ok (.bipush (-9), 2) := by decide +kernel
theorem d_m_addStation_114 : decode b_m_addStation 114 = .ok (.iastore, 1) := by decide +kernel
theorem d_m_addStation_115 : decode b_m_addStation 115 = .ok (.iinc 2 1, 3) := by decide +kernel
theorem d_m_addStation_118 : decode b_m_addStation 118 = .ok (.goto (-24), 3) := by decide +kernel
theorem d_m_addStation_121 : decode b_m_addStation 121 = .ok (.aload_n 0, 1) := by decide +kernel
theorem d_m_addStation_122 : decode b_m_addStation 122 = .ok (.iload_n 1, 1) := by decide +kernel
theorem d_m_addStation_123 : decode b_m_addStation 123 = .ok (.invokevirtual 117, 3) := by decide +kernel
theorem d_m_addStation_126 : decode b_m_addStation 126 = .ok (.iload_n 1, 1) := by decide +kernel
theorem d_m_addStation_127 : decode b_m_addStation 127 = .ok (.ireturn, 1) := by decide +kernel
theorem d_m_allow_0 : decode b_m_allow 0 = .ok (.aload_n 0, 1) := by decide +kernel
theorem d_m_allow_1 : decode b_m_allow 1 = .ok (.iload_n 1, 1) := by decide +kernel
theorem d_m_allow_2 : decode b_m_allow 2 = .ok (.iload_n 2, 1) := by decide +kernel
theorem d_m_allow_3 : decode b_m_allow 3 = .ok (.invokevirtual 133, 3) := by decide +kernel
theorem d_m_allow_6 : decode b_m_allow 6 = .ok (.ifCond .ne 5, 3) := by decide +kernel
theorem d_m_allow_9 : decode b_m_allow 9 = .ok (.iconst (-1), 1) := by decide +kernel
theorem d_m_allow_10 : decode b_m_allow 10 = .ok (.ireturn, 1) := by decide +kernel
theorem d_m_allow_11 : decode b_m_allow 11 = .ok (.aload_n 0, 1) := by decide +kernel
theorem d_m_allow_12 : decode b_m_allow 12 = .ok (.invokevirtual 127, 3) := by decide +kernel
theorem d_m_allow_15 : decode b_m_allow 15 = .ok (.aload_n 0, 1) := by decide +kernel
theorem d_m_allow_16 : decode b_m_allow 16 = .ok (.getfield 7, 3) := by decide +kernel
theorem d_m_allow_19 : decode b_m_allow 19 = .ok (.iload_n 1, 1) := by decide +kernel
theorem d_m_allow_20 : decode b_m_allow 20 = .ok (.iload_n 2, 1) := by decide +kernel
theorem d_m_allow_21 : decode b_m_allow 21 = .ok (.invokestatic 57, 3) := by decide +kernel
theorem d_m_allow_24 : decode b_m_allow 24 = .ok (.iconst 0, 1) := by decide +kernel
theorem d_m_allow_25 : decode b_m_allow 25 = .ok (.iadd, 1) := by decide +kernel
theorem d_m_allow_26 : decode b_m_allow 26 = .ok (.iaload, 1) := by decide +kernel
theorem d_m_allow_27 : decode b_m_allow 27 = .ok (.istore 4, 2) := by decide +kernel
theorem d_m_allow_29 : decode b_m_allow 29 = .ok (.aload_n 0, 1) := by decide +kernel
theorem d_m_allow_30 : decode b_m_allow 30 = .ok (.getfield 7, 3) := by decide +kernel
theorem d_m_allow_33 : decode b_m_allow 33 = .ok (.iload_n 1, 1) := by decide +kernel
theorem d_m_allow_34 : decode b_m_allow 34 = .ok (.iload_n 2, 1) := by decide +kernel
theorem d_m_allow_35 : decode b_m_allow 35 = .ok (.invokestatic 57, 3) := by decide +kernel
theorem d_m_allow_38 : decode b_m_allow 38 = .ok (.iconst 0, 1) := by decide +kernel
theorem d_m_allow_39 : decode b_m_allow 39 = .ok (.iadd, 1) := by decide +kernel
theorem d_m_allow_40 : decode b_m_allow 40 = .ok (.iload_n 3, 1) := by decide +kernel
theorem d_m_allow_41 : decode b_m_allow 41 = .ok (.ifCond .eq 7, 3) := by decide +kernel
theorem d_m_allow_44 : decode b_m_allow 44 = .ok (.iconst 1, 1) := by decide +kernel
theorem d_m_allow_45 : decode b_m_allow 45 = .ok (.goto 4, 3) := by decide +kernel
theorem d_m_allow_48 : decode b_m_allow 48 = .ok (.iconst 0, 1) := by decide +kernel
theorem d_m_allow_49 : decode b_m_allow 49 = .ok (.iastore, 1) := by decide +kernel
theorem d_m_allow_50 : decode b_m_allow 50 = .ok (.aload_n 0, 1) := by decide +kernel
theorem d_m_allow_51 : decode b_m_allow 51 = .ok (.iload_n 1, 1) := by decide +kernel
theorem d_m_allow_52 : decode b_m_allow 52 = .ok (.invokevirtual 117, 3) := by decide +kernel
theorem d_m_allow_55 : decode b_m_allow 55 = .ok (.iload 4, 2) := by decide +kernel
theorem d_m_allow_57 : decode b_m_allow 57 = .ok (.ireturn, 1) := by decide +kernel
theorem d_m_sets_0 : decode b_m_sets 0 = .ok (.iload_n 2, 1) := by decide +kernel
theorem d_m_sets_1 : decode b_m_sets 1 = .ok (.iload_n 3, 1) := by decide +kernel
theorem d_m_sets_2 : decode b_m_sets 2 = .ok (.iload 4, 2) := by decide +kernel
theorem d_m_sets_4 : decode b_m_sets 4 = .ok (.invokestatic 31, 3) := by decide +kernel
theorem d_m_sets_7 : decode b_m_sets 7 = .ok (.ifCond .ne 5, 3) := by decide +kernel
theorem d_m_sets_10 : decode b_m_sets 10 = .ok (.iconst (-1), 1) := by decide +kernel
theorem d_m_sets_11 : decode b_m_sets 11 = .ok (.ireturn, 1) := by decide +kernel
theorem d_m_sets_12 : decode b_m_sets 12 = .ok (.aload_n 0, 1) := by decide +kernel
theorem d_m_sets_13 : decode b_m_sets 13 = .ok (.invokevirtual 127, 3) := by decide +kernel
theorem d_m_sets_16 : decode b_m_sets 16 = .ok (.aload_n 0, 1) := by decide +kernel
theorem d_m_sets_17 : decode b_m_sets 17 = .ok (.getfield 7, 3) := by decide +kernel
theorem d_m_sets_20 : decode b_m_sets 20 = .ok (.iload_n 1, 1) := by decide +kernel
theorem d_m_sets_21 : decode b_m_sets 21 = .ok (.iaload, 1) := by decide +kernel
theorem d_m_sets_22 : decode b_m_sets 22 = .ok (.istore 5, 2) := by decide +kernel
theorem d_m_sets_24 : decode b_m_sets 24 = .ok (.aload_n 0, 1) := by decide +kernel
theorem d_m_sets_25 : decode b_m_sets 25 = .ok (.getfield 7, 3) := by decide +kernel
theorem d_m_sets_28 : decode b_m_sets 28 = .ok (.iload_n 1, 1) := by decide +kernel
theorem d_m_sets_29 : decode b_m_sets 29 = .ok (.iload_n 2, 1) := by decide +kernel
theorem d_m_sets_30 : decode b_m_sets 30 = .ok (.iastore, 1) := by decide +kernel
theorem d_m_sets_31 : decode b_m_sets 31 = .ok (.iload 5, 2) := by decide +kernel
theorem d_m_sets_33 : decode b_m_sets 33 = .ok (.ireturn, 1) := by decide +kernel
theorem d_m_setShare_0 : decode b_m_setShare 0 = .ok (.aload_n 0, 1) := by decide +kernel
theorem d_m_setShare_1 : decode b_m_setShare 1 = .ok (.iconst 3, 1) := by decide +kernel
theorem d_m_setShare_2 : decode b_m_setShare 2 = .ok (.iload_n 1, 1) := by decide +kernel
theorem d_m_setShare_3 : decode b_m_setShare 3 = .ok (.iconst 0, 1) := by decide +kernel
theorem d_m_setShare_4 : decode b_m_setShare 4 = .ok (.bipush 50, 2) := by decide +kernel
theorem d_m_setShare_6 : decode b_m_setShare 6 = .ok (.invokevirtual 136, 3) := by decide +kernel
theorem d_m_setShare_9 : decode b_m_setShare 9 = .ok (.ireturn, 1) := by decide +kernel
theorem d_m_setWeight_0 : decode b_m_setWeight 0 = .ok (.aload_n 0, 1) := by decide +kernel
theorem d_m_setWeight_1 : decode b_m_setWeight 1 = .ok (.iconst 4, 1) := by decide +kernel
theorem d_m_setWeight_2 : decode b_m_setWeight 2 = .ok (.iload_n 1, 1) := by decide +kernel
theorem d_m_setWeight_3 : decode b_m_setWeight 3 = .ok (.iconst 1, 1) := by decide +kernel
theorem d_m_setWeight_4 : decode b_m_setWeight 4 = .ok (.bipush 100, 2) := by decide +kernel
theorem d_m_setWeight_6 : decode b_m_setWeight 6 = .ok (.invokevirtual 136, 3) := by decide +kernel
theorem d_m_setWeight_9 : decode b_m_setWeight 9 = .ok (.ireturn, 1) := by decide +kernel
theorem d_m_setInterval_0 : decode b_m_setInterval 0 = .ok (.aload_n 0, 1) := by decide +kernel
theorem d_m_setInterval_1 : decode b_m_setInterval 1 = .ok (.iconst 5, 1) := by decide +kernel
theorem d_m_setInterval_2 : decode b_m_setInterval 2 = .ok (.iload_n 1, 1) := by decide +kernel
theorem d_m_setInterval_3 : decode b_m_setInterval 3 = .ok (.sipush 1000, 3) := by decide +kernel
theorem d_m_setInterval_6 : decode b_m_setInterval 6 = .ok (.ldc 140, 2) := by decide +kernel
theorem d_m_setInterval_8 : decode b_m_setInterval 8 = .ok (.invokevirtual 136, 3) := by decide +kernel
theorem d_m_setInterval_11 : decode b_m_setInterval 11 = .ok (.ireturn, 1) := by decide +kernel
theorem d_m_setBudget_0 : decode b_m_setBudget 0 = .ok (.aload_n 0, 1) := by decide +kernel
theorem d_m_setBudget_1 : decode b_m_setBudget 1 = .ok (.bipush 6, 2) := by decide +kernel
theorem d_m_setBudget_3 : decode b_m_setBudget 3 = .ok (.iload_n 1, 1) := by decide +kernel
theorem d_m_setBudget_4 : decode b_m_setBudget 4 = .ok (.bipush 100, 2) := by decide +kernel
theorem d_m_setBudget_6 : decode b_m_setBudget 6 = .ok (.ldc 26, 2) := by decide +kernel
theorem d_m_setBudget_8 : decode b_m_setBudget 8 = .ok (.invokevirtual 136, 3) := by decide +kernel
theorem d_m_setBudget_11 : decode b_m_setBudget 11 = .ok (.ireturn, 1) := by decide +kernel
theorem d_m_hasAllowed_0 : decode b_m_hasAllowed 0 = .ok (.iconst 0, 1) := by decide +kernel
theorem d_m_hasAllowed_1 : decode b_m_hasAllowed 1 = .ok (.istore_n 2, 1) := by decide +kernel
theorem d_m_hasAllowed_2 : decode b_m_hasAllowed 2 = .ok (.iconst 0, 1) := by decide +kernel
theorem d_m_hasAllowed_3 : decode b_m_hasAllowed 3 = .ok (.istore_n 3, 1) := by decide +kernel
theorem d_m_hasAllowed_4 : decode b_m_hasAllowed 4 = .ok (.iload_n 3, 1) := by decide +kernel
theorem d_m_hasAllowed_5 : decode b_m_hasAllowed 5 = .ok (.aload_n 0, 1) := by decide +kernel
theorem d_m_hasAllowed_6 : decode b_m_hasAllowed 6 = .ok (.getfield 7, 3) := by decide +kernel
theorem d_m_hasAllowed_9 : decode b_m_hasAllowed 9 = .ok (.iconst 1, 1) := by decide +kernel
theorem d_m_hasAllowed_10 : decode b_m_hasAllowed 10 = .ok (.iaload, 1) := by decide +kernel
theorem d_m_hasAllowed_11 : decode b_m_hasAllowed 11 = .ok (.if_icmp .ge 28, 3) := by decide +kernel
theorem d_m_hasAllowed_14 : decode b_m_hasAllowed 14 = .ok (.iload_n 2, 1) := by decide +kernel
theorem d_m_hasAllowed_15 : decode b_m_hasAllowed 15 = .ok (.ifCond .ne 12, 3) := by decide +kernel
theorem d_m_hasAllowed_18 : decode b_m_hasAllowed 18 = .ok (.aload_n 0, 1) := by decide +kernel
theorem d_m_hasAllowed_19 : decode b_m_hasAllowed 19 = .ok (.iload_n 1, 1) := by decide +kernel
theorem d_m_hasAllowed_20 : decode b_m_hasAllowed 20 = .ok (.iload_n 3, 1) := by decide +kernel
theorem d_m_hasAllowed_21 : decode b_m_hasAllowed 21 = .ok (.invokevirtual 70, 3) := by decide +kernel
theorem d_m_hasAllowed_24 : decode b_m_hasAllowed 24 = .ok (.ifCond .eq 7, 3) := by decide +kernel
theorem d_m_hasAllowed_27 : decode b_m_hasAllowed 27 = .ok (.iconst 1, 1) := by decide +kernel
theorem d_m_hasAllowed_28 : decode b_m_hasAllowed 28 = .ok (.goto 4, 3) := by decide +kernel
theorem d_m_hasAllowed_31 : decode b_m_hasAllowed 31 = .ok (.iconst 0, 1) := by decide +kernel
theorem d_m_hasAllowed_32 : decode b_m_hasAllowed 32 = .ok (.istore_n 2, 1) := by decide +kernel
theorem d_m_hasAllowed_33 : decode b_m_hasAllowed 33 = .ok (.iinc 3 1, 3) := by decide +kernel
theorem d_m_hasAllowed_36 : decode b_m_hasAllowed 36 = .ok (.goto (-32), 3) := by decide +kernel
theorem d_m_hasAllowed_39 : decode b_m_hasAllowed 39 = .ok (.iload_n 2, 1) := by decide +kernel
theorem d_m_hasAllowed_40 : decode b_m_hasAllowed 40 = .ok (.ireturn, 1) := by decide +kernel
theorem d_m_freeChain_0 : decode b_m_freeChain 0 = .ok (.bipush (-9), 2) := by decide +kernel
theorem d_m_freeChain_2 : decode b_m_freeChain 2 = .ok (.istore_n 1, 1) := by decide +kernel
theorem d_m_freeChain_3 : decode b_m_freeChain 3 = .ok (.iconst 5, 1) := by decide +kernel
theorem d_m_freeChain_4 : decode b_m_freeChain 4 = .ok (.istore_n 2, 1) := by decide +kernel
theorem d_m_freeChain_5 : decode b_m_freeChain 5 = .ok (.iload_n 2, 1) := by decide +kernel
theorem d_m_freeChain_6 : decode b_m_freeChain 6 = .ok (.ifCond .lt 29, 3) := by decide +kernel
theorem d_m_freeChain_9 : decode b_m_freeChain 9 = .ok (.aload_n 0, 1) := by decide +kernel
theorem d_m_freeChain_10 : decode b_m_freeChain 10 = .ok (.getfield 7, 3) := by decide +kernel
theorem d_m_freeChain_13 : decode b_m_freeChain 13 = .ok (.iload_n 2, 1) := by decide +kernel
theorem d_m_freeChain_14 : decode b_m_freeChain 14 = .ok (.invokestatic 141, 3) := by decide +kernel
theorem d_m_freeChain_17 : decode b_m_freeChain 17 = .ok (.iconst 0, 1) := by decide +kernel
theorem d_m_freeChain_18 : decode b_m_freeChain 18 = .ok (.iadd, 1) := by decide +kernel
theorem d_m_freeChain_19 : decode b_m_freeChain 19 = .ok (.iaload, 1) := by decide +kernel
theorem d_m_freeChain_20 : decode b_m_freeChain 20 = .ok (.ifCond .ne 7, 3) := by decide +kernel
theorem d_m_freeChain_23 : decode b_m_freeChain 23 = .ok (.iload_n 2, 1) := by decide +kernel
theorem d_m_freeChain_24 : decode b_m_freeChain 24 = .ok (.goto 4, 3) := by decide +kernel
theorem d_m_freeChain_27 : decode b_m_freeChain 27 = .ok (.iload_n 1, 1) := by decide +kernel
theorem d_m_freeChain_28 : decode b_m_freeChain 28 = .ok (.istore_n 1, 1) := by decide +kernel
theorem d_m_freeChain_29 : decode b_m_freeChain 29 = .ok (.iinc 2 (-1), 3) := by decide +kernel
theorem d_m_freeChain_32 : decode b_m_freeChain 32 = .ok (.goto (-27), 3) := by decide +kernel
theorem d_m_freeChain_35 : decode b_m_freeChain 35 = .ok (.iload_n 1, 1) := by decide +kernel
theorem d_m_freeChain_36 : decode b_m_freeChain 36 = .ok (.ireturn, 1) := by decide +kernel
theorem d_m_entry_0 : decode b_m_entry 0 = .ok (.aload_n 0, 1) := by decide +kernel
theorem d_m_entry_1 : decode b_m_entry 1 = .ok (.getfield 7, 3) := by decide +kernel
theorem d_m_entry_4 : decode b_m_entry 4 = .ok (.iload_n 1, 1) := by decide +kernel
theorem d_m_entry_5 : decode b_m_entry 5 = .ok (.invokestatic 141, 3) := by decide +kernel
theorem d_m_entry_8 : decode b_m_entry 8 = .ok (.iconst 5, 1) := by decide +kernel
theorem d_m_entry_9 : decode b_m_entry 9 = .ok (.iadd, 1) := by decide +kernel
theorem d_m_entry_10 : decode b_m_entry 10 = .ok (.iload_n 2, 1) := by decide +kernel
theorem d_m_entry_11 : decode b_m_entry 11 = .ok (.iadd, 1) := by decide +kernel
theorem d_m_entry_12 : decode b_m_entry 12 = .ok (.iload_n 3, 1) := by decide +kernel
theorem d_m_entry_13 : decode b_m_entry 13 = .ok (.iastore, 1) := by decide +kernel
theorem d_m_entry_14 : decode b_m_entry 14 = .ok (.aload_n 0, 1) := by decide +kernel
theorem d_m_entry_15 : decode b_m_entry 15 = .ok (.getfield 7, 3) := by decide +kernel
theorem d_m_entry_18 : decode b_m_entry 18 = .ok (.iload_n 1, 1) := by decide +kernel
theorem d_m_entry_19 : decode b_m_entry 19 = .ok (.invokestatic 141, 3) := by decide +kernel
theorem d_m_entry_22 : decode b_m_entry 22 = .ok (.bipush 9, 2) := by decide +kernel
theorem d_m_entry_24 : decode b_m_entry 24 = .ok (.iadd, 1) := by decide +kernel
theorem d_m_entry_25 : decode b_m_entry 25 = .ok (.iload_n 2, 1) := by decide +kernel
theorem d_m_entry_26 : decode b_m_entry 26 = .ok (.iadd, 1) := by decide +kernel
theorem d_m_entry_27 : decode b_m_entry 27 = .ok (.iload 4, 2) := by decide +kernel
theorem d_m_entry_29 : decode b_m_entry 29 = .ok (.iastore, 1) := by decide +kernel
theorem d_m_entry_30 : decode b_m_entry 30 = .ok (.return_, 1) := by decide +kernel
theorem d_m_fullEntry_0 : decode b_m_fullEntry 0 = .ok (.aload_n 0, 1) := by decide +kernel
theorem d_m_fullEntry_1 : decode b_m_fullEntry 1 = .ok (.iload_n 1, 1) := by decide +kernel
theorem d_m_fullEntry_2 : decode b_m_fullEntry 2 = .ok (.iload_n 2, 1) := by decide +kernel
theorem d_m_fullEntry_3 : decode b_m_fullEntry 3 = .ok (.iload_n 3, 1) := by decide +kernel
theorem d_m_fullEntry_4 : decode b_m_fullEntry 4 = .ok (.aload_n 0, 1) := by decide +kernel
theorem d_m_fullEntry_5 : decode b_m_fullEntry 5 = .ok (.iload_n 3, 1) := by decide +kernel
theorem d_m_fullEntry_6 : decode b_m_fullEntry 6 = .ok (.aload_n 0, 1) := by decide +kernel
theorem d_m_fullEntry_7 : decode b_m_fullEntry 7 = .ok (.getfield 7, 3) := by decide +kernel
theorem d_m_fullEntry_10 : decode b_m_fullEntry 10 = .ok (.iload_n 1, 1) := by decide +kernel
theorem d_m_fullEntry_11 : decode b_m_fullEntry 11 = .ok (.invokestatic 141, 3) := by decide +kernel
theorem d_m_fullEntry_14 : decode b_m_fullEntry 14 = .ok (.iconst 2, 1) := by decide +kernel
theorem d_m_fullEntry_15 : decode b_m_fullEntry 15 = .ok (.iadd, 1) := by decide +kernel
theorem d_m_fullEntry_16 : decode b_m_fullEntry 16 = .ok (.iaload, 1) := by decide +kernel
theorem d_m_fullEntry_17 : decode b_m_fullEntry 17 = .ok (.invokevirtual 144, 3) := by decide +kernel
theorem d_m_fullEntry_20 : decode b_m_fullEntry 20 = .ok (.invokevirtual 147, 3) := by decide +kernel
theorem d_m_fullEntry_23 : decode b_m_fullEntry 23 = .ok (.return_, 1) := by decide +kernel
theorem d_m_roleOf_0 : decode b_m_roleOf 0 = .ok (.aload_n 0, 1) := by decide +kernel
theorem d_m_roleOf_1 : decode b_m_roleOf 1 = .ok (.getfield 7, 3) := by decide +kernel
theorem d_m_roleOf_4 : decode b_m_roleOf 4 = .ok (.iload_n 1, 1) := by decide +kernel
theorem d_m_roleOf_5 : decode b_m_roleOf 5 = .ok (.invokestatic 81, 3) := by decide +kernel
theorem d_m_roleOf_8 : decode b_m_roleOf 8 = .ok (.bipush 18, 2) := by decide +kernel
theorem d_m_roleOf_10 : decode b_m_roleOf 10 = .ok (.iadd, 1) := by decide +kernel
theorem d_m_roleOf_11 : decode b_m_roleOf 11 = .ok (.iload_n 2, 1) := by decide +kernel
theorem d_m_roleOf_12 : decode b_m_roleOf 12 = .ok (.iadd, 1) := by decide +kernel
theorem d_m_roleOf_13 : decode b_m_roleOf 13 = .ok (.iaload, 1) := by decide +kernel
theorem d_m_roleOf_14 : decode b_m_roleOf 14 = .ok (.ireturn, 1) := by decide +kernel
theorem d_m_causeOf_0 : decode b_m_causeOf 0 = .ok (.aload_n 0, 1) := by decide +kernel
theorem d_m_causeOf_1 : decode b_m_causeOf 1 = .ok (.iload_n 1, 1) := by decide +kernel
theorem d_m_causeOf_2 : decode b_m_causeOf 2 = .ok (.iload_n 2, 1) := by decide +kernel
theorem d_m_causeOf_3 : decode b_m_causeOf 3 = .ok (.invokevirtual 70, 3) := by decide +kernel
theorem d_m_causeOf_6 : decode b_m_causeOf 6 = .ok (.ifCond .ne 6, 3) := by decide +kernel
theorem d_m_causeOf_9 : decode b_m_causeOf 9 = .ok (.bipush 11, 2) := by decide +kernel
theorem d_m_causeOf_11 : decode b_m_causeOf 11 = .ok (.ireturn, 1) := by decide +kernel
theorem d_m_causeOf_12 : decode b_m_causeOf 12 = .ok (.iload_n 2, 1) := by decide +kernel
theorem d_m_causeOf_13 : decode b_m_causeOf 13 = .ok (.aload_n 0, 1) := by decide +kernel
theorem d_m_causeOf_14 : decode b_m_causeOf 14 = .ok (.iload_n 1, 1) := by decide +kernel
theorem d_m_causeOf_15 : decode b_m_causeOf 15 = .ok (.iconst 0, 1) := by decide +kernel
theorem d_m_causeOf_16 : decode b_m_causeOf 16 = .ok (.invokevirtual 151, 3) := by decide +kernel
theorem d_m_causeOf_19 : decode b_m_causeOf 19 = .ok (.if_icmp .eq 23, 3) := by decide +kernel
theorem d_m_causeOf_22 : decode b_m_causeOf 22 = .ok (.iload_n 2, 1) := by decide +kernel
theorem d_m_causeOf_23 : decode b_m_causeOf 23 = .ok (.aload_n 0, 1) := by decide +kernel
theorem d_m_causeOf_24 : decode b_m_causeOf 24 = .ok (.iload_n 1, 1) := by decide +kernel
theorem d_m_causeOf_25 : decode b_m_causeOf 25 = .ok (.iconst 1, 1) := by decide +kernel
theorem d_m_causeOf_26 : decode b_m_causeOf 26 = .ok (.invokevirtual 151, 3) := by decide +kernel
theorem d_m_causeOf_29 : decode b_m_causeOf 29 = .ok (.if_icmp .eq 13, 3) := by decide +kernel
theorem d_m_causeOf_32 : decode b_m_causeOf 32 = .ok (.iload_n 2, 1) := by decide +kernel
theorem d_m_causeOf_33 : decode b_m_causeOf 33 = .ok (.aload_n 0, 1) := by decide +kernel
theorem d_m_causeOf_34 : decode b_m_causeOf 34 = .ok (.iload_n 1, 1) := by decide +kernel
theorem d_m_causeOf_35 : decode b_m_causeOf 35 = .ok (.iconst 2, 1) := by decide +kernel
theorem d_m_causeOf_36 : decode b_m_causeOf 36 = .ok (.invokevirtual 151, 3) := by decide +kernel
theorem d_m_causeOf_39 : decode b_m_causeOf 39 = .ok (.if_icmp .ne 6, 3) := by decide +kernel
theorem d_m_causeOf_42 : decode b_m_causeOf 42 = .ok (.bipush 12, 2) := by decide +kernel
theorem d_m_causeOf_44 : decode b_m_causeOf 44 = .ok (.ireturn, 1) := by decide +kernel
theorem d_m_causeOf_45 : decode b_m_causeOf 45 = .ok (.aload_n 0, 1) := by decide +kernel
theorem d_m_causeOf_46 : decode b_m_causeOf 46 = .ok (.iload_n 1, 1) := by decide +kernel
theorem d_m_causeOf_47 : decode b_m_causeOf 47 = .ok (.iload_n 2, 1) := by decide +kernel
theorem d_m_causeOf_48 : decode b_m_causeOf 48 = .ok (.invokevirtual 60, 3) := by decide +kernel
theorem d_m_causeOf_51 : decode b_m_causeOf 51 = .ok (.ldc 77, 2) := by decide +kernel
theorem d_m_causeOf_53 : decode b_m_causeOf 53 = .ok (.if_icmp .lt 6, 3) := by decide +kernel
theorem d_m_causeOf_56 : decode b_m_causeOf 56 = .ok (.bipush 13, 2) := by decide +kernel
theorem d_m_causeOf_58 : decode b_m_causeOf 58 = .ok (.ireturn, 1) := by decide +kernel
theorem d_m_causeOf_59 : decode b_m_causeOf 59 = .ok (.aload_n 0, 1) := by decide +kernel
theorem d_m_causeOf_60 : decode b_m_causeOf 60 = .ok (.iload_n 2, 1) := by decide +kernel
theorem d_m_causeOf_61 : decode b_m_causeOf 61 = .ok (.invokevirtual 64, 3) := by decide +kernel
theorem d_m_causeOf_64 : decode b_m_causeOf 64 = .ok (.aload_n 0, 1) := by decide +kernel
theorem d_m_causeOf_65 : decode b_m_causeOf 65 = .ok (.aload_n 0, 1) := by decide +kernel
theorem d_m_causeOf_66 : decode b_m_causeOf 66 = .ok (.iload_n 1, 1) := by decide +kernel
theorem d_m_causeOf_67 : decode b_m_causeOf 67 = .ok (.iconst 2, 1) := by decide +kernel
theorem d_m_causeOf_68 : decode b_m_causeOf 68 = .ok (.invokevirtual 151, 3) := by decide +kernel
theorem d_m_causeOf_71 : decode b_m_causeOf 71 = .ok (.invokevirtual 64, 3) := by decide +kernel
theorem d_m_causeOf_74 : decode b_m_causeOf 74 = .ok (.if_icmp .le 23, 3) := by decide +kernel
theorem d_m_causeOf_77 : decode b_m_causeOf 77 = .ok (.aload_n 0, 1) := by decide +kernel
theorem d_m_causeOf_78 : decode b_m_causeOf 78 = .ok (.getfield 7, 3) := by decide +kernel
theorem d_m_causeOf_81 : decode b_m_causeOf 81 = .ok (.iload_n 1, 1) := by decide +kernel
theorem d_m_causeOf_82 : decode b_m_causeOf 82 = .ok (.iload_n 2, 1) := by decide +kernel
theorem d_m_causeOf_83 : decode b_m_causeOf 83 = .ok (.invokestatic 57, 3) := by decide +kernel
theorem d_m_causeOf_86 : decode b_m_causeOf 86 = .ok (.iconst 2, 1) := by decide +kernel
theorem d_m_causeOf_87 : decode b_m_causeOf 87 = .ok (.iadd, 1) := by decide +kernel
theorem d_m_causeOf_88 : decode b_m_causeOf 88 = .ok (.iaload, 1) := by decide +kernel
theorem d_m_causeOf_89 : decode b_m_causeOf 89 = .ok (.ifCond .le 8, 3) := by decide +kernel
theorem d_m_causeOf_92 : decode b_m_causeOf 92 = .ok (.bipush 14, 2) := by decide +kernel
theorem d_m_causeOf_94 : decode b_m_causeOf 94 = .ok (.goto 4, 3) := by decide +kernel
theorem d_m_causeOf_97 : decode b_m_causeOf 97 = .ok (.iconst 0, 1) := by decide +kernel
theorem d_m_causeOf_98 : decode b_m_causeOf 98 = .ok (.ireturn, 1) := by decide +kernel
theorem d_m_refuse_0 : decode b_m_refuse 0 = .ok (.aload_n 0, 1) := by decide +kernel
theorem d_m_refuse_1 : decode b_m_refuse 1 = .ok (.getfield 7, 3) := by decide +kernel
theorem d_m_refuse_4 : decode b_m_refuse 4 = .ok (.iload_n 1, 1) := by decide +kernel
theorem d_m_refuse_5 : decode b_m_refuse 5 = .ok (.invokestatic 81, 3) := by decide +kernel
theorem d_m_refuse_8 : decode b_m_refuse 8 = .ok (.bipush 22, 2) := by decide +kernel
theorem d_m_refuse_10 : decode b_m_refuse 10 = .ok (.iadd, 1) := by decide +kernel
theorem d_m_refuse_11 : decode b_m_refuse 11 = .ok (.iload_n 2, 1) := by decide +kernel
theorem d_m_refuse_12 : decode b_m_refuse 12 = .ok (.iastore, 1) := by decide +kernel
theorem d_m_refuse_13 : decode b_m_refuse 13 = .ok (.aload_n 0, 1) := by decide +kernel
theorem d_m_refuse_14 : decode b_m_refuse 14 = .ok (.getfield 7, 3) := by decide +kernel
theorem d_m_refuse_17 : decode b_m_refuse 17 = .ok (.iload_n 1, 1) := by decide +kernel
theorem d_m_refuse_18 : decode b_m_refuse 18 = .ok (.invokestatic 81, 3) := by decide +kernel
theorem d_m_refuse_21 : decode b_m_refuse 21 = .ok (.bipush 22, 2) := by decide +kernel
theorem d_m_refuse_23 : decode b_m_refuse 23 = .ok (.iadd, 1) := by decide +kernel
theorem d_m_refuse_24 : decode b_m_refuse 24 = .ok (.iconst 1, 1) := by decide +kernel
theorem d_m_refuse_25 : decode b_m_refuse 25 = .ok (.iadd, 1) := by decide +kernel
theorem d_m_refuse_26 : decode b_m_refuse 26 = .ok (.iload_n 3, 1) := by decide +kernel
theorem d_m_refuse_27 : decode b_m_refuse 27 = .ok (.iastore, 1) := by decide +kernel
theorem d_m_refuse_28 : decode b_m_refuse 28 = .ok (.aload_n 0, 1) := by decide +kernel
theorem d_m_refuse_29 : decode b_m_refuse 29 = .ok (.getfield 7, 3) := by decide +kernel
theorem d_m_refuse_32 : decode b_m_refuse 32 = .ok (.iload_n 1, 1) := by decide +kernel
theorem d_m_refuse_33 : decode b_m_refuse 33 = .ok (.invokestatic 81, 3) := by decide +kernel
theorem d_m_refuse_36 : decode b_m_refuse 36 = .ok (.bipush 22, 2) := by decide +kernel
theorem d_m_refuse_38 : decode b_m_refuse 38 = .ok (.iadd, 1) := by decide +kernel
theorem d_m_refuse_39 : decode b_m_refuse 39 = .ok (.iconst 2, 1) := by decide +kernel
theorem d_m_refuse_40 : decode b_m_refuse 40 = .ok (.iadd, 1) := by decide +kernel
theorem d_m_refuse_41 : decode b_m_refuse 41 = .ok (.iload 4, 2) := by decide +kernel
theorem d_m_refuse_43 : decode b_m_refuse 43 = .ok (.iastore, 1) := by decide +kernel
theorem d_m_refuse_44 : decode b_m_refuse 44 = .ok (.return_, 1) := by decide +kernel
theorem d_m_sampledBy_0 : decode b_m_sampledBy 0 = .ok (.aload_n 0, 1) := by decide +kernel
theorem d_m_sampledBy_1 : decode b_m_sampledBy 1 = .ok (.iload_n 1, 1) := by decide +kernel
theorem d_m_sampledBy_2 : decode b_m_sampledBy 2 = .ok (.bipush (-9), 2) := by decide +kernel
theorem d_m_sampledBy_4 : decode b_m_sampledBy 4 = .ok (.bipush (-9), 2) := by decide +kernel
theorem d_m_sampledBy_6 : decode b_m_sampledBy 6 = .ok (.bipush (-9), 2) := by decide +kernel
theorem d_m_sampledBy_8 : decode b_m_sampledBy 8 = .ok (.invokevirtual 154, 3) := by decide +kernel
theorem d_m_sampledBy_11 : decode b_m_sampledBy 11 = .ok (.aload_n 0, 1) := by decide +kernel
theorem d_m_sampledBy_12 : decode b_m_sampledBy 12 = .ok (.getfield 7, 3) := by decide +kernel
theorem d_m_sampledBy_15 : decode b_m_sampledBy 15 = .ok (.iload_n 1, 1) := by decide +kernel
theorem d_m_sampledBy_16 : decode b_m_sampledBy 16 = .ok (.invokestatic 81, 3) := by decide +kernel
theorem d_m_sampledBy_19 : decode b_m_sampledBy 19 = .ok (.iconst 1, 1) := by decide +kernel
theorem d_m_sampledBy_20 : decode b_m_sampledBy 20 = .ok (.iadd, 1) := by decide +kernel
theorem d_m_sampledBy_21 : decode b_m_sampledBy 21 = .ok (.iaload, 1) := by decide +kernel
theorem d_m_sampledBy_22 : decode b_m_sampledBy 22 = .ok (.iconst 1, 1) := by decide +kernel
theorem d_m_sampledBy_23 : decode b_m_sampledBy 23 = .ok (.iadd, 1) := by decide +kernel
theorem d_m_sampledBy_24 : decode b_m_sampledBy 24 = .ok (.bipush 100, 2) := by decide +kernel
theorem d_m_sampledBy_26 : decode b_m_sampledBy 26 = .ok (.imul, 1) := by decide +kernel
theorem d_m_sampledBy_27 : decode b_m_sampledBy 27 = .ok (.aload_n 0, 1) := by decide +kernel
theorem d_m_sampledBy_28 : decode b_m_sampledBy 28 = .ok (.getfield 7, 3) := by decide +kernel
theorem d_m_sampledBy_31 : decode b_m_sampledBy 31 = .ok (.iload_n 1, 1) := by decide +kernel
theorem d_m_sampledBy_32 : decode b_m_sampledBy 32 = .ok (.invokestatic 81, 3) := by decide +kernel
theorem d_m_sampledBy_35 : decode b_m_sampledBy 35 = .ok (.iconst 0, 1) := by decide +kernel
theorem d_m_sampledBy_36 : decode b_m_sampledBy 36 = .ok (.iadd, 1) := by decide +kernel
theorem d_m_sampledBy_37 : decode b_m_sampledBy 37 = .ok (.iaload, 1) := by decide +kernel
theorem d_m_sampledBy_38 : decode b_m_sampledBy 38 = .ok (.aload_n 0, 1) := by decide +kernel
theorem d_m_sampledBy_39 : decode b_m_sampledBy 39 = .ok (.getfield 7, 3) := by decide +kernel
theorem d_m_sampledBy_42 : decode b_m_sampledBy 42 = .ok (.iconst 3, 1) := by decide +kernel
theorem d_m_sampledBy_43 : decode b_m_sampledBy 43 = .ok (.iaload, 1) := by decide +kernel
theorem d_m_sampledBy_44 : decode b_m_sampledBy 44 = .ok (.imul, 1) := by decide +kernel
theorem d_m_sampledBy_45 : decode b_m_sampledBy 45 = .ok (.if_icmp .le 16, 3) := by decide +kernel
theorem d_m_sampledBy_48 : decode b_m_sampledBy 48 = .ok (.aload_n 0, 1) := by decide +kernel
theorem d_m_sampledBy_49 : decode b_m_sampledBy 49 = .ok (.iload_n 1, 1) := by decide +kernel
theorem d_m_sampledBy_50 : decode b_m_sampledBy 50 = .ok (.iconst 1, 1) := by decide +kernel
theorem d_m_sampledBy_51 : decode b_m_sampledBy 51 = .ok (.bipush (-9), 2) := by decide +kernel
theorem d_m_sampledBy_53 : decode b_m_sampledBy 53 = .ok (.bipush (-9), 2) := by decide +kernel
theorem d_m_sampledBy_55 : decode b_m_sampledBy 55 = .ok (.invokevirtual 154, 3) := by decide +kernel
theorem d_m_sampledBy_58 : decode b_m_sampledBy 58 = .ok (.bipush (-9), 2) := by decide +kernel
theorem d_m_sampledBy_60 : decode b_m_sampledBy 60 = .ok (.ireturn, 1) := by decide +kernel
theorem d_m_sampledBy_61 : decode b_m_sampledBy 61 = .ok (.aload_n 0, 1) := by decide +kernel
theorem d_m_sampledBy_62 : decode b_m_sampledBy 62 = .ok (.getfield 7, 3) := by decide +kernel
theorem d_m_sampledBy_65 : decode b_m_sampledBy 65 = .ok (.iload_n 1, 1) := by decide +kernel
theorem d_m_sampledBy_66 : decode b_m_sampledBy 66 = .ok (.invokestatic 81, 3) := by decide +kernel
theorem d_m_sampledBy_69 : decode b_m_sampledBy 69 = .ok (.bipush 17, 2) := by decide +kernel
theorem d_m_sampledBy_71 : decode b_m_sampledBy 71 = .ok (.iadd, 1) := by decide +kernel
theorem d_m_sampledBy_72 : decode b_m_sampledBy 72 = .ok (.ldc 157, 2) := by decide +kernel
theorem d_m_sampledBy_74 : decode b_m_sampledBy 74 = .ok (.aload_n 0, 1) := by decide +kernel
theorem d_m_sampledBy_75 : decode b_m_sampledBy 75 = .ok (.getfield 7, 3) := by decide +kernel
theorem d_m_sampledBy_78 : decode b_m_sampledBy 78 = .ok (.iload_n 1, 1) := by decide +kernel
theorem d_m_sampledBy_79 : decode b_m_sampledBy 79 = .ok (.invokestatic 81, 3) := by decide +kernel
theorem d_m_sampledBy_82 : decode b_m_sampledBy 82 = .ok (.bipush 17, 2) := by decide +kernel
theorem d_m_sampledBy_84 : decode b_m_sampledBy 84 = .ok (.iadd, 1) := by decide +kernel
theorem d_m_sampledBy_85 : decode b_m_sampledBy 85 = .ok (.iaload, 1) := by decide +kernel
theorem d_m_sampledBy_86 : decode b_m_sampledBy 86 = .ok (.imul, 1) := by decide +kernel
theorem d_m_sampledBy_87 : decode b_m_sampledBy 87 = .ok (.sipush 12345, 3) := by decide +kernel
theorem d_m_sampledBy_90 : decode b_m_sampledBy 90 = .ok (.iadd, 1) := by decide +kernel
theorem d_m_sampledBy_91 : decode b_m_sampledBy 91 = .ok (.iastore, 1) := by decide +kernel
theorem d_m_sampledBy_92 : decode b_m_sampledBy 92 = .ok (.aload_n 0, 1) := by decide +kernel
theorem d_m_sampledBy_93 : decode b_m_sampledBy 93 = .ok (.getfield 7, 3) := by decide +kernel
theorem d_m_sampledBy_96 : decode b_m_sampledBy 96 = .ok (.iload_n 1, 1) := by decide +kernel
theorem d_m_sampledBy_97 : decode b_m_sampledBy 97 = .ok (.invokestatic 81, 3) := by decide +kernel
theorem d_m_sampledBy_100 : decode b_m_sampledBy 100 = .ok (.bipush 17, 2) := by decide +kernel
theorem d_m_sampledBy_102 : decode b_m_sampledBy 102 = .ok (.iadd, 1) := by decide +kernel
theorem d_m_sampledBy_103 : decode b_m_sampledBy 103 = .ok (.iaload, 1) := by decide +kernel
theorem d_m_sampledBy_104 : decode b_m_sampledBy 104 = .ok (.bipush 16, 2) := by decide +kernel
theorem d_m_sampledBy_106 : decode b_m_sampledBy 106 = .ok (.iushr, 1) := by decide +kernel
theorem d_m_sampledBy_107 : decode b_m_sampledBy 107 = .ok (.aload_n 0, 1) := by decide +kernel
theorem d_m_sampledBy_108 : decode b_m_sampledBy 108 = .ok (.getfield 7, 3) := by decide +kernel
theorem d_m_sampledBy_111 : decode b_m_sampledBy 111 = .ok (.iconst 1, 1) := by decide +kernel
theorem d_m_sampledBy_112 : decode b_m_sampledBy 112 = .ok (.iaload, 1) := by decide +kernel
theorem d_m_sampledBy_113 : decode b_m_sampledBy 113 = .ok (.irem, 1) := by decide +kernel
theorem d_m_sampledBy_114 : decode b_m_sampledBy 114 = .ok (.istore_n 2, 1) := by decide +kernel
theorem d_m_sampledBy_115 : decode b_m_sampledBy 115 = .ok (.aload_n 0, 1) := by decide +kernel
theorem d_m_sampledBy_116 : decode b_m_sampledBy 116 = .ok (.iload_n 1, 1) := by decide +kernel
theorem d_m_sampledBy_117 : decode b_m_sampledBy 117 = .ok (.iload_n 2, 1) := by decide +kernel
theorem d_m_sampledBy_118 : decode b_m_sampledBy 118 = .ok (.invokevirtual 158, 3) := by decide +kernel
theorem d_m_sampledBy_121 : decode b_m_sampledBy 121 = .ok (.istore_n 3, 1) := by decide +kernel
theorem d_m_sampledBy_122 : decode b_m_sampledBy 122 = .ok (.iload_n 3, 1) := by decide +kernel
theorem d_m_sampledBy_123 : decode b_m_sampledBy 123 = .ok (.ifCond .ne 5, 3) := by decide +kernel
theorem d_m_sampledBy_126 : decode b_m_sampledBy 126 = .ok (.iload_n 2, 1) := by decide +kernel
theorem d_m_sampledBy_127 : decode b_m_sampledBy 127 = .ok (.ireturn, 1) := by decide +kernel
theorem d_m_sampledBy_128 : decode b_m_sampledBy 128 = .ok (.iload_n 2, 1) := by decide +kernel
theorem d_m_sampledBy_129 : decode b_m_sampledBy 129 = .ok (.aload_n 0, 1) := by decide +kernel
theorem d_m_sampledBy_130 : decode b_m_sampledBy 130 = .ok (.iload_n 1, 1) := by decide +kernel
theorem d_m_sampledBy_131 : decode b_m_sampledBy 131 = .ok (.iconst 0, 1) := by decide +kernel
theorem d_m_sampledBy_132 : decode b_m_sampledBy 132 = .ok (.invokevirtual 151, 3) := by decide +kernel
theorem d_m_sampledBy_135 : decode b_m_sampledBy 135 = .ok (.if_icmp .ne 8, 3) := by decide +kernel
theorem d_m_sampledBy_138 : decode b_m_sampledBy 138 = .ok (.bipush 21, 2) := by decide +kernel
theorem d_m_sampledBy_140 : decode b_m_sampledBy 140 = .ok (.goto 20, 3) := by decide +kernel
theorem d_m_sampledBy_143 : decode b_m_sampledBy 143 = .ok (.iload_n 2, 1) := by decide +kernel
theorem d_m_sampledBy_144 : decode b_m_sampledBy 144 = .ok (.aload_n 0, 1) := by decide +kernel
theorem d_m_sampledBy_145 : decode b_m_sampledBy 145 = .ok (.iload_n 1, 1) := by decide +kernel
theorem d_m_sampledBy_146 : decode b_m_sampledBy 146 = .ok (.iconst 1, 1) := by decide +kernel
theorem d_m_sampledBy_147 : decode b_m_sampledBy 147 = .ok (.invokevirtual 151, 3) := by decide +kernel
theorem d_m_sampledBy_150 : decode b_m_sampledBy 150 = .ok (.if_icmp .ne 8, 3) := by decide +kernel
theorem d_m_sampledBy_153 : decode b_m_sampledBy 153 = .ok (.bipush 22, 2) := by decide +kernel
theorem d_m_sampledBy_155 : decode b_m_sampledBy 155 = .ok (.goto 5, 3) := by decide +kernel
theorem d_m_sampledBy_158 : decode b_m_sampledBy 158 = .ok (.bipush 23, 2) := by decide +kernel
theorem d_m_sampledBy_160 : decode b_m_sampledBy 160 = .ok (.istore 4, 2) := by decide +kernel
theorem d_m_sampledBy_162 : decode b_m_sampledBy 162 = .ok (.aload_n 0, 1) := by decide +kernel
theorem d_m_sampledBy_163 : decode b_m_sampledBy 163 = .ok (.iload_n 1, 1) := by decide +kernel
theorem d_m_sampledBy_164 : decode b_m_sampledBy 164 = .ok (.iconst 2, 1) := by decide +kernel
theorem d_m_sampledBy_165 : decode b_m_sampledBy 165 = .ok (.iload_n 3, 1) := by decide +kernel
theorem d_m_sampledBy_166 : decode b_m_sampledBy 166 = .ok (.iload_n 3, 1) := by decide +kernel
theorem d_m_sampledBy_167 : decode b_m_sampledBy 167 = .ok (.bipush 12, 2) := by decide +kernel
theorem d_m_sampledBy_169 : decode b_m_sampledBy 169 = .ok (.if_icmp .ne 8, 3) := by decide +kernel
theorem d_m_sampledBy_172 : decode b_m_sampledBy 172 = .ok (.iload 4, 2) := by decide +kernel
theorem d_m_sampledBy_174 : decode b_m_sampledBy 174 = .ok (.goto 5, 3) := by decide +kernel
theorem d_m_sampledBy_177 : decode b_m_sampledBy 177 = .ok (.bipush (-9), 2) := by decide +kernel
theorem d_m_sampledBy_179 : decode b_m_sampledBy 179 = .ok (.invokevirtual 154, 3) := by decide +kernel
theorem d_m_sampledBy_182 : decode b_m_sampledBy 182 = .ok (.bipush (-9), 2) := by decide +kernel
theorem d_m_sampledBy_184 : decode b_m_sampledBy 184 = .ok (.ireturn, 1) := by decide +kernel
theorem d_m_layFallback_0 : decode b_m_layFallback 0 = .ok (.aload_n 0, 1) := by decide +kernel
theorem d_m_layFallback_1 : decode b_m_layFallback 1 = .ok (.getfield 7, 3) := by decide +kernel
theorem d_m_layFallback_4 : decode b_m_layFallback 4 = .ok (.iload_n 1, 1) := by decide +kernel
theorem d_m_layFallback_5 : decode b_m_layFallback 5 = .ok (.invokestatic 141, 3) := by decide +kernel
theorem d_m_layFallback_8 : decode b_m_layFallback 8 = .ok (.iconst 3, 1) := by decide +kernel
theorem d_m_layFallback_9 : decode b_m_layFallback 9 = .ok (.iadd, 1) := by decide +kernel
theorem d_m_layFallback_10 : decode b_m_layFallback 10 = .ok (.iconst 2, 1) := by decide +kernel
theorem d_m_layFallback_11 : decode b_m_layFallback 11 = .ok (.iastore, 1) := by decide +kernel
theorem d_m_layFallback_12 : decode b_m_layFallback 12 = .ok (.aload_n 0, 1) := by decide +kernel
theorem d_m_layFallback_13 : decode b_m_layFallback 13 = .ok (.iload_n 1, 1) := by decide +kernel
theorem d_m_layFallback_14 : decode b_m_layFallback 14 = .ok (.iconst 0, 1) := by decide +kernel
theorem d_m_layFallback_15 : decode b_m_layFallback 15 = .ok (.aload_n 0, 1) := by decide +kernel
theorem d_m_layFallback_16 : decode b_m_layFallback 16 = .ok (.iload_n 2, 1) := by decide +kernel
theorem d_m_layFallback_17 : decode b_m_layFallback 17 = .ok (.iconst 2, 1) := by decide +kernel
theorem d_m_layFallback_18 : decode b_m_layFallback 18 = .ok (.invokevirtual 151, 3) := by decide +kernel
theorem d_m_layFallback_21 : decode b_m_layFallback 21 = .ok (.invokevirtual 161, 3) := by decide +kernel
theorem d_m_layFallback_24 : decode b_m_layFallback 24 = .ok (.iconst 1, 1) := by decide +kernel
theorem d_m_layFallback_25 : decode b_m_layFallback 25 = .ok (.istore_n 3, 1) := by decide +kernel
theorem d_m_layFallback_26 : decode b_m_layFallback 26 = .ok (.iload_n 3, 1) := by decide +kernel
theorem d_m_layFallback_27 : decode b_m_layFallback 27 = .ok (.iconst 4, 1) := by decide +kernel
theorem d_m_layFallback_28 : decode b_m_layFallback 28 = .ok (.if_icmp .ge 21, 3) := by decide +kernel
theorem d_m_layFallback_31 : decode b_m_layFallback 31 = .ok (.aload_n 0, 1) := by decide +kernel
theorem d_m_layFallback_32 : decode b_m_layFallback 32 = .ok (.iload_n 1, 1) := by decide +kernel
theorem d_m_layFallback_33 : decode b_m_layFallback 33 = .ok (.iload_n 3, 1) := by decide +kernel
theorem d_m_layFallback_34 : decode b_m_layFallback 34 = .ok (.aload_n 0, 1) := by decide +kernel
theorem d_m_layFallback_35 : decode b_m_layFallback 35 = .ok (.iload_n 2, 1) := by decide +kernel
theorem d_m_layFallback_36 : decode b_m_layFallback 36 = .ok (.iconst 3, 1) := by decide +kernel
theorem d_m_layFallback_37 : decode b_m_layFallback 37 = .ok (.invokevirtual 151, 3) := by decide +kernel
theorem d_m_layFallback_40 : decode b_m_layFallback 40 = .ok (.invokevirtual 161, 3) := by decide +kernel
theorem d_m_layFallback_43 : decode b_m_layFallback 43 = .ok (.iinc 3 1, 3) := by decide +kernel
theorem d_m_layFallback_46 : decode b_m_layFallback 46 = .ok (.goto (-20), 3) := by decide +kernel
theorem d_m_layFallback_49 : decode b_m_layFallback 49 = .ok (.aload_n 0, 1) := by decide +kernel
theorem d_m_layFallback_50 : decode b_m_layFallback 50 = .ok (.iload_n 2, 1) := by decide +kernel
theorem d_m_layFallback_51 : decode b_m_layFallback 51 = .ok (.bipush (-9), 2) := by decide +kernel
theorem d_m_layFallback_53 : decode b_m_layFallback 53 = .ok (.bipush (-9), 2) := by decide +kernel
theorem d_m_layFallback_55 : decode b_m_layFallback 55 = .ok (.bipush (-9), 2) := by decide +kernel
theorem d_m_layFallback_57 : decode b_m_layFallback 57 = .ok (.invokevirtual 154, 3) := by decide +kernel
theorem d_m_layFallback_60 : decode b_m_layFallback 60 = .ok (.return_, 1) := by decide +kernel
theorem d_m_layPlain_0 : decode b_m_layPlain 0 = .ok (.aload_n 0, 1) := by decide +kernel
theorem d_m_layPlain_1 : decode b_m_layPlain 1 = .ok (.getfield 7, 3) := by decide +kernel
theorem d_m_layPlain_4 : decode b_m_layPlain 4 = .ok (.iload_n 1, 1) := by decide +kernel
theorem d_m_layPlain_5 : decode b_m_layPlain 5 = .ok (.invokestatic 141, 3) := by decide +kernel
theorem d_m_layPlain_8 : decode b_m_layPlain 8 = .ok (.iconst 3, 1) := by decide +kernel
theorem d_m_layPlain_9 : decode b_m_layPlain 9 = .ok (.iadd, 1) := by decide +kernel
theorem d_m_layPlain_10 : decode b_m_layPlain 10 = .ok (.iconst 0, 1) := by decide +kernel
theorem d_m_layPlain_11 : decode b_m_layPlain 11 = .ok (.iastore, 1) := by decide +kernel
theorem d_m_layPlain_12 : decode b_m_layPlain 12 = .ok (.iconst 0, 1) := by decide +kernel
theorem d_m_layPlain_13 : decode b_m_layPlain 13 = .ok (.istore_n 3, 1) := by decide +kernel
theorem d_m_layPlain_14 : decode b_m_layPlain 14 = .ok (.iload_n 3, 1) := by decide +kernel
theorem d_m_layPlain_15 : decode b_m_layPlain 15 = .ok (.iconst 4, 1) := by decide +kernel
theorem d_m_layPlain_16 : decode b_m_layPlain 16 = .ok (.if_icmp .ge 21, 3) := by decide +kernel
theorem d_m_layPlain_19 : decode b_m_layPlain 19 = .ok (.aload_n 0, 1) := by decide +kernel
theorem d_m_layPlain_20 : decode b_m_layPlain 20 = .ok (.iload_n 1, 1) := by decide +kernel
theorem d_m_layPlain_21 : decode b_m_layPlain 21 = .ok (.iload_n 3, 1) := by decide +kernel
theorem d_m_layPlain_22 : decode b_m_layPlain 22 = .ok (.aload_n 0, 1) := by decide +kernel
theorem d_m_layPlain_23 : decode b_m_layPlain 23 = .ok (.iload_n 2, 1) := by decide +kernel
theorem d_m_layPlain_24 : decode b_m_layPlain 24 = .ok (.iload_n 3, 1) := by decide +kernel
theorem d_m_layPlain_25 : decode b_m_layPlain 25 = .ok (.invokevirtual 151, 3) := by decide +kernel
theorem d_m_layPlain_28 : decode b_m_layPlain 28 = .ok (.invokevirtual 161, 3) := by decide +kernel
theorem d_m_layPlain_31 : decode b_m_layPlain 31 = .ok (.iinc 3 1, 3) := by decide +kernel
theorem d_m_layPlain_34 : decode b_m_layPlain 34 = .ok (.goto (-20), 3) := by decide +kernel
theorem d_m_layPlain_37 : decode b_m_layPlain 37 = .ok (.return_, 1) := by decide +kernel
theorem d_m_laySampling_0 : decode b_m_laySampling 0 = .ok (.aload_n 0, 1) := by decide +kernel
theorem d_m_laySampling_1 : decode b_m_laySampling 1 = .ok (.getfield 7, 3) := by decide +kernel
theorem d_m_laySampling_4 : decode b_m_laySampling 4 = .ok (.iload_n 1, 1) := by decide +kernel
theorem d_m_laySampling_5 : decode b_m_laySampling 5 = .ok (.invokestatic 141, 3) := by decide +kernel
theorem d_m_laySampling_8 : decode b_m_laySampling 8 = .ok (.iconst 3, 1) := by decide +kernel
theorem d_m_laySampling_9 : decode b_m_laySampling 9 = .ok (.iadd, 1) := by decide +kernel
theorem d_m_laySampling_10 : decode b_m_laySampling 10 = .ok (.iconst 1, 1) := by decide +kernel
theorem d_m_laySampling_11 : decode b_m_laySampling 11 = .ok (.iastore, 1) := by decide +kernel
theorem d_m_laySampling_12 : decode b_m_laySampling 12 = .ok (.aload_n 0, 1) := by decide +kernel
theorem d_m_laySampling_13 : decode b_m_laySampling 13 = .ok (.getfield 7, 3) := by decide +kernel
theorem d_m_laySampling_16 : decode b_m_laySampling 16 = .ok (.iload_n 1, 1) := by decide +kernel
theorem d_m_laySampling_17 : decode b_m_laySampling 17 = .ok (.invokestatic 141, 3) := by decide +kernel
theorem d_m_laySampling_20 : decode b_m_laySampling 20 = .ok (.iconst 4, 1) := by decide +kernel
theorem d_m_laySampling_21 : decode b_m_laySampling 21 = .ok (.iadd, 1) := by decide +kernel
theorem d_m_laySampling_22 : decode b_m_laySampling 22 = .ok (.iload_n 3, 1) := by decide +kernel
theorem d_m_laySampling_23 : decode b_m_laySampling 23 = .ok (.iastore, 1) := by decide +kernel
theorem d_m_laySampling_24 : decode b_m_laySampling 24 = .ok (.aload_n 0, 1) := by decide +kernel
theorem d_m_laySampling_25 : decode b_m_laySampling 25 = .ok (.iload_n 3, 1) := by decide +kernel
theorem d_m_laySampling_26 : decode b_m_laySampling 26 = .ok (.invokevirtual 64, 3) := by decide +kernel
theorem d_m_laySampling_29 : decode b_m_laySampling 29 = .ok (.aload_n 0, 1) := by decide +kernel
theorem d_m_laySampling_30 : decode b_m_laySampling 30 = .ok (.aload_n 0, 1) := by decide +kernel
theorem d_m_laySampling_31 : decode b_m_laySampling 31 = .ok (.iload_n 2, 1) := by decide +kernel
theorem d_m_laySampling_32 : decode b_m_laySampling 32 = .ok (.iconst 0, 1) := by decide +kernel
theorem d_m_laySampling_33 : decode b_m_laySampling 33 = .ok (.invokevirtual 151, 3) := by decide +kernel
theorem d_m_laySampling_36 : decode b_m_laySampling 36 = .ok (.invokevirtual 64, 3) := by decide +kernel
theorem d_m_laySampling_39 : decode b_m_laySampling 39 = .ok (.if_icmp .gt 7, 3) := by decide +kernel
theorem d_m_laySampling_42 : decode b_m_laySampling 42 = .ok (.iconst 0, 1) := by decide +kernel
theorem d_m_laySampling_43 : decode b_m_laySampling 43 = .ok (.goto 4, 3) := by decide +kernel
theorem d_m_laySampling_46 : decode b_m_laySampling 46 = .ok (.iconst 1, 1) := by decide +kernel
theorem d_m_laySampling_47 : decode b_m_laySampling 47 = .ok (.istore 4, 2) := by decide +kernel
theorem d_m_laySampling_49 : decode b_m_laySampling 49 = .ok (.aload_n 0, 1) := by decide +kernel
theorem d_m_laySampling_50 : decode b_m_laySampling 50 = .ok (.iload_n 1, 1) := by decide +kernel
theorem d_m_laySampling_51 : decode b_m_laySampling 51 = .ok (.iload 4, 2) := by decide +kernel
theorem d_m_laySampling_53 : decode b_m_laySampling 53 = .ok (.iload_n 3, 1) := by decide +kernel
theorem d_m_laySampling_54 : decode b_m_laySampling 54 = .ok (.iconst 1, 1) := by decide +kernel
theorem d_m_laySampling_55 : decode b_m_laySampling 55 = .ok (.invokevirtual 147, 3) := by decide +kernel
theorem d_m_laySampling_58 : decode b_m_laySampling 58 = .ok (.aload_n 0, 1) := by decide +kernel
theorem d_m_laySampling_59 : decode b_m_laySampling 59 = .ok (.iload_n 1, 1) := by decide +kernel
theorem d_m_laySampling_60 : decode b_m_laySampling 60 = .ok (.iconst 1, 1) := by decide +kernel
theorem d_m_laySampling_61 : decode b_m_laySampling 61 = .ok (.iload 4, 2) := by decide +kernel
theorem d_m_laySampling_63 : decode b_m_laySampling 63 = .ok (.isub, 1) := by decide +kernel
theorem d_m_laySampling_64 : decode b_m_laySampling 64 = .ok (.aload_n 0, 1) := by decide +kernel
theorem d_m_laySampling_65 : decode b_m_laySampling 65 = .ok (.iload_n 2, 1) := by decide +kernel
theorem d_m_laySampling_66 : decode b_m_laySampling 66 = .ok (.iconst 0, 1) := by decide +kernel
theorem d_m_laySampling_67 : decode b_m_laySampling 67 = .ok (.invokevirtual 151, 3) := by decide +kernel
theorem d_m_laySampling_70 : decode b_m_laySampling 70 = .ok (.invokevirtual 161, 3) := by decide +kernel
theorem d_m_laySampling_73 : decode b_m_laySampling 73 = .ok (.aload_n 0, 1) := by decide +kernel
theorem d_m_laySampling_74 : decode b_m_laySampling 74 = .ok (.iload_n 1, 1) := by decide +kernel
theorem d_m_laySampling_75 : decode b_m_laySampling 75 = .ok (.iconst 2, 1) := by decide +kernel
theorem d_m_laySampling_76 : decode b_m_laySampling 76 = .ok (.aload_n 0, 1) := by decide +kernel
theorem d_m_laySampling_77 : decode b_m_laySampling 77 = .ok (.iload_n 2, 1) := by decide +kernel
theorem d_m_laySampling_78 : decode b_m_laySampling 78 = .ok (.iconst 2, 1) := by decide +kernel
theorem d_m_laySampling_79 : decode b_m_laySampling 79 = .ok (.invokevirtual 151, 3) := by decide +kernel
theorem d_m_laySampling_82 : decode b_m_laySampling 82 = .ok (.invokevirtual 161, 3) := by decide +kernel
theorem d_m_laySampling_85 : decode b_m_laySampling 85 = .ok (.aload_n 0, 1) := by decide +kernel
theorem d_m_laySampling_86 : decode b_m_laySampling 86 = .ok (.iload_n 1, 1) := by decide +kernel
theorem d_m_laySampling_87 : decode b_m_laySampling 87 = .ok (.iconst 3, 1) := by decide +kernel
theorem d_m_laySampling_88 : decode b_m_laySampling 88 = .ok (.aload_n 0, 1) := by decide +kernel
theorem d_m_laySampling_89 : decode b_m_laySampling 89 = .ok (.iload_n 2, 1) := by decide +kernel
theorem d_m_laySampling_90 : decode b_m_laySampling 90 = .ok (.iconst 3, 1) := by decide +kernel
theorem d_m_laySampling_91 : decode b_m_laySampling 91 = .ok (.invokevirtual 151, 3) := by decide +kernel
theorem d_m_laySampling_94 : decode b_m_laySampling 94 = .ok (.invokevirtual 161, 3) := by decide +kernel
theorem d_m_laySampling_97 : decode b_m_laySampling 97 = .ok (.aload_n 0, 1) := by decide +kernel
theorem d_m_laySampling_98 : decode b_m_laySampling 98 = .ok (.getfield 7, 3) := by decide +kernel
theorem d_m_laySampling_101 : decode b_m_laySampling 101 = .ok (.iload_n 2, 1) := by decide +kernel
theorem d_m_laySampling_102 : decode b_m_laySampling 102 = .ok (.invokestatic 81, 3) := by decide +kernel
theorem d_m_laySampling_105 : decode b_m_laySampling 105 = .ok (.iconst 1, 1) := by decide +kernel
theorem d_m_laySampling_106 : decode b_m_laySampling 106 = .ok (.iadd, 1) := by decide +kernel
theorem d_m_laySampling_107 : decode b_m_laySampling 107 = .ok (.dup2, 1) := by decide +kernel
theorem d_m_laySampling_108 : decode b_m_laySampling 108 = .ok (.iaload, 1) := by decide +kernel
theorem d_m_laySampling_109 : decode b_m_laySampling 109 = .ok (.iconst 1, 1) := by decide +kernel
theorem d_m_laySampling_110 : decode b_m_laySampling 110 = .ok (.iadd, 1) := by decide +kernel
theorem d_m_laySampling_111 : decode b_m_laySampling 111 = .ok (.iastore, 1) := by decide +kernel
theorem d_m_laySampling_112 : decode b_m_laySampling 112 = .ok (.return_, 1) := by decide +kernel
theorem d_m_lays_0 : decode b_m_lays 0 = .ok (.aload_n 0, 1) := by decide +kernel
theorem d_m_lays_1 : decode b_m_lays 1 = .ok (.invokevirtual 164, 3) := by decide +kernel
theorem d_m_lays_4 : decode b_m_lays 4 = .ok (.istore_n 3, 1) := by decide +kernel
theorem d_m_lays_5 : decode b_m_lays 5 = .ok (.aload_n 0, 1) := by decide +kernel
theorem d_m_lays_6 : decode b_m_lays 6 = .ok (.getfield 7, 3) := by decide +kernel
theorem d_m_lays_9 : decode b_m_lays 9 = .ok (.iload_n 3, 1) := by decide +kernel
theorem d_m_lays_10 : decode b_m_lays 10 = .ok (.invokestatic 141, 3) := by decide +kernel
theorem d_m_lays_13 : decode b_m_lays 13 = .ok (.iconst 0, 1) := by decide +kernel
theorem d_m_lays_14 : decode b_m_lays 14 = .ok (.iadd, 1) := by decide +kernel
theorem d_m_lays_15 : decode b_m_lays 15 = .ok (.iconst 1, 1) := by decide +kernel
theorem d_m_lays_16 : decode b_m_lays 16 = .ok (.iastore, 1) := by decide +kernel
theorem d_m_lays_17 : decode b_m_lays 17 = .ok (.aload_n 0, 1) := by decide +kernel
theorem d_m_lays_18 : decode b_m_lays 18 = .ok (.getfield 7, 3) := by decide +kernel
theorem d_m_lays_21 : decode b_m_lays 21 = .ok (.iload_n 3, 1) := by decide +kernel
theorem d_m_lays_22 : decode b_m_lays 22 = .ok (.invokestatic 141, 3) := by decide +kernel
theorem d_m_lays_25 : decode b_m_lays 25 = .ok (.iconst 1, 1) := by decide +kernel
theorem d_m_lays_26 : decode b_m_lays 26 = .ok (.iadd, 1) := by decide +kernel
theorem d_m_lays_27 : decode b_m_lays 27 = .ok (.iload_n 1, 1) := by decide +kernel
theorem d_m_lays_28 : decode b_m_lays 28 = .ok (.iastore, 1) := by decide +kernel
theorem d_m_lays_29 : decode b_m_lays 29 = .ok (.aload_n 0, 1) := by decide +kernel
theorem d_m_lays_30 : decode b_m_lays 30 = .ok (.getfield 7, 3) := by decide +kernel
theorem d_m_lays_33 : decode b_m_lays 33 = .ok (.iload_n 3, 1) := by decide +kernel
theorem d_m_lays_34 : decode b_m_lays 34 = .ok (.invokestatic 141, 3) := by decide +kernel
theorem d_m_lays_37 : decode b_m_lays 37 = .ok (.iconst 2, 1) := by decide +kernel
theorem d_m_lays_38 : decode b_m_lays 38 = .ok (.iadd, 1) := by decide +kernel
theorem d_m_lays_39 : decode b_m_lays 39 = .ok (.iload_n 2, 1) := by decide +kernel
theorem d_m_lays_40 : decode b_m_lays 40 = .ok (.iastore, 1) := by decide +kernel
theorem d_m_lays_41 : decode b_m_lays 41 = .ok (.aload_n 0, 1) := by decide +kernel
theorem d_m_lays_42 : decode b_m_lays 42 = .ok (.getfield 7, 3) := by decide +kernel
theorem d_m_lays_45 : decode b_m_lays 45 = .ok (.iload_n 1, 1) := by decide +kernel
theorem d_m_lays_46 : decode b_m_lays 46 = .ok (.invokestatic 81, 3) := by decide +kernel
theorem d_m_lays_49 : decode b_m_lays 49 = .ok (.iconst 0, 1) := by decide +kernel
theorem d_m_lays_50 : decode b_m_lays 50 = .ok (.iadd, 1) := by decide +kernel
theorem d_m_lays_51 : decode b_m_lays 51 = .ok (.dup2, 1) := by decide +kernel
theorem d_m_lays_52 : decode b_m_lays 52 = .ok (.iaload, 1) := by decide +kernel
theorem d_m_lays_53 : decode b_m_lays 53 = .ok (.iconst 1, 1) := by decide +kernel
theorem d_m_lays_54 : decode b_m_lays 54 = .ok (.iadd, 1) := by decide +kernel
theorem d_m_lays_55 : decode b_m_lays 55 = .ok (.iastore, 1) := by decide +kernel
theorem d_m_lays_56 : decode b_m_lays 56 = .ok (.aload_n 0, 1) := by decide +kernel
theorem d_m_lays_57 : decode b_m_lays 57 = .ok (.getfield 7, 3) := by decide +kernel
theorem d_m_lays_60 : decode b_m_lays 60 = .ok (.iload_n 1, 1) := by decide +kernel
theorem d_m_lays_61 : decode b_m_lays 61 = .ok (.invokestatic 81, 3) := by decide +kernel
theorem d_m_lays_64 : decode b_m_lays 64 = .ok (.iconst 5, 1) := by decide +kernel
theorem d_m_lays_65 : decode b_m_lays 65 = .ok (.iadd, 1) := by decide +kernel
theorem d_m_lays_66 : decode b_m_lays 66 = .ok (.iaload, 1) := by decide +kernel
theorem d_m_lays_67 : decode b_m_lays 67 = .ok (.iconst 1, 1) := by decide +kernel
theorem d_m_lays_68 : decode b_m_lays 68 = .ok (.if_icmp .ne 11, 3) := by decide +kernel
theorem d_m_lays_71 : decode b_m_lays 71 = .ok (.aload_n 0, 1) := by decide +kernel
theorem d_m_lays_72 : decode b_m_lays 72 = .ok (.iload_n 3, 1) := by decide +kernel
theorem d_m_lays_73 : decode b_m_lays 73 = .ok (.iload_n 1, 1) := by decide +kernel
theorem d_m_lays_74 : decode b_m_lays 74 = .ok (.invokevirtual 167, 3) := by decide +kernel
theorem d_m_lays_77 : decode b_m_lays 77 = .ok (.iload_n 3, 1) := by decide +kernel
theorem d_m_lays_78 : decode b_m_lays 78 = .ok (.ireturn, 1) := by decide +kernel
theorem d_m_lays_79 : decode b_m_lays 79 = .ok (.aload_n 0, 1) := by decide +kernel
theorem d_m_lays_80 : decode b_m_lays 80 = .ok (.iload_n 1, 1) := by decide +kernel
theorem d_m_lays_81 : decode b_m_lays 81 = .ok (.invokevirtual 170, 3) := by decide +kernel
theorem d_m_lays_84 : decode b_m_lays 84 = .ok (.istore 4, 2) := by decide +kernel
theorem d_m_lays_86 : decode b_m_lays 86 = .ok (.iload 4, 2) := by decide +kernel
theorem d_m_lays_88 : decode b_m_lays 88 = .ok (.bipush (-9), 2) := by decide +kernel
theorem d_m_lays_90 : decode b_m_lays 90 = .ok (.if_icmp .ne 12, 3) := by decide +kernel
theorem d_m_lays_93 : decode b_m_lays 93 = .ok (.aload_n 0, 1) := by decide +kernel
theorem d_m_lays_94 : decode b_m_lays 94 = .ok (.iload_n 3, 1) := by decide +kernel
theorem d_m_lays_95 : decode b_m_lays 95 = .ok (.iload_n 1, 1) := by decide +kernel
theorem d_m_lays_96 : decode b_m_lays 96 = .ok (.invokevirtual 173, 3) := by decide +kernel
theorem d_m_lays_99 : decode b_m_lays 99 = .ok (.goto 11, 3) := by decide +kernel
theorem d_m_lays_102 : decode b_m_lays 102 = .ok (.aload_n 0, 1) := by decide +kernel
theorem d_m_lays_103 : decode b_m_lays 103 = .ok (.iload_n 3, 1) := by decide +kernel
theorem d_m_lays_104 : decode b_m_lays 104 = .ok (.iload_n 1, 1) := by decide +kernel
theorem d_m_lays_105 : decode b_m_lays 105 = .ok (.iload 4, 2) := by decide +kernel
theorem d_m_lays_107 : decode b_m_lays 107 = .ok (.invokevirtual 176, 3) := by decide +kernel
theorem d_m_lays_110 : decode b_m_lays 110 = .ok (.iload_n 3, 1) := by decide +kernel
theorem d_m_lays_111 : decode b_m_lays 111 = .ok (.ireturn, 1) := by decide +kernel
theorem d_m_lay_0 : decode b_m_lay 0 = .ok (.aload_n 0, 1) := by decide +kernel
theorem d_m_lay_1 : decode b_m_lay 1 = .ok (.iload_n 1, 1) := by decide +kernel
theorem d_m_lay_2 : decode b_m_lay 2 = .ok (.invokevirtual 35, 3) := by decide +kernel
theorem d_m_lay_5 : decode b_m_lay 5 = .ok (.ifCond .eq 14, 3) := by decide +kernel
theorem d_m_lay_8 : decode b_m_lay 8 = .ok (.iload_n 2, 1) := by decide +kernel
theorem d_m_lay_9 : decode b_m_lay 9 = .ok (.iconst 1, 1) := by decide +kernel
theorem d_m_lay_10 : decode b_m_lay 10 = .ok (.sipush 4000, 3) := by decide +kernel
theorem d_m_lay_13 : decode b_m_lay 13 = .ok (.invokestatic 31, 3) := by decide +kernel
theorem d_m_lay_16 : decode b_m_lay 16 = .ok (.ifCond .ne 5, 3) := by decide +kernel
theorem d_m_lay_19 : decode b_m_lay 19 = .ok (.iconst (-1), 1) := by decide +kernel
theorem d_m_lay_20 : decode b_m_lay 20 = .ok (.ireturn, 1) := by decide +kernel
theorem d_m_lay_21 : decode b_m_lay 21 = .ok (.aload_n 0, 1) := by decide +kernel
theorem d_m_lay_22 : decode b_m_lay 22 = .ok (.iload_n 1, 1) := by decide +kernel
theorem d_m_lay_23 : decode b_m_lay 23 = .ok (.invokevirtual 179, 3) := by decide +kernel
theorem d_m_lay_26 : decode b_m_lay 26 = .ok (.ifCond .ne 6, 3) := by decide +kernel
theorem d_m_lay_29 : decode b_m_lay 29 = .ok (.bipush (-2), 2) := by decide +kernel
theorem d_m_lay_31 : decode b_m_lay 31 = .ok (.ireturn, 1) := by decide +kernel
theorem d_m_lay_32 : decode b_m_lay 32 = .ok (.aload_n 0, 1) := by decide +kernel
theorem d_m_lay_33 : decode b_m_lay 33 = .ok (.invokevirtual 164, 3) := by decide +kernel
theorem d_m_lay_36 : decode b_m_lay 36 = .ok (.bipush (-9), 2) := by decide +kernel
theorem d_m_lay_38 : decode b_m_lay 38 = .ok (.if_icmp .ne 6, 3) := by decide +kernel
theorem d_m_lay_41 : decode b_m_lay 41 = .ok (.bipush (-3), 2) := by decide +kernel
theorem d_m_lay_43 : decode b_m_lay 43 = .ok (.ireturn, 1) := by decide +kernel
theorem d_m_lay_44 : decode b_m_lay 44 = .ok (.aload_n 0, 1) := by decide +kernel
theorem d_m_lay_45 : decode b_m_lay 45 = .ok (.invokevirtual 127, 3) := by decide +kernel
theorem d_m_lay_48 : decode b_m_lay 48 = .ok (.aload_n 0, 1) := by decide +kernel
theorem d_m_lay_49 : decode b_m_lay 49 = .ok (.iload_n 1, 1) := by decide +kernel
theorem d_m_lay_50 : decode b_m_lay 50 = .ok (.iload_n 2, 1) := by decide +kernel
theorem d_m_lay_51 : decode b_m_lay 51 = .ok (.invokevirtual 182, 3) := by decide +kernel
theorem d_m_lay_54 : decode b_m_lay 54 = .ok (.ireturn, 1) := by decide +kernel
theorem d_m_enqueue_0 : decode b_m_enqueue 0 = .ok (.aload_n 0, 1) := by decide +kernel
theorem d_m_enqueue_1 : decode b_m_enqueue 1 = .ok (.iload_n 1, 1) := by decide +kernel
theorem d_m_enqueue_2 : decode b_m_enqueue 2 = .ok (.invokevirtual 35, 3) := by decide +kernel
theorem d_m_enqueue_5 : decode b_m_enqueue 5 = .ok (.ifCond .eq 14, 3) := by decide +kernel
theorem d_m_enqueue_8 : decode b_m_enqueue 8 = .ok (.iload_n 2, 1) := by decide +kernel
theorem d_m_enqueue_9 : decode b_m_enqueue 9 = .ok (.iconst 1, 1) := by decide +kernel
theorem d_m_enqueue_10 : decode b_m_enqueue 10 = .ok (.sipush 4000, 3) := by decide +kernel
theorem d_m_enqueue_13 : decode b_m_enqueue 13 = .ok (.invokestatic 31, 3) := by decide +kernel
theorem d_m_enqueue_16 : decode b_m_enqueue 16 = .ok (.ifCond .ne 5, 3) := by decide +kernel
theorem d_m_enqueue_19 : decode b_m_enqueue 19 = .ok (.iconst (-1), 1) := by decide +kernel
theorem d_m_enqueue_20 : decode b_m_enqueue 20 = .ok (.ireturn, 1) := by decide +kernel
theorem d_m_enqueue_21 : decode b_m_enqueue 21 = .ok (.iload_n 1, 1) := by decide +kernel
theorem d_m_enqueue_22 : decode b_m_enqueue 22 = .ok (.invokestatic 81, 3) := by decide +kernel
theorem d_m_enqueue_25 : decode b_m_enqueue 25 = .ok (.istore_n 3, 1) := by decide +kernel
theorem d_m_enqueue_26 : decode b_m_enqueue 26 = .ok (.aload_n 0, 1) := by decide +kernel
theorem d_m_enqueue_27 : decode b_m_enqueue 27 = .ok (.getfield 7, 3) := by decide +kernel
theorem d_m_enqueue_30 : decode b_m_enqueue 30 = .ok (.iload_n 3, 1) := by decide +kernel
theorem d_m_enqueue_31 : decode b_m_enqueue 31 = .ok (.bipush 6, 2) := by decide +kernel
theorem d_m_enqueue_33 : decode b_m_enqueue 33 = .ok (.iadd, 1) := by decide +kernel
theorem d_m_enqueue_34 : decode b_m_enqueue 34 = .ok (.iaload, 1) := by decide +kernel
theorem d_m_enqueue_35 : decode b_m_enqueue 35 = .ok (.bipush 8, 2) := by decide +kernel
theorem d_m_enqueue_37 : decode b_m_enqueue 37 = .ok (.if_icmp .ne 6, 3) := by decide +kernel
theorem d_m_enqueue_40 : decode b_m_enqueue 40 = .ok (.bipush (-3), 2) := by decide +kernel
theorem d_m_enqueue_42 : decode b_m_enqueue 42 = .ok (.ireturn, 1) := by decide +kernel
theorem d_m_enqueue_43 : decode b_m_enqueue 43 = .ok (.aload_n 0, 1) := by decide +kernel
theorem d_m_enqueue_44 : decode b_m_enqueue 44 = .ok (.invokevirtual 127, 3) := by decide +kernel
theorem d_m_enqueue_47 : decode b_m_enqueue 47 = .ok (.aload_n 0, 1) := by decide +kernel
theorem d_m_enqueue_48 : decode b_m_enqueue 48 = .ok (.getfield 7, 3) := by decide +kernel
theorem d_m_enqueue_51 : decode b_m_enqueue 51 = .ok (.iload_n 3, 1) := by decide +kernel
theorem d_m_enqueue_52 : decode b_m_enqueue 52 = .ok (.bipush 7, 2) := by decide +kernel
theorem d_m_enqueue_54 : decode b_m_enqueue 54 = .ok (.iadd, 1) := by decide +kernel
theorem d_m_enqueue_55 : decode b_m_enqueue 55 = .ok (.aload_n 0, 1) := by decide +kernel
theorem d_m_enqueue_56 : decode b_m_enqueue 56 = .ok (.getfield 7, 3) := by decide +kernel
theorem d_m_enqueue_59 : decode b_m_enqueue 59 = .ok (.iload_n 3, 1) := by decide +kernel
theorem d_m_enqueue_60 : decode b_m_enqueue 60 = .ok (.bipush 6, 2) := by decide +kernel
theorem d_m_enqueue_62 : decode b_m_enqueue 62 = .ok (.iadd, 1) := by decide +kernel
theorem d_m_enqueue_63 : decode b_m_enqueue 63 = .ok (.iaload, 1) := by decide +kernel
theorem d_m_enqueue_64 : decode b_m_enqueue 64 = .ok (.iadd, 1) := by decide +kernel
theorem d_m_enqueue_65 : decode b_m_enqueue 65 = .ok (.iload_n 2, 1) := by decide +kernel
theorem d_m_enqueue_66 : decode b_m_enqueue 66 = .ok (.iastore, 1) := by decide +kernel
theorem d_m_enqueue_67 : decode b_m_enqueue 67 = .ok (.aload_n 0, 1) := by decide +kernel
theorem d_m_enqueue_68 : decode b_m_enqueue 68 = .ok (.getfield 7, 3) := by decide +kernel
theorem d_m_enqueue_71 : decode b_m_enqueue 71 = .ok (.iload_n 3, 1) := by decide +kernel
theorem d_m_enqueue_72 : decode b_m_enqueue 72 = .ok (.bipush 6, 2) := by decide +kernel
theorem d_m_enqueue_74 : decode b_m_enqueue 74 = .ok (.iadd, 1) := by decide +kernel
theorem d_m_enqueue_75 : decode b_m_enqueue 75 = .ok (.dup2, 1) := by decide +kernel
theorem d_m_enqueue_76 : decode b_m_enqueue 76 = .ok (.iaload, 1) := by decide +kernel
theorem d_m_enqueue_77 : decode b_m_enqueue 77 = .ok (.iconst 1, 1) := by decide +kernel
theorem d_m_enqueue_78 : decode b_m_enqueue 78 = .ok (.iadd, 1) := by decide +kernel
theorem d_m_enqueue_79 : decode b_m_enqueue 79 = .ok (.iastore, 1) := by decide +kernel
theorem d_m_enqueue_80 : decode b_m_enqueue 80 = .ok (.aload_n 0, 1) := by decide +kernel
theorem d_m_enqueue_81 : decode b_m_enqueue 81 = .ok (.getfield 7, 3) := by decide +kernel
theorem d_m_enqueue_84 : decode b_m_enqueue 84 = .ok (.iload_n 3, 1) := by decide +kernel
theorem d_m_enqueue_85 : decode b_m_enqueue 85 = .ok (.bipush 6, 2) := by decide +kernel
theorem d_m_enqueue_87 : decode b_m_enqueue 87 = .ok (.iadd, 1) := by decide +kernel
theorem d_m_enqueue_88 : decode b_m_enqueue 88 = .ok (.iaload, 1) := by decide +kernel
theorem d_m_enqueue_89 : decode b_m_enqueue 89 = .ok (.ireturn, 1) := by decide +kernel
theorem d_m_isReady_0 : decode b_m_isReady 0 = .ok (.aload_n 0, 1) := by decide +kernel
theorem d_m_isReady_1 : decode b_m_isReady 1 = .ok (.getfield 7, 3) := by decide +kernel
theorem d_m_isReady_4 : decode b_m_isReady 4 = .ok (.iload_n 1, 1) := by decide +kernel
theorem d_m_isReady_5 : decode b_m_isReady 5 = .ok (.invokestatic 81, 3) := by decide +kernel
theorem d_m_isReady_8 : decode b_m_isReady 8 = .ok (.bipush 6, 2) := by decide +kernel
theorem d_m_isReady_10 : decode b_m_isReady 10 = .ok (.iadd, 1) := by decide +kernel
theorem d_m_isReady_11 : decode b_m_isReady 11 = .ok (.iaload, 1) := by decide +kernel
theorem d_m_isReady_12 : decode b_m_isReady 12 = .ok (.ifCond .le 15, 3) := by decide +kernel
theorem d_m_isReady_15 : decode b_m_isReady 15 = .ok (.aload_n 0, 1) := by decide +kernel
theorem d_m_isReady_16 : decode b_m_isReady 16 = .ok (.iload_n 1, 1) := by decide +kernel
theorem d_m_isReady_17 : decode b_m_isReady 17 = .ok (.invokevirtual 179, 3) := by decide +kernel
theorem d_m_isReady_20 : decode b_m_isReady 20 = .ok (.ifCond .eq 7, 3) := by decide +kernel
theorem d_m_isReady_23 : decode b_m_isReady 23 = .ok (.iconst 1, 1) := by decide +kernel
theorem d_m_isReady_24 : decode b_m_isReady 24 = .ok (.goto 4, 3) := by decide +kernel
theorem d_m_isReady_27 : decode b_m_isReady 27 = .ok (.iconst 0, 1) := by decide +kernel
theorem d_m_isReady_28 : decode b_m_isReady 28 = .ok (.ireturn, 1) := by decide +kernel
theorem d_m_isAnyReady_0 : decode b_m_isAnyReady 0 = .ok (.iconst 0, 1) := by decide +kernel
theorem d_m_isAnyReady_1 : decode b_m_isAnyReady 1 = .ok (.istore_n 1, 1) := by decide +kernel
theorem d_m_isAnyReady_2 : decode b_m_isAnyReady 2 = .ok (.iconst 0, 1) := by decide +kernel
theorem d_m_isAnyReady_3 : decode b_m_isAnyReady 3 = .ok (.istore_n 2, 1) := by decide +kernel
theorem d_m_isAnyReady_4 : decode b_m_isAnyReady 4 = .ok (.iload_n 2, 1) := by decide +kernel
theorem d_m_isAnyReady_5 : decode b_m_isAnyReady 5 = .ok (.aload_n 0, 1) := by decide +kernel
theorem d_m_isAnyReady_6 : decode b_m_isAnyReady 6 = .ok (.getfield 7, 3) := by decide +kernel
theorem d_m_isAnyReady_9 : decode b_m_isAnyReady 9 = .ok (.iconst 2, 1) := by decide +kernel
theorem d_m_isAnyReady_10 : decode b_m_isAnyReady 10 = .ok (.iaload, 1) := by decide +kernel
theorem d_m_isAnyReady_11 : decode b_m_isAnyReady 11 = .ok (.if_icmp .ge 27, 3) := by decide +kernel
theorem d_m_isAnyReady_14 : decode b_m_isAnyReady 14 = .ok (.iload_n 1, 1) := by decide +kernel
theorem d_m_isAnyReady_15 : decode b_m_isAnyReady 15 = .ok (.ifCond .ne 11, 3) := by decide +kernel
theorem d_m_isAnyReady_18 : decode b_m_isAnyReady 18 = .ok (.aload_n 0, 1) := by decide +kernel
theorem d_m_isAnyReady_19 : decode b_m_isAnyReady 19 = .ok (.iload_n 2, 1) := by decide +kernel
theorem d_m_isAnyReady_20 : decode b_m_isAnyReady 20 = .ok (.invokevirtual 185, 3) := by decide +kernel
theorem d_m_isAnyReady_23 : decode b_m_isAnyReady 23 = .ok (.ifCond .eq 7, 3) := by decide +kernel
theorem d_m_isAnyReady_26 : decode b_m_isAnyReady 26 = .ok (.iconst 1, 1) := by decide +kernel
theorem d_m_isAnyReady_27 : decode b_m_isAnyReady 27 = .ok (.goto 4, 3) := by decide +kernel
theorem d_m_isAnyReady_30 : decode b_m_isAnyReady 30 = .ok (.iconst 0, 1) := by decide +kernel
theorem d_m_isAnyReady_31 : decode b_m_isAnyReady 31 = .ok (.istore_n 1, 1) := by decide +kernel
theorem d_m_isAnyReady_32 : decode b_m_isAnyReady 32 = .ok (.iinc 2 1, 3) := by decide +kernel
theorem d_m_isAnyReady_35 : decode b_m_isAnyReady 35 = .ok (.goto (-31), 3) := by decide +kernel
theorem d_m_isAnyReady_38 : decode b_m_isAnyReady 38 = .ok (.iload_n 1, 1) := by decide +kernel
theorem d_m_isAnyReady_39 : decode b_m_isAnyReady 39 = .ok (.ireturn, 1) := by decide +kernel
theorem d_m_turns_0 : decode b_m_turns 0 = .ok (.aload_n 0, 1) := by decide +kernel
theorem d_m_turns_1 : decode b_m_turns 1 = .ok (.getfield 7, 3) := by decide +kernel
theorem d_m_turns_4 : decode b_m_turns 4 = .ok (.bipush 7, 2) := by decide +kernel
theorem d_m_turns_6 : decode b_m_turns 6 = .ok (.aload_n 0, 1) := by decide +kernel
theorem d_m_turns_7 : decode b_m_turns 7 = .ok (.getfield 7, 3) := by decide +kernel
theorem d_m_turns_10 : decode b_m_turns 10 = .ok (.bipush 7, 2) := by decide +kernel
theorem d_m_turns_12 : decode b_m_turns 12 = .ok (.iaload, 1) := by decide +kernel
theorem d_m_turns_13 : decode b_m_turns 13 = .ok (.iconst 1, 1) := by decide +kernel
theorem d_m_turns_14 : decode b_m_turns 14 = .ok (.iadd, 1) := by decide +kernel
theorem d_m_turns_15 : decode b_m_turns 15 = .ok (.aload_n 0, 1) := by decide +kernel
theorem d_m_turns_16 : decode b_m_turns 16 = .ok (.getfield 7, 3) := by decide +kernel
theorem d_m_turns_19 : decode b_m_turns 19 = .ok (.iconst 2, 1) := by decide +kernel
theorem d_m_turns_20 : decode b_m_turns 20 = .ok (.iaload, 1) := by decide +kernel
theorem d_m_turns_21 : decode b_m_turns 21 = .ok (.if_icmp .lt 7, 3) := by decide +kernel
theorem d_m_turns_24 : decode b_m_turns 24 = .ok (.iconst 0, 1) := by decide +kernel
theorem d_m_turns_25 : decode b_m_turns 25 = .ok (.goto 12, 3) := by decide +kernel
theorem d_m_turns_28 : decode b_m_turns 28 = .ok (.aload_n 0, 1) := by decide +kernel
theorem d_m_turns_29 : decode b_m_turns 29 = .ok (.getfield 7, 3) := by decide +kernel
theorem d_m_turns_32 : decode b_m_turns 32 = .ok (.bipush 7, 2) := by decide +kernel
theorem d_m_turns_34 : decode b_m_turns 34 = .ok (.iaload, 1) := by decide +kernel
theorem d_m_turns_35 : decode b_m_turns 35 = .ok (.iconst 1, 1) := by decide +kernel
theorem d_m_turns_36 : decode b_m_turns 36 = .ok (.iadd, 1) := by decide +kernel
theorem d_m_turns_37 : decode b_m_turns 37 = .ok (.iastore, 1) := by decide +kernel
theorem d_m_turns_38 : decode b_m_turns 38 = .ok (.return_, 1) := by decide +kernel
theorem d_m_dispatch_0 : decode b_m_dispatch 0 = .ok (.aload_n 0, 1) := by decide +kernel
theorem d_m_dispatch_1 : decode b_m_dispatch 1 = .ok (.invokevirtual 164, 3) := by decide +kernel
theorem d_m_dispatch_4 : decode b_m_dispatch 4 = .ok (.bipush (-9), 2) := by decide +kernel
theorem d_m_dispatch_6 : decode b_m_dispatch 6 = .ok (.if_icmp .ne 6, 3) := by decide +kernel
theorem d_m_dispatch_9 : decode b_m_dispatch 9 = .ok (.bipush (-3), 2) := by decide +kernel
theorem d_m_dispatch_11 : decode b_m_dispatch 11 = .ok (.ireturn, 1) := by decide +kernel
theorem d_m_dispatch_12 : decode b_m_dispatch 12 = .ok (.aload_n 0, 1) := by decide +kernel
theorem d_m_dispatch_13 : decode b_m_dispatch 13 = .ok (.invokevirtual 188, 3) := by decide +kernel
theorem d_m_dispatch_16 : decode b_m_dispatch 16 = .ok (.ifCond .ne 6, 3) := by decide +kernel
theorem d_m_dispatch_19 : decode b_m_dispatch 19 = .ok (.bipush (-9), 2) := by decide +kernel
theorem d_m_dispatch_21 : decode b_m_dispatch 21 = .ok (.ireturn, 1) := by decide +kernel
theorem d_m_dispatch_22 : decode b_m_dispatch 22 = .ok (.aload_n 0, 1) := by decide +kernel
theorem d_m_dispatch_23 : decode b_m_dispatch 23 = .ok (.invokevirtual 127, 3) := by decide +kernel
theorem d_m_dispatch_26 : decode b_m_dispatch 26 = .ok (.iconst 0, 1) := by decide +kernel
theorem d_m_dispatch_27 : decode b_m_dispatch 27 = .ok (.istore_n 1, 1) := by decide +kernel
theorem d_m_dispatch_28 : decode b_m_dispatch 28 = .ok (.iload_n 1, 1) := by decide +kernel
theorem d_m_dispatch_29 : decode b_m_dispatch 29 = .ok (.sipush 2000, 3) := by decide +kernel
theorem d_m_dispatch_32 : decode b_m_dispatch 32 = .ok (.if_icmp .ge 86, 3) := by decide +kernel
theorem d_m_dispatch_35 : decode b_m_dispatch 35 = .ok (.aload_n 0, 1) := by decide +kernel
theorem d_m_dispatch_36 : decode b_m_dispatch 36 = .ok (.aload_n 0, 1) := by decide +kernel
theorem d_m_dispatch_37 : decode b_m_dispatch 37 = .ok (.getfield 7, 3) := by decide +kernel
theorem d_m_dispatch_40 : decode b_m_dispatch 40 = .ok (.bipush 7, 2) := by decide +kernel
theorem d_m_dispatch_42 : decode b_m_dispatch 42 = .ok (.iaload, 1) := by decide +kernel
theorem d_m_dispatch_43 : decode b_m_dispatch 43 = .ok (.invokevirtual 185, 3) := by decide +kernel
theorem d_m_dispatch_46 : decode b_m_dispatch 46 = .ok (.ifCond .eq 24, 3) := by decide +kernel
theorem d_m_dispatch_49 : decode b_m_dispatch 49 = .ok (.aload_n 0, 1) := by decide +kernel
theorem d_m_dispatch_50 : decode b_m_dispatch 50 = .ok (.getfield 7, 3) := by decide +kernel
theorem d_m_dispatch_53 : decode b_m_dispatch 53 = .ok (.aload_n 0, 1) := by decide +kernel
theorem d_m_dispatch_54 : decode b_m_dispatch 54 = .ok (.getfield 7, 3) := by decide +kernel
theorem d_m_dispatch_57 : decode b_m_dispatch 57 = .ok (.bipush 7, 2) := by decide +kernel
theorem d_m_dispatch_59 : decode b_m_dispatch 59 = .ok (.iaload, 1) := by decide +kernel
theorem d_m_dispatch_60 : decode b_m_dispatch 60 = .ok (.invokestatic 81, 3) := by decide +kernel
theorem d_m_dispatch_63 : decode b_m_dispatch 63 = .ok (.bipush 15, 2) := by decide +kernel
theorem d_m_dispatch_65 : decode b_m_dispatch 65 = .ok (.iadd, 1) := by decide +kernel
theorem d_m_dispatch_66 : decode b_m_dispatch 66 = .ok (.iaload, 1) := by decide +kernel
theorem d_m_dispatch_67 : decode b_m_dispatch 67 = .ok (.ifCond .gt 51, 3) := by decide +kernel
theorem d_m_dispatch_70 : decode b_m_dispatch 70 = .ok (.aload_n 0, 1) := by decide +kernel
theorem d_m_dispatch_71 : decode b_m_dispatch 71 = .ok (.aload_n 0, 1) := by decide +kernel
theorem d_m_dispatch_72 : decode b_m_dispatch 72 = .ok (.getfield 7, 3) := by decide +kernel
theorem d_m_dispatch_75 : decode b_m_dispatch 75 = .ok (.bipush 7, 2) := by decide +kernel
theorem d_m_dispatch_77 : decode b_m_dispatch 77 = .ok (.iaload, 1) := by decide +kernel
theorem d_m_dispatch_78 : decode b_m_dispatch 78 = .ok (.invokevirtual 185, 3) := by decide +kernel
theorem d_m_dispatch_81 : decode b_m_dispatch 81 = .ok (.ifCond .eq 27, 3) := by decide +kernel
theorem d_m_dispatch_84 : decode b_m_dispatch 84 = .ok (.aload_n 0, 1) := by decide +kernel
theorem d_m_dispatch_85 : decode b_m_dispatch 85 = .ok (.getfield 7, 3) := by decide +kernel
theorem d_m_dispatch_88 : decode b_m_dispatch 88 = .ok (.aload_n 0, 1) := by decide +kernel
theorem d_m_dispatch_89 : decode b_m_dispatch 89 = .ok (.getfield 7, 3) := by decide +kernel
theorem d_m_dispatch_92 : decode b_m_dispatch 92 = .ok (.bipush 7, 2) := by decide +kernel
theorem d_m_dispatch_94 : decode b_m_dispatch 94 = .ok (.iaload, 1) := by decide +kernel
theorem d_m_dispatch_95 : decode b_m_dispatch 95 = .ok (.invokestatic 81, 3) := by decide +kernel
theorem d_m_dispatch_98 : decode b_m_dispatch 98 = .ok (.bipush 15, 2) := by decide +kernel
theorem d_m_dispatch_100 : decode b_m_dispatch 100 = .ok (.iadd, 1) := by decide +kernel
theorem d_m_dispatch_101 : decode b_m_dispatch 101 = .ok (.dup2, 1) := by decide +kernel
theorem d_m_dispatch_102 : decode b_m_dispatch 102 = .ok (.iaload, 1) := by decide +kernel
theorem d_m_dispatch_103 : decode b_m_dispatch 103 = .ok (.sipush 4000, 3) := by decide +kernel
theorem d_m_dispatch_106 : decode b_m_dispatch 106 = .ok (.iadd, 1) := by decide +kernel
theorem d_m_dispatch_107 : decode b_m_dispatch 107 = .ok (.iastore, 1) := by decide +kernel
theorem d_m_dispatch_108 : decode b_m_dispatch 108 = .ok (.aload_n 0, 1) := by decide +kernel
theorem d_m_dispatch_109 : decode b_m_dispatch 109 = .ok (.invokevirtual 192, 3) := by decide +kernel
theorem d_m_dispatch_112 : decode b_m_dispatch 112 = .ok (.iinc 1 1, 3) := by decide +kernel
theorem d_m_dispatch_115 : decode b_m_dispatch 115 = .ok (.goto (-87), 3) := by decide +kernel
theorem d_m_dispatch_118 : decode b_m_dispatch 118 = .ok (.aload_n 0, 1) := by decide +kernel
theorem d_m_dispatch_119 : decode b_m_dispatch 119 = .ok (.getfield 7, 3) := by decide +kernel
theorem d_m_dispatch_122 : decode b_m_dispatch 122 = .ok (.bipush 7, 2) := by decide +kernel
theorem d_m_dispatch_124 : decode b_m_dispatch 124 = .ok (.iaload, 1) := by decide +kernel
theorem d_m_dispatch_125 : decode b_m_dispatch 125 = .ok (.invokestatic 81, 3) := by decide +kernel
theorem d_m_dispatch_128 : decode b_m_dispatch 128 = .ok (.istore_n 1, 1) := by decide +kernel
theorem d_m_dispatch_129 : decode b_m_dispatch 129 = .ok (.aload_n 0, 1) := by decide +kernel
theorem d_m_dispatch_130 : decode b_m_dispatch 130 = .ok (.getfield 7, 3) := by decide +kernel
theorem d_m_dispatch_133 : decode b_m_dispatch 133 = .ok (.iload_n 1, 1) := by decide +kernel
theorem d_m_dispatch_134 : decode b_m_dispatch 134 = .ok (.bipush 7, 2) := by decide +kernel
theorem d_m_dispatch_136 : decode b_m_dispatch 136 = .ok (.iadd, 1) := by decide +kernel
theorem d_m_dispatch_137 : decode b_m_dispatch 137 = .ok (.iaload, 1) := by decide +kernel
theorem d_m_dispatch_138 : decode b_m_dispatch 138 = .ok (.istore_n 2, 1) := by decide +kernel
theorem d_m_dispatch_139 : decode b_m_dispatch 139 = .ok (.aload_n 0, 1) := by decide +kernel
theorem d_m_dispatch_140 : decode b_m_dispatch 140 = .ok (.getfield 7, 3) := by decide +kernel
theorem d_m_dispatch_143 : decode b_m_dispatch 143 = .ok (.iload_n 1, 1) := by decide +kernel
theorem d_m_dispatch_144 : decode b_m_dispatch 144 = .ok (.bipush 6, 2) := by decide +kernel
theorem d_m_dispatch_146 : decode b_m_dispatch 146 = .ok (.iadd, 1) := by decide +kernel
theorem d_m_dispatch_147 : decode b_m_dispatch 147 = .ok (.dup2, 1) := by decide +kernel
theorem d_m_dispatch_148 : decode b_m_dispatch 148 = .ok (.iaload, 1) := by decide +kernel
theorem d_m_dispatch_149 : decode b_m_dispatch 149 = .ok (.iconst 1, 1) := by decide +kernel
theorem d_m_dispatch_150 : decode b_m_dispatch 150 = .ok (.isub, 1) := by decide +kernel
theorem d_m_dispatch_151 : decode b_m_dispatch 151 = .ok (.iastore, 1) := by decide +kernel
theorem d_m_dispatch_152 : decode b_m_dispatch 152 = .ok (.iconst 0, 1) := by decide +kernel
theorem d_m_dispatch_153 : decode b_m_dispatch 153 = .ok (.istore_n 3, 1) := by decide +kernel
theorem d_m_dispatch_154 : decode b_m_dispatch 154 = .ok (.iload_n 3, 1) := by decide +kernel
theorem d_m_dispatch_155 : decode b_m_dispatch 155 = .ok (.aload_n 0, 1) := by decide +kernel
theorem d_m_dispatch_156 : decode b_m_dispatch 156 = .ok (.getfield 7, 3) := by decide +kernel
theorem d_m_dispatch_159 : decode b_m_dispatch 159 = .ok (.iload_n 1, 1) := by decide +kernel
theorem d_m_dispatch_160 : decode b_m_dispatch 160 = .ok (.bipush 6, 2) := by decide +kernel
theorem d_m_dispatch_162 : decode b_m_dispatch 162 = .ok (.iadd, 1) := by decide +kernel
theorem d_m_dispatch_163 : decode b_m_dispatch 163 = .ok (.iaload, 1) := by decide +kernel
theorem d_m_dispatch_164 : decode b_m_dispatch 164 = .ok (.if_icmp .ge 33, 3) := by decide +kernel
theorem d_m_dispatch_167 : decode b_m_dispatch 167 = .ok (.aload_n 0, 1) := by decide +kernel
theorem d_m_dispatch_168 : decode b_m_dispatch 168 = .ok (.getfield 7, 3) := by decide +kernel
theorem d_m_dispatch_171 : decode b_m_dispatch 171 = .ok (.iload_n 1, 1) := by decide +kernel
theorem d_m_dispatch_172 : decode b_m_dispatch 172 = .ok (.bipush 7, 2) := by decide +kernel
theorem d_m_dispatch_174 : decode b_m_dispatch 174 = .ok (.iadd, 1) := by decide +kernel
theorem d_m_dispatch_175 : decode b_m_dispatch 175 = .ok (.iload_n 3, 1) := by decide +kernel
theorem d_m_dispatch_176 : decode b_m_dispatch 176 = .ok (.iadd, 1) := by decide +kernel
theorem d_m_dispatch_177 : decode b_m_dispatch 177 = .ok (.aload_n 0, 1) := by decide +kernel
theorem d_m_dispatch_178 : decode b_m_dispatch 178 = .ok (.getfield 7, 3) := by decide +kernel
theorem d_m_dispatch_181 : decode b_m_dispatch 181 = .ok (.iload_n 1, 1) := by decide +kernel
theorem d_m_dispatch_182 : decode b_m_dispatch 182 = .ok (.bipush 7, 2) := by decide +kernel
theorem d_m_dispatch_184 : decode b_m_dispatch 184 = .ok (.iadd, 1) := by decide +kernel
theorem d_m_dispatch_185 : decode b_m_dispatch 185 = .ok (.iload_n 3, 1) := by decide +kernel
theorem d_m_dispatch_186 : decode b_m_dispatch 186 = .ok (.iadd, 1) := by decide +kernel
theorem d_m_dispatch_187 : decode b_m_dispatch 187 = .ok (.iconst 1, 1) := by decide +kernel
theorem d_m_dispatch_188 : decode b_m_dispatch 188 = .ok (.iadd, 1) := by decide +kernel
theorem d_m_dispatch_189 : decode b_m_dispatch 189 = .ok (.iaload, 1) := by decide +kernel
theorem d_m_dispatch_190 : decode b_m_dispatch 190 = .ok (.iastore, 1) := by decide +kernel
theorem d_m_dispatch_191 : decode b_m_dispatch 191 = .ok (.iinc 3 1, 3) := by decide +kernel
theorem d_m_dispatch_194 : decode b_m_dispatch 194 = .ok (.goto (-40), 3) := by decide +kernel
theorem d_m_dispatch_197 : decode b_m_dispatch 197 = .ok (.aload_n 0, 1) := by decide +kernel
theorem d_m_dispatch_198 : decode b_m_dispatch 198 = .ok (.aload_n 0, 1) := by decide +kernel
theorem d_m_dispatch_199 : decode b_m_dispatch 199 = .ok (.getfield 7, 3) := by decide +kernel
theorem d_m_dispatch_202 : decode b_m_dispatch 202 = .ok (.bipush 7, 2) := by decide +kernel
theorem d_m_dispatch_204 : decode b_m_dispatch 204 = .ok (.iaload, 1) := by decide +kernel
theorem d_m_dispatch_205 : decode b_m_dispatch 205 = .ok (.iload_n 2, 1) := by decide +kernel
theorem d_m_dispatch_206 : decode b_m_dispatch 206 = .ok (.invokevirtual 182, 3) := by decide +kernel
theorem d_m_dispatch_209 : decode b_m_dispatch 209 = .ok (.ireturn, 1) := by decide +kernel
theorem d_m_triesOfAll_0 : decode b_m_triesOfAll 0 = .ok (.iconst 0, 1) := by decide +kernel
theorem d_m_triesOfAll_1 : decode b_m_triesOfAll 1 = .ok (.istore_n 2, 1) := by decide +kernel
theorem d_m_triesOfAll_2 : decode b_m_triesOfAll 2 = .ok (.iconst 0, 1) := by decide +kernel
theorem d_m_triesOfAll_3 : decode b_m_triesOfAll 3 = .ok (.istore_n 3, 1) := by decide +kernel
theorem d_m_triesOfAll_4 : decode b_m_triesOfAll 4 = .ok (.iload_n 3, 1) := by decide +kernel
theorem d_m_triesOfAll_5 : decode b_m_triesOfAll 5 = .ok (.iconst 4, 1) := by decide +kernel
theorem d_m_triesOfAll_6 : decode b_m_triesOfAll 6 = .ok (.if_icmp .ge 26, 3) := by decide +kernel
theorem d_m_triesOfAll_9 : decode b_m_triesOfAll 9 = .ok (.iload_n 2, 1) := by decide +kernel
theorem d_m_triesOfAll_10 : decode b_m_triesOfAll 10 = .ok (.aload_n 0, 1) := by decide +kernel
theorem d_m_triesOfAll_11 : decode b_m_triesOfAll 11 = .ok (.getfield 7, 3) := by decide +kernel
theorem d_m_triesOfAll_14 : decode b_m_triesOfAll 14 = .ok (.iload_n 1, 1) := by decide +kernel
theorem d_m_triesOfAll_15 : decode b_m_triesOfAll 15 = .ok (.invokestatic 141, 3) := by decide +kernel
theorem d_m_triesOfAll_18 : decode b_m_triesOfAll 18 = .ok (.bipush 9, 2) := by decide +kernel
theorem d_m_triesOfAll_20 : decode b_m_triesOfAll 20 = .ok (.iadd, 1) := by decide +kernel
theorem d_m_triesOfAll_21 : decode b_m_triesOfAll 21 = .ok (.iload_n 3, 1) := by decide +kernel
theorem d_m_triesOfAll_22 : decode b_m_triesOfAll 22 = .ok (.iadd, 1) := by decide +kernel
theorem d_m_triesOfAll_23 : decode b_m_triesOfAll 23 = .ok (.iaload, 1) := by decide +kernel
theorem d_m_triesOfAll_24 : decode b_m_triesOfAll 24 = .ok (.iadd, 1) := by decide +kernel
theorem d_m_triesOfAll_25 : decode b_m_triesOfAll 25 = .ok (.istore_n 2, 1) := by decide +kernel
theorem d_m_triesOfAll_26 : decode b_m_triesOfAll 26 = .ok (.iinc 3 1, 3) := by decide +kernel
theorem d_m_triesOfAll_29 : decode b_m_triesOfAll 29 = .ok (.goto (-25), 3) := by decide +kernel
theorem d_m_triesOfAll_32 : decode b_m_triesOfAll 32 = .ok (.iload_n 2, 1) := by decide +kernel
theorem d_m_triesOfAll_33 : decode b_m_triesOfAll 33 = .ok (.ireturn, 1) := by decide +kernel
theorem d_m_entryOf_0 : decode b_m_entryOf 0 = .ok (.iconst 0, 1) := by decide +kernel
theorem d_m_entryOf_1 : decode b_m_entryOf 1 = .ok (.istore_n 3, 1) := by decide +kernel
theorem d_m_entryOf_2 : decode b_m_entryOf 2 = .ok (.iload_n 2, 1) := by decide +kernel
theorem d_m_entryOf_3 : decode b_m_entryOf 3 = .ok (.istore 4, 2) := by decide +kernel
theorem d_m_entryOf_5 : decode b_m_entryOf 5 = .ok (.iload_n 3, 1) := by decide +kernel
theorem d_m_entryOf_6 : decode b_m_entryOf 6 = .ok (.iconst 3, 1) := by decide +kernel
theorem d_m_entryOf_7 : decode b_m_entryOf 7 = .ok (.if_icmp .ge 47, 3) := by decide +kernel
theorem d_m_entryOf_10 : decode b_m_entryOf 10 = .ok (.iload 4, 2) := by decide +kernel
theorem d_m_entryOf_12 : decode b_m_entryOf 12 = .ok (.aload_n 0, 1) := by decide +kernel
theorem d_m_entryOf_13 : decode b_m_entryOf 13 = .ok (.getfield 7, 3) := by decide +kernel
theorem d_m_entryOf_16 : decode b_m_entryOf 16 = .ok (.iload_n 1, 1) := by decide +kernel
theorem d_m_entryOf_17 : decode b_m_entryOf 17 = .ok (.invokestatic 141, 3) := by decide +kernel
theorem d_m_entryOf_20 : decode b_m_entryOf 20 = .ok (.bipush 9, 2) := by decide +kernel
theorem d_m_entryOf_22 : decode b_m_entryOf 22 = .ok (.iadd, 1) := by decide +kernel
theorem d_m_entryOf_23 : decode b_m_entryOf 23 = .ok (.iload_n 3, 1) := by decide +kernel
theorem d_m_entryOf_24 : decode b_m_entryOf 24 = .ok (.iadd, 1) := by decide +kernel
theorem d_m_entryOf_25 : decode b_m_entryOf 25 = .ok (.iaload, 1) := by decide +kernel
theorem d_m_entryOf_26 : decode b_m_entryOf 26 = .ok (.if_icmp .lt 28, 3) := by decide +kernel
theorem d_m_entryOf_29 : decode b_m_entryOf 29 = .ok (.iload 4, 2) := by decide +kernel
theorem d_m_entryOf_31 : decode b_m_entryOf 31 = .ok (.aload_n 0, 1) := by decide +kernel
theorem d_m_entryOf_32 : decode b_m_entryOf 32 = .ok (.getfield 7, 3) := by decide +kernel
theorem d_m_entryOf_35 : decode b_m_entryOf 35 = .ok (.iload_n 1, 1) := by decide +kernel
theorem d_m_entryOf_36 : decode b_m_entryOf 36 = .ok (.invokestatic 141, 3) := by decide +kernel
theorem d_m_entryOf_39 : decode b_m_entryOf 39 = .ok (.bipush 9, 2) := by decide +kernel
theorem d_m_entryOf_41 : decode b_m_entryOf 41 = .ok (.iadd, 1) := by decide +kernel
theorem d_m_entryOf_42 : decode b_m_entryOf 42 = .ok (.iload_n 3, 1) := by decide +kernel
theorem d_m_entryOf_43 : decode b_m_entryOf 43 = .ok (.iadd, 1) := by decide +kernel
theorem d_m_entryOf_44 : decode b_m_entryOf 44 = .ok (.iaload, 1) := by decide +kernel
theorem d_m_entryOf_45 : decode b_m_entryOf 45 = .ok (.isub, 1) := by decide +kernel
theorem d_m_entryOf_46 : decode b_m_entryOf 46 = .ok (.istore 4, 2) := by decide +kernel
theorem d_m_entryOf_48 : decode b_m_entryOf 48 = .ok (.iinc 3 1, 3) := by decide +kernel
theorem d_m_entryOf_51 : decode b_m_entryOf 51 = .ok (.goto (-46), 3) := by decide +kernel
theorem d_m_entryOf_54 : decode b_m_entryOf 54 = .ok (.iload_n 3, 1) := by decide +kernel
theorem d_m_entryOf_55 : decode b_m_entryOf 55 = .ok (.ireturn, 1) := by decide +kernel
theorem d_m_tryOf_0 : decode b_m_tryOf 0 = .ok (.iload_n 2, 1) := by decide +kernel
theorem d_m_tryOf_1 : decode b_m_tryOf 1 = .ok (.istore_n 3, 1) := by decide +kernel
theorem d_m_tryOf_2 : decode b_m_tryOf 2 = .ok (.iconst 0, 1) := by decide +kernel
theorem d_m_tryOf_3 : decode b_m_tryOf 3 = .ok (.istore 4, 2) := by decide +kernel
theorem d_m_tryOf_5 : decode b_m_tryOf 5 = .ok (.iload 4, 2) := by decide +kernel
theorem d_m_tryOf_7 : decode b_m_tryOf 7 = .ok (.aload_n 0, 1) := by decide +kernel
theorem d_m_tryOf_8 : decode b_m_tryOf 8 = .ok (.iload_n 1, 1) := by decide +kernel
theorem d_m_tryOf_9 : decode b_m_tryOf 9 = .ok (.iload_n 2, 1) := by decide +kernel
theorem d_m_tryOf_10 : decode b_m_tryOf 10 = .ok (.invokevirtual 195, 3) := by decide +kernel
theorem d_m_tryOf_13 : decode b_m_tryOf 13 = .ok (.if_icmp .ge 27, 3) := by decide +kernel
theorem d_m_tryOf_16 : decode b_m_tryOf 16 = .ok (.iload_n 3, 1) := by decide +kernel
theorem d_m_tryOf_17 : decode b_m_tryOf 17 = .ok (.aload_n 0, 1) := by decide +kernel
theorem d_m_tryOf_18 : decode b_m_tryOf 18 = .ok (.getfield 7, 3) := by decide +kernel
theorem d_m_tryOf_21 : decode b_m_tryOf 21 = .ok (.iload_n 1, 1) := by decide +kernel
theorem d_m_tryOf_22 : decode b_m_tryOf 22 = .ok (.invokestatic 141, 3) := by decide +kernel
theorem d_m_tryOf_25 : decode b_m_tryOf 25 = .ok (.bipush 9, 2) := by decide +kernel
theorem d_m_tryOf_27 : decode b_m_tryOf 27 = .ok (.iadd, 1) := by decide +kernel
theorem d_m_tryOf_28 : decode b_m_tryOf 28 = .ok (.iload 4, 2) := by decide +kernel
theorem d_m_tryOf_30 : decode b_m_tryOf 30 = .ok (.iadd, 1) := by decide +kernel
theorem d_m_tryOf_31 : decode b_m_tryOf 31 = .ok (.iaload, 1) := by decide +kernel
theorem d_m_tryOf_32 : decode b_m_tryOf 32 = .ok (.isub, 1) := by decide +kernel
theorem d_m_tryOf_33 : decode b_m_tryOf 33 = .ok (.istore_n 3, 1) := by decide +kernel
theorem d_m_tryOf_34 : decode b_m_tryOf 34 = .ok (.iinc 4 1, 3) := by decide +kernel
theorem d_m_tryOf_37 : decode b_m_tryOf 37 = .ok (.goto (-32), 3) := by decide +kernel
theorem d_m_tryOf_40 : decode b_m_tryOf 40 = .ok (.iload_n 3, 1) := by decide +kernel
theorem d_m_tryOf_41 : decode b_m_tryOf 41 = .ok (.ireturn, 1) := by decide +kernel
theorem d_m_rateOfTry_0 : decode b_m_rateOfTry 0 = .ok (.aload_n 0, 1) := by decide +kernel
theorem d_m_rateOfTry_1 : decode b_m_rateOfTry 1 = .ok (.getfield 7, 3) := by decide +kernel
theorem d_m_rateOfTry_4 : decode b_m_rateOfTry 4 = .ok (.iload_n 1, 1) := by decide +kernel
theorem d_m_rateOfTry_5 : decode b_m_rateOfTry 5 = .ok (.invokestatic 141, 3) := by decide +kernel
theorem d_m_rateOfTry_8 : decode b_m_rateOfTry 8 = .ok (.iconst 5, 1) := by decide +kernel
theorem d_m_rateOfTry_9 : decode b_m_rateOfTry 9 = .ok (.iadd, 1) := by decide +kernel
theorem d_m_rateOfTry_10 : decode b_m_rateOfTry 10 = .ok (.aload_n 0, 1) := by decide +kernel
theorem d_m_rateOfTry_11 : decode b_m_rateOfTry 11 = .ok (.iload_n 1, 1) := by decide +kernel
theorem d_m_rateOfTry_12 : decode b_m_rateOfTry 12 = .ok (.iload_n 2, 1) := by decide +kernel
theorem d_m_rateOfTry_13 : decode b_m_rateOfTry 13 = .ok (.invokevirtual 195, 3) := by decide +kernel
theorem d_m_rateOfTry_16 : decode b_m_rateOfTry 16 = .ok (.iadd, 1) := by decide +kernel
theorem d_m_rateOfTry_17 : decode b_m_rateOfTry 17 = .ok (.iaload, 1) := by decide +kernel
theorem d_m_rateOfTry_18 : decode b_m_rateOfTry 18 = .ok (.ireturn, 1) := by decide +kernel
theorem d_m_timeOfTry_0 : decode b_m_timeOfTry 0 = .ok (.aload_n 0, 1) := by decide +kernel
theorem d_m_timeOfTry_1 : decode b_m_timeOfTry 1 = .ok (.aload_n 0, 1) := by decide +kernel
theorem d_m_timeOfTry_2 : decode b_m_timeOfTry 2 = .ok (.iload_n 1, 1) := by decide +kernel
theorem d_m_timeOfTry_3 : decode b_m_timeOfTry 3 = .ok (.iload_n 2, 1) := by decide +kernel
theorem d_m_timeOfTry_4 : decode b_m_timeOfTry 4 = .ok (.invokevirtual 198, 3) := by decide +kernel
theorem d_m_timeOfTry_7 : decode b_m_timeOfTry 7 = .ok (.aload_n 0, 1) := by decide +kernel
theorem d_m_timeOfTry_8 : decode b_m_timeOfTry 8 = .ok (.getfield 7, 3) := by decide +kernel
theorem d_m_timeOfTry_11 : decode b_m_timeOfTry 11 = .ok (.iload_n 1, 1) := by decide +kernel
theorem d_m_timeOfTry_12 : decode b_m_timeOfTry 12 = .ok (.invokestatic 141, 3) := by decide +kernel
theorem d_m_timeOfTry_15 : decode b_m_timeOfTry 15 = .ok (.iconst 2, 1) := by decide +kernel
theorem d_m_timeOfTry_16 : decode b_m_timeOfTry 16 = .ok (.iadd, 1) := by decide +kernel
theorem d_m_timeOfTry_17 : decode b_m_timeOfTry 17 = .ok (.iaload, 1) := by decide +kernel
theorem d_m_timeOfTry_18 : decode b_m_timeOfTry 18 = .ok (.aload_n 0, 1) := by decide +kernel
theorem d_m_timeOfTry_19 : decode b_m_timeOfTry 19 = .ok (.iload_n 1, 1) := by decide +kernel
theorem d_m_timeOfTry_20 : decode b_m_timeOfTry 20 = .ok (.iload_n 2, 1) := by decide +kernel
theorem d_m_timeOfTry_21 : decode b_m_timeOfTry 21 = .ok (.invokevirtual 201, 3) := by decide +kernel
theorem d_m_timeOfTry_24 : decode b_m_timeOfTry 24 = .ok (.invokevirtual 53, 3) := by decide +kernel
theorem d_m_timeOfTry_27 : decode b_m_timeOfTry 27 = .ok (.ireturn, 1) := by decide +kernel
theorem d_m_timeOfTries_0 : decode b_m_timeOfTries 0 = .ok (.iconst 0, 1) := by decide +kernel
theorem d_m_timeOfTries_1 : decode b_m_timeOfTries 1 = .ok (.istore_n 3, 1) := by decide +kernel
theorem d_m_timeOfTries_2 : decode b_m_timeOfTries 2 = .ok (.iconst 0, 1) := by decide +kernel
theorem d_m_timeOfTries_3 : decode b_m_timeOfTries 3 = .ok (.istore 4, 2) := by decide +kernel
theorem d_m_timeOfTries_5 : decode b_m_timeOfTries 5 = .ok (.iload 4, 2) := by decide +kernel
theorem d_m_timeOfTries_7 : decode b_m_timeOfTries 7 = .ok (.iload_n 2, 1) := by decide +kernel
theorem d_m_timeOfTries_8 : decode b_m_timeOfTries 8 = .ok (.if_icmp .ge 19, 3) := by decide +kernel
theorem d_m_timeOfTries_11 : decode b_m_timeOfTries 11 = .ok (.iload_n 3, 1) := by decide +kernel
theorem d_m_timeOfTries_12 : decode b_m_timeOfTries 12 = .ok (.aload_n 0, 1) := by decide +kernel
theorem d_m_timeOfTries_13 : decode b_m_timeOfTries 13 = .ok (.iload_n 1, 1) := by decide +kernel
theorem d_m_timeOfTries_14 : decode b_m_timeOfTries 14 = .ok (.iload 4, 2) := by decide +kernel
theorem d_m_timeOfTries_16 : decode b_m_timeOfTries 16 = .ok (.invokevirtual 204, 3) := by decide +kernel
theorem d_m_timeOfTries_19 : decode b_m_timeOfTries 19 = .ok (.iadd, 1) := by decide +kernel
theorem d_m_timeOfTries_20 : decode b_m_timeOfTries 20 = .ok (.istore_n 3, 1) := by decide +kernel
theorem d_m_timeOfTries_21 : decode b_m_timeOfTries 21 = .ok (.iinc 4 1, 3) := by decide +kernel
theorem d_m_timeOfTries_24 : decode b_m_timeOfTries 24 = .ok (.goto (-19), 3) := by decide +kernel
theorem d_m_timeOfTries_27 : decode b_m_timeOfTries 27 = .ok (.iload_n 3, 1) := by decide +kernel
theorem d_m_timeOfTries_28 : decode b_m_timeOfTries 28 = .ok (.ireturn, 1) := by decide +kernel
theorem d_m_ends_0 : decode b_m_ends 0 = .ok (.iload_n 1, 1) := by decide +kernel
theorem d_m_ends_1 : decode b_m_ends 1 = .ok (.invokestatic 81, 3) := by decide +kernel
theorem d_m_ends_4 : decode b_m_ends 4 = .ok (.istore_n 3, 1) := by decide +kernel
theorem d_m_ends_5 : decode b_m_ends 5 = .ok (.iload_n 2, 1) := by decide +kernel
theorem d_m_ends_6 : decode b_m_ends 6 = .ok (.ifCond .eq 54, 3) := by decide +kernel
theorem d_m_ends_9 : decode b_m_ends 9 = .ok (.aload_n 0, 1) := by decide +kernel
theorem d_m_ends_10 : decode b_m_ends 10 = .ok (.getfield 7, 3) := by decide +kernel
theorem d_m_ends_13 : decode b_m_ends 13 = .ok (.iload_n 3, 1) := by decide +kernel
theorem d_m_ends_14 : decode b_m_ends 14 = .ok (.iconst 2, 1) := by decide +kernel
theorem d_m_ends_15 : decode b_m_ends 15 = .ok (.iadd, 1) := by decide +kernel
theorem d_m_ends_16 : decode b_m_ends 16 = .ok (.dup2, 1) := by decide +kernel
theorem d_m_ends_17 : decode b_m_ends 17 = .ok (.iaload, 1) := by decide +kernel
theorem d_m_ends_18 : decode b_m_ends 18 = .ok (.iconst 1, 1) := by decide +kernel
theorem d_m_ends_19 : decode b_m_ends 19 = .ok (.iadd, 1) := by decide +kernel
theorem d_m_ends_20 : decode b_m_ends 20 = .ok (.iastore, 1) := by decide +kernel
theorem d_m_ends_21 : decode b_m_ends 21 = .ok (.aload_n 0, 1) := by decide +kernel
theorem d_m_ends_22 : decode b_m_ends 22 = .ok (.getfield 7, 3) := by decide +kernel
theorem d_m_ends_25 : decode b_m_ends 25 = .ok (.iload_n 3, 1) := by decide +kernel
theorem d_m_ends_26 : decode b_m_ends 26 = .ok (.iconst 4, 1) := by decide +kernel
theorem d_m_ends_27 : decode b_m_ends 27 = .ok (.iadd, 1) := by decide +kernel
theorem d_m_ends_28 : decode b_m_ends 28 = .ok (.iconst 0, 1) := by decide +kernel
theorem d_m_ends_29 : decode b_m_ends 29 = .ok (.iastore, 1) := by decide +kernel
theorem d_m_ends_30 : decode b_m_ends 30 = .ok (.aload_n 0, 1) := by decide +kernel
theorem d_m_ends_31 : decode b_m_ends 31 = .ok (.getfield 7, 3) := by decide +kernel
theorem d_m_ends_34 : decode b_m_ends 34 = .ok (.iload_n 3, 1) := by decide +kernel
theorem d_m_ends_35 : decode b_m_ends 35 = .ok (.iconst 5, 1) := by decide +kernel
theorem d_m_ends_36 : decode b_m_ends 36 = .ok (.iadd, 1) := by decide +kernel
theorem d_m_ends_37 : decode b_m_ends 37 = .ok (.iaload, 1) := by decide +kernel
theorem d_m_ends_38 : decode b_m_ends 38 = .ok (.iconst 1, 1) := by decide +kernel
theorem d_m_ends_39 : decode b_m_ends 39 = .ok (.if_icmp .ne 20, 3) := by decide +kernel
theorem d_m_ends_42 : decode b_m_ends 42 = .ok (.aload_n 0, 1) := by decide +kernel
theorem d_m_ends_43 : decode b_m_ends 43 = .ok (.getfield 7, 3) := by decide +kernel
theorem d_m_ends_46 : decode b_m_ends 46 = .ok (.iload_n 3, 1) := by decide +kernel
theorem d_m_ends_47 : decode b_m_ends 47 = .ok (.iconst 5, 1) := by decide +kernel
theorem d_m_ends_48 : decode b_m_ends 48 = .ok (.iadd, 1) := by decide +kernel
theorem d_m_ends_49 : decode b_m_ends 49 = .ok (.iconst 0, 1) := by decide +kernel
theorem d_m_ends_50 : decode b_m_ends 50 = .ok (.iastore, 1) := by decide +kernel
theorem d_m_ends_51 : decode b_m_ends 51 = .ok (.aload_n 0, 1) := by decide +kernel
theorem d_m_ends_52 : decode b_m_ends 52 = .ok (.iconst 4, 1) := by decide +kernel
theorem d_m_ends_53 : decode b_m_ends 53 = .ok (.iload_n 1, 1) := by decide +kernel
theorem d_m_ends_54 : decode b_m_ends 54 = .ok (.bipush (-9), 2) := by decide +kernel
theorem d_m_ends_56 : decode b_m_ends 56 = .ok (.invokevirtual 99, 3) := by decide +kernel
theorem d_m_ends_59 : decode b_m_ends 59 = .ok (.return_, 1) := by decide +kernel
theorem d_m_ends_60 : decode b_m_ends 60 = .ok (.aload_n 0, 1) := by decide +kernel
theorem d_m_ends_61 : decode b_m_ends 61 = .ok (.getfield 7, 3) := by decide +kernel
theorem d_m_ends_64 : decode b_m_ends 64 = .ok (.iload_n 3, 1) := by decide +kernel
theorem d_m_ends_65 : decode b_m_ends 65 = .ok (.iconst 3, 1) := by decide +kernel
theorem d_m_ends_66 : decode b_m_ends 66 = .ok (.iadd, 1) := by decide +kernel
theorem d_m_ends_67 : decode b_m_ends 67 = .ok (.dup2, 1) := by decide +kernel
theorem d_m_ends_68 : decode b_m_ends 68 = .ok (.iaload, 1) := by decide +kernel
theorem d_m_ends_69 : decode b_m_ends 69 = .ok (.iconst 1, 1) := by decide +kernel
theorem d_m_ends_70 : decode b_m_ends 70 = .ok (.iadd, 1) := by decide +kernel
theorem d_m_ends_71 : decode b_m_ends 71 = .ok (.iastore, 1) := by decide +kernel
theorem d_m_ends_72 : decode b_m_ends 72 = .ok (.aload_n 0, 1) := by decide +kernel
theorem d_m_ends_73 : decode b_m_ends 73 = .ok (.getfield 7, 3) := by decide +kernel
theorem d_m_ends_76 : decode b_m_ends 76 = .ok (.iload_n 3, 1) := by decide +kernel
theorem d_m_ends_77 : decode b_m_ends 77 = .ok (.iconst 4, 1) := by decide +kernel
theorem d_m_ends_78 : decode b_m_ends 78 = .ok (.iadd, 1) := by decide +kernel
theorem d_m_ends_79 : decode b_m_ends 79 = .ok (.dup2, 1) := by decide +kernel
theorem d_m_ends_80 : decode b_m_ends 80 = .ok (.iaload, 1) := by decide +kernel
theorem d_m_ends_81 : decode b_m_ends 81 = .ok (.iconst 1, 1) := by decide +kernel
theorem d_m_ends_82 : decode b_m_ends 82 = .ok (.iadd, 1) := by decide +kernel
theorem d_m_ends_83 : decode b_m_ends 83 = .ok (.iastore, 1) := by decide +kernel
theorem d_m_ends_84 : decode b_m_ends 84 = .ok (.aload_n 0, 1) := by decide +kernel
theorem d_m_ends_85 : decode b_m_ends 85 = .ok (.getfield 7, 3) := by decide +kernel
theorem d_m_ends_88 : decode b_m_ends 88 = .ok (.iload_n 3, 1) := by decide +kernel
theorem d_m_ends_89 : decode b_m_ends 89 = .ok (.iconst 4, 1) := by decide +kernel
theorem d_m_ends_90 : decode b_m_ends 90 = .ok (.iadd, 1) := by decide +kernel
theorem d_m_ends_91 : decode b_m_ends 91 = .ok (.iaload, 1) := by decide +kernel
theorem d_m_ends_92 : decode b_m_ends 92 = .ok (.iconst 3, 1) := by decide +kernel
theorem d_m_ends_93 : decode b_m_ends 93 = .ok (.if_icmp .ne 31, 3) := by decide +kernel
theorem d_m_ends_96 : decode b_m_ends 96 = .ok (.aload_n 0, 1) := by decide +kernel
theorem d_m_ends_97 : decode b_m_ends 97 = .ok (.getfield 7, 3) := by decide +kernel
theorem d_m_ends_100 : decode b_m_ends 100 = .ok (.iload_n 3, 1) := by decide +kernel
theorem d_m_ends_101 : decode b_m_ends 101 = .ok (.iconst 5, 1) := by decide +kernel
theorem d_m_ends_102 : decode b_m_ends 102 = .ok (.iadd, 1) := by decide +kernel
theorem d_m_ends_103 : decode b_m_ends 103 = .ok (.iaload, 1) := by decide +kernel
theorem d_m_ends_104 : decode b_m_ends 104 = .ok (.ifCond .ne 20, 3) := by decide +kernel
theorem d_m_ends_107 : decode b_m_ends 107 = .ok (.aload_n 0, 1) := by decide +kernel
theorem d_m_ends_108 : decode b_m_ends 108 = .ok (.getfield 7, 3) := by decide +kernel
theorem d_m_ends_111 : decode b_m_ends 111 = .ok (.iload_n 3, 1) := by decide +kernel
theorem d_m_ends_112 : decode b_m_ends 112 = .ok (.iconst 5, 1) := by decide +kernel
theorem d_m_ends_113 : decode b_m_ends 113 = .ok (.iadd, 1) := by decide +kernel
theorem d_m_ends_114 : decode b_m_ends 114 = .ok (.iconst 1, 1) := by decide +kernel
theorem d_m_ends_115 : decode b_m_ends 115 = .ok (.iastore, 1) := by decide +kernel
theorem d_m_ends_116 : decode b_m_ends 116 = .ok (.aload_n 0, 1) := by decide +kernel
theorem d_m_ends_117 : decode b_m_ends 117 = .ok (.iconst 3, 1) := by decide +kernel
theorem d_m_ends_118 : decode b_m_ends 118 = .ok (.iload_n 1, 1) := by decide +kernel
theorem d_m_ends_119 : decode b_m_ends 119 = .ok (.bipush (-9), 2) := by decide +kernel
theorem d_m_ends_121 : decode b_m_ends 121 = .ok (.invokevirtual 99, 3) := by decide +kernel
theorem d_m_ends_124 : decode b_m_ends 124 = .ok (.return_, 1) := by decide +kernel
theorem d_m_reports_0 : decode b_m_reports 0 = .ok (.aload_n 0, 1) := by decide +kernel
theorem d_m_reports_1 : decode b_m_reports 1 = .ok (.getfield 7, 3) := by decide +kernel
theorem d_m_reports_4 : decode b_m_reports 4 = .ok (.iload_n 1, 1) := by decide +kernel
theorem d_m_reports_5 : decode b_m_reports 5 = .ok (.invokestatic 141, 3) := by decide +kernel
theorem d_m_reports_8 : decode b_m_reports 8 = .ok (.iconst 1, 1) := by decide +kernel
theorem d_m_reports_9 : decode b_m_reports 9 = .ok (.iadd, 1) := by decide +kernel
theorem d_m_reports_10 : decode b_m_reports 10 = .ok (.iaload, 1) := by decide +kernel
theorem d_m_reports_11 : decode b_m_reports 11 = .ok (.istore 4, 2) := by decide +kernel
theorem d_m_reports_13 : decode b_m_reports 13 = .ok (.aload_n 0, 1) := by decide +kernel
theorem d_m_reports_14 : decode b_m_reports 14 = .ok (.iload_n 1, 1) := by decide +kernel
theorem d_m_reports_15 : decode b_m_reports 15 = .ok (.iload_n 2, 1) := by decide +kernel
theorem d_m_reports_16 : decode b_m_reports 16 = .ok (.invokevirtual 207, 3) := by decide +kernel
theorem d_m_reports_19 : decode b_m_reports 19 = .ok (.istore 5, 2) := by decide +kernel
theorem d_m_reports_21 : decode b_m_reports 21 = .ok (.iconst 0, 1) := by decide +kernel
theorem d_m_reports_22 : decode b_m_reports 22 = .ok (.istore 6, 2) := by decide +kernel
theorem d_m_reports_24 : decode b_m_reports 24 = .ok (.iload 6, 2) := by decide +kernel
theorem d_m_reports_26 : decode b_m_reports 26 = .ok (.iload_n 2, 1) := by decide +kernel
theorem d_m_reports_27 : decode b_m_reports 27 = .ok (.if_icmp .ge 96, 3) := by decide +kernel
theorem d_m_reports_30 : decode b_m_reports 30 = .ok (.iload 4, 2) := by decide +kernel
theorem d_m_reports_32 : decode b_m_reports 32 = .ok (.aload_n 0, 1) := by decide +kernel
theorem d_m_reports_33 : decode b_m_reports 33 = .ok (.iload_n 1, 1) := by decide +kernel
theorem d_m_reports_34 : decode b_m_reports 34 = .ok (.iload 6, 2) := by decide +kernel
theorem d_m_reports_36 : decode b_m_reports 36 = .ok (.invokevirtual 198, 3) := by decide +kernel
theorem d_m_reports_39 : decode b_m_reports 39 = .ok (.invokestatic 57, 3) := by decide +kernel
theorem d_m_reports_42 : decode b_m_reports 42 = .ok (.istore 7, 2) := by decide +kernel
theorem d_m_reports_44 : decode b_m_reports 44 = .ok (.iload_n 3, 1) := by decide +kernel
theorem d_m_reports_45 : decode b_m_reports 45 = .ok (.ifCond .eq 15, 3) := by decide +kernel
theorem d_m_reports_48 : decode b_m_reports 48 = .ok (.iload 6, 2) := by decide +kernel
theorem d_m_reports_50 : decode b_m_reports 50 = .ok (.iload_n 2, 1) := by decide +kernel
theorem d_m_reports_51 : decode b_m_reports 51 = .ok (.iconst 1, 1) := by decide +kernel
theorem d_m_reports_52 : decode b_m_reports 52 = .ok (.isub, 1) := by decide +kernel
theorem d_m_reports_53 : decode b_m_reports 53 = .ok (.if_icmp .ne 7, 3) := by decide +kernel
theorem d_m_reports_56 : decode b_m_reports 56 = .ok (.iconst 1, 1) := by decide +kernel
theorem d_m_reports_57 : decode b_m_reports 57 = .ok (.goto 4, 3) := by decide +kernel
theorem d_m_reports_60 : decode b_m_reports 60 = .ok (.iconst 0, 1) := by decide +kernel
theorem d_m_reports_61 : decode b_m_reports 61 = .ok (.istore 8, 2) := by decide +kernel
theorem d_m_reports_63 : decode b_m_reports 63 = .ok (.aload_n 0, 1) := by decide +kernel
theorem d_m_reports_64 : decode b_m_reports 64 = .ok (.getfield 7, 3) := by decide +kernel
theorem d_m_reports_67 : decode b_m_reports 67 = .ok (.iload 7, 2) := by decide +kernel
theorem d_m_reports_69 : decode b_m_reports 69 = .ok (.iconst 2, 1) := by decide +kernel
theorem d_m_reports_70 : decode b_m_reports 70 = .ok (.iadd, 1) := by decide +kernel
theorem d_m_reports_71 : decode b_m_reports 71 = .ok (.dup2, 1) := by decide +kernel
theorem d_m_reports_72 : decode b_m_reports 72 = .ok (.iaload, 1) := by decide +kernel
theorem d_m_reports_73 : decode b_m_reports 73 = .ok (.iconst 1, 1) := by decide +kernel
theorem d_m_reports_74 : decode b_m_reports 74 = .ok (.iadd, 1) := by decide +kernel
theorem d_m_reports_75 : decode b_m_reports 75 = .ok (.iastore, 1) := by decide +kernel
theorem d_m_reports_76 : decode b_m_reports 76 = .ok (.aload_n 0, 1) := by decide +kernel
theorem d_m_reports_77 : decode b_m_reports 77 = .ok (.getfield 7, 3) := by decide +kernel
theorem d_m_reports_80 : decode b_m_reports 80 = .ok (.iload 7, 2) := by decide +kernel
theorem d_m_reports_82 : decode b_m_reports 82 = .ok (.iconst 4, 1) := by decide +kernel
theorem d_m_reports_83 : decode b_m_reports 83 = .ok (.iadd, 1) := by decide +kernel
theorem d_m_reports_84 : decode b_m_reports 84 = .ok (.dup2, 1) := by decide +kernel
theorem d_m_reports_85 : decode b_m_reports 85 = .ok (.iaload, 1) := by decide +kernel
theorem d_m_reports_86 : decode b_m_reports 86 = .ok (.iconst 1, 1) := by decide +kernel
theorem d_m_reports_87 : decode b_m_reports 87 = .ok (.iadd, 1) := by decide +kernel
theorem d_m_reports_88 : decode b_m_reports 88 = .ok (.iastore, 1) := by decide +kernel
theorem d_m_reports_89 : decode b_m_reports 89 = .ok (.aload_n 0, 1) := by decide +kernel
theorem d_m_reports_90 : decode b_m_reports 90 = .ok (.getfield 7, 3) := by decide +kernel
theorem d_m_reports_93 : decode b_m_reports 93 = .ok (.iload 7, 2) := by decide +kernel
theorem d_m_reports_95 : decode b_m_reports 95 = .ok (.iconst 3, 1) := by decide +kernel
theorem d_m_reports_96 : decode b_m_reports 96 = .ok (.iadd, 1) := by decide +kernel
theorem d_m_reports_97 : decode b_m_reports 97 = .ok (.dup2, 1) := by decide +kernel
theorem d_m_reports_98 : decode b_m_reports 98 = .ok (.iaload, 1) := by decide +kernel
theorem d_m_reports_99 : decode b_m_reports 99 = .ok (.iload 8, 2) := by decide +kernel
theorem d_m_reports_101 : decode b_m_reports 101 = .ok (.iadd, 1) := by decide +kernel
theorem d_m_reports_102 : decode b_m_reports 102 = .ok (.iastore, 1) := by decide +kernel
theorem d_m_reports_103 : decode b_m_reports 103 = .ok (.aload_n 0, 1) := by decide +kernel
theorem d_m_reports_104 : decode b_m_reports 104 = .ok (.getfield 7, 3) := by decide +kernel
theorem d_m_reports_107 : decode b_m_reports 107 = .ok (.iload 7, 2) := by decide +kernel
theorem d_m_reports_109 : decode b_m_reports 109 = .ok (.iconst 5, 1) := by decide +kernel
theorem d_m_reports_110 : decode b_m_reports 110 = .ok (.iadd, 1) := by decide +kernel
theorem d_m_reports_111 : decode b_m_reports 111 = .ok (.dup2, 1) := by decide +kernel
theorem d_m_reports_112 : decode b_m_reports 112 = .ok (.iaload, 1) := by decide +kernel
theorem d_m_reports_113 : decode b_m_reports 113 = .ok (.iload 8, 2) := by decide +kernel
theorem d_m_reports_115 : decode b_m_reports 115 = .ok (.iadd, 1) := by decide +kernel
theorem d_m_reports_116 : decode b_m_reports 116 = .ok (.iastore, 1) := by decide +kernel
theorem d_m_reports_117 : decode b_m_reports 117 = .ok (.iinc 6 1, 3) := by decide +kernel
theorem d_m_reports_120 : decode b_m_reports 120 = .ok (.goto (-96), 3) := by decide +kernel
theorem d_m_reports_123 : decode b_m_reports 123 = .ok (.aload_n 0, 1) := by decide +kernel
theorem d_m_reports_124 : decode b_m_reports 124 = .ok (.getfield 7, 3) := by decide +kernel
theorem d_m_reports_127 : decode b_m_reports 127 = .ok (.iload_n 1, 1) := by decide +kernel
theorem d_m_reports_128 : decode b_m_reports 128 = .ok (.invokestatic 141, 3) := by decide +kernel
theorem d_m_reports_131 : decode b_m_reports 131 = .ok (.iconst 0, 1) := by decide +kernel
theorem d_m_reports_132 : decode b_m_reports 132 = .ok (.iadd, 1) := by decide +kernel
theorem d_m_reports_133 : decode b_m_reports 133 = .ok (.iconst 0, 1) := by decide +kernel
theorem d_m_reports_134 : decode b_m_reports 134 = .ok (.iastore, 1) := by decide +kernel
theorem d_m_reports_135 : decode b_m_reports 135 = .ok (.aload_n 0, 1) := by decide +kernel
theorem d_m_reports_136 : decode b_m_reports 136 = .ok (.getfield 7, 3) := by decide +kernel
theorem d_m_reports_139 : decode b_m_reports 139 = .ok (.iconst 0, 1) := by decide +kernel
theorem d_m_reports_140 : decode b_m_reports 140 = .ok (.dup2, 1) := by decide +kernel
theorem d_m_reports_141 : decode b_m_reports 141 = .ok (.iaload, 1) := by decide +kernel
theorem d_m_reports_142 : decode b_m_reports 142 = .ok (.iload 5, 2) := by decide +kernel
theorem d_m_reports_144 : decode b_m_reports 144 = .ok (.iadd, 1) := by decide +kernel
theorem d_m_reports_145 : decode b_m_reports 145 = .ok (.iastore, 1) := by decide +kernel
theorem d_m_reports_146 : decode b_m_reports 146 = .ok (.aload_n 0, 1) := by decide +kernel
theorem d_m_reports_147 : decode b_m_reports 147 = .ok (.getfield 7, 3) := by decide +kernel
theorem d_m_reports_150 : decode b_m_reports 150 = .ok (.iload 4, 2) := by decide +kernel
theorem d_m_reports_152 : decode b_m_reports 152 = .ok (.invokestatic 81, 3) := by decide +kernel
theorem d_m_reports_155 : decode b_m_reports 155 = .ok (.bipush 15, 2) := by decide +kernel
theorem d_m_reports_157 : decode b_m_reports 157 = .ok (.iadd, 1) := by decide +kernel
theorem d_m_reports_158 : decode b_m_reports 158 = .ok (.iaload, 1) := by decide +kernel
theorem d_m_reports_159 : decode b_m_reports 159 = .ok (.iload 5, 2) := by decide +kernel
theorem d_m_reports_161 : decode b_m_reports 161 = .ok (.isub, 1) := by decide +kernel
theorem d_m_reports_162 : decode b_m_reports 162 = .ok (.istore 6, 2) := by decide +kernel
theorem d_m_reports_164 : decode b_m_reports 164 = .ok (.aload_n 0, 1) := by decide +kernel
theorem d_m_reports_165 : decode b_m_reports 165 = .ok (.getfield 7, 3) := by decide +kernel
theorem d_m_reports_168 : decode b_m_reports 168 = .ok (.iload 4, 2) := by decide +kernel
theorem d_m_reports_170 : decode b_m_reports 170 = .ok (.invokestatic 81, 3) := by decide +kernel
theorem d_m_reports_173 : decode b_m_reports 173 = .ok (.bipush 15, 2) := by decide +kernel
theorem d_m_reports_175 : decode b_m_reports 175 = .ok (.iadd, 1) := by decide +kernel
theorem d_m_reports_176 : decode b_m_reports 176 = .ok (.iload 6, 2) := by decide +kernel
theorem d_m_reports_178 : decode b_m_reports 178 = .ok (.ldc 210, 2) := by decide +kernel
theorem d_m_reports_180 : decode b_m_reports 180 = .ok (.if_icmp .ge 8, 3) := by decide +kernel
theorem d_m_reports_183 : decode b_m_reports 183 = .ok (.ldc 210, 2) := by decide +kernel
theorem d_m_reports_185 : decode b_m_reports 185 = .ok (.goto 5, 3) := by decide +kernel
theorem d_m_reports_188 : decode b_m_reports 188 = .ok (.iload 6, 2) := by decide +kernel
theorem d_m_reports_190 : decode b_m_reports 190 = .ok (.iastore, 1) := by decide +kernel
theorem d_m_reports_191 : decode b_m_reports 191 = .ok (.aload_n 0, 1) := by decide +kernel
theorem d_m_reports_192 : decode b_m_reports 192 = .ok (.iload 4, 2) := by decide +kernel
theorem d_m_reports_194 : decode b_m_reports 194 = .ok (.iload_n 3, 1) := by decide +kernel
theorem d_m_reports_195 : decode b_m_reports 195 = .ok (.invokevirtual 211, 3) := by decide +kernel
theorem d_m_reports_198 : decode b_m_reports 198 = .ok (.aload_n 0, 1) := by decide +kernel
theorem d_m_reports_199 : decode b_m_reports 199 = .ok (.invokevirtual 215, 3) := by decide +kernel
theorem d_m_reports_202 : decode b_m_reports 202 = .ok (.iload 5, 2) := by decide +kernel
theorem d_m_reports_204 : decode b_m_reports 204 = .ok (.ireturn, 1) := by decide +kernel
theorem d_m_isOpen_0 : decode b_m_isOpen 0 = .ok (.iload_n 1, 1) := by decide +kernel
theorem d_m_isOpen_1 : decode b_m_isOpen 1 = .ok (.iconst 0, 1) := by decide +kernel
theorem d_m_isOpen_2 : decode b_m_isOpen 2 = .ok (.iconst 5, 1) := by decide +kernel
theorem d_m_isOpen_3 : decode b_m_isOpen 3 = .ok (.invokestatic 31, 3) := by decide +kernel
theorem d_m_isOpen_6 : decode b_m_isOpen 6 = .ok (.ifCond .eq 22, 3) := by decide +kernel
theorem d_m_isOpen_9 : decode b_m_isOpen 9 = .ok (.aload_n 0, 1) := by decide +kernel
theorem d_m_isOpen_10 : decode b_m_isOpen 10 = .ok (.getfield 7, 3) := by decide +kernel
theorem d_m_isOpen_13 : decode b_m_isOpen 13 = .ok (.iload_n 1, 1) := by decide +kernel
theorem d_m_isOpen_14 : decode b_m_isOpen 14 = .ok (.invokestatic 141, 3) := by decide +kernel
theorem d_m_isOpen_17 : decode b_m_isOpen 17 = .ok (.iconst 0, 1) := by decide +kernel
theorem d_m_isOpen_18 : decode b_m_isOpen 18 = .ok (.iadd, 1) := by decide +kernel
theorem d_m_isOpen_19 : decode b_m_isOpen 19 = .ok (.iaload, 1) := by decide +kernel
theorem d_m_isOpen_20 : decode b_m_isOpen 20 = .ok (.iconst 1, 1) := by decide +kernel
theorem d_m_isOpen_21 : decode b_m_isOpen 21 = .ok (.if_icmp .ne 7, 3) := by decide +kernel
theorem d_m_isOpen_24 : decode b_m_isOpen 24 = .ok (.iconst 1, 1) := by decide +kernel
theorem d_m_isOpen_25 : decode b_m_isOpen 25 = .ok (.goto 4, 3) := by decide +kernel
theorem d_m_isOpen_28 : decode b_m_isOpen 28 = .ok (.iconst 0, 1) := by decide +kernel
theorem d_m_isOpen_29 : decode b_m_isOpen 29 = .ok (.ireturn, 1) := by decide +kernel
theorem d_m_report_0 : decode b_m_report 0 = .ok (.aload_n 0, 1) := by decide +kernel
theorem d_m_report_1 : decode b_m_report 1 = .ok (.iload_n 1, 1) := by decide +kernel
theorem d_m_report_2 : decode b_m_report 2 = .ok (.invokevirtual 218, 3) := by decide +kernel
theorem d_m_report_5 : decode b_m_report 5 = .ok (.ifCond .eq 29, 3) := by decide +kernel
theorem d_m_report_8 : decode b_m_report 8 = .ok (.iload_n 2, 1) := by decide +kernel
theorem d_m_report_9 : decode b_m_report 9 = .ok (.iconst 1, 1) := by decide +kernel
theorem d_m_report_10 : decode b_m_report 10 = .ok (.aload_n 0, 1) := by decide +kernel
theorem d_m_report_11 : decode b_m_report 11 = .ok (.iload_n 1, 1) := by decide +kernel
theorem d_m_report_12 : decode b_m_report 12 = .ok (.invokevirtual 221, 3) := by decide +kernel
theorem d_m_report_15 : decode b_m_report 15 = .ok (.invokestatic 31, 3) := by decide +kernel
theorem d_m_report_18 : decode b_m_report 18 = .ok (.ifCond .eq 16, 3) := by decide +kernel
theorem d_m_report_21 : decode b_m_report 21 = .ok (.iload_n 3, 1) := by decide +kernel
theorem d_m_report_22 : decode b_m_report 22 = .ok (.ifCond .ne 14, 3) := by decide +kernel
theorem d_m_report_25 : decode b_m_report 25 = .ok (.iload_n 2, 1) := by decide +kernel
theorem d_m_report_26 : decode b_m_report 26 = .ok (.aload_n 0, 1) := by decide +kernel
theorem d_m_report_27 : decode b_m_report 27 = .ok (.iload_n 1, 1) := by decide +kernel
theorem d_m_report_28 : decode b_m_report 28 = .ok (.invokevirtual 221, 3) := by decide +kernel
theorem d_m_report_31 : decode b_m_report 31 = .ok (.if_icmp .ge 5, 3) := by decide +kernel
theorem d_m_report_34 : decode b_m_report 34 = .ok (.iconst (-1), 1) := by decide +kernel
theorem d_m_report_35 : decode b_m_report 35 = .ok (.ireturn, 1) := by decide +kernel
theorem d_m_report_36 : decode b_m_report 36 = .ok (.aload_n 0, 1) := by decide +kernel
theorem d_m_report_37 : decode b_m_report 37 = .ok (.getfield 7, 3) := by decide +kernel
theorem d_m_report_40 : decode b_m_report 40 = .ok (.iconst 0, 1) := by decide +kernel
theorem d_m_report_41 : decode b_m_report 41 = .ok (.iaload, 1) := by decide +kernel
theorem d_m_report_42 : decode b_m_report 42 = .ok (.ldc 90, 2) := by decide +kernel
theorem d_m_report_44 : decode b_m_report 44 = .ok (.aload_n 0, 1) := by decide +kernel
theorem d_m_report_45 : decode b_m_report 45 = .ok (.iload_n 1, 1) := by decide +kernel
theorem d_m_report_46 : decode b_m_report 46 = .ok (.iload_n 2, 1) := by decide +kernel
theorem d_m_report_47 : decode b_m_report 47 = .ok (.invokevirtual 207, 3) := by decide +kernel
theorem d_m_report_50 : decode b_m_report 50 = .ok (.isub, 1) := by decide +kernel
theorem d_m_report_51 : decode b_m_report 51 = .ok (.if_icmp .le 6, 3) := by decide +kernel
theorem d_m_report_54 : decode b_m_report 54 = .ok (.bipush (-4), 2) := by decide +kernel
theorem d_m_report_56 : decode b_m_report 56 = .ok (.ireturn, 1) := by decide +kernel
theorem d_m_report_57 : decode b_m_report 57 = .ok (.aload_n 0, 1) := by decide +kernel
theorem d_m_report_58 : decode b_m_report 58 = .ok (.invokevirtual 127, 3) := by decide +kernel
theorem d_m_report_61 : decode b_m_report 61 = .ok (.aload_n 0, 1) := by decide +kernel
theorem d_m_report_62 : decode b_m_report 62 = .ok (.iload_n 1, 1) := by decide +kernel
theorem d_m_report_63 : decode b_m_report 63 = .ok (.iload_n 2, 1) := by decide +kernel
theorem d_m_report_64 : decode b_m_report 64 = .ok (.iload_n 3, 1) := by decide +kernel
theorem d_m_report_65 : decode b_m_report 65 = .ok (.invokevirtual 224, 3) := by decide +kernel
theorem d_m_report_68 : decode b_m_report 68 = .ok (.ireturn, 1) := by decide +kernel
theorem d_m_pass_0 : decode b_m_pass 0 = .ok (.iload_n 1, 1) := by decide +kernel
theorem d_m_pass_1 : decode b_m_pass 1 = .ok (.ifCond .ge 5, 3) := by decide +kernel
theorem d_m_pass_4 : decode b_m_pass 4 = .ok (.iconst (-1), 1) := by decide +kernel
theorem d_m_pass_5 : decode b_m_pass 5 = .ok (.ireturn, 1) := by decide +kernel
theorem d_m_pass_6 : decode b_m_pass 6 = .ok (.aload_n 0, 1) := by decide +kernel
theorem d_m_pass_7 : decode b_m_pass 7 = .ok (.getfield 7, 3) := by decide +kernel
theorem d_m_pass_10 : decode b_m_pass 10 = .ok (.iconst 0, 1) := by decide +kernel
theorem d_m_pass_11 : decode b_m_pass 11 = .ok (.iaload, 1) := by decide +kernel
theorem d_m_pass_12 : decode b_m_pass 12 = .ok (.ldc 90, 2) := by decide +kernel
theorem d_m_pass_14 : decode b_m_pass 14 = .ok (.iload_n 1, 1) := by decide +kernel
theorem d_m_pass_15 : decode b_m_pass 15 = .ok (.isub, 1) := by decide +kernel
theorem d_m_pass_16 : decode b_m_pass 16 = .ok (.if_icmp .le 6, 3) := by decide +kernel
theorem d_m_pass_19 : decode b_m_pass 19 = .ok (.bipush (-4), 2) := by decide +kernel
theorem d_m_pass_21 : decode b_m_pass 21 = .ok (.ireturn, 1) := by decide +kernel
theorem d_m_pass_22 : decode b_m_pass 22 = .ok (.aload_n 0, 1) := by decide +kernel
theorem d_m_pass_23 : decode b_m_pass 23 = .ok (.invokevirtual 127, 3) := by decide +kernel
theorem d_m_pass_26 : decode b_m_pass 26 = .ok (.aload_n 0, 1) := by decide +kernel
theorem d_m_pass_27 : decode b_m_pass 27 = .ok (.getfield 7, 3) := by decide +kernel
theorem d_m_pass_30 : decode b_m_pass 30 = .ok (.iconst 0, 1) := by decide +kernel
theorem d_m_pass_31 : decode b_m_pass 31 = .ok (.dup2, 1) := by decide +kernel
theorem d_m_pass_32 : decode b_m_pass 32 = .ok (.iaload, 1) := by decide +kernel
theorem d_m_pass_33 : decode b_m_pass 33 = .ok (.iload_n 1, 1) := by decide +kernel
theorem d_m_pass_34 : decode b_m_pass 34 = .ok (.iadd, 1) := by decide +kernel
theorem d_m_pass_35 : decode b_m_pass 35 = .ok (.iastore, 1) := by decide +kernel
theorem d_m_pass_36 : decode b_m_pass 36 = .ok (.aload_n 0, 1) := by decide +kernel
theorem d_m_pass_37 : decode b_m_pass 37 = .ok (.invokevirtual 215, 3) := by decide +kernel
theorem d_m_pass_40 : decode b_m_pass 40 = .ok (.aload_n 0, 1) := by decide +kernel
theorem d_m_pass_41 : decode b_m_pass 41 = .ok (.getfield 7, 3) := by decide +kernel
theorem d_m_pass_44 : decode b_m_pass 44 = .ok (.iconst 0, 1) := by decide +kernel
theorem d_m_pass_45 : decode b_m_pass 45 = .ok (.iaload, 1) := by decide +kernel
theorem d_m_pass_46 : decode b_m_pass 46 = .ok (.ireturn, 1) := by decide +kernel
theorem d_m_update_0 : decode b_m_update 0 = .ok (.aload_n 0, 1) := by decide +kernel
theorem d_m_update_1 : decode b_m_update 1 = .ok (.iload_n 1, 1) := by decide +kernel
theorem d_m_update_2 : decode b_m_update 2 = .ok (.invokevirtual 35, 3) := by decide +kernel
theorem d_m_update_5 : decode b_m_update 5 = .ok (.ifCond .ne 5, 3) := by decide +kernel
theorem d_m_update_8 : decode b_m_update 8 = .ok (.iconst (-1), 1) := by decide +kernel
theorem d_m_update_9 : decode b_m_update 9 = .ok (.ireturn, 1) := by decide +kernel
theorem d_m_update_10 : decode b_m_update 10 = .ok (.aload_n 0, 1) := by decide +kernel
theorem d_m_update_11 : decode b_m_update 11 = .ok (.invokevirtual 127, 3) := by decide +kernel
theorem d_m_update_14 : decode b_m_update 14 = .ok (.aload_n 0, 1) := by decide +kernel
theorem d_m_update_15 : decode b_m_update 15 = .ok (.iload_n 1, 1) := by decide +kernel
theorem d_m_update_16 : decode b_m_update 16 = .ok (.invokevirtual 124, 3) := by decide +kernel
theorem d_m_update_19 : decode b_m_update 19 = .ok (.ireturn, 1) := by decide +kernel
theorem d_m_kind_0 : decode b_m_kind 0 = .ok (.aload_n 0, 1) := by decide +kernel
theorem d_m_kind_1 : decode b_m_kind 1 = .ok (.iload_n 1, 1) := by decide +kernel
theorem d_m_kind_2 : decode b_m_kind 2 = .ok (.invokevirtual 218, 3) := by decide +kernel
theorem d_m_kind_5 : decode b_m_kind 5 = .ok (.ifCond .eq 17, 3) := by decide +kernel
theorem d_m_kind_8 : decode b_m_kind 8 = .ok (.aload_n 0, 1) := by decide +kernel
theorem d_m_kind_9 : decode b_m_kind 9 = .ok (.getfield 7, 3) := by decide +kernel
theorem d_m_kind_12 : decode b_m_kind 12 = .ok (.iload_n 1, 1) := by decide +kernel
theorem d_m_kind_13 : decode b_m_kind 13 = .ok (.invokestatic 141, 3) := by decide +kernel
theorem d_m_kind_16 : decode b_m_kind 16 = .ok (.iconst 3, 1) := by decide +kernel
theorem d_m_kind_17 : decode b_m_kind 17 = .ok (.iadd, 1) := by decide +kernel
theorem d_m_kind_18 : decode b_m_kind 18 = .ok (.iaload, 1) := by decide +kernel
theorem d_m_kind_19 : decode b_m_kind 19 = .ok (.goto 4, 3) := by decide +kernel
theorem d_m_kind_22 : decode b_m_kind 22 = .ok (.iconst (-1), 1) := by decide +kernel
theorem d_m_kind_23 : decode b_m_kind 23 = .ok (.ireturn, 1) := by decide +kernel
theorem d_m_stationOf_0 : decode b_m_stationOf 0 = .ok (.aload_n 0, 1) := by decide +kernel
theorem d_m_stationOf_1 : decode b_m_stationOf 1 = .ok (.iload_n 1, 1) := by decide +kernel
theorem d_m_stationOf_2 : decode b_m_stationOf 2 = .ok (.invokevirtual 218, 3) := by decide +kernel
theorem d_m_stationOf_5 : decode b_m_stationOf 5 = .ok (.ifCond .eq 17, 3) := by decide +kernel
theorem d_m_stationOf_8 : decode b_m_stationOf 8 = .ok (.aload_n 0, 1) := by decide +kernel
theorem d_m_stationOf_9 : decode b_m_stationOf 9 = .ok (.getfield 7, 3) := by decide +kernel
theorem d_m_stationOf_12 : decode b_m_stationOf 12 = .ok (.iload_n 1, 1) := by decide +kernel
theorem d_m_stationOf_13 : decode b_m_stationOf 13 = .ok (.invokestatic 141, 3) := by decide +kernel
theorem d_m_stationOf_16 : decode b_m_stationOf 16 = .ok (.iconst 1, 1) := by decide +kernel
theorem d_m_stationOf_17 : decode b_m_stationOf 17 = .ok (.iadd, 1) := by decide +kernel
theorem d_m_stationOf_18 : decode b_m_stationOf 18 = .ok (.iaload, 1) := by decide +kernel
theorem d_m_stationOf_19 : decode b_m_stationOf 19 = .ok (.goto 4, 3) := by decide +kernel
theorem d_m_stationOf_22 : decode b_m_stationOf 22 = .ok (.iconst (-1), 1) := by decide +kernel
theorem d_m_stationOf_23 : decode b_m_stationOf 23 = .ok (.ireturn, 1) := by decide +kernel
theorem d_m_entryRate_0 : decode b_m_entryRate 0 = .ok (.aload_n 0, 1) := by decide +kernel
theorem d_m_entryRate_1 : decode b_m_entryRate 1 = .ok (.iload_n 1, 1) := by decide +kernel
theorem d_m_entryRate_2 : decode b_m_entryRate 2 = .ok (.invokevirtual 218, 3) := by decide +kernel
theorem d_m_entryRate_5 : decode b_m_entryRate 5 = .ok (.ifCond .eq 28, 3) := by decide +kernel
theorem d_m_entryRate_8 : decode b_m_entryRate 8 = .ok (.iload_n 2, 1) := by decide +kernel
theorem d_m_entryRate_9 : decode b_m_entryRate 9 = .ok (.iconst 0, 1) := by decide +kernel
theorem d_m_entryRate_10 : decode b_m_entryRate 10 = .ok (.iconst 3, 1) := by decide +kernel
theorem d_m_entryRate_11 : decode b_m_entryRate 11 = .ok (.invokestatic 31, 3) := by decide +kernel
theorem d_m_entryRate_14 : decode b_m_entryRate 14 = .ok (.ifCond .eq 19, 3) := by decide +kernel
theorem d_m_entryRate_17 : decode b_m_entryRate 17 = .ok (.aload_n 0, 1) := by decide +kernel
theorem d_m_entryRate_18 : decode b_m_entryRate 18 = .ok (.getfield 7, 3) := by decide +kernel
theorem d_m_entryRate_21 : decode b_m_entryRate 21 = .ok (.iload_n 1, 1) := by decide +kernel
theorem d_m_entryRate_22 : decode b_m_entryRate 22 = .ok (.invokestatic 141, 3) := by decide +kernel
theorem d_m_entryRate_25 : decode b_m_entryRate 25 = .ok (.iconst 5, 1) := by decide +kernel
theorem d_m_entryRate_26 : decode b_m_entryRate 26 = .ok (.iadd, 1) := by decide +kernel
theorem d_m_entryRate_27 : decode b_m_entryRate 27 = .ok (.iload_n 2, 1) := by decide +kernel
theorem d_m_entryRate_28 : decode b_m_entryRate 28 = .ok (.iadd, 1) := by decide +kernel
theorem d_m_entryRate_29 : decode b_m_entryRate 29 = .ok (.iaload, 1) := by decide +kernel
theorem d_m_entryRate_30 : decode b_m_entryRate 30 = .ok (.goto 4, 3) := by decide +kernel
theorem d_m_entryRate_33 : decode b_m_entryRate 33 = .ok (.iconst (-1), 1) := by decide +kernel
theorem d_m_entryRate_34 : decode b_m_entryRate 34 = .ok (.ireturn, 1) := by decide +kernel
theorem d_m_entryTries_0 : decode b_m_entryTries 0 = .ok (.aload_n 0, 1) := by decide +kernel
theorem d_m_entryTries_1 : decode b_m_entryTries 1 = .ok (.iload_n 1, 1) := by decide +kernel
theorem d_m_entryTries_2 : decode b_m_entryTries 2 = .ok (.invokevirtual 218, 3) := by decide +kernel
theorem d_m_entryTries_5 : decode b_m_entryTries 5 = .ok (.ifCond .eq 29, 3) := by decide +kernel
theorem d_m_entryTries_8 : decode b_m_entryTries 8 = .ok (.iload_n 2, 1) := by decide +kernel
theorem d_m_entryTries_9 : decode b_m_entryTries 9 = .ok (.iconst 0, 1) := by decide +kernel
theorem d_m_entryTries_10 : decode b_m_entryTries 10 = .ok (.iconst 3, 1) := by decide +kernel
theorem d_m_entryTries_11 : decode b_m_entryTries 11 = .ok (.invokestatic 31, 3) := by decide +kernel
theorem d_m_entryTries_14 : decode b_m_entryTries 14 = .ok (.ifCond .eq 20, 3) := by decide +kernel
theorem d_m_entryTries_17 : decode b_m_entryTries 17 = .ok (.aload_n 0, 1) := by decide +kernel
theorem d_m_entryTries_18 : decode b_m_entryTries 18 = .ok (.getfield 7, 3) := by decide +kernel
theorem d_m_entryTries_21 : decode b_m_entryTries 21 = .ok (.iload_n 1, 1) := by decide +kernel
theorem d_m_entryTries_22 : decode b_m_entryTries 22 = .ok (.invokestatic 141, 3) := by decide +kernel
theorem d_m_entryTries_25 : decode b_m_entryTries 25 = .ok (.bipush 9, 2) := by decide +kernel
theorem d_m_entryTries_27 : decode b_m_entryTries 27 = .ok (.iadd, 1) := by decide +kernel
theorem d_m_entryTries_28 : decode b_m_entryTries 28 = .ok (.iload_n 2, 1) := by decide +kernel
theorem d_m_entryTries_29 : decode b_m_entryTries 29 = .ok (.iadd, 1) := by decide +kernel
theorem d_m_entryTries_30 : decode b_m_entryTries 30 = .ok (.iaload, 1) := by decide +kernel
theorem d_m_entryTries_31 : decode b_m_entryTries 31 = .ok (.goto 4, 3) := by decide +kernel
theorem d_m_entryTries_34 : decode b_m_entryTries 34 = .ok (.iconst (-1), 1) := by decide +kernel
theorem d_m_entryTries_35 : decode b_m_entryTries 35 = .ok (.ireturn, 1) := by decide +kernel
theorem d_m_tag_0 : decode b_m_tag 0 = .ok (.aload_n 0, 1) := by decide +kernel
theorem d_m_tag_1 : decode b_m_tag 1 = .ok (.iload_n 1, 1) := by decide +kernel
theorem d_m_tag_2 : decode b_m_tag 2 = .ok (.invokevirtual 218, 3) := by decide +kernel
theorem d_m_tag_5 : decode b_m_tag 5 = .ok (.ifCond .ne 5, 3) := by decide +kernel
theorem d_m_tag_8 : decode b_m_tag 8 = .ok (.iconst (-1), 1) := by decide +kernel
theorem d_m_tag_9 : decode b_m_tag 9 = .ok (.ireturn, 1) := by decide +kernel
theorem d_m_tag_10 : decode b_m_tag 10 = .ok (.iload_n 1, 1) := by decide +kernel
theorem d_m_tag_11 : decode b_m_tag 11 = .ok (.invokestatic 141, 3) := by decide +kernel
theorem d_m_tag_14 : decode b_m_tag 14 = .ok (.istore_n 2, 1) := by decide +kernel
theorem d_m_tag_15 : decode b_m_tag 15 = .ok (.iconst 4, 1) := by decide +kernel
theorem d_m_tag_16 : decode b_m_tag 16 = .ok (.aload_n 0, 1) := by decide +kernel
theorem d_m_tag_17 : decode b_m_tag 17 = .ok (.getfield 7, 3) := by decide +kernel
theorem d_m_tag_20 : decode b_m_tag 20 = .ok (.iload_n 2, 1) := by decide +kernel
theorem d_m_tag_21 : decode b_m_tag 21 = .ok (.iconst 2, 1) := by decide +kernel
theorem d_m_tag_22 : decode b_m_tag 22 = .ok (.iadd, 1) := by decide +kernel
theorem d_m_tag_23 : decode b_m_tag 23 = .ok (.iaload, 1) := by decide +kernel
theorem d_m_tag_24 : decode b_m_tag 24 = .ok (.imul, 1) := by decide +kernel
theorem d_m_tag_25 : decode b_m_tag 25 = .ok (.aload_n 0, 1) := by decide +kernel
theorem d_m_tag_26 : decode b_m_tag 26 = .ok (.getfield 7, 3) := by decide +kernel
theorem d_m_tag_29 : decode b_m_tag 29 = .ok (.iload_n 2, 1) := by decide +kernel
theorem d_m_tag_30 : decode b_m_tag 30 = .ok (.iconst 1, 1) := by decide +kernel
theorem d_m_tag_31 : decode b_m_tag 31 = .ok (.iadd, 1) := by decide +kernel
theorem d_m_tag_32 : decode b_m_tag 32 = .ok (.iaload, 1) := by decide +kernel
theorem d_m_tag_33 : decode b_m_tag 33 = .ok (.iadd, 1) := by decide +kernel
theorem d_m_tag_34 : decode b_m_tag 34 = .ok (.istore_n 3, 1) := by decide +kernel
theorem d_m_tag_35 : decode b_m_tag 35 = .ok (.aload_n 0, 1) := by decide +kernel
theorem d_m_tag_36 : decode b_m_tag 36 = .ok (.getfield 7, 3) := by decide +kernel
theorem d_m_tag_39 : decode b_m_tag 39 = .ok (.iload_n 2, 1) := by decide +kernel
theorem d_m_tag_40 : decode b_m_tag 40 = .ok (.iconst 3, 1) := by decide +kernel
theorem d_m_tag_41 : decode b_m_tag 41 = .ok (.iadd, 1) := by decide +kernel
theorem d_m_tag_42 : decode b_m_tag 42 = .ok (.iaload, 1) := by decide +kernel
theorem d_m_tag_43 : decode b_m_tag 43 = .ok (.ifCond .ne 7, 3) := by decide +kernel
theorem d_m_tag_46 : decode b_m_tag 46 = .ok (.iload_n 3, 1) := by decide +kernel
theorem d_m_tag_47 : decode b_m_tag 47 = .ok (.goto 34, 3) := by decide +kernel
theorem d_m_tag_50 : decode b_m_tag 50 = .ok (.aload_n 0, 1) := by decide +kernel
theorem d_m_tag_51 : decode b_m_tag 51 = .ok (.getfield 7, 3) := by decide +kernel
theorem d_m_tag_54 : decode b_m_tag 54 = .ok (.iload_n 2, 1) := by decide +kernel
theorem d_m_tag_55 : decode b_m_tag 55 = .ok (.iconst 3, 1) := by decide +kernel
theorem d_m_tag_56 : decode b_m_tag 56 = .ok (.iadd, 1) := by decide +kernel
theorem d_m_tag_57 : decode b_m_tag 57 = .ok (.iaload, 1) := by decide +kernel
theorem d_m_tag_58 : decode b_m_tag 58 = .ok (.iconst 1, 1) := by decide +kernel
theorem d_m_tag_59 : decode b_m_tag 59 = .ok (.if_icmp .ne 18, 3) := by decide +kernel
theorem d_m_tag_62 : decode b_m_tag 62 = .ok (.iconst 3, 1) := by decide +kernel
theorem d_m_tag_63 : decode b_m_tag 63 = .ok (.iload_n 3, 1) := by decide +kernel
theorem d_m_tag_64 : decode b_m_tag 64 = .ok (.imul, 1) := by decide +kernel
theorem d_m_tag_65 : decode b_m_tag 65 = .ok (.aload_n 0, 1) := by decide +kernel
theorem d_m_tag_66 : decode b_m_tag 66 = .ok (.getfield 7, 3) := by decide +kernel
theorem d_m_tag_69 : decode b_m_tag 69 = .ok (.iload_n 2, 1) := by decide +kernel
theorem d_m_tag_70 : decode b_m_tag 70 = .ok (.iconst 4, 1) := by decide +kernel
theorem d_m_tag_71 : decode b_m_tag 71 = .ok (.iadd, 1) := by decide +kernel
theorem d_m_tag_72 : decode b_m_tag 72 = .ok (.iaload, 1) := by decide +kernel
theorem d_m_tag_73 : decode b_m_tag 73 = .ok (.iadd, 1) := by decide +kernel
theorem d_m_tag_74 : decode b_m_tag 74 = .ok (.goto 7, 3) := by decide +kernel
theorem d_m_tag_77 : decode b_m_tag 77 = .ok (.iload_n 3, 1) := by decide +kernel
theorem d_m_tag_78 : decode b_m_tag 78 = .ok (.ldc 26, 2) := by decide +kernel
theorem d_m_tag_80 : decode b_m_tag 80 = .ok (.iadd, 1) := by decide +kernel
theorem d_m_tag_81 : decode b_m_tag 81 = .ok (.ireturn, 1) := by decide +kernel
theorem d_m_deliveryChance_0 : decode b_m_deliveryChance 0 = .ok (.aload_n 0, 1) := by decide +kernel
theorem d_m_deliveryChance_1 : decode b_m_deliveryChance 1 = .ok (.iload_n 1, 1) := by decide +kernel
theorem d_m_deliveryChance_2 : decode b_m_deliveryChance 2 = .ok (.invokevirtual 218, 3) := by decide +kernel
theorem d_m_deliveryChance_5 : decode b_m_deliveryChance 5 = .ok (.ifCond .ne 5, 3) := by decide +kernel
theorem d_m_deliveryChance_8 : decode b_m_deliveryChance 8 = .ok (.iconst (-1), 1) := by decide +kernel
theorem d_m_deliveryChance_9 : decode b_m_deliveryChance 9 = .ok (.ireturn, 1) := by decide +kernel
theorem d_m_deliveryChance_10 : decode b_m_deliveryChance 10 = .ok (.ldc2_w 91, 3) := by decide +kernel
theorem d_m_deliveryChance_13 : decode b_m_deliveryChance 13 = .ok (.lstore_n 2, 1) := by decide +kernel
theorem d_m_deliveryChance_14 : decode b_m_deliveryChance 14 = .ok (.aload_n 0, 1) := by decide +kernel
theorem d_m_deliveryChance_15 : decode b_m_deliveryChance 15 = .ok (.iload_n 1, 1) := by decide +kernel
theorem d_m_deliveryChance_16 : decode b_m_deliveryChance 16 = .ok (.invokevirtual 221, 3) := by decide +kernel
theorem d_m_deliveryChance_19 : decode b_m_deliveryChance 19 = .ok (.istore 4, 2) := by decide +kernel
theorem d_m_deliveryChance_21 : decode b_m_deliveryChance 21 = .ok (.iconst 0, 1) := by decide +kernel
theorem d_m_deliveryChance_22 : decode b_m_deliveryChance 22 = .ok (.istore 5, 2) := by decide +kernel
theorem d_m_deliveryChance_24 : decode b_m_deliveryChance 24 = .ok (.iload 5, 2) := by decide +kernel
theorem d_m_deliveryChance_26 : decode b_m_deliveryChance 26 = .ok (.iload 4, 2) := by decide +kernel
theorem d_m_deliveryChance_28 : decode b_m_deliveryChance 28 = .ok (.if_icmp .ge 42, 3) := by decide +kernel
theorem d_m_deliveryChance_31 : decode b_m_deliveryChance 31 = .ok (.lload_n 2, 1) := by decide +kernel
theorem d_m_deliveryChance_32 : decode b_m_deliveryChance 32 = .ok (.ldc 228, 2) := by decide +kernel
theorem d_m_deliveryChance_34 : decode b_m_deliveryChance 34 = .ok (.aload_n 0, 1) := by decide +kernel
theorem d_m_deliveryChance_35 : decode b_m_deliveryChance 35 = .ok (.aload_n 0, 1) := by decide +kernel
theorem d_m_deliveryChance_36 : decode b_m_deliveryChance 36 = .ok (.getfield 7, 3) := by decide +kernel
theorem d_m_deliveryChance_39 : decode b_m_deliveryChance 39 = .ok (.iload_n 1, 1) := by decide +kernel
theorem d_m_deliveryChance_40 : decode b_m_deliveryChance 40 = .ok (.invokestatic 141, 3) := by decide +kernel
theorem d_m_deliveryChance_43 : decode b_m_deliveryChance 43 = .ok (.iconst 1, 1) := by decide +kernel
theorem d_m_deliveryChance_44 : decode b_m_deliveryChance 44 = .ok (.iadd, 1) := by decide +kernel
theorem d_m_deliveryChance_45 : decode b_m_deliveryChance 45 = .ok (.iaload, 1) := by decide +kernel
theorem d_m_deliveryChance_46 : decode b_m_deliveryChance 46 = .ok (.aload_n 0, 1) := by decide +kernel
theorem d_m_deliveryChance_47 : decode b_m_deliveryChance 47 = .ok (.iload_n 1, 1) := by decide +kernel
theorem d_m_deliveryChance_48 : decode b_m_deliveryChance 48 = .ok (.iload 5, 2) := by decide +kernel
theorem d_m_deliveryChance_50 : decode b_m_deliveryChance 50 = .ok (.invokevirtual 198, 3) := by decide +kernel
theorem d_m_deliveryChance_53 : decode b_m_deliveryChance 53 = .ok (.invokevirtual 60, 3) := by decide +kernel
theorem d_m_deliveryChance_56 : decode b_m_deliveryChance 56 = .ok (.isub, 1) := by decide +kernel
theorem d_m_deliveryChance_57 : decode b_m_deliveryChance 57 = .ok (.i2l, 1) := by decide +kernel
theorem d_m_deliveryChance_58 : decode b_m_deliveryChance 58 = .ok (.lmul, 1) := by decide +kernel
theorem d_m_deliveryChance_59 : decode b_m_deliveryChance 59 = .ok (.ldc2_w 91, 3) := by decide +kernel
theorem d_m_deliveryChance_62 : decode b_m_deliveryChance 62 = .ok (.ldiv, 1) := by decide +kernel
theorem d_m_deliveryChance_63 : decode b_m_deliveryChance 63 = .ok (.lstore_n 2, 1) := by decide +kernel
theorem d_m_deliveryChance_64 : decode b_m_deliveryChance 64 = .ok (.iinc 5 1, 3) := by decide +kernel
theorem d_m_deliveryChance_67 : decode b_m_deliveryChance 67 = .ok (.goto (-43), 3) := by decide +kernel
theorem d_m_deliveryChance_70 : decode b_m_deliveryChance 70 = .ok (.ldc2_w 91, 3) := by decide +kernel
theorem d_m_deliveryChance_73 : decode b_m_deliveryChance 73 = .ok (.lload_n 2, 1) := by decide +kernel
theorem d_m_deliveryChance_74 : decode b_m_deliveryChance 74 = .ok (.lsub, 1) := by decide +kernel
theorem d_m_deliveryChance_75 : decode b_m_deliveryChance 75 = .ok (.l2i, 1) := by decide +kernel
theorem d_m_deliveryChance_76 : decode b_m_deliveryChance 76 = .ok (.ireturn, 1) := by decide +kernel
theorem d_m_expectedTime_0 : decode b_m_expectedTime 0 = .ok (.aload_n 0, 1) := by decide +kernel
theorem d_m_expectedTime_1 : decode b_m_expectedTime 1 = .ok (.iload_n 1, 1) := by decide +kernel
theorem d_m_expectedTime_2 : decode b_m_expectedTime 2 = .ok (.invokevirtual 218, 3) := by decide +kernel
theorem d_m_expectedTime_5 : decode b_m_expectedTime 5 = .ok (.ifCond .ne 5, 3) := by decide +kernel
theorem d_m_expectedTime_8 : decode b_m_expectedTime 8 = .ok (.iconst (-1), 1) := by decide +kernel
theorem d_m_expectedTime_9 : decode b_m_expectedTime 9 = .ok (.ireturn, 1) := by decide +kernel
theorem d_m_expectedTime_10 : decode b_m_expectedTime 10 = .ok (.ldc2_w 91, 3) := by decide +kernel
theorem d_m_expectedTime_13 : decode b_m_expectedTime 13 = .ok (.lstore_n 2, 1) := by decide +kernel
theorem d_m_expectedTime_14 : decode b_m_expectedTime 14 = .ok (.lconst 0, 1) := by decide +kernel
theorem d_m_expectedTime_15 : decode b_m_expectedTime 15 = .ok (.lstore 4, 2) := by decide +kernel
theorem d_m_expectedTime_17 : decode b_m_expectedTime 17 = .ok (.aload_n 0, 1) := by decide +kernel
theorem d_m_expectedTime_18 : decode b_m_expectedTime 18 = .ok (.iload_n 1, 1) := by decide +kernel
theorem d_m_expectedTime_19 : decode b_m_expectedTime 19 = .ok (.invokevirtual 221, 3) := by decide +kernel
theorem d_m_expectedTime_22 : decode b_m_expectedTime 22 = .ok (.istore 6, 2) := by decide +kernel
theorem d_m_expectedTime_24 : decode b_m_expectedTime 24 = .ok (.iconst 0, 1) := by decide +kernel
theorem d_m_expectedTime_25 : decode b_m_expectedTime 25 = .ok (.istore 7, 2) := by decide +kernel
theorem d_m_expectedTime_27 : decode b_m_expectedTime 27 = .ok (.iload 7, 2) := by decide +kernel
theorem d_m_expectedTime_29 : decode b_m_expectedTime 29 = .ok (.iload 6, 2) := by decide +kernel
theorem d_m_expectedTime_31 : decode b_m_expectedTime 31 = .ok (.if_icmp .ge 57, 3) := by decide +kernel
theorem d_m_expectedTime_34 : decode b_m_expectedTime 34 = .ok (.lload 4, 2) := by decide +kernel
theorem d_m_expectedTime_36 : decode b_m_expectedTime 36 = .ok (.lload_n 2, 1) := by decide +kernel
theorem d_m_expectedTime_37 : decode b_m_expectedTime 37 = .ok (.aload_n 0, 1) := by decide +kernel
theorem d_m_expectedTime_38 : decode b_m_expectedTime 38 = .ok (.iload_n 1, 1) := by decide +kernel
theorem d_m_expectedTime_39 : decode b_m_expectedTime 39 = .ok (.iload 7, 2) := by decide +kernel
theorem d_m_expectedTime_41 : decode b_m_expectedTime 41 = .ok (.invokevirtual 204, 3) := by decide +kernel
theorem d_m_expectedTime_44 : decode b_m_expectedTime 44 = .ok (.i2l, 1) := by decide +kernel
theorem d_m_expectedTime_45 : decode b_m_expectedTime 45 = .ok (.lmul, 1) := by decide +kernel
theorem d_m_expectedTime_46 : decode b_m_expectedTime 46 = .ok (.ladd, 1) := by decide +kernel
theorem d_m_expectedTime_47 : decode b_m_expectedTime 47 = .ok (.lstore 4, 2) := by decide +kernel
theorem d_m_expectedTime_49 : decode b_m_expectedTime 49 = .ok (.lload_n 2, 1) := by decide +kernel
theorem d_m_expectedTime_50 : decode b_m_expectedTime 50 = .ok (.ldc 228, 2) := by decide +kernel
theorem d_m_expectedTime_52 : decode b_m_expectedTime 52 = .ok (.aload_n 0, 1) := by decide +kernel
theorem d_m_expectedTime_53 : decode b_m_expectedTime 53 = .ok (.aload_n 0, 1) := by decide +kernel
theorem d_m_expectedTime_54 : decode b_m_expectedTime 54 = .ok (.getfield 7, 3) := by decide +kernel
theorem d_m_expectedTime_57 : decode b_m_expectedTime 57 = .ok (.iload_n 1, 1) := by decide +kernel
theorem d_m_expectedTime_58 : decode b_m_expectedTime 58 = .ok (.invokestatic 141, 3) := by decide +kernel
theorem d_m_expectedTime_61 : decode b_m_expectedTime 61 = .ok (.iconst 1, 1) := by decide +kernel
theorem d_m_expectedTime_62 : decode b_m_expectedTime 62 = .ok (.iadd, 1) := by decide +kernel
theorem d_m_expectedTime_63 : decode b_m_expectedTime 63 = .ok (.iaload, 1) := by decide +kernel
theorem d_m_expectedTime_64 : decode b_m_expectedTime 64 = .ok (.aload_n 0, 1) := by decide +kernel
theorem d_m_expectedTime_65 : decode b_m_expectedTime 65 = .ok (.iload_n 1, 1) := by decide +kernel
theorem d_m_expectedTime_66 : decode b_m_expectedTime 66 = .ok (.iload 7, 2) := by decide +kernel
theorem d_m_expectedTime_68 : decode b_m_expectedTime 68 = .ok (.invokevirtual 198, 3) := by decide +kernel
theorem d_m_expectedTime_71 : decode b_m_expectedTime 71 = .ok (.invokevirtual 60, 3) := by decide +kernel
theorem d_m_expectedTime_74 : decode b_m_expectedTime 74 = .ok (.isub, 1) := by decide +kernel
theorem d_m_expectedTime_75 : decode b_m_expectedTime 75 = .ok (.i2l, 1) := by decide +kernel
theorem d_m_expectedTime_76 : decode b_m_expectedTime 76 = .ok (.lmul, 1) := by decide +kernel
theorem d_m_expectedTime_77 : decode b_m_expectedTime 77 = .ok (.ldc2_w 91, 3) := by decide +kernel
theorem d_m_expectedTime_80 : decode b_m_expectedTime 80 = .ok (.ldiv, 1) := by decide +kernel
theorem d_m_expectedTime_81 : decode b_m_expectedTime 81 = .ok (.lstore_n 2, 1) := by decide +kernel
theorem d_m_expectedTime_82 : decode b_m_expectedTime 82 = .ok (.iinc 7 1, 3) := by decide +kernel
theorem d_m_expectedTime_85 : decode b_m_expectedTime 85 = .ok (.goto (-58), 3) := by decide +kernel
theorem d_m_expectedTime_88 : decode b_m_expectedTime 88 = .ok (.lload 4, 2) := by decide +kernel
theorem d_m_expectedTime_90 : decode b_m_expectedTime 90 = .ok (.ldc2_w 91, 3) := by decide +kernel
theorem d_m_expectedTime_93 : decode b_m_expectedTime 93 = .ok (.ldiv, 1) := by decide +kernel
theorem d_m_expectedTime_94 : decode b_m_expectedTime 94 = .ok (.l2i, 1) := by decide +kernel
theorem d_m_expectedTime_95 : decode b_m_expectedTime 95 = .ok (.ireturn, 1) := by decide +kernel
theorem d_m_estimate_0 : decode b_m_estimate 0 = .ok (.aload_n 0, 1) := by decide +kernel
theorem d_m_estimate_1 : decode b_m_estimate 1 = .ok (.iload_n 1, 1) := by decide +kernel
theorem d_m_estimate_2 : decode b_m_estimate 2 = .ok (.iload_n 2, 1) := by decide +kernel
theorem d_m_estimate_3 : decode b_m_estimate 3 = .ok (.invokevirtual 133, 3) := by decide +kernel
theorem d_m_estimate_6 : decode b_m_estimate 6 = .ok (.ifCond .ne 5, 3) := by decide +kernel
theorem d_m_estimate_9 : decode b_m_estimate 9 = .ok (.iconst (-1), 1) := by decide +kernel
theorem d_m_estimate_10 : decode b_m_estimate 10 = .ok (.ireturn, 1) := by decide +kernel
theorem d_m_estimate_11 : decode b_m_estimate 11 = .ok (.aload_n 0, 1) := by decide +kernel
theorem d_m_estimate_12 : decode b_m_estimate 12 = .ok (.getfield 7, 3) := by decide +kernel
theorem d_m_estimate_15 : decode b_m_estimate 15 = .ok (.iload_n 1, 1) := by decide +kernel
theorem d_m_estimate_16 : decode b_m_estimate 16 = .ok (.iload_n 2, 1) := by decide +kernel
theorem d_m_estimate_17 : decode b_m_estimate 17 = .ok (.invokestatic 57, 3) := by decide +kernel
theorem d_m_estimate_20 : decode b_m_estimate 20 = .ok (.iconst 1, 1) := by decide +kernel
theorem d_m_estimate_21 : decode b_m_estimate 21 = .ok (.iadd, 1) := by decide +kernel
theorem d_m_estimate_22 : decode b_m_estimate 22 = .ok (.iaload, 1) := by decide +kernel
theorem d_m_estimate_23 : decode b_m_estimate 23 = .ok (.istore_n 3, 1) := by decide +kernel
theorem d_m_estimate_24 : decode b_m_estimate 24 = .ok (.iload_n 3, 1) := by decide +kernel
theorem d_m_estimate_25 : decode b_m_estimate 25 = .ok (.ifCond .ge 8, 3) := by decide +kernel
theorem d_m_estimate_28 : decode b_m_estimate 28 = .ok (.bipush (-9), 2) := by decide +kernel
theorem d_m_estimate_30 : decode b_m_estimate 30 = .ok (.goto 4, 3) := by decide +kernel
theorem d_m_estimate_33 : decode b_m_estimate 33 = .ok (.iload_n 3, 1) := by decide +kernel
theorem d_m_estimate_34 : decode b_m_estimate 34 = .ok (.ireturn, 1) := by decide +kernel
theorem d_m_triesOf_0 : decode b_m_triesOf 0 = .ok (.aload_n 0, 1) := by decide +kernel
theorem d_m_triesOf_1 : decode b_m_triesOf 1 = .ok (.iload_n 1, 1) := by decide +kernel
theorem d_m_triesOf_2 : decode b_m_triesOf 2 = .ok (.iload_n 2, 1) := by decide +kernel
theorem d_m_triesOf_3 : decode b_m_triesOf 3 = .ok (.invokevirtual 133, 3) := by decide +kernel
theorem d_m_triesOf_6 : decode b_m_triesOf 6 = .ok (.ifCond .eq 18, 3) := by decide +kernel
theorem d_m_triesOf_9 : decode b_m_triesOf 9 = .ok (.aload_n 0, 1) := by decide +kernel
theorem d_m_triesOf_10 : decode b_m_triesOf 10 = .ok (.getfield 7, 3) := by decide +kernel
theorem d_m_triesOf_13 : decode b_m_triesOf 13 = .ok (.iload_n 1, 1) := by decide +kernel
theorem d_m_triesOf_14 : decode b_m_triesOf 14 = .ok (.iload_n 2, 1) := by decide +kernel
theorem d_m_triesOf_15 : decode b_m_triesOf 15 = .ok (.invokestatic 57, 3) := by decide +kernel
theorem d_m_triesOf_18 : decode b_m_triesOf 18 = .ok (.iconst 4, 1) := by decide +kernel
theorem d_m_triesOf_19 : decode b_m_triesOf 19 = .ok (.iadd, 1) := by decide +kernel
theorem d_m_triesOf_20 : decode b_m_triesOf 20 = .ok (.iaload, 1) := by decide +kernel
theorem d_m_triesOf_21 : decode b_m_triesOf 21 = .ok (.goto 4, 3) := by decide +kernel
theorem d_m_triesOf_24 : decode b_m_triesOf 24 = .ok (.iconst (-1), 1) := by decide +kernel
theorem d_m_triesOf_25 : decode b_m_triesOf 25 = .ok (.ireturn, 1) := by decide +kernel
theorem d_m_successesOf_0 : decode b_m_successesOf 0 = .ok (.aload_n 0, 1) := by decide +kernel
theorem d_m_successesOf_1 : decode b_m_successesOf 1 = .ok (.iload_n 1, 1) := by decide +kernel
theorem d_m_successesOf_2 : decode b_m_successesOf 2 = .ok (.iload_n 2, 1) := by decide +kernel
theorem d_m_successesOf_3 : decode b_m_successesOf 3 = .ok (.invokevirtual 133, 3) := by decide +kernel
theorem d_m_successesOf_6 : decode b_m_successesOf 6 = .ok (.ifCond .eq 18, 3) := by decide +kernel
theorem d_m_successesOf_9 : decode b_m_successesOf 9 = .ok (.aload_n 0, 1) := by decide +kernel
theorem d_m_successesOf_10 : decode b_m_successesOf 10 = .ok (.getfield 7, 3) := by decide +kernel
theorem d_m_successesOf_13 : decode b_m_successesOf 13 = .ok (.iload_n 1, 1) := by decide +kernel
theorem d_m_successesOf_14 : decode b_m_successesOf 14 = .ok (.iload_n 2, 1) := by decide +kernel
theorem d_m_successesOf_15 : decode b_m_successesOf 15 = .ok (.invokestatic 57, 3) := by decide +kernel
theorem d_m_successesOf_18 : decode b_m_successesOf 18 = .ok (.iconst 5, 1) := by decide +kernel
theorem d_m_successesOf_19 : decode b_m_successesOf 19 = .ok (.iadd, 1) := by decide +kernel
theorem d_m_successesOf_20 : decode b_m_successesOf 20 = .ok (.iaload, 1) := by decide +kernel
theorem d_m_successesOf_21 : decode b_m_successesOf 21 = .ok (.goto 4, 3) := by decide +kernel
theorem d_m_successesOf_24 : decode b_m_successesOf 24 = .ok (.iconst (-1), 1) := by decide +kernel
theorem d_m_successesOf_25 : decode b_m_successesOf 25 = .ok (.ireturn, 1) := by decide +kernel
theorem d_m_airTime_0 : decode b_m_airTime 0 = .ok (.aload_n 0, 1) := by decide +kernel
theorem d_m_airTime_1 : decode b_m_airTime 1 = .ok (.iload_n 1, 1) := by decide +kernel
theorem d_m_airTime_2 : decode b_m_airTime 2 = .ok (.invokevirtual 39, 3) := by decide +kernel
theorem d_m_airTime_5 : decode b_m_airTime 5 = .ok (.ifCond .eq 22, 3) := by decide +kernel
theorem d_m_airTime_8 : decode b_m_airTime 8 = .ok (.iload_n 2, 1) := by decide +kernel
theorem d_m_airTime_9 : decode b_m_airTime 9 = .ok (.iconst 1, 1) := by decide +kernel
theorem d_m_airTime_10 : decode b_m_airTime 10 = .ok (.ldc 229, 2) := by decide +kernel
theorem d_m_airTime_12 : decode b_m_airTime 12 = .ok (.invokestatic 31, 3) := by decide +kernel
theorem d_m_airTime_15 : decode b_m_airTime 15 = .ok (.ifCond .eq 12, 3) := by decide +kernel
theorem d_m_airTime_18 : decode b_m_airTime 18 = .ok (.aload_n 0, 1) := by decide +kernel
theorem d_m_airTime_19 : decode b_m_airTime 19 = .ok (.iload_n 1, 1) := by decide +kernel
theorem d_m_airTime_20 : decode b_m_airTime 20 = .ok (.iload_n 2, 1) := by decide +kernel
theorem d_m_airTime_21 : decode b_m_airTime 21 = .ok (.invokevirtual 46, 3) := by decide +kernel
theorem d_m_airTime_24 : decode b_m_airTime 24 = .ok (.goto 4, 3) := by decide +kernel
theorem d_m_airTime_27 : decode b_m_airTime 27 = .ok (.iconst (-1), 1) := by decide +kernel
theorem d_m_airTime_28 : decode b_m_airTime 28 = .ok (.ireturn, 1) := by decide +kernel
theorem d_m_throughput_0 : decode b_m_throughput 0 = .ok (.aload_n 0, 1) := by decide +kernel
theorem d_m_throughput_1 : decode b_m_throughput 1 = .ok (.iload_n 1, 1) := by decide +kernel
theorem d_m_throughput_2 : decode b_m_throughput 2 = .ok (.iload_n 2, 1) := by decide +kernel
theorem d_m_throughput_3 : decode b_m_throughput 3 = .ok (.invokevirtual 133, 3) := by decide +kernel
theorem d_m_throughput_6 : decode b_m_throughput 6 = .ok (.ifCond .eq 13, 3) := by decide +kernel
theorem d_m_throughput_9 : decode b_m_throughput 9 = .ok (.iload_n 3, 1) := by decide +kernel
theorem d_m_throughput_10 : decode b_m_throughput 10 = .ok (.iconst 1, 1) := by decide +kernel
theorem d_m_throughput_11 : decode b_m_throughput 11 = .ok (.ldc 229, 2) := by decide +kernel
theorem d_m_throughput_13 : decode b_m_throughput 13 = .ok (.invokestatic 31, 3) := by decide +kernel
theorem d_m_throughput_16 : decode b_m_throughput 16 = .ok (.ifCond .ne 5, 3) := by decide +kernel
theorem d_m_throughput_19 : decode b_m_throughput 19 = .ok (.iconst (-1), 1) := by decide +kernel
theorem d_m_throughput_20 : decode b_m_throughput 20 = .ok (.ireturn, 1) := by decide +kernel
theorem d_m_throughput_21 : decode b_m_throughput 21 = .ok (.aload_n 0, 1) := by decide +kernel
theorem d_m_throughput_22 : decode b_m_throughput 22 = .ok (.getfield 7, 3) := by decide +kernel
theorem d_m_throughput_25 : decode b_m_throughput 25 = .ok (.iload_n 1, 1) := by decide +kernel
theorem d_m_throughput_26 : decode b_m_throughput 26 = .ok (.iload_n 2, 1) := by decide +kernel
theorem d_m_throughput_27 : decode b_m_throughput 27 = .ok (.invokestatic 57, 3) := by decide +kernel
theorem d_m_throughput_30 : decode b_m_throughput 30 = .ok (.iconst 1, 1) := by decide +kernel
theorem d_m_throughput_31 : decode b_m_throughput 31 = .ok (.iadd, 1) := by decide +kernel
theorem d_m_throughput_32 : decode b_m_throughput 32 = .ok (.iaload, 1) := by decide +kernel
theorem d_m_throughput_33 : decode b_m_throughput 33 = .ok (.istore 4, 2) := by decide +kernel
theorem d_m_throughput_35 : decode b_m_throughput 35 = .ok (.iload 4, 2) := by decide +kernel
theorem d_m_throughput_37 : decode b_m_throughput 37 = .ok (.ifCond .ge 6, 3) := by decide +kernel
theorem d_m_throughput_40 : decode b_m_throughput 40 = .ok (.bipush (-9), 2) := by decide +kernel
theorem d_m_throughput_42 : decode b_m_throughput 42 = .ok (.ireturn, 1) := by decide +kernel
theorem d_m_throughput_43 : decode b_m_throughput 43 = .ok (.iload 4, 2) := by decide +kernel
theorem d_m_throughput_45 : decode b_m_throughput 45 = .ok (.i2l, 1) := by decide +kernel
theorem d_m_throughput_46 : decode b_m_throughput 46 = .ok (.bipush 8, 2) := by decide +kernel
theorem d_m_throughput_48 : decode b_m_throughput 48 = .ok (.iload_n 3, 1) := by decide +kernel
theorem d_m_throughput_49 : decode b_m_throughput 49 = .ok (.imul, 1) := by decide +kernel
theorem d_m_throughput_50 : decode b_m_throughput 50 = .ok (.i2l, 1) := by decide +kernel
theorem d_m_throughput_51 : decode b_m_throughput 51 = .ok (.lmul, 1) := by decide +kernel
theorem d_m_throughput_52 : decode b_m_throughput 52 = .ok (.lstore 5, 2) := by decide +kernel
theorem d_m_throughput_54 : decode b_m_throughput 54 = .ok (.lload 5, 2) := by decide +kernel
theorem d_m_throughput_56 : decode b_m_throughput 56 = .ok (.ldc2_w 230, 3) := by decide +kernel
theorem d_m_throughput_59 : decode b_m_throughput 59 = .ok (.lcmp, 1) := by decide +kernel
theorem d_m_throughput_60 : decode b_m_throughput 60 = .ok (.ifCond .le 8, 3) := by decide +kernel
theorem d_m_throughput_63 : decode b_m_throughput 63 = .ok (.bipush (-4), 2) := by decide +kernel
theorem d_m_throughput_65 : decode b_m_throughput 65 = .ok (.goto 13, 3) := by decide +kernel
theorem d_m_throughput_68 : decode b_m_throughput 68 = .ok (.lload 5, 2) := by decide +kernel
theorem d_m_throughput_70 : decode b_m_throughput 70 = .ok (.l2i, 1) := by decide +kernel
theorem d_m_throughput_71 : decode b_m_throughput 71 = .ok (.aload_n 0, 1) := by decide +kernel
theorem d_m_throughput_72 : decode b_m_throughput 72 = .ok (.iload_n 2, 1) := by decide +kernel
theorem d_m_throughput_73 : decode b_m_throughput 73 = .ok (.iload_n 3, 1) := by decide +kernel
theorem d_m_throughput_74 : decode b_m_throughput 74 = .ok (.invokevirtual 46, 3) := by decide +kernel
theorem d_m_throughput_77 : decode b_m_throughput 77 = .ok (.idiv, 1) := by decide +kernel
theorem d_m_throughput_78 : decode b_m_throughput 78 = .ok (.ireturn, 1) := by decide +kernel
theorem d_m_role_0 : decode b_m_role 0 = .ok (.aload_n 0, 1) := by decide +kernel
theorem d_m_role_1 : decode b_m_role 1 = .ok (.iload_n 1, 1) := by decide +kernel
theorem d_m_role_2 : decode b_m_role 2 = .ok (.invokevirtual 35, 3) := by decide +kernel
theorem d_m_role_5 : decode b_m_role 5 = .ok (.ifCond .eq 21, 3) := by decide +kernel
theorem d_m_role_8 : decode b_m_role 8 = .ok (.iload_n 2, 1) := by decide +kernel
theorem d_m_role_9 : decode b_m_role 9 = .ok (.iconst 0, 1) := by decide +kernel
theorem d_m_role_10 : decode b_m_role 10 = .ok (.iconst 3, 1) := by decide +kernel
theorem d_m_role_11 : decode b_m_role 11 = .ok (.invokestatic 31, 3) := by decide +kernel
theorem d_m_role_14 : decode b_m_role 14 = .ok (.ifCond .eq 12, 3) := by decide +kernel
theorem d_m_role_17 : decode b_m_role 17 = .ok (.aload_n 0, 1) := by decide +kernel
theorem d_m_role_18 : decode b_m_role 18 = .ok (.iload_n 1, 1) := by decide +kernel
theorem d_m_role_19 : decode b_m_role 19 = .ok (.iload_n 2, 1) := by decide +kernel
theorem d_m_role_20 : decode b_m_role 20 = .ok (.invokevirtual 151, 3) := by decide +kernel
theorem d_m_role_23 : decode b_m_role 23 = .ok (.goto 4, 3) := by decide +kernel
theorem d_m_role_26 : decode b_m_role 26 = .ok (.iconst (-1), 1) := by decide +kernel
theorem d_m_role_27 : decode b_m_role 27 = .ok (.ireturn, 1) := by decide +kernel
theorem d_m_refusal_0 : decode b_m_refusal 0 = .ok (.aload_n 0, 1) := by decide +kernel
theorem d_m_refusal_1 : decode b_m_refusal 1 = .ok (.iload_n 1, 1) := by decide +kernel
theorem d_m_refusal_2 : decode b_m_refusal 2 = .ok (.invokevirtual 35, 3) := by decide +kernel
theorem d_m_refusal_5 : decode b_m_refusal 5 = .ok (.ifCond .eq 29, 3) := by decide +kernel
theorem d_m_refusal_8 : decode b_m_refusal 8 = .ok (.iload_n 2, 1) := by decide +kernel
theorem d_m_refusal_9 : decode b_m_refusal 9 = .ok (.iconst 0, 1) := by decide +kernel
theorem d_m_refusal_10 : decode b_m_refusal 10 = .ok (.iconst 2, 1) := by decide +kernel
theorem d_m_refusal_11 : decode b_m_refusal 11 = .ok (.invokestatic 31, 3) := by decide +kernel
theorem d_m_refusal_14 : decode b_m_refusal 14 = .ok (.ifCond .eq 20, 3) := by decide +kernel
theorem d_m_refusal_17 : decode b_m_refusal 17 = .ok (.aload_n 0, 1) := by decide +kernel
theorem d_m_refusal_18 : decode b_m_refusal 18 = .ok (.getfield 7, 3) := by decide +kernel
theorem d_m_refusal_21 : decode b_m_refusal 21 = .ok (.iload_n 1, 1) := by decide +kernel
theorem d_m_refusal_22 : decode b_m_refusal 22 = .ok (.invokestatic 81, 3) := by decide +kernel
theorem d_m_refusal_25 : decode b_m_refusal 25 = .ok (.bipush 22, 2) := by decide +kernel
theorem d_m_refusal_27 : decode b_m_refusal 27 = .ok (.iadd, 1) := by decide +kernel
theorem d_m_refusal_28 : decode b_m_refusal 28 = .ok (.iload_n 2, 1) := by decide +kernel
theorem d_m_refusal_29 : decode b_m_refusal 29 = .ok (.iadd, 1) := by decide +kernel
theorem d_m_refusal_30 : decode b_m_refusal 30 = .ok (.iaload, 1) := by decide +kernel
theorem d_m_refusal_31 : decode b_m_refusal 31 = .ok (.goto 4, 3) := by decide +kernel
theorem d_m_refusal_34 : decode b_m_refusal 34 = .ok (.iconst (-1), 1) := by decide +kernel
theorem d_m_refusal_35 : decode b_m_refusal 35 = .ok (.ireturn, 1) := by decide +kernel
theorem d_m_before_0 : decode b_m_before 0 = .ok (.iconst 0, 1) := by decide +kernel
theorem d_m_before_1 : decode b_m_before 1 = .ok (.istore_n 2, 1) := by decide +kernel
theorem d_m_before_2 : decode b_m_before 2 = .ok (.iconst 0, 1) := by decide +kernel
theorem d_m_before_3 : decode b_m_before 3 = .ok (.istore_n 3, 1) := by decide +kernel
theorem d_m_before_4 : decode b_m_before 4 = .ok (.iload_n 3, 1) := by decide +kernel
theorem d_m_before_5 : decode b_m_before 5 = .ok (.aload_n 0, 1) := by decide +kernel
theorem d_m_before_6 : decode b_m_before 6 = .ok (.getfield 7, 3) := by decide +kernel
theorem d_m_before_9 : decode b_m_before 9 = .ok (.iconst 1, 1) := by decide +kernel
theorem d_m_before_10 : decode b_m_before 10 = .ok (.iaload, 1) := by decide +kernel
theorem d_m_before_11 : decode b_m_before 11 = .ok (.if_icmp .ge 97, 3) := by decide +kernel
theorem d_m_before_14 : decode b_m_before 14 = .ok (.aload_n 0, 1) := by decide +kernel
theorem d_m_before_15 : decode b_m_before 15 = .ok (.getfield 7, 3) := by decide +kernel
theorem d_m_before_18 : decode b_m_before 18 = .ok (.bipush 10, 2) := by decide +kernel
theorem d_m_before_20 : decode b_m_before 20 = .ok (.iload_n 3, 1) := by decide +kernel
theorem d_m_before_21 : decode b_m_before 21 = .ok (.iadd, 1) := by decide +kernel
theorem d_m_before_22 : decode b_m_before 22 = .ok (.iaload, 1) := by decide +kernel
theorem d_m_before_23 : decode b_m_before 23 = .ok (.aload_n 0, 1) := by decide +kernel
theorem d_m_before_24 : decode b_m_before 24 = .ok (.getfield 7, 3) := by decide +kernel
theorem d_m_before_27 : decode b_m_before 27 = .ok (.bipush 10, 2) := by decide +kernel
theorem d_m_before_29 : decode b_m_before 29 = .ok (.iload_n 1, 1) := by decide +kernel
theorem d_m_before_30 : decode b_m_before 30 = .ok (.iadd, 1) := by decide +kernel
theorem d_m_before_31 : decode b_m_before 31 = .ok (.iaload, 1) := by decide +kernel
theorem d_m_before_32 : decode b_m_before 32 = .ok (.if_icmp .ne 54, 3) := by decide +kernel
theorem d_m_before_35 : decode b_m_before 35 = .ok (.aload_n 0, 1) := by decide +kernel
theorem d_m_before_36 : decode b_m_before 36 = .ok (.getfield 7, 3) := by decide +kernel
theorem d_m_before_39 : decode b_m_before 39 = .ok (.bipush 18, 2) := by decide +kernel
theorem d_m_before_41 : decode b_m_before 41 = .ok (.iload_n 3, 1) := by decide +kernel
theorem d_m_before_42 : decode b_m_before 42 = .ok (.iadd, 1) := by decide +kernel
theorem d_m_before_43 : decode b_m_before 43 = .ok (.iaload, 1) := by decide +kernel
theorem d_m_before_44 : decode b_m_before 44 = .ok (.aload_n 0, 1) := by decide +kernel
theorem d_m_before_45 : decode b_m_before 45 = .ok (.getfield 7, 3) := by decide +kernel
theorem d_m_before_48 : decode b_m_before 48 = .ok (.bipush 18, 2) := by decide +kernel
theorem d_m_before_50 : decode b_m_before 50 = .ok (.iload_n 1, 1) := by decide +kernel
theorem d_m_before_51 : decode b_m_before 51 = .ok (.iadd, 1) := by decide +kernel
theorem d_m_before_52 : decode b_m_before 52 = .ok (.iaload, 1) := by decide +kernel
theorem d_m_before_53 : decode b_m_before 53 = .ok (.if_icmp .lt 29, 3) := by decide +kernel
theorem d_m_before_56 : decode b_m_before 56 = .ok (.aload_n 0, 1) := by decide +kernel
theorem d_m_before_57 : decode b_m_before 57 = .ok (.getfield 7, 3) := by decide +kernel
theorem d_m_before_60 : decode b_m_before 60 = .ok (.bipush 18, 2) := by decide +kernel
theorem d_m_before_62 : decode b_m_before 62 = .ok (.iload_n 3, 1) := by decide +kernel
theorem d_m_before_63 : decode b_m_before 63 = .ok (.iadd, 1) := by decide +kernel
theorem d_m_before_64 : decode b_m_before 64 = .ok (.iaload, 1) := by decide +kernel
theorem d_m_before_65 : decode b_m_before 65 = .ok (.aload_n 0, 1) := by decide +kernel
theorem d_m_before_66 : decode b_m_before 66 = .ok (.getfield 7, 3) := by decide +kernel
theorem d_m_before_69 : decode b_m_before 69 = .ok (.bipush 18, 2) := by decide +kernel
theorem d_m_before_71 : decode b_m_before 71 = .ok (.iload_n 1, 1) := by decide +kernel
theorem d_m_before_72 : decode b_m_before 72 = .ok (.iadd, 1) := by decide +kernel
theorem d_m_before_73 : decode b_m_before 73 = .ok (.iaload, 1) := by decide +kernel
theorem d_m_before_74 : decode b_m_before 74 = .ok (.if_icmp .ne 12, 3) := by decide +kernel
theorem d_m_before_77 : decode b_m_before 77 = .ok (.iload_n 3, 1) := by decide +kernel
theorem d_m_before_78 : decode b_m_before 78 = .ok (.iload_n 1, 1) := by decide +kernel
theorem d_m_before_79 : decode b_m_before 79 = .ok (.if_icmp .ge 7, 3) := by decide +kernel
theorem d_m_before_82 : decode b_m_before 82 = .ok (.iconst 1, 1) := by decide +kernel
theorem d_m_before_83 : decode b_m_before 83 = .ok (.goto 4, 3) := by decide +kernel
theorem d_m_before_86 : decode b_m_before 86 = .ok (.iconst 0, 1) := by decide +kernel
theorem d_m_before_87 : decode b_m_before 87 = .ok (.istore 4, 2) := by decide +kernel
theorem d_m_before_89 : decode b_m_before 89 = .ok (.iload_n 2, 1) := by decide +kernel
theorem d_m_before_90 : decode b_m_before 90 = .ok (.iload 4, 2) := by decide +kernel
theorem d_m_before_92 : decode b_m_before 92 = .ok (.ifCond .eq 7, 3) := by decide +kernel
theorem d_m_before_95 : decode b_m_before 95 = .ok (.iconst 1, 1) := by decide +kernel
theorem d_m_before_96 : decode b_m_before 96 = .ok (.goto 4, 3) := by decide +kernel
theorem d_m_before_99 : decode b_m_before 99 = .ok (.iconst 0, 1) := by decide +kernel
theorem d_m_before_100 : decode b_m_before 100 = .ok (.iadd, 1) := by decide +kernel
theorem d_m_before_101 : decode b_m_before 101 = .ok (.istore_n 2, 1) := by decide +kernel
theorem d_m_before_102 : decode b_m_before 102 = .ok (.iinc 3 1, 3) := by decide +kernel
theorem d_m_before_105 : decode b_m_before 105 = .ok (.goto (-101), 3) := by decide +kernel
theorem d_m_before_108 : decode b_m_before 108 = .ok (.iload_n 2, 1) := by decide +kernel
theorem d_m_before_109 : decode b_m_before 109 = .ok (.ireturn, 1) := by decide +kernel
theorem d_m_atPlace_0 : decode b_m_atPlace 0 = .ok (.bipush (-9), 2) := by decide +kernel
theorem d_m_atPlace_2 : decode b_m_atPlace 2 = .ok (.istore_n 3, 1) := by decide +kernel
theorem d_m_atPlace_3 : decode b_m_atPlace 3 = .ok (.iconst 0, 1) := by decide +kernel
theorem d_m_atPlace_4 : decode b_m_atPlace 4 = .ok (.istore 4, 2) := by decide +kernel
theorem d_m_atPlace_6 : decode b_m_atPlace 6 = .ok (.iload 4, 2) := by decide +kernel
theorem d_m_atPlace_8 : decode b_m_atPlace 8 = .ok (.aload_n 0, 1) := by decide +kernel
theorem d_m_atPlace_9 : decode b_m_atPlace 9 = .ok (.getfield 7, 3) := by decide +kernel
theorem d_m_atPlace_12 : decode b_m_atPlace 12 = .ok (.iconst 1, 1) := by decide +kernel
theorem d_m_atPlace_13 : decode b_m_atPlace 13 = .ok (.iaload, 1) := by decide +kernel
theorem d_m_atPlace_14 : decode b_m_atPlace 14 = .ok (.if_icmp .ge 40, 3) := by decide +kernel
theorem d_m_atPlace_17 : decode b_m_atPlace 17 = .ok (.aload_n 0, 1) := by decide +kernel
theorem d_m_atPlace_18 : decode b_m_atPlace 18 = .ok (.getfield 7, 3) := by decide +kernel
theorem d_m_atPlace_21 : decode b_m_atPlace 21 = .ok (.bipush 10, 2) := by decide +kernel
theorem d_m_atPlace_23 : decode b_m_atPlace 23 = .ok (.iload 4, 2) := by decide +kernel
theorem d_m_atPlace_25 : decode b_m_atPlace 25 = .ok (.iadd, 1) := by decide +kernel
theorem d_m_atPlace_26 : decode b_m_atPlace 26 = .ok (.iaload, 1) := by decide +kernel
theorem d_m_atPlace_27 : decode b_m_atPlace 27 = .ok (.iload_n 1, 1) := by decide +kernel
theorem d_m_atPlace_28 : decode b_m_atPlace 28 = .ok (.if_icmp .ne 18, 3) := by decide +kernel
theorem d_m_atPlace_31 : decode b_m_atPlace 31 = .ok (.aload_n 0, 1) := by decide +kernel
theorem d_m_atPlace_32 : decode b_m_atPlace 32 = .ok (.iload 4, 2) := by decide +kernel
theorem d_m_atPlace_34 : decode b_m_atPlace 34 = .ok (.invokevirtual 232, 3) := by decide +kernel
theorem d_m_atPlace_37 : decode b_m_atPlace 37 = .ok (.iload_n 2, 1) := by decide +kernel
theorem d_m_atPlace_38 : decode b_m_atPlace 38 = .ok (.if_icmp .ne 8, 3) := by decide +kernel
theorem d_m_atPlace_41 : decode b_m_atPlace 41 = .ok (.iload 4, 2) := by decide +kernel
theorem d_m_atPlace_43 : decode b_m_atPlace 43 = .ok (.goto 4, 3) := by decide +kernel
theorem d_m_atPlace_46 : decode b_m_atPlace 46 = .ok (.iload_n 3, 1) := by decide +kernel
theorem d_m_atPlace_47 : decode b_m_atPlace 47 = .ok (.istore_n 3, 1) := by decide +kernel
theorem d_m_atPlace_48 : decode b_m_atPlace 48 = .ok (.iinc 4 1, 3) := by decide +kernel
theorem d_m_atPlace_51 : decode b_m_atPlace 51 = .ok (.goto (-45), 3) := by decide +kernel
theorem d_m_atPlace_54 : decode b_m_atPlace 54 = .ok (.iload_n 3, 1) := by decide +kernel
theorem d_m_atPlace_55 : decode b_m_atPlace 55 = .ok (.ireturn, 1) := by decide +kernel
theorem d_m_rateOfMode_0 : decode b_m_rateOfMode 0 = .ok (.iload_n 1, 1) := by decide +kernel
theorem d_m_rateOfMode_1 : decode b_m_rateOfMode 1 = .ok (.iconst 0, 1) := by decide +kernel
theorem d_m_rateOfMode_2 : decode b_m_rateOfMode 2 = .ok (.iconst 2, 1) := by decide +kernel
theorem d_m_rateOfMode_3 : decode b_m_rateOfMode 3 = .ok (.invokestatic 31, 3) := by decide +kernel
theorem d_m_rateOfMode_6 : decode b_m_rateOfMode 6 = .ok (.ifCond .eq 16, 3) := by decide +kernel
theorem d_m_rateOfMode_9 : decode b_m_rateOfMode 9 = .ok (.iload_n 2, 1) := by decide +kernel
theorem d_m_rateOfMode_10 : decode b_m_rateOfMode 10 = .ok (.ifCond .lt 12, 3) := by decide +kernel
theorem d_m_rateOfMode_13 : decode b_m_rateOfMode 13 = .ok (.aload_n 0, 1) := by decide +kernel
theorem d_m_rateOfMode_14 : decode b_m_rateOfMode 14 = .ok (.iload_n 1, 1) := by decide +kernel
theorem d_m_rateOfMode_15 : decode b_m_rateOfMode 15 = .ok (.iload_n 2, 1) := by decide +kernel
theorem d_m_rateOfMode_16 : decode b_m_rateOfMode 16 = .ok (.invokevirtual 235, 3) := by decide +kernel
theorem d_m_rateOfMode_19 : decode b_m_rateOfMode 19 = .ok (.goto 4, 3) := by decide +kernel
theorem d_m_rateOfMode_22 : decode b_m_rateOfMode 22 = .ok (.iconst (-1), 1) := by decide +kernel
theorem d_m_rateOfMode_23 : decode b_m_rateOfMode 23 = .ok (.ireturn, 1) := by decide +kernel
theorem d_m_bestOfMode_0 : decode b_m_bestOfMode 0 = .ok (.aload_n 0, 1) := by decide +kernel
theorem d_m_bestOfMode_1 : decode b_m_bestOfMode 1 = .ok (.iload_n 1, 1) := by decide +kernel
theorem d_m_bestOfMode_2 : decode b_m_bestOfMode 2 = .ok (.invokevirtual 35, 3) := by decide +kernel
theorem d_m_bestOfMode_5 : decode b_m_bestOfMode 5 = .ok (.ifCond .eq 12, 3) := by decide +kernel
theorem d_m_bestOfMode_8 : decode b_m_bestOfMode 8 = .ok (.iload_n 2, 1) := by decide +kernel
theorem d_m_bestOfMode_9 : decode b_m_bestOfMode 9 = .ok (.iconst 0, 1) := by decide +kernel
theorem d_m_bestOfMode_10 : decode b_m_bestOfMode 10 = .ok (.iconst 2, 1) := by decide +kernel
theorem d_m_bestOfMode_11 : decode b_m_bestOfMode 11 = .ok (.invokestatic 31, 3) := by decide +kernel
theorem d_m_bestOfMode_14 : decode b_m_bestOfMode 14 = .ok (.ifCond .ne 5, 3) := by decide +kernel
theorem d_m_bestOfMode_17 : decode b_m_bestOfMode 17 = .ok (.iconst (-1), 1) := by decide +kernel
theorem d_m_bestOfMode_18 : decode b_m_bestOfMode 18 = .ok (.ireturn, 1) := by decide +kernel
theorem d_m_bestOfMode_19 : decode b_m_bestOfMode 19 = .ok (.bipush (-9), 2) := by decide +kernel
theorem d_m_bestOfMode_21 : decode b_m_bestOfMode 21 = .ok (.istore_n 3, 1) := by decide +kernel
theorem d_m_bestOfMode_22 : decode b_m_bestOfMode 22 = .ok (.iconst 0, 1) := by decide +kernel
theorem d_m_bestOfMode_23 : decode b_m_bestOfMode 23 = .ok (.istore 4, 2) := by decide +kernel
theorem d_m_bestOfMode_25 : decode b_m_bestOfMode 25 = .ok (.iload 4, 2) := by decide +kernel
theorem d_m_bestOfMode_27 : decode b_m_bestOfMode 27 = .ok (.bipush 8, 2) := by decide +kernel
theorem d_m_bestOfMode_29 : decode b_m_bestOfMode 29 = .ok (.if_icmp .ge 60, 3) := by decide +kernel
theorem d_m_bestOfMode_32 : decode b_m_bestOfMode 32 = .ok (.aload_n 0, 1) := by decide +kernel
theorem d_m_bestOfMode_33 : decode b_m_bestOfMode 33 = .ok (.iload_n 2, 1) := by decide +kernel
theorem d_m_bestOfMode_34 : decode b_m_bestOfMode 34 = .ok (.iload 4, 2) := by decide +kernel
theorem d_m_bestOfMode_36 : decode b_m_bestOfMode 36 = .ok (.invokevirtual 235, 3) := by decide +kernel
theorem d_m_bestOfMode_39 : decode b_m_bestOfMode 39 = .ok (.istore 5, 2) := by decide +kernel
theorem d_m_bestOfMode_41 : decode b_m_bestOfMode 41 = .ok (.iload 5, 2) := by decide +kernel
theorem d_m_bestOfMode_43 : decode b_m_bestOfMode 43 = .ok (.bipush (-9), 2) := by decide +kernel
theorem d_m_bestOfMode_45 : decode b_m_bestOfMode 45 = .ok (.if_icmp .eq 38, 3) := by decide +kernel
theorem d_m_bestOfMode_48 : decode b_m_bestOfMode 48 = .ok (.aload_n 0, 1) := by decide +kernel
theorem d_m_bestOfMode_49 : decode b_m_bestOfMode 49 = .ok (.iload_n 1, 1) := by decide +kernel
theorem d_m_bestOfMode_50 : decode b_m_bestOfMode 50 = .ok (.iload 5, 2) := by decide +kernel
theorem d_m_bestOfMode_52 : decode b_m_bestOfMode 52 = .ok (.invokevirtual 70, 3) := by decide +kernel
theorem d_m_bestOfMode_55 : decode b_m_bestOfMode 55 = .ok (.ifCond .eq 28, 3) := by decide +kernel
theorem d_m_bestOfMode_58 : decode b_m_bestOfMode 58 = .ok (.iload_n 3, 1) := by decide +kernel
theorem d_m_bestOfMode_59 : decode b_m_bestOfMode 59 = .ok (.bipush (-9), 2) := by decide +kernel
theorem d_m_bestOfMode_61 : decode b_m_bestOfMode 61 = .ok (.if_icmp .eq 19, 3) := by decide +kernel
theorem d_m_bestOfMode_64 : decode b_m_bestOfMode 64 = .ok (.aload_n 0, 1) := by decide +kernel
theorem d_m_bestOfMode_65 : decode b_m_bestOfMode 65 = .ok (.iload_n 1, 1) := by decide +kernel
theorem d_m_bestOfMode_66 : decode b_m_bestOfMode 66 = .ok (.iload 5, 2) := by decide +kernel
theorem d_m_bestOfMode_68 : decode b_m_bestOfMode 68 = .ok (.invokevirtual 67, 3) := by decide +kernel
theorem d_m_bestOfMode_71 : decode b_m_bestOfMode 71 = .ok (.aload_n 0, 1) := by decide +kernel
theorem d_m_bestOfMode_72 : decode b_m_bestOfMode 72 = .ok (.iload_n 1, 1) := by decide +kernel
theorem d_m_bestOfMode_73 : decode b_m_bestOfMode 73 = .ok (.iload_n 3, 1) := by decide +kernel
theorem d_m_bestOfMode_74 : decode b_m_bestOfMode 74 = .ok (.invokevirtual 67, 3) := by decide +kernel
theorem d_m_bestOfMode_77 : decode b_m_bestOfMode 77 = .ok (.if_icmp .le 6, 3) := by decide +kernel
theorem d_m_bestOfMode_80 : decode b_m_bestOfMode 80 = .ok (.iload 5, 2) := by decide +kernel
theorem d_m_bestOfMode_82 : decode b_m_bestOfMode 82 = .ok (.istore_n 3, 1) := by decide +kernel
theorem d_m_bestOfMode_83 : decode b_m_bestOfMode 83 = .ok (.iinc 4 1, 3) := by decide +kernel
theorem d_m_bestOfMode_86 : decode b_m_bestOfMode 86 = .ok (.goto (-61), 3) := by decide +kernel
theorem d_m_bestOfMode_89 : decode b_m_bestOfMode 89 = .ok (.iload_n 3, 1) := by decide +kernel
theorem d_m_bestOfMode_90 : decode b_m_bestOfMode 90 = .ok (.ireturn, 1) := by decide +kernel
theorem d_m_mostUsed_0 : decode b_m_mostUsed 0 = .ok (.aload_n 0, 1) := by decide +kernel
theorem d_m_mostUsed_1 : decode b_m_mostUsed 1 = .ok (.iload_n 1, 1) := by decide +kernel
theorem d_m_mostUsed_2 : decode b_m_mostUsed 2 = .ok (.invokevirtual 35, 3) := by decide +kernel
theorem d_m_mostUsed_5 : decode b_m_mostUsed 5 = .ok (.ifCond .ne 5, 3) := by decide +kernel
theorem d_m_mostUsed_8 : decode b_m_mostUsed 8 = .ok (.iconst (-1), 1) := by decide +kernel
theorem d_m_mostUsed_9 : decode b_m_mostUsed 9 = .ok (.ireturn, 1) := by decide +kernel
theorem d_m_mostUsed_10 : decode b_m_mostUsed 10 = .ok (.bipush (-9), 2) := by decide +kernel
theorem d_m_mostUsed_12 : decode b_m_mostUsed 12 = .ok (.istore_n 2, 1) := by decide +kernel
theorem d_m_mostUsed_13 : decode b_m_mostUsed 13 = .ok (.iconst 0, 1) := by decide +kernel
theorem d_m_mostUsed_14 : decode b_m_mostUsed 14 = .ok (.istore_n 3, 1) := by decide +kernel
theorem d_m_mostUsed_15 : decode b_m_mostUsed 15 = .ok (.iload_n 3, 1) := by decide +kernel
theorem d_m_mostUsed_16 : decode b_m_mostUsed 16 = .ok (.aload_n 0, 1) := by decide +kernel
theorem d_m_mostUsed_17 : decode b_m_mostUsed 17 = .ok (.getfield 7, 3) := by decide +kernel
theorem d_m_mostUsed_20 : decode b_m_mostUsed 20 = .ok (.iconst 1, 1) := by decide +kernel
theorem d_m_mostUsed_21 : decode b_m_mostUsed 21 = .ok (.iaload, 1) := by decide +kernel
theorem d_m_mostUsed_22 : decode b_m_mostUsed 22 = .ok (.if_icmp .ge 53, 3) := by decide +kernel
theorem d_m_mostUsed_25 : decode b_m_mostUsed 25 = .ok (.aload_n 0, 1) := by decide +kernel
theorem d_m_mostUsed_26 : decode b_m_mostUsed 26 = .ok (.getfield 7, 3) := by decide +kernel
theorem d_m_mostUsed_29 : decode b_m_mostUsed 29 = .ok (.iload_n 1, 1) := by decide +kernel
theorem d_m_mostUsed_30 : decode b_m_mostUsed 30 = .ok (.iload_n 3, 1) := by decide +kernel
theorem d_m_mostUsed_31 : decode b_m_mostUsed 31 = .ok (.invokestatic 57, 3) := by decide +kernel
theorem d_m_mostUsed_34 : decode b_m_mostUsed 34 = .ok (.iconst 4, 1) := by decide +kernel
theorem d_m_mostUsed_35 : decode b_m_mostUsed 35 = .ok (.iadd, 1) := by decide +kernel
theorem d_m_mostUsed_36 : decode b_m_mostUsed 36 = .ok (.iaload, 1) := by decide +kernel
theorem d_m_mostUsed_37 : decode b_m_mostUsed 37 = .ok (.istore 4, 2) := by decide +kernel
theorem d_m_mostUsed_39 : decode b_m_mostUsed 39 = .ok (.iload 4, 2) := by decide +kernel
theorem d_m_mostUsed_41 : decode b_m_mostUsed 41 = .ok (.ifCond .le 28, 3) := by decide +kernel
theorem d_m_mostUsed_44 : decode b_m_mostUsed 44 = .ok (.iload_n 2, 1) := by decide +kernel
theorem d_m_mostUsed_45 : decode b_m_mostUsed 45 = .ok (.bipush (-9), 2) := by decide +kernel
theorem d_m_mostUsed_47 : decode b_m_mostUsed 47 = .ok (.if_icmp .eq 20, 3) := by decide +kernel
theorem d_m_mostUsed_50 : decode b_m_mostUsed 50 = .ok (.iload 4, 2) := by decide +kernel
theorem d_m_mostUsed_52 : decode b_m_mostUsed 52 = .ok (.aload_n 0, 1) := by decide +kernel
theorem d_m_mostUsed_53 : decode b_m_mostUsed 53 = .ok (.getfield 7, 3) := by decide +kernel
theorem d_m_mostUsed_56 : decode b_m_mostUsed 56 = .ok (.iload_n 1, 1) := by decide +kernel
theorem d_m_mostUsed_57 : decode b_m_mostUsed 57 = .ok (.iload_n 2, 1) := by decide +kernel
theorem d_m_mostUsed_58 : decode b_m_mostUsed 58 = .ok (.invokestatic 57, 3) := by decide +kernel
theorem d_m_mostUsed_61 : decode b_m_mostUsed 61 = .ok (.iconst 4, 1) := by decide +kernel
theorem d_m_mostUsed_62 : decode b_m_mostUsed 62 = .ok (.iadd, 1) := by decide +kernel
theorem d_m_mostUsed_63 : decode b_m_mostUsed 63 = .ok (.iaload, 1) := by decide +kernel
theorem d_m_mostUsed_64 : decode b_m_mostUsed 64 = .ok (.if_icmp .le 5, 3) := by decide +kernel
theorem d_m_mostUsed_67 : decode b_m_mostUsed 67 = .ok (.iload_n 3, 1) := by decide +kernel
theorem d_m_mostUsed_68 : decode b_m_mostUsed 68 = .ok (.istore_n 2, 1) := by decide +kernel
theorem d_m_mostUsed_69 : decode b_m_mostUsed 69 = .ok (.iinc 3 1, 3) := by decide +kernel
theorem d_m_mostUsed_72 : decode b_m_mostUsed 72 = .ok (.goto (-57), 3) := by decide +kernel
theorem d_m_mostUsed_75 : decode b_m_mostUsed 75 = .ok (.iload_n 2, 1) := by decide +kernel
theorem d_m_mostUsed_76 : decode b_m_mostUsed 76 = .ok (.ireturn, 1) := by decide +kernel
theorem d_m_walks_0 : decode b_m_walks 0 = .ok (.aload_n 0, 1) := by decide +kernel
theorem d_m_walks_1 : decode b_m_walks 1 = .ok (.ldc2_w 91, 3) := by decide +kernel
theorem d_m_walks_4 : decode b_m_walks 4 = .ok (.putfield 238, 3) := by decide +kernel
theorem d_m_walks_7 : decode b_m_walks 7 = .ok (.aload_n 0, 1) := by decide +kernel
theorem d_m_walks_8 : decode b_m_walks 8 = .ok (.lconst 0, 1) := by decide +kernel
theorem d_m_walks_9 : decode b_m_walks 9 = .ok (.putfield 242, 3) := by decide +kernel
theorem d_m_walks_12 : decode b_m_walks 12 = .ok (.iconst 3, 1) := by decide +kernel
theorem d_m_walks_13 : decode b_m_walks 13 = .ok (.istore 4, 2) := by decide +kernel
theorem d_m_walks_15 : decode b_m_walks 15 = .ok (.iload 4, 2) := by decide +kernel
theorem d_m_walks_17 : decode b_m_walks 17 = .ok (.ifCond .lt 93, 3) := by decide +kernel
theorem d_m_walks_20 : decode b_m_walks 20 = .ok (.iload_n 3, 1) := by decide +kernel
theorem d_m_walks_21 : decode b_m_walks 21 = .ok (.iconst 3, 1) := by decide +kernel
theorem d_m_walks_22 : decode b_m_walks 22 = .ok (.iload 4, 2) := by decide +kernel
theorem d_m_walks_24 : decode b_m_walks 24 = .ok (.imul, 1) := by decide +kernel
theorem d_m_walks_25 : decode b_m_walks 25 = .ok (.ishr, 1) := by decide +kernel
theorem d_m_walks_26 : decode b_m_walks 26 = .ok (.bipush 7, 2) := by decide +kernel
theorem d_m_walks_28 : decode b_m_walks 28 = .ok (.iand, 1) := by decide +kernel
theorem d_m_walks_29 : decode b_m_walks 29 = .ok (.istore 5, 2) := by decide +kernel
theorem d_m_walks_31 : decode b_m_walks 31 = .ok (.aload_n 0, 1) := by decide +kernel
theorem d_m_walks_32 : decode b_m_walks 32 = .ok (.iload 5, 2) := by decide +kernel
theorem d_m_walks_34 : decode b_m_walks 34 = .ok (.iload_n 2, 1) := by decide +kernel
theorem d_m_walks_35 : decode b_m_walks 35 = .ok (.invokevirtual 144, 3) := by decide +kernel
theorem d_m_walks_38 : decode b_m_walks 38 = .ok (.istore 6, 2) := by decide +kernel
theorem d_m_walks_40 : decode b_m_walks 40 = .ok (.iconst 0, 1) := by decide +kernel
theorem d_m_walks_41 : decode b_m_walks 41 = .ok (.istore 7, 2) := by decide +kernel
theorem d_m_walks_43 : decode b_m_walks 43 = .ok (.iload 7, 2) := by decide +kernel
theorem d_m_walks_45 : decode b_m_walks 45 = .ok (.iload 6, 2) := by decide +kernel
theorem d_m_walks_47 : decode b_m_walks 47 = .ok (.if_icmp .ge 57, 3) := by decide +kernel
theorem d_m_walks_50 : decode b_m_walks 50 = .ok (.aload_n 0, 1) := by decide +kernel
theorem d_m_walks_51 : decode b_m_walks 51 = .ok (.dup, 1) := by decide +kernel
theorem d_m_walks_52 : decode b_m_walks 52 = .ok (.getfield 242, 3) := by decide +kernel
theorem d_m_walks_55 : decode b_m_walks 55 = .ok (.aload_n 0, 1) := by decide +kernel
theorem d_m_walks_56 : decode b_m_walks 56 = .ok (.getfield 238, 3) := by decide +kernel
theorem d_m_walks_59 : decode b_m_walks 59 = .ok (.aload_n 0, 1) := by decide +kernel
theorem d_m_walks_60 : decode b_m_walks 60 = .ok (.iload 5, 2) := by decide +kernel
theorem d_m_walks_62 : decode b_m_walks 62 = .ok (.iload_n 2, 1) := by decide +kernel
theorem d_m_walks_63 : decode b_m_walks 63 = .ok (.iload 7, 2) := by decide +kernel
theorem d_m_walks_65 : decode b_m_walks 65 = .ok (.invokevirtual 53, 3) := by decide +kernel
theorem d_m_walks_68 : decode b_m_walks 68 = .ok (.i2l, 1) := by decide +kernel
theorem d_m_walks_69 : decode b_m_walks 69 = .ok (.lmul, 1) := by decide +kernel
theorem d_m_walks_70 : decode b_m_walks 70 = .ok (.ladd, 1) := by decide +kernel
theorem d_m_walks_71 : decode b_m_walks 71 = .ok (.putfield 242, 3) := by decide +kernel
theorem d_m_walks_74 : decode b_m_walks 74 = .ok (.aload_n 0, 1) := by decide +kernel
theorem d_m_walks_75 : decode b_m_walks 75 = .ok (.aload_n 0, 1) := by decide +kernel
theorem d_m_walks_76 : decode b_m_walks 76 = .ok (.getfield 238, 3) := by decide +kernel
theorem d_m_walks_79 : decode b_m_walks 79 = .ok (.ldc 228, 2) := by decide +kernel
theorem d_m_walks_81 : decode b_m_walks 81 = .ok (.aload_n 0, 1) := by decide +kernel
theorem d_m_walks_82 : decode b_m_walks 82 = .ok (.iload_n 1, 1) := by decide +kernel
theorem d_m_walks_83 : decode b_m_walks 83 = .ok (.iload 5, 2) := by decide +kernel
theorem d_m_walks_85 : decode b_m_walks 85 = .ok (.invokevirtual 60, 3) := by decide +kernel
theorem d_m_walks_88 : decode b_m_walks 88 = .ok (.isub, 1) := by decide +kernel
theorem d_m_walks_89 : decode b_m_walks 89 = .ok (.i2l, 1) := by decide +kernel
theorem d_m_walks_90 : decode b_m_walks 90 = .ok (.lmul, 1) := by decide +kernel
theorem d_m_walks_91 : decode b_m_walks 91 = .ok (.ldc2_w 91, 3) := by decide +kernel
theorem d_m_walks_94 : decode b_m_walks 94 = .ok (.ldiv, 1) := by decide +kernel
theorem d_m_walks_95 : decode b_m_walks 95 = .ok (.putfield 238, 3) := by decide +kernel
theorem d_m_walks_98 : decode b_m_walks 98 = .ok (.iinc 7 1, 3) := by decide +kernel
theorem d_m_walks_101 : decode b_m_walks 101 = .ok (.goto (-58), 3) := by decide +kernel
theorem d_m_walks_104 : decode b_m_walks 104 = .ok (.iinc 4 (-1), 3) := by decide +kernel
theorem d_m_walks_107 : decode b_m_walks 107 = .ok (.goto (-92), 3) := by decide +kernel
theorem d_m_walks_110 : decode b_m_walks 110 = .ok (.return_, 1) := by decide +kernel
theorem d_m_isSequence_0 : decode b_m_isSequence 0 = .ok (.iconst 1, 1) := by decide +kernel
theorem d_m_isSequence_1 : decode b_m_isSequence 1 = .ok (.istore_n 3, 1) := by decide +kernel
theorem d_m_isSequence_2 : decode b_m_isSequence 2 = .ok (.iconst 0, 1) := by decide +kernel
theorem d_m_isSequence_3 : decode b_m_isSequence 3 = .ok (.istore 4, 2) := by decide +kernel
theorem d_m_isSequence_5 : decode b_m_isSequence 5 = .ok (.iload 4, 2) := by decide +kernel
theorem d_m_isSequence_7 : decode b_m_isSequence 7 = .ok (.iconst 4, 1) := by decide +kernel
theorem d_m_isSequence_8 : decode b_m_isSequence 8 = .ok (.if_icmp .ge 51, 3) := by decide +kernel
theorem d_m_isSequence_11 : decode b_m_isSequence 11 = .ok (.iload_n 2, 1) := by decide +kernel
theorem d_m_isSequence_12 : decode b_m_isSequence 12 = .ok (.iconst 3, 1) := by decide +kernel
theorem d_m_isSequence_13 : decode b_m_isSequence 13 = .ok (.iload 4, 2) := by decide +kernel
theorem d_m_isSequence_15 : decode b_m_isSequence 15 = .ok (.imul, 1) := by decide +kernel
theorem d_m_isSequence_16 : decode b_m_isSequence 16 = .ok (.ishr, 1) := by decide +kernel
theorem d_m_isSequence_17 : decode b_m_isSequence 17 = .ok (.bipush 7, 2) := by decide +kernel
theorem d_m_isSequence_19 : decode b_m_isSequence 19 = .ok (.iand, 1) := by decide +kernel
theorem d_m_isSequence_20 : decode b_m_isSequence 20 = .ok (.istore 5, 2) := by decide +kernel
theorem d_m_isSequence_22 : decode b_m_isSequence 22 = .ok (.iload_n 3, 1) := by decide +kernel
theorem d_m_isSequence_23 : decode b_m_isSequence 23 = .ok (.ifCond .eq 28, 3) := by decide +kernel
theorem d_m_isSequence_26 : decode b_m_isSequence 26 = .ok (.iload 5, 2) := by decide +kernel
theorem d_m_isSequence_28 : decode b_m_isSequence 28 = .ok (.aload_n 0, 1) := by decide +kernel
theorem d_m_isSequence_29 : decode b_m_isSequence 29 = .ok (.getfield 7, 3) := by decide +kernel
theorem d_m_isSequence_32 : decode b_m_isSequence 32 = .ok (.iconst 1, 1) := by decide +kernel
theorem d_m_isSequence_33 : decode b_m_isSequence 33 = .ok (.iaload, 1) := by decide +kernel
theorem d_m_isSequence_34 : decode b_m_isSequence 34 = .ok (.if_icmp .ge 17, 3) := by decide +kernel
theorem d_m_isSequence_37 : decode b_m_isSequence 37 = .ok (.aload_n 0, 1) := by decide +kernel
theorem d_m_isSequence_38 : decode b_m_isSequence 38 = .ok (.iload_n 1, 1) := by decide +kernel
theorem d_m_isSequence_39 : decode b_m_isSequence 39 = .ok (.iload 5, 2) := by decide +kernel
theorem d_m_isSequence_41 : decode b_m_isSequence 41 = .ok (.invokevirtual 70, 3) := by decide +kernel
theorem d_m_isSequence_44 : decode b_m_isSequence 44 = .ok (.ifCond .eq 7, 3) := by decide +kernel
theorem d_m_isSequence_47 : decode b_m_isSequence 47 = .ok (.iconst 1, 1) := by decide +kernel
theorem d_m_isSequence_48 : decode b_m_isSequence 48 = .ok (.goto 4, 3) := by decide +kernel
theorem d_m_isSequence_51 : decode b_m_isSequence 51 = .ok (.iconst 0, 1) := by decide +kernel
theorem d_m_isSequence_52 : decode b_m_isSequence 52 = .ok (.istore_n 3, 1) := by decide +kernel
theorem d_m_isSequence_53 : decode b_m_isSequence 53 = .ok (.iinc 4 1, 3) := by decide +kernel
theorem d_m_isSequence_56 : decode b_m_isSequence 56 = .ok (.goto (-51), 3) := by decide +kernel
theorem d_m_isSequence_59 : decode b_m_isSequence 59 = .ok (.iload_n 3, 1) := by decide +kernel
theorem d_m_isSequence_60 : decode b_m_isSequence 60 = .ok (.ireturn, 1) := by decide +kernel
theorem d_m_bestChain_0 : decode b_m_bestChain 0 = .ok (.aload_n 0, 1) := by decide +kernel
theorem d_m_bestChain_1 : decode b_m_bestChain 1 = .ok (.iload_n 1, 1) := by decide +kernel
theorem d_m_bestChain_2 : decode b_m_bestChain 2 = .ok (.invokevirtual 35, 3) := by decide +kernel
theorem d_m_bestChain_5 : decode b_m_bestChain 5 = .ok (.ifCond .eq 23, 3) := by decide +kernel
theorem d_m_bestChain_8 : decode b_m_bestChain 8 = .ok (.iload_n 2, 1) := by decide +kernel
theorem d_m_bestChain_9 : decode b_m_bestChain 9 = .ok (.iconst 1, 1) := by decide +kernel
theorem d_m_bestChain_10 : decode b_m_bestChain 10 = .ok (.sipush 4000, 3) := by decide +kernel
theorem d_m_bestChain_13 : decode b_m_bestChain 13 = .ok (.invokestatic 31, 3) := by decide +kernel
theorem d_m_bestChain_16 : decode b_m_bestChain 16 = .ok (.ifCond .eq 12, 3) := by decide +kernel
theorem d_m_bestChain_19 : decode b_m_bestChain 19 = .ok (.iload_n 3, 1) := by decide +kernel
theorem d_m_bestChain_20 : decode b_m_bestChain 20 = .ok (.iconst 0, 1) := by decide +kernel
theorem d_m_bestChain_21 : decode b_m_bestChain 21 = .ok (.iconst 3, 1) := by decide +kernel
theorem d_m_bestChain_22 : decode b_m_bestChain 22 = .ok (.invokestatic 31, 3) := by decide +kernel
theorem d_m_bestChain_25 : decode b_m_bestChain 25 = .ok (.ifCond .ne 5, 3) := by decide +kernel
theorem d_m_bestChain_28 : decode b_m_bestChain 28 = .ok (.iconst (-1), 1) := by decide +kernel
theorem d_m_bestChain_29 : decode b_m_bestChain 29 = .ok (.ireturn, 1) := by decide +kernel
theorem d_m_bestChain_30 : decode b_m_bestChain 30 = .ok (.bipush (-9), 2) := by decide +kernel
theorem d_m_bestChain_32 : decode b_m_bestChain 32 = .ok (.istore 4, 2) := by decide +kernel
theorem d_m_bestChain_34 : decode b_m_bestChain 34 = .ok (.lconst 0, 1) := by decide +kernel
theorem d_m_bestChain_35 : decode b_m_bestChain 35 = .ok (.lstore 5, 2) := by decide +kernel
theorem d_m_bestChain_37 : decode b_m_bestChain 37 = .ok (.lconst 1, 1) := by decide +kernel
theorem d_m_bestChain_38 : decode b_m_bestChain 38 = .ok (.lstore 7, 2) := by decide +kernel
theorem d_m_bestChain_40 : decode b_m_bestChain 40 = .ok (.iconst 0, 1) := by decide +kernel
theorem d_m_bestChain_41 : decode b_m_bestChain 41 = .ok (.istore 9, 2) := by decide +kernel
theorem d_m_bestChain_43 : decode b_m_bestChain 43 = .ok (.iload 9, 2) := by decide +kernel
theorem d_m_bestChain_45 : decode b_m_bestChain 45 = .ok (.sipush 4096, 3) := by decide +kernel
theorem d_m_bestChain_48 : decode b_m_bestChain 48 = .ok (.if_icmp .ge 76, 3) := by decide +kernel
theorem d_m_bestChain_51 : decode b_m_bestChain 51 = .ok (.aload_n 0, 1) := by decide +kernel
theorem d_m_bestChain_52 : decode b_m_bestChain 52 = .ok (.iload_n 1, 1) := by decide +kernel
theorem d_m_bestChain_53 : decode b_m_bestChain 53 = .ok (.iload 9, 2) := by decide +kernel
theorem d_m_bestChain_55 : decode b_m_bestChain 55 = .ok (.invokevirtual 245, 3) := by decide +kernel
theorem d_m_bestChain_58 : decode b_m_bestChain 58 = .ok (.ifCond .eq 60, 3) := by decide +kernel
theorem d_m_bestChain_61 : decode b_m_bestChain 61 = .ok (.aload_n 0, 1) := by decide +kernel
theorem d_m_bestChain_62 : decode b_m_bestChain 62 = .ok (.iload_n 1, 1) := by decide +kernel
theorem d_m_bestChain_63 : decode b_m_bestChain 63 = .ok (.iload_n 2, 1) := by decide +kernel
theorem d_m_bestChain_64 : decode b_m_bestChain 64 = .ok (.iload 9, 2) := by decide +kernel
theorem d_m_bestChain_66 : decode b_m_bestChain 66 = .ok (.invokevirtual 248, 3) := by decide +kernel
theorem d_m_bestChain_69 : decode b_m_bestChain 69 = .ok (.iload 4, 2) := by decide +kernel
theorem d_m_bestChain_71 : decode b_m_bestChain 71 = .ok (.bipush (-9), 2) := by decide +kernel
theorem d_m_bestChain_73 : decode b_m_bestChain 73 = .ok (.if_icmp .eq 25, 3) := by decide +kernel
theorem d_m_bestChain_76 : decode b_m_bestChain 76 = .ok (.ldc2_w 91, 3) := by decide +kernel
theorem d_m_bestChain_79 : decode b_m_bestChain 79 = .ok (.aload_n 0, 1) := by decide +kernel
theorem d_m_bestChain_80 : decode b_m_bestChain 80 = .ok (.getfield 238, 3) := by decide +kernel
theorem d_m_bestChain_83 : decode b_m_bestChain 83 = .ok (.lsub, 1) := by decide +kernel
theorem d_m_bestChain_84 : decode b_m_bestChain 84 = .ok (.lload 7, 2) := by decide +kernel
theorem d_m_bestChain_86 : decode b_m_bestChain 86 = .ok (.lmul, 1) := by decide +kernel
theorem d_m_bestChain_87 : decode b_m_bestChain 87 = .ok (.lload 5, 2) := by decide +kernel
theorem d_m_bestChain_89 : decode b_m_bestChain 89 = .ok (.aload_n 0, 1) := by decide +kernel
theorem d_m_bestChain_90 : decode b_m_bestChain 90 = .ok (.getfield 242, 3) := by decide +kernel
theorem d_m_bestChain_93 : decode b_m_bestChain 93 = .ok (.lmul, 1) := by decide +kernel
theorem d_m_bestChain_94 : decode b_m_bestChain 94 = .ok (.lcmp, 1) := by decide +kernel
theorem d_m_bestChain_95 : decode b_m_bestChain 95 = .ok (.ifCond .le 23, 3) := by decide +kernel
theorem d_m_bestChain_98 : decode b_m_bestChain 98 = .ok (.iload 9, 2) := by decide +kernel
theorem d_m_bestChain_100 : decode b_m_bestChain 100 = .ok (.istore 4, 2) := by decide +kernel
theorem d_m_bestChain_102 : decode b_m_bestChain 102 = .ok (.ldc2_w 91, 3) := by decide +kernel
theorem d_m_bestChain_105 : decode b_m_bestChain 105 = .ok (.aload_n 0, 1) := by decide +kernel
theorem d_m_bestChain_106 : decode b_m_bestChain 106 = .ok (.getfield 238, 3) := by decide +kernel
theorem d_m_bestChain_109 : decode b_m_bestChain 109 = .ok (.lsub, 1) := by decide +kernel
theorem d_m_bestChain_110 : decode b_m_bestChain 110 = .ok (.lstore 5, 2) := by decide +kernel
theorem d_m_bestChain_112 : decode b_m_bestChain 112 = .ok (.aload_n 0, 1) := by decide +kernel
theorem d_m_bestChain_113 : decode b_m_bestChain 113 = .ok (.getfield 242, 3) := by decide +kernel
theorem d_m_bestChain_116 : decode b_m_bestChain 116 = .ok (.lstore 7, 2) := by decide +kernel
theorem d_m_bestChain_118 : decode b_m_bestChain 118 = .ok (.iinc 9 1, 3) := by decide +kernel
theorem d_m_bestChain_121 : decode b_m_bestChain 121 = .ok (.goto (-78), 3) := by decide +kernel
theorem d_m_bestChain_124 : decode b_m_bestChain 124 = .ok (.iload 4, 2) := by decide +kernel
theorem d_m_bestChain_126 : decode b_m_bestChain 126 = .ok (.bipush (-9), 2) := by decide +kernel
theorem d_m_bestChain_128 : decode b_m_bestChain 128 = .ok (.if_icmp .ne 8, 3) := by decide +kernel
theorem d_m_bestChain_131 : decode b_m_bestChain 131 = .ok (.bipush (-9), 2) := by decide +kernel
theorem d_m_bestChain_133 : decode b_m_bestChain 133 = .ok (.goto 14, 3) := by decide +kernel
theorem d_m_bestChain_136 : decode b_m_bestChain 136 = .ok (.iload 4, 2) := by decide +kernel
theorem d_m_bestChain_138 : decode b_m_bestChain 138 = .ok (.iconst 3, 1) := by decide +kernel
theorem d_m_bestChain_139 : decode b_m_bestChain 139 = .ok (.iconst 3, 1) := by decide +kernel
theorem d_m_bestChain_140 : decode b_m_bestChain 140 = .ok (.iload_n 3, 1) := by decide +kernel
theorem d_m_bestChain_141 : decode b_m_bestChain 141 = .ok (.isub, 1) := by decide +kernel
theorem d_m_bestChain_142 : decode b_m_bestChain 142 = .ok (.imul, 1) := by decide +kernel
theorem d_m_bestChain_143 : decode b_m_bestChain 143 = .ok (.ishr, 1) := by decide +kernel
theorem d_m_bestChain_144 : decode b_m_bestChain 144 = .ok (.bipush 7, 2) := by decide +kernel
theorem d_m_bestChain_146 : decode b_m_bestChain 146 = .ok (.iand, 1) := by decide +kernel
theorem d_m_bestChain_147 : decode b_m_bestChain 147 = .ok (.ireturn, 1) := by decide +kernel
theorem d_m_told_0 : decode b_m_told 0 = .ok (.aload_n 0, 1) := by decide +kernel
theorem d_m_told_1 : decode b_m_told 1 = .ok (.iload_n 1, 1) := by decide +kernel
theorem d_m_told_2 : decode b_m_told 2 = .ok (.invokevirtual 35, 3) := by decide +kernel
theorem d_m_told_5 : decode b_m_told 5 = .ok (.ifCond .eq 17, 3) := by decide +kernel
theorem d_m_told_8 : decode b_m_told 8 = .ok (.aload_n 0, 1) := by decide +kernel
theorem d_m_told_9 : decode b_m_told 9 = .ok (.getfield 7, 3) := by decide +kernel
theorem d_m_told_12 : decode b_m_told 12 = .ok (.iload_n 1, 1) := by decide +kernel
theorem d_m_told_13 : decode b_m_told 13 = .ok (.invokestatic 81, 3) := by decide +kernel
theorem d_m_told_16 : decode b_m_told 16 = .ok (.iload_n 2, 1) := by decide +kernel
theorem d_m_told_17 : decode b_m_told 17 = .ok (.iadd, 1) := by decide +kernel
theorem d_m_told_18 : decode b_m_told 18 = .ok (.iaload, 1) := by decide +kernel
theorem d_m_told_19 : decode b_m_told 19 = .ok (.goto 4, 3) := by decide +kernel
theorem d_m_told_22 : decode b_m_told 22 = .ok (.iconst (-1), 1) := by decide +kernel
theorem d_m_told_23 : decode b_m_told 23 = .ok (.ireturn, 1) := by decide +kernel
theorem d_m_chains_0 : decode b_m_chains 0 = .ok (.aload_n 0, 1) := by decide +kernel
theorem d_m_chains_1 : decode b_m_chains 1 = .ok (.iload_n 1, 1) := by decide +kernel
theorem d_m_chains_2 : decode b_m_chains 2 = .ok (.iconst 0, 1) := by decide +kernel
theorem d_m_chains_3 : decode b_m_chains 3 = .ok (.invokevirtual 251, 3) := by decide +kernel
theorem d_m_chains_6 : decode b_m_chains 6 = .ok (.ireturn, 1) := by decide +kernel
theorem d_m_sampled_0 : decode b_m_sampled 0 = .ok (.aload_n 0, 1) := by decide +kernel
theorem d_m_sampled_1 : decode b_m_sampled 1 = .ok (.iload_n 1, 1) := by decide +kernel
theorem d_m_sampled_2 : decode b_m_sampled 2 = .ok (.iconst 1, 1) := by decide +kernel
theorem d_m_sampled_3 : decode b_m_sampled 3 = .ok (.invokevirtual 251, 3) := by decide +kernel
theorem d_m_sampled_6 : decode b_m_sampled 6 = .ok (.ireturn, 1) := by decide +kernel
theorem d_m_delivered_0 : decode b_m_delivered 0 = .ok (.aload_n 0, 1) := by decide +kernel
theorem d_m_delivered_1 : decode b_m_delivered 1 = .ok (.iload_n 1, 1) := by decide +kernel
theorem d_m_delivered_2 : decode b_m_delivered 2 = .ok (.iconst 2, 1) := by decide +kernel
theorem d_m_delivered_3 : decode b_m_delivered 3 = .ok (.invokevirtual 251, 3) := by decide +kernel
theorem d_m_delivered_6 : decode b_m_delivered 6 = .ok (.ireturn, 1) := by decide +kernel
theorem d_m_lost_0 : decode b_m_lost 0 = .ok (.aload_n 0, 1) := by decide +kernel
theorem d_m_lost_1 : decode b_m_lost 1 = .ok (.iload_n 1, 1) := by decide +kernel
theorem d_m_lost_2 : decode b_m_lost 2 = .ok (.iconst 3, 1) := by decide +kernel
theorem d_m_lost_3 : decode b_m_lost 3 = .ok (.invokevirtual 251, 3) := by decide +kernel
theorem d_m_lost_6 : decode b_m_lost 6 = .ok (.ireturn, 1) := by decide +kernel
theorem d_m_queued_0 : decode b_m_queued 0 = .ok (.aload_n 0, 1) := by decide +kernel
theorem d_m_queued_1 : decode b_m_queued 1 = .ok (.iload_n 1, 1) := by decide +kernel
theorem d_m_queued_2 : decode b_m_queued 2 = .ok (.bipush 6, 2) := by decide +kernel
theorem d_m_queued_4 : decode b_m_queued 4 = .ok (.invokevirtual 251, 3) := by decide +kernel
theorem d_m_queued_7 : decode b_m_queued 7 = .ok (.ireturn, 1) := by decide +kernel
theorem d_m_deficit_0 : decode b_m_deficit 0 = .ok (.aload_n 0, 1) := by decide +kernel
theorem d_m_deficit_1 : decode b_m_deficit 1 = .ok (.iload_n 1, 1) := by decide +kernel
theorem d_m_deficit_2 : decode b_m_deficit 2 = .ok (.invokevirtual 35, 3) := by decide +kernel
theorem d_m_deficit_5 : decode b_m_deficit 5 = .ok (.ifCond .eq 18, 3) := by decide +kernel
theorem d_m_deficit_8 : decode b_m_deficit 8 = .ok (.aload_n 0, 1) := by decide +kernel
theorem d_m_deficit_9 : decode b_m_deficit 9 = .ok (.getfield 7, 3) := by decide +kernel
theorem d_m_deficit_12 : decode b_m_deficit 12 = .ok (.iload_n 1, 1) := by decide +kernel
theorem d_m_deficit_13 : decode b_m_deficit 13 = .ok (.invokestatic 81, 3) := by decide +kernel
theorem d_m_deficit_16 : decode b_m_deficit 16 = .ok (.bipush 15, 2) := by decide +kernel
theorem d_m_deficit_18 : decode b_m_deficit 18 = .ok (.iadd, 1) := by decide +kernel
theorem d_m_deficit_19 : decode b_m_deficit 19 = .ok (.iaload, 1) := by decide +kernel
theorem d_m_deficit_20 : decode b_m_deficit 20 = .ok (.goto 5, 3) := by decide +kernel
theorem d_m_deficit_23 : decode b_m_deficit 23 = .ok (.ldc 254, 2) := by decide +kernel
theorem d_m_deficit_25 : decode b_m_deficit 25 = .ok (.ireturn, 1) := by decide +kernel
theorem d_m_inFallback_0 : decode b_m_inFallback 0 = .ok (.aload_n 0, 1) := by decide +kernel
theorem d_m_inFallback_1 : decode b_m_inFallback 1 = .ok (.iload_n 1, 1) := by decide +kernel
theorem d_m_inFallback_2 : decode b_m_inFallback 2 = .ok (.iconst 5, 1) := by decide +kernel
theorem d_m_inFallback_3 : decode b_m_inFallback 3 = .ok (.invokevirtual 251, 3) := by decide +kernel
theorem d_m_inFallback_6 : decode b_m_inFallback 6 = .ok (.ireturn, 1) := by decide +kernel
theorem d_m_time_0 : decode b_m_time 0 = .ok (.aload_n 0, 1) := by decide +kernel
theorem d_m_time_1 : decode b_m_time 1 = .ok (.getfield 7, 3) := by decide +kernel
theorem d_m_time_4 : decode b_m_time 4 = .ok (.iconst 0, 1) := by decide +kernel
theorem d_m_time_5 : decode b_m_time 5 = .ok (.iaload, 1) := by decide +kernel
theorem d_m_time_6 : decode b_m_time 6 = .ok (.ireturn, 1) := by decide +kernel
theorem d_m_setQuality_0 : decode b_m_setQuality 0 = .ok (.aload_n 0, 1) := by decide +kernel
theorem d_m_setQuality_1 : decode b_m_setQuality 1 = .ok (.iload_n 1, 1) := by decide +kernel
theorem d_m_setQuality_2 : decode b_m_setQuality 2 = .ok (.iload_n 2, 1) := by decide +kernel
theorem d_m_setQuality_3 : decode b_m_setQuality 3 = .ok (.invokevirtual 133, 3) := by decide +kernel
theorem d_m_setQuality_6 : decode b_m_setQuality 6 = .ok (.ifCond .eq 23, 3) := by decide +kernel
theorem d_m_setQuality_9 : decode b_m_setQuality 9 = .ok (.aload_n 0, 1) := by decide +kernel
theorem d_m_setQuality_10 : decode b_m_setQuality 10 = .ok (.iload_n 1, 1) := by decide +kernel
theorem d_m_setQuality_11 : decode b_m_setQuality 11 = .ok (.iload_n 2, 1) := by decide +kernel
theorem d_m_setQuality_12 : decode b_m_setQuality 12 = .ok (.invokestatic 57, 3) := by decide +kernel
theorem d_m_setQuality_15 : decode b_m_setQuality 15 = .ok (.bipush 7, 2) := by decide +kernel
theorem d_m_setQuality_17 : decode b_m_setQuality 17 = .ok (.iadd, 1) := by decide +kernel
theorem d_m_setQuality_18 : decode b_m_setQuality 18 = .ok (.iload_n 3, 1) := by decide +kernel
theorem d_m_setQuality_19 : decode b_m_setQuality 19 = .ok (.iconst 0, 1) := by decide +kernel
theorem d_m_setQuality_20 : decode b_m_setQuality 20 = .ok (.sipush 1000, 3) := by decide +kernel
theorem d_m_setQuality_23 : decode b_m_setQuality 23 = .ok (.invokevirtual 136, 3) := by decide +kernel
theorem d_m_setQuality_26 : decode b_m_setQuality 26 = .ok (.goto 4, 3) := by decide +kernel
theorem d_m_setQuality_29 : decode b_m_setQuality 29 = .ok (.iconst (-1), 1) := by decide +kernel
theorem d_m_setQuality_30 : decode b_m_setQuality 30 = .ok (.ireturn, 1) := by decide +kernel
theorem d_m_whyNot_0 : decode b_m_whyNot 0 = .ok (.aload_n 0, 1) := by decide +kernel
theorem d_m_whyNot_1 : decode b_m_whyNot 1 = .ok (.iload_n 1, 1) := by decide +kernel
theorem d_m_whyNot_2 : decode b_m_whyNot 2 = .ok (.invokevirtual 35, 3) := by decide +kernel
theorem d_m_whyNot_5 : decode b_m_whyNot 5 = .ok (.ifCond .eq 24, 3) := by decide +kernel
theorem d_m_whyNot_8 : decode b_m_whyNot 8 = .ok (.iload_n 2, 1) := by decide +kernel
theorem d_m_whyNot_9 : decode b_m_whyNot 9 = .ok (.iconst 1, 1) := by decide +kernel
theorem d_m_whyNot_10 : decode b_m_whyNot 10 = .ok (.bipush 50, 2) := by decide +kernel
theorem d_m_whyNot_12 : decode b_m_whyNot 12 = .ok (.invokestatic 31, 3) := by decide +kernel
theorem d_m_whyNot_15 : decode b_m_whyNot 15 = .ok (.ifCond .eq 14, 3) := by decide +kernel
theorem d_m_whyNot_18 : decode b_m_whyNot 18 = .ok (.iload_n 3, 1) := by decide +kernel
theorem d_m_whyNot_19 : decode b_m_whyNot 19 = .ok (.iconst 1, 1) := by decide +kernel
theorem d_m_whyNot_20 : decode b_m_whyNot 20 = .ok (.sipush 4000, 3) := by decide +kernel
theorem d_m_whyNot_23 : decode b_m_whyNot 23 = .ok (.invokestatic 31, 3) := by decide +kernel
theorem d_m_whyNot_26 : decode b_m_whyNot 26 = .ok (.ifCond .ne 5, 3) := by decide +kernel
theorem d_m_whyNot_29 : decode b_m_whyNot 29 = .ok (.iconst (-1), 1) := by decide +kernel
theorem d_m_whyNot_30 : decode b_m_whyNot 30 = .ok (.ireturn, 1) := by decide +kernel
theorem d_m_whyNot_31 : decode b_m_whyNot 31 = .ok (.aload_n 0, 1) := by decide +kernel
theorem d_m_whyNot_32 : decode b_m_whyNot 32 = .ok (.iload_n 1, 1) := by decide +kernel
theorem d_m_whyNot_33 : decode b_m_whyNot 33 = .ok (.invokevirtual 179, 3) := by decide +kernel
theorem d_m_whyNot_36 : decode b_m_whyNot 36 = .ok (.ifCond .ne 8, 3) := by decide +kernel
theorem d_m_whyNot_39 : decode b_m_whyNot 39 = .ok (.bipush (-2), 2) := by decide +kernel
theorem d_m_whyNot_41 : decode b_m_whyNot 41 = .ok (.goto 34, 3) := by decide +kernel
theorem d_m_whyNot_44 : decode b_m_whyNot 44 = .ok (.aload_n 0, 1) := by decide +kernel
theorem d_m_whyNot_45 : decode b_m_whyNot 45 = .ok (.invokevirtual 164, 3) := by decide +kernel
theorem d_m_whyNot_48 : decode b_m_whyNot 48 = .ok (.bipush (-9), 2) := by decide +kernel
theorem d_m_whyNot_50 : decode b_m_whyNot 50 = .ok (.if_icmp .ne 8, 3) := by decide +kernel
theorem d_m_whyNot_53 : decode b_m_whyNot 53 = .ok (.bipush (-3), 2) := by decide +kernel
theorem d_m_whyNot_55 : decode b_m_whyNot 55 = .ok (.goto 20, 3) := by decide +kernel
theorem d_m_whyNot_58 : decode b_m_whyNot 58 = .ok (.aload_n 0, 1) := by decide +kernel
theorem d_m_whyNot_59 : decode b_m_whyNot 59 = .ok (.getfield 7, 3) := by decide +kernel
theorem d_m_whyNot_62 : decode b_m_whyNot 62 = .ok (.iconst 0, 1) := by decide +kernel
theorem d_m_whyNot_63 : decode b_m_whyNot 63 = .ok (.iaload, 1) := by decide +kernel
theorem d_m_whyNot_64 : decode b_m_whyNot 64 = .ok (.ldc 255, 2) := by decide +kernel
theorem d_m_whyNot_66 : decode b_m_whyNot 66 = .ok (.if_icmp .le 8, 3) := by decide +kernel
theorem d_m_whyNot_69 : decode b_m_whyNot 69 = .ok (.bipush (-4), 2) := by decide +kernel
theorem d_m_whyNot_71 : decode b_m_whyNot 71 = .ok (.goto 4, 3) := by decide +kernel
theorem d_m_whyNot_74 : decode b_m_whyNot 74 = .ok (.iconst 0, 1) := by decide +kernel
theorem d_m_whyNot_75 : decode b_m_whyNot 75 = .ok (.ireturn, 1) := by decide +kernel
theorem d_m_simulates_0 : decode b_m_simulates 0 = .ok (.iload 4, 2) := by decide +kernel
theorem d_m_simulates_2 : decode b_m_simulates 2 = .ok (.istore 5, 2) := by decide +kernel
theorem d_m_simulates_4 : decode b_m_simulates 4 = .ok (.iconst 0, 1) := by decide +kernel
theorem d_m_simulates_5 : decode b_m_simulates 5 = .ok (.istore 6, 2) := by decide +kernel
theorem d_m_simulates_7 : decode b_m_simulates 7 = .ok (.iconst 0, 1) := by decide +kernel
theorem d_m_simulates_8 : decode b_m_simulates 8 = .ok (.istore 7, 2) := by decide +kernel
theorem d_m_simulates_10 : decode b_m_simulates 10 = .ok (.iload 7, 2) := by decide +kernel
theorem d_m_simulates_12 : decode b_m_simulates 12 = .ok (.iload_n 2, 1) := by decide +kernel
theorem d_m_simulates_13 : decode b_m_simulates 13 = .ok (.if_icmp .ge 126, 3) := by decide +kernel
theorem d_m_simulates_16 : decode b_m_simulates 16 = .ok (.aload_n 0, 1) := by decide +kernel
theorem d_m_simulates_17 : decode b_m_simulates 17 = .ok (.iload_n 1, 1) := by decide +kernel
theorem d_m_simulates_18 : decode b_m_simulates 18 = .ok (.iload_n 3, 1) := by decide +kernel
theorem d_m_simulates_19 : decode b_m_simulates 19 = .ok (.invokevirtual 182, 3) := by decide +kernel
theorem d_m_simulates_22 : decode b_m_simulates 22 = .ok (.istore 8, 2) := by decide +kernel
theorem d_m_simulates_24 : decode b_m_simulates 24 = .ok (.aload_n 0, 1) := by decide +kernel
theorem d_m_simulates_25 : decode b_m_simulates 25 = .ok (.iload 8, 2) := by decide +kernel
theorem d_m_simulates_27 : decode b_m_simulates 27 = .ok (.invokevirtual 221, 3) := by decide +kernel
theorem d_m_simulates_30 : decode b_m_simulates 30 = .ok (.istore 9, 2) := by decide +kernel
theorem d_m_simulates_32 : decode b_m_simulates 32 = .ok (.iconst 0, 1) := by decide +kernel
theorem d_m_simulates_33 : decode b_m_simulates 33 = .ok (.istore 10, 2) := by decide +kernel
theorem d_m_simulates_35 : decode b_m_simulates 35 = .ok (.iconst 0, 1) := by decide +kernel
theorem d_m_simulates_36 : decode b_m_simulates 36 = .ok (.istore 11, 2) := by decide +kernel
theorem d_m_simulates_38 : decode b_m_simulates 38 = .ok (.iload 11, 2) := by decide +kernel
theorem d_m_simulates_40 : decode b_m_simulates 40 = .ok (.ifCond .ne 66, 3) := by decide +kernel
theorem d_m_simulates_43 : decode b_m_simulates 43 = .ok (.iload 10, 2) := by decide +kernel
theorem d_m_simulates_45 : decode b_m_simulates 45 = .ok (.iload 9, 2) := by decide +kernel
theorem d_m_simulates_47 : decode b_m_simulates 47 = .ok (.if_icmp .ge 59, 3) := by decide +kernel
theorem d_m_simulates_50 : decode b_m_simulates 50 = .ok (.ldc 157, 2) := by decide +kernel
theorem d_m_simulates_52 : decode b_m_simulates 52 = .ok (.iload 5, 2) := by decide +kernel
theorem d_m_simulates_54 : decode b_m_simulates 54 = .ok (.imul, 1) := by decide +kernel
theorem d_m_simulates_55 : decode b_m_simulates 55 = .ok (.sipush 12345, 3) := by decide +kernel
theorem d_m_simulates_58 : decode b_m_simulates 58 = .ok (.iadd, 1) := by decide +kernel
theorem d_m_simulates_59 : decode b_m_simulates 59 = .ok (.istore 5, 2) := by decide +kernel
theorem d_m_simulates_61 : decode b_m_simulates 61 = .ok (.iload 5, 2) := by decide +kernel
theorem d_m_simulates_63 : decode b_m_simulates 63 = .ok (.bipush 16, 2) := by decide +kernel
theorem d_m_simulates_65 : decode b_m_simulates 65 = .ok (.iushr, 1) := by decide +kernel
theorem d_m_simulates_66 : decode b_m_simulates 66 = .ok (.sipush 1000, 3) := by decide +kernel
theorem d_m_simulates_69 : decode b_m_simulates 69 = .ok (.irem, 1) := by decide +kernel
theorem d_m_simulates_70 : decode b_m_simulates 70 = .ok (.aload_n 0, 1) := by decide +kernel
theorem d_m_simulates_71 : decode b_m_simulates 71 = .ok (.getfield 7, 3) := by decide +kernel
theorem d_m_simulates_74 : decode b_m_simulates 74 = .ok (.iload_n 1, 1) := by decide +kernel
theorem d_m_simulates_75 : decode b_m_simulates 75 = .ok (.aload_n 0, 1) := by decide +kernel
theorem d_m_simulates_76 : decode b_m_simulates 76 = .ok (.iload 8, 2) := by decide +kernel
theorem d_m_simulates_78 : decode b_m_simulates 78 = .ok (.iload 10, 2) := by decide +kernel
theorem d_m_simulates_80 : decode b_m_simulates 80 = .ok (.invokevirtual 198, 3) := by decide +kernel
theorem d_m_simulates_83 : decode b_m_simulates 83 = .ok (.invokestatic 57, 3) := by decide +kernel
theorem d_m_simulates_86 : decode b_m_simulates 86 = .ok (.bipush 7, 2) := by decide +kernel
theorem d_m_simulates_88 : decode b_m_simulates 88 = .ok (.iadd, 1) := by decide +kernel
theorem d_m_simulates_89 : decode b_m_simulates 89 = .ok (.iaload, 1) := by decide +kernel
theorem d_m_simulates_90 : decode b_m_simulates 90 = .ok (.if_icmp .ge 7, 3) := by decide +kernel
theorem d_m_simulates_93 : decode b_m_simulates 93 = .ok (.iconst 1, 1) := by decide +kernel
theorem d_m_simulates_94 : decode b_m_simulates 94 = .ok (.goto 4, 3) := by decide +kernel
theorem d_m_simulates_97 : decode b_m_simulates 97 = .ok (.iconst 0, 1) := by decide +kernel
theorem d_m_simulates_98 : decode b_m_simulates 98 = .ok (.istore 11, 2) := by decide +kernel
theorem d_m_simulates_100 : decode b_m_simulates 100 = .ok (.iinc 10 1, 3) := by decide +kernel
theorem d_m_simulates_103 : decode b_m_simulates 103 = .ok (.goto (-65), 3) := by decide +kernel
theorem d_m_simulates_106 : decode b_m_simulates 106 = .ok (.aload_n 0, 1) := by decide +kernel
theorem d_m_simulates_107 : decode b_m_simulates 107 = .ok (.iload 8, 2) := by decide +kernel
theorem d_m_simulates_109 : decode b_m_simulates 109 = .ok (.iload 10, 2) := by decide +kernel
theorem d_m_simulates_111 : decode b_m_simulates 111 = .ok (.iload 11, 2) := by decide +kernel
theorem d_m_simulates_113 : decode b_m_simulates 113 = .ok (.invokevirtual 224, 3) := by decide +kernel
theorem d_m_simulates_116 : decode b_m_simulates 116 = .ok (.istore 12, 2) := by decide +kernel
theorem d_m_simulates_118 : decode b_m_simulates 118 = .ok (.iload 6, 2) := by decide +kernel
theorem d_m_simulates_120 : decode b_m_simulates 120 = .ok (.iload 11, 2) := by decide +kernel
theorem d_m_simulates_122 : decode b_m_simulates 122 = .ok (.ifCond .eq 7, 3) := by decide +kernel
theorem d_m_simulates_125 : decode b_m_simulates 125 = .ok (.iconst 1, 1) := by decide +kernel
theorem d_m_simulates_126 : decode b_m_simulates 126 = .ok (.goto 4, 3) := by decide +kernel
theorem d_m_simulates_129 : decode b_m_simulates 129 = .ok (.iconst 0, 1) := by decide +kernel
theorem d_m_simulates_130 : decode b_m_simulates 130 = .ok (.iadd, 1) := by decide +kernel
theorem d_m_simulates_131 : decode b_m_simulates 131 = .ok (.istore 6, 2) := by decide +kernel
theorem d_m_simulates_133 : decode b_m_simulates 133 = .ok (.iinc 7 1, 3) := by decide +kernel
theorem d_m_simulates_136 : decode b_m_simulates 136 = .ok (.goto (-126), 3) := by decide +kernel
theorem d_m_simulates_139 : decode b_m_simulates 139 = .ok (.iload 6, 2) := by decide +kernel
theorem d_m_simulates_141 : decode b_m_simulates 141 = .ok (.ireturn, 1) := by decide +kernel
theorem d_m_simulate_0 : decode b_m_simulate 0 = .ok (.aload_n 0, 1) := by decide +kernel
theorem d_m_simulate_1 : decode b_m_simulate 1 = .ok (.iload_n 1, 1) := by decide +kernel
theorem d_m_simulate_2 : decode b_m_simulate 2 = .ok (.iload_n 2, 1) := by decide +kernel
theorem d_m_simulate_3 : decode b_m_simulate 3 = .ok (.iload_n 3, 1) := by decide +kernel
theorem d_m_simulate_4 : decode b_m_simulate 4 = .ok (.invokevirtual 256, 3) := by decide +kernel
theorem d_m_simulate_7 : decode b_m_simulate 7 = .ok (.istore 5, 2) := by decide +kernel
theorem d_m_simulate_9 : decode b_m_simulate 9 = .ok (.iload 5, 2) := by decide +kernel
theorem d_m_simulate_11 : decode b_m_simulate 11 = .ok (.ifCond .eq 6, 3) := by decide +kernel
theorem d_m_simulate_14 : decode b_m_simulate 14 = .ok (.iload 5, 2) := by decide +kernel
theorem d_m_simulate_16 : decode b_m_simulate 16 = .ok (.ireturn, 1) := by decide +kernel
theorem d_m_simulate_17 : decode b_m_simulate 17 = .ok (.aload_n 0, 1) := by decide +kernel
theorem d_m_simulate_18 : decode b_m_simulate 18 = .ok (.invokevirtual 127, 3) := by decide +kernel
theorem d_m_simulate_21 : decode b_m_simulate 21 = .ok (.aload_n 0, 1) := by decide +kernel
theorem d_m_simulate_22 : decode b_m_simulate 22 = .ok (.iload_n 1, 1) := by decide +kernel
theorem d_m_simulate_23 : decode b_m_simulate 23 = .ok (.iload_n 2, 1) := by decide +kernel
theorem d_m_simulate_24 : decode b_m_simulate 24 = .ok (.iload_n 3, 1) := by decide +kernel
theorem d_m_simulate_25 : decode b_m_simulate 25 = .ok (.iload 4, 2) := by decide +kernel
theorem d_m_simulate_27 : decode b_m_simulate 27 = .ok (.invokevirtual 259, 3) := by decide +kernel
theorem d_m_simulate_30 : decode b_m_simulate 30 = .ok (.ireturn, 1) := by decide +kernel
theorem d_m_forecast_0 : decode b_m_forecast 0 = .ok (.aload_n 0, 1) := by decide +kernel
theorem d_m_forecast_1 : decode b_m_forecast 1 = .ok (.iload_n 1, 1) := by decide +kernel
theorem d_m_forecast_2 : decode b_m_forecast 2 = .ok (.iload_n 2, 1) := by decide +kernel
theorem d_m_forecast_3 : decode b_m_forecast 3 = .ok (.iload_n 3, 1) := by decide +kernel
theorem d_m_forecast_4 : decode b_m_forecast 4 = .ok (.invokevirtual 256, 3) := by decide +kernel
theorem d_m_forecast_7 : decode b_m_forecast 7 = .ok (.istore 5, 2) := by decide +kernel
theorem d_m_forecast_9 : decode b_m_forecast 9 = .ok (.iload 5, 2) := by decide +kernel
theorem d_m_forecast_11 : decode b_m_forecast 11 = .ok (.ifCond .eq 6, 3) := by decide +kernel
theorem d_m_forecast_14 : decode b_m_forecast 14 = .ok (.iload 5, 2) := by decide +kernel
theorem d_m_forecast_16 : decode b_m_forecast 16 = .ok (.ireturn, 1) := by decide +kernel
theorem d_m_forecast_17 : decode b_m_forecast 17 = .ok (.iconst 0, 1) := by decide +kernel
theorem d_m_forecast_18 : decode b_m_forecast 18 = .ok (.istore 6, 2) := by decide +kernel
theorem d_m_forecast_20 : decode b_m_forecast 20 = .ok (.iload 6, 2) := by decide +kernel
theorem d_m_forecast_22 : decode b_m_forecast 22 = .ok (.sipush 600, 3) := by decide +kernel
theorem d_m_forecast_25 : decode b_m_forecast 25 = .ok (.if_icmp .ge 23, 3) := by decide +kernel
theorem d_m_forecast_28 : decode b_m_forecast 28 = .ok (.aload_n 0, 1) := by decide +kernel
theorem d_m_forecast_29 : decode b_m_forecast 29 = .ok (.getfield 23, 3) := by decide +kernel
theorem d_m_forecast_32 : decode b_m_forecast 32 = .ok (.iload 6, 2) := by decide +kernel
theorem d_m_forecast_34 : decode b_m_forecast 34 = .ok (.aload_n 0, 1) := by decide +kernel
theorem d_m_forecast_35 : decode b_m_forecast 35 = .ok (.getfield 7, 3) := by decide +kernel
theorem d_m_forecast_38 : decode b_m_forecast 38 = .ok (.iload 6, 2) := by decide +kernel
theorem d_m_forecast_40 : decode b_m_forecast 40 = .ok (.iaload, 1) := by decide +kernel
theorem d_m_forecast_41 : decode b_m_forecast 41 = .ok (.iastore, 1) := by decide +kernel
theorem d_m_forecast_42 : decode b_m_forecast 42 = .ok (.iinc 6 1, 3) := by decide +kernel
theorem d_m_forecast_45 : decode b_m_forecast 45 = .ok (.goto (-25), 3) := by decide +kernel
theorem d_m_forecast_48 : decode b_m_forecast 48 = .ok (.aload_n 0, 1) := by decide +kernel
theorem d_m_forecast_49 : decode b_m_forecast 49 = .ok (.iload_n 1, 1) := by decide +kernel
theorem d_m_forecast_50 : decode b_m_forecast 50 = .ok (.iload_n 2, 1) := by decide +kernel
theorem d_m_forecast_51 : decode b_m_forecast 51 = .ok (.iload_n 3, 1) := by decide +kernel
theorem d_m_forecast_52 : decode b_m_forecast 52 = .ok (.iload 4, 2) := by decide +kernel
theorem d_m_forecast_54 : decode b_m_forecast 54 = .ok (.invokevirtual 259, 3) := by decide +kernel
theorem d_m_forecast_57 : decode b_m_forecast 57 = .ok (.istore 6, 2) := by decide +kernel
theorem d_m_forecast_59 : decode b_m_forecast 59 = .ok (.iconst 0, 1) := by decide +kernel
theorem d_m_forecast_60 : decode b_m_forecast 60 = .ok (.istore 7, 2) := by decide +kernel
theorem d_m_forecast_62 : decode b_m_forecast 62 = .ok (.iload 7, 2) := by decide +kernel
theorem d_m_forecast_64 : decode b_m_forecast 64 = .ok (.sipush 600, 3) := by decide +kernel
theorem d_m_forecast_67 : decode b_m_forecast 67 = .ok (.if_icmp .ge 23, 3) := by decide +kernel
theorem d_m_forecast_70 : decode b_m_forecast 70 = .ok (.aload_n 0, 1) := by decide +kernel
theorem d_m_forecast_71 : decode b_m_forecast 71 = .ok (.getfield 7, 3) := by decide +kernel
theorem d_m_forecast_74 : decode b_m_forecast 74 = .ok (.iload 7, 2) := by decide +kernel
theorem d_m_forecast_76 : decode b_m_forecast 76 = .ok (.aload_n 0, 1) := by decide +kernel
theorem d_m_forecast_77 : decode b_m_forecast 77 = .ok (.getfield 23, 3) := by decide +kernel
theorem d_m_forecast_80 : decode b_m_forecast 80 = .ok (.iload 7, 2) := by decide +kernel
theorem d_m_forecast_82 : decode b_m_forecast 82 = .ok (.iaload, 1) := by decide +kernel
theorem d_m_forecast_83 : decode b_m_forecast 83 = .ok (.iastore, 1) := by decide +kernel
theorem d_m_forecast_84 : decode b_m_forecast 84 = .ok (.iinc 7 1, 3) := by decide +kernel
theorem d_m_forecast_87 : decode b_m_forecast 87 = .ok (.goto (-25), 3) := by decide +kernel
theorem d_m_forecast_90 : decode b_m_forecast 90 = .ok (.iload 6, 2) := by decide +kernel
theorem d_m_forecast_92 : decode b_m_forecast 92 = .ok (.ireturn, 1) := by decide +kernel
theorem d_m_oracle_0 : decode b_m_oracle 0 = .ok (.aload_n 0, 1) := by decide +kernel
theorem d_m_oracle_1 : decode b_m_oracle 1 = .ok (.iload_n 1, 1) := by decide +kernel
theorem d_m_oracle_2 : decode b_m_oracle 2 = .ok (.invokevirtual 35, 3) := by decide +kernel
theorem d_m_oracle_5 : decode b_m_oracle 5 = .ok (.ifCond .eq 14, 3) := by decide +kernel
theorem d_m_oracle_8 : decode b_m_oracle 8 = .ok (.iload_n 2, 1) := by decide +kernel
theorem d_m_oracle_9 : decode b_m_oracle 9 = .ok (.iconst 1, 1) := by decide +kernel
theorem d_m_oracle_10 : decode b_m_oracle 10 = .ok (.sipush 4000, 3) := by decide +kernel
theorem d_m_oracle_13 : decode b_m_oracle 13 = .ok (.invokestatic 31, 3) := by decide +kernel
theorem d_m_oracle_16 : decode b_m_oracle 16 = .ok (.ifCond .ne 5, 3) := by decide +kernel
theorem d_m_oracle_19 : decode b_m_oracle 19 = .ok (.iconst (-1), 1) := by decide +kernel
theorem d_m_oracle_20 : decode b_m_oracle 20 = .ok (.ireturn, 1) := by decide +kernel
theorem d_m_oracle_21 : decode b_m_oracle 21 = .ok (.bipush (-9), 2) := by decide +kernel
theorem d_m_oracle_23 : decode b_m_oracle 23 = .ok (.istore_n 3, 1) := by decide +kernel
theorem d_m_oracle_24 : decode b_m_oracle 24 = .ok (.iconst 0, 1) := by decide +kernel
theorem d_m_oracle_25 : decode b_m_oracle 25 = .ok (.istore 4, 2) := by decide +kernel
theorem d_m_oracle_27 : decode b_m_oracle 27 = .ok (.iload 4, 2) := by decide +kernel
theorem d_m_oracle_29 : decode b_m_oracle 29 = .ok (.aload_n 0, 1) := by decide +kernel
theorem d_m_oracle_30 : decode b_m_oracle 30 = .ok (.getfield 7, 3) := by decide +kernel
theorem d_m_oracle_33 : decode b_m_oracle 33 = .ok (.iconst 1, 1) := by decide +kernel
theorem d_m_oracle_34 : decode b_m_oracle 34 = .ok (.iaload, 1) := by decide +kernel
theorem d_m_oracle_35 : decode b_m_oracle 35 = .ok (.if_icmp .ge 87, 3) := by decide +kernel
theorem d_m_oracle_38 : decode b_m_oracle 38 = .ok (.aload_n 0, 1) := by decide +kernel
theorem d_m_oracle_39 : decode b_m_oracle 39 = .ok (.getfield 7, 3) := by decide +kernel
theorem d_m_oracle_42 : decode b_m_oracle 42 = .ok (.iload_n 1, 1) := by decide +kernel
theorem d_m_oracle_43 : decode b_m_oracle 43 = .ok (.iload 4, 2) := by decide +kernel
theorem d_m_oracle_45 : decode b_m_oracle 45 = .ok (.invokestatic 57, 3) := by decide +kernel
theorem d_m_oracle_48 : decode b_m_oracle 48 = .ok (.bipush 7, 2) := by decide +kernel
theorem d_m_oracle_50 : decode b_m_oracle 50 = .ok (.iadd, 1) := by decide +kernel
theorem d_m_oracle_51 : decode b_m_oracle 51 = .ok (.iaload, 1) := by decide +kernel
theorem d_m_oracle_52 : decode b_m_oracle 52 = .ok (.istore 5, 2) := by decide +kernel
theorem d_m_oracle_54 : decode b_m_oracle 54 = .ok (.aload_n 0, 1) := by decide +kernel
theorem d_m_oracle_55 : decode b_m_oracle 55 = .ok (.iload_n 1, 1) := by decide +kernel
theorem d_m_oracle_56 : decode b_m_oracle 56 = .ok (.iload 4, 2) := by decide +kernel
theorem d_m_oracle_58 : decode b_m_oracle 58 = .ok (.invokevirtual 70, 3) := by decide +kernel
theorem d_m_oracle_61 : decode b_m_oracle 61 = .ok (.ifCond .eq 55, 3) := by decide +kernel
theorem d_m_oracle_64 : decode b_m_oracle 64 = .ok (.iload 5, 2) := by decide +kernel
theorem d_m_oracle_66 : decode b_m_oracle 66 = .ok (.ifCond .le 50, 3) := by decide +kernel
theorem d_m_oracle_69 : decode b_m_oracle 69 = .ok (.iload_n 3, 1) := by decide +kernel
theorem d_m_oracle_70 : decode b_m_oracle 70 = .ok (.bipush (-9), 2) := by decide +kernel
theorem d_m_oracle_72 : decode b_m_oracle 72 = .ok (.if_icmp .eq 41, 3) := by decide +kernel
theorem d_m_oracle_75 : decode b_m_oracle 75 = .ok (.iload 5, 2) := by decide +kernel
theorem d_m_oracle_77 : decode b_m_oracle 77 = .ok (.i2l, 1) := by decide +kernel
theorem d_m_oracle_78 : decode b_m_oracle 78 = .ok (.aload_n 0, 1) := by decide +kernel
theorem d_m_oracle_79 : decode b_m_oracle 79 = .ok (.iload_n 3, 1) := by decide +kernel
theorem d_m_oracle_80 : decode b_m_oracle 80 = .ok (.iload_n 2, 1) := by decide +kernel
theorem d_m_oracle_81 : decode b_m_oracle 81 = .ok (.invokevirtual 46, 3) := by decide +kernel
theorem d_m_oracle_84 : decode b_m_oracle 84 = .ok (.i2l, 1) := by decide +kernel
theorem d_m_oracle_85 : decode b_m_oracle 85 = .ok (.lmul, 1) := by decide +kernel
theorem d_m_oracle_86 : decode b_m_oracle 86 = .ok (.aload_n 0, 1) := by decide +kernel
theorem d_m_oracle_87 : decode b_m_oracle 87 = .ok (.getfield 7, 3) := by decide +kernel
theorem d_m_oracle_90 : decode b_m_oracle 90 = .ok (.iload_n 1, 1) := by decide +kernel
theorem d_m_oracle_91 : decode b_m_oracle 91 = .ok (.iload_n 3, 1) := by decide +kernel
theorem d_m_oracle_92 : decode b_m_oracle 92 = .ok (.invokestatic 57, 3) := by decide +kernel
theorem d_m_oracle_95 : decode b_m_oracle 95 = .ok (.bipush 7, 2) := by decide +kernel
theorem d_m_oracle_97 : decode b_m_oracle 97 = .ok (.iadd, 1) := by decide +kernel
theorem d_m_oracle_98 : decode b_m_oracle 98 = .ok (.iaload, 1) := by decide +kernel
theorem d_m_oracle_99 : decode b_m_oracle 99 = .ok (.i2l, 1) := by decide +kernel
theorem d_m_oracle_100 : decode b_m_oracle 100 = .ok (.aload_n 0, 1) := by decide +kernel
theorem d_m_oracle_101 : decode b_m_oracle 101 = .ok (.iload 4, 2) := by decide +kernel
theorem d_m_oracle_103 : decode b_m_oracle 103 = .ok (.iload_n 2, 1) := by decide +kernel
theorem d_m_oracle_104 : decode b_m_oracle 104 = .ok (.invokevirtual 46, 3) := by decide +kernel
theorem d_m_oracle_107 : decode b_m_oracle 107 = .ok (.i2l, 1) := by decide +kernel
theorem d_m_oracle_108 : decode b_m_oracle 108 = .ok (.lmul, 1) := by decide +kernel
theorem d_m_oracle_109 : decode b_m_oracle 109 = .ok (.lcmp, 1) := by decide +kernel
theorem d_m_oracle_110 : decode b_m_oracle 110 = .ok (.ifCond .le 6, 3) := by decide +kernel
theorem d_m_oracle_113 : decode b_m_oracle 113 = .ok (.iload 4, 2) := by decide +kernel
theorem d_m_oracle_115 : decode b_m_oracle 115 = .ok (.istore_n 3, 1) := by decide +kernel
theorem d_m_oracle_116 : decode b_m_oracle 116 = .ok (.iinc 4 1, 3) := by decide +kernel
theorem d_m_oracle_119 : decode b_m_oracle 119 = .ok (.goto (-92), 3) := by decide +kernel
theorem d_m_oracle_122 : decode b_m_oracle 122 = .ok (.iload_n 3, 1) := by decide +kernel
theorem d_m_oracle_123 : decode b_m_oracle 123 = .ok (.ireturn, 1) := by decide +kernel
theorem d_m_events_0 : decode b_m_events 0 = .ok (.aload_n 0, 1) := by decide +kernel
theorem d_m_events_1 : decode b_m_events 1 = .ok (.getfield 7, 3) := by decide +kernel
theorem d_m_events_4 : decode b_m_events 4 = .ok (.bipush 8, 2) := by decide +kernel
theorem d_m_events_6 : decode b_m_events 6 = .ok (.iaload, 1) := by decide +kernel
theorem d_m_events_7 : decode b_m_events 7 = .ok (.ireturn, 1) := by decide +kernel
theorem d_m_event_0 : decode b_m_event 0 = .ok (.iload_n 1, 1) := by decide +kernel
theorem d_m_event_1 : decode b_m_event 1 = .ok (.ifCond .ge 5, 3) := by decide +kernel
theorem d_m_event_4 : decode b_m_event 4 = .ok (.iconst (-1), 1) := by decide +kernel
theorem d_m_event_5 : decode b_m_event 5 = .ok (.ireturn, 1) := by decide +kernel
theorem d_m_event_6 : decode b_m_event 6 = .ok (.iload_n 1, 1) := by decide +kernel
theorem d_m_event_7 : decode b_m_event 7 = .ok (.bipush 20, 2) := by decide +kernel
theorem d_m_event_9 : decode b_m_event 9 = .ok (.if_icmp .ge 44, 3) := by decide +kernel
theorem d_m_event_12 : decode b_m_event 12 = .ok (.iload_n 1, 1) := by decide +kernel
theorem d_m_event_13 : decode b_m_event 13 = .ok (.aload_n 0, 1) := by decide +kernel
theorem d_m_event_14 : decode b_m_event 14 = .ok (.getfield 7, 3) := by decide +kernel
theorem d_m_event_17 : decode b_m_event 17 = .ok (.bipush 8, 2) := by decide +kernel
theorem d_m_event_19 : decode b_m_event 19 = .ok (.iaload, 1) := by decide +kernel
theorem d_m_event_20 : decode b_m_event 20 = .ok (.if_icmp .ge 33, 3) := by decide +kernel
theorem d_m_event_23 : decode b_m_event 23 = .ok (.aload_n 0, 1) := by decide +kernel
theorem d_m_event_24 : decode b_m_event 24 = .ok (.getfield 7, 3) := by decide +kernel
theorem d_m_event_27 : decode b_m_event 27 = .ok (.sipush 516, 3) := by decide +kernel
theorem d_m_event_30 : decode b_m_event 30 = .ok (.iconst 4, 1) := by decide +kernel
theorem d_m_event_31 : decode b_m_event 31 = .ok (.aload_n 0, 1) := by decide +kernel
theorem d_m_event_32 : decode b_m_event 32 = .ok (.getfield 7, 3) := by decide +kernel
theorem d_m_event_35 : decode b_m_event 35 = .ok (.bipush 8, 2) := by decide +kernel
theorem d_m_event_37 : decode b_m_event 37 = .ok (.iaload, 1) := by decide +kernel
theorem d_m_event_38 : decode b_m_event 38 = .ok (.iconst 1, 1) := by decide +kernel
theorem d_m_event_39 : decode b_m_event 39 = .ok (.isub, 1) := by decide +kernel
theorem d_m_event_40 : decode b_m_event 40 = .ok (.iload_n 1, 1) := by decide +kernel
theorem d_m_event_41 : decode b_m_event 41 = .ok (.isub, 1) := by decide +kernel
theorem d_m_event_42 : decode b_m_event 42 = .ok (.bipush 20, 2) := by decide +kernel
theorem d_m_event_44 : decode b_m_event 44 = .ok (.irem, 1) := by decide +kernel
theorem d_m_event_45 : decode b_m_event 45 = .ok (.imul, 1) := by decide +kernel
theorem d_m_event_46 : decode b_m_event 46 = .ok (.iadd, 1) := by decide +kernel
theorem d_m_event_47 : decode b_m_event 47 = .ok (.iload_n 2, 1) := by decide +kernel
theorem d_m_event_48 : decode b_m_event 48 = .ok (.iadd, 1) := by decide +kernel
theorem d_m_event_49 : decode b_m_event 49 = .ok (.iaload, 1) := by decide +kernel
theorem d_m_event_50 : decode b_m_event 50 = .ok (.goto 5, 3) := by decide +kernel
theorem d_m_event_53 : decode b_m_event 53 = .ok (.bipush (-9), 2) := by decide +kernel
theorem d_m_event_55 : decode b_m_event 55 = .ok (.ireturn, 1) := by decide +kernel
theorem d_m_eventKind_0 : decode b_m_eventKind 0 = .ok (.aload_n 0, 1) := by decide +kernel
theorem d_m_eventKind_1 : decode b_m_eventKind 1 = .ok (.iload_n 1, 1) := by decide +kernel
theorem d_m_eventKind_2 : decode b_m_eventKind 2 = .ok (.iconst 0, 1) := by decide +kernel
theorem d_m_eventKind_3 : decode b_m_eventKind 3 = .ok (.invokevirtual 262, 3) := by decide +kernel
theorem d_m_eventKind_6 : decode b_m_eventKind 6 = .ok (.ireturn, 1) := by decide +kernel
theorem d_m_eventStation_0 : decode b_m_eventStation 0 = .ok (.aload_n 0, 1) := by decide +kernel
theorem d_m_eventStation_1 : decode b_m_eventStation 1 = .ok (.iload_n 1, 1) := by decide +kernel
theorem d_m_eventStation_2 : decode b_m_eventStation 2 = .ok (.iconst 1, 1) := by decide +kernel
theorem d_m_eventStation_3 : decode b_m_eventStation 3 = .ok (.invokevirtual 262, 3) := by decide +kernel
theorem d_m_eventStation_6 : decode b_m_eventStation 6 = .ok (.ireturn, 1) := by decide +kernel
theorem d_m_eventRate_0 : decode b_m_eventRate 0 = .ok (.aload_n 0, 1) := by decide +kernel
theorem d_m_eventRate_1 : decode b_m_eventRate 1 = .ok (.iload_n 1, 1) := by decide +kernel
theorem d_m_eventRate_2 : decode b_m_eventRate 2 = .ok (.iconst 2, 1) := by decide +kernel
theorem d_m_eventRate_3 : decode b_m_eventRate 3 = .ok (.invokevirtual 262, 3) := by decide +kernel
theorem d_m_eventRate_6 : decode b_m_eventRate 6 = .ok (.ireturn, 1) := by decide +kernel
theorem d_m_eventTime_0 : decode b_m_eventTime 0 = .ok (.aload_n 0, 1) := by decide +kernel
theorem d_m_eventTime_1 : decode b_m_eventTime 1 = .ok (.iload_n 1, 1) := by decide +kernel
theorem d_m_eventTime_2 : decode b_m_eventTime 2 = .ok (.iconst 3, 1) := by decide +kernel
theorem d_m_eventTime_3 : decode b_m_eventTime 3 = .ok (.invokevirtual 262, 3) := by decide +kernel
theorem d_m_eventTime_6 : decode b_m_eventTime 6 = .ok (.ireturn, 1) := by decide +kernel
theorem d_m_save_0 : decode b_m_save 0 = .ok (.iload_n 1, 1) := by decide +kernel
theorem d_m_save_1 : decode b_m_save 1 = .ok (.iconst 0, 1) := by decide +kernel
theorem d_m_save_2 : decode b_m_save 2 = .ok (.iconst 1, 1) := by decide +kernel
theorem d_m_save_3 : decode b_m_save 3 = .ok (.invokestatic 31, 3) := by decide +kernel
theorem d_m_save_6 : decode b_m_save 6 = .ok (.ifCond .ne 5, 3) := by decide +kernel
theorem d_m_save_9 : decode b_m_save 9 = .ok (.iconst (-1), 1) := by decide +kernel
theorem d_m_save_10 : decode b_m_save 10 = .ok (.ireturn, 1) := by decide +kernel
theorem d_m_save_11 : decode b_m_save 11 = .ok (.iconst 0, 1) := by decide +kernel
theorem d_m_save_12 : decode b_m_save 12 = .ok (.istore_n 2, 1) := by decide +kernel
theorem d_m_save_13 : decode b_m_save 13 = .ok (.iload_n 2, 1) := by decide +kernel
theorem d_m_save_14 : decode b_m_save 14 = .ok (.sipush 600, 3) := by decide +kernel
theorem d_m_save_17 : decode b_m_save 17 = .ok (.if_icmp .ge 27, 3) := by decide +kernel
theorem d_m_save_20 : decode b_m_save 20 = .ok (.aload_n 0, 1) := by decide +kernel
theorem d_m_save_21 : decode b_m_save 21 = .ok (.getfield 13, 3) := by decide +kernel
theorem d_m_save_24 : decode b_m_save 24 = .ok (.sipush 600, 3) := by decide +kernel
theorem d_m_save_27 : decode b_m_save 27 = .ok (.iload_n 1, 1) := by decide +kernel
theorem d_m_save_28 : decode b_m_save 28 = .ok (.imul, 1) := by decide +kernel
theorem d_m_save_29 : decode b_m_save 29 = .ok (.iload_n 2, 1) := by decide +kernel
theorem d_m_save_30 : decode b_m_save 30 = .ok (.iadd, 1) := by decide +kernel
theorem d_m_save_31 : decode b_m_save 31 = .ok (.aload_n 0, 1) := by decide +kernel
theorem d_m_save_32 : decode b_m_save 32 = .ok (.getfield 7, 3) := by decide +kernel
theorem d_m_save_35 : decode b_m_save 35 = .ok (.iload_n 2, 1) := by decide +kernel
theorem d_m_save_36 : decode b_m_save 36 = .ok (.iaload, 1) := by decide +kernel
theorem d_m_save_37 : decode b_m_save 37 = .ok (.iastore, 1) := by decide +kernel
theorem d_m_save_38 : decode b_m_save 38 = .ok (.iinc 2 1, 3) := by decide +kernel
theorem d_m_save_41 : decode b_m_save 41 = .ok (.goto (-28), 3) := by decide +kernel
theorem d_m_save_44 : decode b_m_save 44 = .ok (.aload_n 0, 1) := by decide +kernel
theorem d_m_save_45 : decode b_m_save 45 = .ok (.getfield 16, 3) := by decide +kernel
theorem d_m_save_48 : decode b_m_save 48 = .ok (.iload_n 1, 1) := by decide +kernel
theorem d_m_save_49 : decode b_m_save 49 = .ok (.iconst 1, 1) := by decide +kernel
theorem d_m_save_50 : decode b_m_save 50 = .ok (.bastore, 1) := by decide +kernel
theorem d_m_save_51 : decode b_m_save 51 = .ok (.aload_n 0, 1) := by decide +kernel
theorem d_m_save_52 : decode b_m_save 52 = .ok (.getfield 7, 3) := by decide +kernel
theorem d_m_save_55 : decode b_m_save 55 = .ok (.iconst 0, 1) := by decide +kernel
theorem d_m_save_56 : decode b_m_save 56 = .ok (.iaload, 1) := by decide +kernel
theorem d_m_save_57 : decode b_m_save 57 = .ok (.ireturn, 1) := by decide +kernel
theorem d_m_restore_0 : decode b_m_restore 0 = .ok (.iload_n 1, 1) := by decide +kernel
theorem d_m_restore_1 : decode b_m_restore 1 = .ok (.iconst 0, 1) := by decide +kernel
theorem d_m_restore_2 : decode b_m_restore 2 = .ok (.iconst 1, 1) := by decide +kernel
theorem d_m_restore_3 : decode b_m_restore 3 = .ok (.invokestatic 31, 3) := by decide +kernel
theorem d_m_restore_6 : decode b_m_restore 6 = .ok (.ifCond .ne 5, 3) := by decide +kernel
theorem d_m_restore_9 : decode b_m_restore 9 = .ok (.iconst (-1), 1) := by decide +kernel
theorem d_m_restore_10 : decode b_m_restore 10 = .ok (.ireturn, 1) := by decide +kernel
theorem d_m_restore_11 : decode b_m_restore 11 = .ok (.aload_n 0, 1) := by decide +kernel
theorem d_m_restore_12 : decode b_m_restore 12 = .ok (.getfield 16, 3) := by decide +kernel
theorem d_m_restore_15 : decode b_m_restore 15 = .ok (.iload_n 1, 1) := by decide +kernel
theorem d_m_restore_16 : decode b_m_restore 16 = .ok (.baload, 1) := by decide +kernel
theorem d_m_restore_17 : decode b_m_restore 17 = .ok (.ifCond .ne 6, 3) := by decide +kernel
theorem d_m_restore_20 : decode b_m_restore 20 = .ok (.bipush (-2), 2) := by decide +kernel
theorem d_m_restore_22 : decode b_m_restore 22 = .ok (.ireturn, 1) := by decide +kernel
theorem d_m_restore_23 : decode b_m_restore 23 = .ok (.iconst 0, 1) := by decide +kernel
theorem d_m_restore_24 : decode b_m_restore 24 = .ok (.istore_n 2, 1) := by decide +kernel
theorem d_m_restore_25 : decode b_m_restore 25 = .ok (.iload_n 2, 1) := by decide +kernel
theorem d_m_restore_26 : decode b_m_restore 26 = .ok (.sipush 600, 3) := by decide +kernel
theorem d_m_restore_29 : decode b_m_restore 29 = .ok (.if_icmp .ge 27, 3) := by decide +kernel
theorem d_m_restore_32 : decode b_m_restore 32 = .ok (.aload_n 0, 1) := by decide +kernel
theorem d_m_restore_33 : decode b_m_restore 33 = .ok (.getfield 7, 3) := by decide +kernel
theorem d_m_restore_36 : decode b_m_restore 36 = .ok (.iload_n 2, 1) := by decide +kernel
theorem d_m_restore_37 : decode b_m_restore 37 = .ok (.aload_n 0, 1) := by decide +kernel
theorem d_m_restore_38 : decode b_m_restore 38 = .ok (.getfield 13, 3) := by decide +kernel
theorem d_m_restore_41 : decode b_m_restore 41 = .ok (.sipush 600, 3) := by decide +kernel
theorem d_m_restore_44 : decode b_m_restore 44 = .ok (.iload_n 1, 1) := by decide +kernel
theorem d_m_restore_45 : decode b_m_restore 45 = .ok (.imul, 1) := by decide +kernel
theorem d_m_restore_46 : decode b_m_restore 46 = .ok (.iload_n 2, 1) := by decide +kernel
theorem d_m_restore_47 : decode b_m_restore 47 = .ok (.iadd, 1) := by decide +kernel
theorem d_m_restore_48 : decode b_m_restore 48 = .ok (.iaload, 1) := by decide +kernel
theorem d_m_restore_49 : decode b_m_restore 49 = .ok (.iastore, 1) := by decide +kernel
theorem d_m_restore_50 : decode b_m_restore 50 = .ok (.iinc 2 1, 3) := by decide +kernel
theorem d_m_restore_53 : decode b_m_restore 53 = .ok (.goto (-28), 3) := by decide +kernel
theorem d_m_restore_56 : decode b_m_restore 56 = .ok (.aload_n 0, 1) := by decide +kernel
theorem d_m_restore_57 : decode b_m_restore 57 = .ok (.iconst 0, 1) := by decide +kernel
theorem d_m_restore_58 : decode b_m_restore 58 = .ok (.putfield 27, 3) := by decide +kernel
theorem d_m_restore_61 : decode b_m_restore 61 = .ok (.aload_n 0, 1) := by decide +kernel
theorem d_m_restore_62 : decode b_m_restore 62 = .ok (.getfield 7, 3) := by decide +kernel
theorem d_m_restore_65 : decode b_m_restore 65 = .ok (.iconst 0, 1) := by decide +kernel
theorem d_m_restore_66 : decode b_m_restore 66 = .ok (.iaload, 1) := by decide +kernel
theorem d_m_restore_67 : decode b_m_restore 67 = .ok (.ireturn, 1) := by decide +kernel
theorem d_m_undo_0 : decode b_m_undo 0 = .ok (.aload_n 0, 1) := by decide +kernel
theorem d_m_undo_1 : decode b_m_undo 1 = .ok (.getfield 27, 3) := by decide +kernel
theorem d_m_undo_4 : decode b_m_undo 4 = .ok (.ifCond .ne 6, 3) := by decide +kernel
theorem d_m_undo_7 : decode b_m_undo 7 = .ok (.bipush (-2), 2) := by decide +kernel
theorem d_m_undo_9 : decode b_m_undo 9 = .ok (.ireturn, 1) := by decide +kernel
theorem d_m_undo_10 : decode b_m_undo 10 = .ok (.aload_n 0, 1) := by decide +kernel
theorem d_m_undo_11 : decode b_m_undo 11 = .ok (.dup, 1) := by decide +kernel
theorem d_m_undo_12 : decode b_m_undo 12 = .ok (.getfield 27, 3) := by decide +kernel
theorem d_m_undo_15 : decode b_m_undo 15 = .ok (.iconst 1, 1) := by decide +kernel
theorem d_m_undo_16 : decode b_m_undo 16 = .ok (.isub, 1) := by decide +kernel
theorem d_m_undo_17 : decode b_m_undo 17 = .ok (.putfield 27, 3) := by decide +kernel
theorem d_m_undo_20 : decode b_m_undo 20 = .ok (.iconst 0, 1) := by decide +kernel
theorem d_m_undo_21 : decode b_m_undo 21 = .ok (.istore_n 1, 1) := by decide +kernel
theorem d_m_undo_22 : decode b_m_undo 22 = .ok (.iload_n 1, 1) := by decide +kernel
theorem d_m_undo_23 : decode b_m_undo 23 = .ok (.sipush 600, 3) := by decide +kernel
theorem d_m_undo_26 : decode b_m_undo 26 = .ok (.if_icmp .ge 30, 3) := by decide +kernel
theorem d_m_undo_29 : decode b_m_undo 29 = .ok (.aload_n 0, 1) := by decide +kernel
theorem d_m_undo_30 : decode b_m_undo 30 = .ok (.getfield 7, 3) := by decide +kernel
theorem d_m_undo_33 : decode b_m_undo 33 = .ok (.iload_n 1, 1) := by decide +kernel
theorem d_m_undo_34 : decode b_m_undo 34 = .ok (.aload_n 0, 1) := by decide +kernel
theorem d_m_undo_35 : decode b_m_undo 35 = .ok (.getfield 20, 3) := by decide +kernel
theorem d_m_undo_38 : decode b_m_undo 38 = .ok (.sipush 600, 3) := by decide +kernel
theorem d_m_undo_41 : decode b_m_undo 41 = .ok (.aload_n 0, 1) := by decide +kernel
theorem d_m_undo_42 : decode b_m_undo 42 = .ok (.getfield 27, 3) := by decide +kernel
theorem d_m_undo_45 : decode b_m_undo 45 = .ok (.imul, 1) := by decide +kernel
theorem d_m_undo_46 : decode b_m_undo 46 = .ok (.iload_n 1, 1) := by decide +kernel
theorem d_m_undo_47 : decode b_m_undo 47 = .ok (.iadd, 1) := by decide +kernel
theorem d_m_undo_48 : decode b_m_undo 48 = .ok (.iaload, 1) := by decide +kernel
theorem d_m_undo_49 : decode b_m_undo 49 = .ok (.iastore, 1) := by decide +kernel
theorem d_m_undo_50 : decode b_m_undo 50 = .ok (.iinc 1 1, 3) := by decide +kernel
theorem d_m_undo_53 : decode b_m_undo 53 = .ok (.goto (-31), 3) := by decide +kernel
theorem d_m_undo_56 : decode b_m_undo 56 = .ok (.aload_n 0, 1) := by decide +kernel
theorem d_m_undo_57 : decode b_m_undo 57 = .ok (.getfield 27, 3) := by decide +kernel
theorem d_m_undo_60 : decode b_m_undo 60 = .ok (.ireturn, 1) := by decide +kernel
theorem d_m_stationDigest_0 : decode b_m_stationDigest 0 = .ok (.lload_n 1, 1) := by decide +kernel
theorem d_m_stationDigest_1 : decode b_m_stationDigest 1 = .ok (.lstore 4, 2) := by decide +kernel
theorem d_m_stationDigest_3 : decode b_m_stationDigest 3 = .ok (.iconst 0, 1) := by decide +kernel
theorem d_m_stationDigest_4 : decode b_m_stationDigest 4 = .ok (.istore 6, 2) := by decide +kernel
theorem d_m_stationDigest_6 : decode b_m_stationDigest 6 = .ok (.iload 6, 2) := by decide +kernel
theorem d_m_stationDigest_8 : decode b_m_stationDigest 8 = .ok (.iconst 4, 1) := by decide +kernel
theorem d_m_stationDigest_9 : decode b_m_stationDigest 9 = .ok (.if_icmp .ge 31, 3) := by decide +kernel
theorem d_m_stationDigest_12 : decode b_m_stationDigest 12 = .ok (.ldc2_w 265, 3) := by decide +kernel
theorem d_m_stationDigest_15 : decode b_m_stationDigest 15 = .ok (.lload 4, 2) := by decide +kernel
theorem d_m_stationDigest_17 : decode b_m_stationDigest 17 = .ok (.lmul, 1) := by decide +kernel
theorem d_m_stationDigest_18 : decode b_m_stationDigest 18 = .ok (.aload_n 0, 1) := by decide +kernel
theorem d_m_stationDigest_19 : decode b_m_stationDigest 19 = .ok (.getfield 7, 3) := by decide +kernel
theorem d_m_stationDigest_22 : decode b_m_stationDigest 22 = .ok (.iload_n 3, 1) := by decide +kernel
theorem d_m_stationDigest_23 : decode b_m_stationDigest 23 = .ok (.invokestatic 81, 3) := by decide +kernel
theorem d_m_stationDigest_26 : decode b_m_stationDigest 26 = .ok (.iload 6, 2) := by decide +kernel
theorem d_m_stationDigest_28 : decode b_m_stationDigest 28 = .ok (.iadd, 1) := by decide +kernel
theorem d_m_stationDigest_29 : decode b_m_stationDigest 29 = .ok (.iaload, 1) := by decide +kernel
theorem d_m_stationDigest_30 : decode b_m_stationDigest 30 = .ok (.i2l, 1) := by decide +kernel
theorem d_m_stationDigest_31 : decode b_m_stationDigest 31 = .ok (.ladd, 1) := by decide +kernel
theorem d_m_stationDigest_32 : decode b_m_stationDigest 32 = .ok (.lstore 4, 2) := by decide +kernel
theorem d_m_stationDigest_34 : decode b_m_stationDigest 34 = .ok (.iinc 6 1, 3) := by decide +kernel
theorem d_m_stationDigest_37 : decode b_m_stationDigest 37 = .ok (.goto (-31), 3) := by decide +kernel
theorem d_m_stationDigest_40 : decode b_m_stationDigest 40 = .ok (.ldc2_w 265, 3) := by decide +kernel
theorem d_m_stationDigest_43 : decode b_m_stationDigest 43 = .ok (.lload 4, 2) := by decide +kernel
theorem d_m_stationDigest_45 : decode b_m_stationDigest 45 = .ok (.lmul, 1) := by decide +kernel
theorem d_m_stationDigest_46 : decode b_m_stationDigest 46 = .ok (.aload_n 0, 1) := by decide +kernel
theorem d_m_stationDigest_47 : decode b_m_stationDigest 47 = .ok (.getfield 7, 3) := by decide +kernel
theorem d_m_stationDigest_50 : decode b_m_stationDigest 50 = .ok (.iload_n 3, 1) := by decide +kernel
theorem d_m_stationDigest_51 : decode b_m_stationDigest 51 = .ok (.invokestatic 81, 3) := by decide +kernel
theorem d_m_stationDigest_54 : decode b_m_stationDigest 54 = .ok (.bipush 6, 2) := by decide +kernel
theorem d_m_stationDigest_56 : decode b_m_stationDigest 56 = .ok (.iadd, 1) := by decide +kernel
theorem d_m_stationDigest_57 : decode b_m_stationDigest 57 = .ok (.iaload, 1) := by decide +kernel
theorem d_m_stationDigest_58 : decode b_m_stationDigest 58 = .ok (.i2l, 1) := by decide +kernel
theorem d_m_stationDigest_59 : decode b_m_stationDigest 59 = .ok (.ladd, 1) := by decide +kernel
theorem d_m_stationDigest_60 : decode b_m_stationDigest 60 = .ok (.lstore 4, 2) := by decide +kernel
theorem d_m_stationDigest_62 : decode b_m_stationDigest 62 = .ok (.ldc2_w 265, 3) := by decide +kernel
theorem d_m_stationDigest_65 : decode b_m_stationDigest 65 = .ok (.lload 4, 2) := by decide +kernel
theorem d_m_stationDigest_67 : decode b_m_stationDigest 67 = .ok (.lmul, 1) := by decide +kernel
theorem d_m_stationDigest_68 : decode b_m_stationDigest 68 = .ok (.aload_n 0, 1) := by decide +kernel
theorem d_m_stationDigest_69 : decode b_m_stationDigest 69 = .ok (.getfield 7, 3) := by decide +kernel
theorem d_m_stationDigest_72 : decode b_m_stationDigest 72 = .ok (.iload_n 3, 1) := by decide +kernel
theorem d_m_stationDigest_73 : decode b_m_stationDigest 73 = .ok (.invokestatic 81, 3) := by decide +kernel
theorem d_m_stationDigest_76 : decode b_m_stationDigest 76 = .ok (.bipush 15, 2) := by decide +kernel
theorem d_m_stationDigest_78 : decode b_m_stationDigest 78 = .ok (.iadd, 1) := by decide +kernel
theorem d_m_stationDigest_79 : decode b_m_stationDigest 79 = .ok (.iaload, 1) := by decide +kernel
theorem d_m_stationDigest_80 : decode b_m_stationDigest 80 = .ok (.i2l, 1) := by decide +kernel
theorem d_m_stationDigest_81 : decode b_m_stationDigest 81 = .ok (.ladd, 1) := by decide +kernel
theorem d_m_stationDigest_82 : decode b_m_stationDigest 82 = .ok (.lstore 4, 2) := by decide +kernel
theorem d_m_stationDigest_84 : decode b_m_stationDigest 84 = .ok (.ldc2_w 265, 3) := by decide +kernel
theorem d_m_stationDigest_87 : decode b_m_stationDigest 87 = .ok (.lload 4, 2) := by decide +kernel
theorem d_m_stationDigest_89 : decode b_m_stationDigest 89 = .ok (.lmul, 1) := by decide +kernel
theorem d_m_stationDigest_90 : decode b_m_stationDigest 90 = .ok (.aload_n 0, 1) := by decide +kernel
theorem d_m_stationDigest_91 : decode b_m_stationDigest 91 = .ok (.getfield 7, 3) := by decide +kernel
theorem d_m_stationDigest_94 : decode b_m_stationDigest 94 = .ok (.iload_n 3, 1) := by decide +kernel
theorem d_m_stationDigest_95 : decode b_m_stationDigest 95 = .ok (.invokestatic 81, 3) := by decide +kernel
theorem d_m_stationDigest_98 : decode b_m_stationDigest 98 = .ok (.iconst 5, 1) := by decide +kernel
theorem d_m_stationDigest_99 : decode b_m_stationDigest 99 = .ok (.iadd, 1) := by decide +kernel
theorem d_m_stationDigest_100 : decode b_m_stationDigest 100 = .ok (.iaload, 1) := by decide +kernel
theorem d_m_stationDigest_101 : decode b_m_stationDigest 101 = .ok (.i2l, 1) := by decide +kernel
theorem d_m_stationDigest_102 : decode b_m_stationDigest 102 = .ok (.ladd, 1) := by decide +kernel
theorem d_m_stationDigest_103 : decode b_m_stationDigest 103 = .ok (.lstore 4, 2) := by decide +kernel
theorem d_m_stationDigest_105 : decode b_m_stationDigest 105 = .ok (.iconst 0, 1) := by decide +kernel
theorem d_m_stationDigest_106 : decode b_m_stationDigest 106 = .ok (.istore 6, 2) := by decide +kernel
theorem d_m_stationDigest_108 : decode b_m_stationDigest 108 = .ok (.iload 6, 2) := by decide +kernel
theorem d_m_stationDigest_110 : decode b_m_stationDigest 110 = .ok (.iconst 4, 1) := by decide +kernel
theorem d_m_stationDigest_111 : decode b_m_stationDigest 111 = .ok (.if_icmp .ge 26, 3) := by decide +kernel
theorem d_m_stationDigest_114 : decode b_m_stationDigest 114 = .ok (.ldc2_w 265, 3) := by decide +kernel
theorem d_m_stationDigest_117 : decode b_m_stationDigest 117 = .ok (.lload 4, 2) := by decide +kernel
theorem d_m_stationDigest_119 : decode b_m_stationDigest 119 = .ok (.lmul, 1) := by decide +kernel
theorem d_m_stationDigest_120 : decode b_m_stationDigest 120 = .ok (.aload_n 0, 1) := by decide +kernel
theorem d_m_stationDigest_121 : decode b_m_stationDigest 121 = .ok (.iload_n 3, 1) := by decide +kernel
theorem d_m_stationDigest_122 : decode b_m_stationDigest 122 = .ok (.iload 6, 2) := by decide +kernel
theorem d_m_stationDigest_124 : decode b_m_stationDigest 124 = .ok (.invokevirtual 151, 3) := by decide +kernel
theorem d_m_stationDigest_127 : decode b_m_stationDigest 127 = .ok (.i2l, 1) := by decide +kernel
theorem d_m_stationDigest_128 : decode b_m_stationDigest 128 = .ok (.ladd, 1) := by decide +kernel
theorem d_m_stationDigest_129 : decode b_m_stationDigest 129 = .ok (.lstore 4, 2) := by decide +kernel
theorem d_m_stationDigest_131 : decode b_m_stationDigest 131 = .ok (.iinc 6 1, 3) := by decide +kernel
theorem d_m_stationDigest_134 : decode b_m_stationDigest 134 = .ok (.goto (-26), 3) := by decide +kernel
theorem d_m_stationDigest_137 : decode b_m_stationDigest 137 = .ok (.iconst 0, 1) := by decide +kernel
theorem d_m_stationDigest_138 : decode b_m_stationDigest 138 = .ok (.istore 6, 2) := by decide +kernel
theorem d_m_stationDigest_140 : decode b_m_stationDigest 140 = .ok (.iload 6, 2) := by decide +kernel
theorem d_m_stationDigest_142 : decode b_m_stationDigest 142 = .ok (.aload_n 0, 1) := by decide +kernel
theorem d_m_stationDigest_143 : decode b_m_stationDigest 143 = .ok (.getfield 7, 3) := by decide +kernel
theorem d_m_stationDigest_146 : decode b_m_stationDigest 146 = .ok (.iconst 1, 1) := by decide +kernel
theorem d_m_stationDigest_147 : decode b_m_stationDigest 147 = .ok (.iaload, 1) := by decide +kernel
theorem d_m_stationDigest_148 : decode b_m_stationDigest 148 = .ok (.if_icmp .ge 72, 3) := by decide +kernel
theorem d_m_stationDigest_151 : decode b_m_stationDigest 151 = .ok (.ldc2_w 265, 3) := by decide +kernel
theorem d_m_stationDigest_154 : decode b_m_stationDigest 154 = .ok (.lload 4, 2) := by decide +kernel
theorem d_m_stationDigest_156 : decode b_m_stationDigest 156 = .ok (.lmul, 1) := by decide +kernel
theorem d_m_stationDigest_157 : decode b_m_stationDigest 157 = .ok (.aload_n 0, 1) := by decide +kernel
theorem d_m_stationDigest_158 : decode b_m_stationDigest 158 = .ok (.iload_n 3, 1) := by decide +kernel
theorem d_m_stationDigest_159 : decode b_m_stationDigest 159 = .ok (.iload 6, 2) := by decide +kernel
theorem d_m_stationDigest_161 : decode b_m_stationDigest 161 = .ok (.invokevirtual 267, 3) := by decide +kernel
theorem d_m_stationDigest_164 : decode b_m_stationDigest 164 = .ok (.i2l, 1) := by decide +kernel
theorem d_m_stationDigest_165 : decode b_m_stationDigest 165 = .ok (.ladd, 1) := by decide +kernel
theorem d_m_stationDigest_166 : decode b_m_stationDigest 166 = .ok (.lstore 4, 2) := by decide +kernel
theorem d_m_stationDigest_168 : decode b_m_stationDigest 168 = .ok (.ldc2_w 265, 3) := by decide +kernel
theorem d_m_stationDigest_171 : decode b_m_stationDigest 171 = .ok (.lload 4, 2) := by decide +kernel
theorem d_m_stationDigest_173 : decode b_m_stationDigest 173 = .ok (.lmul, 1) := by decide +kernel
theorem d_m_stationDigest_174 : decode b_m_stationDigest 174 = .ok (.aload_n 0, 1) := by decide +kernel
theorem d_m_stationDigest_175 : decode b_m_stationDigest 175 = .ok (.getfield 7, 3) := by decide +kernel
theorem d_m_stationDigest_178 : decode b_m_stationDigest 178 = .ok (.iload_n 3, 1) := by decide +kernel
theorem d_m_stationDigest_179 : decode b_m_stationDigest 179 = .ok (.iload 6, 2) := by decide +kernel
theorem d_m_stationDigest_181 : decode b_m_stationDigest 181 = .ok (.invokestatic 57, 3) := by decide +kernel
theorem d_m_stationDigest_184 : decode b_m_stationDigest 184 = .ok (.iconst 4, 1) := by decide +kernel
theorem d_m_stationDigest_185 : decode b_m_stationDigest 185 = .ok (.iadd, 1) := by decide +kernel
theorem d_m_stationDigest_186 : decode b_m_stationDigest 186 = .ok (.iaload, 1) := by decide +kernel
theorem d_m_stationDigest_187 : decode b_m_stationDigest 187 = .ok (.i2l, 1) := by decide +kernel
theorem d_m_stationDigest_188 : decode b_m_stationDigest 188 = .ok (.ladd, 1) := by decide +kernel
theorem d_m_stationDigest_189 : decode b_m_stationDigest 189 = .ok (.lstore 4, 2) := by decide +kernel
theorem d_m_stationDigest_191 : decode b_m_stationDigest 191 = .ok (.ldc2_w 265, 3) := by decide +kernel
theorem d_m_stationDigest_194 : decode b_m_stationDigest 194 = .ok (.lload 4, 2) := by decide +kernel
theorem d_m_stationDigest_196 : decode b_m_stationDigest 196 = .ok (.lmul, 1) := by decide +kernel
theorem d_m_stationDigest_197 : decode b_m_stationDigest 197 = .ok (.aload_n 0, 1) := by decide +kernel
theorem d_m_stationDigest_198 : decode b_m_stationDigest 198 = .ok (.getfield 7, 3) := by decide +kernel
theorem d_m_stationDigest_201 : decode b_m_stationDigest 201 = .ok (.iload_n 3, 1) := by decide +kernel
theorem d_m_stationDigest_202 : decode b_m_stationDigest 202 = .ok (.iload 6, 2) := by decide +kernel
theorem d_m_stationDigest_204 : decode b_m_stationDigest 204 = .ok (.invokestatic 57, 3) := by decide +kernel
theorem d_m_stationDigest_207 : decode b_m_stationDigest 207 = .ok (.iconst 5, 1) := by decide +kernel
theorem d_m_stationDigest_208 : decode b_m_stationDigest 208 = .ok (.iadd, 1) := by decide +kernel
theorem d_m_stationDigest_209 : decode b_m_stationDigest 209 = .ok (.iaload, 1) := by decide +kernel
theorem d_m_stationDigest_210 : decode b_m_stationDigest 210 = .ok (.i2l, 1) := by decide +kernel
theorem d_m_stationDigest_211 : decode b_m_stationDigest 211 = .ok (.ladd, 1) := by decide +kernel
theorem d_m_stationDigest_212 : decode b_m_stationDigest 212 = .ok (.lstore 4, 2) := by decide +kernel
theorem d_m_stationDigest_214 : decode b_m_stationDigest 214 = .ok (.iinc 6 1, 3) := by decide +kernel
theorem d_m_stationDigest_217 : decode b_m_stationDigest 217 = .ok (.goto (-77), 3) := by decide +kernel
theorem d_m_stationDigest_220 : decode b_m_stationDigest 220 = .ok (.lload 4, 2) := by decide +kernel
theorem d_m_stationDigest_222 : decode b_m_stationDigest 222 = .ok (.lreturn, 1) := by decide +kernel
theorem d_m_digest_0 : decode b_m_digest 0 = .ok (.ldc2_w 270, 3) := by decide +kernel
theorem d_m_digest_3 : decode b_m_digest 3 = .ok (.aload_n 0, 1) := by decide +kernel
theorem d_m_digest_4 : decode b_m_digest 4 = .ok (.getfield 7, 3) := by decide +kernel
theorem d_m_digest_7 : decode b_m_digest 7 = .ok (.iconst 0, 1) := by decide +kernel
theorem d_m_digest_8 : decode b_m_digest 8 = .ok (.iaload, 1) := by decide +kernel
theorem d_m_digest_9 : decode b_m_digest 9 = .ok (.i2l, 1) := by decide +kernel
theorem d_m_digest_10 : decode b_m_digest 10 = .ok (.ladd, 1) := by decide +kernel
theorem d_m_digest_11 : decode b_m_digest 11 = .ok (.lstore_n 1, 1) := by decide +kernel
theorem d_m_digest_12 : decode b_m_digest 12 = .ok (.ldc2_w 265, 3) := by decide +kernel
theorem d_m_digest_15 : decode b_m_digest 15 = .ok (.lload_n 1, 1) := by decide +kernel
theorem d_m_digest_16 : decode b_m_digest 16 = .ok (.lmul, 1) := by decide +kernel
theorem d_m_digest_17 : decode b_m_digest 17 = .ok (.aload_n 0, 1) := by decide +kernel
theorem d_m_digest_18 : decode b_m_digest 18 = .ok (.getfield 7, 3) := by decide +kernel
theorem d_m_digest_21 : decode b_m_digest 21 = .ok (.bipush 8, 2) := by decide +kernel
theorem d_m_digest_23 : decode b_m_digest 23 = .ok (.iaload, 1) := by decide +kernel
theorem d_m_digest_24 : decode b_m_digest 24 = .ok (.i2l, 1) := by decide +kernel
theorem d_m_digest_25 : decode b_m_digest 25 = .ok (.ladd, 1) := by decide +kernel
theorem d_m_digest_26 : decode b_m_digest 26 = .ok (.lstore_n 1, 1) := by decide +kernel
theorem d_m_digest_27 : decode b_m_digest 27 = .ok (.iconst 0, 1) := by decide +kernel
theorem d_m_digest_28 : decode b_m_digest 28 = .ok (.istore_n 3, 1) := by decide +kernel
theorem d_m_digest_29 : decode b_m_digest 29 = .ok (.iload_n 3, 1) := by decide +kernel
theorem d_m_digest_30 : decode b_m_digest 30 = .ok (.aload_n 0, 1) := by decide +kernel
theorem d_m_digest_31 : decode b_m_digest 31 = .ok (.getfield 7, 3) := by decide +kernel
theorem d_m_digest_34 : decode b_m_digest 34 = .ok (.iconst 2, 1) := by decide +kernel
theorem d_m_digest_35 : decode b_m_digest 35 = .ok (.iaload, 1) := by decide +kernel
theorem d_m_digest_36 : decode b_m_digest 36 = .ok (.if_icmp .ge 16, 3) := by decide +kernel
theorem d_m_digest_39 : decode b_m_digest 39 = .ok (.aload_n 0, 1) := by decide +kernel
theorem d_m_digest_40 : decode b_m_digest 40 = .ok (.lload_n 1, 1) := by decide +kernel
theorem d_m_digest_41 : decode b_m_digest 41 = .ok (.iload_n 3, 1) := by decide +kernel
theorem d_m_digest_42 : decode b_m_digest 42 = .ok (.invokevirtual 272, 3) := by decide +kernel
theorem d_m_digest_45 : decode b_m_digest 45 = .ok (.lstore_n 1, 1) := by decide +kernel
theorem d_m_digest_46 : decode b_m_digest 46 = .ok (.iinc 3 1, 3) := by decide +kernel
theorem d_m_digest_49 : decode b_m_digest 49 = .ok (.goto (-20), 3) := by decide +kernel
theorem d_m_digest_52 : decode b_m_digest 52 = .ok (.iconst 0, 1) := by decide +kernel
theorem d_m_digest_53 : decode b_m_digest 53 = .ok (.istore_n 3, 1) := by decide +kernel
theorem d_m_digest_54 : decode b_m_digest 54 = .ok (.iload_n 3, 1) := by decide +kernel
theorem d_m_digest_55 : decode b_m_digest 55 = .ok (.bipush 6, 2) := by decide +kernel
theorem d_m_digest_57 : decode b_m_digest 57 = .ok (.if_icmp .ge 22, 3) := by decide +kernel
theorem d_m_digest_60 : decode b_m_digest 60 = .ok (.ldc2_w 265, 3) := by decide +kernel
theorem d_m_digest_63 : decode b_m_digest 63 = .ok (.lload_n 1, 1) := by decide +kernel
theorem d_m_digest_64 : decode b_m_digest 64 = .ok (.lmul, 1) := by decide +kernel
theorem d_m_digest_65 : decode b_m_digest 65 = .ok (.aload_n 0, 1) := by decide +kernel
theorem d_m_digest_66 : decode b_m_digest 66 = .ok (.iload_n 3, 1) := by decide +kernel
theorem d_m_digest_67 : decode b_m_digest 67 = .ok (.invokevirtual 276, 3) := by decide +kernel
theorem d_m_digest_70 : decode b_m_digest 70 = .ok (.i2l, 1) := by decide +kernel
theorem d_m_digest_71 : decode b_m_digest 71 = .ok (.ladd, 1) := by decide +kernel
theorem d_m_digest_72 : decode b_m_digest 72 = .ok (.lstore_n 1, 1) := by decide +kernel
theorem d_m_digest_73 : decode b_m_digest 73 = .ok (.iinc 3 1, 3) := by decide +kernel
theorem d_m_digest_76 : decode b_m_digest 76 = .ok (.goto (-22), 3) := by decide +kernel
theorem d_m_digest_79 : decode b_m_digest 79 = .ok (.lload_n 1, 1) := by decide +kernel
theorem d_m_digest_80 : decode b_m_digest 80 = .ok (.lreturn, 1) := by decide +kernel
