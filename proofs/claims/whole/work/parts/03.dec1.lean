theorem d_ch_init_0 : decode b_ch_init 0 = .ok (.aload_n 0, 1) := by decide +kernel
theorem d_ch_init_1 : decode b_ch_init 1 = .ok (.invokespecial 3, 3) := by decide +kernel
theorem d_ch_init_4 : decode b_ch_init 4 = .ok (.aload_n 0, 1) := by decide +kernel
theorem d_ch_init_5 : decode b_ch_init 5 = .ok (.bipush (-9), 2) := by decide +kernel
theorem d_ch_init_7 : decode b_ch_init 7 = .ok (.putfield 9, 3) := by decide +kernel
theorem d_ch_init_10 : decode b_ch_init 10 = .ok (.aload_n 0, 1) := by decide +kernel
theorem d_ch_init_11 : decode b_ch_init 11 = .ok (.iconst 4, 1) := by decide +kernel
theorem d_ch_init_12 : decode b_ch_init 12 = .ok (.newarray .int, 2) := by decide +kernel
theorem d_ch_init_14 : decode b_ch_init 14 = .ok (.putfield 15, 3) := by decide +kernel
theorem d_ch_init_17 : decode b_ch_init 17 = .ok (.aload_n 0, 1) := by decide +kernel
theorem d_ch_init_18 : decode b_ch_init 18 = .ok (.iconst 4, 1) := by decide +kernel
theorem d_ch_init_19 : decode b_ch_init 19 = .ok (.newarray .int, 2) := by decide +kernel
theorem d_ch_init_21 : decode b_ch_init 21 = .ok (.putfield 19, 3) := by decide +kernel
theorem d_ch_init_24 : decode b_ch_init 24 = .ok (.return_, 1) := by decide +kernel
theorem d_ch_become_0 : decode b_ch_become 0 = .ok (.aload_n 0, 1) := by decide +kernel
theorem d_ch_become_1 : decode b_ch_become 1 = .ok (.aload_n 1, 1) := by decide +kernel
theorem d_ch_become_2 : decode b_ch_become 2 = .ok (.getfield 22, 3) := by decide +kernel
theorem d_ch_become_5 : decode b_ch_become 5 = .ok (.putfield 22, 3) := by decide +kernel
theorem d_ch_become_8 : decode b_ch_become 8 = .ok (.aload_n 0, 1) := by decide +kernel
theorem d_ch_become_9 : decode b_ch_become 9 = .ok (.aload_n 1, 1) := by decide +kernel
theorem d_ch_become_10 : decode b_ch_become 10 = .ok (.getfield 26, 3) := by decide +kernel
theorem d_ch_become_13 : decode b_ch_become 13 = .ok (.putfield 26, 3) := by decide +kernel
theorem d_ch_become_16 : decode b_ch_become 16 = .ok (.aload_n 0, 1) := by decide +kernel
theorem d_ch_become_17 : decode b_ch_become 17 = .ok (.aload_n 1, 1) := by decide +kernel
theorem d_ch_become_18 : decode b_ch_become 18 = .ok (.getfield 29, 3) := by decide +kernel
theorem d_ch_become_21 : decode b_ch_become 21 = .ok (.putfield 29, 3) := by decide +kernel
theorem d_ch_become_24 : decode b_ch_become 24 = .ok (.aload_n 0, 1) := by decide +kernel
theorem d_ch_become_25 : decode b_ch_become 25 = .ok (.aload_n 1, 1) := by decide +kernel
theorem d_ch_become_26 : decode b_ch_become 26 = .ok (.getfield 32, 3) := by decide +kernel
theorem d_ch_become_29 : decode b_ch_become 29 = .ok (.putfield 32, 3) := by decide +kernel
theorem d_ch_become_32 : decode b_ch_become 32 = .ok (.aload_n 0, 1) := by decide +kernel
theorem d_ch_become_33 : decode b_ch_become 33 = .ok (.aload_n 1, 1) := by decide +kernel
theorem d_ch_become_34 : decode b_ch_become 34 = .ok (.getfield 9, 3) := by decide +kernel
theorem d_ch_become_37 : decode b_ch_become 37 = .ok (.putfield 9, 3) := by decide +kernel
theorem d_ch_become_40 : decode b_ch_become 40 = .ok (.aload_n 1, 1) := by decide +kernel
theorem d_ch_become_41 : decode b_ch_become 41 = .ok (.getfield 15, 3) := by decide +kernel
theorem d_ch_become_44 : decode b_ch_become 44 = .ok (.iconst 0, 1) := by decide +kernel
theorem d_ch_become_45 : decode b_ch_become 45 = .ok (.aload_n 0, 1) := by decide +kernel
theorem d_ch_become_46 : decode b_ch_become 46 = .ok (.getfield 15, 3) := by decide +kernel
theorem d_ch_become_49 : decode b_ch_become 49 = .ok (.iconst 0, 1) := by decide +kernel
theorem d_ch_become_50 : decode b_ch_become 50 = .ok (.iconst 4, 1) := by decide +kernel
theorem d_ch_become_51 : decode b_ch_become 51 = .ok (.invokestatic 35, 3) := by decide +kernel
theorem d_ch_become_54 : decode b_ch_become 54 = .ok (.aload_n 1, 1) := by decide +kernel
theorem d_ch_become_55 : decode b_ch_become 55 = .ok (.getfield 19, 3) := by decide +kernel
theorem d_ch_become_58 : decode b_ch_become 58 = .ok (.iconst 0, 1) := by decide +kernel
theorem d_ch_become_59 : decode b_ch_become 59 = .ok (.aload_n 0, 1) := by decide +kernel
theorem d_ch_become_60 : decode b_ch_become 60 = .ok (.getfield 19, 3) := by decide +kernel
theorem d_ch_become_63 : decode b_ch_become 63 = .ok (.iconst 0, 1) := by decide +kernel
theorem d_ch_become_64 : decode b_ch_become 64 = .ok (.iconst 4, 1) := by decide +kernel
theorem d_ch_become_65 : decode b_ch_become 65 = .ok (.invokestatic 35, 3) := by decide +kernel
theorem d_ch_become_68 : decode b_ch_become 68 = .ok (.return_, 1) := by decide +kernel
theorem d_ch_setRates_0 : decode b_ch_setRates 0 = .ok (.aload_n 0, 1) := by decide +kernel
theorem d_ch_setRates_1 : decode b_ch_setRates 1 = .ok (.getfield 15, 3) := by decide +kernel
theorem d_ch_setRates_4 : decode b_ch_setRates 4 = .ok (.iconst 0, 1) := by decide +kernel
theorem d_ch_setRates_5 : decode b_ch_setRates 5 = .ok (.iload_n 1, 1) := by decide +kernel
theorem d_ch_setRates_6 : decode b_ch_setRates 6 = .ok (.iastore, 1) := by decide +kernel
theorem d_ch_setRates_7 : decode b_ch_setRates 7 = .ok (.aload_n 0, 1) := by decide +kernel
theorem d_ch_setRates_8 : decode b_ch_setRates 8 = .ok (.getfield 15, 3) := by decide +kernel
theorem d_ch_setRates_11 : decode b_ch_setRates 11 = .ok (.iconst 1, 1) := by decide +kernel
theorem d_ch_setRates_12 : decode b_ch_setRates 12 = .ok (.iload_n 2, 1) := by decide +kernel
theorem d_ch_setRates_13 : decode b_ch_setRates 13 = .ok (.iastore, 1) := by decide +kernel
theorem d_ch_setRates_14 : decode b_ch_setRates 14 = .ok (.aload_n 0, 1) := by decide +kernel
theorem d_ch_setRates_15 : decode b_ch_setRates 15 = .ok (.getfield 15, 3) := by decide +kernel
theorem d_ch_setRates_18 : decode b_ch_setRates 18 = .ok (.iconst 2, 1) := by decide +kernel
theorem d_ch_setRates_19 : decode b_ch_setRates 19 = .ok (.iload_n 3, 1) := by decide +kernel
theorem d_ch_setRates_20 : decode b_ch_setRates 20 = .ok (.iastore, 1) := by decide +kernel
theorem d_ch_setRates_21 : decode b_ch_setRates 21 = .ok (.aload_n 0, 1) := by decide +kernel
theorem d_ch_setRates_22 : decode b_ch_setRates 22 = .ok (.getfield 15, 3) := by decide +kernel
theorem d_ch_setRates_25 : decode b_ch_setRates 25 = .ok (.iconst 3, 1) := by decide +kernel
theorem d_ch_setRates_26 : decode b_ch_setRates 26 = .ok (.iload 4, 2) := by decide +kernel
theorem d_ch_setRates_28 : decode b_ch_setRates 28 = .ok (.iastore, 1) := by decide +kernel
theorem d_ch_setRates_29 : decode b_ch_setRates 29 = .ok (.return_, 1) := by decide +kernel
theorem d_ch_allTries_0 : decode b_ch_allTries 0 = .ok (.iconst 0, 1) := by decide +kernel
theorem d_ch_allTries_1 : decode b_ch_allTries 1 = .ok (.istore_n 1, 1) := by decide +kernel
theorem d_ch_allTries_2 : decode b_ch_allTries 2 = .ok (.iconst 0, 1) := by decide +kernel
theorem d_ch_allTries_3 : decode b_ch_allTries 3 = .ok (.istore_n 2, 1) := by decide +kernel
theorem d_ch_allTries_4 : decode b_ch_allTries 4 = .ok (.iload_n 2, 1) := by decide +kernel
theorem d_ch_allTries_5 : decode b_ch_allTries 5 = .ok (.iconst 4, 1) := by decide +kernel
theorem d_ch_allTries_6 : decode b_ch_allTries 6 = .ok (.if_icmp .ge 18, 3) := by decide +kernel
theorem d_ch_allTries_9 : decode b_ch_allTries 9 = .ok (.iload_n 1, 1) := by decide +kernel
theorem d_ch_allTries_10 : decode b_ch_allTries 10 = .ok (.aload_n 0, 1) := by decide +kernel
theorem d_ch_allTries_11 : decode b_ch_allTries 11 = .ok (.getfield 19, 3) := by decide +kernel
theorem d_ch_allTries_14 : decode b_ch_allTries 14 = .ok (.iload_n 2, 1) := by decide +kernel
theorem d_ch_allTries_15 : decode b_ch_allTries 15 = .ok (.iaload, 1) := by decide +kernel
theorem d_ch_allTries_16 : decode b_ch_allTries 16 = .ok (.iadd, 1) := by decide +kernel
theorem d_ch_allTries_17 : decode b_ch_allTries 17 = .ok (.istore_n 1, 1) := by decide +kernel
theorem d_ch_allTries_18 : decode b_ch_allTries 18 = .ok (.iinc 2 1, 3) := by decide +kernel
theorem d_ch_allTries_21 : decode b_ch_allTries 21 = .ok (.goto (-17), 3) := by decide +kernel
theorem d_ch_allTries_24 : decode b_ch_allTries 24 = .ok (.iload_n 1, 1) := by decide +kernel
theorem d_ch_allTries_25 : decode b_ch_allTries 25 = .ok (.ireturn, 1) := by decide +kernel
theorem d_ch_rateOfTry_0 : decode b_ch_rateOfTry 0 = .ok (.iload_n 1, 1) := by decide +kernel
theorem d_ch_rateOfTry_1 : decode b_ch_rateOfTry 1 = .ok (.istore_n 2, 1) := by decide +kernel
theorem d_ch_rateOfTry_2 : decode b_ch_rateOfTry 2 = .ok (.iconst 0, 1) := by decide +kernel
theorem d_ch_rateOfTry_3 : decode b_ch_rateOfTry 3 = .ok (.istore_n 3, 1) := by decide +kernel
theorem d_ch_rateOfTry_4 : decode b_ch_rateOfTry 4 = .ok (.iload_n 3, 1) := by decide +kernel
theorem d_ch_rateOfTry_5 : decode b_ch_rateOfTry 5 = .ok (.iconst 4, 1) := by decide +kernel
theorem d_ch_rateOfTry_6 : decode b_ch_rateOfTry 6 = .ok (.if_icmp .ge 35, 3) := by decide +kernel
theorem d_ch_rateOfTry_9 : decode b_ch_rateOfTry 9 = .ok (.iload_n 2, 1) := by decide +kernel
theorem d_ch_rateOfTry_10 : decode b_ch_rateOfTry 10 = .ok (.aload_n 0, 1) := by decide +kernel
theorem d_ch_rateOfTry_11 : decode b_ch_rateOfTry 11 = .ok (.getfield 19, 3) := by decide +kernel
theorem d_ch_rateOfTry_14 : decode b_ch_rateOfTry 14 = .ok (.iload_n 3, 1) := by decide +kernel
theorem d_ch_rateOfTry_15 : decode b_ch_rateOfTry 15 = .ok (.iaload, 1) := by decide +kernel
theorem d_ch_rateOfTry_16 : decode b_ch_rateOfTry 16 = .ok (.if_icmp .ge 10, 3) := by decide +kernel
theorem d_ch_rateOfTry_19 : decode b_ch_rateOfTry 19 = .ok (.aload_n 0, 1) := by decide +kernel
theorem d_ch_rateOfTry_20 : decode b_ch_rateOfTry 20 = .ok (.getfield 15, 3) := by decide +kernel
theorem d_ch_rateOfTry_23 : decode b_ch_rateOfTry 23 = .ok (.iload_n 3, 1) := by decide +kernel
theorem d_ch_rateOfTry_24 : decode b_ch_rateOfTry 24 = .ok (.iaload, 1) := by decide +kernel
theorem d_ch_rateOfTry_25 : decode b_ch_rateOfTry 25 = .ok (.ireturn, 1) := by decide +kernel
theorem d_ch_rateOfTry_26 : decode b_ch_rateOfTry 26 = .ok (.iload_n 2, 1) := by decide +kernel
theorem d_ch_rateOfTry_27 : decode b_ch_rateOfTry 27 = .ok (.aload_n 0, 1) := by decide +kernel
theorem d_ch_rateOfTry_28 : decode b_ch_rateOfTry 28 = .ok (.getfield 19, 3) := by decide +kernel
theorem d_ch_rateOfTry_31 : decode b_ch_rateOfTry 31 = .ok (.iload_n 3, 1) := by decide +kernel
theorem d_ch_rateOfTry_32 : decode b_ch_rateOfTry 32 = .ok (.iaload, 1) := by decide +kernel
theorem d_ch_rateOfTry_33 : decode b_ch_rateOfTry 33 = .ok (.isub, 1) := by decide +kernel
theorem d_ch_rateOfTry_34 : decode b_ch_rateOfTry 34 = .ok (.istore_n 2, 1) := by decide +kernel
theorem d_ch_rateOfTry_35 : decode b_ch_rateOfTry 35 = .ok (.iinc 3 1, 3) := by decide +kernel
theorem d_ch_rateOfTry_38 : decode b_ch_rateOfTry 38 = .ok (.goto (-34), 3) := by decide +kernel
theorem d_ch_rateOfTry_41 : decode b_ch_rateOfTry 41 = .ok (.bipush (-9), 2) := by decide +kernel
theorem d_ch_rateOfTry_43 : decode b_ch_rateOfTry 43 = .ok (.ireturn, 1) := by decide +kernel
theorem d_se_init_0 : decode b_se_init 0 = .ok (.aload_n 0, 1) := by decide +kernel
theorem d_se_init_1 : decode b_se_init 1 = .ok (.invokespecial 3, 3) := by decide +kernel
theorem d_se_init_4 : decode b_se_init 4 = .ok (.aload_n 0, 1) := by decide +kernel
theorem d_se_init_5 : decode b_se_init 5 = .ok (.bipush 8, 2) := by decide +kernel
theorem d_se_init_7 : decode b_se_init 7 = .ok (.newarray .int, 2) := by decide +kernel
theorem d_se_init_9 : decode b_se_init 9 = .ok (.putfield 9, 3) := by decide +kernel
theorem d_se_init_12 : decode b_se_init 12 = .ok (.aload_n 0, 1) := by decide +kernel
theorem d_se_init_13 : decode b_se_init 13 = .ok (.bipush 8, 2) := by decide +kernel
theorem d_se_init_15 : decode b_se_init 15 = .ok (.newarray .int, 2) := by decide +kernel
theorem d_se_init_17 : decode b_se_init 17 = .ok (.putfield 15, 3) := by decide +kernel
theorem d_se_init_20 : decode b_se_init 20 = .ok (.aload_n 0, 1) := by decide +kernel
theorem d_se_init_21 : decode b_se_init 21 = .ok (.bipush 8, 2) := by decide +kernel
theorem d_se_init_23 : decode b_se_init 23 = .ok (.newarray .int, 2) := by decide +kernel
theorem d_se_init_25 : decode b_se_init 25 = .ok (.putfield 18, 3) := by decide +kernel
theorem d_se_init_28 : decode b_se_init 28 = .ok (.aload_n 0, 1) := by decide +kernel
theorem d_se_init_29 : decode b_se_init 29 = .ok (.bipush 8, 2) := by decide +kernel
theorem d_se_init_31 : decode b_se_init 31 = .ok (.bipush 7, 2) := by decide +kernel
theorem d_se_init_33 : decode b_se_init 33 = .ok (.multianewarray 21 2, 4) := by decide +kernel
theorem d_se_init_37 : decode b_se_init 37 = .ok (.putfield 23, 3) := by decide +kernel
theorem d_se_init_40 : decode b_se_init 40 = .ok (.aload_n 0, 1) := by decide +kernel
theorem d_se_init_41 : decode b_se_init 41 = .ok (.iconst 5, 1) := by decide +kernel
theorem d_se_init_42 : decode b_se_init 42 = .ok (.newarray .long, 2) := by decide +kernel
theorem d_se_init_44 : decode b_se_init 44 = .ok (.putfield 26, 3) := by decide +kernel
theorem d_se_init_47 : decode b_se_init 47 = .ok (.aload_n 0, 1) := by decide +kernel
theorem d_se_init_48 : decode b_se_init 48 = .ok (.iconst 5, 1) := by decide +kernel
theorem d_se_init_49 : decode b_se_init 49 = .ok (.newarray .long, 2) := by decide +kernel
theorem d_se_init_51 : decode b_se_init 51 = .ok (.putfield 30, 3) := by decide +kernel
theorem d_se_init_54 : decode b_se_init 54 = .ok (.aload_n 0, 1) := by decide +kernel
theorem d_se_init_55 : decode b_se_init 55 = .ok (.iconst 4, 1) := by decide +kernel
theorem d_se_init_56 : decode b_se_init 56 = .ok (.newarray .int, 2) := by decide +kernel
theorem d_se_init_58 : decode b_se_init 58 = .ok (.putfield 33, 3) := by decide +kernel
theorem d_se_init_61 : decode b_se_init 61 = .ok (.aload_n 0, 1) := by decide +kernel
theorem d_se_init_62 : decode b_se_init 62 = .ok (.iconst 4, 1) := by decide +kernel
theorem d_se_init_63 : decode b_se_init 63 = .ok (.newarray .int, 2) := by decide +kernel
theorem d_se_init_65 : decode b_se_init 65 = .ok (.putfield 36, 3) := by decide +kernel
theorem d_se_init_68 : decode b_se_init 68 = .ok (.return_, 1) := by decide +kernel
theorem d_se_prepare_0 : decode b_se_prepare 0 = .ok (.aload_n 1, 1) := by decide +kernel
theorem d_se_prepare_1 : decode b_se_prepare 1 = .ok (.getfield 39, 3) := by decide +kernel
theorem d_se_prepare_4 : decode b_se_prepare 4 = .ok (.astore 4, 2) := by decide +kernel
theorem d_se_prepare_6 : decode b_se_prepare 6 = .ok (.aload_n 0, 1) := by decide +kernel
theorem d_se_prepare_7 : decode b_se_prepare 7 = .ok (.iconst 0, 1) := by decide +kernel
theorem d_se_prepare_8 : decode b_se_prepare 8 = .ok (.putfield 44, 3) := by decide +kernel
theorem d_se_prepare_11 : decode b_se_prepare 11 = .ok (.iconst 0, 1) := by decide +kernel
theorem d_se_prepare_12 : decode b_se_prepare 12 = .ok (.istore 5, 2) := by decide +kernel
theorem d_se_prepare_14 : decode b_se_prepare 14 = .ok (.iload 5, 2) := by decide +kernel
theorem d_se_prepare_16 : decode b_se_prepare 16 = .ok (.aload 4, 2) := by decide +kernel
theorem d_se_prepare_18 : decode b_se_prepare 18 = .ok (.getfield 48, 3) := by decide +kernel
theorem d_se_prepare_21 : decode b_se_prepare 21 = .ok (.if_icmp .ge 124, 3) := by decide +kernel
theorem d_se_prepare_24 : decode b_se_prepare 24 = .ok (.aload_n 2, 1) := by decide +kernel
theorem d_se_prepare_25 : decode b_se_prepare 25 = .ok (.getfield 51, 3) := by decide +kernel
theorem d_se_prepare_28 : decode b_se_prepare 28 = .ok (.iload 5, 2) := by decide +kernel
theorem d_se_prepare_30 : decode b_se_prepare 30 = .ok (.aaload, 1) := by decide +kernel
theorem d_se_prepare_31 : decode b_se_prepare 31 = .ok (.getfield 57, 3) := by decide +kernel
theorem d_se_prepare_34 : decode b_se_prepare 34 = .ok (.ifCond .eq 105, 3) := by decide +kernel
theorem d_se_prepare_37 : decode b_se_prepare 37 = .ok (.aload_n 0, 1) := by decide +kernel
theorem d_se_prepare_38 : decode b_se_prepare 38 = .ok (.getfield 9, 3) := by decide +kernel
theorem d_se_prepare_41 : decode b_se_prepare 41 = .ok (.aload_n 0, 1) := by decide +kernel
theorem d_se_prepare_42 : decode b_se_prepare 42 = .ok (.getfield 44, 3) := by decide +kernel
theorem d_se_prepare_45 : decode b_se_prepare 45 = .ok (.iload 5, 2) := by decide +kernel
theorem d_se_prepare_47 : decode b_se_prepare 47 = .ok (.iastore, 1) := by decide +kernel
theorem d_se_prepare_48 : decode b_se_prepare 48 = .ok (.aload_n 0, 1) := by decide +kernel
theorem d_se_prepare_49 : decode b_se_prepare 49 = .ok (.getfield 15, 3) := by decide +kernel
theorem d_se_prepare_52 : decode b_se_prepare 52 = .ok (.aload_n 0, 1) := by decide +kernel
theorem d_se_prepare_53 : decode b_se_prepare 53 = .ok (.getfield 44, 3) := by decide +kernel
theorem d_se_prepare_56 : decode b_se_prepare 56 = .ok (.ldc 63, 2) := by decide +kernel
theorem d_se_prepare_58 : decode b_se_prepare 58 = .ok (.aload_n 2, 1) := by decide +kernel
theorem d_se_prepare_59 : decode b_se_prepare 59 = .ok (.getfield 51, 3) := by decide +kernel
theorem d_se_prepare_62 : decode b_se_prepare 62 = .ok (.iload 5, 2) := by decide +kernel
theorem d_se_prepare_64 : decode b_se_prepare 64 = .ok (.aaload, 1) := by decide +kernel
theorem d_se_prepare_65 : decode b_se_prepare 65 = .ok (.invokevirtual 64, 3) := by decide +kernel
theorem d_se_prepare_68 : decode b_se_prepare 68 = .ok (.isub, 1) := by decide +kernel
theorem d_se_prepare_69 : decode b_se_prepare 69 = .ok (.iastore, 1) := by decide +kernel
theorem d_se_prepare_70 : decode b_se_prepare 70 = .ok (.aload_n 0, 1) := by decide +kernel
theorem d_se_prepare_71 : decode b_se_prepare 71 = .ok (.getfield 18, 3) := by decide +kernel
theorem d_se_prepare_74 : decode b_se_prepare 74 = .ok (.aload_n 0, 1) := by decide +kernel
theorem d_se_prepare_75 : decode b_se_prepare 75 = .ok (.getfield 44, 3) := by decide +kernel
theorem d_se_prepare_78 : decode b_se_prepare 78 = .ok (.aload 4, 2) := by decide +kernel
theorem d_se_prepare_80 : decode b_se_prepare 80 = .ok (.iload 5, 2) := by decide +kernel
theorem d_se_prepare_82 : decode b_se_prepare 82 = .ok (.iload_n 3, 1) := by decide +kernel
theorem d_se_prepare_83 : decode b_se_prepare 83 = .ok (.aload_n 1, 1) := by decide +kernel
theorem d_se_prepare_84 : decode b_se_prepare 84 = .ok (.getfield 68, 3) := by decide +kernel
theorem d_se_prepare_87 : decode b_se_prepare 87 = .ok (.invokevirtual 71, 3) := by decide +kernel
theorem d_se_prepare_90 : decode b_se_prepare 90 = .ok (.iastore, 1) := by decide +kernel
theorem d_se_prepare_91 : decode b_se_prepare 91 = .ok (.iconst 0, 1) := by decide +kernel
theorem d_se_prepare_92 : decode b_se_prepare 92 = .ok (.istore 6, 2) := by decide +kernel
theorem d_se_prepare_94 : decode b_se_prepare 94 = .ok (.iload 6, 2) := by decide +kernel
theorem d_se_prepare_96 : decode b_se_prepare 96 = .ok (.bipush 7, 2) := by decide +kernel
theorem d_se_prepare_98 : decode b_se_prepare 98 = .ok (.if_icmp .ge 31, 3) := by decide +kernel
theorem d_se_prepare_101 : decode b_se_prepare 101 = .ok (.aload_n 0, 1) := by decide +kernel
theorem d_se_prepare_102 : decode b_se_prepare 102 = .ok (.getfield 23, 3) := by decide +kernel
theorem d_se_prepare_105 : decode b_se_prepare 105 = .ok (.aload_n 0, 1) := by decide +kernel
theorem d_se_prepare_106 : decode b_se_prepare 106 = .ok (.getfield 44, 3) := by decide +kernel
theorem d_se_prepare_109 : decode b_se_prepare 109 = .ok (.aaload, 1) := by decide +kernel
theorem d_se_prepare_110 : decode b_se_prepare 110 = .ok (.iload 6, 2) := by decide +kernel
theorem d_se_prepare_112 : decode b_se_prepare 112 = .ok (.aload 4, 2) := by decide +kernel
theorem d_se_prepare_114 : decode b_se_prepare 114 = .ok (.iload 5, 2) := by decide +kernel
theorem d_se_prepare_116 : decode b_se_prepare 116 = .ok (.iload_n 3, 1) := by decide +kernel
theorem d_se_prepare_117 : decode b_se_prepare 117 = .ok (.iload 6, 2) := by decide +kernel
theorem d_se_prepare_119 : decode b_se_prepare 119 = .ok (.invokevirtual 75, 3) := by decide +kernel
theorem d_se_prepare_122 : decode b_se_prepare 122 = .ok (.iastore, 1) := by decide +kernel
theorem d_se_prepare_123 : decode b_se_prepare 123 = .ok (.iinc 6 1, 3) := by decide +kernel
theorem d_se_prepare_126 : decode b_se_prepare 126 = .ok (.goto (-32), 3) := by decide +kernel
theorem d_se_prepare_129 : decode b_se_prepare 129 = .ok (.aload_n 0, 1) := by decide +kernel
theorem d_se_prepare_130 : decode b_se_prepare 130 = .ok (.dup, 1) := by decide +kernel
theorem d_se_prepare_131 : decode b_se_prepare 131 = .ok (.getfield 44, 3) := by decide +kernel
theorem d_se_prepare_134 : decode b_se_prepare 134 = .ok (.iconst 1, 1) := by decide +kernel
theorem d_se_prepare_135 : decode b_se_prepare 135 = .ok (.iadd, 1) := by decide +kernel
theorem d_se_prepare_136 : decode b_se_prepare 136 = .ok (.putfield 44, 3) := by decide +kernel
theorem d_se_prepare_139 : decode b_se_prepare 139 = .ok (.iinc 5 1, 3) := by decide +kernel
theorem d_se_prepare_142 : decode b_se_prepare 142 = .ok (.goto (-128), 3) := by decide +kernel
theorem d_se_prepare_145 : decode b_se_prepare 145 = .ok (.return_, 1) := by decide +kernel
theorem d_se_explore_0 : decode b_se_explore 0 = .ok (.aload_n 0, 1) := by decide +kernel
theorem d_se_explore_1 : decode b_se_explore 1 = .ok (.getfield 26, 3) := by decide +kernel
theorem d_se_explore_4 : decode b_se_explore 4 = .ok (.iconst 0, 1) := by decide +kernel
theorem d_se_explore_5 : decode b_se_explore 5 = .ok (.ldc2_w 78, 3) := by decide +kernel
theorem d_se_explore_8 : decode b_se_explore 8 = .ok (.lastore, 1) := by decide +kernel
theorem d_se_explore_9 : decode b_se_explore 9 = .ok (.aload_n 0, 1) := by decide +kernel
theorem d_se_explore_10 : decode b_se_explore 10 = .ok (.getfield 30, 3) := by decide +kernel
theorem d_se_explore_13 : decode b_se_explore 13 = .ok (.iconst 0, 1) := by decide +kernel
theorem d_se_explore_14 : decode b_se_explore 14 = .ok (.lconst 0, 1) := by decide +kernel
theorem d_se_explore_15 : decode b_se_explore 15 = .ok (.lastore, 1) := by decide +kernel
theorem d_se_explore_16 : decode b_se_explore 16 = .ok (.aload_n 0, 1) := by decide +kernel
theorem d_se_explore_17 : decode b_se_explore 17 = .ok (.ldc2_w 80, 3) := by decide +kernel
theorem d_se_explore_20 : decode b_se_explore 20 = .ok (.putfield 82, 3) := by decide +kernel
theorem d_se_explore_23 : decode b_se_explore 23 = .ok (.aload_n 0, 1) := by decide +kernel
theorem d_se_explore_24 : decode b_se_explore 24 = .ok (.lconst 1, 1) := by decide +kernel
theorem d_se_explore_25 : decode b_se_explore 25 = .ok (.putfield 86, 3) := by decide +kernel
theorem d_se_explore_28 : decode b_se_explore 28 = .ok (.iconst 0, 1) := by decide +kernel
theorem d_se_explore_29 : decode b_se_explore 29 = .ok (.istore_n 1, 1) := by decide +kernel
theorem d_se_explore_30 : decode b_se_explore 30 = .ok (.iload_n 1, 1) := by decide +kernel
theorem d_se_explore_31 : decode b_se_explore 31 = .ok (.aload_n 0, 1) := by decide +kernel
theorem d_se_explore_32 : decode b_se_explore 32 = .ok (.getfield 44, 3) := by decide +kernel
theorem d_se_explore_35 : decode b_se_explore 35 = .ok (.if_icmp .ge 88, 3) := by decide +kernel
theorem d_se_explore_38 : decode b_se_explore 38 = .ok (.aload_n 0, 1) := by decide +kernel
theorem d_se_explore_39 : decode b_se_explore 39 = .ok (.iconst 0, 1) := by decide +kernel
theorem d_se_explore_40 : decode b_se_explore 40 = .ok (.iload_n 1, 1) := by decide +kernel
theorem d_se_explore_41 : decode b_se_explore 41 = .ok (.invokevirtual 89, 3) := by decide +kernel
theorem d_se_explore_44 : decode b_se_explore 44 = .ok (.iconst 0, 1) := by decide +kernel
theorem d_se_explore_45 : decode b_se_explore 45 = .ok (.istore_n 2, 1) := by decide +kernel
theorem d_se_explore_46 : decode b_se_explore 46 = .ok (.iload_n 2, 1) := by decide +kernel
theorem d_se_explore_47 : decode b_se_explore 47 = .ok (.aload_n 0, 1) := by decide +kernel
theorem d_se_explore_48 : decode b_se_explore 48 = .ok (.getfield 44, 3) := by decide +kernel
theorem d_se_explore_51 : decode b_se_explore 51 = .ok (.if_icmp .ge 66, 3) := by decide +kernel
theorem d_se_explore_54 : decode b_se_explore 54 = .ok (.aload_n 0, 1) := by decide +kernel
theorem d_se_explore_55 : decode b_se_explore 55 = .ok (.iconst 1, 1) := by decide +kernel
theorem d_se_explore_56 : decode b_se_explore 56 = .ok (.iload_n 2, 1) := by decide +kernel
theorem d_se_explore_57 : decode b_se_explore 57 = .ok (.invokevirtual 89, 3) := by decide +kernel
theorem d_se_explore_60 : decode b_se_explore 60 = .ok (.iconst 0, 1) := by decide +kernel
theorem d_se_explore_61 : decode b_se_explore 61 = .ok (.istore_n 3, 1) := by decide +kernel
theorem d_se_explore_62 : decode b_se_explore 62 = .ok (.iload_n 3, 1) := by decide +kernel
theorem d_se_explore_63 : decode b_se_explore 63 = .ok (.aload_n 0, 1) := by decide +kernel
theorem d_se_explore_64 : decode b_se_explore 64 = .ok (.getfield 44, 3) := by decide +kernel
theorem d_se_explore_67 : decode b_se_explore 67 = .ok (.if_icmp .ge 44, 3) := by decide +kernel
theorem d_se_explore_70 : decode b_se_explore 70 = .ok (.aload_n 0, 1) := by decide +kernel
theorem d_se_explore_71 : decode b_se_explore 71 = .ok (.iconst 2, 1) := by decide +kernel
theorem d_se_explore_72 : decode b_se_explore 72 = .ok (.iload_n 3, 1) := by decide +kernel
theorem d_se_explore_73 : decode b_se_explore 73 = .ok (.invokevirtual 89, 3) := by decide +kernel
theorem d_se_explore_76 : decode b_se_explore 76 = .ok (.iconst 0, 1) := by decide +kernel
theorem d_se_explore_77 : decode b_se_explore 77 = .ok (.istore 4, 2) := by decide +kernel
theorem d_se_explore_79 : decode b_se_explore 79 = .ok (.iload 4, 2) := by decide +kernel
theorem d_se_explore_81 : decode b_se_explore 81 = .ok (.aload_n 0, 1) := by decide +kernel
theorem d_se_explore_82 : decode b_se_explore 82 = .ok (.getfield 44, 3) := by decide +kernel
theorem d_se_explore_85 : decode b_se_explore 85 = .ok (.if_icmp .ge 20, 3) := by decide +kernel
theorem d_se_explore_88 : decode b_se_explore 88 = .ok (.aload_n 0, 1) := by decide +kernel
theorem d_se_explore_89 : decode b_se_explore 89 = .ok (.iconst 3, 1) := by decide +kernel
theorem d_se_explore_90 : decode b_se_explore 90 = .ok (.iload 4, 2) := by decide +kernel
theorem d_se_explore_92 : decode b_se_explore 92 = .ok (.invokevirtual 89, 3) := by decide +kernel
theorem d_se_explore_95 : decode b_se_explore 95 = .ok (.aload_n 0, 1) := by decide +kernel
theorem d_se_explore_96 : decode b_se_explore 96 = .ok (.invokevirtual 93, 3) := by decide +kernel
theorem d_se_explore_99 : decode b_se_explore 99 = .ok (.iinc 4 1, 3) := by decide +kernel
theorem d_se_explore_102 : decode b_se_explore 102 = .ok (.goto (-23), 3) := by decide +kernel
theorem d_se_explore_105 : decode b_se_explore 105 = .ok (.iinc 3 1, 3) := by decide +kernel
theorem d_se_explore_108 : decode b_se_explore 108 = .ok (.goto (-46), 3) := by decide +kernel
theorem d_se_explore_111 : decode b_se_explore 111 = .ok (.iinc 2 1, 3) := by decide +kernel
theorem d_se_explore_114 : decode b_se_explore 114 = .ok (.goto (-68), 3) := by decide +kernel
theorem d_se_explore_117 : decode b_se_explore 117 = .ok (.iinc 1 1, 3) := by decide +kernel
theorem d_se_explore_120 : decode b_se_explore 120 = .ok (.goto (-90), 3) := by decide +kernel
theorem d_se_explore_123 : decode b_se_explore 123 = .ok (.return_, 1) := by decide +kernel
theorem d_se_place_0 : decode b_se_place 0 = .ok (.aload_n 0, 1) := by decide +kernel
theorem d_se_place_1 : decode b_se_place 1 = .ok (.getfield 26, 3) := by decide +kernel
theorem d_se_place_4 : decode b_se_place 4 = .ok (.iload_n 1, 1) := by decide +kernel
theorem d_se_place_5 : decode b_se_place 5 = .ok (.laload, 1) := by decide +kernel
theorem d_se_place_6 : decode b_se_place 6 = .ok (.lstore_n 3, 1) := by decide +kernel
theorem d_se_place_7 : decode b_se_place 7 = .ok (.aload_n 0, 1) := by decide +kernel
theorem d_se_place_8 : decode b_se_place 8 = .ok (.getfield 30, 3) := by decide +kernel
theorem d_se_place_11 : decode b_se_place 11 = .ok (.iload_n 1, 1) := by decide +kernel
theorem d_se_place_12 : decode b_se_place 12 = .ok (.laload, 1) := by decide +kernel
theorem d_se_place_13 : decode b_se_place 13 = .ok (.lstore 5, 2) := by decide +kernel
theorem d_se_place_15 : decode b_se_place 15 = .ok (.iconst 0, 1) := by decide +kernel
theorem d_se_place_16 : decode b_se_place 16 = .ok (.istore 7, 2) := by decide +kernel
theorem d_se_place_18 : decode b_se_place 18 = .ok (.iload 7, 2) := by decide +kernel
theorem d_se_place_20 : decode b_se_place 20 = .ok (.aload_n 0, 1) := by decide +kernel
theorem d_se_place_21 : decode b_se_place 21 = .ok (.getfield 18, 3) := by decide +kernel
theorem d_se_place_24 : decode b_se_place 24 = .ok (.iload_n 2, 1) := by decide +kernel
theorem d_se_place_25 : decode b_se_place 25 = .ok (.iaload, 1) := by decide +kernel
theorem d_se_place_26 : decode b_se_place 26 = .ok (.if_icmp .ge 40, 3) := by decide +kernel
theorem d_se_place_29 : decode b_se_place 29 = .ok (.lload 5, 2) := by decide +kernel
theorem d_se_place_31 : decode b_se_place 31 = .ok (.lload_n 3, 1) := by decide +kernel
theorem d_se_place_32 : decode b_se_place 32 = .ok (.aload_n 0, 1) := by decide +kernel
theorem d_se_place_33 : decode b_se_place 33 = .ok (.getfield 23, 3) := by decide +kernel
theorem d_se_place_36 : decode b_se_place 36 = .ok (.iload_n 2, 1) := by decide +kernel
theorem d_se_place_37 : decode b_se_place 37 = .ok (.aaload, 1) := by decide +kernel
theorem d_se_place_38 : decode b_se_place 38 = .ok (.iload 7, 2) := by decide +kernel
theorem d_se_place_40 : decode b_se_place 40 = .ok (.iaload, 1) := by decide +kernel
theorem d_se_place_41 : decode b_se_place 41 = .ok (.i2l, 1) := by decide +kernel
theorem d_se_place_42 : decode b_se_place 42 = .ok (.lmul, 1) := by decide +kernel
theorem d_se_place_43 : decode b_se_place 43 = .ok (.ladd, 1) := by decide +kernel
theorem d_se_place_44 : decode b_se_place 44 = .ok (.lstore 5, 2) := by decide +kernel
theorem d_se_place_46 : decode b_se_place 46 = .ok (.lload_n 3, 1) := by decide +kernel
theorem d_se_place_47 : decode b_se_place 47 = .ok (.aload_n 0, 1) := by decide +kernel
theorem d_se_place_48 : decode b_se_place 48 = .ok (.getfield 15, 3) := by decide +kernel
theorem d_se_place_51 : decode b_se_place 51 = .ok (.iload_n 2, 1) := by decide +kernel
theorem d_se_place_52 : decode b_se_place 52 = .ok (.iaload, 1) := by decide +kernel
theorem d_se_place_53 : decode b_se_place 53 = .ok (.i2l, 1) := by decide +kernel
theorem d_se_place_54 : decode b_se_place 54 = .ok (.lmul, 1) := by decide +kernel
theorem d_se_place_55 : decode b_se_place 55 = .ok (.ldc2_w 78, 3) := by decide +kernel
theorem d_se_place_58 : decode b_se_place 58 = .ok (.ldiv, 1) := by decide +kernel
theorem d_se_place_59 : decode b_se_place 59 = .ok (.lstore_n 3, 1) := by decide +kernel
theorem d_se_place_60 : decode b_se_place 60 = .ok (.iinc 7 1, 3) := by decide +kernel
theorem d_se_place_63 : decode b_se_place 63 = .ok (.goto (-45), 3) := by decide +kernel
theorem d_se_place_66 : decode b_se_place 66 = .ok (.aload_n 0, 1) := by decide +kernel
theorem d_se_place_67 : decode b_se_place 67 = .ok (.getfield 26, 3) := by decide +kernel
theorem d_se_place_70 : decode b_se_place 70 = .ok (.iload_n 1, 1) := by decide +kernel
theorem d_se_place_71 : decode b_se_place 71 = .ok (.iconst 1, 1) := by decide +kernel
theorem d_se_place_72 : decode b_se_place 72 = .ok (.iadd, 1) := by decide +kernel
theorem d_se_place_73 : decode b_se_place 73 = .ok (.lload_n 3, 1) := by decide +kernel
theorem d_se_place_74 : decode b_se_place 74 = .ok (.lastore, 1) := by decide +kernel
theorem d_se_place_75 : decode b_se_place 75 = .ok (.aload_n 0, 1) := by decide +kernel
theorem d_se_place_76 : decode b_se_place 76 = .ok (.getfield 30, 3) := by decide +kernel
theorem d_se_place_79 : decode b_se_place 79 = .ok (.iload_n 1, 1) := by decide +kernel
theorem d_se_place_80 : decode b_se_place 80 = .ok (.iconst 1, 1) := by decide +kernel
theorem d_se_place_81 : decode b_se_place 81 = .ok (.iadd, 1) := by decide +kernel
theorem d_se_place_82 : decode b_se_place 82 = .ok (.lload 5, 2) := by decide +kernel
theorem d_se_place_84 : decode b_se_place 84 = .ok (.lastore, 1) := by decide +kernel
theorem d_se_place_85 : decode b_se_place 85 = .ok (.aload_n 0, 1) := by decide +kernel
theorem d_se_place_86 : decode b_se_place 86 = .ok (.getfield 33, 3) := by decide +kernel
theorem d_se_place_89 : decode b_se_place 89 = .ok (.iload_n 1, 1) := by decide +kernel
theorem d_se_place_90 : decode b_se_place 90 = .ok (.aload_n 0, 1) := by decide +kernel
theorem d_se_place_91 : decode b_se_place 91 = .ok (.getfield 9, 3) := by decide +kernel
theorem d_se_place_94 : decode b_se_place 94 = .ok (.iload_n 2, 1) := by decide +kernel
theorem d_se_place_95 : decode b_se_place 95 = .ok (.iaload, 1) := by decide +kernel
theorem d_se_place_96 : decode b_se_place 96 = .ok (.iastore, 1) := by decide +kernel
theorem d_se_place_97 : decode b_se_place 97 = .ok (.return_, 1) := by decide +kernel
theorem d_se_keepIfBetter_0 : decode b_se_keepIfBetter 0 = .ok (.ldc2_w 78, 3) := by decide +kernel
theorem d_se_keepIfBetter_3 : decode b_se_keepIfBetter 3 = .ok (.aload_n 0, 1) := by decide +kernel
theorem d_se_keepIfBetter_4 : decode b_se_keepIfBetter 4 = .ok (.getfield 26, 3) := by decide +kernel
theorem d_se_keepIfBetter_7 : decode b_se_keepIfBetter 7 = .ok (.iconst 4, 1) := by decide +kernel
theorem d_se_keepIfBetter_8 : decode b_se_keepIfBetter 8 = .ok (.laload, 1) := by decide +kernel
theorem d_se_keepIfBetter_9 : decode b_se_keepIfBetter 9 = .ok (.lsub, 1) := by decide +kernel
theorem d_se_keepIfBetter_10 : decode b_se_keepIfBetter 10 = .ok (.lstore_n 1, 1) := by decide +kernel
theorem d_se_keepIfBetter_11 : decode b_se_keepIfBetter 11 = .ok (.aload_n 0, 1) := by decide +kernel
theorem d_se_keepIfBetter_12 : decode b_se_keepIfBetter 12 = .ok (.getfield 30, 3) := by decide +kernel
theorem d_se_keepIfBetter_15 : decode b_se_keepIfBetter 15 = .ok (.iconst 4, 1) := by decide +kernel
theorem d_se_keepIfBetter_16 : decode b_se_keepIfBetter 16 = .ok (.laload, 1) := by decide +kernel
theorem d_se_keepIfBetter_17 : decode b_se_keepIfBetter 17 = .ok (.lstore_n 3, 1) := by decide +kernel
theorem d_se_keepIfBetter_18 : decode b_se_keepIfBetter 18 = .ok (.lload_n 1, 1) := by decide +kernel
theorem d_se_keepIfBetter_19 : decode b_se_keepIfBetter 19 = .ok (.aload_n 0, 1) := by decide +kernel
theorem d_se_keepIfBetter_20 : decode b_se_keepIfBetter 20 = .ok (.getfield 86, 3) := by decide +kernel
theorem d_se_keepIfBetter_23 : decode b_se_keepIfBetter 23 = .ok (.lmul, 1) := by decide +kernel
theorem d_se_keepIfBetter_24 : decode b_se_keepIfBetter 24 = .ok (.aload_n 0, 1) := by decide +kernel
theorem d_se_keepIfBetter_25 : decode b_se_keepIfBetter 25 = .ok (.getfield 82, 3) := by decide +kernel
theorem d_se_keepIfBetter_28 : decode b_se_keepIfBetter 28 = .ok (.lload_n 3, 1) := by decide +kernel
theorem d_se_keepIfBetter_29 : decode b_se_keepIfBetter 29 = .ok (.lmul, 1) := by decide +kernel
theorem d_se_keepIfBetter_30 : decode b_se_keepIfBetter 30 = .ok (.lcmp, 1) := by decide +kernel
theorem d_se_keepIfBetter_31 : decode b_se_keepIfBetter 31 = .ok (.ifCond .le 27, 3) := by decide +kernel
theorem d_se_keepIfBetter_34 : decode b_se_keepIfBetter 34 = .ok (.aload_n 0, 1) := by decide +kernel
theorem d_se_keepIfBetter_35 : decode b_se_keepIfBetter 35 = .ok (.lload_n 1, 1) := by decide +kernel
theorem d_se_keepIfBetter_36 : decode b_se_keepIfBetter 36 = .ok (.putfield 82, 3) := by decide +kernel
theorem d_se_keepIfBetter_39 : decode b_se_keepIfBetter 39 = .ok (.aload_n 0, 1) := by decide +kernel
theorem d_se_keepIfBetter_40 : decode b_se_keepIfBetter 40 = .ok (.lload_n 3, 1) := by decide +kernel
theorem d_se_keepIfBetter_41 : decode b_se_keepIfBetter 41 = .ok (.putfield 86, 3) := by decide +kernel
theorem d_se_keepIfBetter_44 : decode b_se_keepIfBetter 44 = .ok (.aload_n 0, 1) := by decide +kernel
theorem d_se_keepIfBetter_45 : decode b_se_keepIfBetter 45 = .ok (.getfield 33, 3) := by decide +kernel
theorem d_se_keepIfBetter_48 : decode b_se_keepIfBetter 48 = .ok (.iconst 0, 1) := by decide +kernel
theorem d_se_keepIfBetter_49 : decode b_se_keepIfBetter 49 = .ok (.aload_n 0, 1) := by decide +kernel
theorem d_se_keepIfBetter_50 : decode b_se_keepIfBetter 50 = .ok (.getfield 36, 3) := by decide +kernel
theorem d_se_keepIfBetter_53 : decode b_se_keepIfBetter 53 = .ok (.iconst 0, 1) := by decide +kernel
theorem d_se_keepIfBetter_54 : decode b_se_keepIfBetter 54 = .ok (.iconst 4, 1) := by decide +kernel
theorem d_se_keepIfBetter_55 : decode b_se_keepIfBetter 55 = .ok (.invokestatic 96, 3) := by decide +kernel
theorem d_se_keepIfBetter_58 : decode b_se_keepIfBetter 58 = .ok (.return_, 1) := by decide +kernel
theorem d_lo_init_0 : decode b_lo_init 0 = .ok (.aload_n 0, 1) := by decide +kernel
theorem d_lo_init_1 : decode b_lo_init 1 = .ok (.invokespecial 3, 3) := by decide +kernel
theorem d_lo_init_4 : decode b_lo_init 4 = .ok (.aload_n 0, 1) := by decide +kernel
theorem d_lo_init_5 : decode b_lo_init 5 = .ok (.iconst 4, 1) := by decide +kernel
theorem d_lo_init_6 : decode b_lo_init 6 = .ok (.bipush 20, 2) := by decide +kernel
theorem d_lo_init_8 : decode b_lo_init 8 = .ok (.multianewarray 11 2, 4) := by decide +kernel
theorem d_lo_init_12 : decode b_lo_init 12 = .ok (.putfield 13, 3) := by decide +kernel
theorem d_lo_init_15 : decode b_lo_init 15 = .ok (.return_, 1) := by decide +kernel
theorem d_lo_become_0 : decode b_lo_become 0 = .ok (.aload_n 0, 1) := by decide +kernel
theorem d_lo_become_1 : decode b_lo_become 1 = .ok (.aload_n 1, 1) := by decide +kernel
theorem d_lo_become_2 : decode b_lo_become 2 = .ok (.getfield 16, 3) := by decide +kernel
theorem d_lo_become_5 : decode b_lo_become 5 = .ok (.putfield 16, 3) := by decide +kernel
theorem d_lo_become_8 : decode b_lo_become 8 = .ok (.iconst 0, 1) := by decide +kernel
theorem d_lo_become_9 : decode b_lo_become 9 = .ok (.istore_n 2, 1) := by decide +kernel
theorem d_lo_become_10 : decode b_lo_become 10 = .ok (.iload_n 2, 1) := by decide +kernel
theorem d_lo_become_11 : decode b_lo_become 11 = .ok (.iconst 4, 1) := by decide +kernel
theorem d_lo_become_12 : decode b_lo_become 12 = .ok (.if_icmp .ge 28, 3) := by decide +kernel
theorem d_lo_become_15 : decode b_lo_become 15 = .ok (.aload_n 1, 1) := by decide +kernel
theorem d_lo_become_16 : decode b_lo_become 16 = .ok (.getfield 13, 3) := by decide +kernel
theorem d_lo_become_19 : decode b_lo_become 19 = .ok (.iload_n 2, 1) := by decide +kernel
theorem d_lo_become_20 : decode b_lo_become 20 = .ok (.aaload, 1) := by decide +kernel
theorem d_lo_become_21 : decode b_lo_become 21 = .ok (.iconst 0, 1) := by decide +kernel
theorem d_lo_become_22 : decode b_lo_become 22 = .ok (.aload_n 0, 1) := by decide +kernel
theorem d_lo_become_23 : decode b_lo_become 23 = .ok (.getfield 13, 3) := by decide +kernel
theorem d_lo_become_26 : decode b_lo_become 26 = .ok (.iload_n 2, 1) := by decide +kernel
theorem d_lo_become_27 : decode b_lo_become 27 = .ok (.aaload, 1) := by decide +kernel
theorem d_lo_become_28 : decode b_lo_become 28 = .ok (.iconst 0, 1) := by decide +kernel
theorem d_lo_become_29 : decode b_lo_become 29 = .ok (.bipush 20, 2) := by decide +kernel
theorem d_lo_become_31 : decode b_lo_become 31 = .ok (.invokestatic 20, 3) := by decide +kernel
theorem d_lo_become_34 : decode b_lo_become 34 = .ok (.iinc 2 1, 3) := by decide +kernel
theorem d_lo_become_37 : decode b_lo_become 37 = .ok (.goto (-27), 3) := by decide +kernel
theorem d_lo_become_40 : decode b_lo_become 40 = .ok (.return_, 1) := by decide +kernel
theorem d_lo_note_0 : decode b_lo_note 0 = .ok (.aload_n 0, 1) := by decide +kernel
theorem d_lo_note_1 : decode b_lo_note 1 = .ok (.getfield 16, 3) := by decide +kernel
theorem d_lo_note_4 : decode b_lo_note 4 = .ok (.bipush 20, 2) := by decide +kernel
theorem d_lo_note_6 : decode b_lo_note 6 = .ok (.invokestatic 26, 3) := by decide +kernel
theorem d_lo_note_9 : decode b_lo_note 9 = .ok (.istore 5, 2) := by decide +kernel
theorem d_lo_note_11 : decode b_lo_note 11 = .ok (.aload_n 0, 1) := by decide +kernel
theorem d_lo_note_12 : decode b_lo_note 12 = .ok (.getfield 13, 3) := by decide +kernel
theorem d_lo_note_15 : decode b_lo_note 15 = .ok (.iconst 0, 1) := by decide +kernel
theorem d_lo_note_16 : decode b_lo_note 16 = .ok (.aaload, 1) := by decide +kernel
theorem d_lo_note_17 : decode b_lo_note 17 = .ok (.iload 5, 2) := by decide +kernel
theorem d_lo_note_19 : decode b_lo_note 19 = .ok (.iload_n 1, 1) := by decide +kernel
theorem d_lo_note_20 : decode b_lo_note 20 = .ok (.iastore, 1) := by decide +kernel
theorem d_lo_note_21 : decode b_lo_note 21 = .ok (.aload_n 0, 1) := by decide +kernel
theorem d_lo_note_22 : decode b_lo_note 22 = .ok (.getfield 13, 3) := by decide +kernel
theorem d_lo_note_25 : decode b_lo_note 25 = .ok (.iconst 1, 1) := by decide +kernel
theorem d_lo_note_26 : decode b_lo_note 26 = .ok (.aaload, 1) := by decide +kernel
theorem d_lo_note_27 : decode b_lo_note 27 = .ok (.iload 5, 2) := by decide +kernel
theorem d_lo_note_29 : decode b_lo_note 29 = .ok (.iload_n 2, 1) := by decide +kernel
theorem d_lo_note_30 : decode b_lo_note 30 = .ok (.iastore, 1) := by decide +kernel
theorem d_lo_note_31 : decode b_lo_note 31 = .ok (.aload_n 0, 1) := by decide +kernel
theorem d_lo_note_32 : decode b_lo_note 32 = .ok (.getfield 13, 3) := by decide +kernel
theorem d_lo_note_35 : decode b_lo_note 35 = .ok (.iconst 2, 1) := by decide +kernel
theorem d_lo_note_36 : decode b_lo_note 36 = .ok (.aaload, 1) := by decide +kernel
theorem d_lo_note_37 : decode b_lo_note 37 = .ok (.iload 5, 2) := by decide +kernel
theorem d_lo_note_39 : decode b_lo_note 39 = .ok (.iload_n 3, 1) := by decide +kernel
theorem d_lo_note_40 : decode b_lo_note 40 = .ok (.iastore, 1) := by decide +kernel
theorem d_lo_note_41 : decode b_lo_note 41 = .ok (.aload_n 0, 1) := by decide +kernel
theorem d_lo_note_42 : decode b_lo_note 42 = .ok (.getfield 13, 3) := by decide +kernel
theorem d_lo_note_45 : decode b_lo_note 45 = .ok (.iconst 3, 1) := by decide +kernel
theorem d_lo_note_46 : decode b_lo_note 46 = .ok (.aaload, 1) := by decide +kernel
theorem d_lo_note_47 : decode b_lo_note 47 = .ok (.iload 5, 2) := by decide +kernel
theorem d_lo_note_49 : decode b_lo_note 49 = .ok (.iload 4, 2) := by decide +kernel
theorem d_lo_note_51 : decode b_lo_note 51 = .ok (.iastore, 1) := by decide +kernel
theorem d_lo_note_52 : decode b_lo_note 52 = .ok (.aload_n 0, 1) := by decide +kernel
theorem d_lo_note_53 : decode b_lo_note 53 = .ok (.dup, 1) := by decide +kernel
theorem d_lo_note_54 : decode b_lo_note 54 = .ok (.getfield 16, 3) := by decide +kernel
theorem d_lo_note_57 : decode b_lo_note 57 = .ok (.iconst 1, 1) := by decide +kernel
theorem d_lo_note_58 : decode b_lo_note 58 = .ok (.iadd, 1) := by decide +kernel
theorem d_lo_note_59 : decode b_lo_note 59 = .ok (.putfield 16, 3) := by decide +kernel
theorem d_lo_note_62 : decode b_lo_note 62 = .ok (.return_, 1) := by decide +kernel
theorem d_lo_look_0 : decode b_lo_look 0 = .ok (.iload_n 2, 1) := by decide +kernel
theorem d_lo_look_1 : decode b_lo_look 1 = .ok (.ifCond .lt 12, 3) := by decide +kernel
theorem d_lo_look_4 : decode b_lo_look 4 = .ok (.iload_n 1, 1) := by decide +kernel
theorem d_lo_look_5 : decode b_lo_look 5 = .ok (.ifCond .lt 8, 3) := by decide +kernel
theorem d_lo_look_8 : decode b_lo_look 8 = .ok (.iload_n 1, 1) := by decide +kernel
theorem d_lo_look_9 : decode b_lo_look 9 = .ok (.iconst 4, 1) := by decide +kernel
theorem d_lo_look_10 : decode b_lo_look 10 = .ok (.if_icmp .lt 5, 3) := by decide +kernel
theorem d_lo_look_13 : decode b_lo_look 13 = .ok (.iconst (-1), 1) := by decide +kernel
theorem d_lo_look_14 : decode b_lo_look 14 = .ok (.ireturn, 1) := by decide +kernel
theorem d_lo_look_15 : decode b_lo_look 15 = .ok (.iload_n 2, 1) := by decide +kernel
theorem d_lo_look_16 : decode b_lo_look 16 = .ok (.aload_n 0, 1) := by decide +kernel
theorem d_lo_look_17 : decode b_lo_look 17 = .ok (.getfield 16, 3) := by decide +kernel
theorem d_lo_look_20 : decode b_lo_look 20 = .ok (.bipush 20, 2) := by decide +kernel
theorem d_lo_look_22 : decode b_lo_look 22 = .ok (.invokestatic 32, 3) := by decide +kernel
theorem d_lo_look_25 : decode b_lo_look 25 = .ok (.if_icmp .lt 6, 3) := by decide +kernel
theorem d_lo_look_28 : decode b_lo_look 28 = .ok (.bipush (-9), 2) := by decide +kernel
theorem d_lo_look_30 : decode b_lo_look 30 = .ok (.ireturn, 1) := by decide +kernel
theorem d_lo_look_31 : decode b_lo_look 31 = .ok (.aload_n 0, 1) := by decide +kernel
theorem d_lo_look_32 : decode b_lo_look 32 = .ok (.getfield 13, 3) := by decide +kernel
theorem d_lo_look_35 : decode b_lo_look 35 = .ok (.iload_n 1, 1) := by decide +kernel
theorem d_lo_look_36 : decode b_lo_look 36 = .ok (.aaload, 1) := by decide +kernel
theorem d_lo_look_37 : decode b_lo_look 37 = .ok (.aload_n 0, 1) := by decide +kernel
theorem d_lo_look_38 : decode b_lo_look 38 = .ok (.getfield 16, 3) := by decide +kernel
theorem d_lo_look_41 : decode b_lo_look 41 = .ok (.iconst 1, 1) := by decide +kernel
theorem d_lo_look_42 : decode b_lo_look 42 = .ok (.isub, 1) := by decide +kernel
theorem d_lo_look_43 : decode b_lo_look 43 = .ok (.iload_n 2, 1) := by decide +kernel
theorem d_lo_look_44 : decode b_lo_look 44 = .ok (.isub, 1) := by decide +kernel
theorem d_lo_look_45 : decode b_lo_look 45 = .ok (.bipush 20, 2) := by decide +kernel
theorem d_lo_look_47 : decode b_lo_look 47 = .ok (.invokestatic 26, 3) := by decide +kernel
theorem d_lo_look_50 : decode b_lo_look 50 = .ok (.iaload, 1) := by decide +kernel
theorem d_lo_look_51 : decode b_lo_look 51 = .ok (.ireturn, 1) := by decide +kernel
theorem d_hi_init_0 : decode b_hi_init 0 = .ok (.aload_n 0, 1) := by decide +kernel
theorem d_hi_init_1 : decode b_hi_init 1 = .ok (.invokespecial 3, 3) := by decide +kernel
theorem d_hi_init_4 : decode b_hi_init 4 = .ok (.aload_n 0, 1) := by decide +kernel
theorem d_hi_init_5 : decode b_hi_init 5 = .ok (.iconst 5, 1) := by decide +kernel
theorem d_hi_init_6 : decode b_hi_init 6 = .ok (.anewarray 9, 3) := by decide +kernel
theorem d_hi_init_9 : decode b_hi_init 9 = .ok (.putfield 11, 3) := by decide +kernel
theorem d_hi_init_12 : decode b_hi_init 12 = .ok (.iconst 0, 1) := by decide +kernel
theorem d_hi_init_13 : decode b_hi_init 13 = .ok (.istore_n 1, 1) := by decide +kernel
theorem d_hi_init_14 : decode b_hi_init 14 = .ok (.iload_n 1, 1) := by decide +kernel
theorem d_hi_init_15 : decode b_hi_init 15 = .ok (.iconst 5, 1) := by decide +kernel
theorem d_hi_init_16 : decode b_hi_init 16 = .ok (.if_icmp .ge 22, 3) := by decide +kernel
theorem d_hi_init_19 : decode b_hi_init 19 = .ok (.aload_n 0, 1) := by decide +kernel
theorem d_hi_init_20 : decode b_hi_init 20 = .ok (.getfield 11, 3) := by decide +kernel
theorem d_hi_init_23 : decode b_hi_init 23 = .ok (.iload_n 1, 1) := by decide +kernel
theorem d_hi_init_24 : decode b_hi_init 24 = .ok (.new 9, 3) := by decide +kernel
theorem d_hi_init_27 : decode b_hi_init 27 = .ok (.dup, 1) := by decide +kernel
theorem d_hi_init_28 : decode b_hi_init 28 = .ok (.invokespecial 17, 3) := by decide +kernel
theorem d_hi_init_31 : decode b_hi_init 31 = .ok (.aastore, 1) := by decide +kernel
theorem d_hi_init_32 : decode b_hi_init 32 = .ok (.iinc 1 1, 3) := by decide +kernel
theorem d_hi_init_35 : decode b_hi_init 35 = .ok (.goto (-21), 3) := by decide +kernel
theorem d_hi_init_38 : decode b_hi_init 38 = .ok (.return_, 1) := by decide +kernel
theorem d_hi_keep_0 : decode b_hi_keep 0 = .ok (.aload_n 0, 1) := by decide +kernel
theorem d_hi_keep_1 : decode b_hi_keep 1 = .ok (.getfield 11, 3) := by decide +kernel
theorem d_hi_keep_4 : decode b_hi_keep 4 = .ok (.aload_n 0, 1) := by decide +kernel
theorem d_hi_keep_5 : decode b_hi_keep 5 = .ok (.getfield 18, 3) := by decide +kernel
theorem d_hi_keep_8 : decode b_hi_keep 8 = .ok (.aload_n 0, 1) := by decide +kernel
theorem d_hi_keep_9 : decode b_hi_keep 9 = .ok (.getfield 22, 3) := by decide +kernel
theorem d_hi_keep_12 : decode b_hi_keep 12 = .ok (.iadd, 1) := by decide +kernel
theorem d_hi_keep_13 : decode b_hi_keep 13 = .ok (.iconst 5, 1) := by decide +kernel
theorem d_hi_keep_14 : decode b_hi_keep 14 = .ok (.invokestatic 25, 3) := by decide +kernel
theorem d_hi_keep_17 : decode b_hi_keep 17 = .ok (.aaload, 1) := by decide +kernel
theorem d_hi_keep_18 : decode b_hi_keep 18 = .ok (.aload_n 1, 1) := by decide +kernel
theorem d_hi_keep_19 : decode b_hi_keep 19 = .ok (.invokevirtual 31, 3) := by decide +kernel
theorem d_hi_keep_22 : decode b_hi_keep 22 = .ok (.aload_n 0, 1) := by decide +kernel
theorem d_hi_keep_23 : decode b_hi_keep 23 = .ok (.getfield 22, 3) := by decide +kernel
theorem d_hi_keep_26 : decode b_hi_keep 26 = .ok (.iconst 5, 1) := by decide +kernel
theorem d_hi_keep_27 : decode b_hi_keep 27 = .ok (.if_icmp .ge 16, 3) := by decide +kernel
theorem d_hi_keep_30 : decode b_hi_keep 30 = .ok (.aload_n 0, 1) := by decide +kernel
theorem d_hi_keep_31 : decode b_hi_keep 31 = .ok (.dup, 1) := by decide +kernel
theorem d_hi_keep_32 : decode b_hi_keep 32 = .ok (.getfield 22, 3) := by decide +kernel
theorem d_hi_keep_35 : decode b_hi_keep 35 = .ok (.iconst 1, 1) := by decide +kernel
theorem d_hi_keep_36 : decode b_hi_keep 36 = .ok (.iadd, 1) := by decide +kernel
theorem d_hi_keep_37 : decode b_hi_keep 37 = .ok (.putfield 22, 3) := by decide +kernel
theorem d_hi_keep_40 : decode b_hi_keep 40 = .ok (.goto 17, 3) := by decide +kernel
theorem d_hi_keep_43 : decode b_hi_keep 43 = .ok (.aload_n 0, 1) := by decide +kernel
theorem d_hi_keep_44 : decode b_hi_keep 44 = .ok (.aload_n 0, 1) := by decide +kernel
theorem d_hi_keep_45 : decode b_hi_keep 45 = .ok (.getfield 18, 3) := by decide +kernel
theorem d_hi_keep_48 : decode b_hi_keep 48 = .ok (.iconst 1, 1) := by decide +kernel
theorem d_hi_keep_49 : decode b_hi_keep 49 = .ok (.iadd, 1) := by decide +kernel
theorem d_hi_keep_50 : decode b_hi_keep 50 = .ok (.iconst 5, 1) := by decide +kernel
theorem d_hi_keep_51 : decode b_hi_keep 51 = .ok (.invokestatic 25, 3) := by decide +kernel
theorem d_hi_keep_54 : decode b_hi_keep 54 = .ok (.putfield 18, 3) := by decide +kernel
theorem d_hi_keep_57 : decode b_hi_keep 57 = .ok (.return_, 1) := by decide +kernel
theorem d_hi_takeBack_0 : decode b_hi_takeBack 0 = .ok (.aload_n 0, 1) := by decide +kernel
theorem d_hi_takeBack_1 : decode b_hi_takeBack 1 = .ok (.iconst 0, 1) := by decide +kernel
theorem d_hi_takeBack_2 : decode b_hi_takeBack 2 = .ok (.aload_n 0, 1) := by decide +kernel
theorem d_hi_takeBack_3 : decode b_hi_takeBack 3 = .ok (.getfield 22, 3) := by decide +kernel
theorem d_hi_takeBack_6 : decode b_hi_takeBack 6 = .ok (.iconst 1, 1) := by decide +kernel
theorem d_hi_takeBack_7 : decode b_hi_takeBack 7 = .ok (.isub, 1) := by decide +kernel
theorem d_hi_takeBack_8 : decode b_hi_takeBack 8 = .ok (.invokestatic 35, 3) := by decide +kernel
theorem d_hi_takeBack_11 : decode b_hi_takeBack 11 = .ok (.putfield 22, 3) := by decide +kernel
theorem d_hi_takeBack_14 : decode b_hi_takeBack 14 = .ok (.aload_n 1, 1) := by decide +kernel
theorem d_hi_takeBack_15 : decode b_hi_takeBack 15 = .ok (.aload_n 0, 1) := by decide +kernel
theorem d_hi_takeBack_16 : decode b_hi_takeBack 16 = .ok (.getfield 11, 3) := by decide +kernel
theorem d_hi_takeBack_19 : decode b_hi_takeBack 19 = .ok (.aload_n 0, 1) := by decide +kernel
theorem d_hi_takeBack_20 : decode b_hi_takeBack 20 = .ok (.getfield 18, 3) := by decide +kernel
theorem d_hi_takeBack_23 : decode b_hi_takeBack 23 = .ok (.aload_n 0, 1) := by decide +kernel
theorem d_hi_takeBack_24 : decode b_hi_takeBack 24 = .ok (.getfield 22, 3) := by decide +kernel
theorem d_hi_takeBack_27 : decode b_hi_takeBack 27 = .ok (.iadd, 1) := by decide +kernel
theorem d_hi_takeBack_28 : decode b_hi_takeBack 28 = .ok (.iconst 5, 1) := by decide +kernel
theorem d_hi_takeBack_29 : decode b_hi_takeBack 29 = .ok (.invokestatic 25, 3) := by decide +kernel
theorem d_hi_takeBack_32 : decode b_hi_takeBack 32 = .ok (.aaload, 1) := by decide +kernel
theorem d_hi_takeBack_33 : decode b_hi_takeBack 33 = .ok (.invokevirtual 31, 3) := by decide +kernel
theorem d_hi_takeBack_36 : decode b_hi_takeBack 36 = .ok (.return_, 1) := by decide +kernel
theorem d_lk_init_0 : decode b_lk_init 0 = .ok (.aload_n 0, 1) := by decide +kernel
theorem d_lk_init_1 : decode b_lk_init 1 = .ok (.invokespecial 3, 3) := by decide +kernel
theorem d_lk_init_4 : decode b_lk_init 4 = .ok (.aload_n 0, 1) := by decide +kernel
theorem d_lk_init_5 : decode b_lk_init 5 = .ok (.iconst 1, 1) := by decide +kernel
theorem d_lk_init_6 : decode b_lk_init 6 = .ok (.putfield 9, 3) := by decide +kernel
theorem d_lk_init_9 : decode b_lk_init 9 = .ok (.aload_n 0, 1) := by decide +kernel
theorem d_lk_init_10 : decode b_lk_init 10 = .ok (.bipush (-9), 2) := by decide +kernel
theorem d_lk_init_12 : decode b_lk_init 12 = .ok (.putfield 15, 3) := by decide +kernel
theorem d_lk_init_15 : decode b_lk_init 15 = .ok (.aload_n 0, 1) := by decide +kernel
theorem d_lk_init_16 : decode b_lk_init 16 = .ok (.sipush 500, 3) := by decide +kernel
theorem d_lk_init_19 : decode b_lk_init 19 = .ok (.putfield 19, 3) := by decide +kernel
theorem d_lk_init_22 : decode b_lk_init 22 = .ok (.return_, 1) := by decide +kernel
theorem d_lk_become_0 : decode b_lk_become 0 = .ok (.aload_n 0, 1) := by decide +kernel
theorem d_lk_become_1 : decode b_lk_become 1 = .ok (.aload_n 1, 1) := by decide +kernel
theorem d_lk_become_2 : decode b_lk_become 2 = .ok (.getfield 9, 3) := by decide +kernel
theorem d_lk_become_5 : decode b_lk_become 5 = .ok (.putfield 9, 3) := by decide +kernel
theorem d_lk_become_8 : decode b_lk_become 8 = .ok (.aload_n 0, 1) := by decide +kernel
theorem d_lk_become_9 : decode b_lk_become 9 = .ok (.aload_n 1, 1) := by decide +kernel
theorem d_lk_become_10 : decode b_lk_become 10 = .ok (.getfield 15, 3) := by decide +kernel
theorem d_lk_become_13 : decode b_lk_become 13 = .ok (.putfield 15, 3) := by decide +kernel
theorem d_lk_become_16 : decode b_lk_become 16 = .ok (.aload_n 0, 1) := by decide +kernel
theorem d_lk_become_17 : decode b_lk_become 17 = .ok (.aload_n 1, 1) := by decide +kernel
theorem d_lk_become_18 : decode b_lk_become 18 = .ok (.getfield 22, 3) := by decide +kernel
theorem d_lk_become_21 : decode b_lk_become 21 = .ok (.putfield 22, 3) := by decide +kernel
theorem d_lk_become_24 : decode b_lk_become 24 = .ok (.aload_n 0, 1) := by decide +kernel
theorem d_lk_become_25 : decode b_lk_become 25 = .ok (.aload_n 1, 1) := by decide +kernel
theorem d_lk_become_26 : decode b_lk_become 26 = .ok (.getfield 25, 3) := by decide +kernel
theorem d_lk_become_29 : decode b_lk_become 29 = .ok (.putfield 25, 3) := by decide +kernel
theorem d_lk_become_32 : decode b_lk_become 32 = .ok (.aload_n 0, 1) := by decide +kernel
theorem d_lk_become_33 : decode b_lk_become 33 = .ok (.aload_n 1, 1) := by decide +kernel
theorem d_lk_become_34 : decode b_lk_become 34 = .ok (.getfield 28, 3) := by decide +kernel
theorem d_lk_become_37 : decode b_lk_become 37 = .ok (.putfield 28, 3) := by decide +kernel
theorem d_lk_become_40 : decode b_lk_become 40 = .ok (.aload_n 0, 1) := by decide +kernel
theorem d_lk_become_41 : decode b_lk_become 41 = .ok (.aload_n 1, 1) := by decide +kernel
theorem d_lk_become_42 : decode b_lk_become 42 = .ok (.getfield 31, 3) := by decide +kernel
theorem d_lk_become_45 : decode b_lk_become 45 = .ok (.putfield 31, 3) := by decide +kernel
theorem d_lk_become_48 : decode b_lk_become 48 = .ok (.aload_n 0, 1) := by decide +kernel
theorem d_lk_become_49 : decode b_lk_become 49 = .ok (.aload_n 1, 1) := by decide +kernel
theorem d_lk_become_50 : decode b_lk_become 50 = .ok (.getfield 34, 3) := by decide +kernel
theorem d_lk_become_53 : decode b_lk_become 53 = .ok (.putfield 34, 3) := by decide +kernel
theorem d_lk_become_56 : decode b_lk_become 56 = .ok (.aload_n 0, 1) := by decide +kernel
theorem d_lk_become_57 : decode b_lk_become 57 = .ok (.aload_n 1, 1) := by decide +kernel
theorem d_lk_become_58 : decode b_lk_become 58 = .ok (.getfield 19, 3) := by decide +kernel
theorem d_lk_become_61 : decode b_lk_become 61 = .ok (.putfield 19, 3) := by decide +kernel
theorem d_lk_become_64 : decode b_lk_become 64 = .ok (.return_, 1) := by decide +kernel
theorem d_lk_isEstimated_0 : decode b_lk_isEstimated 0 = .ok (.aload_n 0, 1) := by decide +kernel
theorem d_lk_isEstimated_1 : decode b_lk_isEstimated 1 = .ok (.getfield 15, 3) := by decide +kernel
theorem d_lk_isEstimated_4 : decode b_lk_isEstimated 4 = .ok (.bipush (-9), 2) := by decide +kernel
theorem d_lk_isEstimated_6 : decode b_lk_isEstimated 6 = .ok (.if_icmp .eq 7, 3) := by decide +kernel
theorem d_lk_isEstimated_9 : decode b_lk_isEstimated 9 = .ok (.iconst 1, 1) := by decide +kernel
theorem d_lk_isEstimated_10 : decode b_lk_isEstimated 10 = .ok (.goto 4, 3) := by decide +kernel
theorem d_lk_isEstimated_13 : decode b_lk_isEstimated 13 = .ok (.iconst 0, 1) := by decide +kernel
theorem d_lk_isEstimated_14 : decode b_lk_isEstimated 14 = .ok (.ireturn, 1) := by decide +kernel
theorem d_lk_estimateOrZero_0 : decode b_lk_estimateOrZero 0 = .ok (.aload_n 0, 1) := by decide +kernel
theorem d_lk_estimateOrZero_1 : decode b_lk_estimateOrZero 1 = .ok (.getfield 15, 3) := by decide +kernel
theorem d_lk_estimateOrZero_4 : decode b_lk_estimateOrZero 4 = .ok (.bipush (-9), 2) := by decide +kernel
theorem d_lk_estimateOrZero_6 : decode b_lk_estimateOrZero 6 = .ok (.if_icmp .ne 7, 3) := by decide +kernel
theorem d_lk_estimateOrZero_9 : decode b_lk_estimateOrZero 9 = .ok (.iconst 0, 1) := by decide +kernel
theorem d_lk_estimateOrZero_10 : decode b_lk_estimateOrZero 10 = .ok (.goto 7, 3) := by decide +kernel
theorem d_lk_estimateOrZero_13 : decode b_lk_estimateOrZero 13 = .ok (.aload_n 0, 1) := by decide +kernel
theorem d_lk_estimateOrZero_14 : decode b_lk_estimateOrZero 14 = .ok (.getfield 15, 3) := by decide +kernel
theorem d_lk_estimateOrZero_17 : decode b_lk_estimateOrZero 17 = .ok (.ireturn, 1) := by decide +kernel
theorem d_lk_value_0 : decode b_lk_value 0 = .ok (.aload_n 0, 1) := by decide +kernel
theorem d_lk_value_1 : decode b_lk_value 1 = .ok (.getfield 15, 3) := by decide +kernel
theorem d_lk_value_4 : decode b_lk_value 4 = .ok (.sipush 6554, 3) := by decide +kernel
theorem d_lk_value_7 : decode b_lk_value 7 = .ok (.if_icmp .lt 8, 3) := by decide +kernel
theorem d_lk_value_10 : decode b_lk_value 10 = .ok (.iload_n 1, 1) := by decide +kernel
theorem d_lk_value_11 : decode b_lk_value 11 = .ok (.iconst 1, 1) := by decide +kernel
theorem d_lk_value_12 : decode b_lk_value 12 = .ok (.if_icmp .ge 5, 3) := by decide +kernel
theorem d_lk_value_15 : decode b_lk_value 15 = .ok (.iconst 0, 1) := by decide +kernel
theorem d_lk_value_16 : decode b_lk_value 16 = .ok (.ireturn, 1) := by decide +kernel
theorem d_lk_value_17 : decode b_lk_value 17 = .ok (.aload_n 0, 1) := by decide +kernel
theorem d_lk_value_18 : decode b_lk_value 18 = .ok (.getfield 15, 3) := by decide +kernel
theorem d_lk_value_21 : decode b_lk_value 21 = .ok (.ldc 37, 2) := by decide +kernel
theorem d_lk_value_23 : decode b_lk_value 23 = .ok (.if_icmp .le 8, 3) := by decide +kernel
theorem d_lk_value_26 : decode b_lk_value 26 = .ok (.ldc 37, 2) := by decide +kernel
theorem d_lk_value_28 : decode b_lk_value 28 = .ok (.goto 7, 3) := by decide +kernel
theorem d_lk_value_31 : decode b_lk_value 31 = .ok (.aload_n 0, 1) := by decide +kernel
theorem d_lk_value_32 : decode b_lk_value 32 = .ok (.getfield 15, 3) := by decide +kernel
theorem d_lk_value_35 : decode b_lk_value 35 = .ok (.istore_n 2, 1) := by decide +kernel
theorem d_lk_value_36 : decode b_lk_value 36 = .ok (.iload_n 2, 1) := by decide +kernel
theorem d_lk_value_37 : decode b_lk_value 37 = .ok (.sipush 9600, 3) := by decide +kernel
theorem d_lk_value_40 : decode b_lk_value 40 = .ok (.imul, 1) := by decide +kernel
theorem d_lk_value_41 : decode b_lk_value 41 = .ok (.iload_n 1, 1) := by decide +kernel
theorem d_lk_value_42 : decode b_lk_value 42 = .ok (.idiv, 1) := by decide +kernel
theorem d_lk_value_43 : decode b_lk_value 43 = .ok (.ireturn, 1) := by decide +kernel
theorem d_lk_sample_0 : decode b_lk_sample 0 = .ok (.aload_n 0, 1) := by decide +kernel
theorem d_lk_sample_1 : decode b_lk_sample 1 = .ok (.getfield 25, 3) := by decide +kernel
theorem d_lk_sample_4 : decode b_lk_sample 4 = .ok (.iconst 1, 1) := by decide +kernel
theorem d_lk_sample_5 : decode b_lk_sample 5 = .ok (.if_icmp .ge 7, 3) := by decide +kernel
theorem d_lk_sample_8 : decode b_lk_sample 8 = .ok (.iconst 0, 1) := by decide +kernel
theorem d_lk_sample_9 : decode b_lk_sample 9 = .ok (.goto 19, 3) := by decide +kernel
theorem d_lk_sample_12 : decode b_lk_sample 12 = .ok (.aload_n 0, 1) := by decide +kernel
theorem d_lk_sample_13 : decode b_lk_sample 13 = .ok (.getfield 28, 3) := by decide +kernel
theorem d_lk_sample_16 : decode b_lk_sample 16 = .ok (.i2l, 1) := by decide +kernel
theorem d_lk_sample_17 : decode b_lk_sample 17 = .ok (.ldc2_w 38, 3) := by decide +kernel
theorem d_lk_sample_20 : decode b_lk_sample 20 = .ok (.lmul, 1) := by decide +kernel
theorem d_lk_sample_21 : decode b_lk_sample 21 = .ok (.aload_n 0, 1) := by decide +kernel
theorem d_lk_sample_22 : decode b_lk_sample 22 = .ok (.getfield 25, 3) := by decide +kernel
theorem d_lk_sample_25 : decode b_lk_sample 25 = .ok (.i2l, 1) := by decide +kernel
theorem d_lk_sample_26 : decode b_lk_sample 26 = .ok (.ldiv, 1) := by decide +kernel
theorem d_lk_sample_27 : decode b_lk_sample 27 = .ok (.l2i, 1) := by decide +kernel
theorem d_lk_sample_28 : decode b_lk_sample 28 = .ok (.ireturn, 1) := by decide +kernel
theorem d_lk_swing_0 : decode b_lk_swing 0 = .ok (.iload_n 1, 1) := by decide +kernel
theorem d_lk_swing_1 : decode b_lk_swing 1 = .ok (.aload_n 0, 1) := by decide +kernel
theorem d_lk_swing_2 : decode b_lk_swing 2 = .ok (.getfield 15, 3) := by decide +kernel
theorem d_lk_swing_5 : decode b_lk_swing 5 = .ok (.isub, 1) := by decide +kernel
theorem d_lk_swing_6 : decode b_lk_swing 6 = .ok (.sipush 19661, 3) := by decide +kernel
theorem d_lk_swing_9 : decode b_lk_swing 9 = .ok (.if_icmp .lt 5, 3) := by decide +kernel
theorem d_lk_swing_12 : decode b_lk_swing 12 = .ok (.iconst 1, 1) := by decide +kernel
theorem d_lk_swing_13 : decode b_lk_swing 13 = .ok (.ireturn, 1) := by decide +kernel
theorem d_lk_swing_14 : decode b_lk_swing 14 = .ok (.iload_n 1, 1) := by decide +kernel
theorem d_lk_swing_15 : decode b_lk_swing 15 = .ok (.aload_n 0, 1) := by decide +kernel
theorem d_lk_swing_16 : decode b_lk_swing 16 = .ok (.getfield 15, 3) := by decide +kernel
theorem d_lk_swing_19 : decode b_lk_swing 19 = .ok (.isub, 1) := by decide +kernel
theorem d_lk_swing_20 : decode b_lk_swing 20 = .ok (.sipush (-19661), 3) := by decide +kernel
theorem d_lk_swing_23 : decode b_lk_swing 23 = .ok (.if_icmp .gt 7, 3) := by decide +kernel
theorem d_lk_swing_26 : decode b_lk_swing 26 = .ok (.iconst (-1), 1) := by decide +kernel
theorem d_lk_swing_27 : decode b_lk_swing 27 = .ok (.goto 4, 3) := by decide +kernel
theorem d_lk_swing_30 : decode b_lk_swing 30 = .ok (.iconst 0, 1) := by decide +kernel
theorem d_lk_swing_31 : decode b_lk_swing 31 = .ok (.ireturn, 1) := by decide +kernel
theorem d_lk_count_0 : decode b_lk_count 0 = .ok (.aload_n 0, 1) := by decide +kernel
theorem d_lk_count_1 : decode b_lk_count 1 = .ok (.dup, 1) := by decide +kernel
theorem d_lk_count_2 : decode b_lk_count 2 = .ok (.getfield 25, 3) := by decide +kernel
theorem d_lk_count_5 : decode b_lk_count 5 = .ok (.iload_n 1, 1) := by decide +kernel
theorem d_lk_count_6 : decode b_lk_count 6 = .ok (.iadd, 1) := by decide +kernel
theorem d_lk_count_7 : decode b_lk_count 7 = .ok (.putfield 25, 3) := by decide +kernel
theorem d_lk_count_10 : decode b_lk_count 10 = .ok (.aload_n 0, 1) := by decide +kernel
theorem d_lk_count_11 : decode b_lk_count 11 = .ok (.dup, 1) := by decide +kernel
theorem d_lk_count_12 : decode b_lk_count 12 = .ok (.getfield 31, 3) := by decide +kernel
theorem d_lk_count_15 : decode b_lk_count 15 = .ok (.iload_n 1, 1) := by decide +kernel
theorem d_lk_count_16 : decode b_lk_count 16 = .ok (.iadd, 1) := by decide +kernel
theorem d_lk_count_17 : decode b_lk_count 17 = .ok (.putfield 31, 3) := by decide +kernel
theorem d_lk_count_20 : decode b_lk_count 20 = .ok (.iload_n 2, 1) := by decide +kernel
theorem d_lk_count_21 : decode b_lk_count 21 = .ok (.ifCond .eq 23, 3) := by decide +kernel
theorem d_lk_count_24 : decode b_lk_count 24 = .ok (.aload_n 0, 1) := by decide +kernel
theorem d_lk_count_25 : decode b_lk_count 25 = .ok (.dup, 1) := by decide +kernel
theorem d_lk_count_26 : decode b_lk_count 26 = .ok (.getfield 28, 3) := by decide +kernel
theorem d_lk_count_29 : decode b_lk_count 29 = .ok (.iconst 1, 1) := by decide +kernel
theorem d_lk_count_30 : decode b_lk_count 30 = .ok (.iadd, 1) := by decide +kernel
theorem d_lk_count_31 : decode b_lk_count 31 = .ok (.putfield 28, 3) := by decide +kernel
theorem d_lk_count_34 : decode b_lk_count 34 = .ok (.aload_n 0, 1) := by decide +kernel
theorem d_lk_count_35 : decode b_lk_count 35 = .ok (.dup, 1) := by decide +kernel
theorem d_lk_count_36 : decode b_lk_count 36 = .ok (.getfield 34, 3) := by decide +kernel
theorem d_lk_count_39 : decode b_lk_count 39 = .ok (.iconst 1, 1) := by decide +kernel
theorem d_lk_count_40 : decode b_lk_count 40 = .ok (.iadd, 1) := by decide +kernel
theorem d_lk_count_41 : decode b_lk_count 41 = .ok (.putfield 34, 3) := by decide +kernel
theorem d_lk_count_44 : decode b_lk_count 44 = .ok (.return_, 1) := by decide +kernel
theorem d_lk_startFrom_0 : decode b_lk_startFrom 0 = .ok (.aload_n 0, 1) := by decide +kernel
theorem d_lk_startFrom_1 : decode b_lk_startFrom 1 = .ok (.iload_n 1, 1) := by decide +kernel
theorem d_lk_startFrom_2 : decode b_lk_startFrom 2 = .ok (.putfield 15, 3) := by decide +kernel
theorem d_lk_startFrom_5 : decode b_lk_startFrom 5 = .ok (.aload_n 0, 1) := by decide +kernel
theorem d_lk_startFrom_6 : decode b_lk_startFrom 6 = .ok (.iconst 0, 1) := by decide +kernel
theorem d_lk_startFrom_7 : decode b_lk_startFrom 7 = .ok (.putfield 22, 3) := by decide +kernel
theorem d_lk_startFrom_10 : decode b_lk_startFrom 10 = .ok (.return_, 1) := by decide +kernel
theorem d_lk_learn_0 : decode b_lk_learn 0 = .ok (.aload_n 0, 1) := by decide +kernel
theorem d_lk_learn_1 : decode b_lk_learn 1 = .ok (.invokevirtual 40, 3) := by decide +kernel
theorem d_lk_learn_4 : decode b_lk_learn 4 = .ok (.istore_n 2, 1) := by decide +kernel
theorem d_lk_learn_5 : decode b_lk_learn 5 = .ok (.aload_n 0, 1) := by decide +kernel
theorem d_lk_learn_6 : decode b_lk_learn 6 = .ok (.invokevirtual 44, 3) := by decide +kernel
theorem d_lk_learn_9 : decode b_lk_learn 9 = .ok (.ifCond .ne 10, 3) := by decide +kernel
theorem d_lk_learn_12 : decode b_lk_learn 12 = .ok (.aload_n 0, 1) := by decide +kernel
theorem d_lk_learn_13 : decode b_lk_learn 13 = .ok (.iload_n 2, 1) := by decide +kernel
theorem d_lk_learn_14 : decode b_lk_learn 14 = .ok (.invokevirtual 48, 3) := by decide +kernel
theorem d_lk_learn_17 : decode b_lk_learn 17 = .ok (.iconst 0, 1) := by decide +kernel
theorem d_lk_learn_18 : decode b_lk_learn 18 = .ok (.ireturn, 1) := by decide +kernel
theorem d_lk_learn_19 : decode b_lk_learn 19 = .ok (.aload_n 0, 1) := by decide +kernel
theorem d_lk_learn_20 : decode b_lk_learn 20 = .ok (.iload_n 2, 1) := by decide +kernel
theorem d_lk_learn_21 : decode b_lk_learn 21 = .ok (.invokevirtual 52, 3) := by decide +kernel
theorem d_lk_learn_24 : decode b_lk_learn 24 = .ok (.istore_n 3, 1) := by decide +kernel
theorem d_lk_learn_25 : decode b_lk_learn 25 = .ok (.iload_n 3, 1) := by decide +kernel
theorem d_lk_learn_26 : decode b_lk_learn 26 = .ok (.ifCond .eq 18, 3) := by decide +kernel
theorem d_lk_learn_29 : decode b_lk_learn 29 = .ok (.iload_n 3, 1) := by decide +kernel
theorem d_lk_learn_30 : decode b_lk_learn 30 = .ok (.aload_n 0, 1) := by decide +kernel
theorem d_lk_learn_31 : decode b_lk_learn 31 = .ok (.getfield 22, 3) := by decide +kernel
theorem d_lk_learn_34 : decode b_lk_learn 34 = .ok (.if_icmp .ne 10, 3) := by decide +kernel
theorem d_lk_learn_37 : decode b_lk_learn 37 = .ok (.aload_n 0, 1) := by decide +kernel
theorem d_lk_learn_38 : decode b_lk_learn 38 = .ok (.iload_n 2, 1) := by decide +kernel
theorem d_lk_learn_39 : decode b_lk_learn 39 = .ok (.invokevirtual 48, 3) := by decide +kernel
theorem d_lk_learn_42 : decode b_lk_learn 42 = .ok (.iconst 1, 1) := by decide +kernel
theorem d_lk_learn_43 : decode b_lk_learn 43 = .ok (.ireturn, 1) := by decide +kernel
theorem d_lk_learn_44 : decode b_lk_learn 44 = .ok (.aload_n 0, 1) := by decide +kernel
theorem d_lk_learn_45 : decode b_lk_learn 45 = .ok (.aload_n 0, 1) := by decide +kernel
theorem d_lk_learn_46 : decode b_lk_learn 46 = .ok (.getfield 15, 3) := by decide +kernel
theorem d_lk_learn_49 : decode b_lk_learn 49 = .ok (.bipush 100, 2) := by decide +kernel
theorem d_lk_learn_51 : decode b_lk_learn 51 = .ok (.iload_n 1, 1) := by decide +kernel
theorem d_lk_learn_52 : decode b_lk_learn 52 = .ok (.isub, 1) := by decide +kernel
theorem d_lk_learn_53 : decode b_lk_learn 53 = .ok (.imul, 1) := by decide +kernel
theorem d_lk_learn_54 : decode b_lk_learn 54 = .ok (.iload_n 2, 1) := by decide +kernel
theorem d_lk_learn_55 : decode b_lk_learn 55 = .ok (.iload_n 1, 1) := by decide +kernel
theorem d_lk_learn_56 : decode b_lk_learn 56 = .ok (.imul, 1) := by decide +kernel
theorem d_lk_learn_57 : decode b_lk_learn 57 = .ok (.iadd, 1) := by decide +kernel
theorem d_lk_learn_58 : decode b_lk_learn 58 = .ok (.bipush 100, 2) := by decide +kernel
theorem d_lk_learn_60 : decode b_lk_learn 60 = .ok (.idiv, 1) := by decide +kernel
theorem d_lk_learn_61 : decode b_lk_learn 61 = .ok (.putfield 15, 3) := by decide +kernel
theorem d_lk_learn_64 : decode b_lk_learn 64 = .ok (.aload_n 0, 1) := by decide +kernel
theorem d_lk_learn_65 : decode b_lk_learn 65 = .ok (.iload_n 3, 1) := by decide +kernel
theorem d_lk_learn_66 : decode b_lk_learn 66 = .ok (.putfield 22, 3) := by decide +kernel
theorem d_lk_learn_69 : decode b_lk_learn 69 = .ok (.iconst 0, 1) := by decide +kernel
theorem d_lk_learn_70 : decode b_lk_learn 70 = .ok (.ireturn, 1) := by decide +kernel
theorem d_nt_init_0 : decode b_nt_init 0 = .ok (.aload_n 0, 1) := by decide +kernel
theorem d_nt_init_1 : decode b_nt_init 1 = .ok (.invokespecial 3, 3) := by decide +kernel
theorem d_nt_init_4 : decode b_nt_init 4 = .ok (.aload_n 0, 1) := by decide +kernel
theorem d_nt_init_5 : decode b_nt_init 5 = .ok (.new 9, 3) := by decide +kernel
theorem d_nt_init_8 : decode b_nt_init 8 = .ok (.dup, 1) := by decide +kernel
theorem d_nt_init_9 : decode b_nt_init 9 = .ok (.invokespecial 11, 3) := by decide +kernel
theorem d_nt_init_12 : decode b_nt_init 12 = .ok (.putfield 12, 3) := by decide +kernel
theorem d_nt_init_15 : decode b_nt_init 15 = .ok (.aload_n 0, 1) := by decide +kernel
theorem d_nt_init_16 : decode b_nt_init 16 = .ok (.iconst 4, 1) := by decide +kernel
theorem d_nt_init_17 : decode b_nt_init 17 = .ok (.anewarray 18, 3) := by decide +kernel
theorem d_nt_init_20 : decode b_nt_init 20 = .ok (.putfield 20, 3) := by decide +kernel
theorem d_nt_init_23 : decode b_nt_init 23 = .ok (.aload_n 0, 1) := by decide +kernel
theorem d_nt_init_24 : decode b_nt_init 24 = .ok (.bipush 6, 2) := by decide +kernel
theorem d_nt_init_26 : decode b_nt_init 26 = .ok (.anewarray 24, 3) := by decide +kernel
theorem d_nt_init_29 : decode b_nt_init 29 = .ok (.putfield 26, 3) := by decide +kernel
theorem d_nt_init_32 : decode b_nt_init 32 = .ok (.aload_n 0, 1) := by decide +kernel
theorem d_nt_init_33 : decode b_nt_init 33 = .ok (.new 30, 3) := by decide +kernel
theorem d_nt_init_36 : decode b_nt_init 36 = .ok (.dup, 1) := by decide +kernel
theorem d_nt_init_37 : decode b_nt_init 37 = .ok (.invokespecial 32, 3) := by decide +kernel
theorem d_nt_init_40 : decode b_nt_init 40 = .ok (.putfield 33, 3) := by decide +kernel
theorem d_nt_init_43 : decode b_nt_init 43 = .ok (.aload_n 0, 1) := by decide +kernel
theorem d_nt_init_44 : decode b_nt_init 44 = .ok (.bipush 10, 2) := by decide +kernel
theorem d_nt_init_46 : decode b_nt_init 46 = .ok (.putfield 37, 3) := by decide +kernel
theorem d_nt_init_49 : decode b_nt_init 49 = .ok (.aload_n 0, 1) := by decide +kernel
theorem d_nt_init_50 : decode b_nt_init 50 = .ok (.bipush 25, 2) := by decide +kernel
theorem d_nt_init_52 : decode b_nt_init 52 = .ok (.putfield 41, 3) := by decide +kernel
theorem d_nt_init_55 : decode b_nt_init 55 = .ok (.aload_n 0, 1) := by decide +kernel
theorem d_nt_init_56 : decode b_nt_init 56 = .ok (.ldc 44, 2) := by decide +kernel
theorem d_nt_init_58 : decode b_nt_init 58 = .ok (.putfield 45, 3) := by decide +kernel
theorem d_nt_init_61 : decode b_nt_init 61 = .ok (.aload_n 0, 1) := by decide +kernel
theorem d_nt_init_62 : decode b_nt_init 62 = .ok (.sipush 6000, 3) := by decide +kernel
theorem d_nt_init_65 : decode b_nt_init 65 = .ok (.putfield 48, 3) := by decide +kernel
theorem d_nt_init_68 : decode b_nt_init 68 = .ok (.iconst 0, 1) := by decide +kernel
theorem d_nt_init_69 : decode b_nt_init 69 = .ok (.istore_n 1, 1) := by decide +kernel
theorem d_nt_init_70 : decode b_nt_init 70 = .ok (.iload_n 1, 1) := by decide +kernel
theorem d_nt_init_71 : decode b_nt_init 71 = .ok (.iconst 4, 1) := by decide +kernel
theorem d_nt_init_72 : decode b_nt_init 72 = .ok (.if_icmp .ge 23, 3) := by decide +kernel
theorem d_nt_init_75 : decode b_nt_init 75 = .ok (.aload_n 0, 1) := by decide +kernel
theorem d_nt_init_76 : decode b_nt_init 76 = .ok (.getfield 20, 3) := by decide +kernel
theorem d_nt_init_79 : decode b_nt_init 79 = .ok (.iload_n 1, 1) := by decide +kernel
theorem d_nt_init_80 : decode b_nt_init 80 = .ok (.new 18, 3) := by decide +kernel
theorem d_nt_init_83 : decode b_nt_init 83 = .ok (.dup, 1) := by decide +kernel
theorem d_nt_init_84 : decode b_nt_init 84 = .ok (.iload_n 1, 1) := by decide +kernel
theorem d_nt_init_85 : decode b_nt_init 85 = .ok (.invokespecial 51, 3) := by decide +kernel
theorem d_nt_init_88 : decode b_nt_init 88 = .ok (.aastore, 1) := by decide +kernel
theorem d_nt_init_89 : decode b_nt_init 89 = .ok (.iinc 1 1, 3) := by decide +kernel
theorem d_nt_init_92 : decode b_nt_init 92 = .ok (.goto (-22), 3) := by decide +kernel
theorem d_nt_init_95 : decode b_nt_init 95 = .ok (.iconst 0, 1) := by decide +kernel
theorem d_nt_init_96 : decode b_nt_init 96 = .ok (.istore_n 1, 1) := by decide +kernel
theorem d_nt_init_97 : decode b_nt_init 97 = .ok (.iload_n 1, 1) := by decide +kernel
theorem d_nt_init_98 : decode b_nt_init 98 = .ok (.bipush 6, 2) := by decide +kernel
theorem d_nt_init_100 : decode b_nt_init 100 = .ok (.if_icmp .ge 22, 3) := by decide +kernel
theorem d_nt_init_103 : decode b_nt_init 103 = .ok (.aload_n 0, 1) := by decide +kernel
theorem d_nt_init_104 : decode b_nt_init 104 = .ok (.getfield 26, 3) := by decide +kernel
theorem d_nt_init_107 : decode b_nt_init 107 = .ok (.iload_n 1, 1) := by decide +kernel
theorem d_nt_init_108 : decode b_nt_init 108 = .ok (.new 24, 3) := by decide +kernel
theorem d_nt_init_111 : decode b_nt_init 111 = .ok (.dup, 1) := by decide +kernel
theorem d_nt_init_112 : decode b_nt_init 112 = .ok (.invokespecial 54, 3) := by decide +kernel
theorem d_nt_init_115 : decode b_nt_init 115 = .ok (.aastore, 1) := by decide +kernel
theorem d_nt_init_116 : decode b_nt_init 116 = .ok (.iinc 1 1, 3) := by decide +kernel
theorem d_nt_init_119 : decode b_nt_init 119 = .ok (.goto (-22), 3) := by decide +kernel
theorem d_nt_init_122 : decode b_nt_init 122 = .ok (.return_, 1) := by decide +kernel
theorem d_nt_become_0 : decode b_nt_become 0 = .ok (.aload_n 0, 1) := by decide +kernel
theorem d_nt_become_1 : decode b_nt_become 1 = .ok (.getfield 12, 3) := by decide +kernel
theorem d_nt_become_4 : decode b_nt_become 4 = .ok (.aload_n 1, 1) := by decide +kernel
theorem d_nt_become_5 : decode b_nt_become 5 = .ok (.getfield 12, 3) := by decide +kernel
theorem d_nt_become_8 : decode b_nt_become 8 = .ok (.invokevirtual 55, 3) := by decide +kernel
theorem d_nt_become_11 : decode b_nt_become 11 = .ok (.iconst 0, 1) := by decide +kernel
theorem d_nt_become_12 : decode b_nt_become 12 = .ok (.istore_n 2, 1) := by decide +kernel
theorem d_nt_become_13 : decode b_nt_become 13 = .ok (.iload_n 2, 1) := by decide +kernel
theorem d_nt_become_14 : decode b_nt_become 14 = .ok (.iconst 4, 1) := by decide +kernel
theorem d_nt_become_15 : decode b_nt_become 15 = .ok (.if_icmp .ge 24, 3) := by decide +kernel
theorem d_nt_become_18 : decode b_nt_become 18 = .ok (.aload_n 0, 1) := by decide +kernel
theorem d_nt_become_19 : decode b_nt_become 19 = .ok (.getfield 20, 3) := by decide +kernel
theorem d_nt_become_22 : decode b_nt_become 22 = .ok (.iload_n 2, 1) := by decide +kernel
theorem d_nt_become_23 : decode b_nt_become 23 = .ok (.aaload, 1) := by decide +kernel
theorem d_nt_become_24 : decode b_nt_become 24 = .ok (.aload_n 1, 1) := by decide +kernel
theorem d_nt_become_25 : decode b_nt_become 25 = .ok (.getfield 20, 3) := by decide +kernel
theorem d_nt_become_28 : decode b_nt_become 28 = .ok (.iload_n 2, 1) := by decide +kernel
theorem d_nt_become_29 : decode b_nt_become 29 = .ok (.aaload, 1) := by decide +kernel
theorem d_nt_become_30 : decode b_nt_become 30 = .ok (.invokevirtual 59, 3) := by decide +kernel
theorem d_nt_become_33 : decode b_nt_become 33 = .ok (.iinc 2 1, 3) := by decide +kernel
theorem d_nt_become_36 : decode b_nt_become 36 = .ok (.goto (-23), 3) := by decide +kernel
theorem d_nt_become_39 : decode b_nt_become 39 = .ok (.iconst 0, 1) := by decide +kernel
theorem d_nt_become_40 : decode b_nt_become 40 = .ok (.istore_n 2, 1) := by decide +kernel
theorem d_nt_become_41 : decode b_nt_become 41 = .ok (.iload_n 2, 1) := by decide +kernel
theorem d_nt_become_42 : decode b_nt_become 42 = .ok (.bipush 6, 2) := by decide +kernel
theorem d_nt_become_44 : decode b_nt_become 44 = .ok (.if_icmp .ge 24, 3) := by decide +kernel
theorem d_nt_become_47 : decode b_nt_become 47 = .ok (.aload_n 0, 1) := by decide +kernel
theorem d_nt_become_48 : decode b_nt_become 48 = .ok (.getfield 26, 3) := by decide +kernel
theorem d_nt_become_51 : decode b_nt_become 51 = .ok (.iload_n 2, 1) := by decide +kernel
theorem d_nt_become_52 : decode b_nt_become 52 = .ok (.aaload, 1) := by decide +kernel
theorem d_nt_become_53 : decode b_nt_become 53 = .ok (.aload_n 1, 1) := by decide +kernel
theorem d_nt_become_54 : decode b_nt_become 54 = .ok (.getfield 26, 3) := by decide +kernel
theorem d_nt_become_57 : decode b_nt_become 57 = .ok (.iload_n 2, 1) := by decide +kernel
theorem d_nt_become_58 : decode b_nt_become 58 = .ok (.aaload, 1) := by decide +kernel
theorem d_nt_become_59 : decode b_nt_become 59 = .ok (.invokevirtual 62, 3) := by decide +kernel
theorem d_nt_become_62 : decode b_nt_become 62 = .ok (.iinc 2 1, 3) := by decide +kernel
theorem d_nt_become_65 : decode b_nt_become 65 = .ok (.goto (-24), 3) := by decide +kernel
theorem d_nt_become_68 : decode b_nt_become 68 = .ok (.aload_n 0, 1) := by decide +kernel
theorem d_nt_become_69 : decode b_nt_become 69 = .ok (.getfield 33, 3) := by decide +kernel
theorem d_nt_become_72 : decode b_nt_become 72 = .ok (.aload_n 1, 1) := by decide +kernel
theorem d_nt_become_73 : decode b_nt_become 73 = .ok (.getfield 33, 3) := by decide +kernel
theorem d_nt_become_76 : decode b_nt_become 76 = .ok (.invokevirtual 65, 3) := by decide +kernel
theorem d_nt_become_79 : decode b_nt_become 79 = .ok (.aload_n 0, 1) := by decide +kernel
theorem d_nt_become_80 : decode b_nt_become 80 = .ok (.aload_n 1, 1) := by decide +kernel
theorem d_nt_become_81 : decode b_nt_become 81 = .ok (.getfield 68, 3) := by decide +kernel
theorem d_nt_become_84 : decode b_nt_become 84 = .ok (.putfield 68, 3) := by decide +kernel
theorem d_nt_become_87 : decode b_nt_become 87 = .ok (.aload_n 0, 1) := by decide +kernel
theorem d_nt_become_88 : decode b_nt_become 88 = .ok (.aload_n 1, 1) := by decide +kernel
theorem d_nt_become_89 : decode b_nt_become 89 = .ok (.getfield 71, 3) := by decide +kernel
theorem d_nt_become_92 : decode b_nt_become 92 = .ok (.putfield 71, 3) := by decide +kernel
theorem d_nt_become_95 : decode b_nt_become 95 = .ok (.aload_n 0, 1) := by decide +kernel
theorem d_nt_become_96 : decode b_nt_become 96 = .ok (.aload_n 1, 1) := by decide +kernel
theorem d_nt_become_97 : decode b_nt_become 97 = .ok (.getfield 37, 3) := by decide +kernel
theorem d_nt_become_100 : decode b_nt_become 100 = .ok (.putfield 37, 3) := by decide +kernel
theorem d_nt_become_103 : decode b_nt_become 103 = .ok (.aload_n 0, 1) := by decide +kernel
theorem d_nt_become_104 : decode b_nt_become 104 = .ok (.aload_n 1, 1) := by decide +kernel
theorem d_nt_become_105 : decode b_nt_become 105 = .ok (.getfield 41, 3) := by decide +kernel
theorem d_nt_become_108 : decode b_nt_become 108 = .ok (.putfield 41, 3) := by decide +kernel
theorem d_nt_become_111 : decode b_nt_become 111 = .ok (.aload_n 0, 1) := by decide +kernel
theorem d_nt_become_112 : decode b_nt_become 112 = .ok (.aload_n 1, 1) := by decide +kernel
theorem d_nt_become_113 : decode b_nt_become 113 = .ok (.getfield 45, 3) := by decide +kernel
theorem d_nt_become_116 : decode b_nt_become 116 = .ok (.putfield 45, 3) := by decide +kernel
theorem d_nt_become_119 : decode b_nt_become 119 = .ok (.aload_n 0, 1) := by decide +kernel
theorem d_nt_become_120 : decode b_nt_become 120 = .ok (.aload_n 1, 1) := by decide +kernel
theorem d_nt_become_121 : decode b_nt_become 121 = .ok (.getfield 48, 3) := by decide +kernel
theorem d_nt_become_124 : decode b_nt_become 124 = .ok (.putfield 48, 3) := by decide +kernel
theorem d_nt_become_127 : decode b_nt_become 127 = .ok (.aload_n 0, 1) := by decide +kernel
theorem d_nt_become_128 : decode b_nt_become 128 = .ok (.aload_n 1, 1) := by decide +kernel
theorem d_nt_become_129 : decode b_nt_become 129 = .ok (.getfield 74, 3) := by decide +kernel
theorem d_nt_become_132 : decode b_nt_become 132 = .ok (.putfield 74, 3) := by decide +kernel
theorem d_nt_become_135 : decode b_nt_become 135 = .ok (.return_, 1) := by decide +kernel
theorem d_nt_stationAt_0 : decode b_nt_stationAt 0 = .ok (.iload_n 1, 1) := by decide +kernel
theorem d_nt_stationAt_1 : decode b_nt_stationAt 1 = .ok (.ifCond .lt 20, 3) := by decide +kernel
theorem d_nt_stationAt_4 : decode b_nt_stationAt 4 = .ok (.iload_n 1, 1) := by decide +kernel
theorem d_nt_stationAt_5 : decode b_nt_stationAt 5 = .ok (.aload_n 0, 1) := by decide +kernel
theorem d_nt_stationAt_6 : decode b_nt_stationAt 6 = .ok (.getfield 68, 3) := by decide +kernel
theorem d_nt_stationAt_9 : decode b_nt_stationAt 9 = .ok (.if_icmp .ge 12, 3) := by decide +kernel
theorem d_nt_stationAt_12 : decode b_nt_stationAt 12 = .ok (.iload_n 1, 1) := by decide +kernel
theorem d_nt_stationAt_13 : decode b_nt_stationAt 13 = .ok (.iconst 4, 1) := by decide +kernel
theorem d_nt_stationAt_14 : decode b_nt_stationAt 14 = .ok (.if_icmp .ge 7, 3) := by decide +kernel
theorem d_nt_stationAt_17 : decode b_nt_stationAt 17 = .ok (.iconst 1, 1) := by decide +kernel
theorem d_nt_stationAt_18 : decode b_nt_stationAt 18 = .ok (.goto 4, 3) := by decide +kernel
theorem d_nt_stationAt_21 : decode b_nt_stationAt 21 = .ok (.iconst 0, 1) := by decide +kernel
theorem d_nt_stationAt_22 : decode b_nt_stationAt 22 = .ok (.istore_n 2, 1) := by decide +kernel
theorem d_nt_stationAt_23 : decode b_nt_stationAt 23 = .ok (.iload_n 2, 1) := by decide +kernel
theorem d_nt_stationAt_24 : decode b_nt_stationAt 24 = .ok (.ifCond .eq 12, 3) := by decide +kernel
theorem d_nt_stationAt_27 : decode b_nt_stationAt 27 = .ok (.aload_n 0, 1) := by decide +kernel
theorem d_nt_stationAt_28 : decode b_nt_stationAt 28 = .ok (.getfield 20, 3) := by decide +kernel
theorem d_nt_stationAt_31 : decode b_nt_stationAt 31 = .ok (.iload_n 1, 1) := by decide +kernel
theorem d_nt_stationAt_32 : decode b_nt_stationAt 32 = .ok (.aaload, 1) := by decide +kernel
theorem d_nt_stationAt_33 : decode b_nt_stationAt 33 = .ok (.goto 4, 3) := by decide +kernel
theorem d_nt_stationAt_36 : decode b_nt_stationAt 36 = .ok (.aconst_null, 1) := by decide +kernel
theorem d_nt_stationAt_37 : decode b_nt_stationAt 37 = .ok (.areturn, 1) := by decide +kernel
theorem d_nt_linkAt_0 : decode b_nt_linkAt 0 = .ok (.aload_n 0, 1) := by decide +kernel
theorem d_nt_linkAt_1 : decode b_nt_linkAt 1 = .ok (.iload_n 1, 1) := by decide +kernel
theorem d_nt_linkAt_2 : decode b_nt_linkAt 2 = .ok (.invokevirtual 77, 3) := by decide +kernel
theorem d_nt_linkAt_5 : decode b_nt_linkAt 5 = .ok (.astore_n 3, 1) := by decide +kernel
theorem d_nt_linkAt_6 : decode b_nt_linkAt 6 = .ok (.aload_n 3, 1) := by decide +kernel
theorem d_nt_linkAt_7 : decode b_nt_linkAt 7 = .ok (.ifnull 14, 3) := by decide +kernel
theorem d_nt_linkAt_10 : decode b_nt_linkAt 10 = .ok (.aload_n 0, 1) := by decide +kernel
theorem d_nt_linkAt_11 : decode b_nt_linkAt 11 = .ok (.getfield 12, 3) := by decide +kernel
theorem d_nt_linkAt_14 : decode b_nt_linkAt 14 = .ok (.iload_n 2, 1) := by decide +kernel
theorem d_nt_linkAt_15 : decode b_nt_linkAt 15 = .ok (.invokevirtual 81, 3) := by decide +kernel
theorem d_nt_linkAt_18 : decode b_nt_linkAt 18 = .ok (.ifCond .ne 7, 3) := by decide +kernel
theorem d_nt_linkAt_21 : decode b_nt_linkAt 21 = .ok (.aconst_null, 1) := by decide +kernel
theorem d_nt_linkAt_22 : decode b_nt_linkAt 22 = .ok (.goto 9, 3) := by decide +kernel
theorem d_nt_linkAt_25 : decode b_nt_linkAt 25 = .ok (.aload_n 3, 1) := by decide +kernel
theorem d_nt_linkAt_26 : decode b_nt_linkAt 26 = .ok (.getfield 85, 3) := by decide +kernel
theorem d_nt_linkAt_29 : decode b_nt_linkAt 29 = .ok (.iload_n 2, 1) := by decide +kernel
theorem d_nt_linkAt_30 : decode b_nt_linkAt 30 = .ok (.aaload, 1) := by decide +kernel
theorem d_nt_linkAt_31 : decode b_nt_linkAt 31 = .ok (.areturn, 1) := by decide +kernel
theorem d_nt_chainAt_0 : decode b_nt_chainAt 0 = .ok (.iload_n 1, 1) := by decide +kernel
theorem d_nt_chainAt_1 : decode b_nt_chainAt 1 = .ok (.ifCond .lt 13, 3) := by decide +kernel
theorem d_nt_chainAt_4 : decode b_nt_chainAt 4 = .ok (.iload_n 1, 1) := by decide +kernel
theorem d_nt_chainAt_5 : decode b_nt_chainAt 5 = .ok (.bipush 6, 2) := by decide +kernel
theorem d_nt_chainAt_7 : decode b_nt_chainAt 7 = .ok (.if_icmp .ge 7, 3) := by decide +kernel
theorem d_nt_chainAt_10 : decode b_nt_chainAt 10 = .ok (.iconst 1, 1) := by decide +kernel
theorem d_nt_chainAt_11 : decode b_nt_chainAt 11 = .ok (.goto 4, 3) := by decide +kernel
theorem d_nt_chainAt_14 : decode b_nt_chainAt 14 = .ok (.iconst 0, 1) := by decide +kernel
theorem d_nt_chainAt_15 : decode b_nt_chainAt 15 = .ok (.istore_n 2, 1) := by decide +kernel
theorem d_nt_chainAt_16 : decode b_nt_chainAt 16 = .ok (.iload_n 2, 1) := by decide +kernel
theorem d_nt_chainAt_17 : decode b_nt_chainAt 17 = .ok (.ifCond .eq 24, 3) := by decide +kernel
theorem d_nt_chainAt_20 : decode b_nt_chainAt 20 = .ok (.aload_n 0, 1) := by decide +kernel
theorem d_nt_chainAt_21 : decode b_nt_chainAt 21 = .ok (.getfield 26, 3) := by decide +kernel
theorem d_nt_chainAt_24 : decode b_nt_chainAt 24 = .ok (.iload_n 1, 1) := by decide +kernel
theorem d_nt_chainAt_25 : decode b_nt_chainAt 25 = .ok (.aaload, 1) := by decide +kernel
theorem d_nt_chainAt_26 : decode b_nt_chainAt 26 = .ok (.getfield 89, 3) := by decide +kernel
theorem d_nt_chainAt_29 : decode b_nt_chainAt 29 = .ok (.ifCond .eq 12, 3) := by decide +kernel
theorem d_nt_chainAt_32 : decode b_nt_chainAt 32 = .ok (.aload_n 0, 1) := by decide +kernel
theorem d_nt_chainAt_33 : decode b_nt_chainAt 33 = .ok (.getfield 26, 3) := by decide +kernel
theorem d_nt_chainAt_36 : decode b_nt_chainAt 36 = .ok (.iload_n 1, 1) := by decide +kernel
theorem d_nt_chainAt_37 : decode b_nt_chainAt 37 = .ok (.aaload, 1) := by decide +kernel
theorem d_nt_chainAt_38 : decode b_nt_chainAt 38 = .ok (.goto 4, 3) := by decide +kernel
theorem d_nt_chainAt_41 : decode b_nt_chainAt 41 = .ok (.aconst_null, 1) := by decide +kernel
theorem d_nt_chainAt_42 : decode b_nt_chainAt 42 = .ok (.areturn, 1) := by decide +kernel
theorem d_nt_freeChain_0 : decode b_nt_freeChain 0 = .ok (.iconst 0, 1) := by decide +kernel
theorem d_nt_freeChain_1 : decode b_nt_freeChain 1 = .ok (.istore_n 1, 1) := by decide +kernel
theorem d_nt_freeChain_2 : decode b_nt_freeChain 2 = .ok (.iload_n 1, 1) := by decide +kernel
theorem d_nt_freeChain_3 : decode b_nt_freeChain 3 = .ok (.bipush 6, 2) := by decide +kernel
theorem d_nt_freeChain_5 : decode b_nt_freeChain 5 = .ok (.if_icmp .ge 23, 3) := by decide +kernel
theorem d_nt_freeChain_8 : decode b_nt_freeChain 8 = .ok (.aload_n 0, 1) := by decide +kernel
theorem d_nt_freeChain_9 : decode b_nt_freeChain 9 = .ok (.getfield 26, 3) := by decide +kernel
theorem d_nt_freeChain_12 : decode b_nt_freeChain 12 = .ok (.iload_n 1, 1) := by decide +kernel
theorem d_nt_freeChain_13 : decode b_nt_freeChain 13 = .ok (.aaload, 1) := by decide +kernel
theorem d_nt_freeChain_14 : decode b_nt_freeChain 14 = .ok (.getfield 89, 3) := by decide +kernel
theorem d_nt_freeChain_17 : decode b_nt_freeChain 17 = .ok (.ifCond .ne 5, 3) := by decide +kernel
theorem d_nt_freeChain_20 : decode b_nt_freeChain 20 = .ok (.iload_n 1, 1) := by decide +kernel
theorem d_nt_freeChain_21 : decode b_nt_freeChain 21 = .ok (.ireturn, 1) := by decide +kernel
theorem d_nt_freeChain_22 : decode b_nt_freeChain 22 = .ok (.iinc 1 1, 3) := by decide +kernel
theorem d_nt_freeChain_25 : decode b_nt_freeChain 25 = .ok (.goto (-23), 3) := by decide +kernel
theorem d_nt_freeChain_28 : decode b_nt_freeChain 28 = .ok (.bipush (-9), 2) := by decide +kernel
theorem d_nt_freeChain_30 : decode b_nt_freeChain 30 = .ok (.ireturn, 1) := by decide +kernel
theorem d_nt_endOfNewInterval_0 : decode b_nt_endOfNewInterval 0 = .ok (.aload_n 0, 1) := by decide +kernel
theorem d_nt_endOfNewInterval_1 : decode b_nt_endOfNewInterval 1 = .ok (.getfield 71, 3) := by decide +kernel
theorem d_nt_endOfNewInterval_4 : decode b_nt_endOfNewInterval 4 = .ok (.i2l, 1) := by decide +kernel
theorem d_nt_endOfNewInterval_5 : decode b_nt_endOfNewInterval 5 = .ok (.aload_n 0, 1) := by decide +kernel
theorem d_nt_endOfNewInterval_6 : decode b_nt_endOfNewInterval 6 = .ok (.getfield 45, 3) := by decide +kernel
theorem d_nt_endOfNewInterval_9 : decode b_nt_endOfNewInterval 9 = .ok (.i2l, 1) := by decide +kernel
theorem d_nt_endOfNewInterval_10 : decode b_nt_endOfNewInterval 10 = .ok (.ladd, 1) := by decide +kernel
theorem d_nt_endOfNewInterval_11 : decode b_nt_endOfNewInterval 11 = .ok (.lreturn, 1) := by decide +kernel
theorem d_nt_openChain_0 : decode b_nt_openChain 0 = .ok (.aload_n 0, 1) := by decide +kernel
theorem d_nt_openChain_1 : decode b_nt_openChain 1 = .ok (.invokevirtual 93, 3) := by decide +kernel
theorem d_nt_openChain_4 : decode b_nt_openChain 4 = .ok (.istore_n 3, 1) := by decide +kernel
theorem d_nt_openChain_5 : decode b_nt_openChain 5 = .ok (.iload_n 3, 1) := by decide +kernel
theorem d_nt_openChain_6 : decode b_nt_openChain 6 = .ok (.ifCond .lt 9, 3) := by decide +kernel
theorem d_nt_openChain_9 : decode b_nt_openChain 9 = .ok (.iload_n 3, 1) := by decide +kernel
theorem d_nt_openChain_10 : decode b_nt_openChain 10 = .ok (.bipush 6, 2) := by decide +kernel
theorem d_nt_openChain_12 : decode b_nt_openChain 12 = .ok (.if_icmp .lt 6, 3) := by decide +kernel
theorem d_nt_openChain_15 : decode b_nt_openChain 15 = .ok (.bipush (-3), 2) := by decide +kernel
theorem d_nt_openChain_17 : decode b_nt_openChain 17 = .ok (.ireturn, 1) := by decide +kernel
theorem d_nt_openChain_18 : decode b_nt_openChain 18 = .ok (.aload_n 0, 1) := by decide +kernel
theorem d_nt_openChain_19 : decode b_nt_openChain 19 = .ok (.getfield 26, 3) := by decide +kernel
theorem d_nt_openChain_22 : decode b_nt_openChain 22 = .ok (.iload_n 3, 1) := by decide +kernel
theorem d_nt_openChain_23 : decode b_nt_openChain 23 = .ok (.aaload, 1) := by decide +kernel
theorem d_nt_openChain_24 : decode b_nt_openChain 24 = .ok (.astore 4, 2) := by decide +kernel
theorem d_nt_openChain_26 : decode b_nt_openChain 26 = .ok (.aload 4, 2) := by decide +kernel
theorem d_nt_openChain_28 : decode b_nt_openChain 28 = .ok (.iconst 1, 1) := by decide +kernel
theorem d_nt_openChain_29 : decode b_nt_openChain 29 = .ok (.putfield 89, 3) := by decide +kernel
theorem d_nt_openChain_32 : decode b_nt_openChain 32 = .ok (.aload 4, 2) := by decide +kernel
theorem d_nt_openChain_34 : decode b_nt_openChain 34 = .ok (.aload_n 1, 1) := by decide +kernel
theorem d_nt_openChain_35 : decode b_nt_openChain 35 = .ok (.getfield 97, 3) := by decide +kernel
theorem d_nt_openChain_38 : decode b_nt_openChain 38 = .ok (.putfield 100, 3) := by decide +kernel
theorem d_nt_openChain_41 : decode b_nt_openChain 41 = .ok (.aload 4, 2) := by decide +kernel
theorem d_nt_openChain_43 : decode b_nt_openChain 43 = .ok (.iload_n 2, 1) := by decide +kernel
theorem d_nt_openChain_44 : decode b_nt_openChain 44 = .ok (.putfield 103, 3) := by decide +kernel
theorem d_nt_openChain_47 : decode b_nt_openChain 47 = .ok (.aload_n 1, 1) := by decide +kernel
theorem d_nt_openChain_48 : decode b_nt_openChain 48 = .ok (.dup, 1) := by decide +kernel
theorem d_nt_openChain_49 : decode b_nt_openChain 49 = .ok (.getfield 106, 3) := by decide +kernel
theorem d_nt_openChain_52 : decode b_nt_openChain 52 = .ok (.iconst 1, 1) := by decide +kernel
theorem d_nt_openChain_53 : decode b_nt_openChain 53 = .ok (.iadd, 1) := by decide +kernel
theorem d_nt_openChain_54 : decode b_nt_openChain 54 = .ok (.putfield 106, 3) := by decide +kernel
theorem d_nt_openChain_57 : decode b_nt_openChain 57 = .ok (.aload_n 1, 1) := by decide +kernel
theorem d_nt_openChain_58 : decode b_nt_openChain 58 = .ok (.bipush (-9), 2) := by decide +kernel
theorem d_nt_openChain_60 : decode b_nt_openChain 60 = .ok (.bipush (-9), 2) := by decide +kernel
theorem d_nt_openChain_62 : decode b_nt_openChain 62 = .ok (.bipush (-9), 2) := by decide +kernel
theorem d_nt_openChain_64 : decode b_nt_openChain 64 = .ok (.invokevirtual 109, 3) := by decide +kernel
theorem d_nt_openChain_67 : decode b_nt_openChain 67 = .ok (.aload_n 0, 1) := by decide +kernel
theorem d_nt_openChain_68 : decode b_nt_openChain 68 = .ok (.aload 4, 2) := by decide +kernel
theorem d_nt_openChain_70 : decode b_nt_openChain 70 = .ok (.aload_n 1, 1) := by decide +kernel
theorem d_nt_openChain_71 : decode b_nt_openChain 71 = .ok (.aload_n 1, 1) := by decide +kernel
theorem d_nt_openChain_72 : decode b_nt_openChain 72 = .ok (.getfield 113, 3) := by decide +kernel
theorem d_nt_openChain_75 : decode b_nt_openChain 75 = .ok (.ifCond .eq 8, 3) := by decide +kernel
theorem d_nt_openChain_78 : decode b_nt_openChain 78 = .ok (.bipush (-9), 2) := by decide +kernel
theorem d_nt_openChain_80 : decode b_nt_openChain 80 = .ok (.goto 8, 3) := by decide +kernel
theorem d_nt_openChain_83 : decode b_nt_openChain 83 = .ok (.aload_n 0, 1) := by decide +kernel
theorem d_nt_openChain_84 : decode b_nt_openChain 84 = .ok (.aload_n 1, 1) := by decide +kernel
theorem d_nt_openChain_85 : decode b_nt_openChain 85 = .ok (.invokevirtual 116, 3) := by decide +kernel
theorem d_nt_openChain_88 : decode b_nt_openChain 88 = .ok (.invokevirtual 120, 3) := by decide +kernel
theorem d_nt_openChain_91 : decode b_nt_openChain 91 = .ok (.iconst 0, 1) := by decide +kernel
theorem d_nt_openChain_92 : decode b_nt_openChain 92 = .ok (.istore 5, 2) := by decide +kernel
theorem d_nt_openChain_94 : decode b_nt_openChain 94 = .ok (.iload 5, 2) := by decide +kernel
theorem d_nt_openChain_96 : decode b_nt_openChain 96 = .ok (.iconst 4, 1) := by decide +kernel
theorem d_nt_openChain_97 : decode b_nt_openChain 97 = .ok (.if_icmp .ge 63, 3) := by decide +kernel
theorem d_nt_openChain_100 : decode b_nt_openChain 100 = .ok (.iload 5, 2) := by decide +kernel
theorem d_nt_openChain_102 : decode b_nt_openChain 102 = .ok (.aload 4, 2) := by decide +kernel
theorem d_nt_openChain_104 : decode b_nt_openChain 104 = .ok (.getfield 124, 3) := by decide +kernel
theorem d_nt_openChain_107 : decode b_nt_openChain 107 = .ok (.if_icmp .ne 7, 3) := by decide +kernel
theorem d_nt_openChain_110 : decode b_nt_openChain 110 = .ok (.iconst 1, 1) := by decide +kernel
theorem d_nt_openChain_111 : decode b_nt_openChain 111 = .ok (.goto 4, 3) := by decide +kernel
theorem d_nt_openChain_114 : decode b_nt_openChain 114 = .ok (.iconst 0, 1) := by decide +kernel
theorem d_nt_openChain_115 : decode b_nt_openChain 115 = .ok (.istore 6, 2) := by decide +kernel
theorem d_nt_openChain_117 : decode b_nt_openChain 117 = .ok (.aload 4, 2) := by decide +kernel
theorem d_nt_openChain_119 : decode b_nt_openChain 119 = .ok (.getfield 127, 3) := by decide +kernel
theorem d_nt_openChain_122 : decode b_nt_openChain 122 = .ok (.iload 5, 2) := by decide +kernel
theorem d_nt_openChain_124 : decode b_nt_openChain 124 = .ok (.iload 6, 2) := by decide +kernel
theorem d_nt_openChain_126 : decode b_nt_openChain 126 = .ok (.ifCond .eq 7, 3) := by decide +kernel
theorem d_nt_openChain_129 : decode b_nt_openChain 129 = .ok (.iconst 1, 1) := by decide +kernel
theorem d_nt_openChain_130 : decode b_nt_openChain 130 = .ok (.goto 23, 3) := by decide +kernel
theorem d_nt_openChain_133 : decode b_nt_openChain 133 = .ok (.aload_n 0, 1) := by decide +kernel
theorem d_nt_openChain_134 : decode b_nt_openChain 134 = .ok (.getfield 12, 3) := by decide +kernel
theorem d_nt_openChain_137 : decode b_nt_openChain 137 = .ok (.aload 4, 2) := by decide +kernel
theorem d_nt_openChain_139 : decode b_nt_openChain 139 = .ok (.getfield 131, 3) := by decide +kernel
theorem d_nt_openChain_142 : decode b_nt_openChain 142 = .ok (.iload 5, 2) := by decide +kernel
theorem d_nt_openChain_144 : decode b_nt_openChain 144 = .ok (.iaload, 1) := by decide +kernel
theorem d_nt_openChain_145 : decode b_nt_openChain 145 = .ok (.iload_n 2, 1) := by decide +kernel
theorem d_nt_openChain_146 : decode b_nt_openChain 146 = .ok (.aload_n 0, 1) := by decide +kernel
theorem d_nt_openChain_147 : decode b_nt_openChain 147 = .ok (.getfield 48, 3) := by decide +kernel
theorem d_nt_openChain_150 : decode b_nt_openChain 150 = .ok (.invokevirtual 133, 3) := by decide +kernel
theorem d_nt_openChain_153 : decode b_nt_openChain 153 = .ok (.iastore, 1) := by decide +kernel
theorem d_nt_openChain_154 : decode b_nt_openChain 154 = .ok (.iinc 5 1, 3) := by decide +kernel
theorem d_nt_openChain_157 : decode b_nt_openChain 157 = .ok (.goto (-63), 3) := by decide +kernel
theorem d_nt_openChain_160 : decode b_nt_openChain 160 = .ok (.iload_n 3, 1) := by decide +kernel
theorem d_nt_openChain_161 : decode b_nt_openChain 161 = .ok (.ireturn, 1) := by decide +kernel
theorem d_nt_chooseRates_0 : decode b_nt_chooseRates 0 = .ok (.aload_n 2, 1) := by decide +kernel
theorem d_nt_chooseRates_1 : decode b_nt_chooseRates 1 = .ok (.getfield 137, 3) := by decide +kernel
theorem d_nt_chooseRates_4 : decode b_nt_chooseRates 4 = .ok (.iconst 0, 1) := by decide +kernel
theorem d_nt_chooseRates_5 : decode b_nt_chooseRates 5 = .ok (.iaload, 1) := by decide +kernel
theorem d_nt_chooseRates_6 : decode b_nt_chooseRates 6 = .ok (.istore 4, 2) := by decide +kernel
theorem d_nt_chooseRates_8 : decode b_nt_chooseRates 8 = .ok (.aload_n 2, 1) := by decide +kernel
theorem d_nt_chooseRates_9 : decode b_nt_chooseRates 9 = .ok (.getfield 137, 3) := by decide +kernel
theorem d_nt_chooseRates_12 : decode b_nt_chooseRates 12 = .ok (.iconst 1, 1) := by decide +kernel
theorem d_nt_chooseRates_13 : decode b_nt_chooseRates 13 = .ok (.iaload, 1) := by decide +kernel
theorem d_nt_chooseRates_14 : decode b_nt_chooseRates 14 = .ok (.istore 5, 2) := by decide +kernel
theorem d_nt_chooseRates_16 : decode b_nt_chooseRates 16 = .ok (.aload_n 2, 1) := by decide +kernel
theorem d_nt_chooseRates_17 : decode b_nt_chooseRates 17 = .ok (.getfield 137, 3) := by decide +kernel
theorem d_nt_chooseRates_20 : decode b_nt_chooseRates 20 = .ok (.iconst 2, 1) := by decide +kernel
theorem d_nt_chooseRates_21 : decode b_nt_chooseRates 21 = .ok (.iaload, 1) := by decide +kernel
theorem d_nt_chooseRates_22 : decode b_nt_chooseRates 22 = .ok (.istore 6, 2) := by decide +kernel
theorem d_nt_chooseRates_24 : decode b_nt_chooseRates 24 = .ok (.aload_n 2, 1) := by decide +kernel
theorem d_nt_chooseRates_25 : decode b_nt_chooseRates 25 = .ok (.getfield 137, 3) := by decide +kernel
theorem d_nt_chooseRates_28 : decode b_nt_chooseRates 28 = .ok (.iconst 3, 1) := by decide +kernel
theorem d_nt_chooseRates_29 : decode b_nt_chooseRates 29 = .ok (.iaload, 1) := by decide +kernel
theorem d_nt_chooseRates_30 : decode b_nt_chooseRates 30 = .ok (.istore 7, 2) := by decide +kernel
theorem d_nt_chooseRates_32 : decode b_nt_chooseRates 32 = .ok (.aload_n 1, 1) := by decide +kernel
theorem d_nt_chooseRates_33 : decode b_nt_chooseRates 33 = .ok (.bipush (-9), 2) := by decide +kernel
theorem d_nt_chooseRates_35 : decode b_nt_chooseRates 35 = .ok (.putfield 124, 3) := by decide +kernel
theorem d_nt_chooseRates_38 : decode b_nt_chooseRates 38 = .ok (.aload_n 2, 1) := by decide +kernel
theorem d_nt_chooseRates_39 : decode b_nt_chooseRates 39 = .ok (.getfield 113, 3) := by decide +kernel
theorem d_nt_chooseRates_42 : decode b_nt_chooseRates 42 = .ok (.ifCond .eq 21, 3) := by decide +kernel
theorem d_nt_chooseRates_45 : decode b_nt_chooseRates 45 = .ok (.aload_n 1, 1) := by decide +kernel
theorem d_nt_chooseRates_46 : decode b_nt_chooseRates 46 = .ok (.iconst 2, 1) := by decide +kernel
theorem d_nt_chooseRates_47 : decode b_nt_chooseRates 47 = .ok (.putfield 140, 3) := by decide +kernel
theorem d_nt_chooseRates_50 : decode b_nt_chooseRates 50 = .ok (.aload_n 1, 1) := by decide +kernel
theorem d_nt_chooseRates_51 : decode b_nt_chooseRates 51 = .ok (.iload 6, 2) := by decide +kernel
theorem d_nt_chooseRates_53 : decode b_nt_chooseRates 53 = .ok (.iload 7, 2) := by decide +kernel
theorem d_nt_chooseRates_55 : decode b_nt_chooseRates 55 = .ok (.iload 7, 2) := by decide +kernel
theorem d_nt_chooseRates_57 : decode b_nt_chooseRates 57 = .ok (.iload 7, 2) := by decide +kernel
theorem d_nt_chooseRates_59 : decode b_nt_chooseRates 59 = .ok (.invokevirtual 143, 3) := by decide +kernel
theorem d_nt_chooseRates_62 : decode b_nt_chooseRates 62 = .ok (.return_, 1) := by decide +kernel
theorem d_nt_chooseRates_63 : decode b_nt_chooseRates 63 = .ok (.iload_n 3, 1) := by decide +kernel
theorem d_nt_chooseRates_64 : decode b_nt_chooseRates 64 = .ok (.bipush (-9), 2) := by decide +kernel
theorem d_nt_chooseRates_66 : decode b_nt_chooseRates 66 = .ok (.if_icmp .ne 21, 3) := by decide +kernel
theorem d_nt_chooseRates_69 : decode b_nt_chooseRates 69 = .ok (.aload_n 1, 1) := by decide +kernel
theorem d_nt_chooseRates_70 : decode b_nt_chooseRates 70 = .ok (.iconst 0, 1) := by decide +kernel
theorem d_nt_chooseRates_71 : decode b_nt_chooseRates 71 = .ok (.putfield 140, 3) := by decide +kernel
theorem d_nt_chooseRates_74 : decode b_nt_chooseRates 74 = .ok (.aload_n 1, 1) := by decide +kernel
theorem d_nt_chooseRates_75 : decode b_nt_chooseRates 75 = .ok (.iload 4, 2) := by decide +kernel
theorem d_nt_chooseRates_77 : decode b_nt_chooseRates 77 = .ok (.iload 5, 2) := by decide +kernel
theorem d_nt_chooseRates_79 : decode b_nt_chooseRates 79 = .ok (.iload 6, 2) := by decide +kernel
theorem d_nt_chooseRates_81 : decode b_nt_chooseRates 81 = .ok (.iload 7, 2) := by decide +kernel
theorem d_nt_chooseRates_83 : decode b_nt_chooseRates 83 = .ok (.invokevirtual 143, 3) := by decide +kernel
theorem d_nt_chooseRates_86 : decode b_nt_chooseRates 86 = .ok (.return_, 1) := by decide +kernel
theorem d_nt_chooseRates_87 : decode b_nt_chooseRates 87 = .ok (.aload_n 2, 1) := by decide +kernel
theorem d_nt_chooseRates_88 : decode b_nt_chooseRates 88 = .ok (.dup, 1) := by decide +kernel
theorem d_nt_chooseRates_89 : decode b_nt_chooseRates 89 = .ok (.getfield 147, 3) := by decide +kernel
theorem d_nt_chooseRates_92 : decode b_nt_chooseRates 92 = .ok (.iconst 1, 1) := by decide +kernel
theorem d_nt_chooseRates_93 : decode b_nt_chooseRates 93 = .ok (.iadd, 1) := by decide +kernel
theorem d_nt_chooseRates_94 : decode b_nt_chooseRates 94 = .ok (.putfield 147, 3) := by decide +kernel
theorem d_nt_chooseRates_97 : decode b_nt_chooseRates 97 = .ok (.aload_n 1, 1) := by decide +kernel
theorem d_nt_chooseRates_98 : decode b_nt_chooseRates 98 = .ok (.iconst 1, 1) := by decide +kernel
theorem d_nt_chooseRates_99 : decode b_nt_chooseRates 99 = .ok (.putfield 140, 3) := by decide +kernel
theorem d_nt_chooseRates_102 : decode b_nt_chooseRates 102 = .ok (.aload_n 0, 1) := by decide +kernel
theorem d_nt_chooseRates_103 : decode b_nt_chooseRates 103 = .ok (.getfield 12, 3) := by decide +kernel
theorem d_nt_chooseRates_106 : decode b_nt_chooseRates 106 = .ok (.iload_n 3, 1) := by decide +kernel
theorem d_nt_chooseRates_107 : decode b_nt_chooseRates 107 = .ok (.invokevirtual 150, 3) := by decide +kernel
theorem d_nt_chooseRates_110 : decode b_nt_chooseRates 110 = .ok (.aload_n 0, 1) := by decide +kernel
theorem d_nt_chooseRates_111 : decode b_nt_chooseRates 111 = .ok (.getfield 12, 3) := by decide +kernel
theorem d_nt_chooseRates_114 : decode b_nt_chooseRates 114 = .ok (.iload 4, 2) := by decide +kernel
theorem d_nt_chooseRates_116 : decode b_nt_chooseRates 116 = .ok (.invokevirtual 150, 3) := by decide +kernel
theorem d_nt_chooseRates_119 : decode b_nt_chooseRates 119 = .ok (.if_icmp .gt 22, 3) := by decide +kernel
theorem d_nt_chooseRates_122 : decode b_nt_chooseRates 122 = .ok (.aload_n 1, 1) := by decide +kernel
theorem d_nt_chooseRates_123 : decode b_nt_chooseRates 123 = .ok (.iconst 0, 1) := by decide +kernel
theorem d_nt_chooseRates_124 : decode b_nt_chooseRates 124 = .ok (.putfield 124, 3) := by decide +kernel
theorem d_nt_chooseRates_127 : decode b_nt_chooseRates 127 = .ok (.aload_n 1, 1) := by decide +kernel
theorem d_nt_chooseRates_128 : decode b_nt_chooseRates 128 = .ok (.iload_n 3, 1) := by decide +kernel
theorem d_nt_chooseRates_129 : decode b_nt_chooseRates 129 = .ok (.iload 4, 2) := by decide +kernel
theorem d_nt_chooseRates_131 : decode b_nt_chooseRates 131 = .ok (.iload 6, 2) := by decide +kernel
theorem d_nt_chooseRates_133 : decode b_nt_chooseRates 133 = .ok (.iload 7, 2) := by decide +kernel
theorem d_nt_chooseRates_135 : decode b_nt_chooseRates 135 = .ok (.invokevirtual 143, 3) := by decide +kernel
theorem d_nt_chooseRates_138 : decode b_nt_chooseRates 138 = .ok (.goto 19, 3) := by decide +kernel
theorem d_nt_chooseRates_141 : decode b_nt_chooseRates 141 = .ok (.aload_n 1, 1) := by decide +kernel
theorem d_nt_chooseRates_142 : decode b_nt_chooseRates 142 = .ok (.iconst 1, 1) := by decide +kernel
theorem d_nt_chooseRates_143 : decode b_nt_chooseRates 143 = .ok (.putfield 124, 3) := by decide +kernel
theorem d_nt_chooseRates_146 : decode b_nt_chooseRates 146 = .ok (.aload_n 1, 1) := by decide +kernel
theorem d_nt_chooseRates_147 : decode b_nt_chooseRates 147 = .ok (.iload 4, 2) := by decide +kernel
theorem d_nt_chooseRates_149 : decode b_nt_chooseRates 149 = .ok (.iload_n 3, 1) := by decide +kernel
theorem d_nt_chooseRates_150 : decode b_nt_chooseRates 150 = .ok (.iload 6, 2) := by decide +kernel
theorem d_nt_chooseRates_152 : decode b_nt_chooseRates 152 = .ok (.iload 7, 2) := by decide +kernel
theorem d_nt_chooseRates_154 : decode b_nt_chooseRates 154 = .ok (.invokevirtual 143, 3) := by decide +kernel
theorem d_nt_chooseRates_157 : decode b_nt_chooseRates 157 = .ok (.return_, 1) := by decide +kernel
theorem d_nt_drawCandidate_0 : decode b_nt_drawCandidate 0 = .ok (.aload_n 1, 1) := by decide +kernel
theorem d_nt_drawCandidate_1 : decode b_nt_drawCandidate 1 = .ok (.getfield 147, 3) := by decide +kernel
theorem d_nt_drawCandidate_4 : decode b_nt_drawCandidate 4 = .ok (.iconst 1, 1) := by decide +kernel
theorem d_nt_drawCandidate_5 : decode b_nt_drawCandidate 5 = .ok (.iadd, 1) := by decide +kernel
theorem d_nt_drawCandidate_6 : decode b_nt_drawCandidate 6 = .ok (.bipush 100, 2) := by decide +kernel
theorem d_nt_drawCandidate_8 : decode b_nt_drawCandidate 8 = .ok (.imul, 1) := by decide +kernel
theorem d_nt_drawCandidate_9 : decode b_nt_drawCandidate 9 = .ok (.aload_n 1, 1) := by decide +kernel
theorem d_nt_drawCandidate_10 : decode b_nt_drawCandidate 10 = .ok (.getfield 106, 3) := by decide +kernel
theorem d_nt_drawCandidate_13 : decode b_nt_drawCandidate 13 = .ok (.aload_n 0, 1) := by decide +kernel
theorem d_nt_drawCandidate_14 : decode b_nt_drawCandidate 14 = .ok (.getfield 37, 3) := by decide +kernel
theorem d_nt_drawCandidate_17 : decode b_nt_drawCandidate 17 = .ok (.imul, 1) := by decide +kernel
theorem d_nt_drawCandidate_18 : decode b_nt_drawCandidate 18 = .ok (.if_icmp .le 15, 3) := by decide +kernel
theorem d_nt_drawCandidate_21 : decode b_nt_drawCandidate 21 = .ok (.aload_n 1, 1) := by decide +kernel
theorem d_nt_drawCandidate_22 : decode b_nt_drawCandidate 22 = .ok (.iconst 1, 1) := by decide +kernel
theorem d_nt_drawCandidate_23 : decode b_nt_drawCandidate 23 = .ok (.bipush (-9), 2) := by decide +kernel
theorem d_nt_drawCandidate_25 : decode b_nt_drawCandidate 25 = .ok (.bipush (-9), 2) := by decide +kernel
theorem d_nt_drawCandidate_27 : decode b_nt_drawCandidate 27 = .ok (.invokevirtual 109, 3) := by decide +kernel
theorem d_nt_drawCandidate_30 : decode b_nt_drawCandidate 30 = .ok (.bipush (-9), 2) := by decide +kernel
theorem d_nt_drawCandidate_32 : decode b_nt_drawCandidate 32 = .ok (.ireturn, 1) := by decide +kernel
theorem d_nt_drawCandidate_33 : decode b_nt_drawCandidate 33 = .ok (.aload_n 1, 1) := by decide +kernel
theorem d_nt_drawCandidate_34 : decode b_nt_drawCandidate 34 = .ok (.aload_n 1, 1) := by decide +kernel
theorem d_nt_drawCandidate_35 : decode b_nt_drawCandidate 35 = .ok (.getfield 154, 3) := by decide +kernel
theorem d_nt_drawCandidate_38 : decode b_nt_drawCandidate 38 = .ok (.invokestatic 157, 3) := by decide +kernel
theorem d_nt_drawCandidate_41 : decode b_nt_drawCandidate 41 = .ok (.putfield 154, 3) := by decide +kernel
theorem d_nt_drawCandidate_44 : decode b_nt_drawCandidate 44 = .ok (.aload_n 1, 1) := by decide +kernel
theorem d_nt_drawCandidate_45 : decode b_nt_drawCandidate 45 = .ok (.getfield 154, 3) := by decide +kernel
theorem d_nt_drawCandidate_48 : decode b_nt_drawCandidate 48 = .ok (.bipush 16, 2) := by decide +kernel
theorem d_nt_drawCandidate_50 : decode b_nt_drawCandidate 50 = .ok (.iushr, 1) := by decide +kernel
theorem d_nt_drawCandidate_51 : decode b_nt_drawCandidate 51 = .ok (.iconst 1, 1) := by decide +kernel
theorem d_nt_drawCandidate_52 : decode b_nt_drawCandidate 52 = .ok (.aload_n 0, 1) := by decide +kernel
theorem d_nt_drawCandidate_53 : decode b_nt_drawCandidate 53 = .ok (.getfield 12, 3) := by decide +kernel
theorem d_nt_drawCandidate_56 : decode b_nt_drawCandidate 56 = .ok (.getfield 160, 3) := by decide +kernel
theorem d_nt_drawCandidate_59 : decode b_nt_drawCandidate 59 = .ok (.invokestatic 163, 3) := by decide +kernel
theorem d_nt_drawCandidate_62 : decode b_nt_drawCandidate 62 = .ok (.irem, 1) := by decide +kernel
theorem d_nt_drawCandidate_63 : decode b_nt_drawCandidate 63 = .ok (.istore_n 2, 1) := by decide +kernel
theorem d_nt_drawCandidate_64 : decode b_nt_drawCandidate 64 = .ok (.aload_n 0, 1) := by decide +kernel
theorem d_nt_drawCandidate_65 : decode b_nt_drawCandidate 65 = .ok (.aload_n 1, 1) := by decide +kernel
theorem d_nt_drawCandidate_66 : decode b_nt_drawCandidate 66 = .ok (.iload_n 2, 1) := by decide +kernel
theorem d_nt_drawCandidate_67 : decode b_nt_drawCandidate 67 = .ok (.invokevirtual 169, 3) := by decide +kernel
theorem d_nt_drawCandidate_70 : decode b_nt_drawCandidate 70 = .ok (.istore_n 3, 1) := by decide +kernel
theorem d_nt_drawCandidate_71 : decode b_nt_drawCandidate 71 = .ok (.iload_n 3, 1) := by decide +kernel
theorem d_nt_drawCandidate_72 : decode b_nt_drawCandidate 72 = .ok (.bipush (-9), 2) := by decide +kernel
theorem d_nt_drawCandidate_74 : decode b_nt_drawCandidate 74 = .ok (.if_icmp .ne 5, 3) := by decide +kernel
theorem d_nt_drawCandidate_77 : decode b_nt_drawCandidate 77 = .ok (.iload_n 2, 1) := by decide +kernel
theorem d_nt_drawCandidate_78 : decode b_nt_drawCandidate 78 = .ok (.ireturn, 1) := by decide +kernel
theorem d_nt_drawCandidate_79 : decode b_nt_drawCandidate 79 = .ok (.iload_n 3, 1) := by decide +kernel
theorem d_nt_drawCandidate_80 : decode b_nt_drawCandidate 80 = .ok (.bipush 12, 2) := by decide +kernel
theorem d_nt_drawCandidate_82 : decode b_nt_drawCandidate 82 = .ok (.if_icmp .ne 11, 3) := by decide +kernel
theorem d_nt_drawCandidate_85 : decode b_nt_drawCandidate 85 = .ok (.aload_n 1, 1) := by decide +kernel
theorem d_nt_drawCandidate_86 : decode b_nt_drawCandidate 86 = .ok (.iload_n 2, 1) := by decide +kernel
theorem d_nt_drawCandidate_87 : decode b_nt_drawCandidate 87 = .ok (.invokestatic 173, 3) := by decide +kernel
theorem d_nt_drawCandidate_90 : decode b_nt_drawCandidate 90 = .ok (.goto 5, 3) := by decide +kernel
theorem d_nt_drawCandidate_93 : decode b_nt_drawCandidate 93 = .ok (.bipush (-9), 2) := by decide +kernel
theorem d_nt_drawCandidate_95 : decode b_nt_drawCandidate 95 = .ok (.istore 4, 2) := by decide +kernel
theorem d_nt_drawCandidate_97 : decode b_nt_drawCandidate 97 = .ok (.aload_n 1, 1) := by decide +kernel
theorem d_nt_drawCandidate_98 : decode b_nt_drawCandidate 98 = .ok (.iconst 2, 1) := by decide +kernel
theorem d_nt_drawCandidate_99 : decode b_nt_drawCandidate 99 = .ok (.iload_n 3, 1) := by decide +kernel
theorem d_nt_drawCandidate_100 : decode b_nt_drawCandidate 100 = .ok (.iload 4, 2) := by decide +kernel
theorem d_nt_drawCandidate_102 : decode b_nt_drawCandidate 102 = .ok (.invokevirtual 109, 3) := by decide +kernel
theorem d_nt_drawCandidate_105 : decode b_nt_drawCandidate 105 = .ok (.bipush (-9), 2) := by decide +kernel
theorem d_nt_drawCandidate_107 : decode b_nt_drawCandidate 107 = .ok (.ireturn, 1) := by decide +kernel
theorem d_nt_causeAgainst_0 : decode b_nt_causeAgainst 0 = .ok (.aload_n 0, 1) := by decide +kernel
theorem d_nt_causeAgainst_1 : decode b_nt_causeAgainst 1 = .ok (.getfield 12, 3) := by decide +kernel
theorem d_nt_causeAgainst_4 : decode b_nt_causeAgainst 4 = .ok (.iload_n 2, 1) := by decide +kernel
theorem d_nt_causeAgainst_5 : decode b_nt_causeAgainst 5 = .ok (.invokevirtual 81, 3) := by decide +kernel
theorem d_nt_causeAgainst_8 : decode b_nt_causeAgainst 8 = .ok (.ifCond .eq 15, 3) := by decide +kernel
theorem d_nt_causeAgainst_11 : decode b_nt_causeAgainst 11 = .ok (.aload_n 1, 1) := by decide +kernel
theorem d_nt_causeAgainst_12 : decode b_nt_causeAgainst 12 = .ok (.getfield 85, 3) := by decide +kernel
theorem d_nt_causeAgainst_15 : decode b_nt_causeAgainst 15 = .ok (.iload_n 2, 1) := by decide +kernel
theorem d_nt_causeAgainst_16 : decode b_nt_causeAgainst 16 = .ok (.aaload, 1) := by decide +kernel
theorem d_nt_causeAgainst_17 : decode b_nt_causeAgainst 17 = .ok (.getfield 176, 3) := by decide +kernel
theorem d_nt_causeAgainst_20 : decode b_nt_causeAgainst 20 = .ok (.ifCond .ne 6, 3) := by decide +kernel
theorem d_nt_causeAgainst_23 : decode b_nt_causeAgainst 23 = .ok (.bipush 11, 2) := by decide +kernel
theorem d_nt_causeAgainst_25 : decode b_nt_causeAgainst 25 = .ok (.ireturn, 1) := by decide +kernel
theorem d_nt_causeAgainst_26 : decode b_nt_causeAgainst 26 = .ok (.aload_n 1, 1) := by decide +kernel
theorem d_nt_causeAgainst_27 : decode b_nt_causeAgainst 27 = .ok (.getfield 85, 3) := by decide +kernel
theorem d_nt_causeAgainst_30 : decode b_nt_causeAgainst 30 = .ok (.iload_n 2, 1) := by decide +kernel
theorem d_nt_causeAgainst_31 : decode b_nt_causeAgainst 31 = .ok (.aaload, 1) := by decide +kernel
theorem d_nt_causeAgainst_32 : decode b_nt_causeAgainst 32 = .ok (.astore_n 3, 1) := by decide +kernel
theorem d_nt_causeAgainst_33 : decode b_nt_causeAgainst 33 = .ok (.aload_n 1, 1) := by decide +kernel
theorem d_nt_causeAgainst_34 : decode b_nt_causeAgainst 34 = .ok (.iload_n 2, 1) := by decide +kernel
theorem d_nt_causeAgainst_35 : decode b_nt_causeAgainst 35 = .ok (.invokestatic 173, 3) := by decide +kernel
theorem d_nt_causeAgainst_38 : decode b_nt_causeAgainst 38 = .ok (.bipush (-9), 2) := by decide +kernel
theorem d_nt_causeAgainst_40 : decode b_nt_causeAgainst 40 = .ok (.if_icmp .eq 6, 3) := by decide +kernel
theorem d_nt_causeAgainst_43 : decode b_nt_causeAgainst 43 = .ok (.bipush 12, 2) := by decide +kernel
theorem d_nt_causeAgainst_45 : decode b_nt_causeAgainst 45 = .ok (.ireturn, 1) := by decide +kernel
theorem d_nt_causeAgainst_46 : decode b_nt_causeAgainst 46 = .ok (.aload_n 3, 1) := by decide +kernel
theorem d_nt_causeAgainst_47 : decode b_nt_causeAgainst 47 = .ok (.getfield 181, 3) := by decide +kernel
theorem d_nt_causeAgainst_50 : decode b_nt_causeAgainst 50 = .ok (.ldc 184, 2) := by decide +kernel
theorem d_nt_causeAgainst_52 : decode b_nt_causeAgainst 52 = .ok (.if_icmp .lt 6, 3) := by decide +kernel
theorem d_nt_causeAgainst_55 : decode b_nt_causeAgainst 55 = .ok (.bipush 13, 2) := by decide +kernel
theorem d_nt_causeAgainst_57 : decode b_nt_causeAgainst 57 = .ok (.ireturn, 1) := by decide +kernel
theorem d_nt_causeAgainst_58 : decode b_nt_causeAgainst 58 = .ok (.aload_n 0, 1) := by decide +kernel
theorem d_nt_causeAgainst_59 : decode b_nt_causeAgainst 59 = .ok (.getfield 12, 3) := by decide +kernel
theorem d_nt_causeAgainst_62 : decode b_nt_causeAgainst 62 = .ok (.iload_n 2, 1) := by decide +kernel
theorem d_nt_causeAgainst_63 : decode b_nt_causeAgainst 63 = .ok (.invokevirtual 150, 3) := by decide +kernel
theorem d_nt_causeAgainst_66 : decode b_nt_causeAgainst 66 = .ok (.aload_n 0, 1) := by decide +kernel
theorem d_nt_causeAgainst_67 : decode b_nt_causeAgainst 67 = .ok (.getfield 12, 3) := by decide +kernel
theorem d_nt_causeAgainst_70 : decode b_nt_causeAgainst 70 = .ok (.aload_n 1, 1) := by decide +kernel
theorem d_nt_causeAgainst_71 : decode b_nt_causeAgainst 71 = .ok (.getfield 137, 3) := by decide +kernel
theorem d_nt_causeAgainst_74 : decode b_nt_causeAgainst 74 = .ok (.iconst 2, 1) := by decide +kernel
theorem d_nt_causeAgainst_75 : decode b_nt_causeAgainst 75 = .ok (.iaload, 1) := by decide +kernel
theorem d_nt_causeAgainst_76 : decode b_nt_causeAgainst 76 = .ok (.invokevirtual 150, 3) := by decide +kernel
theorem d_nt_causeAgainst_79 : decode b_nt_causeAgainst 79 = .ok (.if_icmp .le 7, 3) := by decide +kernel
theorem d_nt_causeAgainst_82 : decode b_nt_causeAgainst 82 = .ok (.iconst 1, 1) := by decide +kernel
theorem d_nt_causeAgainst_83 : decode b_nt_causeAgainst 83 = .ok (.goto 4, 3) := by decide +kernel
theorem d_nt_causeAgainst_86 : decode b_nt_causeAgainst 86 = .ok (.iconst 0, 1) := by decide +kernel
theorem d_nt_causeAgainst_87 : decode b_nt_causeAgainst 87 = .ok (.istore 4, 2) := by decide +kernel
theorem d_nt_causeAgainst_89 : decode b_nt_causeAgainst 89 = .ok (.iload 4, 2) := by decide +kernel
theorem d_nt_causeAgainst_91 : decode b_nt_causeAgainst 91 = .ok (.ifCond .eq 15, 3) := by decide +kernel
theorem d_nt_causeAgainst_94 : decode b_nt_causeAgainst 94 = .ok (.aload_n 3, 1) := by decide +kernel
theorem d_nt_causeAgainst_95 : decode b_nt_causeAgainst 95 = .ok (.getfield 185, 3) := by decide +kernel
theorem d_nt_causeAgainst_98 : decode b_nt_causeAgainst 98 = .ok (.ifCond .le 8, 3) := by decide +kernel
theorem d_nt_causeAgainst_101 : decode b_nt_causeAgainst 101 = .ok (.bipush 14, 2) := by decide +kernel
theorem d_nt_causeAgainst_103 : decode b_nt_causeAgainst 103 = .ok (.goto 5, 3) := by decide +kernel
theorem d_nt_causeAgainst_106 : decode b_nt_causeAgainst 106 = .ok (.bipush (-9), 2) := by decide +kernel
theorem d_nt_causeAgainst_108 : decode b_nt_causeAgainst 108 = .ok (.ireturn, 1) := by decide +kernel
theorem d_nt_roleCause_0 : decode b_nt_roleCause 0 = .ok (.iconst 0, 1) := by decide +kernel
theorem d_nt_roleCause_1 : decode b_nt_roleCause 1 = .ok (.istore_n 2, 1) := by decide +kernel
theorem d_nt_roleCause_2 : decode b_nt_roleCause 2 = .ok (.iload_n 2, 1) := by decide +kernel
theorem d_nt_roleCause_3 : decode b_nt_roleCause 3 = .ok (.iconst 2, 1) := by decide +kernel
theorem d_nt_roleCause_4 : decode b_nt_roleCause 4 = .ok (.if_icmp .gt 24, 3) := by decide +kernel
theorem d_nt_roleCause_7 : decode b_nt_roleCause 7 = .ok (.aload_n 0, 1) := by decide +kernel
theorem d_nt_roleCause_8 : decode b_nt_roleCause 8 = .ok (.getfield 137, 3) := by decide +kernel
theorem d_nt_roleCause_11 : decode b_nt_roleCause 11 = .ok (.iload_n 2, 1) := by decide +kernel
theorem d_nt_roleCause_12 : decode b_nt_roleCause 12 = .ok (.iaload, 1) := by decide +kernel
theorem d_nt_roleCause_13 : decode b_nt_roleCause 13 = .ok (.iload_n 1, 1) := by decide +kernel
theorem d_nt_roleCause_14 : decode b_nt_roleCause 14 = .ok (.if_icmp .ne 8, 3) := by decide +kernel
theorem d_nt_roleCause_17 : decode b_nt_roleCause 17 = .ok (.bipush 21, 2) := by decide +kernel
theorem d_nt_roleCause_19 : decode b_nt_roleCause 19 = .ok (.iload_n 2, 1) := by decide +kernel
theorem d_nt_roleCause_20 : decode b_nt_roleCause 20 = .ok (.iadd, 1) := by decide +kernel
theorem d_nt_roleCause_21 : decode b_nt_roleCause 21 = .ok (.ireturn, 1) := by decide +kernel
theorem d_nt_roleCause_22 : decode b_nt_roleCause 22 = .ok (.iinc 2 1, 3) := by decide +kernel
theorem d_nt_roleCause_25 : decode b_nt_roleCause 25 = .ok (.goto (-23), 3) := by decide +kernel
theorem d_nt_roleCause_28 : decode b_nt_roleCause 28 = .ok (.bipush (-9), 2) := by decide +kernel
theorem d_nt_roleCause_30 : decode b_nt_roleCause 30 = .ok (.ireturn, 1) := by decide +kernel
theorem d_nt_hasReadyStation_0 : decode b_nt_hasReadyStation 0 = .ok (.iconst 0, 1) := by decide +kernel
theorem d_nt_hasReadyStation_1 : decode b_nt_hasReadyStation 1 = .ok (.istore_n 1, 1) := by decide +kernel
theorem d_nt_hasReadyStation_2 : decode b_nt_hasReadyStation 2 = .ok (.iload_n 1, 1) := by decide +kernel
theorem d_nt_hasReadyStation_3 : decode b_nt_hasReadyStation 3 = .ok (.aload_n 0, 1) := by decide +kernel
theorem d_nt_hasReadyStation_4 : decode b_nt_hasReadyStation 4 = .ok (.getfield 68, 3) := by decide +kernel
theorem d_nt_hasReadyStation_7 : decode b_nt_hasReadyStation 7 = .ok (.if_icmp .ge 27, 3) := by decide +kernel
theorem d_nt_hasReadyStation_10 : decode b_nt_hasReadyStation 10 = .ok (.aload_n 0, 1) := by decide +kernel
theorem d_nt_hasReadyStation_11 : decode b_nt_hasReadyStation 11 = .ok (.getfield 20, 3) := by decide +kernel
theorem d_nt_hasReadyStation_14 : decode b_nt_hasReadyStation 14 = .ok (.iload_n 1, 1) := by decide +kernel
theorem d_nt_hasReadyStation_15 : decode b_nt_hasReadyStation 15 = .ok (.aaload, 1) := by decide +kernel
theorem d_nt_hasReadyStation_16 : decode b_nt_hasReadyStation 16 = .ok (.aload_n 0, 1) := by decide +kernel
theorem d_nt_hasReadyStation_17 : decode b_nt_hasReadyStation 17 = .ok (.getfield 12, 3) := by decide +kernel
theorem d_nt_hasReadyStation_20 : decode b_nt_hasReadyStation 20 = .ok (.invokevirtual 187, 3) := by decide +kernel
theorem d_nt_hasReadyStation_23 : decode b_nt_hasReadyStation 23 = .ok (.ifCond .eq 5, 3) := by decide +kernel
theorem d_nt_hasReadyStation_26 : decode b_nt_hasReadyStation 26 = .ok (.iconst 1, 1) := by decide +kernel
theorem d_nt_hasReadyStation_27 : decode b_nt_hasReadyStation 27 = .ok (.ireturn, 1) := by decide +kernel
theorem d_nt_hasReadyStation_28 : decode b_nt_hasReadyStation 28 = .ok (.iinc 1 1, 3) := by decide +kernel
theorem d_nt_hasReadyStation_31 : decode b_nt_hasReadyStation 31 = .ok (.goto (-29), 3) := by decide +kernel
theorem d_nt_hasReadyStation_34 : decode b_nt_hasReadyStation 34 = .ok (.iconst 0, 1) := by decide +kernel
theorem d_nt_hasReadyStation_35 : decode b_nt_hasReadyStation 35 = .ok (.ireturn, 1) := by decide +kernel
theorem d_nt_chooseByDeficit_0 : decode b_nt_chooseByDeficit 0 = .ok (.iconst 0, 1) := by decide +kernel
theorem d_nt_chooseByDeficit_1 : decode b_nt_chooseByDeficit 1 = .ok (.istore_n 1, 1) := by decide +kernel
theorem d_nt_chooseByDeficit_2 : decode b_nt_chooseByDeficit 2 = .ok (.iload_n 1, 1) := by decide +kernel
theorem d_nt_chooseByDeficit_3 : decode b_nt_chooseByDeficit 3 = .ok (.ldc 191, 2) := by decide +kernel
theorem d_nt_chooseByDeficit_5 : decode b_nt_chooseByDeficit 5 = .ok (.if_icmp .ge 81, 3) := by decide +kernel
theorem d_nt_chooseByDeficit_8 : decode b_nt_chooseByDeficit 8 = .ok (.aload_n 0, 1) := by decide +kernel
theorem d_nt_chooseByDeficit_9 : decode b_nt_chooseByDeficit 9 = .ok (.aload_n 0, 1) := by decide +kernel
theorem d_nt_chooseByDeficit_10 : decode b_nt_chooseByDeficit 10 = .ok (.getfield 74, 3) := by decide +kernel
theorem d_nt_chooseByDeficit_13 : decode b_nt_chooseByDeficit 13 = .ok (.invokevirtual 77, 3) := by decide +kernel
theorem d_nt_chooseByDeficit_16 : decode b_nt_chooseByDeficit 16 = .ok (.astore_n 2, 1) := by decide +kernel
theorem d_nt_chooseByDeficit_17 : decode b_nt_chooseByDeficit 17 = .ok (.aload_n 2, 1) := by decide +kernel
theorem d_nt_chooseByDeficit_18 : decode b_nt_chooseByDeficit 18 = .ok (.ifnull 35, 3) := by decide +kernel
theorem d_nt_chooseByDeficit_21 : decode b_nt_chooseByDeficit 21 = .ok (.aload_n 2, 1) := by decide +kernel
theorem d_nt_chooseByDeficit_22 : decode b_nt_chooseByDeficit 22 = .ok (.aload_n 0, 1) := by decide +kernel
theorem d_nt_chooseByDeficit_23 : decode b_nt_chooseByDeficit 23 = .ok (.getfield 12, 3) := by decide +kernel
theorem d_nt_chooseByDeficit_26 : decode b_nt_chooseByDeficit 26 = .ok (.invokevirtual 187, 3) := by decide +kernel
theorem d_nt_chooseByDeficit_29 : decode b_nt_chooseByDeficit 29 = .ok (.ifCond .eq 24, 3) := by decide +kernel
theorem d_nt_chooseByDeficit_32 : decode b_nt_chooseByDeficit 32 = .ok (.aload_n 2, 1) := by decide +kernel
theorem d_nt_chooseByDeficit_33 : decode b_nt_chooseByDeficit 33 = .ok (.getfield 192, 3) := by decide +kernel
theorem d_nt_chooseByDeficit_36 : decode b_nt_chooseByDeficit 36 = .ok (.ifCond .le 5, 3) := by decide +kernel
theorem d_nt_chooseByDeficit_39 : decode b_nt_chooseByDeficit 39 = .ok (.aload_n 2, 1) := by decide +kernel
theorem d_nt_chooseByDeficit_40 : decode b_nt_chooseByDeficit 40 = .ok (.areturn, 1) := by decide +kernel
theorem d_nt_chooseByDeficit_41 : decode b_nt_chooseByDeficit 41 = .ok (.aload_n 2, 1) := by decide +kernel
theorem d_nt_chooseByDeficit_42 : decode b_nt_chooseByDeficit 42 = .ok (.dup, 1) := by decide +kernel
theorem d_nt_chooseByDeficit_43 : decode b_nt_chooseByDeficit 43 = .ok (.getfield 192, 3) := by decide +kernel
theorem d_nt_chooseByDeficit_46 : decode b_nt_chooseByDeficit 46 = .ok (.sipush 4000, 3) := by decide +kernel
theorem d_nt_chooseByDeficit_49 : decode b_nt_chooseByDeficit 49 = .ok (.iadd, 1) := by decide +kernel
theorem d_nt_chooseByDeficit_50 : decode b_nt_chooseByDeficit 50 = .ok (.putfield 192, 3) := by decide +kernel
theorem d_nt_chooseByDeficit_53 : decode b_nt_chooseByDeficit 53 = .ok (.aload_n 0, 1) := by decide +kernel
theorem d_nt_chooseByDeficit_54 : decode b_nt_chooseByDeficit 54 = .ok (.aload_n 0, 1) := by decide +kernel
theorem d_nt_chooseByDeficit_55 : decode b_nt_chooseByDeficit 55 = .ok (.getfield 74, 3) := by decide +kernel
theorem d_nt_chooseByDeficit_58 : decode b_nt_chooseByDeficit 58 = .ok (.iconst 1, 1) := by decide +kernel
theorem d_nt_chooseByDeficit_59 : decode b_nt_chooseByDeficit 59 = .ok (.iadd, 1) := by decide +kernel
theorem d_nt_chooseByDeficit_60 : decode b_nt_chooseByDeficit 60 = .ok (.aload_n 0, 1) := by decide +kernel
theorem d_nt_chooseByDeficit_61 : decode b_nt_chooseByDeficit 61 = .ok (.getfield 68, 3) := by decide +kernel
theorem d_nt_chooseByDeficit_64 : decode b_nt_chooseByDeficit 64 = .ok (.if_icmp .ge 12, 3) := by decide +kernel
theorem d_nt_chooseByDeficit_67 : decode b_nt_chooseByDeficit 67 = .ok (.aload_n 0, 1) := by decide +kernel
theorem d_nt_chooseByDeficit_68 : decode b_nt_chooseByDeficit 68 = .ok (.getfield 74, 3) := by decide +kernel
theorem d_nt_chooseByDeficit_71 : decode b_nt_chooseByDeficit 71 = .ok (.iconst 1, 1) := by decide +kernel
theorem d_nt_chooseByDeficit_72 : decode b_nt_chooseByDeficit 72 = .ok (.iadd, 1) := by decide +kernel
theorem d_nt_chooseByDeficit_73 : decode b_nt_chooseByDeficit 73 = .ok (.goto 4, 3) := by decide +kernel
theorem d_nt_chooseByDeficit_76 : decode b_nt_chooseByDeficit 76 = .ok (.iconst 0, 1) := by decide +kernel
theorem d_nt_chooseByDeficit_77 : decode b_nt_chooseByDeficit 77 = .ok (.putfield 74, 3) := by decide +kernel
theorem d_nt_chooseByDeficit_80 : decode b_nt_chooseByDeficit 80 = .ok (.iinc 1 1, 3) := by decide +kernel
theorem d_nt_chooseByDeficit_83 : decode b_nt_chooseByDeficit 83 = .ok (.goto (-81), 3) := by decide +kernel
theorem d_nt_chooseByDeficit_86 : decode b_nt_chooseByDeficit 86 = .ok (.aconst_null, 1) := by decide +kernel
theorem d_nt_chooseByDeficit_87 : decode b_nt_chooseByDeficit 87 = .ok (.areturn, 1) := by decide +kernel
theorem d_nt_timeOfTries_0 : decode b_nt_timeOfTries 0 = .ok (.iload_n 2, 1) := by decide +kernel
theorem d_nt_timeOfTries_1 : decode b_nt_timeOfTries 1 = .ok (.istore_n 3, 1) := by decide +kernel
theorem d_nt_timeOfTries_2 : decode b_nt_timeOfTries 2 = .ok (.iconst 0, 1) := by decide +kernel
theorem d_nt_timeOfTries_3 : decode b_nt_timeOfTries 3 = .ok (.istore 4, 2) := by decide +kernel
theorem d_nt_timeOfTries_5 : decode b_nt_timeOfTries 5 = .ok (.iconst 0, 1) := by decide +kernel
theorem d_nt_timeOfTries_6 : decode b_nt_timeOfTries 6 = .ok (.istore 5, 2) := by decide +kernel
theorem d_nt_timeOfTries_8 : decode b_nt_timeOfTries 8 = .ok (.iload 5, 2) := by decide +kernel
theorem d_nt_timeOfTries_10 : decode b_nt_timeOfTries 10 = .ok (.iconst 4, 1) := by decide +kernel
theorem d_nt_timeOfTries_11 : decode b_nt_timeOfTries 11 = .ok (.if_icmp .ge 68, 3) := by decide +kernel
theorem d_nt_timeOfTries_14 : decode b_nt_timeOfTries 14 = .ok (.iload_n 3, 1) := by decide +kernel
theorem d_nt_timeOfTries_15 : decode b_nt_timeOfTries 15 = .ok (.aload_n 1, 1) := by decide +kernel
theorem d_nt_timeOfTries_16 : decode b_nt_timeOfTries 16 = .ok (.getfield 127, 3) := by decide +kernel
theorem d_nt_timeOfTries_19 : decode b_nt_timeOfTries 19 = .ok (.iload 5, 2) := by decide +kernel
theorem d_nt_timeOfTries_21 : decode b_nt_timeOfTries 21 = .ok (.iaload, 1) := by decide +kernel
theorem d_nt_timeOfTries_22 : decode b_nt_timeOfTries 22 = .ok (.invokestatic 195, 3) := by decide +kernel
theorem d_nt_timeOfTries_25 : decode b_nt_timeOfTries 25 = .ok (.istore 6, 2) := by decide +kernel
theorem d_nt_timeOfTries_27 : decode b_nt_timeOfTries 27 = .ok (.iconst 0, 1) := by decide +kernel
theorem d_nt_timeOfTries_28 : decode b_nt_timeOfTries 28 = .ok (.istore 7, 2) := by decide +kernel
theorem d_nt_timeOfTries_30 : decode b_nt_timeOfTries 30 = .ok (.iload 7, 2) := by decide +kernel
theorem d_nt_timeOfTries_32 : decode b_nt_timeOfTries 32 = .ok (.iload 6, 2) := by decide +kernel
theorem d_nt_timeOfTries_34 : decode b_nt_timeOfTries 34 = .ok (.if_icmp .ge 34, 3) := by decide +kernel
theorem d_nt_timeOfTries_37 : decode b_nt_timeOfTries 37 = .ok (.iload 4, 2) := by decide +kernel
theorem d_nt_timeOfTries_39 : decode b_nt_timeOfTries 39 = .ok (.aload_n 0, 1) := by decide +kernel
theorem d_nt_timeOfTries_40 : decode b_nt_timeOfTries 40 = .ok (.getfield 12, 3) := by decide +kernel
theorem d_nt_timeOfTries_43 : decode b_nt_timeOfTries 43 = .ok (.aload_n 1, 1) := by decide +kernel
theorem d_nt_timeOfTries_44 : decode b_nt_timeOfTries 44 = .ok (.getfield 131, 3) := by decide +kernel
theorem d_nt_timeOfTries_47 : decode b_nt_timeOfTries 47 = .ok (.iload 5, 2) := by decide +kernel
theorem d_nt_timeOfTries_49 : decode b_nt_timeOfTries 49 = .ok (.iaload, 1) := by decide +kernel
theorem d_nt_timeOfTries_50 : decode b_nt_timeOfTries 50 = .ok (.aload_n 1, 1) := by decide +kernel
theorem d_nt_timeOfTries_51 : decode b_nt_timeOfTries 51 = .ok (.getfield 103, 3) := by decide +kernel
theorem d_nt_timeOfTries_54 : decode b_nt_timeOfTries 54 = .ok (.iload 7, 2) := by decide +kernel
theorem d_nt_timeOfTries_56 : decode b_nt_timeOfTries 56 = .ok (.invokevirtual 198, 3) := by decide +kernel
theorem d_nt_timeOfTries_59 : decode b_nt_timeOfTries 59 = .ok (.iadd, 1) := by decide +kernel
theorem d_nt_timeOfTries_60 : decode b_nt_timeOfTries 60 = .ok (.istore 4, 2) := by decide +kernel
theorem d_nt_timeOfTries_62 : decode b_nt_timeOfTries 62 = .ok (.iinc 7 1, 3) := by decide +kernel
theorem d_nt_timeOfTries_65 : decode b_nt_timeOfTries 65 = .ok (.goto (-35), 3) := by decide +kernel
theorem d_nt_timeOfTries_68 : decode b_nt_timeOfTries 68 = .ok (.iload_n 3, 1) := by decide +kernel
theorem d_nt_timeOfTries_69 : decode b_nt_timeOfTries 69 = .ok (.iload 6, 2) := by decide +kernel
theorem d_nt_timeOfTries_71 : decode b_nt_timeOfTries 71 = .ok (.isub, 1) := by decide +kernel
theorem d_nt_timeOfTries_72 : decode b_nt_timeOfTries 72 = .ok (.istore_n 3, 1) := by decide +kernel
theorem d_nt_timeOfTries_73 : decode b_nt_timeOfTries 73 = .ok (.iinc 5 1, 3) := by decide +kernel
theorem d_nt_timeOfTries_76 : decode b_nt_timeOfTries 76 = .ok (.goto (-68), 3) := by decide +kernel
theorem d_nt_timeOfTries_79 : decode b_nt_timeOfTries 79 = .ok (.iload 4, 2) := by decide +kernel
theorem d_nt_timeOfTries_81 : decode b_nt_timeOfTries 81 = .ok (.ireturn, 1) := by decide +kernel
theorem d_nt_conclude_0 : decode b_nt_conclude 0 = .ok (.aload_n 0, 1) := by decide +kernel
theorem d_nt_conclude_1 : decode b_nt_conclude 1 = .ok (.aload_n 1, 1) := by decide +kernel
theorem d_nt_conclude_2 : decode b_nt_conclude 2 = .ok (.getfield 100, 3) := by decide +kernel
theorem d_nt_conclude_5 : decode b_nt_conclude 5 = .ok (.invokevirtual 77, 3) := by decide +kernel
theorem d_nt_conclude_8 : decode b_nt_conclude 8 = .ok (.astore 4, 2) := by decide +kernel
theorem d_nt_conclude_10 : decode b_nt_conclude 10 = .ok (.aload 4, 2) := by decide +kernel
theorem d_nt_conclude_12 : decode b_nt_conclude 12 = .ok (.ifnonnull 4, 3) := by decide +kernel
theorem d_nt_conclude_15 : decode b_nt_conclude 15 = .ok (.return_, 1) := by decide +kernel
theorem d_nt_conclude_16 : decode b_nt_conclude 16 = .ok (.aload_n 1, 1) := by decide +kernel
theorem d_nt_conclude_17 : decode b_nt_conclude 17 = .ok (.iconst 0, 1) := by decide +kernel
theorem d_nt_conclude_18 : decode b_nt_conclude 18 = .ok (.putfield 89, 3) := by decide +kernel
theorem d_nt_conclude_21 : decode b_nt_conclude 21 = .ok (.aload_n 0, 1) := by decide +kernel
theorem d_nt_conclude_22 : decode b_nt_conclude 22 = .ok (.aload 4, 2) := by decide +kernel
theorem d_nt_conclude_24 : decode b_nt_conclude 24 = .ok (.aload_n 1, 1) := by decide +kernel
theorem d_nt_conclude_25 : decode b_nt_conclude 25 = .ok (.iload_n 2, 1) := by decide +kernel
theorem d_nt_conclude_26 : decode b_nt_conclude 26 = .ok (.iload_n 3, 1) := by decide +kernel
theorem d_nt_conclude_27 : decode b_nt_conclude 27 = .ok (.invokevirtual 201, 3) := by decide +kernel
theorem d_nt_conclude_30 : decode b_nt_conclude 30 = .ok (.aload_n 0, 1) := by decide +kernel
theorem d_nt_conclude_31 : decode b_nt_conclude 31 = .ok (.aload_n 1, 1) := by decide +kernel
theorem d_nt_conclude_32 : decode b_nt_conclude 32 = .ok (.iload_n 2, 1) := by decide +kernel
theorem d_nt_conclude_33 : decode b_nt_conclude 33 = .ok (.invokevirtual 205, 3) := by decide +kernel
theorem d_nt_conclude_36 : decode b_nt_conclude 36 = .ok (.istore 5, 2) := by decide +kernel
theorem d_nt_conclude_38 : decode b_nt_conclude 38 = .ok (.aload_n 0, 1) := by decide +kernel
theorem d_nt_conclude_39 : decode b_nt_conclude 39 = .ok (.dup, 1) := by decide +kernel
theorem d_nt_conclude_40 : decode b_nt_conclude 40 = .ok (.getfield 71, 3) := by decide +kernel
theorem d_nt_conclude_43 : decode b_nt_conclude 43 = .ok (.iload 5, 2) := by decide +kernel
theorem d_nt_conclude_45 : decode b_nt_conclude 45 = .ok (.iadd, 1) := by decide +kernel
theorem d_nt_conclude_46 : decode b_nt_conclude 46 = .ok (.putfield 71, 3) := by decide +kernel
theorem d_nt_conclude_49 : decode b_nt_conclude 49 = .ok (.aload 4, 2) := by decide +kernel
theorem d_nt_conclude_51 : decode b_nt_conclude 51 = .ok (.ldc 209, 2) := by decide +kernel
theorem d_nt_conclude_53 : decode b_nt_conclude 53 = .ok (.aload 4, 2) := by decide +kernel
theorem d_nt_conclude_55 : decode b_nt_conclude 55 = .ok (.getfield 192, 3) := by decide +kernel
theorem d_nt_conclude_58 : decode b_nt_conclude 58 = .ok (.iload 5, 2) := by decide +kernel
theorem d_nt_conclude_60 : decode b_nt_conclude 60 = .ok (.isub, 1) := by decide +kernel
theorem d_nt_conclude_61 : decode b_nt_conclude 61 = .ok (.invokestatic 163, 3) := by decide +kernel
theorem d_nt_conclude_64 : decode b_nt_conclude 64 = .ok (.putfield 192, 3) := by decide +kernel
theorem d_nt_conclude_67 : decode b_nt_conclude 67 = .ok (.iload_n 3, 1) := by decide +kernel
theorem d_nt_conclude_68 : decode b_nt_conclude 68 = .ok (.ifCond .eq 27, 3) := by decide +kernel
theorem d_nt_conclude_71 : decode b_nt_conclude 71 = .ok (.aload 4, 2) := by decide +kernel
theorem d_nt_conclude_73 : decode b_nt_conclude 73 = .ok (.dup, 1) := by decide +kernel
theorem d_nt_conclude_74 : decode b_nt_conclude 74 = .ok (.getfield 210, 3) := by decide +kernel
theorem d_nt_conclude_77 : decode b_nt_conclude 77 = .ok (.iconst 1, 1) := by decide +kernel
theorem d_nt_conclude_78 : decode b_nt_conclude 78 = .ok (.iadd, 1) := by decide +kernel
theorem d_nt_conclude_79 : decode b_nt_conclude 79 = .ok (.putfield 210, 3) := by decide +kernel
theorem d_nt_conclude_82 : decode b_nt_conclude 82 = .ok (.aload 4, 2) := by decide +kernel
theorem d_nt_conclude_84 : decode b_nt_conclude 84 = .ok (.iconst 0, 1) := by decide +kernel
theorem d_nt_conclude_85 : decode b_nt_conclude 85 = .ok (.putfield 213, 3) := by decide +kernel
theorem d_nt_conclude_88 : decode b_nt_conclude 88 = .ok (.aload_n 0, 1) := by decide +kernel
theorem d_nt_conclude_89 : decode b_nt_conclude 89 = .ok (.aload 4, 2) := by decide +kernel
theorem d_nt_conclude_91 : decode b_nt_conclude 91 = .ok (.invokevirtual 216, 3) := by decide +kernel
theorem d_nt_conclude_94 : decode b_nt_conclude 94 = .ok (.return_, 1) := by decide +kernel
theorem d_nt_conclude_95 : decode b_nt_conclude 95 = .ok (.aload 4, 2) := by decide +kernel
theorem d_nt_conclude_97 : decode b_nt_conclude 97 = .ok (.dup, 1) := by decide +kernel
theorem d_nt_conclude_98 : decode b_nt_conclude 98 = .ok (.getfield 219, 3) := by decide +kernel
theorem d_nt_conclude_101 : decode b_nt_conclude 101 = .ok (.iconst 1, 1) := by decide +kernel
theorem d_nt_conclude_102 : decode b_nt_conclude 102 = .ok (.iadd, 1) := by decide +kernel
theorem d_nt_conclude_103 : decode b_nt_conclude 103 = .ok (.putfield 219, 3) := by decide +kernel
theorem d_nt_conclude_106 : decode b_nt_conclude 106 = .ok (.aload 4, 2) := by decide +kernel
theorem d_nt_conclude_108 : decode b_nt_conclude 108 = .ok (.dup, 1) := by decide +kernel
theorem d_nt_conclude_109 : decode b_nt_conclude 109 = .ok (.getfield 213, 3) := by decide +kernel
theorem d_nt_conclude_112 : decode b_nt_conclude 112 = .ok (.iconst 1, 1) := by decide +kernel
theorem d_nt_conclude_113 : decode b_nt_conclude 113 = .ok (.iadd, 1) := by decide +kernel
theorem d_nt_conclude_114 : decode b_nt_conclude 114 = .ok (.putfield 213, 3) := by decide +kernel
theorem d_nt_conclude_117 : decode b_nt_conclude 117 = .ok (.aload 4, 2) := by decide +kernel
theorem d_nt_conclude_119 : decode b_nt_conclude 119 = .ok (.getfield 213, 3) := by decide +kernel
theorem d_nt_conclude_122 : decode b_nt_conclude 122 = .ok (.iconst 3, 1) := by decide +kernel
theorem d_nt_conclude_123 : decode b_nt_conclude 123 = .ok (.if_icmp .ne 9, 3) := by decide +kernel
theorem d_nt_conclude_126 : decode b_nt_conclude 126 = .ok (.aload_n 0, 1) := by decide +kernel
theorem d_nt_conclude_127 : decode b_nt_conclude 127 = .ok (.aload 4, 2) := by decide +kernel
theorem d_nt_conclude_129 : decode b_nt_conclude 129 = .ok (.invokevirtual 222, 3) := by decide +kernel
theorem d_nt_conclude_132 : decode b_nt_conclude 132 = .ok (.return_, 1) := by decide +kernel
theorem d_nt_countTries_0 : decode b_nt_countTries 0 = .ok (.iload_n 3, 1) := by decide +kernel
theorem d_nt_countTries_1 : decode b_nt_countTries 1 = .ok (.istore 5, 2) := by decide +kernel
theorem d_nt_countTries_3 : decode b_nt_countTries 3 = .ok (.iconst 0, 1) := by decide +kernel
theorem d_nt_countTries_4 : decode b_nt_countTries 4 = .ok (.istore 6, 2) := by decide +kernel
theorem d_nt_countTries_6 : decode b_nt_countTries 6 = .ok (.iload 6, 2) := by decide +kernel
theorem d_nt_countTries_8 : decode b_nt_countTries 8 = .ok (.iconst 4, 1) := by decide +kernel
theorem d_nt_countTries_9 : decode b_nt_countTries 9 = .ok (.if_icmp .ge 83, 3) := by decide +kernel
theorem d_nt_countTries_12 : decode b_nt_countTries 12 = .ok (.iload 5, 2) := by decide +kernel
theorem d_nt_countTries_14 : decode b_nt_countTries 14 = .ok (.aload_n 2, 1) := by decide +kernel
theorem d_nt_countTries_15 : decode b_nt_countTries 15 = .ok (.getfield 127, 3) := by decide +kernel
theorem d_nt_countTries_18 : decode b_nt_countTries 18 = .ok (.iload 6, 2) := by decide +kernel
theorem d_nt_countTries_20 : decode b_nt_countTries 20 = .ok (.iaload, 1) := by decide +kernel
theorem d_nt_countTries_21 : decode b_nt_countTries 21 = .ok (.invokestatic 195, 3) := by decide +kernel
theorem d_nt_countTries_24 : decode b_nt_countTries 24 = .ok (.istore 7, 2) := by decide +kernel
theorem d_nt_countTries_26 : decode b_nt_countTries 26 = .ok (.aload_n 2, 1) := by decide +kernel
theorem d_nt_countTries_27 : decode b_nt_countTries 27 = .ok (.getfield 131, 3) := by decide +kernel
theorem d_nt_countTries_30 : decode b_nt_countTries 30 = .ok (.iload 6, 2) := by decide +kernel
theorem d_nt_countTries_32 : decode b_nt_countTries 32 = .ok (.iaload, 1) := by decide +kernel
theorem d_nt_countTries_33 : decode b_nt_countTries 33 = .ok (.istore 8, 2) := by decide +kernel
theorem d_nt_countTries_35 : decode b_nt_countTries 35 = .ok (.iload 5, 2) := by decide +kernel
theorem d_nt_countTries_37 : decode b_nt_countTries 37 = .ok (.iload 7, 2) := by decide +kernel
theorem d_nt_countTries_39 : decode b_nt_countTries 39 = .ok (.isub, 1) := by decide +kernel
theorem d_nt_countTries_40 : decode b_nt_countTries 40 = .ok (.istore 5, 2) := by decide +kernel
theorem d_nt_countTries_42 : decode b_nt_countTries 42 = .ok (.iload 7, 2) := by decide +kernel
theorem d_nt_countTries_44 : decode b_nt_countTries 44 = .ok (.ifCond .le 42, 3) := by decide +kernel
theorem d_nt_countTries_47 : decode b_nt_countTries 47 = .ok (.aload_n 0, 1) := by decide +kernel
theorem d_nt_countTries_48 : decode b_nt_countTries 48 = .ok (.getfield 12, 3) := by decide +kernel
theorem d_nt_countTries_51 : decode b_nt_countTries 51 = .ok (.iload 8, 2) := by decide +kernel
theorem d_nt_countTries_53 : decode b_nt_countTries 53 = .ok (.invokevirtual 81, 3) := by decide +kernel
theorem d_nt_countTries_56 : decode b_nt_countTries 56 = .ok (.ifCond .eq 30, 3) := by decide +kernel
theorem d_nt_countTries_59 : decode b_nt_countTries 59 = .ok (.aload_n 1, 1) := by decide +kernel
theorem d_nt_countTries_60 : decode b_nt_countTries 60 = .ok (.getfield 85, 3) := by decide +kernel
theorem d_nt_countTries_63 : decode b_nt_countTries 63 = .ok (.iload 8, 2) := by decide +kernel
theorem d_nt_countTries_65 : decode b_nt_countTries 65 = .ok (.aaload, 1) := by decide +kernel
theorem d_nt_countTries_66 : decode b_nt_countTries 66 = .ok (.iload 7, 2) := by decide +kernel
theorem d_nt_countTries_68 : decode b_nt_countTries 68 = .ok (.iload 4, 2) := by decide +kernel
theorem d_nt_countTries_70 : decode b_nt_countTries 70 = .ok (.ifCond .eq 12, 3) := by decide +kernel
theorem d_nt_countTries_73 : decode b_nt_countTries 73 = .ok (.iload 5, 2) := by decide +kernel
theorem d_nt_countTries_75 : decode b_nt_countTries 75 = .ok (.ifCond .ne 7, 3) := by decide +kernel
theorem d_nt_countTries_78 : decode b_nt_countTries 78 = .ok (.iconst 1, 1) := by decide +kernel
theorem d_nt_countTries_79 : decode b_nt_countTries 79 = .ok (.goto 4, 3) := by decide +kernel
theorem d_nt_countTries_82 : decode b_nt_countTries 82 = .ok (.iconst 0, 1) := by decide +kernel
theorem d_nt_countTries_83 : decode b_nt_countTries 83 = .ok (.invokevirtual 225, 3) := by decide +kernel
theorem d_nt_countTries_86 : decode b_nt_countTries 86 = .ok (.iinc 6 1, 3) := by decide +kernel
theorem d_nt_countTries_89 : decode b_nt_countTries 89 = .ok (.goto (-83), 3) := by decide +kernel
theorem d_nt_countTries_92 : decode b_nt_countTries 92 = .ok (.return_, 1) := by decide +kernel
theorem d_nt_beginFallback_0 : decode b_nt_beginFallback 0 = .ok (.aload_n 1, 1) := by decide +kernel
theorem d_nt_beginFallback_1 : decode b_nt_beginFallback 1 = .ok (.getfield 113, 3) := by decide +kernel
theorem d_nt_beginFallback_4 : decode b_nt_beginFallback 4 = .ok (.ifCond .ne 26, 3) := by decide +kernel
theorem d_nt_beginFallback_7 : decode b_nt_beginFallback 7 = .ok (.aload_n 1, 1) := by decide +kernel
theorem d_nt_beginFallback_8 : decode b_nt_beginFallback 8 = .ok (.iconst 1, 1) := by decide +kernel
theorem d_nt_beginFallback_9 : decode b_nt_beginFallback 9 = .ok (.putfield 113, 3) := by decide +kernel
theorem d_nt_beginFallback_12 : decode b_nt_beginFallback 12 = .ok (.aload_n 0, 1) := by decide +kernel
theorem d_nt_beginFallback_13 : decode b_nt_beginFallback 13 = .ok (.getfield 33, 3) := by decide +kernel
theorem d_nt_beginFallback_16 : decode b_nt_beginFallback 16 = .ok (.iconst 3, 1) := by decide +kernel
theorem d_nt_beginFallback_17 : decode b_nt_beginFallback 17 = .ok (.aload_n 1, 1) := by decide +kernel
theorem d_nt_beginFallback_18 : decode b_nt_beginFallback 18 = .ok (.getfield 97, 3) := by decide +kernel
theorem d_nt_beginFallback_21 : decode b_nt_beginFallback 21 = .ok (.bipush (-9), 2) := by decide +kernel
theorem d_nt_beginFallback_23 : decode b_nt_beginFallback 23 = .ok (.aload_n 0, 1) := by decide +kernel
theorem d_nt_beginFallback_24 : decode b_nt_beginFallback 24 = .ok (.getfield 71, 3) := by decide +kernel
theorem d_nt_beginFallback_27 : decode b_nt_beginFallback 27 = .ok (.invokevirtual 228, 3) := by decide +kernel
theorem d_nt_beginFallback_30 : decode b_nt_beginFallback 30 = .ok (.return_, 1) := by decide +kernel
theorem d_nt_endFallback_0 : decode b_nt_endFallback 0 = .ok (.aload_n 1, 1) := by decide +kernel
theorem d_nt_endFallback_1 : decode b_nt_endFallback 1 = .ok (.getfield 113, 3) := by decide +kernel
theorem d_nt_endFallback_4 : decode b_nt_endFallback 4 = .ok (.ifCond .eq 26, 3) := by decide +kernel
theorem d_nt_endFallback_7 : decode b_nt_endFallback 7 = .ok (.aload_n 1, 1) := by decide +kernel
theorem d_nt_endFallback_8 : decode b_nt_endFallback 8 = .ok (.iconst 0, 1) := by decide +kernel
theorem d_nt_endFallback_9 : decode b_nt_endFallback 9 = .ok (.putfield 113, 3) := by decide +kernel
theorem d_nt_endFallback_12 : decode b_nt_endFallback 12 = .ok (.aload_n 0, 1) := by decide +kernel
theorem d_nt_endFallback_13 : decode b_nt_endFallback 13 = .ok (.getfield 33, 3) := by decide +kernel
theorem d_nt_endFallback_16 : decode b_nt_endFallback 16 = .ok (.iconst 4, 1) := by decide +kernel
theorem d_nt_endFallback_17 : decode b_nt_endFallback 17 = .ok (.aload_n 1, 1) := by decide +kernel
theorem d_nt_endFallback_18 : decode b_nt_endFallback 18 = .ok (.getfield 97, 3) := by decide +kernel
theorem d_nt_endFallback_21 : decode b_nt_endFallback 21 = .ok (.bipush (-9), 2) := by decide +kernel
theorem d_nt_endFallback_23 : decode b_nt_endFallback 23 = .ok (.aload_n 0, 1) := by decide +kernel
theorem d_nt_endFallback_24 : decode b_nt_endFallback 24 = .ok (.getfield 71, 3) := by decide +kernel
theorem d_nt_endFallback_27 : decode b_nt_endFallback 27 = .ok (.invokevirtual 228, 3) := by decide +kernel
theorem d_nt_endFallback_30 : decode b_nt_endFallback 30 = .ok (.return_, 1) := by decide +kernel
theorem d_nt_updateEnded_0 : decode b_nt_updateEnded 0 = .ok (.iconst 0, 1) := by decide +kernel
theorem d_nt_updateEnded_1 : decode b_nt_updateEnded 1 = .ok (.istore_n 1, 1) := by decide +kernel
theorem d_nt_updateEnded_2 : decode b_nt_updateEnded 2 = .ok (.iload_n 1, 1) := by decide +kernel
theorem d_nt_updateEnded_3 : decode b_nt_updateEnded 3 = .ok (.aload_n 0, 1) := by decide +kernel
theorem d_nt_updateEnded_4 : decode b_nt_updateEnded 4 = .ok (.getfield 68, 3) := by decide +kernel
theorem d_nt_updateEnded_7 : decode b_nt_updateEnded 7 = .ok (.if_icmp .ge 38, 3) := by decide +kernel
theorem d_nt_updateEnded_10 : decode b_nt_updateEnded 10 = .ok (.aload_n 0, 1) := by decide +kernel
theorem d_nt_updateEnded_11 : decode b_nt_updateEnded 11 = .ok (.getfield 20, 3) := by decide +kernel
theorem d_nt_updateEnded_14 : decode b_nt_updateEnded 14 = .ok (.iload_n 1, 1) := by decide +kernel
theorem d_nt_updateEnded_15 : decode b_nt_updateEnded 15 = .ok (.aaload, 1) := by decide +kernel
theorem d_nt_updateEnded_16 : decode b_nt_updateEnded 16 = .ok (.getfield 231, 3) := by decide +kernel
theorem d_nt_updateEnded_19 : decode b_nt_updateEnded 19 = .ok (.aload_n 0, 1) := by decide +kernel
theorem d_nt_updateEnded_20 : decode b_nt_updateEnded 20 = .ok (.getfield 71, 3) := by decide +kernel
theorem d_nt_updateEnded_23 : decode b_nt_updateEnded 23 = .ok (.i2l, 1) := by decide +kernel
theorem d_nt_updateEnded_24 : decode b_nt_updateEnded 24 = .ok (.lcmp, 1) := by decide +kernel
theorem d_nt_updateEnded_25 : decode b_nt_updateEnded 25 = .ok (.ifCond .gt 14, 3) := by decide +kernel
theorem d_nt_updateEnded_28 : decode b_nt_updateEnded 28 = .ok (.aload_n 0, 1) := by decide +kernel
theorem d_nt_updateEnded_29 : decode b_nt_updateEnded 29 = .ok (.aload_n 0, 1) := by decide +kernel
theorem d_nt_updateEnded_30 : decode b_nt_updateEnded 30 = .ok (.getfield 20, 3) := by decide +kernel
theorem d_nt_updateEnded_33 : decode b_nt_updateEnded 33 = .ok (.iload_n 1, 1) := by decide +kernel
theorem d_nt_updateEnded_34 : decode b_nt_updateEnded 34 = .ok (.aaload, 1) := by decide +kernel
theorem d_nt_updateEnded_35 : decode b_nt_updateEnded 35 = .ok (.invokevirtual 235, 3) := by decide +kernel
theorem d_nt_updateEnded_38 : decode b_nt_updateEnded 38 = .ok (.pop, 1) := by decide +kernel
theorem d_nt_updateEnded_39 : decode b_nt_updateEnded 39 = .ok (.iinc 1 1, 3) := by decide +kernel
theorem d_nt_updateEnded_42 : decode b_nt_updateEnded 42 = .ok (.goto (-40), 3) := by decide +kernel
theorem d_nt_updateEnded_45 : decode b_nt_updateEnded 45 = .ok (.return_, 1) := by decide +kernel
theorem d_nt_refresh_0 : decode b_nt_refresh 0 = .ok (.aload_n 1, 1) := by decide +kernel
theorem d_nt_refresh_1 : decode b_nt_refresh 1 = .ok (.getfield 137, 3) := by decide +kernel
theorem d_nt_refresh_4 : decode b_nt_refresh 4 = .ok (.iconst 0, 1) := by decide +kernel
theorem d_nt_refresh_5 : decode b_nt_refresh 5 = .ok (.iaload, 1) := by decide +kernel
theorem d_nt_refresh_6 : decode b_nt_refresh 6 = .ok (.istore_n 2, 1) := by decide +kernel
theorem d_nt_refresh_7 : decode b_nt_refresh 7 = .ok (.aload_n 1, 1) := by decide +kernel
theorem d_nt_refresh_8 : decode b_nt_refresh 8 = .ok (.aload_n 0, 1) := by decide +kernel
theorem d_nt_refresh_9 : decode b_nt_refresh 9 = .ok (.getfield 12, 3) := by decide +kernel
theorem d_nt_refresh_12 : decode b_nt_refresh 12 = .ok (.invokevirtual 238, 3) := by decide +kernel
theorem d_nt_refresh_15 : decode b_nt_refresh 15 = .ok (.istore_n 3, 1) := by decide +kernel
theorem d_nt_refresh_16 : decode b_nt_refresh 16 = .ok (.aload_n 1, 1) := by decide +kernel
theorem d_nt_refresh_17 : decode b_nt_refresh 17 = .ok (.aload_n 0, 1) := by decide +kernel
theorem d_nt_refresh_18 : decode b_nt_refresh 18 = .ok (.getfield 12, 3) := by decide +kernel
theorem d_nt_refresh_21 : decode b_nt_refresh 21 = .ok (.invokevirtual 242, 3) := by decide +kernel
theorem d_nt_refresh_24 : decode b_nt_refresh 24 = .ok (.ifCond .eq 37, 3) := by decide +kernel
theorem d_nt_refresh_27 : decode b_nt_refresh 27 = .ok (.aload_n 1, 1) := by decide +kernel
theorem d_nt_refresh_28 : decode b_nt_refresh 28 = .ok (.aload_n 0, 1) := by decide +kernel
theorem d_nt_refresh_29 : decode b_nt_refresh 29 = .ok (.getfield 12, 3) := by decide +kernel
theorem d_nt_refresh_32 : decode b_nt_refresh 32 = .ok (.invokevirtual 245, 3) := by decide +kernel
theorem d_nt_refresh_35 : decode b_nt_refresh 35 = .ok (.aload_n 0, 1) := by decide +kernel
theorem d_nt_refresh_36 : decode b_nt_refresh 36 = .ok (.getfield 33, 3) := by decide +kernel
theorem d_nt_refresh_39 : decode b_nt_refresh 39 = .ok (.iconst 2, 1) := by decide +kernel
theorem d_nt_refresh_40 : decode b_nt_refresh 40 = .ok (.aload_n 1, 1) := by decide +kernel
theorem d_nt_refresh_41 : decode b_nt_refresh 41 = .ok (.getfield 97, 3) := by decide +kernel
theorem d_nt_refresh_44 : decode b_nt_refresh 44 = .ok (.bipush (-9), 2) := by decide +kernel
theorem d_nt_refresh_46 : decode b_nt_refresh 46 = .ok (.aload_n 0, 1) := by decide +kernel
theorem d_nt_refresh_47 : decode b_nt_refresh 47 = .ok (.getfield 71, 3) := by decide +kernel
theorem d_nt_refresh_50 : decode b_nt_refresh 50 = .ok (.invokevirtual 228, 3) := by decide +kernel
theorem d_nt_refresh_53 : decode b_nt_refresh 53 = .ok (.aload_n 0, 1) := by decide +kernel
theorem d_nt_refresh_54 : decode b_nt_refresh 54 = .ok (.aload_n 1, 1) := by decide +kernel
theorem d_nt_refresh_55 : decode b_nt_refresh 55 = .ok (.invokevirtual 222, 3) := by decide +kernel
theorem d_nt_refresh_58 : decode b_nt_refresh 58 = .ok (.goto 13, 3) := by decide +kernel
theorem d_nt_refresh_61 : decode b_nt_refresh 61 = .ok (.aload_n 0, 1) := by decide +kernel
theorem d_nt_refresh_62 : decode b_nt_refresh 62 = .ok (.aload_n 1, 1) := by decide +kernel
theorem d_nt_refresh_63 : decode b_nt_refresh 63 = .ok (.invokevirtual 248, 3) := by decide +kernel
theorem d_nt_refresh_66 : decode b_nt_refresh 66 = .ok (.aload_n 0, 1) := by decide +kernel
theorem d_nt_refresh_67 : decode b_nt_refresh 67 = .ok (.aload_n 1, 1) := by decide +kernel
theorem d_nt_refresh_68 : decode b_nt_refresh 68 = .ok (.invokevirtual 216, 3) := by decide +kernel
theorem d_nt_refresh_71 : decode b_nt_refresh 71 = .ok (.aload_n 1, 1) := by decide +kernel
theorem d_nt_refresh_72 : decode b_nt_refresh 72 = .ok (.aload_n 0, 1) := by decide +kernel
theorem d_nt_refresh_73 : decode b_nt_refresh 73 = .ok (.getfield 12, 3) := by decide +kernel
theorem d_nt_refresh_76 : decode b_nt_refresh 76 = .ok (.aload_n 0, 1) := by decide +kernel
theorem d_nt_refresh_77 : decode b_nt_refresh 77 = .ok (.invokevirtual 251, 3) := by decide +kernel
theorem d_nt_refresh_80 : decode b_nt_refresh 80 = .ok (.invokevirtual 255, 3) := by decide +kernel
theorem d_nt_refresh_83 : decode b_nt_refresh 83 = .ok (.aload_n 1, 1) := by decide +kernel
theorem d_nt_refresh_84 : decode b_nt_refresh 84 = .ok (.aload_n 0, 1) := by decide +kernel
theorem d_nt_refresh_85 : decode b_nt_refresh 85 = .ok (.getfield 12, 3) := by decide +kernel
theorem d_nt_refresh_88 : decode b_nt_refresh 88 = .ok (.invokevirtual 259, 3) := by decide +kernel
theorem d_nt_refresh_91 : decode b_nt_refresh 91 = .ok (.aload_n 1, 1) := by decide +kernel
theorem d_nt_refresh_92 : decode b_nt_refresh 92 = .ok (.getfield 137, 3) := by decide +kernel
theorem d_nt_refresh_95 : decode b_nt_refresh 95 = .ok (.iconst 0, 1) := by decide +kernel
theorem d_nt_refresh_96 : decode b_nt_refresh 96 = .ok (.iaload, 1) := by decide +kernel
theorem d_nt_refresh_97 : decode b_nt_refresh 97 = .ok (.iload_n 2, 1) := by decide +kernel
theorem d_nt_refresh_98 : decode b_nt_refresh 98 = .ok (.if_icmp .eq 25, 3) := by decide +kernel
theorem d_nt_refresh_101 : decode b_nt_refresh 101 = .ok (.aload_n 0, 1) := by decide +kernel
theorem d_nt_refresh_102 : decode b_nt_refresh 102 = .ok (.getfield 33, 3) := by decide +kernel
theorem d_nt_refresh_105 : decode b_nt_refresh 105 = .ok (.iconst 5, 1) := by decide +kernel
theorem d_nt_refresh_106 : decode b_nt_refresh 106 = .ok (.aload_n 1, 1) := by decide +kernel
theorem d_nt_refresh_107 : decode b_nt_refresh 107 = .ok (.getfield 97, 3) := by decide +kernel
theorem d_nt_refresh_110 : decode b_nt_refresh 110 = .ok (.aload_n 1, 1) := by decide +kernel
theorem d_nt_refresh_111 : decode b_nt_refresh 111 = .ok (.getfield 137, 3) := by decide +kernel
theorem d_nt_refresh_114 : decode b_nt_refresh 114 = .ok (.iconst 0, 1) := by decide +kernel
theorem d_nt_refresh_115 : decode b_nt_refresh 115 = .ok (.iaload, 1) := by decide +kernel
theorem d_nt_refresh_116 : decode b_nt_refresh 116 = .ok (.aload_n 0, 1) := by decide +kernel
theorem d_nt_refresh_117 : decode b_nt_refresh 117 = .ok (.getfield 71, 3) := by decide +kernel
theorem d_nt_refresh_120 : decode b_nt_refresh 120 = .ok (.invokevirtual 228, 3) := by decide +kernel
theorem d_nt_refresh_123 : decode b_nt_refresh 123 = .ok (.iload_n 3, 1) := by decide +kernel
theorem d_nt_refresh_124 : decode b_nt_refresh 124 = .ok (.ireturn, 1) := by decide +kernel
theorem d_nt_learnAll_0 : decode b_nt_learnAll 0 = .ok (.iconst 0, 1) := by decide +kernel
theorem d_nt_learnAll_1 : decode b_nt_learnAll 1 = .ok (.istore_n 2, 1) := by decide +kernel
theorem d_nt_learnAll_2 : decode b_nt_learnAll 2 = .ok (.iload_n 2, 1) := by decide +kernel
theorem d_nt_learnAll_3 : decode b_nt_learnAll 3 = .ok (.aload_n 0, 1) := by decide +kernel
theorem d_nt_learnAll_4 : decode b_nt_learnAll 4 = .ok (.getfield 12, 3) := by decide +kernel
theorem d_nt_learnAll_7 : decode b_nt_learnAll 7 = .ok (.getfield 160, 3) := by decide +kernel
theorem d_nt_learnAll_10 : decode b_nt_learnAll 10 = .ok (.if_icmp .ge 51, 3) := by decide +kernel
theorem d_nt_learnAll_13 : decode b_nt_learnAll 13 = .ok (.aload_n 1, 1) := by decide +kernel
theorem d_nt_learnAll_14 : decode b_nt_learnAll 14 = .ok (.getfield 85, 3) := by decide +kernel
theorem d_nt_learnAll_17 : decode b_nt_learnAll 17 = .ok (.iload_n 2, 1) := by decide +kernel
theorem d_nt_learnAll_18 : decode b_nt_learnAll 18 = .ok (.aaload, 1) := by decide +kernel
theorem d_nt_learnAll_19 : decode b_nt_learnAll 19 = .ok (.astore_n 3, 1) := by decide +kernel
theorem d_nt_learnAll_20 : decode b_nt_learnAll 20 = .ok (.aload_n 3, 1) := by decide +kernel
theorem d_nt_learnAll_21 : decode b_nt_learnAll 21 = .ok (.getfield 185, 3) := by decide +kernel
theorem d_nt_learnAll_24 : decode b_nt_learnAll 24 = .ok (.ifCond .le 31, 3) := by decide +kernel
theorem d_nt_learnAll_27 : decode b_nt_learnAll 27 = .ok (.aload_n 3, 1) := by decide +kernel
theorem d_nt_learnAll_28 : decode b_nt_learnAll 28 = .ok (.aload_n 0, 1) := by decide +kernel
theorem d_nt_learnAll_29 : decode b_nt_learnAll 29 = .ok (.getfield 41, 3) := by decide +kernel
theorem d_nt_learnAll_32 : decode b_nt_learnAll 32 = .ok (.invokevirtual 262, 3) := by decide +kernel
theorem d_nt_learnAll_35 : decode b_nt_learnAll 35 = .ok (.ifCond .eq 20, 3) := by decide +kernel
theorem d_nt_learnAll_38 : decode b_nt_learnAll 38 = .ok (.aload_n 0, 1) := by decide +kernel
theorem d_nt_learnAll_39 : decode b_nt_learnAll 39 = .ok (.getfield 33, 3) := by decide +kernel
theorem d_nt_learnAll_42 : decode b_nt_learnAll 42 = .ok (.iconst 1, 1) := by decide +kernel
theorem d_nt_learnAll_43 : decode b_nt_learnAll 43 = .ok (.aload_n 1, 1) := by decide +kernel
theorem d_nt_learnAll_44 : decode b_nt_learnAll 44 = .ok (.getfield 97, 3) := by decide +kernel
theorem d_nt_learnAll_47 : decode b_nt_learnAll 47 = .ok (.iload_n 2, 1) := by decide +kernel
theorem d_nt_learnAll_48 : decode b_nt_learnAll 48 = .ok (.aload_n 0, 1) := by decide +kernel
theorem d_nt_learnAll_49 : decode b_nt_learnAll 49 = .ok (.getfield 71, 3) := by decide +kernel
theorem d_nt_learnAll_52 : decode b_nt_learnAll 52 = .ok (.invokevirtual 228, 3) := by decide +kernel
theorem d_nt_learnAll_55 : decode b_nt_learnAll 55 = .ok (.iinc 2 1, 3) := by decide +kernel
theorem d_nt_learnAll_58 : decode b_nt_learnAll 58 = .ok (.goto (-56), 3) := by decide +kernel
theorem d_nt_learnAll_61 : decode b_nt_learnAll 61 = .ok (.return_, 1) := by decide +kernel
theorem d_nt_reachOfEnd_0 : decode b_nt_reachOfEnd 0 = .ok (.ldc2_w 265, 3) := by decide +kernel
theorem d_nt_reachOfEnd_3 : decode b_nt_reachOfEnd 3 = .ok (.lstore_n 2, 1) := by decide +kernel
theorem d_nt_reachOfEnd_4 : decode b_nt_reachOfEnd 4 = .ok (.iconst 0, 1) := by decide +kernel
theorem d_nt_reachOfEnd_5 : decode b_nt_reachOfEnd 5 = .ok (.istore 4, 2) := by decide +kernel
theorem d_nt_reachOfEnd_7 : decode b_nt_reachOfEnd 7 = .ok (.iload 4, 2) := by decide +kernel
theorem d_nt_reachOfEnd_9 : decode b_nt_reachOfEnd 9 = .ok (.iconst 4, 1) := by decide +kernel
theorem d_nt_reachOfEnd_10 : decode b_nt_reachOfEnd 10 = .ok (.if_icmp .ge 39, 3) := by decide +kernel
theorem d_nt_reachOfEnd_13 : decode b_nt_reachOfEnd 13 = .ok (.iconst 0, 1) := by decide +kernel
theorem d_nt_reachOfEnd_14 : decode b_nt_reachOfEnd 14 = .ok (.istore 5, 2) := by decide +kernel
theorem d_nt_reachOfEnd_16 : decode b_nt_reachOfEnd 16 = .ok (.iload 5, 2) := by decide +kernel
theorem d_nt_reachOfEnd_18 : decode b_nt_reachOfEnd 18 = .ok (.aload_n 1, 1) := by decide +kernel
theorem d_nt_reachOfEnd_19 : decode b_nt_reachOfEnd 19 = .ok (.getfield 127, 3) := by decide +kernel
theorem d_nt_reachOfEnd_22 : decode b_nt_reachOfEnd 22 = .ok (.iload 4, 2) := by decide +kernel
theorem d_nt_reachOfEnd_24 : decode b_nt_reachOfEnd 24 = .ok (.iaload, 1) := by decide +kernel
theorem d_nt_reachOfEnd_25 : decode b_nt_reachOfEnd 25 = .ok (.if_icmp .ge 18, 3) := by decide +kernel
theorem d_nt_reachOfEnd_28 : decode b_nt_reachOfEnd 28 = .ok (.aload_n 0, 1) := by decide +kernel
theorem d_nt_reachOfEnd_29 : decode b_nt_reachOfEnd 29 = .ok (.lload_n 2, 1) := by decide +kernel
theorem d_nt_reachOfEnd_30 : decode b_nt_reachOfEnd 30 = .ok (.aload_n 1, 1) := by decide +kernel
theorem d_nt_reachOfEnd_31 : decode b_nt_reachOfEnd 31 = .ok (.iload 4, 2) := by decide +kernel
theorem d_nt_reachOfEnd_33 : decode b_nt_reachOfEnd 33 = .ok (.invokevirtual 267, 3) := by decide +kernel
theorem d_nt_reachOfEnd_36 : decode b_nt_reachOfEnd 36 = .ok (.lstore_n 2, 1) := by decide +kernel
theorem d_nt_reachOfEnd_37 : decode b_nt_reachOfEnd 37 = .ok (.iinc 5 1, 3) := by decide +kernel
theorem d_nt_reachOfEnd_40 : decode b_nt_reachOfEnd 40 = .ok (.goto (-24), 3) := by decide +kernel
theorem d_nt_reachOfEnd_43 : decode b_nt_reachOfEnd 43 = .ok (.iinc 4 1, 3) := by decide +kernel
theorem d_nt_reachOfEnd_46 : decode b_nt_reachOfEnd 46 = .ok (.goto (-39), 3) := by decide +kernel
theorem d_nt_reachOfEnd_49 : decode b_nt_reachOfEnd 49 = .ok (.lload_n 2, 1) := by decide +kernel
theorem d_nt_reachOfEnd_50 : decode b_nt_reachOfEnd 50 = .ok (.l2i, 1) := by decide +kernel
theorem d_nt_reachOfEnd_51 : decode b_nt_reachOfEnd 51 = .ok (.ireturn, 1) := by decide +kernel
theorem d_nt_weightedTime_0 : decode b_nt_weightedTime 0 = .ok (.ldc2_w 265, 3) := by decide +kernel
theorem d_nt_weightedTime_3 : decode b_nt_weightedTime 3 = .ok (.lstore_n 2, 1) := by decide +kernel
theorem d_nt_weightedTime_4 : decode b_nt_weightedTime 4 = .ok (.lconst 0, 1) := by decide +kernel
theorem d_nt_weightedTime_5 : decode b_nt_weightedTime 5 = .ok (.lstore 4, 2) := by decide +kernel
theorem d_nt_weightedTime_7 : decode b_nt_weightedTime 7 = .ok (.iconst 0, 1) := by decide +kernel
theorem d_nt_weightedTime_8 : decode b_nt_weightedTime 8 = .ok (.istore 6, 2) := by decide +kernel
theorem d_nt_weightedTime_10 : decode b_nt_weightedTime 10 = .ok (.iload 6, 2) := by decide +kernel
theorem d_nt_weightedTime_12 : decode b_nt_weightedTime 12 = .ok (.iconst 4, 1) := by decide +kernel
theorem d_nt_weightedTime_13 : decode b_nt_weightedTime 13 = .ok (.if_icmp .ge 67, 3) := by decide +kernel
theorem d_nt_weightedTime_16 : decode b_nt_weightedTime 16 = .ok (.iconst 0, 1) := by decide +kernel
theorem d_nt_weightedTime_17 : decode b_nt_weightedTime 17 = .ok (.istore 7, 2) := by decide +kernel
theorem d_nt_weightedTime_19 : decode b_nt_weightedTime 19 = .ok (.iload 7, 2) := by decide +kernel
theorem d_nt_weightedTime_21 : decode b_nt_weightedTime 21 = .ok (.aload_n 1, 1) := by decide +kernel
theorem d_nt_weightedTime_22 : decode b_nt_weightedTime 22 = .ok (.getfield 127, 3) := by decide +kernel
theorem d_nt_weightedTime_25 : decode b_nt_weightedTime 25 = .ok (.iload 6, 2) := by decide +kernel
theorem d_nt_weightedTime_27 : decode b_nt_weightedTime 27 = .ok (.iaload, 1) := by decide +kernel
theorem d_nt_weightedTime_28 : decode b_nt_weightedTime 28 = .ok (.if_icmp .ge 46, 3) := by decide +kernel
theorem d_nt_weightedTime_31 : decode b_nt_weightedTime 31 = .ok (.lload 4, 2) := by decide +kernel
theorem d_nt_weightedTime_33 : decode b_nt_weightedTime 33 = .ok (.lload_n 2, 1) := by decide +kernel
theorem d_nt_weightedTime_34 : decode b_nt_weightedTime 34 = .ok (.aload_n 0, 1) := by decide +kernel
theorem d_nt_weightedTime_35 : decode b_nt_weightedTime 35 = .ok (.getfield 12, 3) := by decide +kernel
theorem d_nt_weightedTime_38 : decode b_nt_weightedTime 38 = .ok (.aload_n 1, 1) := by decide +kernel
theorem d_nt_weightedTime_39 : decode b_nt_weightedTime 39 = .ok (.getfield 131, 3) := by decide +kernel
theorem d_nt_weightedTime_42 : decode b_nt_weightedTime 42 = .ok (.iload 6, 2) := by decide +kernel
theorem d_nt_weightedTime_44 : decode b_nt_weightedTime 44 = .ok (.iaload, 1) := by decide +kernel
theorem d_nt_weightedTime_45 : decode b_nt_weightedTime 45 = .ok (.aload_n 1, 1) := by decide +kernel
theorem d_nt_weightedTime_46 : decode b_nt_weightedTime 46 = .ok (.getfield 103, 3) := by decide +kernel
theorem d_nt_weightedTime_49 : decode b_nt_weightedTime 49 = .ok (.iload 7, 2) := by decide +kernel
theorem d_nt_weightedTime_51 : decode b_nt_weightedTime 51 = .ok (.invokevirtual 198, 3) := by decide +kernel
theorem d_nt_weightedTime_54 : decode b_nt_weightedTime 54 = .ok (.i2l, 1) := by decide +kernel
theorem d_nt_weightedTime_55 : decode b_nt_weightedTime 55 = .ok (.lmul, 1) := by decide +kernel
theorem d_nt_weightedTime_56 : decode b_nt_weightedTime 56 = .ok (.ladd, 1) := by decide +kernel
theorem d_nt_weightedTime_57 : decode b_nt_weightedTime 57 = .ok (.lstore 4, 2) := by decide +kernel
theorem d_nt_weightedTime_59 : decode b_nt_weightedTime 59 = .ok (.aload_n 0, 1) := by decide +kernel
theorem d_nt_weightedTime_60 : decode b_nt_weightedTime 60 = .ok (.lload_n 2, 1) := by decide +kernel
theorem d_nt_weightedTime_61 : decode b_nt_weightedTime 61 = .ok (.aload_n 1, 1) := by decide +kernel
theorem d_nt_weightedTime_62 : decode b_nt_weightedTime 62 = .ok (.iload 6, 2) := by decide +kernel
theorem d_nt_weightedTime_64 : decode b_nt_weightedTime 64 = .ok (.invokevirtual 267, 3) := by decide +kernel
theorem d_nt_weightedTime_67 : decode b_nt_weightedTime 67 = .ok (.lstore_n 2, 1) := by decide +kernel
theorem d_nt_weightedTime_68 : decode b_nt_weightedTime 68 = .ok (.iinc 7 1, 3) := by decide +kernel
theorem d_nt_weightedTime_71 : decode b_nt_weightedTime 71 = .ok (.goto (-52), 3) := by decide +kernel
theorem d_nt_weightedTime_74 : decode b_nt_weightedTime 74 = .ok (.iinc 6 1, 3) := by decide +kernel
theorem d_nt_weightedTime_77 : decode b_nt_weightedTime 77 = .ok (.goto (-67), 3) := by decide +kernel
theorem d_nt_weightedTime_80 : decode b_nt_weightedTime 80 = .ok (.lload 4, 2) := by decide +kernel
theorem d_nt_weightedTime_82 : decode b_nt_weightedTime 82 = .ok (.lreturn, 1) := by decide +kernel
theorem d_nt_reachAfter_0 : decode b_nt_reachAfter 0 = .ok (.aload_n 0, 1) := by decide +kernel
theorem d_nt_reachAfter_1 : decode b_nt_reachAfter 1 = .ok (.aload_n 3, 1) := by decide +kernel
theorem d_nt_reachAfter_2 : decode b_nt_reachAfter 2 = .ok (.getfield 100, 3) := by decide +kernel
theorem d_nt_reachAfter_5 : decode b_nt_reachAfter 5 = .ok (.aload_n 3, 1) := by decide +kernel
theorem d_nt_reachAfter_6 : decode b_nt_reachAfter 6 = .ok (.getfield 131, 3) := by decide +kernel
theorem d_nt_reachAfter_9 : decode b_nt_reachAfter 9 = .ok (.iload 4, 2) := by decide +kernel
theorem d_nt_reachAfter_11 : decode b_nt_reachAfter 11 = .ok (.iaload, 1) := by decide +kernel
theorem d_nt_reachAfter_12 : decode b_nt_reachAfter 12 = .ok (.invokevirtual 271, 3) := by decide +kernel
theorem d_nt_reachAfter_15 : decode b_nt_reachAfter 15 = .ok (.astore 5, 2) := by decide +kernel
theorem d_nt_reachAfter_17 : decode b_nt_reachAfter 17 = .ok (.aload 5, 2) := by decide +kernel
theorem d_nt_reachAfter_19 : decode b_nt_reachAfter 19 = .ok (.ifnonnull 7, 3) := by decide +kernel
theorem d_nt_reachAfter_22 : decode b_nt_reachAfter 22 = .ok (.lload_n 1, 1) := by decide +kernel
theorem d_nt_reachAfter_23 : decode b_nt_reachAfter 23 = .ok (.goto 19, 3) := by decide +kernel
theorem d_nt_reachAfter_26 : decode b_nt_reachAfter 26 = .ok (.lload_n 1, 1) := by decide +kernel
theorem d_nt_reachAfter_27 : decode b_nt_reachAfter 27 = .ok (.ldc_w 275, 3) := by decide +kernel
theorem d_nt_reachAfter_30 : decode b_nt_reachAfter 30 = .ok (.aload 5, 2) := by decide +kernel
theorem d_nt_reachAfter_32 : decode b_nt_reachAfter 32 = .ok (.invokevirtual 276, 3) := by decide +kernel
theorem d_nt_reachAfter_35 : decode b_nt_reachAfter 35 = .ok (.isub, 1) := by decide +kernel
theorem d_nt_reachAfter_36 : decode b_nt_reachAfter 36 = .ok (.i2l, 1) := by decide +kernel
theorem d_nt_reachAfter_37 : decode b_nt_reachAfter 37 = .ok (.lmul, 1) := by decide +kernel
theorem d_nt_reachAfter_38 : decode b_nt_reachAfter 38 = .ok (.ldc2_w 265, 3) := by decide +kernel
theorem d_nt_reachAfter_41 : decode b_nt_reachAfter 41 = .ok (.ldiv, 1) := by decide +kernel
theorem d_nt_reachAfter_42 : decode b_nt_reachAfter 42 = .ok (.lreturn, 1) := by decide +kernel
theorem d_nt_sendFrames_0 : decode b_nt_sendFrames 0 = .ok (.iload 4, 2) := by decide +kernel
theorem d_nt_sendFrames_2 : decode b_nt_sendFrames 2 = .ok (.istore 5, 2) := by decide +kernel
theorem d_nt_sendFrames_4 : decode b_nt_sendFrames 4 = .ok (.iconst 0, 1) := by decide +kernel
theorem d_nt_sendFrames_5 : decode b_nt_sendFrames 5 = .ok (.istore 6, 2) := by decide +kernel
theorem d_nt_sendFrames_7 : decode b_nt_sendFrames 7 = .ok (.iconst 0, 1) := by decide +kernel
theorem d_nt_sendFrames_8 : decode b_nt_sendFrames 8 = .ok (.istore 7, 2) := by decide +kernel
theorem d_nt_sendFrames_10 : decode b_nt_sendFrames 10 = .ok (.iload 7, 2) := by decide +kernel
theorem d_nt_sendFrames_12 : decode b_nt_sendFrames 12 = .ok (.iload_n 2, 1) := by decide +kernel
theorem d_nt_sendFrames_13 : decode b_nt_sendFrames 13 = .ok (.if_icmp .ge 156, 3) := by decide +kernel
theorem d_nt_sendFrames_16 : decode b_nt_sendFrames 16 = .ok (.aload_n 0, 1) := by decide +kernel
theorem d_nt_sendFrames_17 : decode b_nt_sendFrames 17 = .ok (.iload_n 1, 1) := by decide +kernel
theorem d_nt_sendFrames_18 : decode b_nt_sendFrames 18 = .ok (.invokevirtual 77, 3) := by decide +kernel
theorem d_nt_sendFrames_21 : decode b_nt_sendFrames 21 = .ok (.astore 8, 2) := by decide +kernel
theorem d_nt_sendFrames_23 : decode b_nt_sendFrames 23 = .ok (.aload 8, 2) := by decide +kernel
theorem d_nt_sendFrames_25 : decode b_nt_sendFrames 25 = .ok (.ifnonnull 7, 3) := by decide +kernel
theorem d_nt_sendFrames_28 : decode b_nt_sendFrames 28 = .ok (.aconst_null, 1) := by decide +kernel
theorem d_nt_sendFrames_29 : decode b_nt_sendFrames 29 = .ok (.goto 14, 3) := by decide +kernel
theorem d_nt_sendFrames_32 : decode b_nt_sendFrames 32 = .ok (.aload_n 0, 1) := by decide +kernel
theorem d_nt_sendFrames_33 : decode b_nt_sendFrames 33 = .ok (.aload_n 0, 1) := by decide +kernel
theorem d_nt_sendFrames_34 : decode b_nt_sendFrames 34 = .ok (.aload 8, 2) := by decide +kernel
theorem d_nt_sendFrames_36 : decode b_nt_sendFrames 36 = .ok (.iload_n 3, 1) := by decide +kernel
theorem d_nt_sendFrames_37 : decode b_nt_sendFrames 37 = .ok (.invokevirtual 279, 3) := by decide +kernel
theorem d_nt_sendFrames_40 : decode b_nt_sendFrames 40 = .ok (.invokevirtual 282, 3) := by decide +kernel
theorem d_nt_sendFrames_43 : decode b_nt_sendFrames 43 = .ok (.astore 9, 2) := by decide +kernel
theorem d_nt_sendFrames_45 : decode b_nt_sendFrames 45 = .ok (.aload 9, 2) := by decide +kernel
theorem d_nt_sendFrames_47 : decode b_nt_sendFrames 47 = .ok (.ifnonnull 6, 3) := by decide +kernel
theorem d_nt_sendFrames_50 : decode b_nt_sendFrames 50 = .ok (.iload 6, 2) := by decide +kernel
theorem d_nt_sendFrames_52 : decode b_nt_sendFrames 52 = .ok (.ireturn, 1) := by decide +kernel
theorem d_nt_sendFrames_53 : decode b_nt_sendFrames 53 = .ok (.aload 9, 2) := by decide +kernel
theorem d_nt_sendFrames_55 : decode b_nt_sendFrames 55 = .ok (.invokevirtual 286, 3) := by decide +kernel
theorem d_nt_sendFrames_58 : decode b_nt_sendFrames 58 = .ok (.istore 10, 2) := by decide +kernel
theorem d_nt_sendFrames_60 : decode b_nt_sendFrames 60 = .ok (.iconst 0, 1) := by decide +kernel
theorem d_nt_sendFrames_61 : decode b_nt_sendFrames 61 = .ok (.istore 11, 2) := by decide +kernel
theorem d_nt_sendFrames_63 : decode b_nt_sendFrames 63 = .ok (.iconst 0, 1) := by decide +kernel
theorem d_nt_sendFrames_64 : decode b_nt_sendFrames 64 = .ok (.istore 12, 2) := by decide +kernel
theorem d_nt_sendFrames_66 : decode b_nt_sendFrames 66 = .ok (.iload 11, 2) := by decide +kernel
theorem d_nt_sendFrames_68 : decode b_nt_sendFrames 68 = .ok (.iload 10, 2) := by decide +kernel
theorem d_nt_sendFrames_70 : decode b_nt_sendFrames 70 = .ok (.if_icmp .ge 64, 3) := by decide +kernel
theorem d_nt_sendFrames_73 : decode b_nt_sendFrames 73 = .ok (.iload 12, 2) := by decide +kernel
theorem d_nt_sendFrames_75 : decode b_nt_sendFrames 75 = .ok (.ifCond .ne 59, 3) := by decide +kernel
theorem d_nt_sendFrames_78 : decode b_nt_sendFrames 78 = .ok (.aload_n 0, 1) := by decide +kernel
theorem d_nt_sendFrames_79 : decode b_nt_sendFrames 79 = .ok (.iload_n 1, 1) := by decide +kernel
theorem d_nt_sendFrames_80 : decode b_nt_sendFrames 80 = .ok (.aload 9, 2) := by decide +kernel
theorem d_nt_sendFrames_82 : decode b_nt_sendFrames 82 = .ok (.iload 11, 2) := by decide +kernel
theorem d_nt_sendFrames_84 : decode b_nt_sendFrames 84 = .ok (.invokevirtual 289, 3) := by decide +kernel
theorem d_nt_sendFrames_87 : decode b_nt_sendFrames 87 = .ok (.invokevirtual 271, 3) := by decide +kernel
theorem d_nt_sendFrames_90 : decode b_nt_sendFrames 90 = .ok (.astore 13, 2) := by decide +kernel
theorem d_nt_sendFrames_92 : decode b_nt_sendFrames 92 = .ok (.iload 5, 2) := by decide +kernel
theorem d_nt_sendFrames_94 : decode b_nt_sendFrames 94 = .ok (.invokestatic 157, 3) := by decide +kernel
theorem d_nt_sendFrames_97 : decode b_nt_sendFrames 97 = .ok (.istore 5, 2) := by decide +kernel
theorem d_nt_sendFrames_99 : decode b_nt_sendFrames 99 = .ok (.aload 13, 2) := by decide +kernel
theorem d_nt_sendFrames_101 : decode b_nt_sendFrames 101 = .ok (.ifnull 24, 3) := by decide +kernel
theorem d_nt_sendFrames_104 : decode b_nt_sendFrames 104 = .ok (.iload 5, 2) := by decide +kernel
theorem d_nt_sendFrames_106 : decode b_nt_sendFrames 106 = .ok (.bipush 16, 2) := by decide +kernel
theorem d_nt_sendFrames_108 : decode b_nt_sendFrames 108 = .ok (.iushr, 1) := by decide +kernel
theorem d_nt_sendFrames_109 : decode b_nt_sendFrames 109 = .ok (.sipush 1000, 3) := by decide +kernel
theorem d_nt_sendFrames_112 : decode b_nt_sendFrames 112 = .ok (.irem, 1) := by decide +kernel
theorem d_nt_sendFrames_113 : decode b_nt_sendFrames 113 = .ok (.aload 13, 2) := by decide +kernel
theorem d_nt_sendFrames_115 : decode b_nt_sendFrames 115 = .ok (.getfield 292, 3) := by decide +kernel
theorem d_nt_sendFrames_118 : decode b_nt_sendFrames 118 = .ok (.if_icmp .ge 7, 3) := by decide +kernel
theorem d_nt_sendFrames_121 : decode b_nt_sendFrames 121 = .ok (.iconst 1, 1) := by decide +kernel
theorem d_nt_sendFrames_122 : decode b_nt_sendFrames 122 = .ok (.goto 4, 3) := by decide +kernel
theorem d_nt_sendFrames_125 : decode b_nt_sendFrames 125 = .ok (.iconst 0, 1) := by decide +kernel
theorem d_nt_sendFrames_126 : decode b_nt_sendFrames 126 = .ok (.istore 12, 2) := by decide +kernel
theorem d_nt_sendFrames_128 : decode b_nt_sendFrames 128 = .ok (.iinc 11 1, 3) := by decide +kernel
theorem d_nt_sendFrames_131 : decode b_nt_sendFrames 131 = .ok (.goto (-65), 3) := by decide +kernel
theorem d_nt_sendFrames_134 : decode b_nt_sendFrames 134 = .ok (.aload_n 0, 1) := by decide +kernel
theorem d_nt_sendFrames_135 : decode b_nt_sendFrames 135 = .ok (.aload 9, 2) := by decide +kernel
theorem d_nt_sendFrames_137 : decode b_nt_sendFrames 137 = .ok (.iload 11, 2) := by decide +kernel
theorem d_nt_sendFrames_139 : decode b_nt_sendFrames 139 = .ok (.iload 12, 2) := by decide +kernel
theorem d_nt_sendFrames_141 : decode b_nt_sendFrames 141 = .ok (.invokevirtual 295, 3) := by decide +kernel
theorem d_nt_sendFrames_144 : decode b_nt_sendFrames 144 = .ok (.iload 6, 2) := by decide +kernel
theorem d_nt_sendFrames_146 : decode b_nt_sendFrames 146 = .ok (.iload 12, 2) := by decide +kernel
theorem d_nt_sendFrames_148 : decode b_nt_sendFrames 148 = .ok (.ifCond .eq 7, 3) := by decide +kernel
theorem d_nt_sendFrames_151 : decode b_nt_sendFrames 151 = .ok (.iconst 1, 1) := by decide +kernel
theorem d_nt_sendFrames_152 : decode b_nt_sendFrames 152 = .ok (.goto 4, 3) := by decide +kernel
theorem d_nt_sendFrames_155 : decode b_nt_sendFrames 155 = .ok (.iconst 0, 1) := by decide +kernel
theorem d_nt_sendFrames_156 : decode b_nt_sendFrames 156 = .ok (.iadd, 1) := by decide +kernel
theorem d_nt_sendFrames_157 : decode b_nt_sendFrames 157 = .ok (.istore 6, 2) := by decide +kernel
theorem d_nt_sendFrames_159 : decode b_nt_sendFrames 159 = .ok (.aload_n 0, 1) := by decide +kernel
theorem d_nt_sendFrames_160 : decode b_nt_sendFrames 160 = .ok (.invokevirtual 299, 3) := by decide +kernel
theorem d_nt_sendFrames_163 : decode b_nt_sendFrames 163 = .ok (.iinc 7 1, 3) := by decide +kernel
theorem d_nt_sendFrames_166 : decode b_nt_sendFrames 166 = .ok (.goto (-156), 3) := by decide +kernel
theorem d_nt_sendFrames_169 : decode b_nt_sendFrames 169 = .ok (.iload 6, 2) := by decide +kernel
theorem d_nt_sendFrames_171 : decode b_nt_sendFrames 171 = .ok (.ireturn, 1) := by decide +kernel
theorem d_tb_init_0 : decode b_tb_init 0 = .ok (.aload_n 0, 1) := by decide +kernel
theorem d_tb_init_1 : decode b_tb_init 1 = .ok (.invokespecial 3, 3) := by decide +kernel
theorem d_tb_init_4 : decode b_tb_init 4 = .ok (.aload_n 0, 1) := by decide +kernel
theorem d_tb_init_5 : decode b_tb_init 5 = .ok (.bipush 8, 2) := by decide +kernel
theorem d_tb_init_7 : decode b_tb_init 7 = .ok (.newarray .int, 2) := by decide +kernel
theorem d_tb_init_9 : decode b_tb_init 9 = .ok (.putfield 9, 3) := by decide +kernel
theorem d_tb_init_12 : decode b_tb_init 12 = .ok (.aload_n 0, 1) := by decide +kernel
theorem d_tb_init_13 : decode b_tb_init 13 = .ok (.bipush 8, 2) := by decide +kernel
theorem d_tb_init_15 : decode b_tb_init 15 = .ok (.newarray .int, 2) := by decide +kernel
theorem d_tb_init_17 : decode b_tb_init 17 = .ok (.putfield 15, 3) := by decide +kernel
theorem d_tb_init_20 : decode b_tb_init 20 = .ok (.aload_n 0, 1) := by decide +kernel
theorem d_tb_init_21 : decode b_tb_init 21 = .ok (.bipush 8, 2) := by decide +kernel
theorem d_tb_init_23 : decode b_tb_init 23 = .ok (.newarray .int, 2) := by decide +kernel
theorem d_tb_init_25 : decode b_tb_init 25 = .ok (.putfield 18, 3) := by decide +kernel
theorem d_tb_init_28 : decode b_tb_init 28 = .ok (.return_, 1) := by decide +kernel
theorem d_tb_become_0 : decode b_tb_become 0 = .ok (.aload_n 0, 1) := by decide +kernel
theorem d_tb_become_1 : decode b_tb_become 1 = .ok (.aload_n 1, 1) := by decide +kernel
theorem d_tb_become_2 : decode b_tb_become 2 = .ok (.getfield 21, 3) := by decide +kernel
theorem d_tb_become_5 : decode b_tb_become 5 = .ok (.putfield 21, 3) := by decide +kernel
theorem d_tb_become_8 : decode b_tb_become 8 = .ok (.aload_n 1, 1) := by decide +kernel
theorem d_tb_become_9 : decode b_tb_become 9 = .ok (.getfield 9, 3) := by decide +kernel
theorem d_tb_become_12 : decode b_tb_become 12 = .ok (.iconst 0, 1) := by decide +kernel
theorem d_tb_become_13 : decode b_tb_become 13 = .ok (.aload_n 0, 1) := by decide +kernel
theorem d_tb_become_14 : decode b_tb_become 14 = .ok (.getfield 9, 3) := by decide +kernel
theorem d_tb_become_17 : decode b_tb_become 17 = .ok (.iconst 0, 1) := by decide +kernel
theorem d_tb_become_18 : decode b_tb_become 18 = .ok (.bipush 8, 2) := by decide +kernel
theorem d_tb_become_20 : decode b_tb_become 20 = .ok (.invokestatic 25, 3) := by decide +kernel
theorem d_tb_become_23 : decode b_tb_become 23 = .ok (.aload_n 1, 1) := by decide +kernel
theorem d_tb_become_24 : decode b_tb_become 24 = .ok (.getfield 15, 3) := by decide +kernel
theorem d_tb_become_27 : decode b_tb_become 27 = .ok (.iconst 0, 1) := by decide +kernel
theorem d_tb_become_28 : decode b_tb_become 28 = .ok (.aload_n 0, 1) := by decide +kernel
theorem d_tb_become_29 : decode b_tb_become 29 = .ok (.getfield 15, 3) := by decide +kernel
theorem d_tb_become_32 : decode b_tb_become 32 = .ok (.iconst 0, 1) := by decide +kernel
theorem d_tb_become_33 : decode b_tb_become 33 = .ok (.bipush 8, 2) := by decide +kernel
theorem d_tb_become_35 : decode b_tb_become 35 = .ok (.invokestatic 25, 3) := by decide +kernel
theorem d_tb_become_38 : decode b_tb_become 38 = .ok (.aload_n 1, 1) := by decide +kernel
theorem d_tb_become_39 : decode b_tb_become 39 = .ok (.getfield 18, 3) := by decide +kernel
theorem d_tb_become_42 : decode b_tb_become 42 = .ok (.iconst 0, 1) := by decide +kernel
theorem d_tb_become_43 : decode b_tb_become 43 = .ok (.aload_n 0, 1) := by decide +kernel
theorem d_tb_become_44 : decode b_tb_become 44 = .ok (.getfield 18, 3) := by decide +kernel
theorem d_tb_become_47 : decode b_tb_become 47 = .ok (.iconst 0, 1) := by decide +kernel
theorem d_tb_become_48 : decode b_tb_become 48 = .ok (.bipush 8, 2) := by decide +kernel
theorem d_tb_become_50 : decode b_tb_become 50 = .ok (.invokestatic 25, 3) := by decide +kernel
theorem d_tb_become_53 : decode b_tb_become 53 = .ok (.return_, 1) := by decide +kernel
theorem d_tb_has_0 : decode b_tb_has 0 = .ok (.iload_n 1, 1) := by decide +kernel
theorem d_tb_has_1 : decode b_tb_has 1 = .ok (.ifCond .lt 21, 3) := by decide +kernel
theorem d_tb_has_4 : decode b_tb_has 4 = .ok (.iload_n 1, 1) := by decide +kernel
theorem d_tb_has_5 : decode b_tb_has 5 = .ok (.aload_n 0, 1) := by decide +kernel
theorem d_tb_has_6 : decode b_tb_has 6 = .ok (.getfield 21, 3) := by decide +kernel
theorem d_tb_has_9 : decode b_tb_has 9 = .ok (.if_icmp .ge 13, 3) := by decide +kernel
theorem d_tb_has_12 : decode b_tb_has 12 = .ok (.iload_n 1, 1) := by decide +kernel
theorem d_tb_has_13 : decode b_tb_has 13 = .ok (.bipush 8, 2) := by decide +kernel
theorem d_tb_has_15 : decode b_tb_has 15 = .ok (.if_icmp .ge 7, 3) := by decide +kernel
theorem d_tb_has_18 : decode b_tb_has 18 = .ok (.iconst 1, 1) := by decide +kernel
theorem d_tb_has_19 : decode b_tb_has 19 = .ok (.goto 4, 3) := by decide +kernel
theorem d_tb_has_22 : decode b_tb_has 22 = .ok (.iconst 0, 1) := by decide +kernel
theorem d_tb_has_23 : decode b_tb_has 23 = .ok (.ireturn, 1) := by decide +kernel
theorem d_tb_append_0 : decode b_tb_append 0 = .ok (.aload_n 0, 1) := by decide +kernel
theorem d_tb_append_1 : decode b_tb_append 1 = .ok (.getfield 21, 3) := by decide +kernel
theorem d_tb_append_4 : decode b_tb_append 4 = .ok (.istore_n 3, 1) := by decide +kernel
theorem d_tb_append_5 : decode b_tb_append 5 = .ok (.iload_n 3, 1) := by decide +kernel
theorem d_tb_append_6 : decode b_tb_append 6 = .ok (.ifCond .lt 9, 3) := by decide +kernel
theorem d_tb_append_9 : decode b_tb_append 9 = .ok (.iload_n 3, 1) := by decide +kernel
theorem d_tb_append_10 : decode b_tb_append 10 = .ok (.bipush 8, 2) := by decide +kernel
theorem d_tb_append_12 : decode b_tb_append 12 = .ok (.if_icmp .lt 6, 3) := by decide +kernel
theorem d_tb_append_15 : decode b_tb_append 15 = .ok (.bipush (-3), 2) := by decide +kernel
theorem d_tb_append_17 : decode b_tb_append 17 = .ok (.ireturn, 1) := by decide +kernel
theorem d_tb_append_18 : decode b_tb_append 18 = .ok (.aload_n 0, 1) := by decide +kernel
theorem d_tb_append_19 : decode b_tb_append 19 = .ok (.iload_n 3, 1) := by decide +kernel
theorem d_tb_append_20 : decode b_tb_append 20 = .ok (.iconst 1, 1) := by decide +kernel
theorem d_tb_append_21 : decode b_tb_append 21 = .ok (.iadd, 1) := by decide +kernel
theorem d_tb_append_22 : decode b_tb_append 22 = .ok (.putfield 21, 3) := by decide +kernel
theorem d_tb_append_25 : decode b_tb_append 25 = .ok (.aload_n 0, 1) := by decide +kernel
theorem d_tb_append_26 : decode b_tb_append 26 = .ok (.getfield 9, 3) := by decide +kernel
theorem d_tb_append_29 : decode b_tb_append 29 = .ok (.iload_n 3, 1) := by decide +kernel
theorem d_tb_append_30 : decode b_tb_append 30 = .ok (.iload_n 1, 1) := by decide +kernel
theorem d_tb_append_31 : decode b_tb_append 31 = .ok (.iastore, 1) := by decide +kernel
theorem d_tb_append_32 : decode b_tb_append 32 = .ok (.aload_n 0, 1) := by decide +kernel
theorem d_tb_append_33 : decode b_tb_append 33 = .ok (.getfield 15, 3) := by decide +kernel
theorem d_tb_append_36 : decode b_tb_append 36 = .ok (.iload_n 3, 1) := by decide +kernel
theorem d_tb_append_37 : decode b_tb_append 37 = .ok (.iload_n 2, 1) := by decide +kernel
theorem d_tb_append_38 : decode b_tb_append 38 = .ok (.iastore, 1) := by decide +kernel
theorem d_tb_append_39 : decode b_tb_append 39 = .ok (.aload_n 0, 1) := by decide +kernel
theorem d_tb_append_40 : decode b_tb_append 40 = .ok (.getfield 18, 3) := by decide +kernel
theorem d_tb_append_43 : decode b_tb_append 43 = .ok (.iload_n 3, 1) := by decide +kernel
theorem d_tb_append_44 : decode b_tb_append 44 = .ok (.aload_n 0, 1) := by decide +kernel
theorem d_tb_append_45 : decode b_tb_append 45 = .ok (.iload_n 3, 1) := by decide +kernel
theorem d_tb_append_46 : decode b_tb_append 46 = .ok (.sipush 1200, 3) := by decide +kernel
theorem d_tb_append_49 : decode b_tb_append 49 = .ok (.invokevirtual 31, 3) := by decide +kernel
theorem d_tb_append_52 : decode b_tb_append 52 = .ok (.iastore, 1) := by decide +kernel
theorem d_tb_append_53 : decode b_tb_append 53 = .ok (.iload_n 3, 1) := by decide +kernel
theorem d_tb_append_54 : decode b_tb_append 54 = .ok (.ireturn, 1) := by decide +kernel
theorem d_tb_timeInAir_0 : decode b_tb_timeInAir 0 = .ok (.aload_n 0, 1) := by decide +kernel
theorem d_tb_timeInAir_1 : decode b_tb_timeInAir 1 = .ok (.iload_n 1, 1) := by decide +kernel
theorem d_tb_timeInAir_2 : decode b_tb_timeInAir 2 = .ok (.invokevirtual 35, 3) := by decide +kernel
theorem d_tb_timeInAir_5 : decode b_tb_timeInAir 5 = .ok (.ifCond .ne 5, 3) := by decide +kernel
theorem d_tb_timeInAir_8 : decode b_tb_timeInAir 8 = .ok (.iconst 0, 1) := by decide +kernel
theorem d_tb_timeInAir_9 : decode b_tb_timeInAir 9 = .ok (.ireturn, 1) := by decide +kernel
theorem d_tb_timeInAir_10 : decode b_tb_timeInAir 10 = .ok (.iconst 1, 1) := by decide +kernel
theorem d_tb_timeInAir_11 : decode b_tb_timeInAir 11 = .ok (.aload_n 0, 1) := by decide +kernel
theorem d_tb_timeInAir_12 : decode b_tb_timeInAir 12 = .ok (.getfield 15, 3) := by decide +kernel
theorem d_tb_timeInAir_15 : decode b_tb_timeInAir 15 = .ok (.iload_n 1, 1) := by decide +kernel
theorem d_tb_timeInAir_16 : decode b_tb_timeInAir 16 = .ok (.iaload, 1) := by decide +kernel
theorem d_tb_timeInAir_17 : decode b_tb_timeInAir 17 = .ok (.invokestatic 39, 3) := by decide +kernel
theorem d_tb_timeInAir_20 : decode b_tb_timeInAir 20 = .ok (.istore_n 3, 1) := by decide +kernel
theorem d_tb_timeInAir_21 : decode b_tb_timeInAir 21 = .ok (.aload_n 0, 1) := by decide +kernel
theorem d_tb_timeInAir_22 : decode b_tb_timeInAir 22 = .ok (.getfield 9, 3) := by decide +kernel
theorem d_tb_timeInAir_25 : decode b_tb_timeInAir 25 = .ok (.iload_n 1, 1) := by decide +kernel
theorem d_tb_timeInAir_26 : decode b_tb_timeInAir 26 = .ok (.iaload, 1) := by decide +kernel
theorem d_tb_timeInAir_27 : decode b_tb_timeInAir 27 = .ok (.ifCond .ne 16, 3) := by decide +kernel
theorem d_tb_timeInAir_30 : decode b_tb_timeInAir 30 = .ok (.sipush 252, 3) := by decide +kernel
theorem d_tb_timeInAir_33 : decode b_tb_timeInAir 33 = .ok (.bipush 80, 2) := by decide +kernel
theorem d_tb_timeInAir_35 : decode b_tb_timeInAir 35 = .ok (.iload_n 2, 1) := by decide +kernel
theorem d_tb_timeInAir_36 : decode b_tb_timeInAir 36 = .ok (.imul, 1) := by decide +kernel
theorem d_tb_timeInAir_37 : decode b_tb_timeInAir 37 = .ok (.iload_n 3, 1) := by decide +kernel
theorem d_tb_timeInAir_38 : decode b_tb_timeInAir 38 = .ok (.invokestatic 44, 3) := by decide +kernel
theorem d_tb_timeInAir_41 : decode b_tb_timeInAir 41 = .ok (.iadd, 1) := by decide +kernel
theorem d_tb_timeInAir_42 : decode b_tb_timeInAir 42 = .ok (.ireturn, 1) := by decide +kernel
theorem d_tb_timeInAir_43 : decode b_tb_timeInAir 43 = .ok (.sipush 220, 3) := by decide +kernel
theorem d_tb_timeInAir_46 : decode b_tb_timeInAir 46 = .ok (.bipush 80, 2) := by decide +kernel
theorem d_tb_timeInAir_48 : decode b_tb_timeInAir 48 = .ok (.iload_n 2, 1) := by decide +kernel
theorem d_tb_timeInAir_49 : decode b_tb_timeInAir 49 = .ok (.imul, 1) := by decide +kernel
theorem d_tb_timeInAir_50 : decode b_tb_timeInAir 50 = .ok (.iadd, 1) := by decide +kernel
theorem d_tb_timeInAir_51 : decode b_tb_timeInAir 51 = .ok (.iconst 4, 1) := by decide +kernel
theorem d_tb_timeInAir_52 : decode b_tb_timeInAir 52 = .ok (.iload_n 3, 1) := by decide +kernel
theorem d_tb_timeInAir_53 : decode b_tb_timeInAir 53 = .ok (.imul, 1) := by decide +kernel
theorem d_tb_timeInAir_54 : decode b_tb_timeInAir 54 = .ok (.invokestatic 44, 3) := by decide +kernel
theorem d_tb_timeInAir_57 : decode b_tb_timeInAir 57 = .ok (.istore 4, 2) := by decide +kernel
theorem d_tb_timeInAir_59 : decode b_tb_timeInAir 59 = .ok (.aload_n 0, 1) := by decide +kernel
theorem d_tb_timeInAir_60 : decode b_tb_timeInAir 60 = .ok (.getfield 9, 3) := by decide +kernel
theorem d_tb_timeInAir_63 : decode b_tb_timeInAir 63 = .ok (.iload_n 1, 1) := by decide +kernel
theorem d_tb_timeInAir_64 : decode b_tb_timeInAir 64 = .ok (.iaload, 1) := by decide +kernel
theorem d_tb_timeInAir_65 : decode b_tb_timeInAir 65 = .ok (.iconst 1, 1) := by decide +kernel
theorem d_tb_timeInAir_66 : decode b_tb_timeInAir 66 = .ok (.if_icmp .ne 13, 3) := by decide +kernel
theorem d_tb_timeInAir_69 : decode b_tb_timeInAir 69 = .ok (.bipush 80, 2) := by decide +kernel
theorem d_tb_timeInAir_71 : decode b_tb_timeInAir 71 = .ok (.iconst 4, 1) := by decide +kernel
theorem d_tb_timeInAir_72 : decode b_tb_timeInAir 72 = .ok (.iload 4, 2) := by decide +kernel
theorem d_tb_timeInAir_74 : decode b_tb_timeInAir 74 = .ok (.imul, 1) := by decide +kernel
theorem d_tb_timeInAir_75 : decode b_tb_timeInAir 75 = .ok (.iadd, 1) := by decide +kernel
theorem d_tb_timeInAir_76 : decode b_tb_timeInAir 76 = .ok (.goto 15, 3) := by decide +kernel
theorem d_tb_timeInAir_79 : decode b_tb_timeInAir 79 = .ok (.bipush 100, 2) := by decide +kernel
theorem d_tb_timeInAir_81 : decode b_tb_timeInAir 81 = .ok (.bipush 18, 2) := by decide +kernel
theorem d_tb_timeInAir_83 : decode b_tb_timeInAir 83 = .ok (.iload 4, 2) := by decide +kernel
theorem d_tb_timeInAir_85 : decode b_tb_timeInAir 85 = .ok (.imul, 1) := by decide +kernel
theorem d_tb_timeInAir_86 : decode b_tb_timeInAir 86 = .ok (.iconst 5, 1) := by decide +kernel
theorem d_tb_timeInAir_87 : decode b_tb_timeInAir 87 = .ok (.invokestatic 44, 3) := by decide +kernel
theorem d_tb_timeInAir_90 : decode b_tb_timeInAir 90 = .ok (.iadd, 1) := by decide +kernel
theorem d_tb_timeInAir_91 : decode b_tb_timeInAir 91 = .ok (.ireturn, 1) := by decide +kernel
theorem d_tb_nominalOf_0 : decode b_tb_nominalOf 0 = .ok (.aload_n 0, 1) := by decide +kernel
theorem d_tb_nominalOf_1 : decode b_tb_nominalOf 1 = .ok (.iload_n 1, 1) := by decide +kernel
theorem d_tb_nominalOf_2 : decode b_tb_nominalOf 2 = .ok (.invokevirtual 35, 3) := by decide +kernel
theorem d_tb_nominalOf_5 : decode b_tb_nominalOf 5 = .ok (.ifCond .eq 12, 3) := by decide +kernel
theorem d_tb_nominalOf_8 : decode b_tb_nominalOf 8 = .ok (.aload_n 0, 1) := by decide +kernel
theorem d_tb_nominalOf_9 : decode b_tb_nominalOf 9 = .ok (.getfield 18, 3) := by decide +kernel
theorem d_tb_nominalOf_12 : decode b_tb_nominalOf 12 = .ok (.iload_n 1, 1) := by decide +kernel
theorem d_tb_nominalOf_13 : decode b_tb_nominalOf 13 = .ok (.iaload, 1) := by decide +kernel
theorem d_tb_nominalOf_14 : decode b_tb_nominalOf 14 = .ok (.goto 4, 3) := by decide +kernel
theorem d_tb_nominalOf_17 : decode b_tb_nominalOf 17 = .ok (.iconst 0, 1) := by decide +kernel
theorem d_tb_nominalOf_18 : decode b_tb_nominalOf 18 = .ok (.ireturn, 1) := by decide +kernel
theorem d_tb_timeOfTry_0 : decode b_tb_timeOfTry 0 = .ok (.aload_n 0, 1) := by decide +kernel
theorem d_tb_timeOfTry_1 : decode b_tb_timeOfTry 1 = .ok (.iload_n 1, 1) := by decide +kernel
theorem d_tb_timeOfTry_2 : decode b_tb_timeOfTry 2 = .ok (.iload_n 2, 1) := by decide +kernel
theorem d_tb_timeOfTry_3 : decode b_tb_timeOfTry 3 = .ok (.invokevirtual 31, 3) := by decide +kernel
theorem d_tb_timeOfTry_6 : decode b_tb_timeOfTry 6 = .ok (.bipush 9, 2) := by decide +kernel
theorem d_tb_timeOfTry_8 : decode b_tb_timeOfTry 8 = .ok (.sipush 1023, 3) := by decide +kernel
theorem d_tb_timeOfTry_11 : decode b_tb_timeOfTry 11 = .ok (.bipush 16, 2) := by decide +kernel
theorem d_tb_timeOfTry_13 : decode b_tb_timeOfTry 13 = .ok (.iload_n 3, 1) := by decide +kernel
theorem d_tb_timeOfTry_14 : decode b_tb_timeOfTry 14 = .ok (.ishl, 1) := by decide +kernel
theorem d_tb_timeOfTry_15 : decode b_tb_timeOfTry 15 = .ok (.iconst 1, 1) := by decide +kernel
theorem d_tb_timeOfTry_16 : decode b_tb_timeOfTry 16 = .ok (.isub, 1) := by decide +kernel
theorem d_tb_timeOfTry_17 : decode b_tb_timeOfTry 17 = .ok (.invokestatic 47, 3) := by decide +kernel
theorem d_tb_timeOfTry_20 : decode b_tb_timeOfTry 20 = .ok (.imul, 1) := by decide +kernel
theorem d_tb_timeOfTry_21 : decode b_tb_timeOfTry 21 = .ok (.iconst 2, 1) := by decide +kernel
theorem d_tb_timeOfTry_22 : decode b_tb_timeOfTry 22 = .ok (.idiv, 1) := by decide +kernel
theorem d_tb_timeOfTry_23 : decode b_tb_timeOfTry 23 = .ok (.iadd, 1) := by decide +kernel
theorem d_tb_timeOfTry_24 : decode b_tb_timeOfTry 24 = .ok (.ireturn, 1) := by decide +kernel
theorem d_tb_triesWithin_0 : decode b_tb_triesWithin 0 = .ok (.iconst 1, 1) := by decide +kernel
theorem d_tb_triesWithin_1 : decode b_tb_triesWithin 1 = .ok (.istore 4, 2) := by decide +kernel
theorem d_tb_triesWithin_3 : decode b_tb_triesWithin 3 = .ok (.aload_n 0, 1) := by decide +kernel
theorem d_tb_triesWithin_4 : decode b_tb_triesWithin 4 = .ok (.iload_n 1, 1) := by decide +kernel
theorem d_tb_triesWithin_5 : decode b_tb_triesWithin 5 = .ok (.iload_n 2, 1) := by decide +kernel
theorem d_tb_triesWithin_6 : decode b_tb_triesWithin 6 = .ok (.iconst 0, 1) := by decide +kernel
theorem d_tb_triesWithin_7 : decode b_tb_triesWithin 7 = .ok (.invokevirtual 50, 3) := by decide +kernel
theorem d_tb_triesWithin_10 : decode b_tb_triesWithin 10 = .ok (.istore 5, 2) := by decide +kernel
theorem d_tb_triesWithin_12 : decode b_tb_triesWithin 12 = .ok (.iload 4, 2) := by decide +kernel
theorem d_tb_triesWithin_14 : decode b_tb_triesWithin 14 = .ok (.bipush 7, 2) := by decide +kernel
theorem d_tb_triesWithin_16 : decode b_tb_triesWithin 16 = .ok (.if_icmp .ge 31, 3) := by decide +kernel
theorem d_tb_triesWithin_19 : decode b_tb_triesWithin 19 = .ok (.iload 5, 2) := by decide +kernel
theorem d_tb_triesWithin_21 : decode b_tb_triesWithin 21 = .ok (.aload_n 0, 1) := by decide +kernel
theorem d_tb_triesWithin_22 : decode b_tb_triesWithin 22 = .ok (.iload_n 1, 1) := by decide +kernel
theorem d_tb_triesWithin_23 : decode b_tb_triesWithin 23 = .ok (.iload_n 2, 1) := by decide +kernel
theorem d_tb_triesWithin_24 : decode b_tb_triesWithin 24 = .ok (.iload 4, 2) := by decide +kernel
theorem d_tb_triesWithin_26 : decode b_tb_triesWithin 26 = .ok (.invokevirtual 50, 3) := by decide +kernel
theorem d_tb_triesWithin_29 : decode b_tb_triesWithin 29 = .ok (.iadd, 1) := by decide +kernel
theorem d_tb_triesWithin_30 : decode b_tb_triesWithin 30 = .ok (.istore 5, 2) := by decide +kernel
theorem d_tb_triesWithin_32 : decode b_tb_triesWithin 32 = .ok (.iload 5, 2) := by decide +kernel
theorem d_tb_triesWithin_34 : decode b_tb_triesWithin 34 = .ok (.iload_n 3, 1) := by decide +kernel
theorem d_tb_triesWithin_35 : decode b_tb_triesWithin 35 = .ok (.if_icmp .le 6, 3) := by decide +kernel
theorem d_tb_triesWithin_38 : decode b_tb_triesWithin 38 = .ok (.iload 4, 2) := by decide +kernel
theorem d_tb_triesWithin_40 : decode b_tb_triesWithin 40 = .ok (.ireturn, 1) := by decide +kernel
theorem d_tb_triesWithin_41 : decode b_tb_triesWithin 41 = .ok (.iinc 4 1, 3) := by decide +kernel
theorem d_tb_triesWithin_44 : decode b_tb_triesWithin 44 = .ok (.goto (-32), 3) := by decide +kernel
theorem d_tb_triesWithin_47 : decode b_tb_triesWithin 47 = .ok (.iload 4, 2) := by decide +kernel
theorem d_tb_triesWithin_49 : decode b_tb_triesWithin 49 = .ok (.ireturn, 1) := by decide +kernel
theorem d_tb_inOrderOfSpeed_0 : decode b_tb_inOrderOfSpeed 0 = .ok (.iconst 0, 1) := by decide +kernel
theorem d_tb_inOrderOfSpeed_1 : decode b_tb_inOrderOfSpeed 1 = .ok (.istore_n 3, 1) := by decide +kernel
theorem d_tb_inOrderOfSpeed_2 : decode b_tb_inOrderOfSpeed 2 = .ok (.iload_n 3, 1) := by decide +kernel
theorem d_tb_inOrderOfSpeed_3 : decode b_tb_inOrderOfSpeed 3 = .ok (.aload_n 0, 1) := by decide +kernel
theorem d_tb_inOrderOfSpeed_4 : decode b_tb_inOrderOfSpeed 4 = .ok (.getfield 21, 3) := by decide +kernel
theorem d_tb_inOrderOfSpeed_7 : decode b_tb_inOrderOfSpeed 7 = .ok (.if_icmp .ge 30, 3) := by decide +kernel
theorem d_tb_inOrderOfSpeed_10 : decode b_tb_inOrderOfSpeed 10 = .ok (.aload_n 0, 1) := by decide +kernel
theorem d_tb_inOrderOfSpeed_11 : decode b_tb_inOrderOfSpeed 11 = .ok (.getfield 9, 3) := by decide +kernel
theorem d_tb_inOrderOfSpeed_14 : decode b_tb_inOrderOfSpeed 14 = .ok (.iload_n 3, 1) := by decide +kernel
theorem d_tb_inOrderOfSpeed_15 : decode b_tb_inOrderOfSpeed 15 = .ok (.iaload, 1) := by decide +kernel
theorem d_tb_inOrderOfSpeed_16 : decode b_tb_inOrderOfSpeed 16 = .ok (.iload_n 1, 1) := by decide +kernel
theorem d_tb_inOrderOfSpeed_17 : decode b_tb_inOrderOfSpeed 17 = .ok (.if_icmp .ne 14, 3) := by decide +kernel
theorem d_tb_inOrderOfSpeed_20 : decode b_tb_inOrderOfSpeed 20 = .ok (.aload_n 0, 1) := by decide +kernel
theorem d_tb_inOrderOfSpeed_21 : decode b_tb_inOrderOfSpeed 21 = .ok (.iload_n 3, 1) := by decide +kernel
theorem d_tb_inOrderOfSpeed_22 : decode b_tb_inOrderOfSpeed 22 = .ok (.invokevirtual 54, 3) := by decide +kernel
theorem d_tb_inOrderOfSpeed_25 : decode b_tb_inOrderOfSpeed 25 = .ok (.iload_n 2, 1) := by decide +kernel
theorem d_tb_inOrderOfSpeed_26 : decode b_tb_inOrderOfSpeed 26 = .ok (.if_icmp .ne 5, 3) := by decide +kernel
theorem d_tb_inOrderOfSpeed_29 : decode b_tb_inOrderOfSpeed 29 = .ok (.iload_n 3, 1) := by decide +kernel
theorem d_tb_inOrderOfSpeed_30 : decode b_tb_inOrderOfSpeed 30 = .ok (.ireturn, 1) := by decide +kernel
theorem d_tb_inOrderOfSpeed_31 : decode b_tb_inOrderOfSpeed 31 = .ok (.iinc 3 1, 3) := by decide +kernel
theorem d_tb_inOrderOfSpeed_34 : decode b_tb_inOrderOfSpeed 34 = .ok (.goto (-32), 3) := by decide +kernel
theorem d_tb_inOrderOfSpeed_37 : decode b_tb_inOrderOfSpeed 37 = .ok (.bipush (-9), 2) := by decide +kernel
theorem d_tb_inOrderOfSpeed_39 : decode b_tb_inOrderOfSpeed 39 = .ok (.ireturn, 1) := by decide +kernel
theorem d_tb_placeInMode_0 : decode b_tb_placeInMode 0 = .ok (.iconst 0, 1) := by decide +kernel
theorem d_tb_placeInMode_1 : decode b_tb_placeInMode 1 = .ok (.istore_n 2, 1) := by decide +kernel
theorem d_tb_placeInMode_2 : decode b_tb_placeInMode 2 = .ok (.iconst 0, 1) := by decide +kernel
theorem d_tb_placeInMode_3 : decode b_tb_placeInMode 3 = .ok (.istore_n 3, 1) := by decide +kernel
theorem d_tb_placeInMode_4 : decode b_tb_placeInMode 4 = .ok (.iload_n 3, 1) := by decide +kernel
theorem d_tb_placeInMode_5 : decode b_tb_placeInMode 5 = .ok (.aload_n 0, 1) := by decide +kernel
theorem d_tb_placeInMode_6 : decode b_tb_placeInMode 6 = .ok (.getfield 21, 3) := by decide +kernel
theorem d_tb_placeInMode_9 : decode b_tb_placeInMode 9 = .ok (.if_icmp .ge 74, 3) := by decide +kernel
theorem d_tb_placeInMode_12 : decode b_tb_placeInMode 12 = .ok (.aload_n 0, 1) := by decide +kernel
theorem d_tb_placeInMode_13 : decode b_tb_placeInMode 13 = .ok (.getfield 15, 3) := by decide +kernel
theorem d_tb_placeInMode_16 : decode b_tb_placeInMode 16 = .ok (.iload_n 3, 1) := by decide +kernel
theorem d_tb_placeInMode_17 : decode b_tb_placeInMode 17 = .ok (.iaload, 1) := by decide +kernel
theorem d_tb_placeInMode_18 : decode b_tb_placeInMode 18 = .ok (.aload_n 0, 1) := by decide +kernel
theorem d_tb_placeInMode_19 : decode b_tb_placeInMode 19 = .ok (.getfield 15, 3) := by decide +kernel
theorem d_tb_placeInMode_22 : decode b_tb_placeInMode 22 = .ok (.iload_n 1, 1) := by decide +kernel
theorem d_tb_placeInMode_23 : decode b_tb_placeInMode 23 = .ok (.iaload, 1) := by decide +kernel
theorem d_tb_placeInMode_24 : decode b_tb_placeInMode 24 = .ok (.if_icmp .lt 23, 3) := by decide +kernel
theorem d_tb_placeInMode_27 : decode b_tb_placeInMode 27 = .ok (.aload_n 0, 1) := by decide +kernel
theorem d_tb_placeInMode_28 : decode b_tb_placeInMode 28 = .ok (.getfield 15, 3) := by decide +kernel
theorem d_tb_placeInMode_31 : decode b_tb_placeInMode 31 = .ok (.iload_n 3, 1) := by decide +kernel
theorem d_tb_placeInMode_32 : decode b_tb_placeInMode 32 = .ok (.iaload, 1) := by decide +kernel
theorem d_tb_placeInMode_33 : decode b_tb_placeInMode 33 = .ok (.aload_n 0, 1) := by decide +kernel
theorem d_tb_placeInMode_34 : decode b_tb_placeInMode 34 = .ok (.getfield 15, 3) := by decide +kernel
theorem d_tb_placeInMode_37 : decode b_tb_placeInMode 37 = .ok (.iload_n 1, 1) := by decide +kernel
theorem d_tb_placeInMode_38 : decode b_tb_placeInMode 38 = .ok (.iaload, 1) := by decide +kernel
theorem d_tb_placeInMode_39 : decode b_tb_placeInMode 39 = .ok (.if_icmp .ne 12, 3) := by decide +kernel
theorem d_tb_placeInMode_42 : decode b_tb_placeInMode 42 = .ok (.iload_n 3, 1) := by decide +kernel
theorem d_tb_placeInMode_43 : decode b_tb_placeInMode 43 = .ok (.iload_n 1, 1) := by decide +kernel
theorem d_tb_placeInMode_44 : decode b_tb_placeInMode 44 = .ok (.if_icmp .ge 7, 3) := by decide +kernel
theorem d_tb_placeInMode_47 : decode b_tb_placeInMode 47 = .ok (.iconst 1, 1) := by decide +kernel
theorem d_tb_placeInMode_48 : decode b_tb_placeInMode 48 = .ok (.goto 4, 3) := by decide +kernel
theorem d_tb_placeInMode_51 : decode b_tb_placeInMode 51 = .ok (.iconst 0, 1) := by decide +kernel
theorem d_tb_placeInMode_52 : decode b_tb_placeInMode 52 = .ok (.istore 4, 2) := by decide +kernel
theorem d_tb_placeInMode_54 : decode b_tb_placeInMode 54 = .ok (.aload_n 0, 1) := by decide +kernel
theorem d_tb_placeInMode_55 : decode b_tb_placeInMode 55 = .ok (.getfield 9, 3) := by decide +kernel
theorem d_tb_placeInMode_58 : decode b_tb_placeInMode 58 = .ok (.iload_n 3, 1) := by decide +kernel
theorem d_tb_placeInMode_59 : decode b_tb_placeInMode 59 = .ok (.iaload, 1) := by decide +kernel
theorem d_tb_placeInMode_60 : decode b_tb_placeInMode 60 = .ok (.aload_n 0, 1) := by decide +kernel
theorem d_tb_placeInMode_61 : decode b_tb_placeInMode 61 = .ok (.getfield 9, 3) := by decide +kernel
theorem d_tb_placeInMode_64 : decode b_tb_placeInMode 64 = .ok (.iload_n 1, 1) := by decide +kernel
theorem d_tb_placeInMode_65 : decode b_tb_placeInMode 65 = .ok (.iaload, 1) := by decide +kernel
theorem d_tb_placeInMode_66 : decode b_tb_placeInMode 66 = .ok (.if_icmp .ne 11, 3) := by decide +kernel
theorem d_tb_placeInMode_69 : decode b_tb_placeInMode 69 = .ok (.iload 4, 2) := by decide +kernel
theorem d_tb_placeInMode_71 : decode b_tb_placeInMode 71 = .ok (.ifCond .eq 6, 3) := by decide +kernel
theorem d_tb_placeInMode_74 : decode b_tb_placeInMode 74 = .ok (.iinc 2 1, 3) := by decide +kernel
theorem d_tb_placeInMode_77 : decode b_tb_placeInMode 77 = .ok (.iinc 3 1, 3) := by decide +kernel
theorem d_tb_placeInMode_80 : decode b_tb_placeInMode 80 = .ok (.goto (-76), 3) := by decide +kernel
theorem d_tb_placeInMode_83 : decode b_tb_placeInMode 83 = .ok (.iload_n 2, 1) := by decide +kernel
theorem d_tb_placeInMode_84 : decode b_tb_placeInMode 84 = .ok (.ireturn, 1) := by decide +kernel
theorem d_tb_dividedUp_0 : decode b_tb_dividedUp 0 = .ok (.iload_n 1, 1) := by decide +kernel
theorem d_tb_dividedUp_1 : decode b_tb_dividedUp 1 = .ok (.iconst 1, 1) := by decide +kernel
theorem d_tb_dividedUp_2 : decode b_tb_dividedUp 2 = .ok (.if_icmp .ge 7, 3) := by decide +kernel
theorem d_tb_dividedUp_5 : decode b_tb_dividedUp 5 = .ok (.iconst 0, 1) := by decide +kernel
theorem d_tb_dividedUp_6 : decode b_tb_dividedUp 6 = .ok (.goto 10, 3) := by decide +kernel
theorem d_tb_dividedUp_9 : decode b_tb_dividedUp 9 = .ok (.iload_n 0, 1) := by decide +kernel
theorem d_tb_dividedUp_10 : decode b_tb_dividedUp 10 = .ok (.iload_n 1, 1) := by decide +kernel
theorem d_tb_dividedUp_11 : decode b_tb_dividedUp 11 = .ok (.iadd, 1) := by decide +kernel
theorem d_tb_dividedUp_12 : decode b_tb_dividedUp 12 = .ok (.iconst 1, 1) := by decide +kernel
theorem d_tb_dividedUp_13 : decode b_tb_dividedUp 13 = .ok (.isub, 1) := by decide +kernel
theorem d_tb_dividedUp_14 : decode b_tb_dividedUp 14 = .ok (.iload_n 1, 1) := by decide +kernel
theorem d_tb_dividedUp_15 : decode b_tb_dividedUp 15 = .ok (.idiv, 1) := by decide +kernel
theorem d_tb_dividedUp_16 : decode b_tb_dividedUp 16 = .ok (.ireturn, 1) := by decide +kernel
theorem d_st_init_0 : decode b_st_init 0 = .ok (.aload_n 0, 1) := by decide +kernel
theorem d_st_init_1 : decode b_st_init 1 = .ok (.invokespecial 3, 3) := by decide +kernel
theorem d_st_init_4 : decode b_st_init 4 = .ok (.aload_n 0, 1) := by decide +kernel
theorem d_st_init_5 : decode b_st_init 5 = .ok (.bipush 8, 2) := by decide +kernel
theorem d_st_init_7 : decode b_st_init 7 = .ok (.anewarray 9, 3) := by decide +kernel
theorem d_st_init_10 : decode b_st_init 10 = .ok (.putfield 11, 3) := by decide +kernel
theorem d_st_init_13 : decode b_st_init 13 = .ok (.aload_n 0, 1) := by decide +kernel
theorem d_st_init_14 : decode b_st_init 14 = .ok (.iconst 4, 1) := by decide +kernel
theorem d_st_init_15 : decode b_st_init 15 = .ok (.newarray .int, 2) := by decide +kernel
theorem d_st_init_17 : decode b_st_init 17 = .ok (.putfield 17, 3) := by decide +kernel
theorem d_st_init_20 : decode b_st_init 20 = .ok (.aload_n 0, 1) := by decide +kernel
theorem d_st_init_21 : decode b_st_init 21 = .ok (.iconst 3, 1) := by decide +kernel
theorem d_st_init_22 : decode b_st_init 22 = .ok (.newarray .int, 2) := by decide +kernel
theorem d_st_init_24 : decode b_st_init 24 = .ok (.putfield 21, 3) := by decide +kernel
theorem d_st_init_27 : decode b_st_init 27 = .ok (.aload_n 0, 1) := by decide +kernel
theorem d_st_init_28 : decode b_st_init 28 = .ok (.bipush 8, 2) := by decide +kernel
theorem d_st_init_30 : decode b_st_init 30 = .ok (.newarray .int, 2) := by decide +kernel
theorem d_st_init_32 : decode b_st_init 32 = .ok (.putfield 24, 3) := by decide +kernel
theorem d_st_init_35 : decode b_st_init 35 = .ok (.aload_n 0, 1) := by decide +kernel
theorem d_st_init_36 : decode b_st_init 36 = .ok (.iload_n 1, 1) := by decide +kernel
theorem d_st_init_37 : decode b_st_init 37 = .ok (.putfield 27, 3) := by decide +kernel
theorem d_st_init_40 : decode b_st_init 40 = .ok (.aload_n 0, 1) := by decide +kernel
theorem d_st_init_41 : decode b_st_init 41 = .ok (.bipush 7, 2) := by decide +kernel
theorem d_st_init_43 : decode b_st_init 43 = .ok (.iload_n 1, 1) := by decide +kernel
theorem d_st_init_44 : decode b_st_init 44 = .ok (.imul, 1) := by decide +kernel
theorem d_st_init_45 : decode b_st_init 45 = .ok (.iconst 1, 1) := by decide +kernel
theorem d_st_init_46 : decode b_st_init 46 = .ok (.iadd, 1) := by decide +kernel
theorem d_st_init_47 : decode b_st_init 47 = .ok (.putfield 31, 3) := by decide +kernel
theorem d_st_init_50 : decode b_st_init 50 = .ok (.iconst 0, 1) := by decide +kernel
theorem d_st_init_51 : decode b_st_init 51 = .ok (.istore_n 2, 1) := by decide +kernel
theorem d_st_init_52 : decode b_st_init 52 = .ok (.iload_n 2, 1) := by decide +kernel
theorem d_st_init_53 : decode b_st_init 53 = .ok (.bipush 8, 2) := by decide +kernel
theorem d_st_init_55 : decode b_st_init 55 = .ok (.if_icmp .ge 22, 3) := by decide +kernel
theorem d_st_init_58 : decode b_st_init 58 = .ok (.aload_n 0, 1) := by decide +kernel
theorem d_st_init_59 : decode b_st_init 59 = .ok (.getfield 11, 3) := by decide +kernel
theorem d_st_init_62 : decode b_st_init 62 = .ok (.iload_n 2, 1) := by decide +kernel
theorem d_st_init_63 : decode b_st_init 63 = .ok (.new 9, 3) := by decide +kernel
theorem d_st_init_66 : decode b_st_init 66 = .ok (.dup, 1) := by decide +kernel
theorem d_st_init_67 : decode b_st_init 67 = .ok (.invokespecial 34, 3) := by decide +kernel
theorem d_st_init_70 : decode b_st_init 70 = .ok (.aastore, 1) := by decide +kernel
theorem d_st_init_71 : decode b_st_init 71 = .ok (.iinc 2 1, 3) := by decide +kernel
theorem d_st_init_74 : decode b_st_init 74 = .ok (.goto (-22), 3) := by decide +kernel
theorem d_st_init_77 : decode b_st_init 77 = .ok (.aload_n 0, 1) := by decide +kernel
theorem d_st_init_78 : decode b_st_init 78 = .ok (.getfield 17, 3) := by decide +kernel
theorem d_st_init_81 : decode b_st_init 81 = .ok (.bipush (-9), 2) := by decide +kernel
theorem d_st_init_83 : decode b_st_init 83 = .ok (.invokestatic 35, 3) := by decide +kernel
theorem d_st_init_86 : decode b_st_init 86 = .ok (.aload_n 0, 1) := by decide +kernel
theorem d_st_init_87 : decode b_st_init 87 = .ok (.getfield 21, 3) := by decide +kernel
theorem d_st_init_90 : decode b_st_init 90 = .ok (.bipush (-9), 2) := by decide +kernel
theorem d_st_init_92 : decode b_st_init 92 = .ok (.invokestatic 35, 3) := by decide +kernel
theorem d_st_init_95 : decode b_st_init 95 = .ok (.return_, 1) := by decide +kernel
theorem d_st_become_0 : decode b_st_become 0 = .ok (.iconst 0, 1) := by decide +kernel
theorem d_st_become_1 : decode b_st_become 1 = .ok (.istore_n 2, 1) := by decide +kernel
theorem d_st_become_2 : decode b_st_become 2 = .ok (.iload_n 2, 1) := by decide +kernel
theorem d_st_become_3 : decode b_st_become 3 = .ok (.bipush 8, 2) := by decide +kernel
theorem d_st_become_5 : decode b_st_become 5 = .ok (.if_icmp .ge 24, 3) := by decide +kernel
theorem d_st_become_8 : decode b_st_become 8 = .ok (.aload_n 0, 1) := by decide +kernel
theorem d_st_become_9 : decode b_st_become 9 = .ok (.getfield 11, 3) := by decide +kernel
theorem d_st_become_12 : decode b_st_become 12 = .ok (.iload_n 2, 1) := by decide +kernel
theorem d_st_become_13 : decode b_st_become 13 = .ok (.aaload, 1) := by decide +kernel
theorem d_st_become_14 : decode b_st_become 14 = .ok (.aload_n 1, 1) := by decide +kernel
theorem d_st_become_15 : decode b_st_become 15 = .ok (.getfield 11, 3) := by decide +kernel
theorem d_st_become_18 : decode b_st_become 18 = .ok (.iload_n 2, 1) := by decide +kernel
theorem d_st_become_19 : decode b_st_become 19 = .ok (.aaload, 1) := by decide +kernel
theorem d_st_become_20 : decode b_st_become 20 = .ok (.invokevirtual 41, 3) := by decide +kernel
theorem d_st_become_23 : decode b_st_become 23 = .ok (.iinc 2 1, 3) := by decide +kernel
theorem d_st_become_26 : decode b_st_become 26 = .ok (.goto (-24), 3) := by decide +kernel
theorem d_st_become_29 : decode b_st_become 29 = .ok (.aload_n 1, 1) := by decide +kernel
theorem d_st_become_30 : decode b_st_become 30 = .ok (.getfield 17, 3) := by decide +kernel
theorem d_st_become_33 : decode b_st_become 33 = .ok (.iconst 0, 1) := by decide +kernel
theorem d_st_become_34 : decode b_st_become 34 = .ok (.aload_n 0, 1) := by decide +kernel
theorem d_st_become_35 : decode b_st_become 35 = .ok (.getfield 17, 3) := by decide +kernel
theorem d_st_become_38 : decode b_st_become 38 = .ok (.iconst 0, 1) := by decide +kernel
theorem d_st_become_39 : decode b_st_become 39 = .ok (.iconst 4, 1) := by decide +kernel
theorem d_st_become_40 : decode b_st_become 40 = .ok (.invokestatic 45, 3) := by decide +kernel
theorem d_st_become_43 : decode b_st_become 43 = .ok (.aload_n 1, 1) := by decide +kernel
theorem d_st_become_44 : decode b_st_become 44 = .ok (.getfield 21, 3) := by decide +kernel
theorem d_st_become_47 : decode b_st_become 47 = .ok (.iconst 0, 1) := by decide +kernel
theorem d_st_become_48 : decode b_st_become 48 = .ok (.aload_n 0, 1) := by decide +kernel
theorem d_st_become_49 : decode b_st_become 49 = .ok (.getfield 21, 3) := by decide +kernel
theorem d_st_become_52 : decode b_st_become 52 = .ok (.iconst 0, 1) := by decide +kernel
theorem d_st_become_53 : decode b_st_become 53 = .ok (.iconst 3, 1) := by decide +kernel
theorem d_st_become_54 : decode b_st_become 54 = .ok (.invokestatic 45, 3) := by decide +kernel
theorem d_st_become_57 : decode b_st_become 57 = .ok (.aload_n 1, 1) := by decide +kernel
theorem d_st_become_58 : decode b_st_become 58 = .ok (.getfield 24, 3) := by decide +kernel
theorem d_st_become_61 : decode b_st_become 61 = .ok (.iconst 0, 1) := by decide +kernel
theorem d_st_become_62 : decode b_st_become 62 = .ok (.aload_n 0, 1) := by decide +kernel
theorem d_st_become_63 : decode b_st_become 63 = .ok (.getfield 24, 3) := by decide +kernel
theorem d_st_become_66 : decode b_st_become 66 = .ok (.iconst 0, 1) := by decide +kernel
theorem d_st_become_67 : decode b_st_become 67 = .ok (.bipush 8, 2) := by decide +kernel
theorem d_st_become_69 : decode b_st_become 69 = .ok (.invokestatic 45, 3) := by decide +kernel
theorem d_st_become_72 : decode b_st_become 72 = .ok (.aload_n 0, 1) := by decide +kernel
theorem d_st_become_73 : decode b_st_become 73 = .ok (.aload_n 1, 1) := by decide +kernel
theorem d_st_become_74 : decode b_st_become 74 = .ok (.getfield 51, 3) := by decide +kernel
theorem d_st_become_77 : decode b_st_become 77 = .ok (.putfield 51, 3) := by decide +kernel
theorem d_st_become_80 : decode b_st_become 80 = .ok (.aload_n 0, 1) := by decide +kernel
theorem d_st_become_81 : decode b_st_become 81 = .ok (.aload_n 1, 1) := by decide +kernel
theorem d_st_become_82 : decode b_st_become 82 = .ok (.getfield 54, 3) := by decide +kernel
theorem d_st_become_85 : decode b_st_become 85 = .ok (.putfield 54, 3) := by decide +kernel
theorem d_st_become_88 : decode b_st_become 88 = .ok (.aload_n 0, 1) := by decide +kernel
theorem d_st_become_89 : decode b_st_become 89 = .ok (.aload_n 1, 1) := by decide +kernel
theorem d_st_become_90 : decode b_st_become 90 = .ok (.getfield 57, 3) := by decide +kernel
theorem d_st_become_93 : decode b_st_become 93 = .ok (.putfield 57, 3) := by decide +kernel
theorem d_st_become_96 : decode b_st_become 96 = .ok (.aload_n 0, 1) := by decide +kernel
theorem d_st_become_97 : decode b_st_become 97 = .ok (.aload_n 1, 1) := by decide +kernel
theorem d_st_become_98 : decode b_st_become 98 = .ok (.getfield 60, 3) := by decide +kernel
theorem d_st_become_101 : decode b_st_become 101 = .ok (.putfield 60, 3) := by decide +kernel
theorem d_st_become_104 : decode b_st_become 104 = .ok (.aload_n 0, 1) := by decide +kernel
theorem d_st_become_105 : decode b_st_become 105 = .ok (.aload_n 1, 1) := by decide +kernel
theorem d_st_become_106 : decode b_st_become 106 = .ok (.getfield 63, 3) := by decide +kernel
theorem d_st_become_109 : decode b_st_become 109 = .ok (.putfield 63, 3) := by decide +kernel
theorem d_st_become_112 : decode b_st_become 112 = .ok (.aload_n 0, 1) := by decide +kernel
theorem d_st_become_113 : decode b_st_become 113 = .ok (.aload_n 1, 1) := by decide +kernel
theorem d_st_become_114 : decode b_st_become 114 = .ok (.getfield 66, 3) := by decide +kernel
theorem d_st_become_117 : decode b_st_become 117 = .ok (.putfield 66, 3) := by decide +kernel
theorem d_st_become_120 : decode b_st_become 120 = .ok (.aload_n 0, 1) := by decide +kernel
theorem d_st_become_121 : decode b_st_become 121 = .ok (.aload_n 1, 1) := by decide +kernel
theorem d_st_become_122 : decode b_st_become 122 = .ok (.getfield 69, 3) := by decide +kernel
theorem d_st_become_125 : decode b_st_become 125 = .ok (.putfield 69, 3) := by decide +kernel
theorem d_st_become_128 : decode b_st_become 128 = .ok (.aload_n 0, 1) := by decide +kernel
theorem d_st_become_129 : decode b_st_become 129 = .ok (.aload_n 1, 1) := by decide +kernel
theorem d_st_become_130 : decode b_st_become 130 = .ok (.getfield 73, 3) := by decide +kernel
theorem d_st_become_133 : decode b_st_become 133 = .ok (.putfield 73, 3) := by decide +kernel
theorem d_st_become_136 : decode b_st_become 136 = .ok (.aload_n 0, 1) := by decide +kernel
theorem d_st_become_137 : decode b_st_become 137 = .ok (.aload_n 1, 1) := by decide +kernel
theorem d_st_become_138 : decode b_st_become 138 = .ok (.getfield 76, 3) := by decide +kernel
theorem d_st_become_141 : decode b_st_become 141 = .ok (.putfield 76, 3) := by decide +kernel
theorem d_st_become_144 : decode b_st_become 144 = .ok (.aload_n 0, 1) := by decide +kernel
theorem d_st_become_145 : decode b_st_become 145 = .ok (.aload_n 1, 1) := by decide +kernel
theorem d_st_become_146 : decode b_st_become 146 = .ok (.getfield 31, 3) := by decide +kernel
theorem d_st_become_149 : decode b_st_become 149 = .ok (.putfield 31, 3) := by decide +kernel
theorem d_st_become_152 : decode b_st_become 152 = .ok (.return_, 1) := by decide +kernel
theorem d_st_hasAllowedRate_0 : decode b_st_hasAllowedRate 0 = .ok (.iconst 0, 1) := by decide +kernel
theorem d_st_hasAllowedRate_1 : decode b_st_hasAllowedRate 1 = .ok (.istore_n 2, 1) := by decide +kernel
theorem d_st_hasAllowedRate_2 : decode b_st_hasAllowedRate 2 = .ok (.iload_n 2, 1) := by decide +kernel
theorem d_st_hasAllowedRate_3 : decode b_st_hasAllowedRate 3 = .ok (.aload_n 1, 1) := by decide +kernel
theorem d_st_hasAllowedRate_4 : decode b_st_hasAllowedRate 4 = .ok (.getfield 80, 3) := by decide +kernel
theorem d_st_hasAllowedRate_7 : decode b_st_hasAllowedRate 7 = .ok (.if_icmp .ge 23, 3) := by decide +kernel
theorem d_st_hasAllowedRate_10 : decode b_st_hasAllowedRate 10 = .ok (.aload_n 0, 1) := by decide +kernel
theorem d_st_hasAllowedRate_11 : decode b_st_hasAllowedRate 11 = .ok (.getfield 11, 3) := by decide +kernel
theorem d_st_hasAllowedRate_14 : decode b_st_hasAllowedRate 14 = .ok (.iload_n 2, 1) := by decide +kernel
theorem d_st_hasAllowedRate_15 : decode b_st_hasAllowedRate 15 = .ok (.aaload, 1) := by decide +kernel
theorem d_st_hasAllowedRate_16 : decode b_st_hasAllowedRate 16 = .ok (.getfield 85, 3) := by decide +kernel
theorem d_st_hasAllowedRate_19 : decode b_st_hasAllowedRate 19 = .ok (.ifCond .eq 5, 3) := by decide +kernel
theorem d_st_hasAllowedRate_22 : decode b_st_hasAllowedRate 22 = .ok (.iconst 1, 1) := by decide +kernel
theorem d_st_hasAllowedRate_23 : decode b_st_hasAllowedRate 23 = .ok (.ireturn, 1) := by decide +kernel
theorem d_st_hasAllowedRate_24 : decode b_st_hasAllowedRate 24 = .ok (.iinc 2 1, 3) := by decide +kernel
theorem d_st_hasAllowedRate_27 : decode b_st_hasAllowedRate 27 = .ok (.goto (-25), 3) := by decide +kernel
theorem d_st_hasAllowedRate_30 : decode b_st_hasAllowedRate 30 = .ok (.iconst 0, 1) := by decide +kernel
theorem d_st_hasAllowedRate_31 : decode b_st_hasAllowedRate 31 = .ok (.ireturn, 1) := by decide +kernel
theorem d_st_isReady_0 : decode b_st_isReady 0 = .ok (.aload_n 0, 1) := by decide +kernel
theorem d_st_isReady_1 : decode b_st_isReady 1 = .ok (.getfield 51, 3) := by decide +kernel
theorem d_st_isReady_4 : decode b_st_isReady 4 = .ok (.ifCond .le 15, 3) := by decide +kernel
theorem d_st_isReady_7 : decode b_st_isReady 7 = .ok (.aload_n 0, 1) := by decide +kernel
theorem d_st_isReady_8 : decode b_st_isReady 8 = .ok (.aload_n 1, 1) := by decide +kernel
theorem d_st_isReady_9 : decode b_st_isReady 9 = .ok (.invokevirtual 88, 3) := by decide +kernel
theorem d_st_isReady_12 : decode b_st_isReady 12 = .ok (.ifCond .eq 7, 3) := by decide +kernel
theorem d_st_isReady_15 : decode b_st_isReady 15 = .ok (.iconst 1, 1) := by decide +kernel
theorem d_st_isReady_16 : decode b_st_isReady 16 = .ok (.goto 4, 3) := by decide +kernel
theorem d_st_isReady_19 : decode b_st_isReady 19 = .ok (.iconst 0, 1) := by decide +kernel
theorem d_st_isReady_20 : decode b_st_isReady 20 = .ok (.ireturn, 1) := by decide +kernel
theorem d_st_appendFrame_0 : decode b_st_appendFrame 0 = .ok (.aload_n 0, 1) := by decide +kernel
theorem d_st_appendFrame_1 : decode b_st_appendFrame 1 = .ok (.getfield 51, 3) := by decide +kernel
theorem d_st_appendFrame_4 : decode b_st_appendFrame 4 = .ok (.ifCond .lt 12, 3) := by decide +kernel
theorem d_st_appendFrame_7 : decode b_st_appendFrame 7 = .ok (.aload_n 0, 1) := by decide +kernel
theorem d_st_appendFrame_8 : decode b_st_appendFrame 8 = .ok (.getfield 51, 3) := by decide +kernel
theorem d_st_appendFrame_11 : decode b_st_appendFrame 11 = .ok (.bipush 8, 2) := by decide +kernel
theorem d_st_appendFrame_13 : decode b_st_appendFrame 13 = .ok (.if_icmp .lt 6, 3) := by decide +kernel
theorem d_st_appendFrame_16 : decode b_st_appendFrame 16 = .ok (.bipush (-3), 2) := by decide +kernel
theorem d_st_appendFrame_18 : decode b_st_appendFrame 18 = .ok (.ireturn, 1) := by decide +kernel
theorem d_st_appendFrame_19 : decode b_st_appendFrame 19 = .ok (.aload_n 0, 1) := by decide +kernel
theorem d_st_appendFrame_20 : decode b_st_appendFrame 20 = .ok (.getfield 24, 3) := by decide +kernel
theorem d_st_appendFrame_23 : decode b_st_appendFrame 23 = .ok (.aload_n 0, 1) := by decide +kernel
theorem d_st_appendFrame_24 : decode b_st_appendFrame 24 = .ok (.getfield 51, 3) := by decide +kernel
theorem d_st_appendFrame_27 : decode b_st_appendFrame 27 = .ok (.iload_n 1, 1) := by decide +kernel
theorem d_st_appendFrame_28 : decode b_st_appendFrame 28 = .ok (.iastore, 1) := by decide +kernel
theorem d_st_appendFrame_29 : decode b_st_appendFrame 29 = .ok (.aload_n 0, 1) := by decide +kernel
theorem d_st_appendFrame_30 : decode b_st_appendFrame 30 = .ok (.dup, 1) := by decide +kernel
theorem d_st_appendFrame_31 : decode b_st_appendFrame 31 = .ok (.getfield 51, 3) := by decide +kernel
theorem d_st_appendFrame_34 : decode b_st_appendFrame 34 = .ok (.iconst 1, 1) := by decide +kernel
theorem d_st_appendFrame_35 : decode b_st_appendFrame 35 = .ok (.iadd, 1) := by decide +kernel
theorem d_st_appendFrame_36 : decode b_st_appendFrame 36 = .ok (.putfield 51, 3) := by decide +kernel
theorem d_st_appendFrame_39 : decode b_st_appendFrame 39 = .ok (.aload_n 0, 1) := by decide +kernel
theorem d_st_appendFrame_40 : decode b_st_appendFrame 40 = .ok (.getfield 51, 3) := by decide +kernel
theorem d_st_appendFrame_43 : decode b_st_appendFrame 43 = .ok (.ireturn, 1) := by decide +kernel
theorem d_st_takeFrame_0 : decode b_st_takeFrame 0 = .ok (.aload_n 0, 1) := by decide +kernel
theorem d_st_takeFrame_1 : decode b_st_takeFrame 1 = .ok (.getfield 24, 3) := by decide +kernel
theorem d_st_takeFrame_4 : decode b_st_takeFrame 4 = .ok (.iconst 0, 1) := by decide +kernel
theorem d_st_takeFrame_5 : decode b_st_takeFrame 5 = .ok (.iaload, 1) := by decide +kernel
theorem d_st_takeFrame_6 : decode b_st_takeFrame 6 = .ok (.istore_n 1, 1) := by decide +kernel
theorem d_st_takeFrame_7 : decode b_st_takeFrame 7 = .ok (.aload_n 0, 1) := by decide +kernel
theorem d_st_takeFrame_8 : decode b_st_takeFrame 8 = .ok (.getfield 24, 3) := by decide +kernel
theorem d_st_takeFrame_11 : decode b_st_takeFrame 11 = .ok (.iconst 1, 1) := by decide +kernel
theorem d_st_takeFrame_12 : decode b_st_takeFrame 12 = .ok (.aload_n 0, 1) := by decide +kernel
theorem d_st_takeFrame_13 : decode b_st_takeFrame 13 = .ok (.getfield 24, 3) := by decide +kernel
theorem d_st_takeFrame_16 : decode b_st_takeFrame 16 = .ok (.iconst 0, 1) := by decide +kernel
theorem d_st_takeFrame_17 : decode b_st_takeFrame 17 = .ok (.bipush 7, 2) := by decide +kernel
theorem d_st_takeFrame_19 : decode b_st_takeFrame 19 = .ok (.invokestatic 45, 3) := by decide +kernel
theorem d_st_takeFrame_22 : decode b_st_takeFrame 22 = .ok (.aload_n 0, 1) := by decide +kernel
theorem d_st_takeFrame_23 : decode b_st_takeFrame 23 = .ok (.iconst 0, 1) := by decide +kernel
theorem d_st_takeFrame_24 : decode b_st_takeFrame 24 = .ok (.aload_n 0, 1) := by decide +kernel
theorem d_st_takeFrame_25 : decode b_st_takeFrame 25 = .ok (.getfield 51, 3) := by decide +kernel
theorem d_st_takeFrame_28 : decode b_st_takeFrame 28 = .ok (.iconst 1, 1) := by decide +kernel
theorem d_st_takeFrame_29 : decode b_st_takeFrame 29 = .ok (.isub, 1) := by decide +kernel
theorem d_st_takeFrame_30 : decode b_st_takeFrame 30 = .ok (.invokestatic 92, 3) := by decide +kernel
theorem d_st_takeFrame_33 : decode b_st_takeFrame 33 = .ok (.putfield 51, 3) := by decide +kernel
theorem d_st_takeFrame_36 : decode b_st_takeFrame 36 = .ok (.iload_n 1, 1) := by decide +kernel
theorem d_st_takeFrame_37 : decode b_st_takeFrame 37 = .ok (.ireturn, 1) := by decide +kernel
theorem d_st_fillRoles_0 : decode b_st_fillRoles 0 = .ok (.aload_n 0, 1) := by decide +kernel
theorem d_st_fillRoles_1 : decode b_st_fillRoles 1 = .ok (.getfield 17, 3) := by decide +kernel
theorem d_st_fillRoles_4 : decode b_st_fillRoles 4 = .ok (.iconst 0, 1) := by decide +kernel
theorem d_st_fillRoles_5 : decode b_st_fillRoles 5 = .ok (.aload_n 0, 1) := by decide +kernel
theorem d_st_fillRoles_6 : decode b_st_fillRoles 6 = .ok (.aload_n 1, 1) := by decide +kernel
theorem d_st_fillRoles_7 : decode b_st_fillRoles 7 = .ok (.iconst 0, 1) := by decide +kernel
theorem d_st_fillRoles_8 : decode b_st_fillRoles 8 = .ok (.bipush (-9), 2) := by decide +kernel
theorem d_st_fillRoles_10 : decode b_st_fillRoles 10 = .ok (.iconst 0, 1) := by decide +kernel
theorem d_st_fillRoles_11 : decode b_st_fillRoles 11 = .ok (.invokevirtual 98, 3) := by decide +kernel
theorem d_st_fillRoles_14 : decode b_st_fillRoles 14 = .ok (.iastore, 1) := by decide +kernel
theorem d_st_fillRoles_15 : decode b_st_fillRoles 15 = .ok (.aload_n 0, 1) := by decide +kernel
theorem d_st_fillRoles_16 : decode b_st_fillRoles 16 = .ok (.aload_n 1, 1) := by decide +kernel
theorem d_st_fillRoles_17 : decode b_st_fillRoles 17 = .ok (.iconst 0, 1) := by decide +kernel
theorem d_st_fillRoles_18 : decode b_st_fillRoles 18 = .ok (.aload_n 0, 1) := by decide +kernel
theorem d_st_fillRoles_19 : decode b_st_fillRoles 19 = .ok (.getfield 17, 3) := by decide +kernel
theorem d_st_fillRoles_22 : decode b_st_fillRoles 22 = .ok (.iconst 0, 1) := by decide +kernel
theorem d_st_fillRoles_23 : decode b_st_fillRoles 23 = .ok (.iaload, 1) := by decide +kernel
theorem d_st_fillRoles_24 : decode b_st_fillRoles 24 = .ok (.iconst 0, 1) := by decide +kernel
theorem d_st_fillRoles_25 : decode b_st_fillRoles 25 = .ok (.invokevirtual 98, 3) := by decide +kernel
theorem d_st_fillRoles_28 : decode b_st_fillRoles 28 = .ok (.istore_n 2, 1) := by decide +kernel
theorem d_st_fillRoles_29 : decode b_st_fillRoles 29 = .ok (.aload_n 0, 1) := by decide +kernel
theorem d_st_fillRoles_30 : decode b_st_fillRoles 30 = .ok (.getfield 17, 3) := by decide +kernel
theorem d_st_fillRoles_33 : decode b_st_fillRoles 33 = .ok (.iconst 1, 1) := by decide +kernel
theorem d_st_fillRoles_34 : decode b_st_fillRoles 34 = .ok (.iload_n 2, 1) := by decide +kernel
theorem d_st_fillRoles_35 : decode b_st_fillRoles 35 = .ok (.bipush (-9), 2) := by decide +kernel
theorem d_st_fillRoles_37 : decode b_st_fillRoles 37 = .ok (.if_icmp .ne 12, 3) := by decide +kernel
theorem d_st_fillRoles_40 : decode b_st_fillRoles 40 = .ok (.aload_n 0, 1) := by decide +kernel
theorem d_st_fillRoles_41 : decode b_st_fillRoles 41 = .ok (.getfield 17, 3) := by decide +kernel
theorem d_st_fillRoles_44 : decode b_st_fillRoles 44 = .ok (.iconst 0, 1) := by decide +kernel
theorem d_st_fillRoles_45 : decode b_st_fillRoles 45 = .ok (.iaload, 1) := by decide +kernel
theorem d_st_fillRoles_46 : decode b_st_fillRoles 46 = .ok (.goto 4, 3) := by decide +kernel
theorem d_st_fillRoles_49 : decode b_st_fillRoles 49 = .ok (.iload_n 2, 1) := by decide +kernel
theorem d_st_fillRoles_50 : decode b_st_fillRoles 50 = .ok (.iastore, 1) := by decide +kernel
theorem d_st_fillRoles_51 : decode b_st_fillRoles 51 = .ok (.aload_n 0, 1) := by decide +kernel
theorem d_st_fillRoles_52 : decode b_st_fillRoles 52 = .ok (.aload_n 1, 1) := by decide +kernel
theorem d_st_fillRoles_53 : decode b_st_fillRoles 53 = .ok (.ldc 102, 2) := by decide +kernel
theorem d_st_fillRoles_55 : decode b_st_fillRoles 55 = .ok (.bipush (-9), 2) := by decide +kernel
theorem d_st_fillRoles_57 : decode b_st_fillRoles 57 = .ok (.iconst 0, 1) := by decide +kernel
theorem d_st_fillRoles_58 : decode b_st_fillRoles 58 = .ok (.invokevirtual 98, 3) := by decide +kernel
theorem d_st_fillRoles_61 : decode b_st_fillRoles 61 = .ok (.istore_n 3, 1) := by decide +kernel
theorem d_st_fillRoles_62 : decode b_st_fillRoles 62 = .ok (.aload_n 0, 1) := by decide +kernel
theorem d_st_fillRoles_63 : decode b_st_fillRoles 63 = .ok (.getfield 17, 3) := by decide +kernel
theorem d_st_fillRoles_66 : decode b_st_fillRoles 66 = .ok (.iconst 2, 1) := by decide +kernel
theorem d_st_fillRoles_67 : decode b_st_fillRoles 67 = .ok (.iload_n 3, 1) := by decide +kernel
theorem d_st_fillRoles_68 : decode b_st_fillRoles 68 = .ok (.bipush (-9), 2) := by decide +kernel
theorem d_st_fillRoles_70 : decode b_st_fillRoles 70 = .ok (.if_icmp .ne 15, 3) := by decide +kernel
theorem d_st_fillRoles_73 : decode b_st_fillRoles 73 = .ok (.aload_n 0, 1) := by decide +kernel
theorem d_st_fillRoles_74 : decode b_st_fillRoles 74 = .ok (.aload_n 1, 1) := by decide +kernel
theorem d_st_fillRoles_75 : decode b_st_fillRoles 75 = .ok (.iconst 0, 1) := by decide +kernel
theorem d_st_fillRoles_76 : decode b_st_fillRoles 76 = .ok (.bipush (-9), 2) := by decide +kernel
theorem d_st_fillRoles_78 : decode b_st_fillRoles 78 = .ok (.iconst 1, 1) := by decide +kernel
theorem d_st_fillRoles_79 : decode b_st_fillRoles 79 = .ok (.invokevirtual 98, 3) := by decide +kernel
theorem d_st_fillRoles_82 : decode b_st_fillRoles 82 = .ok (.goto 4, 3) := by decide +kernel
theorem d_st_fillRoles_85 : decode b_st_fillRoles 85 = .ok (.iload_n 3, 1) := by decide +kernel
theorem d_st_fillRoles_86 : decode b_st_fillRoles 86 = .ok (.iastore, 1) := by decide +kernel
theorem d_st_fillRoles_87 : decode b_st_fillRoles 87 = .ok (.aload_n 0, 1) := by decide +kernel
theorem d_st_fillRoles_88 : decode b_st_fillRoles 88 = .ok (.getfield 17, 3) := by decide +kernel
theorem d_st_fillRoles_91 : decode b_st_fillRoles 91 = .ok (.iconst 3, 1) := by decide +kernel
theorem d_st_fillRoles_92 : decode b_st_fillRoles 92 = .ok (.aload_n 0, 1) := by decide +kernel
theorem d_st_fillRoles_93 : decode b_st_fillRoles 93 = .ok (.aload_n 1, 1) := by decide +kernel
theorem d_st_fillRoles_94 : decode b_st_fillRoles 94 = .ok (.invokevirtual 103, 3) := by decide +kernel
theorem d_st_fillRoles_97 : decode b_st_fillRoles 97 = .ok (.iastore, 1) := by decide +kernel
theorem d_st_fillRoles_98 : decode b_st_fillRoles 98 = .ok (.return_, 1) := by decide +kernel
theorem d_st_highest_0 : decode b_st_highest 0 = .ok (.bipush (-9), 2) := by decide +kernel
theorem d_st_highest_2 : decode b_st_highest 2 = .ok (.istore 5, 2) := by decide +kernel
theorem d_st_highest_4 : decode b_st_highest 4 = .ok (.lconst 0, 1) := by decide +kernel
theorem d_st_highest_5 : decode b_st_highest 5 = .ok (.lstore 6, 2) := by decide +kernel
theorem d_st_highest_7 : decode b_st_highest 7 = .ok (.iconst 0, 1) := by decide +kernel
theorem d_st_highest_8 : decode b_st_highest 8 = .ok (.istore 8, 2) := by decide +kernel
theorem d_st_highest_10 : decode b_st_highest 10 = .ok (.iload 8, 2) := by decide +kernel
theorem d_st_highest_12 : decode b_st_highest 12 = .ok (.aload_n 1, 1) := by decide +kernel
theorem d_st_highest_13 : decode b_st_highest 13 = .ok (.getfield 80, 3) := by decide +kernel
theorem d_st_highest_16 : decode b_st_highest 16 = .ok (.if_icmp .ge 114, 3) := by decide +kernel
theorem d_st_highest_19 : decode b_st_highest 19 = .ok (.aload_n 0, 1) := by decide +kernel
theorem d_st_highest_20 : decode b_st_highest 20 = .ok (.getfield 11, 3) := by decide +kernel
theorem d_st_highest_23 : decode b_st_highest 23 = .ok (.iload 8, 2) := by decide +kernel
theorem d_st_highest_25 : decode b_st_highest 25 = .ok (.aaload, 1) := by decide +kernel
theorem d_st_highest_26 : decode b_st_highest 26 = .ok (.astore 9, 2) := by decide +kernel
theorem d_st_highest_28 : decode b_st_highest 28 = .ok (.aload 9, 2) := by decide +kernel
theorem d_st_highest_30 : decode b_st_highest 30 = .ok (.invokevirtual 107, 3) := by decide +kernel
theorem d_st_highest_33 : decode b_st_highest 33 = .ok (.istore 10, 2) := by decide +kernel
theorem d_st_highest_35 : decode b_st_highest 35 = .ok (.aload 9, 2) := by decide +kernel
theorem d_st_highest_37 : decode b_st_highest 37 = .ok (.getfield 85, 3) := by decide +kernel
theorem d_st_highest_40 : decode b_st_highest 40 = .ok (.ifCond .eq 84, 3) := by decide +kernel
theorem d_st_highest_43 : decode b_st_highest 43 = .ok (.iload 8, 2) := by decide +kernel
theorem d_st_highest_45 : decode b_st_highest 45 = .ok (.iload_n 3, 1) := by decide +kernel
theorem d_st_highest_46 : decode b_st_highest 46 = .ok (.if_icmp .eq 78, 3) := by decide +kernel
theorem d_st_highest_49 : decode b_st_highest 49 = .ok (.iload 10, 2) := by decide +kernel
theorem d_st_highest_51 : decode b_st_highest 51 = .ok (.iload_n 2, 1) := by decide +kernel
theorem d_st_highest_52 : decode b_st_highest 52 = .ok (.if_icmp .ge 6, 3) := by decide +kernel
theorem d_st_highest_55 : decode b_st_highest 55 = .ok (.goto 69, 3) := by decide +kernel
theorem d_st_highest_58 : decode b_st_highest 58 = .ok (.aload 9, 2) := by decide +kernel
theorem d_st_highest_60 : decode b_st_highest 60 = .ok (.aload_n 1, 1) := by decide +kernel
theorem d_st_highest_61 : decode b_st_highest 61 = .ok (.getfield 111, 3) := by decide +kernel
theorem d_st_highest_64 : decode b_st_highest 64 = .ok (.iload 8, 2) := by decide +kernel
theorem d_st_highest_66 : decode b_st_highest 66 = .ok (.iaload, 1) := by decide +kernel
theorem d_st_highest_67 : decode b_st_highest 67 = .ok (.invokevirtual 114, 3) := by decide +kernel
theorem d_st_highest_70 : decode b_st_highest 70 = .ok (.i2l, 1) := by decide +kernel
theorem d_st_highest_71 : decode b_st_highest 71 = .ok (.lstore 11, 2) := by decide +kernel
theorem d_st_highest_73 : decode b_st_highest 73 = .ok (.iload 4, 2) := by decide +kernel
theorem d_st_highest_75 : decode b_st_highest 75 = .ok (.ifCond .eq 15, 3) := by decide +kernel
theorem d_st_highest_78 : decode b_st_highest 78 = .ok (.iload 10, 2) := by decide +kernel
theorem d_st_highest_80 : decode b_st_highest 80 = .ok (.i2l, 1) := by decide +kernel
theorem d_st_highest_81 : decode b_st_highest 81 = .ok (.bipush 32, 2) := by decide +kernel
theorem d_st_highest_83 : decode b_st_highest 83 = .ok (.lshl, 1) := by decide +kernel
theorem d_st_highest_84 : decode b_st_highest 84 = .ok (.lload 11, 2) := by decide +kernel
theorem d_st_highest_86 : decode b_st_highest 86 = .ok (.ladd, 1) := by decide +kernel
theorem d_st_highest_87 : decode b_st_highest 87 = .ok (.goto 12, 3) := by decide +kernel
theorem d_st_highest_90 : decode b_st_highest 90 = .ok (.lload 11, 2) := by decide +kernel
theorem d_st_highest_92 : decode b_st_highest 92 = .ok (.bipush 32, 2) := by decide +kernel
theorem d_st_highest_94 : decode b_st_highest 94 = .ok (.lshl, 1) := by decide +kernel
theorem d_st_highest_95 : decode b_st_highest 95 = .ok (.iload 10, 2) := by decide +kernel
theorem d_st_highest_97 : decode b_st_highest 97 = .ok (.i2l, 1) := by decide +kernel
theorem d_st_highest_98 : decode b_st_highest 98 = .ok (.ladd, 1) := by decide +kernel
theorem d_st_highest_99 : decode b_st_highest 99 = .ok (.lstore 13, 2) := by decide +kernel
theorem d_st_highest_101 : decode b_st_highest 101 = .ok (.iload 5, 2) := by decide +kernel
theorem d_st_highest_103 : decode b_st_highest 103 = .ok (.bipush (-9), 2) := by decide +kernel
theorem d_st_highest_105 : decode b_st_highest 105 = .ok (.if_icmp .eq 11, 3) := by decide +kernel
theorem d_st_highest_108 : decode b_st_highest 108 = .ok (.lload 13, 2) := by decide +kernel
theorem d_st_highest_110 : decode b_st_highest 110 = .ok (.lload 6, 2) := by decide +kernel
theorem d_st_highest_112 : decode b_st_highest 112 = .ok (.lcmp, 1) := by decide +kernel
theorem d_st_highest_113 : decode b_st_highest 113 = .ok (.ifCond .le 11, 3) := by decide +kernel
theorem d_st_highest_116 : decode b_st_highest 116 = .ok (.iload 8, 2) := by decide +kernel
theorem d_st_highest_118 : decode b_st_highest 118 = .ok (.istore 5, 2) := by decide +kernel
theorem d_st_highest_120 : decode b_st_highest 120 = .ok (.lload 13, 2) := by decide +kernel
theorem d_st_highest_122 : decode b_st_highest 122 = .ok (.lstore 6, 2) := by decide +kernel
theorem d_st_highest_124 : decode b_st_highest 124 = .ok (.iinc 8 1, 3) := by decide +kernel
theorem d_st_highest_127 : decode b_st_highest 127 = .ok (.goto (-117), 3) := by decide +kernel
theorem d_st_highest_130 : decode b_st_highest 130 = .ok (.iload 5, 2) := by decide +kernel
theorem d_st_highest_132 : decode b_st_highest 132 = .ok (.ireturn, 1) := by decide +kernel
theorem d_st_slowestAllowed_0 : decode b_st_slowestAllowed 0 = .ok (.bipush (-9), 2) := by decide +kernel
theorem d_st_slowestAllowed_2 : decode b_st_slowestAllowed 2 = .ok (.istore_n 2, 1) := by decide +kernel
theorem d_st_slowestAllowed_3 : decode b_st_slowestAllowed 3 = .ok (.iconst 0, 1) := by decide +kernel
theorem d_st_slowestAllowed_4 : decode b_st_slowestAllowed 4 = .ok (.istore_n 3, 1) := by decide +kernel
theorem d_st_slowestAllowed_5 : decode b_st_slowestAllowed 5 = .ok (.iconst 0, 1) := by decide +kernel
theorem d_st_slowestAllowed_6 : decode b_st_slowestAllowed 6 = .ok (.istore 4, 2) := by decide +kernel
theorem d_st_slowestAllowed_8 : decode b_st_slowestAllowed 8 = .ok (.iload 4, 2) := by decide +kernel
theorem d_st_slowestAllowed_10 : decode b_st_slowestAllowed 10 = .ok (.aload_n 1, 1) := by decide +kernel
theorem d_st_slowestAllowed_11 : decode b_st_slowestAllowed 11 = .ok (.getfield 80, 3) := by decide +kernel
theorem d_st_slowestAllowed_14 : decode b_st_slowestAllowed 14 = .ok (.if_icmp .ge 44, 3) := by decide +kernel
theorem d_st_slowestAllowed_17 : decode b_st_slowestAllowed 17 = .ok (.aload_n 0, 1) := by decide +kernel
theorem d_st_slowestAllowed_18 : decode b_st_slowestAllowed 18 = .ok (.getfield 11, 3) := by decide +kernel
theorem d_st_slowestAllowed_21 : decode b_st_slowestAllowed 21 = .ok (.iload 4, 2) := by decide +kernel
theorem d_st_slowestAllowed_23 : decode b_st_slowestAllowed 23 = .ok (.aaload, 1) := by decide +kernel
theorem d_st_slowestAllowed_24 : decode b_st_slowestAllowed 24 = .ok (.getfield 85, 3) := by decide +kernel
theorem d_st_slowestAllowed_27 : decode b_st_slowestAllowed 27 = .ok (.ifCond .eq 25, 3) := by decide +kernel
theorem d_st_slowestAllowed_30 : decode b_st_slowestAllowed 30 = .ok (.aload_n 1, 1) := by decide +kernel
theorem d_st_slowestAllowed_31 : decode b_st_slowestAllowed 31 = .ok (.getfield 111, 3) := by decide +kernel
theorem d_st_slowestAllowed_34 : decode b_st_slowestAllowed 34 = .ok (.iload 4, 2) := by decide +kernel
theorem d_st_slowestAllowed_36 : decode b_st_slowestAllowed 36 = .ok (.iaload, 1) := by decide +kernel
theorem d_st_slowestAllowed_37 : decode b_st_slowestAllowed 37 = .ok (.iload_n 3, 1) := by decide +kernel
theorem d_st_slowestAllowed_38 : decode b_st_slowestAllowed 38 = .ok (.if_icmp .le 14, 3) := by decide +kernel
theorem d_st_slowestAllowed_41 : decode b_st_slowestAllowed 41 = .ok (.iload 4, 2) := by decide +kernel
theorem d_st_slowestAllowed_43 : decode b_st_slowestAllowed 43 = .ok (.istore_n 2, 1) := by decide +kernel
theorem d_st_slowestAllowed_44 : decode b_st_slowestAllowed 44 = .ok (.aload_n 1, 1) := by decide +kernel
theorem d_st_slowestAllowed_45 : decode b_st_slowestAllowed 45 = .ok (.getfield 111, 3) := by decide +kernel
theorem d_st_slowestAllowed_48 : decode b_st_slowestAllowed 48 = .ok (.iload 4, 2) := by decide +kernel
theorem d_st_slowestAllowed_50 : decode b_st_slowestAllowed 50 = .ok (.iaload, 1) := by decide +kernel
theorem d_st_slowestAllowed_51 : decode b_st_slowestAllowed 51 = .ok (.istore_n 3, 1) := by decide +kernel
theorem d_st_slowestAllowed_52 : decode b_st_slowestAllowed 52 = .ok (.iinc 4 1, 3) := by decide +kernel
theorem d_st_slowestAllowed_55 : decode b_st_slowestAllowed 55 = .ok (.goto (-47), 3) := by decide +kernel
theorem d_st_slowestAllowed_58 : decode b_st_slowestAllowed 58 = .ok (.iload_n 2, 1) := by decide +kernel
theorem d_st_slowestAllowed_59 : decode b_st_slowestAllowed 59 = .ok (.ireturn, 1) := by decide +kernel
theorem d_st_mostValuableOfMode_0 : decode b_st_mostValuableOfMode 0 = .ok (.bipush (-9), 2) := by decide +kernel
theorem d_st_mostValuableOfMode_2 : decode b_st_mostValuableOfMode 2 = .ok (.istore_n 3, 1) := by decide +kernel
theorem d_st_mostValuableOfMode_3 : decode b_st_mostValuableOfMode 3 = .ok (.iconst 0, 1) := by decide +kernel
theorem d_st_mostValuableOfMode_4 : decode b_st_mostValuableOfMode 4 = .ok (.istore 4, 2) := by decide +kernel
theorem d_st_mostValuableOfMode_6 : decode b_st_mostValuableOfMode 6 = .ok (.iconst 0, 1) := by decide +kernel
theorem d_st_mostValuableOfMode_7 : decode b_st_mostValuableOfMode 7 = .ok (.istore 5, 2) := by decide +kernel
theorem d_st_mostValuableOfMode_9 : decode b_st_mostValuableOfMode 9 = .ok (.iload 5, 2) := by decide +kernel
theorem d_st_mostValuableOfMode_11 : decode b_st_mostValuableOfMode 11 = .ok (.aload_n 1, 1) := by decide +kernel
theorem d_st_mostValuableOfMode_12 : decode b_st_mostValuableOfMode 12 = .ok (.getfield 80, 3) := by decide +kernel
theorem d_st_mostValuableOfMode_15 : decode b_st_mostValuableOfMode 15 = .ok (.if_icmp .ge 82, 3) := by decide +kernel
theorem d_st_mostValuableOfMode_18 : decode b_st_mostValuableOfMode 18 = .ok (.aload_n 1, 1) := by decide +kernel
theorem d_st_mostValuableOfMode_19 : decode b_st_mostValuableOfMode 19 = .ok (.iload_n 2, 1) := by decide +kernel
theorem d_st_mostValuableOfMode_20 : decode b_st_mostValuableOfMode 20 = .ok (.iload 5, 2) := by decide +kernel
theorem d_st_mostValuableOfMode_22 : decode b_st_mostValuableOfMode 22 = .ok (.invokevirtual 118, 3) := by decide +kernel
theorem d_st_mostValuableOfMode_25 : decode b_st_mostValuableOfMode 25 = .ok (.istore 6, 2) := by decide +kernel
theorem d_st_mostValuableOfMode_27 : decode b_st_mostValuableOfMode 27 = .ok (.aload_n 1, 1) := by decide +kernel
theorem d_st_mostValuableOfMode_28 : decode b_st_mostValuableOfMode 28 = .ok (.iload 6, 2) := by decide +kernel
theorem d_st_mostValuableOfMode_30 : decode b_st_mostValuableOfMode 30 = .ok (.invokevirtual 121, 3) := by decide +kernel
theorem d_st_mostValuableOfMode_33 : decode b_st_mostValuableOfMode 33 = .ok (.ifCond .eq 58, 3) := by decide +kernel
theorem d_st_mostValuableOfMode_36 : decode b_st_mostValuableOfMode 36 = .ok (.aload_n 0, 1) := by decide +kernel
theorem d_st_mostValuableOfMode_37 : decode b_st_mostValuableOfMode 37 = .ok (.getfield 11, 3) := by decide +kernel
theorem d_st_mostValuableOfMode_40 : decode b_st_mostValuableOfMode 40 = .ok (.iload 6, 2) := by decide +kernel
theorem d_st_mostValuableOfMode_42 : decode b_st_mostValuableOfMode 42 = .ok (.aaload, 1) := by decide +kernel
theorem d_st_mostValuableOfMode_43 : decode b_st_mostValuableOfMode 43 = .ok (.getfield 85, 3) := by decide +kernel
theorem d_st_mostValuableOfMode_46 : decode b_st_mostValuableOfMode 46 = .ok (.ifCond .ne 6, 3) := by decide +kernel
theorem d_st_mostValuableOfMode_49 : decode b_st_mostValuableOfMode 49 = .ok (.goto 42, 3) := by decide +kernel
theorem d_st_mostValuableOfMode_52 : decode b_st_mostValuableOfMode 52 = .ok (.aload_n 0, 1) := by decide +kernel
theorem d_st_mostValuableOfMode_53 : decode b_st_mostValuableOfMode 53 = .ok (.getfield 11, 3) := by decide +kernel
theorem d_st_mostValuableOfMode_56 : decode b_st_mostValuableOfMode 56 = .ok (.iload 6, 2) := by decide +kernel
theorem d_st_mostValuableOfMode_58 : decode b_st_mostValuableOfMode 58 = .ok (.aaload, 1) := by decide +kernel
theorem d_st_mostValuableOfMode_59 : decode b_st_mostValuableOfMode 59 = .ok (.aload_n 1, 1) := by decide +kernel
theorem d_st_mostValuableOfMode_60 : decode b_st_mostValuableOfMode 60 = .ok (.getfield 111, 3) := by decide +kernel
theorem d_st_mostValuableOfMode_63 : decode b_st_mostValuableOfMode 63 = .ok (.iload 6, 2) := by decide +kernel
theorem d_st_mostValuableOfMode_65 : decode b_st_mostValuableOfMode 65 = .ok (.iaload, 1) := by decide +kernel
theorem d_st_mostValuableOfMode_66 : decode b_st_mostValuableOfMode 66 = .ok (.invokevirtual 114, 3) := by decide +kernel
theorem d_st_mostValuableOfMode_69 : decode b_st_mostValuableOfMode 69 = .ok (.istore 7, 2) := by decide +kernel
theorem d_st_mostValuableOfMode_71 : decode b_st_mostValuableOfMode 71 = .ok (.iload_n 3, 1) := by decide +kernel
theorem d_st_mostValuableOfMode_72 : decode b_st_mostValuableOfMode 72 = .ok (.bipush (-9), 2) := by decide +kernel
theorem d_st_mostValuableOfMode_74 : decode b_st_mostValuableOfMode 74 = .ok (.if_icmp .eq 10, 3) := by decide +kernel
theorem d_st_mostValuableOfMode_77 : decode b_st_mostValuableOfMode 77 = .ok (.iload 7, 2) := by decide +kernel
theorem d_st_mostValuableOfMode_79 : decode b_st_mostValuableOfMode 79 = .ok (.iload 4, 2) := by decide +kernel
theorem d_st_mostValuableOfMode_81 : decode b_st_mostValuableOfMode 81 = .ok (.if_icmp .le 10, 3) := by decide +kernel
theorem d_st_mostValuableOfMode_84 : decode b_st_mostValuableOfMode 84 = .ok (.iload 6, 2) := by decide +kernel
theorem d_st_mostValuableOfMode_86 : decode b_st_mostValuableOfMode 86 = .ok (.istore_n 3, 1) := by decide +kernel
theorem d_st_mostValuableOfMode_87 : decode b_st_mostValuableOfMode 87 = .ok (.iload 7, 2) := by decide +kernel
theorem d_st_mostValuableOfMode_89 : decode b_st_mostValuableOfMode 89 = .ok (.istore 4, 2) := by decide +kernel
theorem d_st_mostValuableOfMode_91 : decode b_st_mostValuableOfMode 91 = .ok (.iinc 5 1, 3) := by decide +kernel
theorem d_st_mostValuableOfMode_94 : decode b_st_mostValuableOfMode 94 = .ok (.goto (-85), 3) := by decide +kernel
theorem d_st_mostValuableOfMode_97 : decode b_st_mostValuableOfMode 97 = .ok (.iload_n 3, 1) := by decide +kernel
theorem d_st_mostValuableOfMode_98 : decode b_st_mostValuableOfMode 98 = .ok (.ireturn, 1) := by decide +kernel
theorem d_st_mostTried_0 : decode b_st_mostTried 0 = .ok (.bipush (-9), 2) := by decide +kernel
theorem d_st_mostTried_2 : decode b_st_mostTried 2 = .ok (.istore_n 2, 1) := by decide +kernel
theorem d_st_mostTried_3 : decode b_st_mostTried 3 = .ok (.iconst 0, 1) := by decide +kernel
theorem d_st_mostTried_4 : decode b_st_mostTried 4 = .ok (.istore_n 3, 1) := by decide +kernel
theorem d_st_mostTried_5 : decode b_st_mostTried 5 = .ok (.iconst 0, 1) := by decide +kernel
theorem d_st_mostTried_6 : decode b_st_mostTried 6 = .ok (.istore 4, 2) := by decide +kernel
theorem d_st_mostTried_8 : decode b_st_mostTried 8 = .ok (.iload 4, 2) := by decide +kernel
theorem d_st_mostTried_10 : decode b_st_mostTried 10 = .ok (.aload_n 1, 1) := by decide +kernel
theorem d_st_mostTried_11 : decode b_st_mostTried 11 = .ok (.getfield 80, 3) := by decide +kernel
theorem d_st_mostTried_14 : decode b_st_mostTried 14 = .ok (.if_icmp .ge 37, 3) := by decide +kernel
theorem d_st_mostTried_17 : decode b_st_mostTried 17 = .ok (.aload_n 0, 1) := by decide +kernel
theorem d_st_mostTried_18 : decode b_st_mostTried 18 = .ok (.getfield 11, 3) := by decide +kernel
theorem d_st_mostTried_21 : decode b_st_mostTried 21 = .ok (.iload 4, 2) := by decide +kernel
theorem d_st_mostTried_23 : decode b_st_mostTried 23 = .ok (.aaload, 1) := by decide +kernel
theorem d_st_mostTried_24 : decode b_st_mostTried 24 = .ok (.getfield 125, 3) := by decide +kernel
theorem d_st_mostTried_27 : decode b_st_mostTried 27 = .ok (.iload_n 3, 1) := by decide +kernel
theorem d_st_mostTried_28 : decode b_st_mostTried 28 = .ok (.if_icmp .le 17, 3) := by decide +kernel
theorem d_st_mostTried_31 : decode b_st_mostTried 31 = .ok (.iload 4, 2) := by decide +kernel
theorem d_st_mostTried_33 : decode b_st_mostTried 33 = .ok (.istore_n 2, 1) := by decide +kernel
theorem d_st_mostTried_34 : decode b_st_mostTried 34 = .ok (.aload_n 0, 1) := by decide +kernel
theorem d_st_mostTried_35 : decode b_st_mostTried 35 = .ok (.getfield 11, 3) := by decide +kernel
theorem d_st_mostTried_38 : decode b_st_mostTried 38 = .ok (.iload 4, 2) := by decide +kernel
theorem d_st_mostTried_40 : decode b_st_mostTried 40 = .ok (.aaload, 1) := by decide +kernel
theorem d_st_mostTried_41 : decode b_st_mostTried 41 = .ok (.getfield 125, 3) := by decide +kernel
theorem d_st_mostTried_44 : decode b_st_mostTried 44 = .ok (.istore_n 3, 1) := by decide +kernel
theorem d_st_mostTried_45 : decode b_st_mostTried 45 = .ok (.iinc 4 1, 3) := by decide +kernel
theorem d_st_mostTried_48 : decode b_st_mostTried 48 = .ok (.goto (-40), 3) := by decide +kernel
theorem d_st_mostTried_51 : decode b_st_mostTried 51 = .ok (.iload_n 2, 1) := by decide +kernel
theorem d_st_mostTried_52 : decode b_st_mostTried 52 = .ok (.ireturn, 1) := by decide +kernel
theorem d_st_bestByChannel_0 : decode b_st_bestByChannel 0 = .ok (.bipush (-9), 2) := by decide +kernel
theorem d_st_bestByChannel_2 : decode b_st_bestByChannel 2 = .ok (.istore_n 3, 1) := by decide +kernel
theorem d_st_bestByChannel_3 : decode b_st_bestByChannel 3 = .ok (.lconst 0, 1) := by decide +kernel
theorem d_st_bestByChannel_4 : decode b_st_bestByChannel 4 = .ok (.lstore 4, 2) := by decide +kernel
theorem d_st_bestByChannel_6 : decode b_st_bestByChannel 6 = .ok (.lconst 1, 1) := by decide +kernel
theorem d_st_bestByChannel_7 : decode b_st_bestByChannel 7 = .ok (.lstore 6, 2) := by decide +kernel
theorem d_st_bestByChannel_9 : decode b_st_bestByChannel 9 = .ok (.iconst 0, 1) := by decide +kernel
theorem d_st_bestByChannel_10 : decode b_st_bestByChannel 10 = .ok (.istore 8, 2) := by decide +kernel
theorem d_st_bestByChannel_12 : decode b_st_bestByChannel 12 = .ok (.iload 8, 2) := by decide +kernel
theorem d_st_bestByChannel_14 : decode b_st_bestByChannel 14 = .ok (.aload_n 1, 1) := by decide +kernel
theorem d_st_bestByChannel_15 : decode b_st_bestByChannel 15 = .ok (.getfield 80, 3) := by decide +kernel
theorem d_st_bestByChannel_18 : decode b_st_bestByChannel 18 = .ok (.if_icmp .ge 70, 3) := by decide +kernel
theorem d_st_bestByChannel_21 : decode b_st_bestByChannel 21 = .ok (.aload_n 1, 1) := by decide +kernel
theorem d_st_bestByChannel_22 : decode b_st_bestByChannel 22 = .ok (.iload 8, 2) := by decide +kernel
theorem d_st_bestByChannel_24 : decode b_st_bestByChannel 24 = .ok (.iload_n 2, 1) := by decide +kernel
theorem d_st_bestByChannel_25 : decode b_st_bestByChannel 25 = .ok (.invokevirtual 128, 3) := by decide +kernel
theorem d_st_bestByChannel_28 : decode b_st_bestByChannel 28 = .ok (.i2l, 1) := by decide +kernel
theorem d_st_bestByChannel_29 : decode b_st_bestByChannel 29 = .ok (.lstore 9, 2) := by decide +kernel
theorem d_st_bestByChannel_31 : decode b_st_bestByChannel 31 = .ok (.aload_n 0, 1) := by decide +kernel
theorem d_st_bestByChannel_32 : decode b_st_bestByChannel 32 = .ok (.getfield 11, 3) := by decide +kernel
theorem d_st_bestByChannel_35 : decode b_st_bestByChannel 35 = .ok (.iload 8, 2) := by decide +kernel
theorem d_st_bestByChannel_37 : decode b_st_bestByChannel 37 = .ok (.aaload, 1) := by decide +kernel
theorem d_st_bestByChannel_38 : decode b_st_bestByChannel 38 = .ok (.getfield 131, 3) := by decide +kernel
theorem d_st_bestByChannel_41 : decode b_st_bestByChannel 41 = .ok (.i2l, 1) := by decide +kernel
theorem d_st_bestByChannel_42 : decode b_st_bestByChannel 42 = .ok (.lstore 11, 2) := by decide +kernel
theorem d_st_bestByChannel_44 : decode b_st_bestByChannel 44 = .ok (.aload_n 0, 1) := by decide +kernel
theorem d_st_bestByChannel_45 : decode b_st_bestByChannel 45 = .ok (.getfield 11, 3) := by decide +kernel
theorem d_st_bestByChannel_48 : decode b_st_bestByChannel 48 = .ok (.iload 8, 2) := by decide +kernel
theorem d_st_bestByChannel_50 : decode b_st_bestByChannel 50 = .ok (.aaload, 1) := by decide +kernel
theorem d_st_bestByChannel_51 : decode b_st_bestByChannel 51 = .ok (.getfield 85, 3) := by decide +kernel
theorem d_st_bestByChannel_54 : decode b_st_bestByChannel 54 = .ok (.ifCond .eq 28, 3) := by decide +kernel
theorem d_st_bestByChannel_57 : decode b_st_bestByChannel 57 = .ok (.lload 11, 2) := by decide +kernel
theorem d_st_bestByChannel_59 : decode b_st_bestByChannel 59 = .ok (.lload 6, 2) := by decide +kernel
theorem d_st_bestByChannel_61 : decode b_st_bestByChannel 61 = .ok (.lmul, 1) := by decide +kernel
theorem d_st_bestByChannel_62 : decode b_st_bestByChannel 62 = .ok (.lload 4, 2) := by decide +kernel
theorem d_st_bestByChannel_64 : decode b_st_bestByChannel 64 = .ok (.lload 9, 2) := by decide +kernel
theorem d_st_bestByChannel_66 : decode b_st_bestByChannel 66 = .ok (.lmul, 1) := by decide +kernel
theorem d_st_bestByChannel_67 : decode b_st_bestByChannel 67 = .ok (.lcmp, 1) := by decide +kernel
theorem d_st_bestByChannel_68 : decode b_st_bestByChannel 68 = .ok (.ifCond .le 14, 3) := by decide +kernel
theorem d_st_bestByChannel_71 : decode b_st_bestByChannel 71 = .ok (.iload 8, 2) := by decide +kernel
theorem d_st_bestByChannel_73 : decode b_st_bestByChannel 73 = .ok (.istore_n 3, 1) := by decide +kernel
theorem d_st_bestByChannel_74 : decode b_st_bestByChannel 74 = .ok (.lload 11, 2) := by decide +kernel
theorem d_st_bestByChannel_76 : decode b_st_bestByChannel 76 = .ok (.lstore 4, 2) := by decide +kernel
theorem d_st_bestByChannel_78 : decode b_st_bestByChannel 78 = .ok (.lload 9, 2) := by decide +kernel
theorem d_st_bestByChannel_80 : decode b_st_bestByChannel 80 = .ok (.lstore 6, 2) := by decide +kernel
theorem d_st_bestByChannel_82 : decode b_st_bestByChannel 82 = .ok (.iinc 8 1, 3) := by decide +kernel
theorem d_st_bestByChannel_85 : decode b_st_bestByChannel 85 = .ok (.goto (-73), 3) := by decide +kernel
theorem d_st_bestByChannel_88 : decode b_st_bestByChannel 88 = .ok (.iload_n 3, 1) := by decide +kernel
theorem d_st_bestByChannel_89 : decode b_st_bestByChannel 89 = .ok (.ireturn, 1) := by decide +kernel
theorem d_st_noteRefusal_0 : decode b_st_noteRefusal 0 = .ok (.aload_n 0, 1) := by decide +kernel
theorem d_st_noteRefusal_1 : decode b_st_noteRefusal 1 = .ok (.getfield 21, 3) := by decide +kernel
theorem d_st_noteRefusal_4 : decode b_st_noteRefusal 4 = .ok (.iconst 0, 1) := by decide +kernel
theorem d_st_noteRefusal_5 : decode b_st_noteRefusal 5 = .ok (.iload_n 1, 1) := by decide +kernel
theorem d_st_noteRefusal_6 : decode b_st_noteRefusal 6 = .ok (.iastore, 1) := by decide +kernel
theorem d_st_noteRefusal_7 : decode b_st_noteRefusal 7 = .ok (.aload_n 0, 1) := by decide +kernel
theorem d_st_noteRefusal_8 : decode b_st_noteRefusal 8 = .ok (.getfield 21, 3) := by decide +kernel
theorem d_st_noteRefusal_11 : decode b_st_noteRefusal 11 = .ok (.iconst 1, 1) := by decide +kernel
theorem d_st_noteRefusal_12 : decode b_st_noteRefusal 12 = .ok (.iload_n 2, 1) := by decide +kernel
theorem d_st_noteRefusal_13 : decode b_st_noteRefusal 13 = .ok (.iastore, 1) := by decide +kernel
theorem d_st_noteRefusal_14 : decode b_st_noteRefusal 14 = .ok (.aload_n 0, 1) := by decide +kernel
theorem d_st_noteRefusal_15 : decode b_st_noteRefusal 15 = .ok (.getfield 21, 3) := by decide +kernel
theorem d_st_noteRefusal_18 : decode b_st_noteRefusal 18 = .ok (.iconst 2, 1) := by decide +kernel
theorem d_st_noteRefusal_19 : decode b_st_noteRefusal 19 = .ok (.iload_n 3, 1) := by decide +kernel
theorem d_st_noteRefusal_20 : decode b_st_noteRefusal 20 = .ok (.iastore, 1) := by decide +kernel
theorem d_st_noteRefusal_21 : decode b_st_noteRefusal 21 = .ok (.return_, 1) := by decide +kernel
theorem d_st_ratesTried_0 : decode b_st_ratesTried 0 = .ok (.iconst 0, 1) := by decide +kernel
theorem d_st_ratesTried_1 : decode b_st_ratesTried 1 = .ok (.istore_n 2, 1) := by decide +kernel
theorem d_st_ratesTried_2 : decode b_st_ratesTried 2 = .ok (.iconst 0, 1) := by decide +kernel
theorem d_st_ratesTried_3 : decode b_st_ratesTried 3 = .ok (.istore_n 3, 1) := by decide +kernel
theorem d_st_ratesTried_4 : decode b_st_ratesTried 4 = .ok (.iload_n 3, 1) := by decide +kernel
theorem d_st_ratesTried_5 : decode b_st_ratesTried 5 = .ok (.aload_n 1, 1) := by decide +kernel
theorem d_st_ratesTried_6 : decode b_st_ratesTried 6 = .ok (.getfield 80, 3) := by decide +kernel
theorem d_st_ratesTried_9 : decode b_st_ratesTried 9 = .ok (.if_icmp .ge 24, 3) := by decide +kernel
theorem d_st_ratesTried_12 : decode b_st_ratesTried 12 = .ok (.aload_n 0, 1) := by decide +kernel
theorem d_st_ratesTried_13 : decode b_st_ratesTried 13 = .ok (.getfield 11, 3) := by decide +kernel
theorem d_st_ratesTried_16 : decode b_st_ratesTried 16 = .ok (.iload_n 3, 1) := by decide +kernel
theorem d_st_ratesTried_17 : decode b_st_ratesTried 17 = .ok (.aaload, 1) := by decide +kernel
theorem d_st_ratesTried_18 : decode b_st_ratesTried 18 = .ok (.getfield 134, 3) := by decide +kernel
theorem d_st_ratesTried_21 : decode b_st_ratesTried 21 = .ok (.ifCond .le 6, 3) := by decide +kernel
theorem d_st_ratesTried_24 : decode b_st_ratesTried 24 = .ok (.iinc 2 1, 3) := by decide +kernel
theorem d_st_ratesTried_27 : decode b_st_ratesTried 27 = .ok (.iinc 3 1, 3) := by decide +kernel
theorem d_st_ratesTried_30 : decode b_st_ratesTried 30 = .ok (.goto (-26), 3) := by decide +kernel
theorem d_st_ratesTried_33 : decode b_st_ratesTried 33 = .ok (.iload_n 2, 1) := by decide +kernel
theorem d_st_ratesTried_34 : decode b_st_ratesTried 34 = .ok (.ireturn, 1) := by decide +kernel
theorem d_st_isCollapse_0 : decode b_st_isCollapse 0 = .ok (.iconst 0, 1) := by decide +kernel
theorem d_st_isCollapse_1 : decode b_st_isCollapse 1 = .ok (.istore_n 2, 1) := by decide +kernel
theorem d_st_isCollapse_2 : decode b_st_isCollapse 2 = .ok (.iconst 0, 1) := by decide +kernel
theorem d_st_isCollapse_3 : decode b_st_isCollapse 3 = .ok (.istore_n 3, 1) := by decide +kernel
theorem d_st_isCollapse_4 : decode b_st_isCollapse 4 = .ok (.iload_n 3, 1) := by decide +kernel
theorem d_st_isCollapse_5 : decode b_st_isCollapse 5 = .ok (.aload_n 1, 1) := by decide +kernel
theorem d_st_isCollapse_6 : decode b_st_isCollapse 6 = .ok (.getfield 80, 3) := by decide +kernel
theorem d_st_isCollapse_9 : decode b_st_isCollapse 9 = .ok (.if_icmp .ge 52, 3) := by decide +kernel
theorem d_st_isCollapse_12 : decode b_st_isCollapse 12 = .ok (.aload_n 0, 1) := by decide +kernel
theorem d_st_isCollapse_13 : decode b_st_isCollapse 13 = .ok (.getfield 11, 3) := by decide +kernel
theorem d_st_isCollapse_16 : decode b_st_isCollapse 16 = .ok (.iload_n 3, 1) := by decide +kernel
theorem d_st_isCollapse_17 : decode b_st_isCollapse 17 = .ok (.aaload, 1) := by decide +kernel
theorem d_st_isCollapse_18 : decode b_st_isCollapse 18 = .ok (.astore 4, 2) := by decide +kernel
theorem d_st_isCollapse_20 : decode b_st_isCollapse 20 = .ok (.aload 4, 2) := by decide +kernel
theorem d_st_isCollapse_22 : decode b_st_isCollapse 22 = .ok (.getfield 134, 3) := by decide +kernel
theorem d_st_isCollapse_25 : decode b_st_isCollapse 25 = .ok (.ifCond .le 30, 3) := by decide +kernel
theorem d_st_isCollapse_28 : decode b_st_isCollapse 28 = .ok (.aload 4, 2) := by decide +kernel
theorem d_st_isCollapse_30 : decode b_st_isCollapse 30 = .ok (.invokevirtual 137, 3) := by decide +kernel
theorem d_st_isCollapse_33 : decode b_st_isCollapse 33 = .ok (.ifCond .eq 22, 3) := by decide +kernel
theorem d_st_isCollapse_36 : decode b_st_isCollapse 36 = .ok (.aload 4, 2) := by decide +kernel
theorem d_st_isCollapse_38 : decode b_st_isCollapse 38 = .ok (.aload 4, 2) := by decide +kernel
theorem d_st_isCollapse_40 : decode b_st_isCollapse 40 = .ok (.invokevirtual 141, 3) := by decide +kernel
theorem d_st_isCollapse_43 : decode b_st_isCollapse 43 = .ok (.invokevirtual 144, 3) := by decide +kernel
theorem d_st_isCollapse_46 : decode b_st_isCollapse 46 = .ok (.iconst (-1), 1) := by decide +kernel
theorem d_st_isCollapse_47 : decode b_st_isCollapse 47 = .ok (.if_icmp .eq 5, 3) := by decide +kernel
theorem d_st_isCollapse_50 : decode b_st_isCollapse 50 = .ok (.iconst 0, 1) := by decide +kernel
theorem d_st_isCollapse_51 : decode b_st_isCollapse 51 = .ok (.ireturn, 1) := by decide +kernel
theorem d_st_isCollapse_52 : decode b_st_isCollapse 52 = .ok (.iinc 2 1, 3) := by decide +kernel
theorem d_st_isCollapse_55 : decode b_st_isCollapse 55 = .ok (.iinc 3 1, 3) := by decide +kernel
theorem d_st_isCollapse_58 : decode b_st_isCollapse 58 = .ok (.goto (-54), 3) := by decide +kernel
theorem d_st_isCollapse_61 : decode b_st_isCollapse 61 = .ok (.iload_n 2, 1) := by decide +kernel
theorem d_st_isCollapse_62 : decode b_st_isCollapse 62 = .ok (.iconst 2, 1) := by decide +kernel
theorem d_st_isCollapse_63 : decode b_st_isCollapse 63 = .ok (.if_icmp .lt 7, 3) := by decide +kernel
theorem d_st_isCollapse_66 : decode b_st_isCollapse 66 = .ok (.iconst 1, 1) := by decide +kernel
theorem d_st_isCollapse_67 : decode b_st_isCollapse 67 = .ok (.goto 4, 3) := by decide +kernel
theorem d_st_isCollapse_70 : decode b_st_isCollapse 70 = .ok (.iconst 0, 1) := by decide +kernel
theorem d_st_isCollapse_71 : decode b_st_isCollapse 71 = .ok (.ireturn, 1) := by decide +kernel
theorem d_st_collapse_0 : decode b_st_collapse 0 = .ok (.iconst 0, 1) := by decide +kernel
theorem d_st_collapse_1 : decode b_st_collapse 1 = .ok (.istore_n 2, 1) := by decide +kernel
theorem d_st_collapse_2 : decode b_st_collapse 2 = .ok (.iload_n 2, 1) := by decide +kernel
theorem d_st_collapse_3 : decode b_st_collapse 3 = .ok (.aload_n 1, 1) := by decide +kernel
theorem d_st_collapse_4 : decode b_st_collapse 4 = .ok (.getfield 80, 3) := by decide +kernel
theorem d_st_collapse_7 : decode b_st_collapse 7 = .ok (.if_icmp .ge 51, 3) := by decide +kernel
theorem d_st_collapse_10 : decode b_st_collapse 10 = .ok (.aload_n 0, 1) := by decide +kernel
theorem d_st_collapse_11 : decode b_st_collapse 11 = .ok (.getfield 11, 3) := by decide +kernel
theorem d_st_collapse_14 : decode b_st_collapse 14 = .ok (.iload_n 2, 1) := by decide +kernel
theorem d_st_collapse_15 : decode b_st_collapse 15 = .ok (.aaload, 1) := by decide +kernel
theorem d_st_collapse_16 : decode b_st_collapse 16 = .ok (.astore_n 3, 1) := by decide +kernel
theorem d_st_collapse_17 : decode b_st_collapse 17 = .ok (.aload_n 3, 1) := by decide +kernel
theorem d_st_collapse_18 : decode b_st_collapse 18 = .ok (.getfield 134, 3) := by decide +kernel
theorem d_st_collapse_21 : decode b_st_collapse 21 = .ok (.ifCond .le 14, 3) := by decide +kernel
theorem d_st_collapse_24 : decode b_st_collapse 24 = .ok (.aload_n 3, 1) := by decide +kernel
theorem d_st_collapse_25 : decode b_st_collapse 25 = .ok (.aload_n 3, 1) := by decide +kernel
theorem d_st_collapse_26 : decode b_st_collapse 26 = .ok (.invokevirtual 141, 3) := by decide +kernel
theorem d_st_collapse_29 : decode b_st_collapse 29 = .ok (.invokevirtual 147, 3) := by decide +kernel
theorem d_st_collapse_32 : decode b_st_collapse 32 = .ok (.goto 20, 3) := by decide +kernel
theorem d_st_collapse_35 : decode b_st_collapse 35 = .ok (.aload_n 3, 1) := by decide +kernel
theorem d_st_collapse_36 : decode b_st_collapse 36 = .ok (.invokevirtual 137, 3) := by decide +kernel
theorem d_st_collapse_39 : decode b_st_collapse 39 = .ok (.ifCond .eq 13, 3) := by decide +kernel
theorem d_st_collapse_42 : decode b_st_collapse 42 = .ok (.aload_n 3, 1) := by decide +kernel
theorem d_st_collapse_43 : decode b_st_collapse 43 = .ok (.dup, 1) := by decide +kernel
theorem d_st_collapse_44 : decode b_st_collapse 44 = .ok (.getfield 151, 3) := by decide +kernel
theorem d_st_collapse_47 : decode b_st_collapse 47 = .ok (.iconst 2, 1) := by decide +kernel
theorem d_st_collapse_48 : decode b_st_collapse 48 = .ok (.idiv, 1) := by decide +kernel
theorem d_st_collapse_49 : decode b_st_collapse 49 = .ok (.putfield 151, 3) := by decide +kernel
theorem d_st_collapse_52 : decode b_st_collapse 52 = .ok (.iinc 2 1, 3) := by decide +kernel
theorem d_st_collapse_55 : decode b_st_collapse 55 = .ok (.goto (-53), 3) := by decide +kernel
theorem d_st_collapse_58 : decode b_st_collapse 58 = .ok (.return_, 1) := by decide +kernel
theorem d_st_beginInterval_0 : decode b_st_beginInterval 0 = .ok (.iconst 0, 1) := by decide +kernel
theorem d_st_beginInterval_1 : decode b_st_beginInterval 1 = .ok (.istore 4, 2) := by decide +kernel
theorem d_st_beginInterval_3 : decode b_st_beginInterval 3 = .ok (.iload 4, 2) := by decide +kernel
theorem d_st_beginInterval_5 : decode b_st_beginInterval 5 = .ok (.aload_n 1, 1) := by decide +kernel
theorem d_st_beginInterval_6 : decode b_st_beginInterval 6 = .ok (.getfield 80, 3) := by decide +kernel
theorem d_st_beginInterval_9 : decode b_st_beginInterval 9 = .ok (.if_icmp .ge 31, 3) := by decide +kernel
theorem d_st_beginInterval_12 : decode b_st_beginInterval 12 = .ok (.aload_n 0, 1) := by decide +kernel
theorem d_st_beginInterval_13 : decode b_st_beginInterval 13 = .ok (.getfield 11, 3) := by decide +kernel
theorem d_st_beginInterval_16 : decode b_st_beginInterval 16 = .ok (.iload 4, 2) := by decide +kernel
theorem d_st_beginInterval_18 : decode b_st_beginInterval 18 = .ok (.aaload, 1) := by decide +kernel
theorem d_st_beginInterval_19 : decode b_st_beginInterval 19 = .ok (.iconst 0, 1) := by decide +kernel
theorem d_st_beginInterval_20 : decode b_st_beginInterval 20 = .ok (.putfield 134, 3) := by decide +kernel
theorem d_st_beginInterval_23 : decode b_st_beginInterval 23 = .ok (.aload_n 0, 1) := by decide +kernel
theorem d_st_beginInterval_24 : decode b_st_beginInterval 24 = .ok (.getfield 11, 3) := by decide +kernel
theorem d_st_beginInterval_27 : decode b_st_beginInterval 27 = .ok (.iload 4, 2) := by decide +kernel
theorem d_st_beginInterval_29 : decode b_st_beginInterval 29 = .ok (.aaload, 1) := by decide +kernel
theorem d_st_beginInterval_30 : decode b_st_beginInterval 30 = .ok (.iconst 0, 1) := by decide +kernel
theorem d_st_beginInterval_31 : decode b_st_beginInterval 31 = .ok (.putfield 154, 3) := by decide +kernel
theorem d_st_beginInterval_34 : decode b_st_beginInterval 34 = .ok (.iinc 4 1, 3) := by decide +kernel
theorem d_st_beginInterval_37 : decode b_st_beginInterval 37 = .ok (.goto (-34), 3) := by decide +kernel
theorem d_st_beginInterval_40 : decode b_st_beginInterval 40 = .ok (.aload_n 0, 1) := by decide +kernel
theorem d_st_beginInterval_41 : decode b_st_beginInterval 41 = .ok (.iconst 0, 1) := by decide +kernel
theorem d_st_beginInterval_42 : decode b_st_beginInterval 42 = .ok (.putfield 66, 3) := by decide +kernel
theorem d_st_beginInterval_45 : decode b_st_beginInterval 45 = .ok (.aload_n 0, 1) := by decide +kernel
theorem d_st_beginInterval_46 : decode b_st_beginInterval 46 = .ok (.lload_n 2, 1) := by decide +kernel
theorem d_st_beginInterval_47 : decode b_st_beginInterval 47 = .ok (.putfield 76, 3) := by decide +kernel
theorem d_st_beginInterval_50 : decode b_st_beginInterval 50 = .ok (.return_, 1) := by decide +kernel
theorem d_rc_init_0 : decode b_rc_init 0 = .ok (.aload_n 0, 1) := by decide +kernel
theorem d_rc_init_1 : decode b_rc_init 1 = .ok (.invokespecial 1, 3) := by decide +kernel
theorem d_rc_init_4 : decode b_rc_init 4 = .ok (.aload_n 0, 1) := by decide +kernel
theorem d_rc_init_5 : decode b_rc_init 5 = .ok (.new 7, 3) := by decide +kernel
theorem d_rc_init_8 : decode b_rc_init 8 = .ok (.dup, 1) := by decide +kernel
theorem d_rc_init_9 : decode b_rc_init 9 = .ok (.invokespecial 9, 3) := by decide +kernel
theorem d_rc_init_12 : decode b_rc_init 12 = .ok (.putfield 10, 3) := by decide +kernel
theorem d_rc_init_15 : decode b_rc_init 15 = .ok (.aload_n 0, 1) := by decide +kernel
theorem d_rc_init_16 : decode b_rc_init 16 = .ok (.new 7, 3) := by decide +kernel
theorem d_rc_init_19 : decode b_rc_init 19 = .ok (.dup, 1) := by decide +kernel
theorem d_rc_init_20 : decode b_rc_init 20 = .ok (.invokespecial 9, 3) := by decide +kernel
theorem d_rc_init_23 : decode b_rc_init 23 = .ok (.putfield 16, 3) := by decide +kernel
theorem d_rc_init_26 : decode b_rc_init 26 = .ok (.aload_n 0, 1) := by decide +kernel
theorem d_rc_init_27 : decode b_rc_init 27 = .ok (.iconst 2, 1) := by decide +kernel
theorem d_rc_init_28 : decode b_rc_init 28 = .ok (.anewarray 7, 3) := by decide +kernel
theorem d_rc_init_31 : decode b_rc_init 31 = .ok (.putfield 19, 3) := by decide +kernel
theorem d_rc_init_34 : decode b_rc_init 34 = .ok (.iconst 0, 1) := by decide +kernel
theorem d_rc_init_35 : decode b_rc_init 35 = .ok (.istore_n 1, 1) := by decide +kernel
theorem d_rc_init_36 : decode b_rc_init 36 = .ok (.iload_n 1, 1) := by decide +kernel
theorem d_rc_init_37 : decode b_rc_init 37 = .ok (.iconst 2, 1) := by decide +kernel
theorem d_rc_init_38 : decode b_rc_init 38 = .ok (.if_icmp .ge 22, 3) := by decide +kernel
theorem d_rc_init_41 : decode b_rc_init 41 = .ok (.aload_n 0, 1) := by decide +kernel
theorem d_rc_init_42 : decode b_rc_init 42 = .ok (.getfield 19, 3) := by decide +kernel
theorem d_rc_init_45 : decode b_rc_init 45 = .ok (.iload_n 1, 1) := by decide +kernel
theorem d_rc_init_46 : decode b_rc_init 46 = .ok (.new 7, 3) := by decide +kernel
theorem d_rc_init_49 : decode b_rc_init 49 = .ok (.dup, 1) := by decide +kernel
theorem d_rc_init_50 : decode b_rc_init 50 = .ok (.invokespecial 9, 3) := by decide +kernel
theorem d_rc_init_53 : decode b_rc_init 53 = .ok (.aastore, 1) := by decide +kernel
theorem d_rc_init_54 : decode b_rc_init 54 = .ok (.iinc 1 1, 3) := by decide +kernel
theorem d_rc_init_57 : decode b_rc_init 57 = .ok (.goto (-21), 3) := by decide +kernel
theorem d_rc_init_60 : decode b_rc_init 60 = .ok (.aload_n 0, 1) := by decide +kernel
theorem d_rc_init_61 : decode b_rc_init 61 = .ok (.iconst 2, 1) := by decide +kernel
theorem d_rc_init_62 : decode b_rc_init 62 = .ok (.newarray .boolean, 2) := by decide +kernel
theorem d_rc_init_64 : decode b_rc_init 64 = .ok (.putfield 23, 3) := by decide +kernel
theorem d_rc_init_67 : decode b_rc_init 67 = .ok (.aload_n 0, 1) := by decide +kernel
theorem d_rc_init_68 : decode b_rc_init 68 = .ok (.new 27, 3) := by decide +kernel
theorem d_rc_init_71 : decode b_rc_init 71 = .ok (.dup, 1) := by decide +kernel
theorem d_rc_init_72 : decode b_rc_init 72 = .ok (.invokespecial 29, 3) := by decide +kernel
theorem d_rc_init_75 : decode b_rc_init 75 = .ok (.putfield 30, 3) := by decide +kernel
theorem d_rc_init_78 : decode b_rc_init 78 = .ok (.aload_n 0, 1) := by decide +kernel
theorem d_rc_init_79 : decode b_rc_init 79 = .ok (.new 34, 3) := by decide +kernel
theorem d_rc_init_82 : decode b_rc_init 82 = .ok (.dup, 1) := by decide +kernel
theorem d_rc_init_83 : decode b_rc_init 83 = .ok (.invokespecial 36, 3) := by decide +kernel
theorem d_rc_init_86 : decode b_rc_init 86 = .ok (.putfield 37, 3) := by decide +kernel
theorem d_rc_init_89 : decode b_rc_init 89 = .ok (.return_, 1) := by decide +kernel
theorem d_rc_addRate_0 : decode b_rc_addRate 0 = .ok (.iload_n 1, 1) := by decide +kernel
theorem d_rc_addRate_1 : decode b_rc_addRate 1 = .ok (.invokestatic 41, 3) := by decide +kernel
theorem d_rc_addRate_4 : decode b_rc_addRate 4 = .ok (.ifCond .eq 16, 3) := by decide +kernel
theorem d_rc_addRate_7 : decode b_rc_addRate 7 = .ok (.iload_n 2, 1) := by decide +kernel
theorem d_rc_addRate_8 : decode b_rc_addRate 8 = .ok (.bipush 10, 2) := by decide +kernel
theorem d_rc_addRate_10 : decode b_rc_addRate 10 = .ok (.if_icmp .lt 10, 3) := by decide +kernel
theorem d_rc_addRate_13 : decode b_rc_addRate 13 = .ok (.iload_n 2, 1) := by decide +kernel
theorem d_rc_addRate_14 : decode b_rc_addRate 14 = .ok (.sipush 10000, 3) := by decide +kernel
theorem d_rc_addRate_17 : decode b_rc_addRate 17 = .ok (.if_icmp .le 5, 3) := by decide +kernel
theorem d_rc_addRate_20 : decode b_rc_addRate 20 = .ok (.iconst (-1), 1) := by decide +kernel
theorem d_rc_addRate_21 : decode b_rc_addRate 21 = .ok (.ireturn, 1) := by decide +kernel
theorem d_rc_addRate_22 : decode b_rc_addRate 22 = .ok (.aload_n 0, 1) := by decide +kernel
theorem d_rc_addRate_23 : decode b_rc_addRate 23 = .ok (.getfield 10, 3) := by decide +kernel
theorem d_rc_addRate_26 : decode b_rc_addRate 26 = .ok (.getfield 45, 3) := by decide +kernel
theorem d_rc_addRate_29 : decode b_rc_addRate 29 = .ok (.getfield 49, 3) := by decide +kernel
theorem d_rc_addRate_32 : decode b_rc_addRate 32 = .ok (.bipush 8, 2) := by decide +kernel
theorem d_rc_addRate_34 : decode b_rc_addRate 34 = .ok (.if_icmp .lt 6, 3) := by decide +kernel
theorem d_rc_addRate_37 : decode b_rc_addRate 37 = .ok (.bipush (-3), 2) := by decide +kernel
theorem d_rc_addRate_39 : decode b_rc_addRate 39 = .ok (.ireturn, 1) := by decide +kernel
theorem d_rc_addRate_40 : decode b_rc_addRate 40 = .ok (.aload_n 0, 1) := by decide +kernel
theorem d_rc_addRate_41 : decode b_rc_addRate 41 = .ok (.getfield 30, 3) := by decide +kernel
theorem d_rc_addRate_44 : decode b_rc_addRate 44 = .ok (.aload_n 0, 1) := by decide +kernel
theorem d_rc_addRate_45 : decode b_rc_addRate 45 = .ok (.getfield 10, 3) := by decide +kernel
theorem d_rc_addRate_48 : decode b_rc_addRate 48 = .ok (.invokevirtual 55, 3) := by decide +kernel
theorem d_rc_addRate_51 : decode b_rc_addRate 51 = .ok (.aload_n 0, 1) := by decide +kernel
theorem d_rc_addRate_52 : decode b_rc_addRate 52 = .ok (.getfield 10, 3) := by decide +kernel
theorem d_rc_addRate_55 : decode b_rc_addRate 55 = .ok (.getfield 45, 3) := by decide +kernel
theorem d_rc_addRate_58 : decode b_rc_addRate 58 = .ok (.iload_n 1, 1) := by decide +kernel
theorem d_rc_addRate_59 : decode b_rc_addRate 59 = .ok (.iload_n 2, 1) := by decide +kernel
theorem d_rc_addRate_60 : decode b_rc_addRate 60 = .ok (.invokevirtual 59, 3) := by decide +kernel
theorem d_rc_addRate_63 : decode b_rc_addRate 63 = .ok (.istore_n 3, 1) := by decide +kernel
theorem d_rc_addRate_64 : decode b_rc_addRate 64 = .ok (.iconst 0, 1) := by decide +kernel
theorem d_rc_addRate_65 : decode b_rc_addRate 65 = .ok (.istore 4, 2) := by decide +kernel
theorem d_rc_addRate_67 : decode b_rc_addRate 67 = .ok (.iload 4, 2) := by decide +kernel
theorem d_rc_addRate_69 : decode b_rc_addRate 69 = .ok (.aload_n 0, 1) := by decide +kernel
theorem d_rc_addRate_70 : decode b_rc_addRate 70 = .ok (.getfield 10, 3) := by decide +kernel
theorem d_rc_addRate_73 : decode b_rc_addRate 73 = .ok (.getfield 63, 3) := by decide +kernel
theorem d_rc_addRate_76 : decode b_rc_addRate 76 = .ok (.if_icmp .ge 29, 3) := by decide +kernel
theorem d_rc_addRate_79 : decode b_rc_addRate 79 = .ok (.aload_n 0, 1) := by decide +kernel
theorem d_rc_addRate_80 : decode b_rc_addRate 80 = .ok (.getfield 10, 3) := by decide +kernel
theorem d_rc_addRate_83 : decode b_rc_addRate 83 = .ok (.getfield 66, 3) := by decide +kernel
theorem d_rc_addRate_86 : decode b_rc_addRate 86 = .ok (.iload 4, 2) := by decide +kernel
theorem d_rc_addRate_88 : decode b_rc_addRate 88 = .ok (.aaload, 1) := by decide +kernel
theorem d_rc_addRate_89 : decode b_rc_addRate 89 = .ok (.aload_n 0, 1) := by decide +kernel
theorem d_rc_addRate_90 : decode b_rc_addRate 90 = .ok (.getfield 10, 3) := by decide +kernel
theorem d_rc_addRate_93 : decode b_rc_addRate 93 = .ok (.getfield 45, 3) := by decide +kernel
theorem d_rc_addRate_96 : decode b_rc_addRate 96 = .ok (.invokevirtual 70, 3) := by decide +kernel
theorem d_rc_addRate_99 : decode b_rc_addRate 99 = .ok (.iinc 4 1, 3) := by decide +kernel
theorem d_rc_addRate_102 : decode b_rc_addRate 102 = .ok (.goto (-35), 3) := by decide +kernel
theorem d_rc_addRate_105 : decode b_rc_addRate 105 = .ok (.iload_n 3, 1) := by decide +kernel
theorem d_rc_addRate_106 : decode b_rc_addRate 106 = .ok (.ireturn, 1) := by decide +kernel
theorem d_rc_addStation_0 : decode b_rc_addStation 0 = .ok (.aload_n 0, 1) := by decide +kernel
theorem d_rc_addStation_1 : decode b_rc_addStation 1 = .ok (.getfield 10, 3) := by decide +kernel
theorem d_rc_addStation_4 : decode b_rc_addStation 4 = .ok (.getfield 63, 3) := by decide +kernel
theorem d_rc_addStation_7 : decode b_rc_addStation 7 = .ok (.istore_n 1, 1) := by decide +kernel
theorem d_rc_addStation_8 : decode b_rc_addStation 8 = .ok (.iload_n 1, 1) := by decide +kernel
theorem d_rc_addStation_9 : decode b_rc_addStation 9 = .ok (.iconst 4, 1) := by decide +kernel
theorem d_rc_addStation_10 : decode b_rc_addStation 10 = .ok (.if_icmp .lt 6, 3) := by decide +kernel
theorem d_rc_addStation_13 : decode b_rc_addStation 13 = .ok (.bipush (-3), 2) := by decide +kernel
theorem d_rc_addStation_15 : decode b_rc_addStation 15 = .ok (.ireturn, 1) := by decide +kernel
theorem d_rc_addStation_16 : decode b_rc_addStation 16 = .ok (.aload_n 0, 1) := by decide +kernel
theorem d_rc_addStation_17 : decode b_rc_addStation 17 = .ok (.getfield 30, 3) := by decide +kernel
theorem d_rc_addStation_20 : decode b_rc_addStation 20 = .ok (.aload_n 0, 1) := by decide +kernel
theorem d_rc_addStation_21 : decode b_rc_addStation 21 = .ok (.getfield 10, 3) := by decide +kernel
theorem d_rc_addStation_24 : decode b_rc_addStation 24 = .ok (.invokevirtual 55, 3) := by decide +kernel
theorem d_rc_addStation_27 : decode b_rc_addStation 27 = .ok (.aload_n 0, 1) := by decide +kernel
theorem d_rc_addStation_28 : decode b_rc_addStation 28 = .ok (.getfield 10, 3) := by decide +kernel
theorem d_rc_addStation_31 : decode b_rc_addStation 31 = .ok (.iload_n 1, 1) := by decide +kernel
theorem d_rc_addStation_32 : decode b_rc_addStation 32 = .ok (.iconst 1, 1) := by decide +kernel
theorem d_rc_addStation_33 : decode b_rc_addStation 33 = .ok (.iadd, 1) := by decide +kernel
theorem d_rc_addStation_34 : decode b_rc_addStation 34 = .ok (.putfield 63, 3) := by decide +kernel
theorem d_rc_addStation_37 : decode b_rc_addStation 37 = .ok (.aload_n 0, 1) := by decide +kernel
theorem d_rc_addStation_38 : decode b_rc_addStation 38 = .ok (.getfield 10, 3) := by decide +kernel
theorem d_rc_addStation_41 : decode b_rc_addStation 41 = .ok (.getfield 66, 3) := by decide +kernel
theorem d_rc_addStation_44 : decode b_rc_addStation 44 = .ok (.iload_n 1, 1) := by decide +kernel
theorem d_rc_addStation_45 : decode b_rc_addStation 45 = .ok (.aaload, 1) := by decide +kernel
theorem d_rc_addStation_46 : decode b_rc_addStation 46 = .ok (.astore_n 2, 1) := by decide +kernel
theorem d_rc_addStation_47 : decode b_rc_addStation 47 = .ok (.aload_n 2, 1) := by decide +kernel
theorem d_rc_addStation_48 : decode b_rc_addStation 48 = .ok (.aload_n 0, 1) := by decide +kernel
theorem d_rc_addStation_49 : decode b_rc_addStation 49 = .ok (.getfield 10, 3) := by decide +kernel
theorem d_rc_addStation_52 : decode b_rc_addStation 52 = .ok (.invokevirtual 76, 3) := by decide +kernel
theorem d_rc_addStation_55 : decode b_rc_addStation 55 = .ok (.putfield 80, 3) := by decide +kernel
theorem d_rc_addStation_58 : decode b_rc_addStation 58 = .ok (.aload_n 2, 1) := by decide +kernel
theorem d_rc_addStation_59 : decode b_rc_addStation 59 = .ok (.aload_n 0, 1) := by decide +kernel
theorem d_rc_addStation_60 : decode b_rc_addStation 60 = .ok (.getfield 10, 3) := by decide +kernel
theorem d_rc_addStation_63 : decode b_rc_addStation 63 = .ok (.getfield 45, 3) := by decide +kernel
theorem d_rc_addStation_66 : decode b_rc_addStation 66 = .ok (.invokevirtual 70, 3) := by decide +kernel
theorem d_rc_addStation_69 : decode b_rc_addStation 69 = .ok (.iload_n 1, 1) := by decide +kernel
theorem d_rc_addStation_70 : decode b_rc_addStation 70 = .ok (.ireturn, 1) := by decide +kernel
theorem d_rc_allow_0 : decode b_rc_allow 0 = .ok (.aload_n 0, 1) := by decide +kernel
theorem d_rc_allow_1 : decode b_rc_allow 1 = .ok (.getfield 10, 3) := by decide +kernel
theorem d_rc_allow_4 : decode b_rc_allow 4 = .ok (.iload_n 1, 1) := by decide +kernel
theorem d_rc_allow_5 : decode b_rc_allow 5 = .ok (.invokevirtual 84, 3) := by decide +kernel
theorem d_rc_allow_8 : decode b_rc_allow 8 = .ok (.astore 4, 2) := by decide +kernel
theorem d_rc_allow_10 : decode b_rc_allow 10 = .ok (.aload_n 0, 1) := by decide +kernel
theorem d_rc_allow_11 : decode b_rc_allow 11 = .ok (.getfield 10, 3) := by decide +kernel
theorem d_rc_allow_14 : decode b_rc_allow 14 = .ok (.iload_n 1, 1) := by decide +kernel
theorem d_rc_allow_15 : decode b_rc_allow 15 = .ok (.iload_n 2, 1) := by decide +kernel
theorem d_rc_allow_16 : decode b_rc_allow 16 = .ok (.invokevirtual 88, 3) := by decide +kernel
theorem d_rc_allow_19 : decode b_rc_allow 19 = .ok (.astore 5, 2) := by decide +kernel
theorem d_rc_allow_21 : decode b_rc_allow 21 = .ok (.aload 4, 2) := by decide +kernel
theorem d_rc_allow_23 : decode b_rc_allow 23 = .ok (.ifnull 8, 3) := by decide +kernel
theorem d_rc_allow_26 : decode b_rc_allow 26 = .ok (.aload 5, 2) := by decide +kernel
theorem d_rc_allow_28 : decode b_rc_allow 28 = .ok (.ifnonnull 5, 3) := by decide +kernel
theorem d_rc_allow_31 : decode b_rc_allow 31 = .ok (.iconst (-1), 1) := by decide +kernel
theorem d_rc_allow_32 : decode b_rc_allow 32 = .ok (.ireturn, 1) := by decide +kernel
theorem d_rc_allow_33 : decode b_rc_allow 33 = .ok (.aload_n 0, 1) := by decide +kernel
theorem d_rc_allow_34 : decode b_rc_allow 34 = .ok (.getfield 30, 3) := by decide +kernel
theorem d_rc_allow_37 : decode b_rc_allow 37 = .ok (.aload_n 0, 1) := by decide +kernel
theorem d_rc_allow_38 : decode b_rc_allow 38 = .ok (.getfield 10, 3) := by decide +kernel
theorem d_rc_allow_41 : decode b_rc_allow 41 = .ok (.invokevirtual 55, 3) := by decide +kernel
theorem d_rc_allow_44 : decode b_rc_allow 44 = .ok (.aload 5, 2) := by decide +kernel
theorem d_rc_allow_46 : decode b_rc_allow 46 = .ok (.getfield 92, 3) := by decide +kernel
theorem d_rc_allow_49 : decode b_rc_allow 49 = .ok (.ifCond .eq 7, 3) := by decide +kernel
theorem d_rc_allow_52 : decode b_rc_allow 52 = .ok (.iconst 1, 1) := by decide +kernel
theorem d_rc_allow_53 : decode b_rc_allow 53 = .ok (.goto 4, 3) := by decide +kernel
theorem d_rc_allow_56 : decode b_rc_allow 56 = .ok (.iconst 0, 1) := by decide +kernel
theorem d_rc_allow_57 : decode b_rc_allow 57 = .ok (.istore 6, 2) := by decide +kernel
theorem d_rc_allow_59 : decode b_rc_allow 59 = .ok (.aload 5, 2) := by decide +kernel
theorem d_rc_allow_61 : decode b_rc_allow 61 = .ok (.iload_n 3, 1) := by decide +kernel
theorem d_rc_allow_62 : decode b_rc_allow 62 = .ok (.putfield 92, 3) := by decide +kernel
theorem d_rc_allow_65 : decode b_rc_allow 65 = .ok (.aload 4, 2) := by decide +kernel
theorem d_rc_allow_67 : decode b_rc_allow 67 = .ok (.aload_n 0, 1) := by decide +kernel
theorem d_rc_allow_68 : decode b_rc_allow 68 = .ok (.getfield 10, 3) := by decide +kernel
theorem d_rc_allow_71 : decode b_rc_allow 71 = .ok (.getfield 45, 3) := by decide +kernel
theorem d_rc_allow_74 : decode b_rc_allow 74 = .ok (.invokevirtual 70, 3) := by decide +kernel
theorem d_rc_allow_77 : decode b_rc_allow 77 = .ok (.iload 6, 2) := by decide +kernel
theorem d_rc_allow_79 : decode b_rc_allow 79 = .ok (.ireturn, 1) := by decide +kernel
theorem d_rc_setShare_0 : decode b_rc_setShare 0 = .ok (.iload_n 1, 1) := by decide +kernel
theorem d_rc_setShare_1 : decode b_rc_setShare 1 = .ok (.ifCond .lt 9, 3) := by decide +kernel
theorem d_rc_setShare_4 : decode b_rc_setShare 4 = .ok (.iload_n 1, 1) := by decide +kernel
theorem d_rc_setShare_5 : decode b_rc_setShare 5 = .ok (.bipush 50, 2) := by decide +kernel
theorem d_rc_setShare_7 : decode b_rc_setShare 7 = .ok (.if_icmp .le 5, 3) := by decide +kernel
theorem d_rc_setShare_10 : decode b_rc_setShare 10 = .ok (.iconst (-1), 1) := by decide +kernel
theorem d_rc_setShare_11 : decode b_rc_setShare 11 = .ok (.ireturn, 1) := by decide +kernel
theorem d_rc_setShare_12 : decode b_rc_setShare 12 = .ok (.aload_n 0, 1) := by decide +kernel
theorem d_rc_setShare_13 : decode b_rc_setShare 13 = .ok (.getfield 30, 3) := by decide +kernel
theorem d_rc_setShare_16 : decode b_rc_setShare 16 = .ok (.aload_n 0, 1) := by decide +kernel
theorem d_rc_setShare_17 : decode b_rc_setShare 17 = .ok (.getfield 10, 3) := by decide +kernel
theorem d_rc_setShare_20 : decode b_rc_setShare 20 = .ok (.invokevirtual 55, 3) := by decide +kernel
theorem d_rc_setShare_23 : decode b_rc_setShare 23 = .ok (.aload_n 0, 1) := by decide +kernel
theorem d_rc_setShare_24 : decode b_rc_setShare 24 = .ok (.getfield 10, 3) := by decide +kernel
theorem d_rc_setShare_27 : decode b_rc_setShare 27 = .ok (.getfield 98, 3) := by decide +kernel
theorem d_rc_setShare_30 : decode b_rc_setShare 30 = .ok (.istore_n 2, 1) := by decide +kernel
theorem d_rc_setShare_31 : decode b_rc_setShare 31 = .ok (.aload_n 0, 1) := by decide +kernel
theorem d_rc_setShare_32 : decode b_rc_setShare 32 = .ok (.getfield 10, 3) := by decide +kernel
theorem d_rc_setShare_35 : decode b_rc_setShare 35 = .ok (.iload_n 1, 1) := by decide +kernel
theorem d_rc_setShare_36 : decode b_rc_setShare 36 = .ok (.putfield 98, 3) := by decide +kernel
theorem d_rc_setShare_39 : decode b_rc_setShare 39 = .ok (.iload_n 2, 1) := by decide +kernel
theorem d_rc_setShare_40 : decode b_rc_setShare 40 = .ok (.ireturn, 1) := by decide +kernel
theorem d_rc_setWeight_0 : decode b_rc_setWeight 0 = .ok (.iload_n 1, 1) := by decide +kernel
theorem d_rc_setWeight_1 : decode b_rc_setWeight 1 = .ok (.iconst 1, 1) := by decide +kernel
theorem d_rc_setWeight_2 : decode b_rc_setWeight 2 = .ok (.if_icmp .lt 9, 3) := by decide +kernel
theorem d_rc_setWeight_5 : decode b_rc_setWeight 5 = .ok (.iload_n 1, 1) := by decide +kernel
theorem d_rc_setWeight_6 : decode b_rc_setWeight 6 = .ok (.bipush 100, 2) := by decide +kernel
theorem d_rc_setWeight_8 : decode b_rc_setWeight 8 = .ok (.if_icmp .le 5, 3) := by decide +kernel
theorem d_rc_setWeight_11 : decode b_rc_setWeight 11 = .ok (.iconst (-1), 1) := by decide +kernel
theorem d_rc_setWeight_12 : decode b_rc_setWeight 12 = .ok (.ireturn, 1) := by decide +kernel
theorem d_rc_setWeight_13 : decode b_rc_setWeight 13 = .ok (.aload_n 0, 1) := by decide +kernel
theorem d_rc_setWeight_14 : decode b_rc_setWeight 14 = .ok (.getfield 30, 3) := by decide +kernel
theorem d_rc_setWeight_17 : decode b_rc_setWeight 17 = .ok (.aload_n 0, 1) := by decide +kernel
theorem d_rc_setWeight_18 : decode b_rc_setWeight 18 = .ok (.getfield 10, 3) := by decide +kernel
theorem d_rc_setWeight_21 : decode b_rc_setWeight 21 = .ok (.invokevirtual 55, 3) := by decide +kernel
theorem d_rc_setWeight_24 : decode b_rc_setWeight 24 = .ok (.aload_n 0, 1) := by decide +kernel
theorem d_rc_setWeight_25 : decode b_rc_setWeight 25 = .ok (.getfield 10, 3) := by decide +kernel
theorem d_rc_setWeight_28 : decode b_rc_setWeight 28 = .ok (.getfield 101, 3) := by decide +kernel
theorem d_rc_setWeight_31 : decode b_rc_setWeight 31 = .ok (.istore_n 2, 1) := by decide +kernel
theorem d_rc_setWeight_32 : decode b_rc_setWeight 32 = .ok (.aload_n 0, 1) := by decide +kernel
theorem d_rc_setWeight_33 : decode b_rc_setWeight 33 = .ok (.getfield 10, 3) := by decide +kernel
theorem d_rc_setWeight_36 : decode b_rc_setWeight 36 = .ok (.iload_n 1, 1) := by decide +kernel
theorem d_rc_setWeight_37 : decode b_rc_setWeight 37 = .ok (.putfield 101, 3) := by decide +kernel
theorem d_rc_setWeight_40 : decode b_rc_setWeight 40 = .ok (.iload_n 2, 1) := by decide +kernel
theorem d_rc_setWeight_41 : decode b_rc_setWeight 41 = .ok (.ireturn, 1) := by decide +kernel
theorem d_rc_setInterval_0 : decode b_rc_setInterval 0 = .ok (.iload_n 1, 1) := by decide +kernel
theorem d_rc_setInterval_1 : decode b_rc_setInterval 1 = .ok (.sipush 1000, 3) := by decide +kernel
theorem d_rc_setInterval_4 : decode b_rc_setInterval 4 = .ok (.if_icmp .lt 9, 3) := by decide +kernel
theorem d_rc_setInterval_7 : decode b_rc_setInterval 7 = .ok (.iload_n 1, 1) := by decide +kernel
theorem d_rc_setInterval_8 : decode b_rc_setInterval 8 = .ok (.ldc 104, 2) := by decide +kernel
theorem d_rc_setInterval_10 : decode b_rc_setInterval 10 = .ok (.if_icmp .le 5, 3) := by decide +kernel
theorem d_rc_setInterval_13 : decode b_rc_setInterval 13 = .ok (.iconst (-1), 1) := by decide +kernel
theorem d_rc_setInterval_14 : decode b_rc_setInterval 14 = .ok (.ireturn, 1) := by decide +kernel
theorem d_rc_setInterval_15 : decode b_rc_setInterval 15 = .ok (.aload_n 0, 1) := by decide +kernel
theorem d_rc_setInterval_16 : decode b_rc_setInterval 16 = .ok (.getfield 30, 3) := by decide +kernel
theorem d_rc_setInterval_19 : decode b_rc_setInterval 19 = .ok (.aload_n 0, 1) := by decide +kernel
theorem d_rc_setInterval_20 : decode b_rc_setInterval 20 = .ok (.getfield 10, 3) := by decide +kernel
theorem d_rc_setInterval_23 : decode b_rc_setInterval 23 = .ok (.invokevirtual 55, 3) := by decide +kernel
theorem d_rc_setInterval_26 : decode b_rc_setInterval 26 = .ok (.aload_n 0, 1) := by decide +kernel
theorem d_rc_setInterval_27 : decode b_rc_setInterval 27 = .ok (.getfield 10, 3) := by decide +kernel
theorem d_rc_setInterval_30 : decode b_rc_setInterval 30 = .ok (.getfield 105, 3) := by decide +kernel
theorem d_rc_setInterval_33 : decode b_rc_setInterval 33 = .ok (.istore_n 2, 1) := by decide +kernel
theorem d_rc_setInterval_34 : decode b_rc_setInterval 34 = .ok (.aload_n 0, 1) := by decide +kernel
theorem d_rc_setInterval_35 : decode b_rc_setInterval 35 = .ok (.getfield 10, 3) := by decide +kernel
theorem d_rc_setInterval_38 : decode b_rc_setInterval 38 = .ok (.iload_n 1, 1) := by decide +kernel
theorem d_rc_setInterval_39 : decode b_rc_setInterval 39 = .ok (.putfield 105, 3) := by decide +kernel
theorem d_rc_setInterval_42 : decode b_rc_setInterval 42 = .ok (.iload_n 2, 1) := by decide +kernel
theorem d_rc_setInterval_43 : decode b_rc_setInterval 43 = .ok (.ireturn, 1) := by decide +kernel
theorem d_rc_setBudget_0 : decode b_rc_setBudget 0 = .ok (.iload_n 1, 1) := by decide +kernel
theorem d_rc_setBudget_1 : decode b_rc_setBudget 1 = .ok (.bipush 100, 2) := by decide +kernel
theorem d_rc_setBudget_3 : decode b_rc_setBudget 3 = .ok (.if_icmp .lt 9, 3) := by decide +kernel
theorem d_rc_setBudget_6 : decode b_rc_setBudget 6 = .ok (.iload_n 1, 1) := by decide +kernel
theorem d_rc_setBudget_7 : decode b_rc_setBudget 7 = .ok (.ldc 108, 2) := by decide +kernel
theorem d_rc_setBudget_9 : decode b_rc_setBudget 9 = .ok (.if_icmp .le 5, 3) := by decide +kernel
theorem d_rc_setBudget_12 : decode b_rc_setBudget 12 = .ok (.iconst (-1), 1) := by decide +kernel
theorem d_rc_setBudget_13 : decode b_rc_setBudget 13 = .ok (.ireturn, 1) := by decide +kernel
theorem d_rc_setBudget_14 : decode b_rc_setBudget 14 = .ok (.aload_n 0, 1) := by decide +kernel
theorem d_rc_setBudget_15 : decode b_rc_setBudget 15 = .ok (.getfield 30, 3) := by decide +kernel
theorem d_rc_setBudget_18 : decode b_rc_setBudget 18 = .ok (.aload_n 0, 1) := by decide +kernel
theorem d_rc_setBudget_19 : decode b_rc_setBudget 19 = .ok (.getfield 10, 3) := by decide +kernel
theorem d_rc_setBudget_22 : decode b_rc_setBudget 22 = .ok (.invokevirtual 55, 3) := by decide +kernel
theorem d_rc_setBudget_25 : decode b_rc_setBudget 25 = .ok (.aload_n 0, 1) := by decide +kernel
theorem d_rc_setBudget_26 : decode b_rc_setBudget 26 = .ok (.getfield 10, 3) := by decide +kernel
theorem d_rc_setBudget_29 : decode b_rc_setBudget 29 = .ok (.getfield 109, 3) := by decide +kernel
theorem d_rc_setBudget_32 : decode b_rc_setBudget 32 = .ok (.istore_n 2, 1) := by decide +kernel
theorem d_rc_setBudget_33 : decode b_rc_setBudget 33 = .ok (.aload_n 0, 1) := by decide +kernel
theorem d_rc_setBudget_34 : decode b_rc_setBudget 34 = .ok (.getfield 10, 3) := by decide +kernel
theorem d_rc_setBudget_37 : decode b_rc_setBudget 37 = .ok (.iload_n 1, 1) := by decide +kernel
theorem d_rc_setBudget_38 : decode b_rc_setBudget 38 = .ok (.putfield 109, 3) := by decide +kernel
theorem d_rc_setBudget_41 : decode b_rc_setBudget 41 = .ok (.iload_n 2, 1) := by decide +kernel
theorem d_rc_setBudget_42 : decode b_rc_setBudget 42 = .ok (.ireturn, 1) := by decide +kernel
theorem d_rc_lay_0 : decode b_rc_lay 0 = .ok (.aload_n 0, 1) := by decide +kernel
theorem d_rc_lay_1 : decode b_rc_lay 1 = .ok (.getfield 10, 3) := by decide +kernel
theorem d_rc_lay_4 : decode b_rc_lay 4 = .ok (.iload_n 1, 1) := by decide +kernel
theorem d_rc_lay_5 : decode b_rc_lay 5 = .ok (.invokevirtual 84, 3) := by decide +kernel
theorem d_rc_lay_8 : decode b_rc_lay 8 = .ok (.astore_n 3, 1) := by decide +kernel
theorem d_rc_lay_9 : decode b_rc_lay 9 = .ok (.aload_n 3, 1) := by decide +kernel
theorem d_rc_lay_10 : decode b_rc_lay 10 = .ok (.ifnull 10, 3) := by decide +kernel
theorem d_rc_lay_13 : decode b_rc_lay 13 = .ok (.iload_n 2, 1) := by decide +kernel
theorem d_rc_lay_14 : decode b_rc_lay 14 = .ok (.invokestatic 112, 3) := by decide +kernel
theorem d_rc_lay_17 : decode b_rc_lay 17 = .ok (.ifCond .ne 5, 3) := by decide +kernel
theorem d_rc_lay_20 : decode b_rc_lay 20 = .ok (.iconst (-1), 1) := by decide +kernel
theorem d_rc_lay_21 : decode b_rc_lay 21 = .ok (.ireturn, 1) := by decide +kernel
theorem d_rc_lay_22 : decode b_rc_lay 22 = .ok (.aload_n 3, 1) := by decide +kernel
theorem d_rc_lay_23 : decode b_rc_lay 23 = .ok (.aload_n 0, 1) := by decide +kernel
theorem d_rc_lay_24 : decode b_rc_lay 24 = .ok (.getfield 10, 3) := by decide +kernel
theorem d_rc_lay_27 : decode b_rc_lay 27 = .ok (.getfield 45, 3) := by decide +kernel
theorem d_rc_lay_30 : decode b_rc_lay 30 = .ok (.invokevirtual 115, 3) := by decide +kernel
theorem d_rc_lay_33 : decode b_rc_lay 33 = .ok (.ifCond .ne 6, 3) := by decide +kernel
theorem d_rc_lay_36 : decode b_rc_lay 36 = .ok (.bipush (-2), 2) := by decide +kernel
theorem d_rc_lay_38 : decode b_rc_lay 38 = .ok (.ireturn, 1) := by decide +kernel
theorem d_rc_lay_39 : decode b_rc_lay 39 = .ok (.aload_n 0, 1) := by decide +kernel
theorem d_rc_lay_40 : decode b_rc_lay 40 = .ok (.getfield 10, 3) := by decide +kernel
theorem d_rc_lay_43 : decode b_rc_lay 43 = .ok (.invokevirtual 119, 3) := by decide +kernel
theorem d_rc_lay_46 : decode b_rc_lay 46 = .ok (.bipush (-9), 2) := by decide +kernel
theorem d_rc_lay_48 : decode b_rc_lay 48 = .ok (.if_icmp .ne 6, 3) := by decide +kernel
theorem d_rc_lay_51 : decode b_rc_lay 51 = .ok (.bipush (-3), 2) := by decide +kernel
theorem d_rc_lay_53 : decode b_rc_lay 53 = .ok (.ireturn, 1) := by decide +kernel
theorem d_rc_lay_54 : decode b_rc_lay 54 = .ok (.aload_n 0, 1) := by decide +kernel
theorem d_rc_lay_55 : decode b_rc_lay 55 = .ok (.getfield 30, 3) := by decide +kernel
theorem d_rc_lay_58 : decode b_rc_lay 58 = .ok (.aload_n 0, 1) := by decide +kernel
theorem d_rc_lay_59 : decode b_rc_lay 59 = .ok (.getfield 10, 3) := by decide +kernel
theorem d_rc_lay_62 : decode b_rc_lay 62 = .ok (.invokevirtual 55, 3) := by decide +kernel
theorem d_rc_lay_65 : decode b_rc_lay 65 = .ok (.aload_n 0, 1) := by decide +kernel
theorem d_rc_lay_66 : decode b_rc_lay 66 = .ok (.getfield 10, 3) := by decide +kernel
theorem d_rc_lay_69 : decode b_rc_lay 69 = .ok (.aload_n 3, 1) := by decide +kernel
theorem d_rc_lay_70 : decode b_rc_lay 70 = .ok (.iload_n 2, 1) := by decide +kernel
theorem d_rc_lay_71 : decode b_rc_lay 71 = .ok (.invokevirtual 123, 3) := by decide +kernel
theorem d_rc_lay_74 : decode b_rc_lay 74 = .ok (.ireturn, 1) := by decide +kernel
theorem d_rc_enqueue_0 : decode b_rc_enqueue 0 = .ok (.aload_n 0, 1) := by decide +kernel
theorem d_rc_enqueue_1 : decode b_rc_enqueue 1 = .ok (.getfield 10, 3) := by decide +kernel
theorem d_rc_enqueue_4 : decode b_rc_enqueue 4 = .ok (.iload_n 1, 1) := by decide +kernel
theorem d_rc_enqueue_5 : decode b_rc_enqueue 5 = .ok (.invokevirtual 84, 3) := by decide +kernel
theorem d_rc_enqueue_8 : decode b_rc_enqueue 8 = .ok (.astore_n 3, 1) := by decide +kernel
theorem d_rc_enqueue_9 : decode b_rc_enqueue 9 = .ok (.aload_n 3, 1) := by decide +kernel
theorem d_rc_enqueue_10 : decode b_rc_enqueue 10 = .ok (.ifnull 10, 3) := by decide +kernel
theorem d_rc_enqueue_13 : decode b_rc_enqueue 13 = .ok (.iload_n 2, 1) := by decide +kernel
theorem d_rc_enqueue_14 : decode b_rc_enqueue 14 = .ok (.invokestatic 112, 3) := by decide +kernel
theorem d_rc_enqueue_17 : decode b_rc_enqueue 17 = .ok (.ifCond .ne 5, 3) := by decide +kernel
theorem d_rc_enqueue_20 : decode b_rc_enqueue 20 = .ok (.iconst (-1), 1) := by decide +kernel
theorem d_rc_enqueue_21 : decode b_rc_enqueue 21 = .ok (.ireturn, 1) := by decide +kernel
theorem d_rc_enqueue_22 : decode b_rc_enqueue 22 = .ok (.aload_n 3, 1) := by decide +kernel
theorem d_rc_enqueue_23 : decode b_rc_enqueue 23 = .ok (.getfield 127, 3) := by decide +kernel
theorem d_rc_enqueue_26 : decode b_rc_enqueue 26 = .ok (.bipush 8, 2) := by decide +kernel
theorem d_rc_enqueue_28 : decode b_rc_enqueue 28 = .ok (.if_icmp .lt 6, 3) := by decide +kernel
theorem d_rc_enqueue_31 : decode b_rc_enqueue 31 = .ok (.bipush (-3), 2) := by decide +kernel
theorem d_rc_enqueue_33 : decode b_rc_enqueue 33 = .ok (.ireturn, 1) := by decide +kernel
theorem d_rc_enqueue_34 : decode b_rc_enqueue 34 = .ok (.aload_n 0, 1) := by decide +kernel
theorem d_rc_enqueue_35 : decode b_rc_enqueue 35 = .ok (.getfield 30, 3) := by decide +kernel
theorem d_rc_enqueue_38 : decode b_rc_enqueue 38 = .ok (.aload_n 0, 1) := by decide +kernel
theorem d_rc_enqueue_39 : decode b_rc_enqueue 39 = .ok (.getfield 10, 3) := by decide +kernel
theorem d_rc_enqueue_42 : decode b_rc_enqueue 42 = .ok (.invokevirtual 55, 3) := by decide +kernel
theorem d_rc_enqueue_45 : decode b_rc_enqueue 45 = .ok (.aload_n 3, 1) := by decide +kernel
theorem d_rc_enqueue_46 : decode b_rc_enqueue 46 = .ok (.iload_n 2, 1) := by decide +kernel
theorem d_rc_enqueue_47 : decode b_rc_enqueue 47 = .ok (.invokevirtual 130, 3) := by decide +kernel
theorem d_rc_enqueue_50 : decode b_rc_enqueue 50 = .ok (.ireturn, 1) := by decide +kernel
theorem d_rc_dispatch_0 : decode b_rc_dispatch 0 = .ok (.aload_n 0, 1) := by decide +kernel
theorem d_rc_dispatch_1 : decode b_rc_dispatch 1 = .ok (.getfield 10, 3) := by decide +kernel
theorem d_rc_dispatch_4 : decode b_rc_dispatch 4 = .ok (.invokevirtual 119, 3) := by decide +kernel
theorem d_rc_dispatch_7 : decode b_rc_dispatch 7 = .ok (.bipush (-9), 2) := by decide +kernel
theorem d_rc_dispatch_9 : decode b_rc_dispatch 9 = .ok (.if_icmp .ne 6, 3) := by decide +kernel
theorem d_rc_dispatch_12 : decode b_rc_dispatch 12 = .ok (.bipush (-3), 2) := by decide +kernel
theorem d_rc_dispatch_14 : decode b_rc_dispatch 14 = .ok (.ireturn, 1) := by decide +kernel
theorem d_rc_dispatch_15 : decode b_rc_dispatch 15 = .ok (.aload_n 0, 1) := by decide +kernel
theorem d_rc_dispatch_16 : decode b_rc_dispatch 16 = .ok (.getfield 10, 3) := by decide +kernel
theorem d_rc_dispatch_19 : decode b_rc_dispatch 19 = .ok (.invokevirtual 134, 3) := by decide +kernel
theorem d_rc_dispatch_22 : decode b_rc_dispatch 22 = .ok (.ifCond .ne 6, 3) := by decide +kernel
theorem d_rc_dispatch_25 : decode b_rc_dispatch 25 = .ok (.bipush (-9), 2) := by decide +kernel
theorem d_rc_dispatch_27 : decode b_rc_dispatch 27 = .ok (.ireturn, 1) := by decide +kernel
theorem d_rc_dispatch_28 : decode b_rc_dispatch 28 = .ok (.aload_n 0, 1) := by decide +kernel
theorem d_rc_dispatch_29 : decode b_rc_dispatch 29 = .ok (.getfield 30, 3) := by decide +kernel
theorem d_rc_dispatch_32 : decode b_rc_dispatch 32 = .ok (.aload_n 0, 1) := by decide +kernel
theorem d_rc_dispatch_33 : decode b_rc_dispatch 33 = .ok (.getfield 10, 3) := by decide +kernel
theorem d_rc_dispatch_36 : decode b_rc_dispatch 36 = .ok (.invokevirtual 55, 3) := by decide +kernel
theorem d_rc_dispatch_39 : decode b_rc_dispatch 39 = .ok (.aload_n 0, 1) := by decide +kernel
theorem d_rc_dispatch_40 : decode b_rc_dispatch 40 = .ok (.getfield 10, 3) := by decide +kernel
theorem d_rc_dispatch_43 : decode b_rc_dispatch 43 = .ok (.invokevirtual 138, 3) := by decide +kernel
theorem d_rc_dispatch_46 : decode b_rc_dispatch 46 = .ok (.astore_n 1, 1) := by decide +kernel
theorem d_rc_dispatch_47 : decode b_rc_dispatch 47 = .ok (.aload_n 1, 1) := by decide +kernel
theorem d_rc_dispatch_48 : decode b_rc_dispatch 48 = .ok (.ifnonnull 8, 3) := by decide +kernel
theorem d_rc_dispatch_51 : decode b_rc_dispatch 51 = .ok (.bipush (-9), 2) := by decide +kernel
theorem d_rc_dispatch_53 : decode b_rc_dispatch 53 = .ok (.goto 15, 3) := by decide +kernel
theorem d_rc_dispatch_56 : decode b_rc_dispatch 56 = .ok (.aload_n 0, 1) := by decide +kernel
theorem d_rc_dispatch_57 : decode b_rc_dispatch 57 = .ok (.getfield 10, 3) := by decide +kernel
theorem d_rc_dispatch_60 : decode b_rc_dispatch 60 = .ok (.aload_n 1, 1) := by decide +kernel
theorem d_rc_dispatch_61 : decode b_rc_dispatch 61 = .ok (.aload_n 1, 1) := by decide +kernel
theorem d_rc_dispatch_62 : decode b_rc_dispatch 62 = .ok (.invokevirtual 142, 3) := by decide +kernel
theorem d_rc_dispatch_65 : decode b_rc_dispatch 65 = .ok (.invokevirtual 123, 3) := by decide +kernel
theorem d_rc_dispatch_68 : decode b_rc_dispatch 68 = .ok (.ireturn, 1) := by decide +kernel
theorem d_rc_report_0 : decode b_rc_report 0 = .ok (.aload_n 0, 1) := by decide +kernel
theorem d_rc_report_1 : decode b_rc_report 1 = .ok (.getfield 10, 3) := by decide +kernel
theorem d_rc_report_4 : decode b_rc_report 4 = .ok (.iload_n 1, 1) := by decide +kernel
theorem d_rc_report_5 : decode b_rc_report 5 = .ok (.invokevirtual 145, 3) := by decide +kernel
theorem d_rc_report_8 : decode b_rc_report 8 = .ok (.astore 4, 2) := by decide +kernel
theorem d_rc_report_10 : decode b_rc_report 10 = .ok (.aload 4, 2) := by decide +kernel
theorem d_rc_report_12 : decode b_rc_report 12 = .ok (.ifnull 17, 3) := by decide +kernel
theorem d_rc_report_15 : decode b_rc_report 15 = .ok (.iload_n 2, 1) := by decide +kernel
theorem d_rc_report_16 : decode b_rc_report 16 = .ok (.iconst 1, 1) := by decide +kernel
theorem d_rc_report_17 : decode b_rc_report 17 = .ok (.if_icmp .lt 12, 3) := by decide +kernel
theorem d_rc_report_20 : decode b_rc_report 20 = .ok (.iload_n 2, 1) := by decide +kernel
theorem d_rc_report_21 : decode b_rc_report 21 = .ok (.aload 4, 2) := by decide +kernel
theorem d_rc_report_23 : decode b_rc_report 23 = .ok (.invokevirtual 149, 3) := by decide +kernel
theorem d_rc_report_26 : decode b_rc_report 26 = .ok (.if_icmp .le 5, 3) := by decide +kernel
theorem d_rc_report_29 : decode b_rc_report 29 = .ok (.iconst (-1), 1) := by decide +kernel
theorem d_rc_report_30 : decode b_rc_report 30 = .ok (.ireturn, 1) := by decide +kernel
theorem d_rc_report_31 : decode b_rc_report 31 = .ok (.iload_n 3, 1) := by decide +kernel
theorem d_rc_report_32 : decode b_rc_report 32 = .ok (.ifCond .ne 14, 3) := by decide +kernel
theorem d_rc_report_35 : decode b_rc_report 35 = .ok (.iload_n 2, 1) := by decide +kernel
theorem d_rc_report_36 : decode b_rc_report 36 = .ok (.aload 4, 2) := by decide +kernel
theorem d_rc_report_38 : decode b_rc_report 38 = .ok (.invokevirtual 149, 3) := by decide +kernel
theorem d_rc_report_41 : decode b_rc_report 41 = .ok (.if_icmp .ge 5, 3) := by decide +kernel
theorem d_rc_report_44 : decode b_rc_report 44 = .ok (.iconst (-1), 1) := by decide +kernel
theorem d_rc_report_45 : decode b_rc_report 45 = .ok (.ireturn, 1) := by decide +kernel
theorem d_rc_report_46 : decode b_rc_report 46 = .ok (.aload_n 0, 1) := by decide +kernel
theorem d_rc_report_47 : decode b_rc_report 47 = .ok (.getfield 10, 3) := by decide +kernel
theorem d_rc_report_50 : decode b_rc_report 50 = .ok (.aload 4, 2) := by decide +kernel
theorem d_rc_report_52 : decode b_rc_report 52 = .ok (.iload_n 2, 1) := by decide +kernel
theorem d_rc_report_53 : decode b_rc_report 53 = .ok (.invokevirtual 154, 3) := by decide +kernel
theorem d_rc_report_56 : decode b_rc_report 56 = .ok (.istore 5, 2) := by decide +kernel
theorem d_rc_report_58 : decode b_rc_report 58 = .ok (.iload 5, 2) := by decide +kernel
theorem d_rc_report_60 : decode b_rc_report 60 = .ok (.ldc 158, 2) := by decide +kernel
theorem d_rc_report_62 : decode b_rc_report 62 = .ok (.aload_n 0, 1) := by decide +kernel
theorem d_rc_report_63 : decode b_rc_report 63 = .ok (.getfield 10, 3) := by decide +kernel
theorem d_rc_report_66 : decode b_rc_report 66 = .ok (.getfield 159, 3) := by decide +kernel
theorem d_rc_report_69 : decode b_rc_report 69 = .ok (.isub, 1) := by decide +kernel
theorem d_rc_report_70 : decode b_rc_report 70 = .ok (.if_icmp .le 6, 3) := by decide +kernel
theorem d_rc_report_73 : decode b_rc_report 73 = .ok (.bipush (-4), 2) := by decide +kernel
theorem d_rc_report_75 : decode b_rc_report 75 = .ok (.ireturn, 1) := by decide +kernel
theorem d_rc_report_76 : decode b_rc_report 76 = .ok (.aload_n 0, 1) := by decide +kernel
theorem d_rc_report_77 : decode b_rc_report 77 = .ok (.getfield 30, 3) := by decide +kernel
theorem d_rc_report_80 : decode b_rc_report 80 = .ok (.aload_n 0, 1) := by decide +kernel
theorem d_rc_report_81 : decode b_rc_report 81 = .ok (.getfield 10, 3) := by decide +kernel
theorem d_rc_report_84 : decode b_rc_report 84 = .ok (.invokevirtual 55, 3) := by decide +kernel
theorem d_rc_report_87 : decode b_rc_report 87 = .ok (.aload_n 0, 1) := by decide +kernel
theorem d_rc_report_88 : decode b_rc_report 88 = .ok (.getfield 10, 3) := by decide +kernel
theorem d_rc_report_91 : decode b_rc_report 91 = .ok (.aload 4, 2) := by decide +kernel
theorem d_rc_report_93 : decode b_rc_report 93 = .ok (.iload_n 2, 1) := by decide +kernel
theorem d_rc_report_94 : decode b_rc_report 94 = .ok (.iload_n 3, 1) := by decide +kernel
theorem d_rc_report_95 : decode b_rc_report 95 = .ok (.invokevirtual 162, 3) := by decide +kernel
theorem d_rc_report_98 : decode b_rc_report 98 = .ok (.aload_n 0, 1) := by decide +kernel
theorem d_rc_report_99 : decode b_rc_report 99 = .ok (.getfield 10, 3) := by decide +kernel
theorem d_rc_report_102 : decode b_rc_report 102 = .ok (.invokevirtual 166, 3) := by decide +kernel
theorem d_rc_report_105 : decode b_rc_report 105 = .ok (.iload 5, 2) := by decide +kernel
theorem d_rc_report_107 : decode b_rc_report 107 = .ok (.ireturn, 1) := by decide +kernel
theorem d_rc_pass_0 : decode b_rc_pass 0 = .ok (.iload_n 1, 1) := by decide +kernel
theorem d_rc_pass_1 : decode b_rc_pass 1 = .ok (.ifCond .ge 5, 3) := by decide +kernel
theorem d_rc_pass_4 : decode b_rc_pass 4 = .ok (.iconst (-1), 1) := by decide +kernel
theorem d_rc_pass_5 : decode b_rc_pass 5 = .ok (.ireturn, 1) := by decide +kernel
theorem d_rc_pass_6 : decode b_rc_pass 6 = .ok (.iload_n 1, 1) := by decide +kernel
theorem d_rc_pass_7 : decode b_rc_pass 7 = .ok (.ldc 158, 2) := by decide +kernel
theorem d_rc_pass_9 : decode b_rc_pass 9 = .ok (.aload_n 0, 1) := by decide +kernel
theorem d_rc_pass_10 : decode b_rc_pass 10 = .ok (.getfield 10, 3) := by decide +kernel
theorem d_rc_pass_13 : decode b_rc_pass 13 = .ok (.getfield 159, 3) := by decide +kernel
theorem d_rc_pass_16 : decode b_rc_pass 16 = .ok (.isub, 1) := by decide +kernel
theorem d_rc_pass_17 : decode b_rc_pass 17 = .ok (.if_icmp .le 6, 3) := by decide +kernel
theorem d_rc_pass_20 : decode b_rc_pass 20 = .ok (.bipush (-4), 2) := by decide +kernel
theorem d_rc_pass_22 : decode b_rc_pass 22 = .ok (.ireturn, 1) := by decide +kernel
theorem d_rc_pass_23 : decode b_rc_pass 23 = .ok (.aload_n 0, 1) := by decide +kernel
theorem d_rc_pass_24 : decode b_rc_pass 24 = .ok (.getfield 30, 3) := by decide +kernel
theorem d_rc_pass_27 : decode b_rc_pass 27 = .ok (.aload_n 0, 1) := by decide +kernel
theorem d_rc_pass_28 : decode b_rc_pass 28 = .ok (.getfield 10, 3) := by decide +kernel
theorem d_rc_pass_31 : decode b_rc_pass 31 = .ok (.invokevirtual 55, 3) := by decide +kernel
theorem d_rc_pass_34 : decode b_rc_pass 34 = .ok (.aload_n 0, 1) := by decide +kernel
theorem d_rc_pass_35 : decode b_rc_pass 35 = .ok (.getfield 10, 3) := by decide +kernel
theorem d_rc_pass_38 : decode b_rc_pass 38 = .ok (.dup, 1) := by decide +kernel
theorem d_rc_pass_39 : decode b_rc_pass 39 = .ok (.getfield 159, 3) := by decide +kernel
theorem d_rc_pass_42 : decode b_rc_pass 42 = .ok (.iload_n 1, 1) := by decide +kernel
theorem d_rc_pass_43 : decode b_rc_pass 43 = .ok (.iadd, 1) := by decide +kernel
theorem d_rc_pass_44 : decode b_rc_pass 44 = .ok (.putfield 159, 3) := by decide +kernel
theorem d_rc_pass_47 : decode b_rc_pass 47 = .ok (.aload_n 0, 1) := by decide +kernel
theorem d_rc_pass_48 : decode b_rc_pass 48 = .ok (.getfield 10, 3) := by decide +kernel
theorem d_rc_pass_51 : decode b_rc_pass 51 = .ok (.invokevirtual 166, 3) := by decide +kernel
theorem d_rc_pass_54 : decode b_rc_pass 54 = .ok (.aload_n 0, 1) := by decide +kernel
theorem d_rc_pass_55 : decode b_rc_pass 55 = .ok (.getfield 10, 3) := by decide +kernel
theorem d_rc_pass_58 : decode b_rc_pass 58 = .ok (.getfield 159, 3) := by decide +kernel
theorem d_rc_pass_61 : decode b_rc_pass 61 = .ok (.ireturn, 1) := by decide +kernel
theorem d_rc_update_0 : decode b_rc_update 0 = .ok (.aload_n 0, 1) := by decide +kernel
theorem d_rc_update_1 : decode b_rc_update 1 = .ok (.getfield 10, 3) := by decide +kernel
theorem d_rc_update_4 : decode b_rc_update 4 = .ok (.iload_n 1, 1) := by decide +kernel
theorem d_rc_update_5 : decode b_rc_update 5 = .ok (.invokevirtual 84, 3) := by decide +kernel
theorem d_rc_update_8 : decode b_rc_update 8 = .ok (.astore_n 2, 1) := by decide +kernel
theorem d_rc_update_9 : decode b_rc_update 9 = .ok (.aload_n 2, 1) := by decide +kernel
theorem d_rc_update_10 : decode b_rc_update 10 = .ok (.ifnonnull 5, 3) := by decide +kernel
theorem d_rc_update_13 : decode b_rc_update 13 = .ok (.iconst (-1), 1) := by decide +kernel
theorem d_rc_update_14 : decode b_rc_update 14 = .ok (.ireturn, 1) := by decide +kernel
theorem d_rc_update_15 : decode b_rc_update 15 = .ok (.aload_n 0, 1) := by decide +kernel
theorem d_rc_update_16 : decode b_rc_update 16 = .ok (.getfield 30, 3) := by decide +kernel
theorem d_rc_update_19 : decode b_rc_update 19 = .ok (.aload_n 0, 1) := by decide +kernel
theorem d_rc_update_20 : decode b_rc_update 20 = .ok (.getfield 10, 3) := by decide +kernel
theorem d_rc_update_23 : decode b_rc_update 23 = .ok (.invokevirtual 55, 3) := by decide +kernel
theorem d_rc_update_26 : decode b_rc_update 26 = .ok (.aload_n 0, 1) := by decide +kernel
theorem d_rc_update_27 : decode b_rc_update 27 = .ok (.getfield 10, 3) := by decide +kernel
theorem d_rc_update_30 : decode b_rc_update 30 = .ok (.aload_n 2, 1) := by decide +kernel
theorem d_rc_update_31 : decode b_rc_update 31 = .ok (.invokevirtual 169, 3) := by decide +kernel
theorem d_rc_update_34 : decode b_rc_update 34 = .ok (.ireturn, 1) := by decide +kernel
theorem d_rc_kind_0 : decode b_rc_kind 0 = .ok (.aload_n 0, 1) := by decide +kernel
theorem d_rc_kind_1 : decode b_rc_kind 1 = .ok (.getfield 10, 3) := by decide +kernel
theorem d_rc_kind_4 : decode b_rc_kind 4 = .ok (.iload_n 1, 1) := by decide +kernel
theorem d_rc_kind_5 : decode b_rc_kind 5 = .ok (.invokevirtual 145, 3) := by decide +kernel
theorem d_rc_kind_8 : decode b_rc_kind 8 = .ok (.astore_n 2, 1) := by decide +kernel
theorem d_rc_kind_9 : decode b_rc_kind 9 = .ok (.aload_n 2, 1) := by decide +kernel
theorem d_rc_kind_10 : decode b_rc_kind 10 = .ok (.ifnonnull 7, 3) := by decide +kernel
theorem d_rc_kind_13 : decode b_rc_kind 13 = .ok (.iconst (-1), 1) := by decide +kernel
theorem d_rc_kind_14 : decode b_rc_kind 14 = .ok (.goto 7, 3) := by decide +kernel
theorem d_rc_kind_17 : decode b_rc_kind 17 = .ok (.aload_n 2, 1) := by decide +kernel
theorem d_rc_kind_18 : decode b_rc_kind 18 = .ok (.getfield 173, 3) := by decide +kernel
theorem d_rc_kind_21 : decode b_rc_kind 21 = .ok (.ireturn, 1) := by decide +kernel
theorem d_rc_stationOf_0 : decode b_rc_stationOf 0 = .ok (.aload_n 0, 1) := by decide +kernel
theorem d_rc_stationOf_1 : decode b_rc_stationOf 1 = .ok (.getfield 10, 3) := by decide +kernel
theorem d_rc_stationOf_4 : decode b_rc_stationOf 4 = .ok (.iload_n 1, 1) := by decide +kernel
theorem d_rc_stationOf_5 : decode b_rc_stationOf 5 = .ok (.invokevirtual 145, 3) := by decide +kernel
theorem d_rc_stationOf_8 : decode b_rc_stationOf 8 = .ok (.astore_n 2, 1) := by decide +kernel
theorem d_rc_stationOf_9 : decode b_rc_stationOf 9 = .ok (.aload_n 2, 1) := by decide +kernel
theorem d_rc_stationOf_10 : decode b_rc_stationOf 10 = .ok (.ifnonnull 7, 3) := by decide +kernel
theorem d_rc_stationOf_13 : decode b_rc_stationOf 13 = .ok (.iconst (-1), 1) := by decide +kernel
theorem d_rc_stationOf_14 : decode b_rc_stationOf 14 = .ok (.goto 7, 3) := by decide +kernel
theorem d_rc_stationOf_17 : decode b_rc_stationOf 17 = .ok (.aload_n 2, 1) := by decide +kernel
theorem d_rc_stationOf_18 : decode b_rc_stationOf 18 = .ok (.getfield 176, 3) := by decide +kernel
theorem d_rc_stationOf_21 : decode b_rc_stationOf 21 = .ok (.ireturn, 1) := by decide +kernel
theorem d_rc_entryRate_0 : decode b_rc_entryRate 0 = .ok (.aload_n 0, 1) := by decide +kernel
theorem d_rc_entryRate_1 : decode b_rc_entryRate 1 = .ok (.getfield 10, 3) := by decide +kernel
theorem d_rc_entryRate_4 : decode b_rc_entryRate 4 = .ok (.iload_n 1, 1) := by decide +kernel
theorem d_rc_entryRate_5 : decode b_rc_entryRate 5 = .ok (.invokevirtual 145, 3) := by decide +kernel
theorem d_rc_entryRate_8 : decode b_rc_entryRate 8 = .ok (.astore_n 3, 1) := by decide +kernel
theorem d_rc_entryRate_9 : decode b_rc_entryRate 9 = .ok (.aload_n 3, 1) := by decide +kernel
theorem d_rc_entryRate_10 : decode b_rc_entryRate 10 = .ok (.ifnull 10, 3) := by decide +kernel
theorem d_rc_entryRate_13 : decode b_rc_entryRate 13 = .ok (.iload_n 2, 1) := by decide +kernel
theorem d_rc_entryRate_14 : decode b_rc_entryRate 14 = .ok (.invokestatic 179, 3) := by decide +kernel
theorem d_rc_entryRate_17 : decode b_rc_entryRate 17 = .ok (.ifCond .ne 7, 3) := by decide +kernel
theorem d_rc_entryRate_20 : decode b_rc_entryRate 20 = .ok (.iconst (-1), 1) := by decide +kernel
theorem d_rc_entryRate_21 : decode b_rc_entryRate 21 = .ok (.goto 9, 3) := by decide +kernel
theorem d_rc_entryRate_24 : decode b_rc_entryRate 24 = .ok (.aload_n 3, 1) := by decide +kernel
theorem d_rc_entryRate_25 : decode b_rc_entryRate 25 = .ok (.getfield 182, 3) := by decide +kernel
theorem d_rc_entryRate_28 : decode b_rc_entryRate 28 = .ok (.iload_n 2, 1) := by decide +kernel
theorem d_rc_entryRate_29 : decode b_rc_entryRate 29 = .ok (.iaload, 1) := by decide +kernel
theorem d_rc_entryRate_30 : decode b_rc_entryRate 30 = .ok (.ireturn, 1) := by decide +kernel
theorem d_rc_entryTries_0 : decode b_rc_entryTries 0 = .ok (.aload_n 0, 1) := by decide +kernel
theorem d_rc_entryTries_1 : decode b_rc_entryTries 1 = .ok (.getfield 10, 3) := by decide +kernel
theorem d_rc_entryTries_4 : decode b_rc_entryTries 4 = .ok (.iload_n 1, 1) := by decide +kernel
theorem d_rc_entryTries_5 : decode b_rc_entryTries 5 = .ok (.invokevirtual 145, 3) := by decide +kernel
theorem d_rc_entryTries_8 : decode b_rc_entryTries 8 = .ok (.astore_n 3, 1) := by decide +kernel
theorem d_rc_entryTries_9 : decode b_rc_entryTries 9 = .ok (.aload_n 3, 1) := by decide +kernel
theorem d_rc_entryTries_10 : decode b_rc_entryTries 10 = .ok (.ifnull 10, 3) := by decide +kernel
theorem d_rc_entryTries_13 : decode b_rc_entryTries 13 = .ok (.iload_n 2, 1) := by decide +kernel
theorem d_rc_entryTries_14 : decode b_rc_entryTries 14 = .ok (.invokestatic 179, 3) := by decide +kernel
theorem d_rc_entryTries_17 : decode b_rc_entryTries 17 = .ok (.ifCond .ne 7, 3) := by decide +kernel
theorem d_rc_entryTries_20 : decode b_rc_entryTries 20 = .ok (.iconst (-1), 1) := by decide +kernel
theorem d_rc_entryTries_21 : decode b_rc_entryTries 21 = .ok (.goto 9, 3) := by decide +kernel
theorem d_rc_entryTries_24 : decode b_rc_entryTries 24 = .ok (.aload_n 3, 1) := by decide +kernel
theorem d_rc_entryTries_25 : decode b_rc_entryTries 25 = .ok (.getfield 185, 3) := by decide +kernel
theorem d_rc_entryTries_28 : decode b_rc_entryTries 28 = .ok (.iload_n 2, 1) := by decide +kernel
theorem d_rc_entryTries_29 : decode b_rc_entryTries 29 = .ok (.iaload, 1) := by decide +kernel
theorem d_rc_entryTries_30 : decode b_rc_entryTries 30 = .ok (.ireturn, 1) := by decide +kernel
theorem d_rc_tag_0 : decode b_rc_tag 0 = .ok (.aload_n 0, 1) := by decide +kernel
theorem d_rc_tag_1 : decode b_rc_tag 1 = .ok (.getfield 10, 3) := by decide +kernel
theorem d_rc_tag_4 : decode b_rc_tag 4 = .ok (.iload_n 1, 1) := by decide +kernel
theorem d_rc_tag_5 : decode b_rc_tag 5 = .ok (.invokevirtual 145, 3) := by decide +kernel
theorem d_rc_tag_8 : decode b_rc_tag 8 = .ok (.astore_n 2, 1) := by decide +kernel
theorem d_rc_tag_9 : decode b_rc_tag 9 = .ok (.aload_n 2, 1) := by decide +kernel
theorem d_rc_tag_10 : decode b_rc_tag 10 = .ok (.ifnonnull 5, 3) := by decide +kernel
theorem d_rc_tag_13 : decode b_rc_tag 13 = .ok (.iconst (-1), 1) := by decide +kernel
theorem d_rc_tag_14 : decode b_rc_tag 14 = .ok (.ireturn, 1) := by decide +kernel
theorem d_rc_tag_15 : decode b_rc_tag 15 = .ok (.iconst 4, 1) := by decide +kernel
theorem d_rc_tag_16 : decode b_rc_tag 16 = .ok (.aload_n 2, 1) := by decide +kernel
theorem d_rc_tag_17 : decode b_rc_tag 17 = .ok (.getfield 188, 3) := by decide +kernel
theorem d_rc_tag_20 : decode b_rc_tag 20 = .ok (.imul, 1) := by decide +kernel
theorem d_rc_tag_21 : decode b_rc_tag 21 = .ok (.aload_n 2, 1) := by decide +kernel
theorem d_rc_tag_22 : decode b_rc_tag 22 = .ok (.getfield 176, 3) := by decide +kernel
theorem d_rc_tag_25 : decode b_rc_tag 25 = .ok (.iadd, 1) := by decide +kernel
theorem d_rc_tag_26 : decode b_rc_tag 26 = .ok (.istore_n 3, 1) := by decide +kernel
theorem d_rc_tag_27 : decode b_rc_tag 27 = .ok (.aload_n 2, 1) := by decide +kernel
theorem d_rc_tag_28 : decode b_rc_tag 28 = .ok (.getfield 173, 3) := by decide +kernel
theorem d_rc_tag_31 : decode b_rc_tag 31 = .ok (.iconst 1, 1) := by decide +kernel
theorem d_rc_tag_32 : decode b_rc_tag 32 = .ok (.if_icmp .ne 27, 3) := by decide +kernel
theorem d_rc_tag_35 : decode b_rc_tag 35 = .ok (.aload_n 2, 1) := by decide +kernel
theorem d_rc_tag_36 : decode b_rc_tag 36 = .ok (.getfield 191, 3) := by decide +kernel
theorem d_rc_tag_39 : decode b_rc_tag 39 = .ok (.invokestatic 179, 3) := by decide +kernel
theorem d_rc_tag_42 : decode b_rc_tag 42 = .ok (.ifCond .eq 17, 3) := by decide +kernel
theorem d_rc_tag_45 : decode b_rc_tag 45 = .ok (.iconst 3, 1) := by decide +kernel
theorem d_rc_tag_46 : decode b_rc_tag 46 = .ok (.iload_n 3, 1) := by decide +kernel
theorem d_rc_tag_47 : decode b_rc_tag 47 = .ok (.imul, 1) := by decide +kernel
theorem d_rc_tag_48 : decode b_rc_tag 48 = .ok (.aload_n 2, 1) := by decide +kernel
theorem d_rc_tag_49 : decode b_rc_tag 49 = .ok (.getfield 182, 3) := by decide +kernel
theorem d_rc_tag_52 : decode b_rc_tag 52 = .ok (.aload_n 2, 1) := by decide +kernel
theorem d_rc_tag_53 : decode b_rc_tag 53 = .ok (.getfield 191, 3) := by decide +kernel
theorem d_rc_tag_56 : decode b_rc_tag 56 = .ok (.iaload, 1) := by decide +kernel
theorem d_rc_tag_57 : decode b_rc_tag 57 = .ok (.iadd, 1) := by decide +kernel
theorem d_rc_tag_58 : decode b_rc_tag 58 = .ok (.ireturn, 1) := by decide +kernel
theorem d_rc_tag_59 : decode b_rc_tag 59 = .ok (.aload_n 2, 1) := by decide +kernel
theorem d_rc_tag_60 : decode b_rc_tag 60 = .ok (.getfield 173, 3) := by decide +kernel
theorem d_rc_tag_63 : decode b_rc_tag 63 = .ok (.iconst 2, 1) := by decide +kernel
theorem d_rc_tag_64 : decode b_rc_tag 64 = .ok (.if_icmp .ne 10, 3) := by decide +kernel
theorem d_rc_tag_67 : decode b_rc_tag 67 = .ok (.iload_n 3, 1) := by decide +kernel
theorem d_rc_tag_68 : decode b_rc_tag 68 = .ok (.ldc 108, 2) := by decide +kernel
theorem d_rc_tag_70 : decode b_rc_tag 70 = .ok (.iadd, 1) := by decide +kernel
theorem d_rc_tag_71 : decode b_rc_tag 71 = .ok (.goto 4, 3) := by decide +kernel
theorem d_rc_tag_74 : decode b_rc_tag 74 = .ok (.iload_n 3, 1) := by decide +kernel
theorem d_rc_tag_75 : decode b_rc_tag 75 = .ok (.ireturn, 1) := by decide +kernel
theorem d_rc_deliveryChance_0 : decode b_rc_deliveryChance 0 = .ok (.aload_n 0, 1) := by decide +kernel
theorem d_rc_deliveryChance_1 : decode b_rc_deliveryChance 1 = .ok (.getfield 10, 3) := by decide +kernel
theorem d_rc_deliveryChance_4 : decode b_rc_deliveryChance 4 = .ok (.iload_n 1, 1) := by decide +kernel
theorem d_rc_deliveryChance_5 : decode b_rc_deliveryChance 5 = .ok (.invokevirtual 145, 3) := by decide +kernel
theorem d_rc_deliveryChance_8 : decode b_rc_deliveryChance 8 = .ok (.astore_n 2, 1) := by decide +kernel
theorem d_rc_deliveryChance_9 : decode b_rc_deliveryChance 9 = .ok (.aload_n 2, 1) := by decide +kernel
theorem d_rc_deliveryChance_10 : decode b_rc_deliveryChance 10 = .ok (.ifnonnull 7, 3) := by decide +kernel
theorem d_rc_deliveryChance_13 : decode b_rc_deliveryChance 13 = .ok (.iconst (-1), 1) := by decide +kernel
theorem d_rc_deliveryChance_14 : decode b_rc_deliveryChance 14 = .ok (.goto 14, 3) := by decide +kernel
theorem d_rc_deliveryChance_17 : decode b_rc_deliveryChance 17 = .ok (.ldc 194, 2) := by decide +kernel
theorem d_rc_deliveryChance_19 : decode b_rc_deliveryChance 19 = .ok (.aload_n 0, 1) := by decide +kernel
theorem d_rc_deliveryChance_20 : decode b_rc_deliveryChance 20 = .ok (.getfield 10, 3) := by decide +kernel
theorem d_rc_deliveryChance_23 : decode b_rc_deliveryChance 23 = .ok (.aload_n 2, 1) := by decide +kernel
theorem d_rc_deliveryChance_24 : decode b_rc_deliveryChance 24 = .ok (.invokevirtual 195, 3) := by decide +kernel
theorem d_rc_deliveryChance_27 : decode b_rc_deliveryChance 27 = .ok (.isub, 1) := by decide +kernel
theorem d_rc_deliveryChance_28 : decode b_rc_deliveryChance 28 = .ok (.ireturn, 1) := by decide +kernel
theorem d_rc_expectedTime_0 : decode b_rc_expectedTime 0 = .ok (.aload_n 0, 1) := by decide +kernel
theorem d_rc_expectedTime_1 : decode b_rc_expectedTime 1 = .ok (.getfield 10, 3) := by decide +kernel
theorem d_rc_expectedTime_4 : decode b_rc_expectedTime 4 = .ok (.iload_n 1, 1) := by decide +kernel
theorem d_rc_expectedTime_5 : decode b_rc_expectedTime 5 = .ok (.invokevirtual 145, 3) := by decide +kernel
theorem d_rc_expectedTime_8 : decode b_rc_expectedTime 8 = .ok (.astore_n 2, 1) := by decide +kernel
theorem d_rc_expectedTime_9 : decode b_rc_expectedTime 9 = .ok (.aload_n 2, 1) := by decide +kernel
theorem d_rc_expectedTime_10 : decode b_rc_expectedTime 10 = .ok (.ifnonnull 7, 3) := by decide +kernel
theorem d_rc_expectedTime_13 : decode b_rc_expectedTime 13 = .ok (.iconst (-1), 1) := by decide +kernel
theorem d_rc_expectedTime_14 : decode b_rc_expectedTime 14 = .ok (.goto 16, 3) := by decide +kernel
theorem d_rc_expectedTime_17 : decode b_rc_expectedTime 17 = .ok (.aload_n 0, 1) := by decide +kernel
theorem d_rc_expectedTime_18 : decode b_rc_expectedTime 18 = .ok (.getfield 10, 3) := by decide +kernel
theorem d_rc_expectedTime_21 : decode b_rc_expectedTime 21 = .ok (.aload_n 2, 1) := by decide +kernel
theorem d_rc_expectedTime_22 : decode b_rc_expectedTime 22 = .ok (.invokevirtual 199, 3) := by decide +kernel
theorem d_rc_expectedTime_25 : decode b_rc_expectedTime 25 = .ok (.ldc2_w 203, 3) := by decide +kernel
theorem d_rc_expectedTime_28 : decode b_rc_expectedTime 28 = .ok (.ldiv, 1) := by decide +kernel
theorem d_rc_expectedTime_29 : decode b_rc_expectedTime 29 = .ok (.l2i, 1) := by decide +kernel
theorem d_rc_expectedTime_30 : decode b_rc_expectedTime 30 = .ok (.ireturn, 1) := by decide +kernel
theorem d_rc_estimate_0 : decode b_rc_estimate 0 = .ok (.aload_n 0, 1) := by decide +kernel
theorem d_rc_estimate_1 : decode b_rc_estimate 1 = .ok (.getfield 10, 3) := by decide +kernel
theorem d_rc_estimate_4 : decode b_rc_estimate 4 = .ok (.iload_n 1, 1) := by decide +kernel
theorem d_rc_estimate_5 : decode b_rc_estimate 5 = .ok (.iload_n 2, 1) := by decide +kernel
theorem d_rc_estimate_6 : decode b_rc_estimate 6 = .ok (.invokevirtual 88, 3) := by decide +kernel
theorem d_rc_estimate_9 : decode b_rc_estimate 9 = .ok (.astore_n 3, 1) := by decide +kernel
theorem d_rc_estimate_10 : decode b_rc_estimate 10 = .ok (.aload_n 3, 1) := by decide +kernel
theorem d_rc_estimate_11 : decode b_rc_estimate 11 = .ok (.ifnonnull 7, 3) := by decide +kernel
theorem d_rc_estimate_14 : decode b_rc_estimate 14 = .ok (.iconst (-1), 1) := by decide +kernel
theorem d_rc_estimate_15 : decode b_rc_estimate 15 = .ok (.goto 7, 3) := by decide +kernel
theorem d_rc_estimate_18 : decode b_rc_estimate 18 = .ok (.aload_n 3, 1) := by decide +kernel
theorem d_rc_estimate_19 : decode b_rc_estimate 19 = .ok (.getfield 205, 3) := by decide +kernel
theorem d_rc_estimate_22 : decode b_rc_estimate 22 = .ok (.ireturn, 1) := by decide +kernel
theorem d_rc_triesOf_0 : decode b_rc_triesOf 0 = .ok (.aload_n 0, 1) := by decide +kernel
theorem d_rc_triesOf_1 : decode b_rc_triesOf 1 = .ok (.getfield 10, 3) := by decide +kernel
theorem d_rc_triesOf_4 : decode b_rc_triesOf 4 = .ok (.iload_n 1, 1) := by decide +kernel
theorem d_rc_triesOf_5 : decode b_rc_triesOf 5 = .ok (.iload_n 2, 1) := by decide +kernel
theorem d_rc_triesOf_6 : decode b_rc_triesOf 6 = .ok (.invokevirtual 88, 3) := by decide +kernel
theorem d_rc_triesOf_9 : decode b_rc_triesOf 9 = .ok (.astore_n 3, 1) := by decide +kernel
theorem d_rc_triesOf_10 : decode b_rc_triesOf 10 = .ok (.aload_n 3, 1) := by decide +kernel
theorem d_rc_triesOf_11 : decode b_rc_triesOf 11 = .ok (.ifnonnull 7, 3) := by decide +kernel
theorem d_rc_triesOf_14 : decode b_rc_triesOf 14 = .ok (.iconst (-1), 1) := by decide +kernel
theorem d_rc_triesOf_15 : decode b_rc_triesOf 15 = .ok (.goto 7, 3) := by decide +kernel
theorem d_rc_triesOf_18 : decode b_rc_triesOf 18 = .ok (.aload_n 3, 1) := by decide +kernel
theorem d_rc_triesOf_19 : decode b_rc_triesOf 19 = .ok (.getfield 208, 3) := by decide +kernel
theorem d_rc_triesOf_22 : decode b_rc_triesOf 22 = .ok (.ireturn, 1) := by decide +kernel
theorem d_rc_successesOf_0 : decode b_rc_successesOf 0 = .ok (.aload_n 0, 1) := by decide +kernel
theorem d_rc_successesOf_1 : decode b_rc_successesOf 1 = .ok (.getfield 10, 3) := by decide +kernel
theorem d_rc_successesOf_4 : decode b_rc_successesOf 4 = .ok (.iload_n 1, 1) := by decide +kernel
theorem d_rc_successesOf_5 : decode b_rc_successesOf 5 = .ok (.iload_n 2, 1) := by decide +kernel
theorem d_rc_successesOf_6 : decode b_rc_successesOf 6 = .ok (.invokevirtual 88, 3) := by decide +kernel
theorem d_rc_successesOf_9 : decode b_rc_successesOf 9 = .ok (.astore_n 3, 1) := by decide +kernel
theorem d_rc_successesOf_10 : decode b_rc_successesOf 10 = .ok (.aload_n 3, 1) := by decide +kernel
theorem d_rc_successesOf_11 : decode b_rc_successesOf 11 = .ok (.ifnonnull 7, 3) := by decide +kernel
theorem d_rc_successesOf_14 : decode b_rc_successesOf 14 = .ok (.iconst (-1), 1) := by decide +kernel
theorem d_rc_successesOf_15 : decode b_rc_successesOf 15 = .ok (.goto 7, 3) := by decide +kernel
theorem d_rc_successesOf_18 : decode b_rc_successesOf 18 = .ok (.aload_n 3, 1) := by decide +kernel
theorem d_rc_successesOf_19 : decode b_rc_successesOf 19 = .ok (.getfield 210, 3) := by decide +kernel
theorem d_rc_successesOf_22 : decode b_rc_successesOf 22 = .ok (.ireturn, 1) := by decide +kernel
theorem d_rc_airTime_0 : decode b_rc_airTime 0 = .ok (.aload_n 0, 1) := by decide +kernel
theorem d_rc_airTime_1 : decode b_rc_airTime 1 = .ok (.getfield 10, 3) := by decide +kernel
theorem d_rc_airTime_4 : decode b_rc_airTime 4 = .ok (.getfield 45, 3) := by decide +kernel
theorem d_rc_airTime_7 : decode b_rc_airTime 7 = .ok (.iload_n 1, 1) := by decide +kernel
theorem d_rc_airTime_8 : decode b_rc_airTime 8 = .ok (.invokevirtual 213, 3) := by decide +kernel
theorem d_rc_airTime_11 : decode b_rc_airTime 11 = .ok (.ifCond .eq 10, 3) := by decide +kernel
theorem d_rc_airTime_14 : decode b_rc_airTime 14 = .ok (.iload_n 2, 1) := by decide +kernel
theorem d_rc_airTime_15 : decode b_rc_airTime 15 = .ok (.invokestatic 216, 3) := by decide +kernel
theorem d_rc_airTime_18 : decode b_rc_airTime 18 = .ok (.ifCond .ne 5, 3) := by decide +kernel
theorem d_rc_airTime_21 : decode b_rc_airTime 21 = .ok (.iconst (-1), 1) := by decide +kernel
theorem d_rc_airTime_22 : decode b_rc_airTime 22 = .ok (.ireturn, 1) := by decide +kernel
theorem d_rc_airTime_23 : decode b_rc_airTime 23 = .ok (.aload_n 0, 1) := by decide +kernel
theorem d_rc_airTime_24 : decode b_rc_airTime 24 = .ok (.getfield 10, 3) := by decide +kernel
theorem d_rc_airTime_27 : decode b_rc_airTime 27 = .ok (.getfield 45, 3) := by decide +kernel
theorem d_rc_airTime_30 : decode b_rc_airTime 30 = .ok (.iload_n 1, 1) := by decide +kernel
theorem d_rc_airTime_31 : decode b_rc_airTime 31 = .ok (.iload_n 2, 1) := by decide +kernel
theorem d_rc_airTime_32 : decode b_rc_airTime 32 = .ok (.invokevirtual 219, 3) := by decide +kernel
theorem d_rc_airTime_35 : decode b_rc_airTime 35 = .ok (.ireturn, 1) := by decide +kernel
theorem d_rc_throughput_0 : decode b_rc_throughput 0 = .ok (.aload_n 0, 1) := by decide +kernel
theorem d_rc_throughput_1 : decode b_rc_throughput 1 = .ok (.getfield 10, 3) := by decide +kernel
theorem d_rc_throughput_4 : decode b_rc_throughput 4 = .ok (.iload_n 1, 1) := by decide +kernel
theorem d_rc_throughput_5 : decode b_rc_throughput 5 = .ok (.iload_n 2, 1) := by decide +kernel
theorem d_rc_throughput_6 : decode b_rc_throughput 6 = .ok (.invokevirtual 88, 3) := by decide +kernel
theorem d_rc_throughput_9 : decode b_rc_throughput 9 = .ok (.astore 4, 2) := by decide +kernel
theorem d_rc_throughput_11 : decode b_rc_throughput 11 = .ok (.aload 4, 2) := by decide +kernel
theorem d_rc_throughput_13 : decode b_rc_throughput 13 = .ok (.ifnull 10, 3) := by decide +kernel
theorem d_rc_throughput_16 : decode b_rc_throughput 16 = .ok (.iload_n 3, 1) := by decide +kernel
theorem d_rc_throughput_17 : decode b_rc_throughput 17 = .ok (.invokestatic 216, 3) := by decide +kernel
theorem d_rc_throughput_20 : decode b_rc_throughput 20 = .ok (.ifCond .ne 5, 3) := by decide +kernel
theorem d_rc_throughput_23 : decode b_rc_throughput 23 = .ok (.iconst (-1), 1) := by decide +kernel
theorem d_rc_throughput_24 : decode b_rc_throughput 24 = .ok (.ireturn, 1) := by decide +kernel
theorem d_rc_throughput_25 : decode b_rc_throughput 25 = .ok (.aload 4, 2) := by decide +kernel
theorem d_rc_throughput_27 : decode b_rc_throughput 27 = .ok (.invokevirtual 222, 3) := by decide +kernel
theorem d_rc_throughput_30 : decode b_rc_throughput 30 = .ok (.ifCond .ne 6, 3) := by decide +kernel
theorem d_rc_throughput_33 : decode b_rc_throughput 33 = .ok (.bipush (-9), 2) := by decide +kernel
theorem d_rc_throughput_35 : decode b_rc_throughput 35 = .ok (.ireturn, 1) := by decide +kernel
theorem d_rc_throughput_36 : decode b_rc_throughput 36 = .ok (.aload 4, 2) := by decide +kernel
theorem d_rc_throughput_38 : decode b_rc_throughput 38 = .ok (.getfield 205, 3) := by decide +kernel
theorem d_rc_throughput_41 : decode b_rc_throughput 41 = .ok (.i2l, 1) := by decide +kernel
theorem d_rc_throughput_42 : decode b_rc_throughput 42 = .ok (.bipush 8, 2) := by decide +kernel
theorem d_rc_throughput_44 : decode b_rc_throughput 44 = .ok (.iload_n 3, 1) := by decide +kernel
theorem d_rc_throughput_45 : decode b_rc_throughput 45 = .ok (.imul, 1) := by decide +kernel
theorem d_rc_throughput_46 : decode b_rc_throughput 46 = .ok (.i2l, 1) := by decide +kernel
theorem d_rc_throughput_47 : decode b_rc_throughput 47 = .ok (.lmul, 1) := by decide +kernel
theorem d_rc_throughput_48 : decode b_rc_throughput 48 = .ok (.lstore 5, 2) := by decide +kernel
theorem d_rc_throughput_50 : decode b_rc_throughput 50 = .ok (.lload 5, 2) := by decide +kernel
theorem d_rc_throughput_52 : decode b_rc_throughput 52 = .ok (.ldc2_w 225, 3) := by decide +kernel
theorem d_rc_throughput_55 : decode b_rc_throughput 55 = .ok (.lcmp, 1) := by decide +kernel
theorem d_rc_throughput_56 : decode b_rc_throughput 56 = .ok (.ifCond .le 6, 3) := by decide +kernel
theorem d_rc_throughput_59 : decode b_rc_throughput 59 = .ok (.bipush (-4), 2) := by decide +kernel
theorem d_rc_throughput_61 : decode b_rc_throughput 61 = .ok (.ireturn, 1) := by decide +kernel
theorem d_rc_throughput_62 : decode b_rc_throughput 62 = .ok (.iconst 1, 1) := by decide +kernel
theorem d_rc_throughput_63 : decode b_rc_throughput 63 = .ok (.aload_n 0, 1) := by decide +kernel
theorem d_rc_throughput_64 : decode b_rc_throughput 64 = .ok (.getfield 10, 3) := by decide +kernel
theorem d_rc_throughput_67 : decode b_rc_throughput 67 = .ok (.getfield 45, 3) := by decide +kernel
theorem d_rc_throughput_70 : decode b_rc_throughput 70 = .ok (.iload_n 2, 1) := by decide +kernel
theorem d_rc_throughput_71 : decode b_rc_throughput 71 = .ok (.iload_n 3, 1) := by decide +kernel
theorem d_rc_throughput_72 : decode b_rc_throughput 72 = .ok (.invokevirtual 219, 3) := by decide +kernel
theorem d_rc_throughput_75 : decode b_rc_throughput 75 = .ok (.invokestatic 227, 3) := by decide +kernel
theorem d_rc_throughput_78 : decode b_rc_throughput 78 = .ok (.istore 7, 2) := by decide +kernel
theorem d_rc_throughput_80 : decode b_rc_throughput 80 = .ok (.lload 5, 2) := by decide +kernel
theorem d_rc_throughput_82 : decode b_rc_throughput 82 = .ok (.l2i, 1) := by decide +kernel
theorem d_rc_throughput_83 : decode b_rc_throughput 83 = .ok (.iload 7, 2) := by decide +kernel
theorem d_rc_throughput_85 : decode b_rc_throughput 85 = .ok (.idiv, 1) := by decide +kernel
theorem d_rc_throughput_86 : decode b_rc_throughput 86 = .ok (.ireturn, 1) := by decide +kernel
theorem d_rc_role_0 : decode b_rc_role 0 = .ok (.aload_n 0, 1) := by decide +kernel
theorem d_rc_role_1 : decode b_rc_role 1 = .ok (.getfield 10, 3) := by decide +kernel
theorem d_rc_role_4 : decode b_rc_role 4 = .ok (.iload_n 1, 1) := by decide +kernel
theorem d_rc_role_5 : decode b_rc_role 5 = .ok (.invokevirtual 84, 3) := by decide +kernel
theorem d_rc_role_8 : decode b_rc_role 8 = .ok (.astore_n 3, 1) := by decide +kernel
theorem d_rc_role_9 : decode b_rc_role 9 = .ok (.aload_n 3, 1) := by decide +kernel
theorem d_rc_role_10 : decode b_rc_role 10 = .ok (.ifnull 12, 3) := by decide +kernel
theorem d_rc_role_13 : decode b_rc_role 13 = .ok (.iload_n 2, 1) := by decide +kernel
theorem d_rc_role_14 : decode b_rc_role 14 = .ok (.ifCond .lt 8, 3) := by decide +kernel
theorem d_rc_role_17 : decode b_rc_role 17 = .ok (.iload_n 2, 1) := by decide +kernel
theorem d_rc_role_18 : decode b_rc_role 18 = .ok (.iconst 4, 1) := by decide +kernel
theorem d_rc_role_19 : decode b_rc_role 19 = .ok (.if_icmp .lt 7, 3) := by decide +kernel
theorem d_rc_role_22 : decode b_rc_role 22 = .ok (.iconst (-1), 1) := by decide +kernel
theorem d_rc_role_23 : decode b_rc_role 23 = .ok (.goto 9, 3) := by decide +kernel
theorem d_rc_role_26 : decode b_rc_role 26 = .ok (.aload_n 3, 1) := by decide +kernel
theorem d_rc_role_27 : decode b_rc_role 27 = .ok (.getfield 232, 3) := by decide +kernel
theorem d_rc_role_30 : decode b_rc_role 30 = .ok (.iload_n 2, 1) := by decide +kernel
theorem d_rc_role_31 : decode b_rc_role 31 = .ok (.iaload, 1) := by decide +kernel
theorem d_rc_role_32 : decode b_rc_role 32 = .ok (.ireturn, 1) := by decide +kernel
theorem d_rc_refusal_0 : decode b_rc_refusal 0 = .ok (.aload_n 0, 1) := by decide +kernel
theorem d_rc_refusal_1 : decode b_rc_refusal 1 = .ok (.getfield 10, 3) := by decide +kernel
theorem d_rc_refusal_4 : decode b_rc_refusal 4 = .ok (.iload_n 1, 1) := by decide +kernel
theorem d_rc_refusal_5 : decode b_rc_refusal 5 = .ok (.invokevirtual 84, 3) := by decide +kernel
theorem d_rc_refusal_8 : decode b_rc_refusal 8 = .ok (.astore_n 3, 1) := by decide +kernel
theorem d_rc_refusal_9 : decode b_rc_refusal 9 = .ok (.aload_n 3, 1) := by decide +kernel
theorem d_rc_refusal_10 : decode b_rc_refusal 10 = .ok (.ifnull 12, 3) := by decide +kernel
theorem d_rc_refusal_13 : decode b_rc_refusal 13 = .ok (.iload_n 2, 1) := by decide +kernel
theorem d_rc_refusal_14 : decode b_rc_refusal 14 = .ok (.ifCond .lt 8, 3) := by decide +kernel
theorem d_rc_refusal_17 : decode b_rc_refusal 17 = .ok (.iload_n 2, 1) := by decide +kernel
theorem d_rc_refusal_18 : decode b_rc_refusal 18 = .ok (.iconst 3, 1) := by decide +kernel
theorem d_rc_refusal_19 : decode b_rc_refusal 19 = .ok (.if_icmp .lt 7, 3) := by decide +kernel
theorem d_rc_refusal_22 : decode b_rc_refusal 22 = .ok (.iconst (-1), 1) := by decide +kernel
theorem d_rc_refusal_23 : decode b_rc_refusal 23 = .ok (.goto 9, 3) := by decide +kernel
theorem d_rc_refusal_26 : decode b_rc_refusal 26 = .ok (.aload_n 3, 1) := by decide +kernel
theorem d_rc_refusal_27 : decode b_rc_refusal 27 = .ok (.getfield 235, 3) := by decide +kernel
theorem d_rc_refusal_30 : decode b_rc_refusal 30 = .ok (.iload_n 2, 1) := by decide +kernel
theorem d_rc_refusal_31 : decode b_rc_refusal 31 = .ok (.iaload, 1) := by decide +kernel
theorem d_rc_refusal_32 : decode b_rc_refusal 32 = .ok (.ireturn, 1) := by decide +kernel
theorem d_rc_rateOfMode_0 : decode b_rc_rateOfMode 0 = .ok (.iload_n 1, 1) := by decide +kernel
theorem d_rc_rateOfMode_1 : decode b_rc_rateOfMode 1 = .ok (.invokestatic 41, 3) := by decide +kernel
theorem d_rc_rateOfMode_4 : decode b_rc_rateOfMode 4 = .ok (.ifCond .eq 7, 3) := by decide +kernel
theorem d_rc_rateOfMode_7 : decode b_rc_rateOfMode 7 = .ok (.iload_n 2, 1) := by decide +kernel
theorem d_rc_rateOfMode_8 : decode b_rc_rateOfMode 8 = .ok (.ifCond .ge 5, 3) := by decide +kernel
theorem d_rc_rateOfMode_11 : decode b_rc_rateOfMode 11 = .ok (.iconst (-1), 1) := by decide +kernel
theorem d_rc_rateOfMode_12 : decode b_rc_rateOfMode 12 = .ok (.ireturn, 1) := by decide +kernel
theorem d_rc_rateOfMode_13 : decode b_rc_rateOfMode 13 = .ok (.aload_n 0, 1) := by decide +kernel
theorem d_rc_rateOfMode_14 : decode b_rc_rateOfMode 14 = .ok (.getfield 10, 3) := by decide +kernel
theorem d_rc_rateOfMode_17 : decode b_rc_rateOfMode 17 = .ok (.getfield 45, 3) := by decide +kernel
theorem d_rc_rateOfMode_20 : decode b_rc_rateOfMode 20 = .ok (.iload_n 1, 1) := by decide +kernel
theorem d_rc_rateOfMode_21 : decode b_rc_rateOfMode 21 = .ok (.iload_n 2, 1) := by decide +kernel
theorem d_rc_rateOfMode_22 : decode b_rc_rateOfMode 22 = .ok (.invokevirtual 238, 3) := by decide +kernel
theorem d_rc_rateOfMode_25 : decode b_rc_rateOfMode 25 = .ok (.ireturn, 1) := by decide +kernel
theorem d_rc_bestOfMode_0 : decode b_rc_bestOfMode 0 = .ok (.aload_n 0, 1) := by decide +kernel
theorem d_rc_bestOfMode_1 : decode b_rc_bestOfMode 1 = .ok (.getfield 10, 3) := by decide +kernel
theorem d_rc_bestOfMode_4 : decode b_rc_bestOfMode 4 = .ok (.iload_n 1, 1) := by decide +kernel
theorem d_rc_bestOfMode_5 : decode b_rc_bestOfMode 5 = .ok (.invokevirtual 84, 3) := by decide +kernel
theorem d_rc_bestOfMode_8 : decode b_rc_bestOfMode 8 = .ok (.astore_n 3, 1) := by decide +kernel
theorem d_rc_bestOfMode_9 : decode b_rc_bestOfMode 9 = .ok (.aload_n 3, 1) := by decide +kernel
theorem d_rc_bestOfMode_10 : decode b_rc_bestOfMode 10 = .ok (.ifnull 10, 3) := by decide +kernel
theorem d_rc_bestOfMode_13 : decode b_rc_bestOfMode 13 = .ok (.iload_n 2, 1) := by decide +kernel
theorem d_rc_bestOfMode_14 : decode b_rc_bestOfMode 14 = .ok (.invokestatic 41, 3) := by decide +kernel
theorem d_rc_bestOfMode_17 : decode b_rc_bestOfMode 17 = .ok (.ifCond .ne 5, 3) := by decide +kernel
theorem d_rc_bestOfMode_20 : decode b_rc_bestOfMode 20 = .ok (.iconst (-1), 1) := by decide +kernel
theorem d_rc_bestOfMode_21 : decode b_rc_bestOfMode 21 = .ok (.ireturn, 1) := by decide +kernel
theorem d_rc_bestOfMode_22 : decode b_rc_bestOfMode 22 = .ok (.aload_n 3, 1) := by decide +kernel
theorem d_rc_bestOfMode_23 : decode b_rc_bestOfMode 23 = .ok (.aload_n 0, 1) := by decide +kernel
theorem d_rc_bestOfMode_24 : decode b_rc_bestOfMode 24 = .ok (.getfield 10, 3) := by decide +kernel
theorem d_rc_bestOfMode_27 : decode b_rc_bestOfMode 27 = .ok (.getfield 45, 3) := by decide +kernel
theorem d_rc_bestOfMode_30 : decode b_rc_bestOfMode 30 = .ok (.iload_n 2, 1) := by decide +kernel
theorem d_rc_bestOfMode_31 : decode b_rc_bestOfMode 31 = .ok (.invokevirtual 241, 3) := by decide +kernel
theorem d_rc_bestOfMode_34 : decode b_rc_bestOfMode 34 = .ok (.ireturn, 1) := by decide +kernel
theorem d_rc_mostUsed_0 : decode b_rc_mostUsed 0 = .ok (.aload_n 0, 1) := by decide +kernel
theorem d_rc_mostUsed_1 : decode b_rc_mostUsed 1 = .ok (.getfield 10, 3) := by decide +kernel
theorem d_rc_mostUsed_4 : decode b_rc_mostUsed 4 = .ok (.iload_n 1, 1) := by decide +kernel
theorem d_rc_mostUsed_5 : decode b_rc_mostUsed 5 = .ok (.invokevirtual 84, 3) := by decide +kernel
theorem d_rc_mostUsed_8 : decode b_rc_mostUsed 8 = .ok (.astore_n 2, 1) := by decide +kernel
theorem d_rc_mostUsed_9 : decode b_rc_mostUsed 9 = .ok (.aload_n 2, 1) := by decide +kernel
theorem d_rc_mostUsed_10 : decode b_rc_mostUsed 10 = .ok (.ifnonnull 7, 3) := by decide +kernel
theorem d_rc_mostUsed_13 : decode b_rc_mostUsed 13 = .ok (.iconst (-1), 1) := by decide +kernel
theorem d_rc_mostUsed_14 : decode b_rc_mostUsed 14 = .ok (.goto 14, 3) := by decide +kernel
theorem d_rc_mostUsed_17 : decode b_rc_mostUsed 17 = .ok (.aload_n 2, 1) := by decide +kernel
theorem d_rc_mostUsed_18 : decode b_rc_mostUsed 18 = .ok (.aload_n 0, 1) := by decide +kernel
theorem d_rc_mostUsed_19 : decode b_rc_mostUsed 19 = .ok (.getfield 10, 3) := by decide +kernel
theorem d_rc_mostUsed_22 : decode b_rc_mostUsed 22 = .ok (.getfield 45, 3) := by decide +kernel
theorem d_rc_mostUsed_25 : decode b_rc_mostUsed 25 = .ok (.invokevirtual 245, 3) := by decide +kernel
theorem d_rc_mostUsed_28 : decode b_rc_mostUsed 28 = .ok (.ireturn, 1) := by decide +kernel
theorem d_rc_bestChain_0 : decode b_rc_bestChain 0 = .ok (.aload_n 0, 1) := by decide +kernel
theorem d_rc_bestChain_1 : decode b_rc_bestChain 1 = .ok (.getfield 10, 3) := by decide +kernel
theorem d_rc_bestChain_4 : decode b_rc_bestChain 4 = .ok (.iload_n 1, 1) := by decide +kernel
theorem d_rc_bestChain_5 : decode b_rc_bestChain 5 = .ok (.invokevirtual 84, 3) := by decide +kernel
theorem d_rc_bestChain_8 : decode b_rc_bestChain 8 = .ok (.astore 4, 2) := by decide +kernel
theorem d_rc_bestChain_10 : decode b_rc_bestChain 10 = .ok (.aload 4, 2) := by decide +kernel
theorem d_rc_bestChain_12 : decode b_rc_bestChain 12 = .ok (.ifnull 17, 3) := by decide +kernel
theorem d_rc_bestChain_15 : decode b_rc_bestChain 15 = .ok (.iload_n 2, 1) := by decide +kernel
theorem d_rc_bestChain_16 : decode b_rc_bestChain 16 = .ok (.invokestatic 112, 3) := by decide +kernel
theorem d_rc_bestChain_19 : decode b_rc_bestChain 19 = .ok (.ifCond .eq 10, 3) := by decide +kernel
theorem d_rc_bestChain_22 : decode b_rc_bestChain 22 = .ok (.iload_n 3, 1) := by decide +kernel
theorem d_rc_bestChain_23 : decode b_rc_bestChain 23 = .ok (.invokestatic 179, 3) := by decide +kernel
theorem d_rc_bestChain_26 : decode b_rc_bestChain 26 = .ok (.ifCond .ne 5, 3) := by decide +kernel
theorem d_rc_bestChain_29 : decode b_rc_bestChain 29 = .ok (.iconst (-1), 1) := by decide +kernel
theorem d_rc_bestChain_30 : decode b_rc_bestChain 30 = .ok (.ireturn, 1) := by decide +kernel
theorem d_rc_bestChain_31 : decode b_rc_bestChain 31 = .ok (.aload_n 0, 1) := by decide +kernel
theorem d_rc_bestChain_32 : decode b_rc_bestChain 32 = .ok (.getfield 37, 3) := by decide +kernel
theorem d_rc_bestChain_35 : decode b_rc_bestChain 35 = .ok (.aload_n 0, 1) := by decide +kernel
theorem d_rc_bestChain_36 : decode b_rc_bestChain 36 = .ok (.getfield 10, 3) := by decide +kernel
theorem d_rc_bestChain_39 : decode b_rc_bestChain 39 = .ok (.aload 4, 2) := by decide +kernel
theorem d_rc_bestChain_41 : decode b_rc_bestChain 41 = .ok (.iload_n 2, 1) := by decide +kernel
theorem d_rc_bestChain_42 : decode b_rc_bestChain 42 = .ok (.invokevirtual 249, 3) := by decide +kernel
theorem d_rc_bestChain_45 : decode b_rc_bestChain 45 = .ok (.aload_n 0, 1) := by decide +kernel
theorem d_rc_bestChain_46 : decode b_rc_bestChain 46 = .ok (.getfield 37, 3) := by decide +kernel
theorem d_rc_bestChain_49 : decode b_rc_bestChain 49 = .ok (.getfield 253, 3) := by decide +kernel
theorem d_rc_bestChain_52 : decode b_rc_bestChain 52 = .ok (.ifCond .ne 6, 3) := by decide +kernel
theorem d_rc_bestChain_55 : decode b_rc_bestChain 55 = .ok (.bipush (-9), 2) := by decide +kernel
theorem d_rc_bestChain_57 : decode b_rc_bestChain 57 = .ok (.ireturn, 1) := by decide +kernel
theorem d_rc_bestChain_58 : decode b_rc_bestChain 58 = .ok (.aload_n 0, 1) := by decide +kernel
theorem d_rc_bestChain_59 : decode b_rc_bestChain 59 = .ok (.getfield 37, 3) := by decide +kernel
theorem d_rc_bestChain_62 : decode b_rc_bestChain 62 = .ok (.invokevirtual 254, 3) := by decide +kernel
theorem d_rc_bestChain_65 : decode b_rc_bestChain 65 = .ok (.aload_n 0, 1) := by decide +kernel
theorem d_rc_bestChain_66 : decode b_rc_bestChain 66 = .ok (.getfield 37, 3) := by decide +kernel
theorem d_rc_bestChain_69 : decode b_rc_bestChain 69 = .ok (.getfield 257, 3) := by decide +kernel
theorem d_rc_bestChain_72 : decode b_rc_bestChain 72 = .ok (.iload_n 3, 1) := by decide +kernel
theorem d_rc_bestChain_73 : decode b_rc_bestChain 73 = .ok (.iaload, 1) := by decide +kernel
theorem d_rc_bestChain_74 : decode b_rc_bestChain 74 = .ok (.ireturn, 1) := by decide +kernel
theorem d_rc_chains_0 : decode b_rc_chains 0 = .ok (.aload_n 0, 1) := by decide +kernel
theorem d_rc_chains_1 : decode b_rc_chains 1 = .ok (.getfield 10, 3) := by decide +kernel
theorem d_rc_chains_4 : decode b_rc_chains 4 = .ok (.iload_n 1, 1) := by decide +kernel
theorem d_rc_chains_5 : decode b_rc_chains 5 = .ok (.invokevirtual 84, 3) := by decide +kernel
theorem d_rc_chains_8 : decode b_rc_chains 8 = .ok (.astore_n 2, 1) := by decide +kernel
theorem d_rc_chains_9 : decode b_rc_chains 9 = .ok (.aload_n 2, 1) := by decide +kernel
theorem d_rc_chains_10 : decode b_rc_chains 10 = .ok (.ifnonnull 7, 3) := by decide +kernel
theorem d_rc_chains_13 : decode b_rc_chains 13 = .ok (.iconst (-1), 1) := by decide +kernel
theorem d_rc_chains_14 : decode b_rc_chains 14 = .ok (.goto 7, 3) := by decide +kernel
theorem d_rc_chains_17 : decode b_rc_chains 17 = .ok (.aload_n 2, 1) := by decide +kernel
theorem d_rc_chains_18 : decode b_rc_chains 18 = .ok (.getfield 260, 3) := by decide +kernel
theorem d_rc_chains_21 : decode b_rc_chains 21 = .ok (.ireturn, 1) := by decide +kernel
theorem d_rc_sampled_0 : decode b_rc_sampled 0 = .ok (.aload_n 0, 1) := by decide +kernel
theorem d_rc_sampled_1 : decode b_rc_sampled 1 = .ok (.getfield 10, 3) := by decide +kernel
theorem d_rc_sampled_4 : decode b_rc_sampled 4 = .ok (.iload_n 1, 1) := by decide +kernel
theorem d_rc_sampled_5 : decode b_rc_sampled 5 = .ok (.invokevirtual 84, 3) := by decide +kernel
theorem d_rc_sampled_8 : decode b_rc_sampled 8 = .ok (.astore_n 2, 1) := by decide +kernel
theorem d_rc_sampled_9 : decode b_rc_sampled 9 = .ok (.aload_n 2, 1) := by decide +kernel
theorem d_rc_sampled_10 : decode b_rc_sampled 10 = .ok (.ifnonnull 7, 3) := by decide +kernel
theorem d_rc_sampled_13 : decode b_rc_sampled 13 = .ok (.iconst (-1), 1) := by decide +kernel
theorem d_rc_sampled_14 : decode b_rc_sampled 14 = .ok (.goto 7, 3) := by decide +kernel
theorem d_rc_sampled_17 : decode b_rc_sampled 17 = .ok (.aload_n 2, 1) := by decide +kernel
theorem d_rc_sampled_18 : decode b_rc_sampled 18 = .ok (.getfield 263, 3) := by decide +kernel
theorem d_rc_sampled_21 : decode b_rc_sampled 21 = .ok (.ireturn, 1) := by decide +kernel
theorem d_rc_delivered_0 : decode b_rc_delivered 0 = .ok (.aload_n 0, 1) := by decide +kernel
theorem d_rc_delivered_1 : decode b_rc_delivered 1 = .ok (.getfield 10, 3) := by decide +kernel
theorem d_rc_delivered_4 : decode b_rc_delivered 4 = .ok (.iload_n 1, 1) := by decide +kernel
theorem d_rc_delivered_5 : decode b_rc_delivered 5 = .ok (.invokevirtual 84, 3) := by decide +kernel
theorem d_rc_delivered_8 : decode b_rc_delivered 8 = .ok (.astore_n 2, 1) := by decide +kernel
theorem d_rc_delivered_9 : decode b_rc_delivered 9 = .ok (.aload_n 2, 1) := by decide +kernel
theorem d_rc_delivered_10 : decode b_rc_delivered 10 = .ok (.ifnonnull 7, 3) := by decide +kernel
theorem d_rc_delivered_13 : decode b_rc_delivered 13 = .ok (.iconst (-1), 1) := by decide +kernel
theorem d_rc_delivered_14 : decode b_rc_delivered 14 = .ok (.goto 7, 3) := by decide +kernel
theorem d_rc_delivered_17 : decode b_rc_delivered 17 = .ok (.aload_n 2, 1) := by decide +kernel
theorem d_rc_delivered_18 : decode b_rc_delivered 18 = .ok (.getfield 266, 3) := by decide +kernel
theorem d_rc_delivered_21 : decode b_rc_delivered 21 = .ok (.ireturn, 1) := by decide +kernel
theorem d_rc_lost_0 : decode b_rc_lost 0 = .ok (.aload_n 0, 1) := by decide +kernel
theorem d_rc_lost_1 : decode b_rc_lost 1 = .ok (.getfield 10, 3) := by decide +kernel
theorem d_rc_lost_4 : decode b_rc_lost 4 = .ok (.iload_n 1, 1) := by decide +kernel
theorem d_rc_lost_5 : decode b_rc_lost 5 = .ok (.invokevirtual 84, 3) := by decide +kernel
theorem d_rc_lost_8 : decode b_rc_lost 8 = .ok (.astore_n 2, 1) := by decide +kernel
theorem d_rc_lost_9 : decode b_rc_lost 9 = .ok (.aload_n 2, 1) := by decide +kernel
theorem d_rc_lost_10 : decode b_rc_lost 10 = .ok (.ifnonnull 7, 3) := by decide +kernel
theorem d_rc_lost_13 : decode b_rc_lost 13 = .ok (.iconst (-1), 1) := by decide +kernel
theorem d_rc_lost_14 : decode b_rc_lost 14 = .ok (.goto 7, 3) := by decide +kernel
theorem d_rc_lost_17 : decode b_rc_lost 17 = .ok (.aload_n 2, 1) := by decide +kernel
theorem d_rc_lost_18 : decode b_rc_lost 18 = .ok (.getfield 269, 3) := by decide +kernel
theorem d_rc_lost_21 : decode b_rc_lost 21 = .ok (.ireturn, 1) := by decide +kernel
theorem d_rc_queued_0 : decode b_rc_queued 0 = .ok (.aload_n 0, 1) := by decide +kernel
theorem d_rc_queued_1 : decode b_rc_queued 1 = .ok (.getfield 10, 3) := by decide +kernel
theorem d_rc_queued_4 : decode b_rc_queued 4 = .ok (.iload_n 1, 1) := by decide +kernel
theorem d_rc_queued_5 : decode b_rc_queued 5 = .ok (.invokevirtual 84, 3) := by decide +kernel
theorem d_rc_queued_8 : decode b_rc_queued 8 = .ok (.astore_n 2, 1) := by decide +kernel
theorem d_rc_queued_9 : decode b_rc_queued 9 = .ok (.aload_n 2, 1) := by decide +kernel
theorem d_rc_queued_10 : decode b_rc_queued 10 = .ok (.ifnonnull 7, 3) := by decide +kernel
theorem d_rc_queued_13 : decode b_rc_queued 13 = .ok (.iconst (-1), 1) := by decide +kernel
theorem d_rc_queued_14 : decode b_rc_queued 14 = .ok (.goto 7, 3) := by decide +kernel
theorem d_rc_queued_17 : decode b_rc_queued 17 = .ok (.aload_n 2, 1) := by decide +kernel
theorem d_rc_queued_18 : decode b_rc_queued 18 = .ok (.getfield 127, 3) := by decide +kernel
theorem d_rc_queued_21 : decode b_rc_queued 21 = .ok (.ireturn, 1) := by decide +kernel
theorem d_rc_deficit_0 : decode b_rc_deficit 0 = .ok (.aload_n 0, 1) := by decide +kernel
theorem d_rc_deficit_1 : decode b_rc_deficit 1 = .ok (.getfield 10, 3) := by decide +kernel
theorem d_rc_deficit_4 : decode b_rc_deficit 4 = .ok (.iload_n 1, 1) := by decide +kernel
theorem d_rc_deficit_5 : decode b_rc_deficit 5 = .ok (.invokevirtual 84, 3) := by decide +kernel
theorem d_rc_deficit_8 : decode b_rc_deficit 8 = .ok (.astore_n 2, 1) := by decide +kernel
theorem d_rc_deficit_9 : decode b_rc_deficit 9 = .ok (.aload_n 2, 1) := by decide +kernel
theorem d_rc_deficit_10 : decode b_rc_deficit 10 = .ok (.ifnonnull 9, 3) := by decide +kernel
theorem d_rc_deficit_13 : decode b_rc_deficit 13 = .ok (.ldc_w 272, 3) := by decide +kernel
theorem d_rc_deficit_16 : decode b_rc_deficit 16 = .ok (.goto 7, 3) := by decide +kernel
theorem d_rc_deficit_19 : decode b_rc_deficit 19 = .ok (.aload_n 2, 1) := by decide +kernel
theorem d_rc_deficit_20 : decode b_rc_deficit 20 = .ok (.getfield 273, 3) := by decide +kernel
theorem d_rc_deficit_23 : decode b_rc_deficit 23 = .ok (.ireturn, 1) := by decide +kernel
theorem d_rc_inFallback_0 : decode b_rc_inFallback 0 = .ok (.aload_n 0, 1) := by decide +kernel
theorem d_rc_inFallback_1 : decode b_rc_inFallback 1 = .ok (.getfield 10, 3) := by decide +kernel
theorem d_rc_inFallback_4 : decode b_rc_inFallback 4 = .ok (.iload_n 1, 1) := by decide +kernel
theorem d_rc_inFallback_5 : decode b_rc_inFallback 5 = .ok (.invokevirtual 84, 3) := by decide +kernel
theorem d_rc_inFallback_8 : decode b_rc_inFallback 8 = .ok (.astore_n 2, 1) := by decide +kernel
theorem d_rc_inFallback_9 : decode b_rc_inFallback 9 = .ok (.aload_n 2, 1) := by decide +kernel
theorem d_rc_inFallback_10 : decode b_rc_inFallback 10 = .ok (.ifnonnull 5, 3) := by decide +kernel
theorem d_rc_inFallback_13 : decode b_rc_inFallback 13 = .ok (.iconst (-1), 1) := by decide +kernel
theorem d_rc_inFallback_14 : decode b_rc_inFallback 14 = .ok (.ireturn, 1) := by decide +kernel
theorem d_rc_inFallback_15 : decode b_rc_inFallback 15 = .ok (.aload_n 2, 1) := by decide +kernel
theorem d_rc_inFallback_16 : decode b_rc_inFallback 16 = .ok (.getfield 276, 3) := by decide +kernel
theorem d_rc_inFallback_19 : decode b_rc_inFallback 19 = .ok (.ifCond .eq 7, 3) := by decide +kernel
theorem d_rc_inFallback_22 : decode b_rc_inFallback 22 = .ok (.iconst 1, 1) := by decide +kernel
theorem d_rc_inFallback_23 : decode b_rc_inFallback 23 = .ok (.goto 4, 3) := by decide +kernel
theorem d_rc_inFallback_26 : decode b_rc_inFallback 26 = .ok (.iconst 0, 1) := by decide +kernel
theorem d_rc_inFallback_27 : decode b_rc_inFallback 27 = .ok (.ireturn, 1) := by decide +kernel
theorem d_rc_time_0 : decode b_rc_time 0 = .ok (.aload_n 0, 1) := by decide +kernel
theorem d_rc_time_1 : decode b_rc_time 1 = .ok (.getfield 10, 3) := by decide +kernel
theorem d_rc_time_4 : decode b_rc_time 4 = .ok (.getfield 159, 3) := by decide +kernel
theorem d_rc_time_7 : decode b_rc_time 7 = .ok (.ireturn, 1) := by decide +kernel
theorem d_rc_setQuality_0 : decode b_rc_setQuality 0 = .ok (.aload_n 0, 1) := by decide +kernel
theorem d_rc_setQuality_1 : decode b_rc_setQuality 1 = .ok (.getfield 10, 3) := by decide +kernel
theorem d_rc_setQuality_4 : decode b_rc_setQuality 4 = .ok (.iload_n 1, 1) := by decide +kernel
theorem d_rc_setQuality_5 : decode b_rc_setQuality 5 = .ok (.iload_n 2, 1) := by decide +kernel
theorem d_rc_setQuality_6 : decode b_rc_setQuality 6 = .ok (.invokevirtual 88, 3) := by decide +kernel
theorem d_rc_setQuality_9 : decode b_rc_setQuality 9 = .ok (.astore 4, 2) := by decide +kernel
theorem d_rc_setQuality_11 : decode b_rc_setQuality 11 = .ok (.aload 4, 2) := by decide +kernel
theorem d_rc_setQuality_13 : decode b_rc_setQuality 13 = .ok (.ifnull 14, 3) := by decide +kernel
theorem d_rc_setQuality_16 : decode b_rc_setQuality 16 = .ok (.iload_n 3, 1) := by decide +kernel
theorem d_rc_setQuality_17 : decode b_rc_setQuality 17 = .ok (.ifCond .lt 10, 3) := by decide +kernel
theorem d_rc_setQuality_20 : decode b_rc_setQuality 20 = .ok (.iload_n 3, 1) := by decide +kernel
theorem d_rc_setQuality_21 : decode b_rc_setQuality 21 = .ok (.sipush 1000, 3) := by decide +kernel
theorem d_rc_setQuality_24 : decode b_rc_setQuality 24 = .ok (.if_icmp .le 5, 3) := by decide +kernel
theorem d_rc_setQuality_27 : decode b_rc_setQuality 27 = .ok (.iconst (-1), 1) := by decide +kernel
theorem d_rc_setQuality_28 : decode b_rc_setQuality 28 = .ok (.ireturn, 1) := by decide +kernel
theorem d_rc_setQuality_29 : decode b_rc_setQuality 29 = .ok (.aload_n 0, 1) := by decide +kernel
theorem d_rc_setQuality_30 : decode b_rc_setQuality 30 = .ok (.getfield 30, 3) := by decide +kernel
theorem d_rc_setQuality_33 : decode b_rc_setQuality 33 = .ok (.aload_n 0, 1) := by decide +kernel
theorem d_rc_setQuality_34 : decode b_rc_setQuality 34 = .ok (.getfield 10, 3) := by decide +kernel
theorem d_rc_setQuality_37 : decode b_rc_setQuality 37 = .ok (.invokevirtual 55, 3) := by decide +kernel
theorem d_rc_setQuality_40 : decode b_rc_setQuality 40 = .ok (.aload 4, 2) := by decide +kernel
theorem d_rc_setQuality_42 : decode b_rc_setQuality 42 = .ok (.getfield 279, 3) := by decide +kernel
theorem d_rc_setQuality_45 : decode b_rc_setQuality 45 = .ok (.istore 5, 2) := by decide +kernel
theorem d_rc_setQuality_47 : decode b_rc_setQuality 47 = .ok (.aload 4, 2) := by decide +kernel
theorem d_rc_setQuality_49 : decode b_rc_setQuality 49 = .ok (.iload_n 3, 1) := by decide +kernel
theorem d_rc_setQuality_50 : decode b_rc_setQuality 50 = .ok (.putfield 279, 3) := by decide +kernel
theorem d_rc_setQuality_53 : decode b_rc_setQuality 53 = .ok (.iload 5, 2) := by decide +kernel
theorem d_rc_setQuality_55 : decode b_rc_setQuality 55 = .ok (.ireturn, 1) := by decide +kernel
theorem d_rc_simulate_0 : decode b_rc_simulate 0 = .ok (.aload_n 0, 1) := by decide +kernel
theorem d_rc_simulate_1 : decode b_rc_simulate 1 = .ok (.iload_n 1, 1) := by decide +kernel
theorem d_rc_simulate_2 : decode b_rc_simulate 2 = .ok (.iload_n 2, 1) := by decide +kernel
theorem d_rc_simulate_3 : decode b_rc_simulate 3 = .ok (.iload_n 3, 1) := by decide +kernel
theorem d_rc_simulate_4 : decode b_rc_simulate 4 = .ok (.invokevirtual 282, 3) := by decide +kernel
theorem d_rc_simulate_7 : decode b_rc_simulate 7 = .ok (.istore 5, 2) := by decide +kernel
theorem d_rc_simulate_9 : decode b_rc_simulate 9 = .ok (.iload 5, 2) := by decide +kernel
theorem d_rc_simulate_11 : decode b_rc_simulate 11 = .ok (.ifCond .eq 6, 3) := by decide +kernel
theorem d_rc_simulate_14 : decode b_rc_simulate 14 = .ok (.iload 5, 2) := by decide +kernel
theorem d_rc_simulate_16 : decode b_rc_simulate 16 = .ok (.ireturn, 1) := by decide +kernel
theorem d_rc_simulate_17 : decode b_rc_simulate 17 = .ok (.aload_n 0, 1) := by decide +kernel
theorem d_rc_simulate_18 : decode b_rc_simulate 18 = .ok (.getfield 30, 3) := by decide +kernel
theorem d_rc_simulate_21 : decode b_rc_simulate 21 = .ok (.aload_n 0, 1) := by decide +kernel
theorem d_rc_simulate_22 : decode b_rc_simulate 22 = .ok (.getfield 10, 3) := by decide +kernel
theorem d_rc_simulate_25 : decode b_rc_simulate 25 = .ok (.invokevirtual 55, 3) := by decide +kernel
theorem d_rc_simulate_28 : decode b_rc_simulate 28 = .ok (.aload_n 0, 1) := by decide +kernel
theorem d_rc_simulate_29 : decode b_rc_simulate 29 = .ok (.getfield 10, 3) := by decide +kernel
theorem d_rc_simulate_32 : decode b_rc_simulate 32 = .ok (.iload_n 1, 1) := by decide +kernel
theorem d_rc_simulate_33 : decode b_rc_simulate 33 = .ok (.iload_n 2, 1) := by decide +kernel
theorem d_rc_simulate_34 : decode b_rc_simulate 34 = .ok (.iload_n 3, 1) := by decide +kernel
theorem d_rc_simulate_35 : decode b_rc_simulate 35 = .ok (.iload 4, 2) := by decide +kernel
theorem d_rc_simulate_37 : decode b_rc_simulate 37 = .ok (.invokevirtual 286, 3) := by decide +kernel
theorem d_rc_simulate_40 : decode b_rc_simulate 40 = .ok (.ireturn, 1) := by decide +kernel
theorem d_rc_forecast_0 : decode b_rc_forecast 0 = .ok (.aload_n 0, 1) := by decide +kernel
theorem d_rc_forecast_1 : decode b_rc_forecast 1 = .ok (.iload_n 1, 1) := by decide +kernel
theorem d_rc_forecast_2 : decode b_rc_forecast 2 = .ok (.iload_n 2, 1) := by decide +kernel
theorem d_rc_forecast_3 : decode b_rc_forecast 3 = .ok (.iload_n 3, 1) := by decide +kernel
theorem d_rc_forecast_4 : decode b_rc_forecast 4 = .ok (.invokevirtual 282, 3) := by decide +kernel
theorem d_rc_forecast_7 : decode b_rc_forecast 7 = .ok (.istore 5, 2) := by decide +kernel
theorem d_rc_forecast_9 : decode b_rc_forecast 9 = .ok (.iload 5, 2) := by decide +kernel
theorem d_rc_forecast_11 : decode b_rc_forecast 11 = .ok (.ifCond .eq 6, 3) := by decide +kernel
theorem d_rc_forecast_14 : decode b_rc_forecast 14 = .ok (.iload 5, 2) := by decide +kernel
theorem d_rc_forecast_16 : decode b_rc_forecast 16 = .ok (.ireturn, 1) := by decide +kernel
theorem d_rc_forecast_17 : decode b_rc_forecast 17 = .ok (.aload_n 0, 1) := by decide +kernel
theorem d_rc_forecast_18 : decode b_rc_forecast 18 = .ok (.getfield 16, 3) := by decide +kernel
theorem d_rc_forecast_21 : decode b_rc_forecast 21 = .ok (.aload_n 0, 1) := by decide +kernel
theorem d_rc_forecast_22 : decode b_rc_forecast 22 = .ok (.getfield 10, 3) := by decide +kernel
theorem d_rc_forecast_25 : decode b_rc_forecast 25 = .ok (.invokevirtual 290, 3) := by decide +kernel
theorem d_rc_forecast_28 : decode b_rc_forecast 28 = .ok (.aload_n 0, 1) := by decide +kernel
theorem d_rc_forecast_29 : decode b_rc_forecast 29 = .ok (.getfield 16, 3) := by decide +kernel
theorem d_rc_forecast_32 : decode b_rc_forecast 32 = .ok (.iload_n 1, 1) := by decide +kernel
theorem d_rc_forecast_33 : decode b_rc_forecast 33 = .ok (.iload_n 2, 1) := by decide +kernel
theorem d_rc_forecast_34 : decode b_rc_forecast 34 = .ok (.iload_n 3, 1) := by decide +kernel
theorem d_rc_forecast_35 : decode b_rc_forecast 35 = .ok (.iload 4, 2) := by decide +kernel
theorem d_rc_forecast_37 : decode b_rc_forecast 37 = .ok (.invokevirtual 286, 3) := by decide +kernel
theorem d_rc_forecast_40 : decode b_rc_forecast 40 = .ok (.ireturn, 1) := by decide +kernel
theorem d_rc_oracle_0 : decode b_rc_oracle 0 = .ok (.aload_n 0, 1) := by decide +kernel
theorem d_rc_oracle_1 : decode b_rc_oracle 1 = .ok (.getfield 10, 3) := by decide +kernel
theorem d_rc_oracle_4 : decode b_rc_oracle 4 = .ok (.iload_n 1, 1) := by decide +kernel
theorem d_rc_oracle_5 : decode b_rc_oracle 5 = .ok (.invokevirtual 84, 3) := by decide +kernel
theorem d_rc_oracle_8 : decode b_rc_oracle 8 = .ok (.astore_n 3, 1) := by decide +kernel
theorem d_rc_oracle_9 : decode b_rc_oracle 9 = .ok (.aload_n 3, 1) := by decide +kernel
theorem d_rc_oracle_10 : decode b_rc_oracle 10 = .ok (.ifnull 10, 3) := by decide +kernel
theorem d_rc_oracle_13 : decode b_rc_oracle 13 = .ok (.iload_n 2, 1) := by decide +kernel
theorem d_rc_oracle_14 : decode b_rc_oracle 14 = .ok (.invokestatic 112, 3) := by decide +kernel
theorem d_rc_oracle_17 : decode b_rc_oracle 17 = .ok (.ifCond .ne 5, 3) := by decide +kernel
theorem d_rc_oracle_20 : decode b_rc_oracle 20 = .ok (.iconst (-1), 1) := by decide +kernel
theorem d_rc_oracle_21 : decode b_rc_oracle 21 = .ok (.ireturn, 1) := by decide +kernel
theorem d_rc_oracle_22 : decode b_rc_oracle 22 = .ok (.aload_n 3, 1) := by decide +kernel
theorem d_rc_oracle_23 : decode b_rc_oracle 23 = .ok (.aload_n 0, 1) := by decide +kernel
theorem d_rc_oracle_24 : decode b_rc_oracle 24 = .ok (.getfield 10, 3) := by decide +kernel
theorem d_rc_oracle_27 : decode b_rc_oracle 27 = .ok (.getfield 45, 3) := by decide +kernel
theorem d_rc_oracle_30 : decode b_rc_oracle 30 = .ok (.iload_n 2, 1) := by decide +kernel
theorem d_rc_oracle_31 : decode b_rc_oracle 31 = .ok (.invokevirtual 293, 3) := by decide +kernel
theorem d_rc_oracle_34 : decode b_rc_oracle 34 = .ok (.ireturn, 1) := by decide +kernel
theorem d_rc_events_0 : decode b_rc_events 0 = .ok (.aload_n 0, 1) := by decide +kernel
theorem d_rc_events_1 : decode b_rc_events 1 = .ok (.getfield 10, 3) := by decide +kernel
theorem d_rc_events_4 : decode b_rc_events 4 = .ok (.getfield 296, 3) := by decide +kernel
theorem d_rc_events_7 : decode b_rc_events 7 = .ok (.getfield 300, 3) := by decide +kernel
theorem d_rc_events_10 : decode b_rc_events 10 = .ok (.ireturn, 1) := by decide +kernel
theorem d_rc_eventKind_0 : decode b_rc_eventKind 0 = .ok (.aload_n 0, 1) := by decide +kernel
theorem d_rc_eventKind_1 : decode b_rc_eventKind 1 = .ok (.getfield 10, 3) := by decide +kernel
theorem d_rc_eventKind_4 : decode b_rc_eventKind 4 = .ok (.getfield 296, 3) := by decide +kernel
theorem d_rc_eventKind_7 : decode b_rc_eventKind 7 = .ok (.iconst 0, 1) := by decide +kernel
theorem d_rc_eventKind_8 : decode b_rc_eventKind 8 = .ok (.iload_n 1, 1) := by decide +kernel
theorem d_rc_eventKind_9 : decode b_rc_eventKind 9 = .ok (.invokevirtual 305, 3) := by decide +kernel
theorem d_rc_eventKind_12 : decode b_rc_eventKind 12 = .ok (.ireturn, 1) := by decide +kernel
theorem d_rc_eventStation_0 : decode b_rc_eventStation 0 = .ok (.aload_n 0, 1) := by decide +kernel
theorem d_rc_eventStation_1 : decode b_rc_eventStation 1 = .ok (.getfield 10, 3) := by decide +kernel
theorem d_rc_eventStation_4 : decode b_rc_eventStation 4 = .ok (.getfield 296, 3) := by decide +kernel
theorem d_rc_eventStation_7 : decode b_rc_eventStation 7 = .ok (.iconst 1, 1) := by decide +kernel
theorem d_rc_eventStation_8 : decode b_rc_eventStation 8 = .ok (.iload_n 1, 1) := by decide +kernel
theorem d_rc_eventStation_9 : decode b_rc_eventStation 9 = .ok (.invokevirtual 305, 3) := by decide +kernel
theorem d_rc_eventStation_12 : decode b_rc_eventStation 12 = .ok (.ireturn, 1) := by decide +kernel
theorem d_rc_eventRate_0 : decode b_rc_eventRate 0 = .ok (.aload_n 0, 1) := by decide +kernel
theorem d_rc_eventRate_1 : decode b_rc_eventRate 1 = .ok (.getfield 10, 3) := by decide +kernel
theorem d_rc_eventRate_4 : decode b_rc_eventRate 4 = .ok (.getfield 296, 3) := by decide +kernel
theorem d_rc_eventRate_7 : decode b_rc_eventRate 7 = .ok (.iconst 2, 1) := by decide +kernel
theorem d_rc_eventRate_8 : decode b_rc_eventRate 8 = .ok (.iload_n 1, 1) := by decide +kernel
theorem d_rc_eventRate_9 : decode b_rc_eventRate 9 = .ok (.invokevirtual 305, 3) := by decide +kernel
theorem d_rc_eventRate_12 : decode b_rc_eventRate 12 = .ok (.ireturn, 1) := by decide +kernel
theorem d_rc_eventTime_0 : decode b_rc_eventTime 0 = .ok (.aload_n 0, 1) := by decide +kernel
theorem d_rc_eventTime_1 : decode b_rc_eventTime 1 = .ok (.getfield 10, 3) := by decide +kernel
theorem d_rc_eventTime_4 : decode b_rc_eventTime 4 = .ok (.getfield 296, 3) := by decide +kernel
theorem d_rc_eventTime_7 : decode b_rc_eventTime 7 = .ok (.iconst 3, 1) := by decide +kernel
theorem d_rc_eventTime_8 : decode b_rc_eventTime 8 = .ok (.iload_n 1, 1) := by decide +kernel
theorem d_rc_eventTime_9 : decode b_rc_eventTime 9 = .ok (.invokevirtual 305, 3) := by decide +kernel
theorem d_rc_eventTime_12 : decode b_rc_eventTime 12 = .ok (.ireturn, 1) := by decide +kernel
theorem d_rc_save_0 : decode b_rc_save 0 = .ok (.iload_n 1, 1) := by decide +kernel
theorem d_rc_save_1 : decode b_rc_save 1 = .ok (.ifCond .lt 8, 3) := by decide +kernel
theorem d_rc_save_4 : decode b_rc_save 4 = .ok (.iload_n 1, 1) := by decide +kernel
theorem d_rc_save_5 : decode b_rc_save 5 = .ok (.iconst 2, 1) := by decide +kernel
theorem d_rc_save_6 : decode b_rc_save 6 = .ok (.if_icmp .lt 5, 3) := by decide +kernel
theorem d_rc_save_9 : decode b_rc_save 9 = .ok (.iconst (-1), 1) := by decide +kernel
theorem d_rc_save_10 : decode b_rc_save 10 = .ok (.ireturn, 1) := by decide +kernel
theorem d_rc_save_11 : decode b_rc_save 11 = .ok (.aload_n 0, 1) := by decide +kernel
theorem d_rc_save_12 : decode b_rc_save 12 = .ok (.getfield 19, 3) := by decide +kernel
theorem d_rc_save_15 : decode b_rc_save 15 = .ok (.iload_n 1, 1) := by decide +kernel
theorem d_rc_save_16 : decode b_rc_save 16 = .ok (.aaload, 1) := by decide +kernel
theorem d_rc_save_17 : decode b_rc_save 17 = .ok (.aload_n 0, 1) := by decide +kernel
theorem d_rc_save_18 : decode b_rc_save 18 = .ok (.getfield 10, 3) := by decide +kernel
theorem d_rc_save_21 : decode b_rc_save 21 = .ok (.invokevirtual 290, 3) := by decide +kernel
theorem d_rc_save_24 : decode b_rc_save 24 = .ok (.aload_n 0, 1) := by decide +kernel
theorem d_rc_save_25 : decode b_rc_save 25 = .ok (.getfield 23, 3) := by decide +kernel
theorem d_rc_save_28 : decode b_rc_save 28 = .ok (.iload_n 1, 1) := by decide +kernel
theorem d_rc_save_29 : decode b_rc_save 29 = .ok (.iconst 1, 1) := by decide +kernel
theorem d_rc_save_30 : decode b_rc_save 30 = .ok (.bastore, 1) := by decide +kernel
theorem d_rc_save_31 : decode b_rc_save 31 = .ok (.aload_n 0, 1) := by decide +kernel
theorem d_rc_save_32 : decode b_rc_save 32 = .ok (.getfield 10, 3) := by decide +kernel
theorem d_rc_save_35 : decode b_rc_save 35 = .ok (.getfield 159, 3) := by decide +kernel
theorem d_rc_save_38 : decode b_rc_save 38 = .ok (.ireturn, 1) := by decide +kernel
theorem d_rc_restore_0 : decode b_rc_restore 0 = .ok (.iload_n 1, 1) := by decide +kernel
theorem d_rc_restore_1 : decode b_rc_restore 1 = .ok (.ifCond .lt 8, 3) := by decide +kernel
theorem d_rc_restore_4 : decode b_rc_restore 4 = .ok (.iload_n 1, 1) := by decide +kernel
theorem d_rc_restore_5 : decode b_rc_restore 5 = .ok (.iconst 2, 1) := by decide +kernel
theorem d_rc_restore_6 : decode b_rc_restore 6 = .ok (.if_icmp .lt 5, 3) := by decide +kernel
theorem d_rc_restore_9 : decode b_rc_restore 9 = .ok (.iconst (-1), 1) := by decide +kernel
theorem d_rc_restore_10 : decode b_rc_restore 10 = .ok (.ireturn, 1) := by decide +kernel
theorem d_rc_restore_11 : decode b_rc_restore 11 = .ok (.aload_n 0, 1) := by decide +kernel
theorem d_rc_restore_12 : decode b_rc_restore 12 = .ok (.getfield 23, 3) := by decide +kernel
theorem d_rc_restore_15 : decode b_rc_restore 15 = .ok (.iload_n 1, 1) := by decide +kernel
theorem d_rc_restore_16 : decode b_rc_restore 16 = .ok (.baload, 1) := by decide +kernel
theorem d_rc_restore_17 : decode b_rc_restore 17 = .ok (.ifCond .ne 6, 3) := by decide +kernel
theorem d_rc_restore_20 : decode b_rc_restore 20 = .ok (.bipush (-2), 2) := by decide +kernel
theorem d_rc_restore_22 : decode b_rc_restore 22 = .ok (.ireturn, 1) := by decide +kernel
theorem d_rc_restore_23 : decode b_rc_restore 23 = .ok (.aload_n 0, 1) := by decide +kernel
theorem d_rc_restore_24 : decode b_rc_restore 24 = .ok (.getfield 10, 3) := by decide +kernel
theorem d_rc_restore_27 : decode b_rc_restore 27 = .ok (.aload_n 0, 1) := by decide +kernel
theorem d_rc_restore_28 : decode b_rc_restore 28 = .ok (.getfield 19, 3) := by decide +kernel
theorem d_rc_restore_31 : decode b_rc_restore 31 = .ok (.iload_n 1, 1) := by decide +kernel
theorem d_rc_restore_32 : decode b_rc_restore 32 = .ok (.aaload, 1) := by decide +kernel
theorem d_rc_restore_33 : decode b_rc_restore 33 = .ok (.invokevirtual 290, 3) := by decide +kernel
theorem d_rc_restore_36 : decode b_rc_restore 36 = .ok (.aload_n 0, 1) := by decide +kernel
theorem d_rc_restore_37 : decode b_rc_restore 37 = .ok (.getfield 30, 3) := by decide +kernel
theorem d_rc_restore_40 : decode b_rc_restore 40 = .ok (.iconst 0, 1) := by decide +kernel
theorem d_rc_restore_41 : decode b_rc_restore 41 = .ok (.putfield 308, 3) := by decide +kernel
theorem d_rc_restore_44 : decode b_rc_restore 44 = .ok (.aload_n 0, 1) := by decide +kernel
theorem d_rc_restore_45 : decode b_rc_restore 45 = .ok (.getfield 10, 3) := by decide +kernel
theorem d_rc_restore_48 : decode b_rc_restore 48 = .ok (.getfield 159, 3) := by decide +kernel
theorem d_rc_restore_51 : decode b_rc_restore 51 = .ok (.ireturn, 1) := by decide +kernel
theorem d_rc_undo_0 : decode b_rc_undo 0 = .ok (.aload_n 0, 1) := by decide +kernel
theorem d_rc_undo_1 : decode b_rc_undo 1 = .ok (.getfield 30, 3) := by decide +kernel
theorem d_rc_undo_4 : decode b_rc_undo 4 = .ok (.getfield 308, 3) := by decide +kernel
theorem d_rc_undo_7 : decode b_rc_undo 7 = .ok (.ifCond .gt 6, 3) := by decide +kernel
theorem d_rc_undo_10 : decode b_rc_undo 10 = .ok (.bipush (-2), 2) := by decide +kernel
theorem d_rc_undo_12 : decode b_rc_undo 12 = .ok (.ireturn, 1) := by decide +kernel
theorem d_rc_undo_13 : decode b_rc_undo 13 = .ok (.aload_n 0, 1) := by decide +kernel
theorem d_rc_undo_14 : decode b_rc_undo 14 = .ok (.getfield 30, 3) := by decide +kernel
theorem d_rc_undo_17 : decode b_rc_undo 17 = .ok (.aload_n 0, 1) := by decide +kernel
theorem d_rc_undo_18 : decode b_rc_undo 18 = .ok (.getfield 10, 3) := by decide +kernel
theorem d_rc_undo_21 : decode b_rc_undo 21 = .ok (.invokevirtual 309, 3) := by decide +kernel
theorem d_rc_undo_24 : decode b_rc_undo 24 = .ok (.aload_n 0, 1) := by decide +kernel
theorem d_rc_undo_25 : decode b_rc_undo 25 = .ok (.getfield 30, 3) := by decide +kernel
theorem d_rc_undo_28 : decode b_rc_undo 28 = .ok (.getfield 308, 3) := by decide +kernel
theorem d_rc_undo_31 : decode b_rc_undo 31 = .ok (.ireturn, 1) := by decide +kernel
theorem d_rc_digest_0 : decode b_rc_digest 0 = .ok (.ldc2_w 312, 3) := by decide +kernel
theorem d_rc_digest_3 : decode b_rc_digest 3 = .ok (.aload_n 0, 1) := by decide +kernel
theorem d_rc_digest_4 : decode b_rc_digest 4 = .ok (.invokevirtual 314, 3) := by decide +kernel
theorem d_rc_digest_7 : decode b_rc_digest 7 = .ok (.i2l, 1) := by decide +kernel
theorem d_rc_digest_8 : decode b_rc_digest 8 = .ok (.ladd, 1) := by decide +kernel
theorem d_rc_digest_9 : decode b_rc_digest 9 = .ok (.lstore_n 1, 1) := by decide +kernel
theorem d_rc_digest_10 : decode b_rc_digest 10 = .ok (.ldc2_w 316, 3) := by decide +kernel
theorem d_rc_digest_13 : decode b_rc_digest 13 = .ok (.lload_n 1, 1) := by decide +kernel
theorem d_rc_digest_14 : decode b_rc_digest 14 = .ok (.lmul, 1) := by decide +kernel
theorem d_rc_digest_15 : decode b_rc_digest 15 = .ok (.aload_n 0, 1) := by decide +kernel
theorem d_rc_digest_16 : decode b_rc_digest 16 = .ok (.invokevirtual 318, 3) := by decide +kernel
theorem d_rc_digest_19 : decode b_rc_digest 19 = .ok (.i2l, 1) := by decide +kernel
theorem d_rc_digest_20 : decode b_rc_digest 20 = .ok (.ladd, 1) := by decide +kernel
theorem d_rc_digest_21 : decode b_rc_digest 21 = .ok (.lstore_n 1, 1) := by decide +kernel
theorem d_rc_digest_22 : decode b_rc_digest 22 = .ok (.iconst 0, 1) := by decide +kernel
theorem d_rc_digest_23 : decode b_rc_digest 23 = .ok (.istore_n 3, 1) := by decide +kernel
theorem d_rc_digest_24 : decode b_rc_digest 24 = .ok (.iload_n 3, 1) := by decide +kernel
theorem d_rc_digest_25 : decode b_rc_digest 25 = .ok (.aload_n 0, 1) := by decide +kernel
theorem d_rc_digest_26 : decode b_rc_digest 26 = .ok (.getfield 10, 3) := by decide +kernel
theorem d_rc_digest_29 : decode b_rc_digest 29 = .ok (.getfield 63, 3) := by decide +kernel
theorem d_rc_digest_32 : decode b_rc_digest 32 = .ok (.if_icmp .ge 16, 3) := by decide +kernel
theorem d_rc_digest_35 : decode b_rc_digest 35 = .ok (.aload_n 0, 1) := by decide +kernel
theorem d_rc_digest_36 : decode b_rc_digest 36 = .ok (.lload_n 1, 1) := by decide +kernel
theorem d_rc_digest_37 : decode b_rc_digest 37 = .ok (.iload_n 3, 1) := by decide +kernel
theorem d_rc_digest_38 : decode b_rc_digest 38 = .ok (.invokevirtual 321, 3) := by decide +kernel
theorem d_rc_digest_41 : decode b_rc_digest 41 = .ok (.lstore_n 1, 1) := by decide +kernel
theorem d_rc_digest_42 : decode b_rc_digest 42 = .ok (.iinc 3 1, 3) := by decide +kernel
theorem d_rc_digest_45 : decode b_rc_digest 45 = .ok (.goto (-21), 3) := by decide +kernel
theorem d_rc_digest_48 : decode b_rc_digest 48 = .ok (.iconst 0, 1) := by decide +kernel
theorem d_rc_digest_49 : decode b_rc_digest 49 = .ok (.istore_n 3, 1) := by decide +kernel
theorem d_rc_digest_50 : decode b_rc_digest 50 = .ok (.iload_n 3, 1) := by decide +kernel
theorem d_rc_digest_51 : decode b_rc_digest 51 = .ok (.bipush 6, 2) := by decide +kernel
theorem d_rc_digest_53 : decode b_rc_digest 53 = .ok (.if_icmp .ge 22, 3) := by decide +kernel
theorem d_rc_digest_56 : decode b_rc_digest 56 = .ok (.ldc2_w 316, 3) := by decide +kernel
theorem d_rc_digest_59 : decode b_rc_digest 59 = .ok (.lload_n 1, 1) := by decide +kernel
theorem d_rc_digest_60 : decode b_rc_digest 60 = .ok (.lmul, 1) := by decide +kernel
theorem d_rc_digest_61 : decode b_rc_digest 61 = .ok (.aload_n 0, 1) := by decide +kernel
theorem d_rc_digest_62 : decode b_rc_digest 62 = .ok (.iload_n 3, 1) := by decide +kernel
theorem d_rc_digest_63 : decode b_rc_digest 63 = .ok (.invokevirtual 325, 3) := by decide +kernel
theorem d_rc_digest_66 : decode b_rc_digest 66 = .ok (.i2l, 1) := by decide +kernel
theorem d_rc_digest_67 : decode b_rc_digest 67 = .ok (.ladd, 1) := by decide +kernel
theorem d_rc_digest_68 : decode b_rc_digest 68 = .ok (.lstore_n 1, 1) := by decide +kernel
theorem d_rc_digest_69 : decode b_rc_digest 69 = .ok (.iinc 3 1, 3) := by decide +kernel
theorem d_rc_digest_72 : decode b_rc_digest 72 = .ok (.goto (-22), 3) := by decide +kernel
theorem d_rc_digest_75 : decode b_rc_digest 75 = .ok (.lload_n 1, 1) := by decide +kernel
theorem d_rc_digest_76 : decode b_rc_digest 76 = .ok (.lreturn, 1) := by decide +kernel
theorem d_rc_digestOfStation_0 : decode b_rc_digestOfStation 0 = .ok (.lload_n 1, 1) := by decide +kernel
theorem d_rc_digestOfStation_1 : decode b_rc_digestOfStation 1 = .ok (.lstore 4, 2) := by decide +kernel
theorem d_rc_digestOfStation_3 : decode b_rc_digestOfStation 3 = .ok (.ldc2_w 316, 3) := by decide +kernel
theorem d_rc_digestOfStation_6 : decode b_rc_digestOfStation 6 = .ok (.lload 4, 2) := by decide +kernel
theorem d_rc_digestOfStation_8 : decode b_rc_digestOfStation 8 = .ok (.lmul, 1) := by decide +kernel
theorem d_rc_digestOfStation_9 : decode b_rc_digestOfStation 9 = .ok (.aload_n 0, 1) := by decide +kernel
theorem d_rc_digestOfStation_10 : decode b_rc_digestOfStation 10 = .ok (.iload_n 3, 1) := by decide +kernel
theorem d_rc_digestOfStation_11 : decode b_rc_digestOfStation 11 = .ok (.invokevirtual 327, 3) := by decide +kernel
theorem d_rc_digestOfStation_14 : decode b_rc_digestOfStation 14 = .ok (.i2l, 1) := by decide +kernel
theorem d_rc_digestOfStation_15 : decode b_rc_digestOfStation 15 = .ok (.ladd, 1) := by decide +kernel
theorem d_rc_digestOfStation_16 : decode b_rc_digestOfStation 16 = .ok (.lstore 4, 2) := by decide +kernel
theorem d_rc_digestOfStation_18 : decode b_rc_digestOfStation 18 = .ok (.ldc2_w 316, 3) := by decide +kernel
theorem d_rc_digestOfStation_21 : decode b_rc_digestOfStation 21 = .ok (.lload 4, 2) := by decide +kernel
theorem d_rc_digestOfStation_23 : decode b_rc_digestOfStation 23 = .ok (.lmul, 1) := by decide +kernel
theorem d_rc_digestOfStation_24 : decode b_rc_digestOfStation 24 = .ok (.aload_n 0, 1) := by decide +kernel
theorem d_rc_digestOfStation_25 : decode b_rc_digestOfStation 25 = .ok (.iload_n 3, 1) := by decide +kernel
theorem d_rc_digestOfStation_26 : decode b_rc_digestOfStation 26 = .ok (.invokevirtual 329, 3) := by decide +kernel
theorem d_rc_digestOfStation_29 : decode b_rc_digestOfStation 29 = .ok (.i2l, 1) := by decide +kernel
theorem d_rc_digestOfStation_30 : decode b_rc_digestOfStation 30 = .ok (.ladd, 1) := by decide +kernel
theorem d_rc_digestOfStation_31 : decode b_rc_digestOfStation 31 = .ok (.lstore 4, 2) := by decide +kernel
theorem d_rc_digestOfStation_33 : decode b_rc_digestOfStation 33 = .ok (.ldc2_w 316, 3) := by decide +kernel
theorem d_rc_digestOfStation_36 : decode b_rc_digestOfStation 36 = .ok (.lload 4, 2) := by decide +kernel
theorem d_rc_digestOfStation_38 : decode b_rc_digestOfStation 38 = .ok (.lmul, 1) := by decide +kernel
theorem d_rc_digestOfStation_39 : decode b_rc_digestOfStation 39 = .ok (.aload_n 0, 1) := by decide +kernel
theorem d_rc_digestOfStation_40 : decode b_rc_digestOfStation 40 = .ok (.iload_n 3, 1) := by decide +kernel
theorem d_rc_digestOfStation_41 : decode b_rc_digestOfStation 41 = .ok (.invokevirtual 331, 3) := by decide +kernel
theorem d_rc_digestOfStation_44 : decode b_rc_digestOfStation 44 = .ok (.i2l, 1) := by decide +kernel
theorem d_rc_digestOfStation_45 : decode b_rc_digestOfStation 45 = .ok (.ladd, 1) := by decide +kernel
theorem d_rc_digestOfStation_46 : decode b_rc_digestOfStation 46 = .ok (.lstore 4, 2) := by decide +kernel
theorem d_rc_digestOfStation_48 : decode b_rc_digestOfStation 48 = .ok (.ldc2_w 316, 3) := by decide +kernel
theorem d_rc_digestOfStation_51 : decode b_rc_digestOfStation 51 = .ok (.lload 4, 2) := by decide +kernel
theorem d_rc_digestOfStation_53 : decode b_rc_digestOfStation 53 = .ok (.lmul, 1) := by decide +kernel
theorem d_rc_digestOfStation_54 : decode b_rc_digestOfStation 54 = .ok (.aload_n 0, 1) := by decide +kernel
theorem d_rc_digestOfStation_55 : decode b_rc_digestOfStation 55 = .ok (.iload_n 3, 1) := by decide +kernel
theorem d_rc_digestOfStation_56 : decode b_rc_digestOfStation 56 = .ok (.invokevirtual 333, 3) := by decide +kernel
theorem d_rc_digestOfStation_59 : decode b_rc_digestOfStation 59 = .ok (.i2l, 1) := by decide +kernel
theorem d_rc_digestOfStation_60 : decode b_rc_digestOfStation 60 = .ok (.ladd, 1) := by decide +kernel
theorem d_rc_digestOfStation_61 : decode b_rc_digestOfStation 61 = .ok (.lstore 4, 2) := by decide +kernel
theorem d_rc_digestOfStation_63 : decode b_rc_digestOfStation 63 = .ok (.ldc2_w 316, 3) := by decide +kernel
theorem d_rc_digestOfStation_66 : decode b_rc_digestOfStation 66 = .ok (.lload 4, 2) := by decide +kernel
theorem d_rc_digestOfStation_68 : decode b_rc_digestOfStation 68 = .ok (.lmul, 1) := by decide +kernel
theorem d_rc_digestOfStation_69 : decode b_rc_digestOfStation 69 = .ok (.aload_n 0, 1) := by decide +kernel
theorem d_rc_digestOfStation_70 : decode b_rc_digestOfStation 70 = .ok (.iload_n 3, 1) := by decide +kernel
theorem d_rc_digestOfStation_71 : decode b_rc_digestOfStation 71 = .ok (.invokevirtual 335, 3) := by decide +kernel
theorem d_rc_digestOfStation_74 : decode b_rc_digestOfStation 74 = .ok (.i2l, 1) := by decide +kernel
theorem d_rc_digestOfStation_75 : decode b_rc_digestOfStation 75 = .ok (.ladd, 1) := by decide +kernel
theorem d_rc_digestOfStation_76 : decode b_rc_digestOfStation 76 = .ok (.lstore 4, 2) := by decide +kernel
theorem d_rc_digestOfStation_78 : decode b_rc_digestOfStation 78 = .ok (.ldc2_w 316, 3) := by decide +kernel
theorem d_rc_digestOfStation_81 : decode b_rc_digestOfStation 81 = .ok (.lload 4, 2) := by decide +kernel
theorem d_rc_digestOfStation_83 : decode b_rc_digestOfStation 83 = .ok (.lmul, 1) := by decide +kernel
theorem d_rc_digestOfStation_84 : decode b_rc_digestOfStation 84 = .ok (.aload_n 0, 1) := by decide +kernel
theorem d_rc_digestOfStation_85 : decode b_rc_digestOfStation 85 = .ok (.iload_n 3, 1) := by decide +kernel
theorem d_rc_digestOfStation_86 : decode b_rc_digestOfStation 86 = .ok (.invokevirtual 338, 3) := by decide +kernel
theorem d_rc_digestOfStation_89 : decode b_rc_digestOfStation 89 = .ok (.i2l, 1) := by decide +kernel
theorem d_rc_digestOfStation_90 : decode b_rc_digestOfStation 90 = .ok (.ladd, 1) := by decide +kernel
theorem d_rc_digestOfStation_91 : decode b_rc_digestOfStation 91 = .ok (.lstore 4, 2) := by decide +kernel
theorem d_rc_digestOfStation_93 : decode b_rc_digestOfStation 93 = .ok (.ldc2_w 316, 3) := by decide +kernel
theorem d_rc_digestOfStation_96 : decode b_rc_digestOfStation 96 = .ok (.lload 4, 2) := by decide +kernel
theorem d_rc_digestOfStation_98 : decode b_rc_digestOfStation 98 = .ok (.lmul, 1) := by decide +kernel
theorem d_rc_digestOfStation_99 : decode b_rc_digestOfStation 99 = .ok (.aload_n 0, 1) := by decide +kernel
theorem d_rc_digestOfStation_100 : decode b_rc_digestOfStation 100 = .ok (.iload_n 3, 1) := by decide +kernel
theorem d_rc_digestOfStation_101 : decode b_rc_digestOfStation 101 = .ok (.invokevirtual 340, 3) := by decide +kernel
theorem d_rc_digestOfStation_104 : decode b_rc_digestOfStation 104 = .ok (.i2l, 1) := by decide +kernel
theorem d_rc_digestOfStation_105 : decode b_rc_digestOfStation 105 = .ok (.ladd, 1) := by decide +kernel
theorem d_rc_digestOfStation_106 : decode b_rc_digestOfStation 106 = .ok (.lstore 4, 2) := by decide +kernel
theorem d_rc_digestOfStation_108 : decode b_rc_digestOfStation 108 = .ok (.iconst 0, 1) := by decide +kernel
theorem d_rc_digestOfStation_109 : decode b_rc_digestOfStation 109 = .ok (.istore 6, 2) := by decide +kernel
theorem d_rc_digestOfStation_111 : decode b_rc_digestOfStation 111 = .ok (.iload 6, 2) := by decide +kernel
theorem d_rc_digestOfStation_113 : decode b_rc_digestOfStation 113 = .ok (.iconst 4, 1) := by decide +kernel
theorem d_rc_digestOfStation_114 : decode b_rc_digestOfStation 114 = .ok (.if_icmp .ge 26, 3) := by decide +kernel
theorem d_rc_digestOfStation_117 : decode b_rc_digestOfStation 117 = .ok (.ldc2_w 316, 3) := by decide +kernel
theorem d_rc_digestOfStation_120 : decode b_rc_digestOfStation 120 = .ok (.lload 4, 2) := by decide +kernel
theorem d_rc_digestOfStation_122 : decode b_rc_digestOfStation 122 = .ok (.lmul, 1) := by decide +kernel
theorem d_rc_digestOfStation_123 : decode b_rc_digestOfStation 123 = .ok (.aload_n 0, 1) := by decide +kernel
theorem d_rc_digestOfStation_124 : decode b_rc_digestOfStation 124 = .ok (.iload_n 3, 1) := by decide +kernel
theorem d_rc_digestOfStation_125 : decode b_rc_digestOfStation 125 = .ok (.iload 6, 2) := by decide +kernel
theorem d_rc_digestOfStation_127 : decode b_rc_digestOfStation 127 = .ok (.invokevirtual 342, 3) := by decide +kernel
theorem d_rc_digestOfStation_130 : decode b_rc_digestOfStation 130 = .ok (.i2l, 1) := by decide +kernel
theorem d_rc_digestOfStation_131 : decode b_rc_digestOfStation 131 = .ok (.ladd, 1) := by decide +kernel
theorem d_rc_digestOfStation_132 : decode b_rc_digestOfStation 132 = .ok (.lstore 4, 2) := by decide +kernel
theorem d_rc_digestOfStation_134 : decode b_rc_digestOfStation 134 = .ok (.iinc 6 1, 3) := by decide +kernel
theorem d_rc_digestOfStation_137 : decode b_rc_digestOfStation 137 = .ok (.goto (-26), 3) := by decide +kernel
theorem d_rc_digestOfStation_140 : decode b_rc_digestOfStation 140 = .ok (.iconst 0, 1) := by decide +kernel
theorem d_rc_digestOfStation_141 : decode b_rc_digestOfStation 141 = .ok (.istore 6, 2) := by decide +kernel
theorem d_rc_digestOfStation_143 : decode b_rc_digestOfStation 143 = .ok (.iload 6, 2) := by decide +kernel
theorem d_rc_digestOfStation_145 : decode b_rc_digestOfStation 145 = .ok (.aload_n 0, 1) := by decide +kernel
theorem d_rc_digestOfStation_146 : decode b_rc_digestOfStation 146 = .ok (.getfield 10, 3) := by decide +kernel
theorem d_rc_digestOfStation_149 : decode b_rc_digestOfStation 149 = .ok (.getfield 45, 3) := by decide +kernel
theorem d_rc_digestOfStation_152 : decode b_rc_digestOfStation 152 = .ok (.getfield 49, 3) := by decide +kernel
theorem d_rc_digestOfStation_155 : decode b_rc_digestOfStation 155 = .ok (.if_icmp .ge 60, 3) := by decide +kernel
theorem d_rc_digestOfStation_158 : decode b_rc_digestOfStation 158 = .ok (.ldc2_w 316, 3) := by decide +kernel
theorem d_rc_digestOfStation_161 : decode b_rc_digestOfStation 161 = .ok (.lload 4, 2) := by decide +kernel
theorem d_rc_digestOfStation_163 : decode b_rc_digestOfStation 163 = .ok (.lmul, 1) := by decide +kernel
theorem d_rc_digestOfStation_164 : decode b_rc_digestOfStation 164 = .ok (.aload_n 0, 1) := by decide +kernel
theorem d_rc_digestOfStation_165 : decode b_rc_digestOfStation 165 = .ok (.iload_n 3, 1) := by decide +kernel
theorem d_rc_digestOfStation_166 : decode b_rc_digestOfStation 166 = .ok (.iload 6, 2) := by decide +kernel
theorem d_rc_digestOfStation_168 : decode b_rc_digestOfStation 168 = .ok (.invokevirtual 345, 3) := by decide +kernel
theorem d_rc_digestOfStation_171 : decode b_rc_digestOfStation 171 = .ok (.i2l, 1) := by decide +kernel
theorem d_rc_digestOfStation_172 : decode b_rc_digestOfStation 172 = .ok (.ladd, 1) := by decide +kernel
theorem d_rc_digestOfStation_173 : decode b_rc_digestOfStation 173 = .ok (.lstore 4, 2) := by decide +kernel
theorem d_rc_digestOfStation_175 : decode b_rc_digestOfStation 175 = .ok (.ldc2_w 316, 3) := by decide +kernel
theorem d_rc_digestOfStation_178 : decode b_rc_digestOfStation 178 = .ok (.lload 4, 2) := by decide +kernel
theorem d_rc_digestOfStation_180 : decode b_rc_digestOfStation 180 = .ok (.lmul, 1) := by decide +kernel
theorem d_rc_digestOfStation_181 : decode b_rc_digestOfStation 181 = .ok (.aload_n 0, 1) := by decide +kernel
theorem d_rc_digestOfStation_182 : decode b_rc_digestOfStation 182 = .ok (.iload_n 3, 1) := by decide +kernel
theorem d_rc_digestOfStation_183 : decode b_rc_digestOfStation 183 = .ok (.iload 6, 2) := by decide +kernel
theorem d_rc_digestOfStation_185 : decode b_rc_digestOfStation 185 = .ok (.invokevirtual 347, 3) := by decide +kernel
theorem d_rc_digestOfStation_188 : decode b_rc_digestOfStation 188 = .ok (.i2l, 1) := by decide +kernel
theorem d_rc_digestOfStation_189 : decode b_rc_digestOfStation 189 = .ok (.ladd, 1) := by decide +kernel
theorem d_rc_digestOfStation_190 : decode b_rc_digestOfStation 190 = .ok (.lstore 4, 2) := by decide +kernel
theorem d_rc_digestOfStation_192 : decode b_rc_digestOfStation 192 = .ok (.ldc2_w 316, 3) := by decide +kernel
theorem d_rc_digestOfStation_195 : decode b_rc_digestOfStation 195 = .ok (.lload 4, 2) := by decide +kernel
theorem d_rc_digestOfStation_197 : decode b_rc_digestOfStation 197 = .ok (.lmul, 1) := by decide +kernel
theorem d_rc_digestOfStation_198 : decode b_rc_digestOfStation 198 = .ok (.aload_n 0, 1) := by decide +kernel
theorem d_rc_digestOfStation_199 : decode b_rc_digestOfStation 199 = .ok (.iload_n 3, 1) := by decide +kernel
theorem d_rc_digestOfStation_200 : decode b_rc_digestOfStation 200 = .ok (.iload 6, 2) := by decide +kernel
theorem d_rc_digestOfStation_202 : decode b_rc_digestOfStation 202 = .ok (.invokevirtual 350, 3) := by decide +kernel
theorem d_rc_digestOfStation_205 : decode b_rc_digestOfStation 205 = .ok (.i2l, 1) := by decide +kernel
theorem d_rc_digestOfStation_206 : decode b_rc_digestOfStation 206 = .ok (.ladd, 1) := by decide +kernel
theorem d_rc_digestOfStation_207 : decode b_rc_digestOfStation 207 = .ok (.lstore 4, 2) := by decide +kernel
theorem d_rc_digestOfStation_209 : decode b_rc_digestOfStation 209 = .ok (.iinc 6 1, 3) := by decide +kernel
theorem d_rc_digestOfStation_212 : decode b_rc_digestOfStation 212 = .ok (.goto (-69), 3) := by decide +kernel
theorem d_rc_digestOfStation_215 : decode b_rc_digestOfStation 215 = .ok (.lload 4, 2) := by decide +kernel
theorem d_rc_digestOfStation_217 : decode b_rc_digestOfStation 217 = .ok (.lreturn, 1) := by decide +kernel
theorem d_rc_errorOfSimulation_0 : decode b_rc_errorOfSimulation 0 = .ok (.aload_n 0, 1) := by decide +kernel
theorem d_rc_errorOfSimulation_1 : decode b_rc_errorOfSimulation 1 = .ok (.getfield 10, 3) := by decide +kernel
theorem d_rc_errorOfSimulation_4 : decode b_rc_errorOfSimulation 4 = .ok (.iload_n 1, 1) := by decide +kernel
theorem d_rc_errorOfSimulation_5 : decode b_rc_errorOfSimulation 5 = .ok (.invokevirtual 84, 3) := by decide +kernel
theorem d_rc_errorOfSimulation_8 : decode b_rc_errorOfSimulation 8 = .ok (.astore 4, 2) := by decide +kernel
theorem d_rc_errorOfSimulation_10 : decode b_rc_errorOfSimulation 10 = .ok (.aload 4, 2) := by decide +kernel
theorem d_rc_errorOfSimulation_12 : decode b_rc_errorOfSimulation 12 = .ok (.ifnull 21, 3) := by decide +kernel
theorem d_rc_errorOfSimulation_15 : decode b_rc_errorOfSimulation 15 = .ok (.iload_n 2, 1) := by decide +kernel
theorem d_rc_errorOfSimulation_16 : decode b_rc_errorOfSimulation 16 = .ok (.iconst 1, 1) := by decide +kernel
theorem d_rc_errorOfSimulation_17 : decode b_rc_errorOfSimulation 17 = .ok (.if_icmp .lt 16, 3) := by decide +kernel
theorem d_rc_errorOfSimulation_20 : decode b_rc_errorOfSimulation 20 = .ok (.iload_n 2, 1) := by decide +kernel
theorem d_rc_errorOfSimulation_21 : decode b_rc_errorOfSimulation 21 = .ok (.bipush 50, 2) := by decide +kernel
theorem d_rc_errorOfSimulation_23 : decode b_rc_errorOfSimulation 23 = .ok (.if_icmp .gt 10, 3) := by decide +kernel
theorem d_rc_errorOfSimulation_26 : decode b_rc_errorOfSimulation 26 = .ok (.iload_n 3, 1) := by decide +kernel
theorem d_rc_errorOfSimulation_27 : decode b_rc_errorOfSimulation 27 = .ok (.invokestatic 112, 3) := by decide +kernel
theorem d_rc_errorOfSimulation_30 : decode b_rc_errorOfSimulation 30 = .ok (.ifCond .ne 5, 3) := by decide +kernel
theorem d_rc_errorOfSimulation_33 : decode b_rc_errorOfSimulation 33 = .ok (.iconst (-1), 1) := by decide +kernel
theorem d_rc_errorOfSimulation_34 : decode b_rc_errorOfSimulation 34 = .ok (.ireturn, 1) := by decide +kernel
theorem d_rc_errorOfSimulation_35 : decode b_rc_errorOfSimulation 35 = .ok (.aload 4, 2) := by decide +kernel
theorem d_rc_errorOfSimulation_37 : decode b_rc_errorOfSimulation 37 = .ok (.aload_n 0, 1) := by decide +kernel
theorem d_rc_errorOfSimulation_38 : decode b_rc_errorOfSimulation 38 = .ok (.getfield 10, 3) := by decide +kernel
theorem d_rc_errorOfSimulation_41 : decode b_rc_errorOfSimulation 41 = .ok (.getfield 45, 3) := by decide +kernel
theorem d_rc_errorOfSimulation_44 : decode b_rc_errorOfSimulation 44 = .ok (.invokevirtual 115, 3) := by decide +kernel
theorem d_rc_errorOfSimulation_47 : decode b_rc_errorOfSimulation 47 = .ok (.ifCond .ne 6, 3) := by decide +kernel
theorem d_rc_errorOfSimulation_50 : decode b_rc_errorOfSimulation 50 = .ok (.bipush (-2), 2) := by decide +kernel
theorem d_rc_errorOfSimulation_52 : decode b_rc_errorOfSimulation 52 = .ok (.ireturn, 1) := by decide +kernel
theorem d_rc_errorOfSimulation_53 : decode b_rc_errorOfSimulation 53 = .ok (.aload_n 0, 1) := by decide +kernel
theorem d_rc_errorOfSimulation_54 : decode b_rc_errorOfSimulation 54 = .ok (.getfield 10, 3) := by decide +kernel
theorem d_rc_errorOfSimulation_57 : decode b_rc_errorOfSimulation 57 = .ok (.invokevirtual 119, 3) := by decide +kernel
theorem d_rc_errorOfSimulation_60 : decode b_rc_errorOfSimulation 60 = .ok (.bipush (-9), 2) := by decide +kernel
theorem d_rc_errorOfSimulation_62 : decode b_rc_errorOfSimulation 62 = .ok (.if_icmp .ne 6, 3) := by decide +kernel
theorem d_rc_errorOfSimulation_65 : decode b_rc_errorOfSimulation 65 = .ok (.bipush (-3), 2) := by decide +kernel
theorem d_rc_errorOfSimulation_67 : decode b_rc_errorOfSimulation 67 = .ok (.ireturn, 1) := by decide +kernel
theorem d_rc_errorOfSimulation_68 : decode b_rc_errorOfSimulation 68 = .ok (.aload_n 0, 1) := by decide +kernel
theorem d_rc_errorOfSimulation_69 : decode b_rc_errorOfSimulation 69 = .ok (.getfield 10, 3) := by decide +kernel
theorem d_rc_errorOfSimulation_72 : decode b_rc_errorOfSimulation 72 = .ok (.getfield 159, 3) := by decide +kernel
theorem d_rc_errorOfSimulation_75 : decode b_rc_errorOfSimulation 75 = .ok (.ldc_w 353, 3) := by decide +kernel
theorem d_rc_errorOfSimulation_78 : decode b_rc_errorOfSimulation 78 = .ok (.if_icmp .le 8, 3) := by decide +kernel
theorem d_rc_errorOfSimulation_81 : decode b_rc_errorOfSimulation 81 = .ok (.bipush (-4), 2) := by decide +kernel
theorem d_rc_errorOfSimulation_83 : decode b_rc_errorOfSimulation 83 = .ok (.goto 4, 3) := by decide +kernel
theorem d_rc_errorOfSimulation_86 : decode b_rc_errorOfSimulation 86 = .ok (.iconst 0, 1) := by decide +kernel
theorem d_rc_errorOfSimulation_87 : decode b_rc_errorOfSimulation 87 = .ok (.ireturn, 1) := by decide +kernel
theorem d_rc_isMode_0 : decode b_rc_isMode 0 = .ok (.iload_n 0, 1) := by decide +kernel
theorem d_rc_isMode_1 : decode b_rc_isMode 1 = .ok (.ifCond .lt 12, 3) := by decide +kernel
theorem d_rc_isMode_4 : decode b_rc_isMode 4 = .ok (.iload_n 0, 1) := by decide +kernel
theorem d_rc_isMode_5 : decode b_rc_isMode 5 = .ok (.iconst 3, 1) := by decide +kernel
theorem d_rc_isMode_6 : decode b_rc_isMode 6 = .ok (.if_icmp .ge 7, 3) := by decide +kernel
theorem d_rc_isMode_9 : decode b_rc_isMode 9 = .ok (.iconst 1, 1) := by decide +kernel
theorem d_rc_isMode_10 : decode b_rc_isMode 10 = .ok (.goto 4, 3) := by decide +kernel
theorem d_rc_isMode_13 : decode b_rc_isMode 13 = .ok (.iconst 0, 1) := by decide +kernel
theorem d_rc_isMode_14 : decode b_rc_isMode 14 = .ok (.ireturn, 1) := by decide +kernel
theorem d_rc_isFrame_0 : decode b_rc_isFrame 0 = .ok (.iload_n 0, 1) := by decide +kernel
theorem d_rc_isFrame_1 : decode b_rc_isFrame 1 = .ok (.iconst 1, 1) := by decide +kernel
theorem d_rc_isFrame_2 : decode b_rc_isFrame 2 = .ok (.if_icmp .lt 14, 3) := by decide +kernel
theorem d_rc_isFrame_5 : decode b_rc_isFrame 5 = .ok (.iload_n 0, 1) := by decide +kernel
theorem d_rc_isFrame_6 : decode b_rc_isFrame 6 = .ok (.sipush 4000, 3) := by decide +kernel
theorem d_rc_isFrame_9 : decode b_rc_isFrame 9 = .ok (.if_icmp .gt 7, 3) := by decide +kernel
theorem d_rc_isFrame_12 : decode b_rc_isFrame 12 = .ok (.iconst 1, 1) := by decide +kernel
theorem d_rc_isFrame_13 : decode b_rc_isFrame 13 = .ok (.goto 4, 3) := by decide +kernel
theorem d_rc_isFrame_16 : decode b_rc_isFrame 16 = .ok (.iconst 0, 1) := by decide +kernel
theorem d_rc_isFrame_17 : decode b_rc_isFrame 17 = .ok (.ireturn, 1) := by decide +kernel
theorem d_rc_isSize_0 : decode b_rc_isSize 0 = .ok (.iload_n 0, 1) := by decide +kernel
theorem d_rc_isSize_1 : decode b_rc_isSize 1 = .ok (.iconst 1, 1) := by decide +kernel
theorem d_rc_isSize_2 : decode b_rc_isSize 2 = .ok (.if_icmp .lt 14, 3) := by decide +kernel
theorem d_rc_isSize_5 : decode b_rc_isSize 5 = .ok (.iload_n 0, 1) := by decide +kernel
theorem d_rc_isSize_6 : decode b_rc_isSize 6 = .ok (.ldc_w 354, 3) := by decide +kernel
theorem d_rc_isSize_9 : decode b_rc_isSize 9 = .ok (.if_icmp .gt 7, 3) := by decide +kernel
theorem d_rc_isSize_12 : decode b_rc_isSize 12 = .ok (.iconst 1, 1) := by decide +kernel
theorem d_rc_isSize_13 : decode b_rc_isSize 13 = .ok (.goto 4, 3) := by decide +kernel
theorem d_rc_isSize_16 : decode b_rc_isSize 16 = .ok (.iconst 0, 1) := by decide +kernel
theorem d_rc_isSize_17 : decode b_rc_isSize 17 = .ok (.ireturn, 1) := by decide +kernel
theorem d_rc_isEntry_0 : decode b_rc_isEntry 0 = .ok (.iload_n 0, 1) := by decide +kernel
theorem d_rc_isEntry_1 : decode b_rc_isEntry 1 = .ok (.ifCond .lt 12, 3) := by decide +kernel
theorem d_rc_isEntry_4 : decode b_rc_isEntry 4 = .ok (.iload_n 0, 1) := by decide +kernel
theorem d_rc_isEntry_5 : decode b_rc_isEntry 5 = .ok (.iconst 4, 1) := by decide +kernel
theorem d_rc_isEntry_6 : decode b_rc_isEntry 6 = .ok (.if_icmp .ge 7, 3) := by decide +kernel
theorem d_rc_isEntry_9 : decode b_rc_isEntry 9 = .ok (.iconst 1, 1) := by decide +kernel
theorem d_rc_isEntry_10 : decode b_rc_isEntry 10 = .ok (.goto 4, 3) := by decide +kernel
theorem d_rc_isEntry_13 : decode b_rc_isEntry 13 = .ok (.iconst 0, 1) := by decide +kernel
theorem d_rc_isEntry_14 : decode b_rc_isEntry 14 = .ok (.ireturn, 1) := by decide +kernel
theorem d_rc_nextDraw_0 : decode b_rc_nextDraw 0 = .ok (.ldc_w 355, 3) := by decide +kernel
theorem d_rc_nextDraw_3 : decode b_rc_nextDraw 3 = .ok (.iload_n 0, 1) := by decide +kernel
theorem d_rc_nextDraw_4 : decode b_rc_nextDraw 4 = .ok (.imul, 1) := by decide +kernel
theorem d_rc_nextDraw_5 : decode b_rc_nextDraw 5 = .ok (.sipush 12345, 3) := by decide +kernel
theorem d_rc_nextDraw_8 : decode b_rc_nextDraw 8 = .ok (.iadd, 1) := by decide +kernel
theorem d_rc_nextDraw_9 : decode b_rc_nextDraw 9 = .ok (.ireturn, 1) := by decide +kernel
theorem d_jm_floorMod_0 : decode b_jm_floorMod 0 = .ok (.iload_n 0, 1) := by decide +kernel
theorem d_jm_floorMod_1 : decode b_jm_floorMod 1 = .ok (.iload_n 1, 1) := by decide +kernel
theorem d_jm_floorMod_2 : decode b_jm_floorMod 2 = .ok (.irem, 1) := by decide +kernel
theorem d_jm_floorMod_3 : decode b_jm_floorMod 3 = .ok (.istore_n 2, 1) := by decide +kernel
theorem d_jm_floorMod_4 : decode b_jm_floorMod 4 = .ok (.iload_n 0, 1) := by decide +kernel
theorem d_jm_floorMod_5 : decode b_jm_floorMod 5 = .ok (.iload_n 1, 1) := by decide +kernel
theorem d_jm_floorMod_6 : decode b_jm_floorMod 6 = .ok (.ixor, 1) := by decide +kernel
theorem d_jm_floorMod_7 : decode b_jm_floorMod 7 = .ok (.ifCond .ge 11, 3) := by decide +kernel
theorem d_jm_floorMod_10 : decode b_jm_floorMod 10 = .ok (.iload_n 2, 1) := by decide +kernel
theorem d_jm_floorMod_11 : decode b_jm_floorMod 11 = .ok (.ifCond .eq 7, 3) := by decide +kernel
theorem d_jm_floorMod_14 : decode b_jm_floorMod 14 = .ok (.iload_n 2, 1) := by decide +kernel
theorem d_jm_floorMod_15 : decode b_jm_floorMod 15 = .ok (.iload_n 1, 1) := by decide +kernel
theorem d_jm_floorMod_16 : decode b_jm_floorMod 16 = .ok (.iadd, 1) := by decide +kernel
theorem d_jm_floorMod_17 : decode b_jm_floorMod 17 = .ok (.ireturn, 1) := by decide +kernel
theorem d_jm_floorMod_18 : decode b_jm_floorMod 18 = .ok (.iload_n 2, 1) := by decide +kernel
theorem d_jm_floorMod_19 : decode b_jm_floorMod 19 = .ok (.ireturn, 1) := by decide +kernel
theorem d_jm_max_0 : decode b_jm_max 0 = .ok (.iload_n 0, 1) := by decide +kernel
theorem d_jm_max_1 : decode b_jm_max 1 = .ok (.iload_n 1, 1) := by decide +kernel
theorem d_jm_max_2 : decode b_jm_max 2 = .ok (.if_icmp .lt 7, 3) := by decide +kernel
theorem d_jm_max_5 : decode b_jm_max 5 = .ok (.iload_n 0, 1) := by decide +kernel
theorem d_jm_max_6 : decode b_jm_max 6 = .ok (.goto 4, 3) := by decide +kernel
theorem d_jm_max_9 : decode b_jm_max 9 = .ok (.iload_n 1, 1) := by decide +kernel
theorem d_jm_max_10 : decode b_jm_max 10 = .ok (.ireturn, 1) := by decide +kernel
theorem d_jm_min_0 : decode b_jm_min 0 = .ok (.iload_n 0, 1) := by decide +kernel
theorem d_jm_min_1 : decode b_jm_min 1 = .ok (.iload_n 1, 1) := by decide +kernel
theorem d_jm_min_2 : decode b_jm_min 2 = .ok (.if_icmp .gt 7, 3) := by decide +kernel
theorem d_jm_min_5 : decode b_jm_min 5 = .ok (.iload_n 0, 1) := by decide +kernel
theorem d_jm_min_6 : decode b_jm_min 6 = .ok (.goto 4, 3) := by decide +kernel
theorem d_jm_min_9 : decode b_jm_min 9 = .ok (.iload_n 1, 1) := by decide +kernel
theorem d_jm_min_10 : decode b_jm_min 10 = .ok (.ireturn, 1) := by decide +kernel
theorem d_ja_fill_0 : decode b_ja_fill 0 = .ok (.iconst 0, 1) := by decide +kernel
theorem d_ja_fill_1 : decode b_ja_fill 1 = .ok (.istore_n 2, 1) := by decide +kernel
theorem d_ja_fill_2 : decode b_ja_fill 2 = .ok (.aload_n 0, 1) := by decide +kernel
theorem d_ja_fill_3 : decode b_ja_fill 3 = .ok (.arraylength, 1) := by decide +kernel
theorem d_ja_fill_4 : decode b_ja_fill 4 = .ok (.istore_n 3, 1) := by decide +kernel
theorem d_ja_fill_5 : decode b_ja_fill 5 = .ok (.iload_n 2, 1) := by decide +kernel
theorem d_ja_fill_6 : decode b_ja_fill 6 = .ok (.iload_n 3, 1) := by decide +kernel
theorem d_ja_fill_7 : decode b_ja_fill 7 = .ok (.if_icmp .ge 13, 3) := by decide +kernel
theorem d_ja_fill_10 : decode b_ja_fill 10 = .ok (.aload_n 0, 1) := by decide +kernel
theorem d_ja_fill_11 : decode b_ja_fill 11 = .ok (.iload_n 2, 1) := by decide +kernel
theorem d_ja_fill_12 : decode b_ja_fill 12 = .ok (.iload_n 1, 1) := by decide +kernel
theorem d_ja_fill_13 : decode b_ja_fill 13 = .ok (.iastore, 1) := by decide +kernel
theorem d_ja_fill_14 : decode b_ja_fill 14 = .ok (.iinc 2 1, 3) := by decide +kernel
theorem d_ja_fill_17 : decode b_ja_fill 17 = .ok (.goto (-12), 3) := by decide +kernel
theorem d_ja_fill_20 : decode b_ja_fill 20 = .ok (.return_, 1) := by decide +kernel
