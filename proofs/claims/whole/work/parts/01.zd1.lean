theorem dX3_firstRule_64 : decode cX3_firstRule 64 = .ok (.iload_n 2, 1) := by decide +kernel
theorem dX3_firstRule_65 : decode cX3_firstRule 65 = .ok (.ireturn, 1) := by decide +kernel
theorem dX3_firstRule_66 : decode cX3_firstRule 66 = .ok (.iinc 2 1, 3) := by decide +kernel
theorem dX3_firstRule_69 : decode cX3_firstRule 69 = .ok (.goto (-67), 3) := by decide +kernel
theorem dX3_firstRule_72 : decode cX3_firstRule 72 = .ok (.iconst (-1), 1) := by decide +kernel
theorem dX3_firstRule_73 : decode cX3_firstRule 73 = .ok (.ireturn, 1) := by decide +kernel
theorem dX3_worth_0 : decode cX3_worth 0 = .ok (.aload_n 0, 1) := by decide +kernel
theorem dX3_worth_1 : decode cX3_worth 1 = .ok (.aload_n 0, 1) := by decide +kernel
theorem dX3_worth_2 : decode cX3_worth 2 = .ok (.getfield 17, 3) := by decide +kernel
theorem dX3_worth_5 : decode cX3_worth 5 = .ok (.iload_n 1, 1) := by decide +kernel
theorem dX3_worth_6 : decode cX3_worth 6 = .ok (.iaload, 1) := by decide +kernel
theorem dX3_worth_7 : decode cX3_worth 7 = .ok (.aload_n 0, 1) := by decide +kernel
theorem dX3_worth_8 : decode cX3_worth 8 = .ok (.getfield 20, 3) := by decide +kernel
theorem dX3_worth_11 : decode cX3_worth 11 = .ok (.iload_n 1, 1) := by decide +kernel
theorem dX3_worth_12 : decode cX3_worth 12 = .ok (.iaload, 1) := by decide +kernel
theorem dX3_worth_13 : decode cX3_worth 13 = .ok (.invokevirtual 42, 3) := by decide +kernel
theorem dX3_worth_16 : decode cX3_worth 16 = .ok (.invokestatic 46, 3) := by decide +kernel
theorem dX3_worth_19 : decode cX3_worth 19 = .ok (.ireturn, 1) := by decide +kernel
theorem dX3_worthOfFirst_0 : decode cX3_worthOfFirst 0 = .ok (.aload_n 0, 1) := by decide +kernel
theorem dX3_worthOfFirst_1 : decode cX3_worthOfFirst 1 = .ok (.iload_n 1, 1) := by decide +kernel
theorem dX3_worthOfFirst_2 : decode cX3_worthOfFirst 2 = .ok (.invokevirtual 50, 3) := by decide +kernel
theorem dX3_worthOfFirst_5 : decode cX3_worthOfFirst 5 = .ok (.istore_n 3, 1) := by decide +kernel
theorem dX3_worthOfFirst_6 : decode cX3_worthOfFirst 6 = .ok (.iload_n 3, 1) := by decide +kernel
theorem dX3_worthOfFirst_7 : decode cX3_worthOfFirst 7 = .ok (.iconst (-1), 1) := by decide +kernel
theorem dX3_worthOfFirst_8 : decode cX3_worthOfFirst 8 = .ok (.if_icmp .ne 7, 3) := by decide +kernel
theorem dX3_worthOfFirst_11 : decode cX3_worthOfFirst 11 = .ok (.iload_n 2, 1) := by decide +kernel
theorem dX3_worthOfFirst_12 : decode cX3_worthOfFirst 12 = .ok (.goto 8, 3) := by decide +kernel
theorem dX3_worthOfFirst_15 : decode cX3_worthOfFirst 15 = .ok (.aload_n 0, 1) := by decide +kernel
theorem dX3_worthOfFirst_16 : decode cX3_worthOfFirst 16 = .ok (.iload_n 3, 1) := by decide +kernel
theorem dX3_worthOfFirst_17 : decode cX3_worthOfFirst 17 = .ok (.invokevirtual 53, 3) := by decide +kernel
theorem dX3_worthOfFirst_20 : decode cX3_worthOfFirst 20 = .ok (.ireturn, 1) := by decide +kernel
theorem dX3_run_0 : decode cX3_run 0 = .ok (.iconst 0, 1) := by decide +kernel
theorem dX3_run_1 : decode cX3_run 1 = .ok (.istore_n 3, 1) := by decide +kernel
theorem dX3_run_2 : decode cX3_run 2 = .ok (.iload_n 1, 1) := by decide +kernel
theorem dX3_run_3 : decode cX3_run 3 = .ok (.istore 4, 2) := by decide +kernel
theorem dX3_run_5 : decode cX3_run 5 = .ok (.iload 4, 2) := by decide +kernel
theorem dX3_run_7 : decode cX3_run 7 = .ok (.iload_n 2, 1) := by decide +kernel
theorem dX3_run_8 : decode cX3_run 8 = .ok (.if_icmp .ge 103, 3) := by decide +kernel
theorem dX3_run_11 : decode cX3_run 11 = .ok (.aload_n 0, 1) := by decide +kernel
theorem dX3_run_12 : decode cX3_run 12 = .ok (.getfield 26, 3) := by decide +kernel
theorem dX3_run_15 : decode cX3_run 15 = .ok (.iload 4, 2) := by decide +kernel
theorem dX3_run_17 : decode cX3_run 17 = .ok (.iaload, 1) := by decide +kernel
theorem dX3_run_18 : decode cX3_run 18 = .ok (.istore 5, 2) := by decide +kernel
theorem dX3_run_20 : decode cX3_run 20 = .ok (.iload 5, 2) := by decide +kernel
theorem dX3_run_22 : decode cX3_run 22 = .ok (.ifCond .ge 10, 3) := by decide +kernel
theorem dX3_run_25 : decode cX3_run 25 = .ok (.iload 5, 2) := by decide +kernel
theorem dX3_run_27 : decode cX3_run 27 = .ok (.bipush (-100), 2) := by decide +kernel
theorem dX3_run_29 : decode cX3_run 29 = .ok (.if_icmp .gt 40, 3) := by decide +kernel
theorem dX3_run_32 : decode cX3_run 32 = .ok (.iload_n 3, 1) := by decide +kernel
theorem dX3_run_33 : decode cX3_run 33 = .ok (.aload_n 0, 1) := by decide +kernel
theorem dX3_run_34 : decode cX3_run 34 = .ok (.getfield 32, 3) := by decide +kernel
theorem dX3_run_37 : decode cX3_run 37 = .ok (.arraylength, 1) := by decide +kernel
theorem dX3_run_38 : decode cX3_run 38 = .ok (.if_icmp .ge 67, 3) := by decide +kernel
theorem dX3_run_41 : decode cX3_run 41 = .ok (.aload_n 0, 1) := by decide +kernel
theorem dX3_run_42 : decode cX3_run 42 = .ok (.getfield 32, 3) := by decide +kernel
theorem dX3_run_45 : decode cX3_run 45 = .ok (.iload_n 3, 1) := by decide +kernel
theorem dX3_run_46 : decode cX3_run 46 = .ok (.iload 5, 2) := by decide +kernel
theorem dX3_run_48 : decode cX3_run 48 = .ok (.ifCond .lt 8, 3) := by decide +kernel
theorem dX3_run_51 : decode cX3_run 51 = .ok (.iload 5, 2) := by decide +kernel
theorem dX3_run_53 : decode cX3_run 53 = .ok (.goto 9, 3) := by decide +kernel
theorem dX3_run_56 : decode cX3_run 56 = .ok (.aload_n 0, 1) := by decide +kernel
theorem dX3_run_57 : decode cX3_run 57 = .ok (.iload 5, 2) := by decide +kernel
theorem dX3_run_59 : decode cX3_run 59 = .ok (.invokevirtual 56, 3) := by decide +kernel
theorem dX3_run_62 : decode cX3_run 62 = .ok (.iastore, 1) := by decide +kernel
theorem dX3_run_63 : decode cX3_run 63 = .ok (.iinc 3 1, 3) := by decide +kernel
theorem dX3_run_66 : decode cX3_run 66 = .ok (.goto 39, 3) := by decide +kernel
theorem dX3_run_69 : decode cX3_run 69 = .ok (.iload_n 3, 1) := by decide +kernel
theorem dX3_run_70 : decode cX3_run 70 = .ok (.iconst 2, 1) := by decide +kernel
theorem dX3_run_71 : decode cX3_run 71 = .ok (.if_icmp .lt 34, 3) := by decide +kernel
theorem dX3_run_74 : decode cX3_run 74 = .ok (.iinc 3 (-1), 3) := by decide +kernel
theorem dX3_run_77 : decode cX3_run 77 = .ok (.aload_n 0, 1) := by decide +kernel
theorem dX3_run_78 : decode cX3_run 78 = .ok (.getfield 32, 3) := by decide +kernel
theorem dX3_run_81 : decode cX3_run 81 = .ok (.iload_n 3, 1) := by decide +kernel
theorem dX3_run_82 : decode cX3_run 82 = .ok (.iconst 1, 1) := by decide +kernel
theorem dX3_run_83 : decode cX3_run 83 = .ok (.isub, 1) := by decide +kernel
theorem dX3_run_84 : decode cX3_run 84 = .ok (.iload 5, 2) := by decide +kernel
theorem dX3_run_86 : decode cX3_run 86 = .ok (.ineg, 1) := by decide +kernel
theorem dX3_run_87 : decode cX3_run 87 = .ok (.aload_n 0, 1) := by decide +kernel
theorem dX3_run_88 : decode cX3_run 88 = .ok (.getfield 32, 3) := by decide +kernel
theorem dX3_run_91 : decode cX3_run 91 = .ok (.iload_n 3, 1) := by decide +kernel
theorem dX3_run_92 : decode cX3_run 92 = .ok (.iconst 1, 1) := by decide +kernel
theorem dX3_run_93 : decode cX3_run 93 = .ok (.isub, 1) := by decide +kernel
theorem dX3_run_94 : decode cX3_run 94 = .ok (.iaload, 1) := by decide +kernel
theorem dX3_run_95 : decode cX3_run 95 = .ok (.aload_n 0, 1) := by decide +kernel
theorem dX3_run_96 : decode cX3_run 96 = .ok (.getfield 32, 3) := by decide +kernel
theorem dX3_run_99 : decode cX3_run 99 = .ok (.iload_n 3, 1) := by decide +kernel
theorem dX3_run_100 : decode cX3_run 100 = .ok (.iaload, 1) := by decide +kernel
theorem dX3_run_101 : decode cX3_run 101 = .ok (.invokestatic 59, 3) := by decide +kernel
theorem dX3_run_104 : decode cX3_run 104 = .ok (.iastore, 1) := by decide +kernel
theorem dX3_run_105 : decode cX3_run 105 = .ok (.iinc 4 1, 3) := by decide +kernel
theorem dX3_run_108 : decode cX3_run 108 = .ok (.goto (-103), 3) := by decide +kernel
theorem dX3_run_111 : decode cX3_run 111 = .ok (.aload_n 0, 1) := by decide +kernel
theorem dX3_run_112 : decode cX3_run 112 = .ok (.getfield 32, 3) := by decide +kernel
theorem dX3_run_115 : decode cX3_run 115 = .ok (.iconst 0, 1) := by decide +kernel
theorem dX3_run_116 : decode cX3_run 116 = .ok (.iaload, 1) := by decide +kernel
theorem dX3_run_117 : decode cX3_run 117 = .ok (.ireturn, 1) := by decide +kernel
theorem dX3_varOf_0 : decode cX3_varOf 0 = .ok (.bipush (-100), 2) := by decide +kernel
theorem dX3_varOf_2 : decode cX3_varOf 2 = .ok (.iload_n 1, 1) := by decide +kernel
theorem dX3_varOf_3 : decode cX3_varOf 3 = .ok (.isub, 1) := by decide +kernel
theorem dX3_varOf_4 : decode cX3_varOf 4 = .ok (.istore_n 2, 1) := by decide +kernel
theorem dX3_varOf_5 : decode cX3_varOf 5 = .ok (.iload_n 2, 1) := by decide +kernel
theorem dX3_varOf_6 : decode cX3_varOf 6 = .ok (.ifCond .lt 17, 3) := by decide +kernel
theorem dX3_varOf_9 : decode cX3_varOf 9 = .ok (.iload_n 2, 1) := by decide +kernel
theorem dX3_varOf_10 : decode cX3_varOf 10 = .ok (.iconst 5, 1) := by decide +kernel
theorem dX3_varOf_11 : decode cX3_varOf 11 = .ok (.if_icmp .ge 12, 3) := by decide +kernel
theorem dX3_varOf_14 : decode cX3_varOf 14 = .ok (.aload_n 0, 1) := by decide +kernel
theorem dX3_varOf_15 : decode cX3_varOf 15 = .ok (.getfield 29, 3) := by decide +kernel
theorem dX3_varOf_18 : decode cX3_varOf 18 = .ok (.iload_n 2, 1) := by decide +kernel
theorem dX3_varOf_19 : decode cX3_varOf 19 = .ok (.iaload, 1) := by decide +kernel
theorem dX3_varOf_20 : decode cX3_varOf 20 = .ok (.goto 4, 3) := by decide +kernel
theorem dX3_varOf_23 : decode cX3_varOf 23 = .ok (.iconst 0, 1) := by decide +kernel
theorem dX3_varOf_24 : decode cX3_varOf 24 = .ok (.ireturn, 1) := by decide +kernel
theorem dX3_joined_0 : decode cX3_joined 0 = .ok (.iload_n 0, 1) := by decide +kernel
theorem dX3_joined_1 : decode cX3_joined 1 = .ok (.tableswitch 107 10 17 #[103, 59, 70, 81, 92, 47, 51, 55], 47) := by decide +kernel
theorem dX3_joined_48 : decode cX3_joined 48 = .ok (.iload_n 1, 1) := by decide +kernel
theorem dX3_joined_49 : decode cX3_joined 49 = .ok (.iload_n 2, 1) := by decide +kernel
theorem dX3_joined_50 : decode cX3_joined 50 = .ok (.iadd, 1) := by decide +kernel
theorem dX3_joined_51 : decode cX3_joined 51 = .ok (.ireturn, 1) := by decide +kernel
theorem dX3_joined_52 : decode cX3_joined 52 = .ok (.iload_n 1, 1) := by decide +kernel
theorem dX3_joined_53 : decode cX3_joined 53 = .ok (.iload_n 2, 1) := by decide +kernel
theorem dX3_joined_54 : decode cX3_joined 54 = .ok (.isub, 1) := by decide +kernel
theorem dX3_joined_55 : decode cX3_joined 55 = .ok (.ireturn, 1) := by decide +kernel
theorem dX3_joined_56 : decode cX3_joined 56 = .ok (.iload_n 1, 1) := by decide +kernel
theorem dX3_joined_57 : decode cX3_joined 57 = .ok (.iload_n 2, 1) := by decide +kernel
theorem dX3_joined_58 : decode cX3_joined 58 = .ok (.imul, 1) := by decide +kernel
theorem dX3_joined_59 : decode cX3_joined 59 = .ok (.ireturn, 1) := by decide +kernel
theorem dX3_joined_60 : decode cX3_joined 60 = .ok (.iload_n 1, 1) := by decide +kernel
theorem dX3_joined_61 : decode cX3_joined 61 = .ok (.iload_n 2, 1) := by decide +kernel
theorem dX3_joined_62 : decode cX3_joined 62 = .ok (.if_icmp .ne 7, 3) := by decide +kernel
theorem dX3_joined_65 : decode cX3_joined 65 = .ok (.iconst 1, 1) := by decide +kernel
theorem dX3_joined_66 : decode cX3_joined 66 = .ok (.goto 4, 3) := by decide +kernel
theorem dX3_joined_69 : decode cX3_joined 69 = .ok (.iconst 0, 1) := by decide +kernel
theorem dX3_joined_70 : decode cX3_joined 70 = .ok (.ireturn, 1) := by decide +kernel
theorem dX3_joined_71 : decode cX3_joined 71 = .ok (.iload_n 1, 1) := by decide +kernel
theorem dX3_joined_72 : decode cX3_joined 72 = .ok (.iload_n 2, 1) := by decide +kernel
theorem dX3_joined_73 : decode cX3_joined 73 = .ok (.if_icmp .eq 7, 3) := by decide +kernel
theorem dX3_joined_76 : decode cX3_joined 76 = .ok (.iconst 1, 1) := by decide +kernel
theorem dX3_joined_77 : decode cX3_joined 77 = .ok (.goto 4, 3) := by decide +kernel
theorem dX3_joined_80 : decode cX3_joined 80 = .ok (.iconst 0, 1) := by decide +kernel
theorem dX3_joined_81 : decode cX3_joined 81 = .ok (.ireturn, 1) := by decide +kernel
theorem dX3_joined_82 : decode cX3_joined 82 = .ok (.iload_n 1, 1) := by decide +kernel
theorem dX3_joined_83 : decode cX3_joined 83 = .ok (.iload_n 2, 1) := by decide +kernel
theorem dX3_joined_84 : decode cX3_joined 84 = .ok (.if_icmp .ge 7, 3) := by decide +kernel
theorem dX3_joined_87 : decode cX3_joined 87 = .ok (.iconst 1, 1) := by decide +kernel
theorem dX3_joined_88 : decode cX3_joined 88 = .ok (.goto 4, 3) := by decide +kernel
theorem dX3_joined_91 : decode cX3_joined 91 = .ok (.iconst 0, 1) := by decide +kernel
theorem dX3_joined_92 : decode cX3_joined 92 = .ok (.ireturn, 1) := by decide +kernel
theorem dX3_joined_93 : decode cX3_joined 93 = .ok (.iload_n 1, 1) := by decide +kernel
theorem dX3_joined_94 : decode cX3_joined 94 = .ok (.iload_n 2, 1) := by decide +kernel
theorem dX3_joined_95 : decode cX3_joined 95 = .ok (.if_icmp .gt 7, 3) := by decide +kernel
theorem dX3_joined_98 : decode cX3_joined 98 = .ok (.iconst 1, 1) := by decide +kernel
theorem dX3_joined_99 : decode cX3_joined 99 = .ok (.goto 4, 3) := by decide +kernel
theorem dX3_joined_102 : decode cX3_joined 102 = .ok (.iconst 0, 1) := by decide +kernel
theorem dX3_joined_103 : decode cX3_joined 103 = .ok (.ireturn, 1) := by decide +kernel
theorem dX3_joined_104 : decode cX3_joined 104 = .ok (.iload_n 1, 1) := by decide +kernel
theorem dX3_joined_105 : decode cX3_joined 105 = .ok (.iload_n 2, 1) := by decide +kernel
theorem dX3_joined_106 : decode cX3_joined 106 = .ok (.iand, 1) := by decide +kernel
theorem dX3_joined_107 : decode cX3_joined 107 = .ok (.ireturn, 1) := by decide +kernel
theorem dX3_joined_108 : decode cX3_joined 108 = .ok (.iload_n 1, 1) := by decide +kernel
theorem dX3_joined_109 : decode cX3_joined 109 = .ok (.iload_n 2, 1) := by decide +kernel
theorem dX3_joined_110 : decode cX3_joined 110 = .ok (.ior, 1) := by decide +kernel
theorem dX3_joined_111 : decode cX3_joined 111 = .ok (.ireturn, 1) := by decide +kernel
theorem dX4_init_0 : decode cX4_init 0 = .ok (.aload_n 0, 1) := by decide +kernel
theorem dX4_init_1 : decode cX4_init 1 = .ok (.invokespecial 3, 3) := by decide +kernel
theorem dX4_init_4 : decode cX4_init 4 = .ok (.aload_n 0, 1) := by decide +kernel
theorem dX4_init_5 : decode cX4_init 5 = .ok (.bipush 32, 2) := by decide +kernel
theorem dX4_init_7 : decode cX4_init 7 = .ok (.newarray .int, 2) := by decide +kernel
theorem dX4_init_9 : decode cX4_init 9 = .ok (.putfield 9, 3) := by decide +kernel
theorem dX4_init_12 : decode cX4_init 12 = .ok (.return_, 1) := by decide +kernel
theorem dX4_readText_0 : decode cX4_readText 0 = .ok (.aload_n 0, 1) := by decide +kernel
theorem dX4_readText_1 : decode cX4_readText 1 = .ok (.aload_n 2, 1) := by decide +kernel
theorem dX4_readText_2 : decode cX4_readText 2 = .ok (.putfield 15, 3) := by decide +kernel
theorem dX4_readText_5 : decode cX4_readText 5 = .ok (.aload_n 0, 1) := by decide +kernel
theorem dX4_readText_6 : decode cX4_readText 6 = .ok (.getfield 15, 3) := by decide +kernel
theorem dX4_readText_9 : decode cX4_readText 9 = .ok (.invokevirtual 19, 3) := by decide +kernel
theorem dX4_readText_12 : decode cX4_readText 12 = .ok (.aload_n 0, 1) := by decide +kernel
theorem dX4_readText_13 : decode cX4_readText 13 = .ok (.iconst 0, 1) := by decide +kernel
theorem dX4_readText_14 : decode cX4_readText 14 = .ok (.putfield 24, 3) := by decide +kernel
theorem dX4_readText_17 : decode cX4_readText 17 = .ok (.aload_n 0, 1) := by decide +kernel
theorem dX4_readText_18 : decode cX4_readText 18 = .ok (.iconst 0, 1) := by decide +kernel
theorem dX4_readText_19 : decode cX4_readText 19 = .ok (.putfield 28, 3) := by decide +kernel
theorem dX4_readText_22 : decode cX4_readText 22 = .ok (.aload_n 0, 1) := by decide +kernel
theorem dX4_readText_23 : decode cX4_readText 23 = .ok (.iconst 0, 1) := by decide +kernel
theorem dX4_readText_24 : decode cX4_readText 24 = .ok (.putfield 31, 3) := by decide +kernel
theorem dX4_readText_27 : decode cX4_readText 27 = .ok (.aload_n 1, 1) := by decide +kernel
theorem dX4_readText_28 : decode cX4_readText 28 = .ok (.iconst 0, 1) := by decide +kernel
theorem dX4_readText_29 : decode cX4_readText 29 = .ok (.putfield 34, 3) := by decide +kernel
theorem dX4_readText_32 : decode cX4_readText 32 = .ok (.iconst 0, 1) := by decide +kernel
theorem dX4_readText_33 : decode cX4_readText 33 = .ok (.istore_n 3, 1) := by decide +kernel
theorem dX4_readText_34 : decode cX4_readText 34 = .ok (.iload_n 3, 1) := by decide +kernel
theorem dX4_readText_35 : decode cX4_readText 35 = .ok (.sipush 400, 3) := by decide +kernel
theorem dX4_readText_38 : decode cX4_readText 38 = .ok (.if_icmp .gt 64, 3) := by decide +kernel
theorem dX4_readText_41 : decode cX4_readText 41 = .ok (.aload_n 1, 1) := by decide +kernel
theorem dX4_readText_42 : decode cX4_readText 42 = .ok (.invokevirtual 39, 3) := by decide +kernel
theorem dX4_readText_45 : decode cX4_readText 45 = .ok (.aload_n 1, 1) := by decide +kernel
theorem dX4_readText_46 : decode cX4_readText 46 = .ok (.getfield 42, 3) := by decide +kernel
theorem dX4_readText_49 : decode cX4_readText 49 = .ok (.ifCond .ne 16, 3) := by decide +kernel
theorem dX4_readText_52 : decode cX4_readText 52 = .ok (.aload_n 0, 1) := by decide +kernel
theorem dX4_readText_53 : decode cX4_readText 53 = .ok (.getfield 28, 3) := by decide +kernel
theorem dX4_readText_56 : decode cX4_readText 56 = .ok (.ifCond .ne 7, 3) := by decide +kernel
theorem dX4_readText_59 : decode cX4_readText 59 = .ok (.iconst 0, 1) := by decide +kernel
theorem dX4_readText_60 : decode cX4_readText 60 = .ok (.goto 4, 3) := by decide +kernel
theorem dX4_readText_63 : decode cX4_readText 63 = .ok (.iconst 1, 1) := by decide +kernel
theorem dX4_readText_64 : decode cX4_readText 64 = .ok (.ireturn, 1) := by decide +kernel
theorem dX4_readText_65 : decode cX4_readText 65 = .ok (.aload_n 0, 1) := by decide +kernel
theorem dX4_readText_66 : decode cX4_readText 66 = .ok (.aload_n 1, 1) := by decide +kernel
theorem dX4_readText_67 : decode cX4_readText 67 = .ok (.getfield 42, 3) := by decide +kernel
theorem dX4_readText_70 : decode cX4_readText 70 = .ok (.iload_n 3, 1) := by decide +kernel
theorem dX4_readText_71 : decode cX4_readText 71 = .ok (.invokevirtual 45, 3) := by decide +kernel
theorem dX4_readText_74 : decode cX4_readText 74 = .ok (.istore 4, 2) := by decide +kernel
theorem dX4_readText_76 : decode cX4_readText 76 = .ok (.iload 4, 2) := by decide +kernel
theorem dX4_readText_78 : decode cX4_readText 78 = .ok (.ifCond .eq 6, 3) := by decide +kernel
theorem dX4_readText_81 : decode cX4_readText 81 = .ok (.iload 4, 2) := by decide +kernel
theorem dX4_readText_83 : decode cX4_readText 83 = .ok (.ireturn, 1) := by decide +kernel
theorem dX4_readText_84 : decode cX4_readText 84 = .ok (.aload_n 0, 1) := by decide +kernel
theorem dX4_readText_85 : decode cX4_readText 85 = .ok (.aload_n 1, 1) := by decide +kernel
theorem dX4_readText_86 : decode cX4_readText 86 = .ok (.getfield 42, 3) := by decide +kernel
theorem dX4_readText_89 : decode cX4_readText 89 = .ok (.aload_n 1, 1) := by decide +kernel
theorem dX4_readText_90 : decode cX4_readText 90 = .ok (.getfield 49, 3) := by decide +kernel
theorem dX4_readText_93 : decode cX4_readText 93 = .ok (.invokevirtual 52, 3) := by decide +kernel
theorem dX4_readText_96 : decode cX4_readText 96 = .ok (.iinc 3 1, 3) := by decide +kernel
theorem dX4_readText_99 : decode cX4_readText 99 = .ok (.goto (-65), 3) := by decide +kernel
theorem dX4_readText_102 : decode cX4_readText 102 = .ok (.iconst 2, 1) := by decide +kernel
theorem dX4_readText_103 : decode cX4_readText 103 = .ok (.ireturn, 1) := by decide +kernel
theorem dX4_faultOf_0 : decode cX4_faultOf 0 = .ok (.aload_n 0, 1) := by decide +kernel
theorem dX4_faultOf_1 : decode cX4_faultOf 1 = .ok (.iload_n 1, 1) := by decide +kernel
theorem dX4_faultOf_2 : decode cX4_faultOf 2 = .ok (.invokevirtual 56, 3) := by decide +kernel
theorem dX4_faultOf_5 : decode cX4_faultOf 5 = .ok (.ifCond .ne 5, 3) := by decide +kernel
theorem dX4_faultOf_8 : decode cX4_faultOf 8 = .ok (.iconst 1, 1) := by decide +kernel
theorem dX4_faultOf_9 : decode cX4_faultOf 9 = .ok (.ireturn, 1) := by decide +kernel
theorem dX4_faultOf_10 : decode cX4_faultOf 10 = .ok (.iload_n 2, 1) := by decide +kernel
theorem dX4_faultOf_11 : decode cX4_faultOf 11 = .ok (.sipush 400, 3) := by decide +kernel
theorem dX4_faultOf_14 : decode cX4_faultOf 14 = .ok (.if_icmp .ge 35, 3) := by decide +kernel
theorem dX4_faultOf_17 : decode cX4_faultOf 17 = .ok (.iload_n 1, 1) := by decide +kernel
theorem dX4_faultOf_18 : decode cX4_faultOf 18 = .ok (.iconst 4, 1) := by decide +kernel
theorem dX4_faultOf_19 : decode cX4_faultOf 19 = .ok (.if_icmp .ne 15, 3) := by decide +kernel
theorem dX4_faultOf_22 : decode cX4_faultOf 22 = .ok (.aload_n 0, 1) := by decide +kernel
theorem dX4_faultOf_23 : decode cX4_faultOf 23 = .ok (.getfield 15, 3) := by decide +kernel
theorem dX4_faultOf_26 : decode cX4_faultOf 26 = .ok (.getfield 60, 3) := by decide +kernel
theorem dX4_faultOf_29 : decode cX4_faultOf 29 = .ok (.bipush 16, 2) := by decide +kernel
theorem dX4_faultOf_31 : decode cX4_faultOf 31 = .ok (.if_icmp .ge 18, 3) := by decide +kernel
theorem dX4_faultOf_34 : decode cX4_faultOf 34 = .ok (.iload_n 1, 1) := by decide +kernel
theorem dX4_faultOf_35 : decode cX4_faultOf 35 = .ok (.bipush 8, 2) := by decide +kernel
theorem dX4_faultOf_37 : decode cX4_faultOf 37 = .ok (.if_icmp .ne 16, 3) := by decide +kernel
theorem dX4_faultOf_40 : decode cX4_faultOf 40 = .ok (.aload_n 0, 1) := by decide +kernel
theorem dX4_faultOf_41 : decode cX4_faultOf 41 = .ok (.getfield 31, 3) := by decide +kernel
theorem dX4_faultOf_44 : decode cX4_faultOf 44 = .ok (.bipush 6, 2) := by decide +kernel
theorem dX4_faultOf_46 : decode cX4_faultOf 46 = .ok (.if_icmp .lt 7, 3) := by decide +kernel
theorem dX4_faultOf_49 : decode cX4_faultOf 49 = .ok (.iconst 1, 1) := by decide +kernel
theorem dX4_faultOf_50 : decode cX4_faultOf 50 = .ok (.goto 4, 3) := by decide +kernel
theorem dX4_faultOf_53 : decode cX4_faultOf 53 = .ok (.iconst 0, 1) := by decide +kernel
theorem dX4_faultOf_54 : decode cX4_faultOf 54 = .ok (.istore_n 3, 1) := by decide +kernel
theorem dX4_faultOf_55 : decode cX4_faultOf 55 = .ok (.iload_n 3, 1) := by decide +kernel
theorem dX4_faultOf_56 : decode cX4_faultOf 56 = .ok (.ifCond .eq 7, 3) := by decide +kernel
theorem dX4_faultOf_59 : decode cX4_faultOf 59 = .ok (.iconst 2, 1) := by decide +kernel
theorem dX4_faultOf_60 : decode cX4_faultOf 60 = .ok (.goto 4, 3) := by decide +kernel
theorem dX4_faultOf_63 : decode cX4_faultOf 63 = .ok (.iconst 0, 1) := by decide +kernel
theorem dX4_faultOf_64 : decode cX4_faultOf 64 = .ok (.ireturn, 1) := by decide +kernel
theorem dX4_goesOn_0 : decode cX4_goesOn 0 = .ok (.aload_n 0, 1) := by decide +kernel
theorem dX4_goesOn_1 : decode cX4_goesOn 1 = .ok (.getfield 28, 3) := by decide +kernel
theorem dX4_goesOn_4 : decode cX4_goesOn 4 = .ok (.ifCond .ne 14, 3) := by decide +kernel
theorem dX4_goesOn_7 : decode cX4_goesOn 7 = .ok (.iload_n 1, 1) := by decide +kernel
theorem dX4_goesOn_8 : decode cX4_goesOn 8 = .ok (.iconst 4, 1) := by decide +kernel
theorem dX4_goesOn_9 : decode cX4_goesOn 9 = .ok (.if_icmp .ne 7, 3) := by decide +kernel
theorem dX4_goesOn_12 : decode cX4_goesOn 12 = .ok (.iconst 1, 1) := by decide +kernel
theorem dX4_goesOn_13 : decode cX4_goesOn 13 = .ok (.goto 4, 3) := by decide +kernel
theorem dX4_goesOn_16 : decode cX4_goesOn 16 = .ok (.iconst 0, 1) := by decide +kernel
theorem dX4_goesOn_17 : decode cX4_goesOn 17 = .ok (.ireturn, 1) := by decide +kernel
theorem dX4_goesOn_18 : decode cX4_goesOn 18 = .ok (.aload_n 0, 1) := by decide +kernel
theorem dX4_goesOn_19 : decode cX4_goesOn 19 = .ok (.getfield 28, 3) := by decide +kernel
theorem dX4_goesOn_22 : decode cX4_goesOn 22 = .ok (.iconst 1, 1) := by decide +kernel
theorem dX4_goesOn_23 : decode cX4_goesOn 23 = .ok (.if_icmp .ne 25, 3) := by decide +kernel
theorem dX4_goesOn_26 : decode cX4_goesOn 26 = .ok (.iload_n 1, 1) := by decide +kernel
theorem dX4_goesOn_27 : decode cX4_goesOn 27 = .ok (.iconst 2, 1) := by decide +kernel
theorem dX4_goesOn_28 : decode cX4_goesOn 28 = .ok (.if_icmp .eq 14, 3) := by decide +kernel
theorem dX4_goesOn_31 : decode cX4_goesOn 31 = .ok (.iload_n 1, 1) := by decide +kernel
theorem dX4_goesOn_32 : decode cX4_goesOn 32 = .ok (.iconst 3, 1) := by decide +kernel
theorem dX4_goesOn_33 : decode cX4_goesOn 33 = .ok (.if_icmp .eq 9, 3) := by decide +kernel
theorem dX4_goesOn_36 : decode cX4_goesOn 36 = .ok (.iload_n 1, 1) := by decide +kernel
theorem dX4_goesOn_37 : decode cX4_goesOn 37 = .ok (.bipush 8, 2) := by decide +kernel
theorem dX4_goesOn_39 : decode cX4_goesOn 39 = .ok (.if_icmp .ne 7, 3) := by decide +kernel
theorem dX4_goesOn_42 : decode cX4_goesOn 42 = .ok (.iconst 1, 1) := by decide +kernel
theorem dX4_goesOn_43 : decode cX4_goesOn 43 = .ok (.goto 4, 3) := by decide +kernel
theorem dX4_goesOn_46 : decode cX4_goesOn 46 = .ok (.iconst 0, 1) := by decide +kernel
theorem dX4_goesOn_47 : decode cX4_goesOn 47 = .ok (.ireturn, 1) := by decide +kernel
theorem dX4_goesOn_48 : decode cX4_goesOn 48 = .ok (.iload_n 1, 1) := by decide +kernel
theorem dX4_goesOn_49 : decode cX4_goesOn 49 = .ok (.bipush 15, 2) := by decide +kernel
theorem dX4_goesOn_51 : decode cX4_goesOn 51 = .ok (.if_icmp .lt 5, 3) := by decide +kernel
theorem dX4_goesOn_54 : decode cX4_goesOn 54 = .ok (.iconst 1, 1) := by decide +kernel
theorem dX4_goesOn_55 : decode cX4_goesOn 55 = .ok (.ireturn, 1) := by decide +kernel
theorem dX4_goesOn_56 : decode cX4_goesOn 56 = .ok (.aload_n 0, 1) := by decide +kernel
theorem dX4_goesOn_57 : decode cX4_goesOn 57 = .ok (.getfield 31, 3) := by decide +kernel
theorem dX4_goesOn_60 : decode cX4_goesOn 60 = .ok (.ifCond .le 15, 3) := by decide +kernel
theorem dX4_goesOn_63 : decode cX4_goesOn 63 = .ok (.iload_n 1, 1) := by decide +kernel
theorem dX4_goesOn_64 : decode cX4_goesOn 64 = .ok (.bipush 7, 2) := by decide +kernel
theorem dX4_goesOn_66 : decode cX4_goesOn 66 = .ok (.if_icmp .ne 7, 3) := by decide +kernel
theorem dX4_goesOn_69 : decode cX4_goesOn 69 = .ok (.iconst 1, 1) := by decide +kernel
theorem dX4_goesOn_70 : decode cX4_goesOn 70 = .ok (.goto 4, 3) := by decide +kernel
theorem dX4_goesOn_73 : decode cX4_goesOn 73 = .ok (.iconst 0, 1) := by decide +kernel
theorem dX4_goesOn_74 : decode cX4_goesOn 74 = .ok (.ireturn, 1) := by decide +kernel
theorem dX4_goesOn_75 : decode cX4_goesOn 75 = .ok (.aload_n 0, 1) := by decide +kernel
theorem dX4_goesOn_76 : decode cX4_goesOn 76 = .ok (.getfield 63, 3) := by decide +kernel
theorem dX4_goesOn_79 : decode cX4_goesOn 79 = .ok (.iconst 1, 1) := by decide +kernel
theorem dX4_goesOn_80 : decode cX4_goesOn 80 = .ok (.if_icmp .ne 21, 3) := by decide +kernel
theorem dX4_goesOn_83 : decode cX4_goesOn 83 = .ok (.iload_n 1, 1) := by decide +kernel
theorem dX4_goesOn_84 : decode cX4_goesOn 84 = .ok (.bipush 11, 2) := by decide +kernel
theorem dX4_goesOn_86 : decode cX4_goesOn 86 = .ok (.if_icmp .lt 13, 3) := by decide +kernel
theorem dX4_goesOn_89 : decode cX4_goesOn 89 = .ok (.iload_n 1, 1) := by decide +kernel
theorem dX4_goesOn_90 : decode cX4_goesOn 90 = .ok (.bipush 14, 2) := by decide +kernel
theorem dX4_goesOn_92 : decode cX4_goesOn 92 = .ok (.if_icmp .gt 7, 3) := by decide +kernel
theorem dX4_goesOn_95 : decode cX4_goesOn 95 = .ok (.iconst 1, 1) := by decide +kernel
theorem dX4_goesOn_96 : decode cX4_goesOn 96 = .ok (.goto 4, 3) := by decide +kernel
theorem dX4_goesOn_99 : decode cX4_goesOn 99 = .ok (.iconst 0, 1) := by decide +kernel
theorem dX4_goesOn_100 : decode cX4_goesOn 100 = .ok (.ireturn, 1) := by decide +kernel
theorem dX4_goesOn_101 : decode cX4_goesOn 101 = .ok (.aload_n 0, 1) := by decide +kernel
theorem dX4_goesOn_102 : decode cX4_goesOn 102 = .ok (.getfield 63, 3) := by decide +kernel
theorem dX4_goesOn_105 : decode cX4_goesOn 105 = .ok (.iconst 2, 1) := by decide +kernel
theorem dX4_goesOn_106 : decode cX4_goesOn 106 = .ok (.if_icmp .ne 27, 3) := by decide +kernel
theorem dX4_goesOn_109 : decode cX4_goesOn 109 = .ok (.iload_n 1, 1) := by decide +kernel
theorem dX4_goesOn_110 : decode cX4_goesOn 110 = .ok (.bipush 10, 2) := by decide +kernel
theorem dX4_goesOn_112 : decode cX4_goesOn 112 = .ok (.if_icmp .eq 15, 3) := by decide +kernel
theorem dX4_goesOn_115 : decode cX4_goesOn 115 = .ok (.iload_n 1, 1) := by decide +kernel
theorem dX4_goesOn_116 : decode cX4_goesOn 116 = .ok (.bipush 9, 2) := by decide +kernel
theorem dX4_goesOn_118 : decode cX4_goesOn 118 = .ok (.if_icmp .eq 9, 3) := by decide +kernel
theorem dX4_goesOn_121 : decode cX4_goesOn 121 = .ok (.iload_n 1, 1) := by decide +kernel
theorem dX4_goesOn_122 : decode cX4_goesOn 122 = .ok (.bipush 6, 2) := by decide +kernel
theorem dX4_goesOn_124 : decode cX4_goesOn 124 = .ok (.if_icmp .ne 7, 3) := by decide +kernel
theorem dX4_goesOn_127 : decode cX4_goesOn 127 = .ok (.iconst 1, 1) := by decide +kernel
theorem dX4_goesOn_128 : decode cX4_goesOn 128 = .ok (.goto 4, 3) := by decide +kernel
theorem dX4_goesOn_131 : decode cX4_goesOn 131 = .ok (.iconst 0, 1) := by decide +kernel
theorem dX4_goesOn_132 : decode cX4_goesOn 132 = .ok (.ireturn, 1) := by decide +kernel
theorem dX4_goesOn_133 : decode cX4_goesOn 133 = .ok (.iload_n 1, 1) := by decide +kernel
theorem dX4_goesOn_134 : decode cX4_goesOn 134 = .ok (.iconst 5, 1) := by decide +kernel
theorem dX4_goesOn_135 : decode cX4_goesOn 135 = .ok (.if_icmp .eq 9, 3) := by decide +kernel
theorem dX4_goesOn_138 : decode cX4_goesOn 138 = .ok (.iload_n 1, 1) := by decide +kernel
theorem dX4_goesOn_139 : decode cX4_goesOn 139 = .ok (.bipush 6, 2) := by decide +kernel
theorem dX4_goesOn_141 : decode cX4_goesOn 141 = .ok (.if_icmp .ne 7, 3) := by decide +kernel
theorem dX4_goesOn_144 : decode cX4_goesOn 144 = .ok (.iconst 1, 1) := by decide +kernel
theorem dX4_goesOn_145 : decode cX4_goesOn 145 = .ok (.goto 4, 3) := by decide +kernel
theorem dX4_goesOn_148 : decode cX4_goesOn 148 = .ok (.iconst 0, 1) := by decide +kernel
theorem dX4_goesOn_149 : decode cX4_goesOn 149 = .ok (.ireturn, 1) := by decide +kernel
theorem dX4_take_0 : decode cX4_take 0 = .ok (.iload_n 1, 1) := by decide +kernel
theorem dX4_take_1 : decode cX4_take 1 = .ok (.tableswitch 202 2 8 #[64, 80, 43, 145, 170, 117, 99], 43) := by decide +kernel
theorem dX4_take_44 : decode cX4_take 44 = .ok (.aload_n 0, 1) := by decide +kernel
theorem dX4_take_45 : decode cX4_take 45 = .ok (.getfield 15, 3) := by decide +kernel
theorem dX4_take_48 : decode cX4_take 48 = .ok (.iload_n 2, 1) := by decide +kernel
theorem dX4_take_49 : decode cX4_take 49 = .ok (.invokevirtual 66, 3) := by decide +kernel
theorem dX4_take_52 : decode cX4_take 52 = .ok (.aload_n 0, 1) := by decide +kernel
theorem dX4_take_53 : decode cX4_take 53 = .ok (.iconst 0, 1) := by decide +kernel
theorem dX4_take_54 : decode cX4_take 54 = .ok (.putfield 63, 3) := by decide +kernel
theorem dX4_take_57 : decode cX4_take 57 = .ok (.aload_n 0, 1) := by decide +kernel
theorem dX4_take_58 : decode cX4_take 58 = .ok (.iconst 1, 1) := by decide +kernel
theorem dX4_take_59 : decode cX4_take 59 = .ok (.putfield 28, 3) := by decide +kernel
theorem dX4_take_62 : decode cX4_take 62 = .ok (.goto 146, 3) := by decide +kernel
theorem dX4_take_65 : decode cX4_take 65 = .ok (.aload_n 0, 1) := by decide +kernel
theorem dX4_take_66 : decode cX4_take 66 = .ok (.getfield 15, 3) := by decide +kernel
theorem dX4_take_69 : decode cX4_take 69 = .ok (.iload_n 2, 1) := by decide +kernel
theorem dX4_take_70 : decode cX4_take 70 = .ok (.invokevirtual 70, 3) := by decide +kernel
theorem dX4_take_73 : decode cX4_take 73 = .ok (.aload_n 0, 1) := by decide +kernel
theorem dX4_take_74 : decode cX4_take 74 = .ok (.iconst 2, 1) := by decide +kernel
theorem dX4_take_75 : decode cX4_take 75 = .ok (.putfield 28, 3) := by decide +kernel
theorem dX4_take_78 : decode cX4_take 78 = .ok (.goto 130, 3) := by decide +kernel
theorem dX4_take_81 : decode cX4_take 81 = .ok (.aload_n 0, 1) := by decide +kernel
theorem dX4_take_82 : decode cX4_take 82 = .ok (.getfield 15, 3) := by decide +kernel
theorem dX4_take_85 : decode cX4_take 85 = .ok (.bipush (-100), 2) := by decide +kernel
theorem dX4_take_87 : decode cX4_take 87 = .ok (.iload_n 2, 1) := by decide +kernel
theorem dX4_take_88 : decode cX4_take 88 = .ok (.isub, 1) := by decide +kernel
theorem dX4_take_89 : decode cX4_take 89 = .ok (.invokevirtual 70, 3) := by decide +kernel
theorem dX4_take_92 : decode cX4_take 92 = .ok (.aload_n 0, 1) := by decide +kernel
theorem dX4_take_93 : decode cX4_take 93 = .ok (.iconst 2, 1) := by decide +kernel
theorem dX4_take_94 : decode cX4_take 94 = .ok (.putfield 28, 3) := by decide +kernel
theorem dX4_take_97 : decode cX4_take 97 = .ok (.goto 111, 3) := by decide +kernel
theorem dX4_take_100 : decode cX4_take 100 = .ok (.aload_n 0, 1) := by decide +kernel
theorem dX4_take_101 : decode cX4_take 101 = .ok (.iload_n 1, 1) := by decide +kernel
theorem dX4_take_102 : decode cX4_take 102 = .ok (.invokevirtual 73, 3) := by decide +kernel
theorem dX4_take_105 : decode cX4_take 105 = .ok (.aload_n 0, 1) := by decide +kernel
theorem dX4_take_106 : decode cX4_take 106 = .ok (.dup, 1) := by decide +kernel
theorem dX4_take_107 : decode cX4_take 107 = .ok (.getfield 31, 3) := by decide +kernel
theorem dX4_take_110 : decode cX4_take 110 = .ok (.iconst 1, 1) := by decide +kernel
theorem dX4_take_111 : decode cX4_take 111 = .ok (.iadd, 1) := by decide +kernel
theorem dX4_take_112 : decode cX4_take 112 = .ok (.putfield 31, 3) := by decide +kernel
theorem dX4_take_115 : decode cX4_take 115 = .ok (.goto 93, 3) := by decide +kernel
theorem dX4_take_118 : decode cX4_take 118 = .ok (.aload_n 0, 1) := by decide +kernel
theorem dX4_take_119 : decode cX4_take 119 = .ok (.iconst 1, 1) := by decide +kernel
theorem dX4_take_120 : decode cX4_take 120 = .ok (.invokevirtual 76, 3) := by decide +kernel
theorem dX4_take_123 : decode cX4_take 123 = .ok (.aload_n 0, 1) := by decide +kernel
theorem dX4_take_124 : decode cX4_take 124 = .ok (.dup, 1) := by decide +kernel
theorem dX4_take_125 : decode cX4_take 125 = .ok (.getfield 24, 3) := by decide +kernel
theorem dX4_take_128 : decode cX4_take 128 = .ok (.iconst 1, 1) := by decide +kernel
theorem dX4_take_129 : decode cX4_take 129 = .ok (.isub, 1) := by decide +kernel
theorem dX4_take_130 : decode cX4_take 130 = .ok (.putfield 24, 3) := by decide +kernel
theorem dX4_take_133 : decode cX4_take 133 = .ok (.aload_n 0, 1) := by decide +kernel
theorem dX4_take_134 : decode cX4_take 134 = .ok (.dup, 1) := by decide +kernel
theorem dX4_take_135 : decode cX4_take 135 = .ok (.getfield 31, 3) := by decide +kernel
theorem dX4_take_138 : decode cX4_take 138 = .ok (.iconst 1, 1) := by decide +kernel
theorem dX4_take_139 : decode cX4_take 139 = .ok (.isub, 1) := by decide +kernel
theorem dX4_take_140 : decode cX4_take 140 = .ok (.putfield 31, 3) := by decide +kernel
theorem dX4_take_143 : decode cX4_take 143 = .ok (.goto 65, 3) := by decide +kernel
theorem dX4_take_146 : decode cX4_take 146 = .ok (.aload_n 0, 1) := by decide +kernel
theorem dX4_take_147 : decode cX4_take 147 = .ok (.iconst 1, 1) := by decide +kernel
theorem dX4_take_148 : decode cX4_take 148 = .ok (.invokevirtual 76, 3) := by decide +kernel
theorem dX4_take_151 : decode cX4_take 151 = .ok (.aload_n 0, 1) := by decide +kernel
theorem dX4_take_152 : decode cX4_take 152 = .ok (.getfield 15, 3) := by decide +kernel
theorem dX4_take_155 : decode cX4_take 155 = .ok (.invokevirtual 79, 3) := by decide +kernel
theorem dX4_take_158 : decode cX4_take 158 = .ok (.aload_n 0, 1) := by decide +kernel
theorem dX4_take_159 : decode cX4_take 159 = .ok (.iconst 1, 1) := by decide +kernel
theorem dX4_take_160 : decode cX4_take 160 = .ok (.putfield 63, 3) := by decide +kernel
theorem dX4_take_163 : decode cX4_take 163 = .ok (.aload_n 0, 1) := by decide +kernel
theorem dX4_take_164 : decode cX4_take 164 = .ok (.iconst 1, 1) := by decide +kernel
theorem dX4_take_165 : decode cX4_take 165 = .ok (.putfield 28, 3) := by decide +kernel
theorem dX4_take_168 : decode cX4_take 168 = .ok (.goto 40, 3) := by decide +kernel
theorem dX4_take_171 : decode cX4_take 171 = .ok (.aload_n 0, 1) := by decide +kernel
theorem dX4_take_172 : decode cX4_take 172 = .ok (.iconst 1, 1) := by decide +kernel
theorem dX4_take_173 : decode cX4_take 173 = .ok (.invokevirtual 76, 3) := by decide +kernel
theorem dX4_take_176 : decode cX4_take 176 = .ok (.aload_n 0, 1) := by decide +kernel
theorem dX4_take_177 : decode cX4_take 177 = .ok (.getfield 15, 3) := by decide +kernel
theorem dX4_take_180 : decode cX4_take 180 = .ok (.aload_n 0, 1) := by decide +kernel
theorem dX4_take_181 : decode cX4_take 181 = .ok (.getfield 63, 3) := by decide +kernel
theorem dX4_take_184 : decode cX4_take 184 = .ok (.ifCond .eq 7, 3) := by decide +kernel
theorem dX4_take_187 : decode cX4_take 187 = .ok (.iconst 1, 1) := by decide +kernel
theorem dX4_take_188 : decode cX4_take 188 = .ok (.goto 4, 3) := by decide +kernel
theorem dX4_take_191 : decode cX4_take 191 = .ok (.iconst 0, 1) := by decide +kernel
theorem dX4_take_192 : decode cX4_take 192 = .ok (.invokevirtual 82, 3) := by decide +kernel
theorem dX4_take_195 : decode cX4_take 195 = .ok (.aload_n 0, 1) := by decide +kernel
theorem dX4_take_196 : decode cX4_take 196 = .ok (.iconst 0, 1) := by decide +kernel
theorem dX4_take_197 : decode cX4_take 197 = .ok (.putfield 28, 3) := by decide +kernel
theorem dX4_take_200 : decode cX4_take 200 = .ok (.goto 8, 3) := by decide +kernel
theorem dX4_take_203 : decode cX4_take 203 = .ok (.aload_n 0, 1) := by decide +kernel
theorem dX4_take_204 : decode cX4_take 204 = .ok (.iload_n 1, 1) := by decide +kernel
theorem dX4_take_205 : decode cX4_take 205 = .ok (.invokevirtual 86, 3) := by decide +kernel
theorem dX4_take_208 : decode cX4_take 208 = .ok (.return_, 1) := by decide +kernel
theorem dX4_takeOperator_0 : decode cX4_takeOperator 0 = .ok (.aload_n 0, 1) := by decide +kernel
theorem dX4_takeOperator_1 : decode cX4_takeOperator 1 = .ok (.iload_n 1, 1) := by decide +kernel
theorem dX4_takeOperator_2 : decode cX4_takeOperator 2 = .ok (.invokestatic 89, 3) := by decide +kernel
theorem dX4_takeOperator_5 : decode cX4_takeOperator 5 = .ok (.invokevirtual 76, 3) := by decide +kernel
theorem dX4_takeOperator_8 : decode cX4_takeOperator 8 = .ok (.aload_n 0, 1) := by decide +kernel
theorem dX4_takeOperator_9 : decode cX4_takeOperator 9 = .ok (.iload_n 1, 1) := by decide +kernel
theorem dX4_takeOperator_10 : decode cX4_takeOperator 10 = .ok (.invokevirtual 73, 3) := by decide +kernel
theorem dX4_takeOperator_13 : decode cX4_takeOperator 13 = .ok (.aload_n 0, 1) := by decide +kernel
theorem dX4_takeOperator_14 : decode cX4_takeOperator 14 = .ok (.iconst 1, 1) := by decide +kernel
theorem dX4_takeOperator_15 : decode cX4_takeOperator 15 = .ok (.putfield 28, 3) := by decide +kernel
theorem dX4_takeOperator_18 : decode cX4_takeOperator 18 = .ok (.iload_n 1, 1) := by decide +kernel
theorem dX4_takeOperator_19 : decode cX4_takeOperator 19 = .ok (.bipush 10, 2) := by decide +kernel
theorem dX4_takeOperator_21 : decode cX4_takeOperator 21 = .ok (.if_icmp .eq 9, 3) := by decide +kernel
theorem dX4_takeOperator_24 : decode cX4_takeOperator 24 = .ok (.iload_n 1, 1) := by decide +kernel
theorem dX4_takeOperator_25 : decode cX4_takeOperator 25 = .ok (.bipush 9, 2) := by decide +kernel
theorem dX4_takeOperator_27 : decode cX4_takeOperator 27 = .ok (.if_icmp .ne 11, 3) := by decide +kernel
theorem dX4_takeOperator_30 : decode cX4_takeOperator 30 = .ok (.aload_n 0, 1) := by decide +kernel
theorem dX4_takeOperator_31 : decode cX4_takeOperator 31 = .ok (.iconst 1, 1) := by decide +kernel
theorem dX4_takeOperator_32 : decode cX4_takeOperator 32 = .ok (.putfield 63, 3) := by decide +kernel
theorem dX4_takeOperator_35 : decode cX4_takeOperator 35 = .ok (.goto 14, 3) := by decide +kernel
theorem dX4_takeOperator_38 : decode cX4_takeOperator 38 = .ok (.iload_n 1, 1) := by decide +kernel
theorem dX4_takeOperator_39 : decode cX4_takeOperator 39 = .ok (.bipush 15, 2) := by decide +kernel
theorem dX4_takeOperator_41 : decode cX4_takeOperator 41 = .ok (.if_icmp .ge 8, 3) := by decide +kernel
theorem dX4_takeOperator_44 : decode cX4_takeOperator 44 = .ok (.aload_n 0, 1) := by decide +kernel
theorem dX4_takeOperator_45 : decode cX4_takeOperator 45 = .ok (.iconst 2, 1) := by decide +kernel
theorem dX4_takeOperator_46 : decode cX4_takeOperator 46 = .ok (.putfield 63, 3) := by decide +kernel
theorem dX4_takeOperator_49 : decode cX4_takeOperator 49 = .ok (.return_, 1) := by decide +kernel
theorem dX4_await_0 : decode cX4_await 0 = .ok (.aload_n 0, 1) := by decide +kernel
theorem dX4_await_1 : decode cX4_await 1 = .ok (.getfield 24, 3) := by decide +kernel
theorem dX4_await_4 : decode cX4_await 4 = .ok (.aload_n 0, 1) := by decide +kernel
theorem dX4_await_5 : decode cX4_await 5 = .ok (.getfield 9, 3) := by decide +kernel
theorem dX4_await_8 : decode cX4_await 8 = .ok (.arraylength, 1) := by decide +kernel
theorem dX4_await_9 : decode cX4_await 9 = .ok (.if_icmp .ge 23, 3) := by decide +kernel
theorem dX4_await_12 : decode cX4_await 12 = .ok (.aload_n 0, 1) := by decide +kernel
theorem dX4_await_13 : decode cX4_await 13 = .ok (.getfield 9, 3) := by decide +kernel
theorem dX4_await_16 : decode cX4_await 16 = .ok (.aload_n 0, 1) := by decide +kernel
theorem dX4_await_17 : decode cX4_await 17 = .ok (.getfield 24, 3) := by decide +kernel
theorem dX4_await_20 : decode cX4_await 20 = .ok (.iload_n 1, 1) := by decide +kernel
theorem dX4_await_21 : decode cX4_await 21 = .ok (.iastore, 1) := by decide +kernel
theorem dX4_await_22 : decode cX4_await 22 = .ok (.aload_n 0, 1) := by decide +kernel
theorem dX4_await_23 : decode cX4_await 23 = .ok (.dup, 1) := by decide +kernel
theorem dX4_await_24 : decode cX4_await 24 = .ok (.getfield 24, 3) := by decide +kernel
theorem dX4_await_27 : decode cX4_await 27 = .ok (.iconst 1, 1) := by decide +kernel
theorem dX4_await_28 : decode cX4_await 28 = .ok (.iadd, 1) := by decide +kernel
theorem dX4_await_29 : decode cX4_await 29 = .ok (.putfield 24, 3) := by decide +kernel
theorem dX4_await_32 : decode cX4_await 32 = .ok (.return_, 1) := by decide +kernel
theorem dX4_release_0 : decode cX4_release 0 = .ok (.aload_n 0, 1) := by decide +kernel
theorem dX4_release_1 : decode cX4_release 1 = .ok (.getfield 24, 3) := by decide +kernel
theorem dX4_release_4 : decode cX4_release 4 = .ok (.ifCond .le 51, 3) := by decide +kernel
theorem dX4_release_7 : decode cX4_release 7 = .ok (.aload_n 0, 1) := by decide +kernel
theorem dX4_release_8 : decode cX4_release 8 = .ok (.getfield 9, 3) := by decide +kernel
theorem dX4_release_11 : decode cX4_release 11 = .ok (.aload_n 0, 1) := by decide +kernel
theorem dX4_release_12 : decode cX4_release 12 = .ok (.getfield 24, 3) := by decide +kernel
theorem dX4_release_15 : decode cX4_release 15 = .ok (.iconst 1, 1) := by decide +kernel
theorem dX4_release_16 : decode cX4_release 16 = .ok (.isub, 1) := by decide +kernel
theorem dX4_release_17 : decode cX4_release 17 = .ok (.iaload, 1) := by decide +kernel
theorem dX4_release_18 : decode cX4_release 18 = .ok (.invokestatic 89, 3) := by decide +kernel
theorem dX4_release_21 : decode cX4_release 21 = .ok (.iload_n 1, 1) := by decide +kernel
theorem dX4_release_22 : decode cX4_release 22 = .ok (.if_icmp .lt 33, 3) := by decide +kernel
theorem dX4_release_25 : decode cX4_release 25 = .ok (.aload_n 0, 1) := by decide +kernel
theorem dX4_release_26 : decode cX4_release 26 = .ok (.dup, 1) := by decide +kernel
theorem dX4_release_27 : decode cX4_release 27 = .ok (.getfield 24, 3) := by decide +kernel
theorem dX4_release_30 : decode cX4_release 30 = .ok (.iconst 1, 1) := by decide +kernel
theorem dX4_release_31 : decode cX4_release 31 = .ok (.isub, 1) := by decide +kernel
theorem dX4_release_32 : decode cX4_release 32 = .ok (.putfield 24, 3) := by decide +kernel
theorem dX4_release_35 : decode cX4_release 35 = .ok (.aload_n 0, 1) := by decide +kernel
theorem dX4_release_36 : decode cX4_release 36 = .ok (.getfield 15, 3) := by decide +kernel
theorem dX4_release_39 : decode cX4_release 39 = .ok (.aload_n 0, 1) := by decide +kernel
theorem dX4_release_40 : decode cX4_release 40 = .ok (.getfield 9, 3) := by decide +kernel
theorem dX4_release_43 : decode cX4_release 43 = .ok (.aload_n 0, 1) := by decide +kernel
theorem dX4_release_44 : decode cX4_release 44 = .ok (.getfield 24, 3) := by decide +kernel
theorem dX4_release_47 : decode cX4_release 47 = .ok (.iaload, 1) := by decide +kernel
theorem dX4_release_48 : decode cX4_release 48 = .ok (.ineg, 1) := by decide +kernel
theorem dX4_release_49 : decode cX4_release 49 = .ok (.invokevirtual 70, 3) := by decide +kernel
theorem dX4_release_52 : decode cX4_release 52 = .ok (.goto (-52), 3) := by decide +kernel
theorem dX4_release_55 : decode cX4_release 55 = .ok (.return_, 1) := by decide +kernel
theorem dX4_rank_0 : decode cX4_rank 0 = .ok (.iload_n 0, 1) := by decide +kernel
theorem dX4_rank_1 : decode cX4_rank 1 = .ok (.bipush 8, 2) := by decide +kernel
theorem dX4_rank_3 : decode cX4_rank 3 = .ok (.isub, 1) := by decide +kernel
theorem dX4_rank_4 : decode cX4_rank 4 = .ok (.istore_n 1, 1) := by decide +kernel
theorem dX4_rank_5 : decode cX4_rank 5 = .ok (.iload_n 1, 1) := by decide +kernel
theorem dX4_rank_6 : decode cX4_rank 6 = .ok (.ifCond .lt 19, 3) := by decide +kernel
theorem dX4_rank_9 : decode cX4_rank 9 = .ok (.iload_n 1, 1) := by decide +kernel
theorem dX4_rank_10 : decode cX4_rank 10 = .ok (.getstatic 93, 3) := by decide +kernel
theorem dX4_rank_13 : decode cX4_rank 13 = .ok (.arraylength, 1) := by decide +kernel
theorem dX4_rank_14 : decode cX4_rank 14 = .ok (.if_icmp .ge 11, 3) := by decide +kernel
theorem dX4_rank_17 : decode cX4_rank 17 = .ok (.getstatic 93, 3) := by decide +kernel
theorem dX4_rank_20 : decode cX4_rank 20 = .ok (.iload_n 1, 1) := by decide +kernel
theorem dX4_rank_21 : decode cX4_rank 21 = .ok (.iaload, 1) := by decide +kernel
theorem dX4_rank_22 : decode cX4_rank 22 = .ok (.goto 4, 3) := by decide +kernel
theorem dX4_rank_25 : decode cX4_rank 25 = .ok (.iconst 0, 1) := by decide +kernel
theorem dX4_rank_26 : decode cX4_rank 26 = .ok (.ireturn, 1) := by decide +kernel
theorem dX5_init_0 : decode cX5_init 0 = .ok (.aload_n 0, 1) := by decide +kernel
theorem dX5_init_1 : decode cX5_init 1 = .ok (.invokespecial 3, 3) := by decide +kernel
theorem dX5_init_4 : decode cX5_init 4 = .ok (.aload_n 0, 1) := by decide +kernel
theorem dX5_init_5 : decode cX5_init 5 = .ok (.bipush 8, 2) := by decide +kernel
theorem dX5_init_7 : decode cX5_init 7 = .ok (.newarray .int, 2) := by decide +kernel
theorem dX5_init_9 : decode cX5_init 9 = .ok (.putfield 9, 3) := by decide +kernel
theorem dX5_init_12 : decode cX5_init 12 = .ok (.aload_n 0, 1) := by decide +kernel
theorem dX5_init_13 : decode cX5_init 13 = .ok (.bipush 8, 2) := by decide +kernel
theorem dX5_init_15 : decode cX5_init 15 = .ok (.newarray .int, 2) := by decide +kernel
theorem dX5_init_17 : decode cX5_init 17 = .ok (.putfield 15, 3) := by decide +kernel
theorem dX5_init_20 : decode cX5_init 20 = .ok (.aload_n 0, 1) := by decide +kernel
theorem dX5_init_21 : decode cX5_init 21 = .ok (.bipush 17, 2) := by decide +kernel
theorem dX5_init_23 : decode cX5_init 23 = .ok (.anewarray 18, 3) := by decide +kernel
theorem dX5_init_26 : decode cX5_init 26 = .ok (.putfield 20, 3) := by decide +kernel
theorem dX5_init_29 : decode cX5_init 29 = .ok (.aload_n 0, 1) := by decide +kernel
theorem dX5_init_30 : decode cX5_init 30 = .ok (.bipush 16, 2) := by decide +kernel
theorem dX5_init_32 : decode cX5_init 32 = .ok (.newarray .int, 2) := by decide +kernel
theorem dX5_init_34 : decode cX5_init 34 = .ok (.putfield 24, 3) := by decide +kernel
theorem dX5_init_37 : decode cX5_init 37 = .ok (.aload_n 0, 1) := by decide +kernel
theorem dX5_init_38 : decode cX5_init 38 = .ok (.bipush 16, 2) := by decide +kernel
theorem dX5_init_40 : decode cX5_init 40 = .ok (.newarray .int, 2) := by decide +kernel
theorem dX5_init_42 : decode cX5_init 42 = .ok (.putfield 27, 3) := by decide +kernel
theorem dX5_init_45 : decode cX5_init 45 = .ok (.aload_n 0, 1) := by decide +kernel
theorem dX5_init_46 : decode cX5_init 46 = .ok (.bipush 16, 2) := by decide +kernel
theorem dX5_init_48 : decode cX5_init 48 = .ok (.newarray .int, 2) := by decide +kernel
theorem dX5_init_50 : decode cX5_init 50 = .ok (.putfield 30, 3) := by decide +kernel
theorem dX5_init_53 : decode cX5_init 53 = .ok (.aload_n 0, 1) := by decide +kernel
theorem dX5_init_54 : decode cX5_init 54 = .ok (.bipush 16, 2) := by decide +kernel
theorem dX5_init_56 : decode cX5_init 56 = .ok (.newarray .int, 2) := by decide +kernel
theorem dX5_init_58 : decode cX5_init 58 = .ok (.putfield 33, 3) := by decide +kernel
theorem dX5_init_61 : decode cX5_init 61 = .ok (.aload_n 0, 1) := by decide +kernel
theorem dX5_init_62 : decode cX5_init 62 = .ok (.bipush 16, 2) := by decide +kernel
theorem dX5_init_64 : decode cX5_init 64 = .ok (.newarray .int, 2) := by decide +kernel
theorem dX5_init_66 : decode cX5_init 66 = .ok (.putfield 36, 3) := by decide +kernel
theorem dX5_init_69 : decode cX5_init 69 = .ok (.iconst 0, 1) := by decide +kernel
theorem dX5_init_70 : decode cX5_init 70 = .ok (.istore_n 1, 1) := by decide +kernel
theorem dX5_init_71 : decode cX5_init 71 = .ok (.iload_n 1, 1) := by decide +kernel
theorem dX5_init_72 : decode cX5_init 72 = .ok (.bipush 16, 2) := by decide +kernel
theorem dX5_init_74 : decode cX5_init 74 = .ok (.if_icmp .gt 22, 3) := by decide +kernel
theorem dX5_init_77 : decode cX5_init 77 = .ok (.aload_n 0, 1) := by decide +kernel
theorem dX5_init_78 : decode cX5_init 78 = .ok (.getfield 20, 3) := by decide +kernel
theorem dX5_init_81 : decode cX5_init 81 = .ok (.iload_n 1, 1) := by decide +kernel
theorem dX5_init_82 : decode cX5_init 82 = .ok (.new 18, 3) := by decide +kernel
theorem dX5_init_85 : decode cX5_init 85 = .ok (.dup, 1) := by decide +kernel
theorem dX5_init_86 : decode cX5_init 86 = .ok (.invokespecial 39, 3) := by decide +kernel
theorem dX5_init_89 : decode cX5_init 89 = .ok (.aastore, 1) := by decide +kernel
theorem dX5_init_90 : decode cX5_init 90 = .ok (.iinc 1 1, 3) := by decide +kernel
theorem dX5_init_93 : decode cX5_init 93 = .ok (.goto (-22), 3) := by decide +kernel
theorem dX5_init_96 : decode cX5_init 96 = .ok (.return_, 1) := by decide +kernel
theorem dX5_layFlat_0 : decode cX5_layFlat 0 = .ok (.aload_n 0, 1) := by decide +kernel
theorem dX5_layFlat_1 : decode cX5_layFlat 1 = .ok (.iload_n 1, 1) := by decide +kernel
theorem dX5_layFlat_2 : decode cX5_layFlat 2 = .ok (.putfield 40, 3) := by decide +kernel
theorem dX5_layFlat_5 : decode cX5_layFlat 5 = .ok (.aload_n 0, 1) := by decide +kernel
theorem dX5_layFlat_6 : decode cX5_layFlat 6 = .ok (.iconst 0, 1) := by decide +kernel
theorem dX5_layFlat_7 : decode cX5_layFlat 7 = .ok (.putfield 44, 3) := by decide +kernel
theorem dX5_layFlat_10 : decode cX5_layFlat 10 = .ok (.aload_n 0, 1) := by decide +kernel
theorem dX5_layFlat_11 : decode cX5_layFlat 11 = .ok (.iconst 0, 1) := by decide +kernel
theorem dX5_layFlat_12 : decode cX5_layFlat 12 = .ok (.putfield 47, 3) := by decide +kernel
theorem dX5_layFlat_15 : decode cX5_layFlat 15 = .ok (.aload_n 0, 1) := by decide +kernel
theorem dX5_layFlat_16 : decode cX5_layFlat 16 = .ok (.iconst 0, 1) := by decide +kernel
theorem dX5_layFlat_17 : decode cX5_layFlat 17 = .ok (.putfield 50, 3) := by decide +kernel
theorem dX5_layFlat_20 : decode cX5_layFlat 20 = .ok (.aload_n 0, 1) := by decide +kernel
theorem dX5_layFlat_21 : decode cX5_layFlat 21 = .ok (.getfield 9, 3) := by decide +kernel
theorem dX5_layFlat_24 : decode cX5_layFlat 24 = .ok (.iconst 0, 1) := by decide +kernel
theorem dX5_layFlat_25 : decode cX5_layFlat 25 = .ok (.invokestatic 53, 3) := by decide +kernel
theorem dX5_layFlat_28 : decode cX5_layFlat 28 = .ok (.aload_n 0, 1) := by decide +kernel
theorem dX5_layFlat_29 : decode cX5_layFlat 29 = .ok (.getfield 15, 3) := by decide +kernel
theorem dX5_layFlat_32 : decode cX5_layFlat 32 = .ok (.iconst 0, 1) := by decide +kernel
theorem dX5_layFlat_33 : decode cX5_layFlat 33 = .ok (.invokestatic 53, 3) := by decide +kernel
theorem dX5_layFlat_36 : decode cX5_layFlat 36 = .ok (.aload_n 0, 1) := by decide +kernel
theorem dX5_layFlat_37 : decode cX5_layFlat 37 = .ok (.getfield 20, 3) := by decide +kernel
theorem dX5_layFlat_40 : decode cX5_layFlat 40 = .ok (.iconst 0, 1) := by decide +kernel
theorem dX5_layFlat_41 : decode cX5_layFlat 41 = .ok (.aaload, 1) := by decide +kernel
theorem dX5_layFlat_42 : decode cX5_layFlat 42 = .ok (.iload_n 1, 1) := by decide +kernel
theorem dX5_layFlat_43 : decode cX5_layFlat 43 = .ok (.invokevirtual 59, 3) := by decide +kernel
theorem dX5_layFlat_46 : decode cX5_layFlat 46 = .ok (.return_, 1) := by decide +kernel
theorem dX5_packet_0 : decode cX5_packet 0 = .ok (.aload_n 0, 1) := by decide +kernel
theorem dX5_packet_1 : decode cX5_packet 1 = .ok (.getfield 20, 3) := by decide +kernel
theorem dX5_packet_4 : decode cX5_packet 4 = .ok (.aload_n 0, 1) := by decide +kernel
theorem dX5_packet_5 : decode cX5_packet 5 = .ok (.getfield 44, 3) := by decide +kernel
theorem dX5_packet_8 : decode cX5_packet 8 = .ok (.aaload, 1) := by decide +kernel
theorem dX5_packet_9 : decode cX5_packet 9 = .ok (.areturn, 1) := by decide +kernel
theorem dX5_hasPart_0 : decode cX5_hasPart 0 = .ok (.iload_n 1, 1) := by decide +kernel
theorem dX5_hasPart_1 : decode cX5_hasPart 1 = .ok (.ifCond .lt 15, 3) := by decide +kernel
theorem dX5_hasPart_4 : decode cX5_hasPart 4 = .ok (.iload_n 1, 1) := by decide +kernel
theorem dX5_hasPart_5 : decode cX5_hasPart 5 = .ok (.aload_n 0, 1) := by decide +kernel
theorem dX5_hasPart_6 : decode cX5_hasPart 6 = .ok (.getfield 40, 3) := by decide +kernel
theorem dX5_hasPart_9 : decode cX5_hasPart 9 = .ok (.if_icmp .ge 7, 3) := by decide +kernel
theorem dX5_hasPart_12 : decode cX5_hasPart 12 = .ok (.iconst 1, 1) := by decide +kernel
theorem dX5_hasPart_13 : decode cX5_hasPart 13 = .ok (.goto 4, 3) := by decide +kernel
theorem dX5_hasPart_16 : decode cX5_hasPart 16 = .ok (.iconst 0, 1) := by decide +kernel
theorem dX5_hasPart_17 : decode cX5_hasPart 17 = .ok (.ireturn, 1) := by decide +kernel
theorem dX5_hasAct_0 : decode cX5_hasAct 0 = .ok (.iload_n 1, 1) := by decide +kernel
theorem dX5_hasAct_1 : decode cX5_hasAct 1 = .ok (.ifCond .lt 15, 3) := by decide +kernel
theorem dX5_hasAct_4 : decode cX5_hasAct 4 = .ok (.iload_n 1, 1) := by decide +kernel
theorem dX5_hasAct_5 : decode cX5_hasAct 5 = .ok (.aload_n 0, 1) := by decide +kernel
theorem dX5_hasAct_6 : decode cX5_hasAct 6 = .ok (.getfield 44, 3) := by decide +kernel
theorem dX5_hasAct_9 : decode cX5_hasAct 9 = .ok (.if_icmp .ge 7, 3) := by decide +kernel
theorem dX5_hasAct_12 : decode cX5_hasAct 12 = .ok (.iconst 1, 1) := by decide +kernel
theorem dX5_hasAct_13 : decode cX5_hasAct 13 = .ok (.goto 4, 3) := by decide +kernel
theorem dX5_hasAct_16 : decode cX5_hasAct 16 = .ok (.iconst 0, 1) := by decide +kernel
theorem dX5_hasAct_17 : decode cX5_hasAct 17 = .ok (.ireturn, 1) := by decide +kernel
theorem dX5_turnAt_0 : decode cX5_turnAt 0 = .ok (.aload_n 0, 1) := by decide +kernel
theorem dX5_turnAt_1 : decode cX5_turnAt 1 = .ok (.invokevirtual 63, 3) := by decide +kernel
theorem dX5_turnAt_4 : decode cX5_turnAt 4 = .ok (.astore 5, 2) := by decide +kernel
theorem dX5_turnAt_6 : decode cX5_turnAt 6 = .ok (.aload_n 0, 1) := by decide +kernel
theorem dX5_turnAt_7 : decode cX5_turnAt 7 = .ok (.getfield 44, 3) := by decide +kernel
theorem dX5_turnAt_10 : decode cX5_turnAt 10 = .ok (.bipush 16, 2) := by decide +kernel
theorem dX5_turnAt_12 : decode cX5_turnAt 12 = .ok (.if_icmp .ge 17, 3) := by decide +kernel
theorem dX5_turnAt_15 : decode cX5_turnAt 15 = .ok (.iload_n 2, 1) := by decide +kernel
theorem dX5_turnAt_16 : decode cX5_turnAt 16 = .ok (.iconst 1, 1) := by decide +kernel
theorem dX5_turnAt_17 : decode cX5_turnAt 17 = .ok (.if_icmp .lt 12, 3) := by decide +kernel
theorem dX5_turnAt_20 : decode cX5_turnAt 20 = .ok (.iload_n 2, 1) := by decide +kernel
theorem dX5_turnAt_21 : decode cX5_turnAt 21 = .ok (.aload 5, 2) := by decide +kernel
theorem dX5_turnAt_23 : decode cX5_turnAt 23 = .ok (.getfield 67, 3) := by decide +kernel
theorem dX5_turnAt_26 : decode cX5_turnAt 26 = .ok (.if_icmp .lt 5, 3) := by decide +kernel
theorem dX5_turnAt_29 : decode cX5_turnAt 29 = .ok (.iconst (-1), 1) := by decide +kernel
theorem dX5_turnAt_30 : decode cX5_turnAt 30 = .ok (.ireturn, 1) := by decide +kernel
theorem dX5_turnAt_31 : decode cX5_turnAt 31 = .ok (.aload_n 0, 1) := by decide +kernel
theorem dX5_turnAt_32 : decode cX5_turnAt 32 = .ok (.getfield 20, 3) := by decide +kernel
theorem dX5_turnAt_35 : decode cX5_turnAt 35 = .ok (.aload_n 0, 1) := by decide +kernel
theorem dX5_turnAt_36 : decode cX5_turnAt 36 = .ok (.getfield 44, 3) := by decide +kernel
theorem dX5_turnAt_39 : decode cX5_turnAt 39 = .ok (.iconst 1, 1) := by decide +kernel
theorem dX5_turnAt_40 : decode cX5_turnAt 40 = .ok (.iadd, 1) := by decide +kernel
theorem dX5_turnAt_41 : decode cX5_turnAt 41 = .ok (.aaload, 1) := by decide +kernel
theorem dX5_turnAt_42 : decode cX5_turnAt 42 = .ok (.astore 6, 2) := by decide +kernel
theorem dX5_turnAt_44 : decode cX5_turnAt 44 = .ok (.aload 6, 2) := by decide +kernel
theorem dX5_turnAt_46 : decode cX5_turnAt 46 = .ok (.aload 5, 2) := by decide +kernel
theorem dX5_turnAt_48 : decode cX5_turnAt 48 = .ok (.iload_n 2, 1) := by decide +kernel
theorem dX5_turnAt_49 : decode cX5_turnAt 49 = .ok (.iload_n 3, 1) := by decide +kernel
theorem dX5_turnAt_50 : decode cX5_turnAt 50 = .ok (.iload 4, 2) := by decide +kernel
theorem dX5_turnAt_52 : decode cX5_turnAt 52 = .ok (.invokevirtual 70, 3) := by decide +kernel
theorem dX5_turnAt_55 : decode cX5_turnAt 55 = .ok (.iload_n 1, 1) := by decide +kernel
theorem dX5_turnAt_56 : decode cX5_turnAt 56 = .ok (.iconst 1, 1) := by decide +kernel
theorem dX5_turnAt_57 : decode cX5_turnAt 57 = .ok (.if_icmp .ne 14, 3) := by decide +kernel
theorem dX5_turnAt_60 : decode cX5_turnAt 60 = .ok (.aload 6, 2) := by decide +kernel
theorem dX5_turnAt_62 : decode cX5_turnAt 62 = .ok (.invokevirtual 74, 3) := by decide +kernel
theorem dX5_turnAt_65 : decode cX5_turnAt 65 = .ok (.ifCond .eq 6, 3) := by decide +kernel
theorem dX5_turnAt_68 : decode cX5_turnAt 68 = .ok (.bipush (-2), 2) := by decide +kernel
theorem dX5_turnAt_70 : decode cX5_turnAt 70 = .ok (.ireturn, 1) := by decide +kernel
theorem dX5_turnAt_71 : decode cX5_turnAt 71 = .ok (.aload_n 0, 1) := by decide +kernel
theorem dX5_turnAt_72 : decode cX5_turnAt 72 = .ok (.dup, 1) := by decide +kernel
theorem dX5_turnAt_73 : decode cX5_turnAt 73 = .ok (.getfield 47, 3) := by decide +kernel
theorem dX5_turnAt_76 : decode cX5_turnAt 76 = .ok (.aload 5, 2) := by decide +kernel
theorem dX5_turnAt_78 : decode cX5_turnAt 78 = .ok (.iload_n 2, 1) := by decide +kernel
theorem dX5_turnAt_79 : decode cX5_turnAt 79 = .ok (.iload 4, 2) := by decide +kernel
theorem dX5_turnAt_81 : decode cX5_turnAt 81 = .ok (.ifCond .le 7, 3) := by decide +kernel
theorem dX5_turnAt_84 : decode cX5_turnAt 84 = .ok (.iconst 1, 1) := by decide +kernel
theorem dX5_turnAt_85 : decode cX5_turnAt 85 = .ok (.goto 4, 3) := by decide +kernel
theorem dX5_turnAt_88 : decode cX5_turnAt 88 = .ok (.iconst 0, 1) := by decide +kernel
theorem dX5_turnAt_89 : decode cX5_turnAt 89 = .ok (.invokevirtual 78, 3) := by decide +kernel
theorem dX5_turnAt_92 : decode cX5_turnAt 92 = .ok (.ior, 1) := by decide +kernel
theorem dX5_turnAt_93 : decode cX5_turnAt 93 = .ok (.putfield 47, 3) := by decide +kernel
theorem dX5_turnAt_96 : decode cX5_turnAt 96 = .ok (.aload_n 0, 1) := by decide +kernel
theorem dX5_turnAt_97 : decode cX5_turnAt 97 = .ok (.iload_n 1, 1) := by decide +kernel
theorem dX5_turnAt_98 : decode cX5_turnAt 98 = .ok (.aload 5, 2) := by decide +kernel
theorem dX5_turnAt_100 : decode cX5_turnAt 100 = .ok (.iload_n 2, 1) := by decide +kernel
theorem dX5_turnAt_101 : decode cX5_turnAt 101 = .ok (.iload_n 3, 1) := by decide +kernel
theorem dX5_turnAt_102 : decode cX5_turnAt 102 = .ok (.invokevirtual 82, 3) := by decide +kernel
theorem dX5_turnAt_105 : decode cX5_turnAt 105 = .ok (.iload_n 2, 1) := by decide +kernel
theorem dX5_turnAt_106 : decode cX5_turnAt 106 = .ok (.iconst 0, 1) := by decide +kernel
theorem dX5_turnAt_107 : decode cX5_turnAt 107 = .ok (.iconst 0, 1) := by decide +kernel
theorem dX5_turnAt_108 : decode cX5_turnAt 108 = .ok (.invokevirtual 85, 3) := by decide +kernel
theorem dX5_turnAt_111 : decode cX5_turnAt 111 = .ok (.ireturn, 1) := by decide +kernel
theorem dX5_cut_0 : decode cX5_cut 0 = .ok (.aload_n 0, 1) := by decide +kernel
theorem dX5_cut_1 : decode cX5_cut 1 = .ok (.getfield 44, 3) := by decide +kernel
theorem dX5_cut_4 : decode cX5_cut 4 = .ok (.bipush 16, 2) := by decide +kernel
theorem dX5_cut_6 : decode cX5_cut 6 = .ok (.if_icmp .ge 20, 3) := by decide +kernel
theorem dX5_cut_9 : decode cX5_cut 9 = .ok (.iload_n 2, 1) := by decide +kernel
theorem dX5_cut_10 : decode cX5_cut 10 = .ok (.iconst 1, 1) := by decide +kernel
theorem dX5_cut_11 : decode cX5_cut 11 = .ok (.if_icmp .lt 15, 3) := by decide +kernel
theorem dX5_cut_14 : decode cX5_cut 14 = .ok (.aload_n 0, 1) := by decide +kernel
theorem dX5_cut_15 : decode cX5_cut 15 = .ok (.invokevirtual 63, 3) := by decide +kernel
theorem dX5_cut_18 : decode cX5_cut 18 = .ok (.iload_n 1, 1) := by decide +kernel
theorem dX5_cut_19 : decode cX5_cut 19 = .ok (.invokevirtual 89, 3) := by decide +kernel
theorem dX5_cut_22 : decode cX5_cut 22 = .ok (.iload_n 2, 1) := by decide +kernel
theorem dX5_cut_23 : decode cX5_cut 23 = .ok (.if_icmp .ge 5, 3) := by decide +kernel
theorem dX5_cut_26 : decode cX5_cut 26 = .ok (.iconst (-1), 1) := by decide +kernel
theorem dX5_cut_27 : decode cX5_cut 27 = .ok (.ireturn, 1) := by decide +kernel
theorem dX5_cut_28 : decode cX5_cut 28 = .ok (.aload_n 0, 1) := by decide +kernel
theorem dX5_cut_29 : decode cX5_cut 29 = .ok (.aload_n 0, 1) := by decide +kernel
theorem dX5_cut_30 : decode cX5_cut 30 = .ok (.getfield 9, 3) := by decide +kernel
theorem dX5_cut_33 : decode cX5_cut 33 = .ok (.aload_n 0, 1) := by decide +kernel
theorem dX5_cut_34 : decode cX5_cut 34 = .ok (.invokevirtual 63, 3) := by decide +kernel
theorem dX5_cut_37 : decode cX5_cut 37 = .ok (.iload_n 1, 1) := by decide +kernel
theorem dX5_cut_38 : decode cX5_cut 38 = .ok (.iload_n 2, 1) := by decide +kernel
theorem dX5_cut_39 : decode cX5_cut 39 = .ok (.invokevirtual 93, 3) := by decide +kernel
theorem dX5_cut_42 : decode cX5_cut 42 = .ok (.invokevirtual 97, 3) := by decide +kernel
theorem dX5_cut_45 : decode cX5_cut 45 = .ok (.aload_n 0, 1) := by decide +kernel
theorem dX5_cut_46 : decode cX5_cut 46 = .ok (.iconst 2, 1) := by decide +kernel
theorem dX5_cut_47 : decode cX5_cut 47 = .ok (.iload_n 1, 1) := by decide +kernel
theorem dX5_cut_48 : decode cX5_cut 48 = .ok (.iload_n 2, 1) := by decide +kernel
theorem dX5_cut_49 : decode cX5_cut 49 = .ok (.iconst 0, 1) := by decide +kernel
theorem dX5_cut_50 : decode cX5_cut 50 = .ok (.invokevirtual 100, 3) := by decide +kernel
theorem dX5_cut_53 : decode cX5_cut 53 = .ok (.ireturn, 1) := by decide +kernel
theorem dX5_bindByStrip_0 : decode cX5_bindByStrip 0 = .ok (.aload_n 0, 1) := by decide +kernel
theorem dX5_bindByStrip_1 : decode cX5_bindByStrip 1 = .ok (.getfield 44, 3) := by decide +kernel
theorem dX5_bindByStrip_4 : decode cX5_bindByStrip 4 = .ok (.bipush 16, 2) := by decide +kernel
theorem dX5_bindByStrip_6 : decode cX5_bindByStrip 6 = .ok (.if_icmp .ge 20, 3) := by decide +kernel
theorem dX5_bindByStrip_9 : decode cX5_bindByStrip 9 = .ok (.iload_n 2, 1) := by decide +kernel
theorem dX5_bindByStrip_10 : decode cX5_bindByStrip 10 = .ok (.iconst 2, 1) := by decide +kernel
theorem dX5_bindByStrip_11 : decode cX5_bindByStrip 11 = .ok (.if_icmp .lt 15, 3) := by decide +kernel
theorem dX5_bindByStrip_14 : decode cX5_bindByStrip 14 = .ok (.aload_n 0, 1) := by decide +kernel
theorem dX5_bindByStrip_15 : decode cX5_bindByStrip 15 = .ok (.invokevirtual 63, 3) := by decide +kernel
theorem dX5_bindByStrip_18 : decode cX5_bindByStrip 18 = .ok (.iload_n 1, 1) := by decide +kernel
theorem dX5_bindByStrip_19 : decode cX5_bindByStrip 19 = .ok (.invokevirtual 89, 3) := by decide +kernel
theorem dX5_bindByStrip_22 : decode cX5_bindByStrip 22 = .ok (.iload_n 2, 1) := by decide +kernel
theorem dX5_bindByStrip_23 : decode cX5_bindByStrip 23 = .ok (.if_icmp .ge 5, 3) := by decide +kernel
theorem dX5_bindByStrip_26 : decode cX5_bindByStrip 26 = .ok (.iconst (-1), 1) := by decide +kernel
theorem dX5_bindByStrip_27 : decode cX5_bindByStrip 27 = .ok (.ireturn, 1) := by decide +kernel
theorem dX5_bindByStrip_28 : decode cX5_bindByStrip 28 = .ok (.aload_n 0, 1) := by decide +kernel
theorem dX5_bindByStrip_29 : decode cX5_bindByStrip 29 = .ok (.invokevirtual 63, 3) := by decide +kernel
theorem dX5_bindByStrip_32 : decode cX5_bindByStrip 32 = .ok (.iload_n 1, 1) := by decide +kernel
theorem dX5_bindByStrip_33 : decode cX5_bindByStrip 33 = .ok (.iload_n 2, 1) := by decide +kernel
theorem dX5_bindByStrip_34 : decode cX5_bindByStrip 34 = .ok (.invokevirtual 93, 3) := by decide +kernel
theorem dX5_bindByStrip_37 : decode cX5_bindByStrip 37 = .ok (.istore_n 3, 1) := by decide +kernel
theorem dX5_bindByStrip_38 : decode cX5_bindByStrip 38 = .ok (.iload_n 3, 1) := by decide +kernel
theorem dX5_bindByStrip_39 : decode cX5_bindByStrip 39 = .ok (.aload_n 0, 1) := by decide +kernel
theorem dX5_bindByStrip_40 : decode cX5_bindByStrip 40 = .ok (.invokevirtual 104, 3) := by decide +kernel
theorem dX5_bindByStrip_43 : decode cX5_bindByStrip 43 = .ok (.iconst (-1), 1) := by decide +kernel
theorem dX5_bindByStrip_44 : decode cX5_bindByStrip 44 = .ok (.ixor, 1) := by decide +kernel
theorem dX5_bindByStrip_45 : decode cX5_bindByStrip 45 = .ok (.iand, 1) := by decide +kernel
theorem dX5_bindByStrip_46 : decode cX5_bindByStrip 46 = .ok (.ifCond .eq 6, 3) := by decide +kernel
theorem dX5_bindByStrip_49 : decode cX5_bindByStrip 49 = .ok (.bipush (-2), 2) := by decide +kernel
theorem dX5_bindByStrip_51 : decode cX5_bindByStrip 51 = .ok (.ireturn, 1) := by decide +kernel
theorem dX5_bindByStrip_52 : decode cX5_bindByStrip 52 = .ok (.aload_n 0, 1) := by decide +kernel
theorem dX5_bindByStrip_53 : decode cX5_bindByStrip 53 = .ok (.iconst 3, 1) := by decide +kernel
theorem dX5_bindByStrip_54 : decode cX5_bindByStrip 54 = .ok (.iload_n 1, 1) := by decide +kernel
theorem dX5_bindByStrip_55 : decode cX5_bindByStrip 55 = .ok (.iload_n 2, 1) := by decide +kernel
theorem dX5_bindByStrip_56 : decode cX5_bindByStrip 56 = .ok (.iload_n 3, 1) := by decide +kernel
theorem dX5_bindByStrip_57 : decode cX5_bindByStrip 57 = .ok (.invokevirtual 100, 3) := by decide +kernel
theorem dX5_bindByStrip_60 : decode cX5_bindByStrip 60 = .ok (.ireturn, 1) := by decide +kernel
theorem dX5_bindByWax_0 : decode cX5_bindByWax 0 = .ok (.aload_n 0, 1) := by decide +kernel
theorem dX5_bindByWax_1 : decode cX5_bindByWax 1 = .ok (.getfield 44, 3) := by decide +kernel
theorem dX5_bindByWax_4 : decode cX5_bindByWax 4 = .ok (.bipush 16, 2) := by decide +kernel
theorem dX5_bindByWax_6 : decode cX5_bindByWax 6 = .ok (.if_icmp .ge 15, 3) := by decide +kernel
theorem dX5_bindByWax_9 : decode cX5_bindByWax 9 = .ok (.aload_n 0, 1) := by decide +kernel
theorem dX5_bindByWax_10 : decode cX5_bindByWax 10 = .ok (.invokevirtual 63, 3) := by decide +kernel
theorem dX5_bindByWax_13 : decode cX5_bindByWax 13 = .ok (.iload_n 1, 1) := by decide +kernel
theorem dX5_bindByWax_14 : decode cX5_bindByWax 14 = .ok (.invokevirtual 89, 3) := by decide +kernel
theorem dX5_bindByWax_17 : decode cX5_bindByWax 17 = .ok (.iconst 2, 1) := by decide +kernel
theorem dX5_bindByWax_18 : decode cX5_bindByWax 18 = .ok (.if_icmp .ge 5, 3) := by decide +kernel
theorem dX5_bindByWax_21 : decode cX5_bindByWax 21 = .ok (.iconst (-1), 1) := by decide +kernel
theorem dX5_bindByWax_22 : decode cX5_bindByWax 22 = .ok (.ireturn, 1) := by decide +kernel
theorem dX5_bindByWax_23 : decode cX5_bindByWax 23 = .ok (.aload_n 0, 1) := by decide +kernel
theorem dX5_bindByWax_24 : decode cX5_bindByWax 24 = .ok (.invokevirtual 63, 3) := by decide +kernel
theorem dX5_bindByWax_27 : decode cX5_bindByWax 27 = .ok (.iload_n 1, 1) := by decide +kernel
theorem dX5_bindByWax_28 : decode cX5_bindByWax 28 = .ok (.iconst 2, 1) := by decide +kernel
theorem dX5_bindByWax_29 : decode cX5_bindByWax 29 = .ok (.invokevirtual 93, 3) := by decide +kernel
theorem dX5_bindByWax_32 : decode cX5_bindByWax 32 = .ok (.istore_n 2, 1) := by decide +kernel
theorem dX5_bindByWax_33 : decode cX5_bindByWax 33 = .ok (.aload_n 0, 1) := by decide +kernel
theorem dX5_bindByWax_34 : decode cX5_bindByWax 34 = .ok (.aload_n 0, 1) := by decide +kernel
theorem dX5_bindByWax_35 : decode cX5_bindByWax 35 = .ok (.getfield 15, 3) := by decide +kernel
theorem dX5_bindByWax_38 : decode cX5_bindByWax 38 = .ok (.iload_n 2, 1) := by decide +kernel
theorem dX5_bindByWax_39 : decode cX5_bindByWax 39 = .ok (.invokevirtual 97, 3) := by decide +kernel
theorem dX5_bindByWax_42 : decode cX5_bindByWax 42 = .ok (.aload_n 0, 1) := by decide +kernel
theorem dX5_bindByWax_43 : decode cX5_bindByWax 43 = .ok (.iconst 4, 1) := by decide +kernel
theorem dX5_bindByWax_44 : decode cX5_bindByWax 44 = .ok (.iload_n 1, 1) := by decide +kernel
theorem dX5_bindByWax_45 : decode cX5_bindByWax 45 = .ok (.iconst 2, 1) := by decide +kernel
theorem dX5_bindByWax_46 : decode cX5_bindByWax 46 = .ok (.iload_n 2, 1) := by decide +kernel
theorem dX5_bindByWax_47 : decode cX5_bindByWax 47 = .ok (.invokevirtual 100, 3) := by decide +kernel
theorem dX5_bindByWax_50 : decode cX5_bindByWax 50 = .ok (.ireturn, 1) := by decide +kernel
theorem dX5_dirty_0 : decode cX5_dirty 0 = .ok (.aload_n 0, 1) := by decide +kernel
theorem dX5_dirty_1 : decode cX5_dirty 1 = .ok (.getfield 44, 3) := by decide +kernel
theorem dX5_dirty_4 : decode cX5_dirty 4 = .ok (.bipush 16, 2) := by decide +kernel
theorem dX5_dirty_6 : decode cX5_dirty 6 = .ok (.if_icmp .lt 5, 3) := by decide +kernel
theorem dX5_dirty_9 : decode cX5_dirty 9 = .ok (.iconst (-1), 1) := by decide +kernel
theorem dX5_dirty_10 : decode cX5_dirty 10 = .ok (.ireturn, 1) := by decide +kernel
theorem dX5_dirty_11 : decode cX5_dirty 11 = .ok (.aload_n 0, 1) := by decide +kernel
theorem dX5_dirty_12 : decode cX5_dirty 12 = .ok (.dup, 1) := by decide +kernel
theorem dX5_dirty_13 : decode cX5_dirty 13 = .ok (.getfield 50, 3) := by decide +kernel
theorem dX5_dirty_16 : decode cX5_dirty 16 = .ok (.aload_n 0, 1) := by decide +kernel
theorem dX5_dirty_17 : decode cX5_dirty 17 = .ok (.invokevirtual 63, 3) := by decide +kernel
theorem dX5_dirty_20 : decode cX5_dirty 20 = .ok (.invokevirtual 108, 3) := by decide +kernel
theorem dX5_dirty_23 : decode cX5_dirty 23 = .ok (.ior, 1) := by decide +kernel
theorem dX5_dirty_24 : decode cX5_dirty 24 = .ok (.putfield 50, 3) := by decide +kernel
theorem dX5_dirty_27 : decode cX5_dirty 27 = .ok (.aload_n 0, 1) := by decide +kernel
theorem dX5_dirty_28 : decode cX5_dirty 28 = .ok (.getfield 20, 3) := by decide +kernel
theorem dX5_dirty_31 : decode cX5_dirty 31 = .ok (.aload_n 0, 1) := by decide +kernel
theorem dX5_dirty_32 : decode cX5_dirty 32 = .ok (.getfield 44, 3) := by decide +kernel
theorem dX5_dirty_35 : decode cX5_dirty 35 = .ok (.iconst 1, 1) := by decide +kernel
theorem dX5_dirty_36 : decode cX5_dirty 36 = .ok (.iadd, 1) := by decide +kernel
theorem dX5_dirty_37 : decode cX5_dirty 37 = .ok (.aaload, 1) := by decide +kernel
theorem dX5_dirty_38 : decode cX5_dirty 38 = .ok (.aload_n 0, 1) := by decide +kernel
theorem dX5_dirty_39 : decode cX5_dirty 39 = .ok (.invokevirtual 63, 3) := by decide +kernel
theorem dX5_dirty_42 : decode cX5_dirty 42 = .ok (.invokevirtual 111, 3) := by decide +kernel
theorem dX5_dirty_45 : decode cX5_dirty 45 = .ok (.aload_n 0, 1) := by decide +kernel
theorem dX5_dirty_46 : decode cX5_dirty 46 = .ok (.iconst 5, 1) := by decide +kernel
theorem dX5_dirty_47 : decode cX5_dirty 47 = .ok (.iconst 0, 1) := by decide +kernel
theorem dX5_dirty_48 : decode cX5_dirty 48 = .ok (.iconst 0, 1) := by decide +kernel
theorem dX5_dirty_49 : decode cX5_dirty 49 = .ok (.iconst 0, 1) := by decide +kernel
theorem dX5_dirty_50 : decode cX5_dirty 50 = .ok (.iconst 0, 1) := by decide +kernel
theorem dX5_dirty_51 : decode cX5_dirty 51 = .ok (.invokevirtual 85, 3) := by decide +kernel
theorem dX5_dirty_54 : decode cX5_dirty 54 = .ok (.ireturn, 1) := by decide +kernel
theorem dX5_slitParts_0 : decode cX5_slitParts 0 = .ok (.iconst 0, 1) := by decide +kernel
theorem dX5_slitParts_1 : decode cX5_slitParts 1 = .ok (.istore_n 1, 1) := by decide +kernel
theorem dX5_slitParts_2 : decode cX5_slitParts 2 = .ok (.iconst 0, 1) := by decide +kernel
theorem dX5_slitParts_3 : decode cX5_slitParts 3 = .ok (.istore_n 2, 1) := by decide +kernel
theorem dX5_slitParts_4 : decode cX5_slitParts 4 = .ok (.iload_n 2, 1) := by decide +kernel
theorem dX5_slitParts_5 : decode cX5_slitParts 5 = .ok (.aload_n 0, 1) := by decide +kernel
theorem dX5_slitParts_6 : decode cX5_slitParts 6 = .ok (.getfield 40, 3) := by decide +kernel
theorem dX5_slitParts_9 : decode cX5_slitParts 9 = .ok (.if_icmp .ge 24, 3) := by decide +kernel
theorem dX5_slitParts_12 : decode cX5_slitParts 12 = .ok (.aload_n 0, 1) := by decide +kernel
theorem dX5_slitParts_13 : decode cX5_slitParts 13 = .ok (.getfield 9, 3) := by decide +kernel
theorem dX5_slitParts_16 : decode cX5_slitParts 16 = .ok (.iload_n 2, 1) := by decide +kernel
theorem dX5_slitParts_17 : decode cX5_slitParts 17 = .ok (.iaload, 1) := by decide +kernel
theorem dX5_slitParts_18 : decode cX5_slitParts 18 = .ok (.ifCond .le 9, 3) := by decide +kernel
theorem dX5_slitParts_21 : decode cX5_slitParts 21 = .ok (.iload_n 1, 1) := by decide +kernel
theorem dX5_slitParts_22 : decode cX5_slitParts 22 = .ok (.iconst 1, 1) := by decide +kernel
theorem dX5_slitParts_23 : decode cX5_slitParts 23 = .ok (.iload_n 2, 1) := by decide +kernel
theorem dX5_slitParts_24 : decode cX5_slitParts 24 = .ok (.ishl, 1) := by decide +kernel
theorem dX5_slitParts_25 : decode cX5_slitParts 25 = .ok (.ior, 1) := by decide +kernel
theorem dX5_slitParts_26 : decode cX5_slitParts 26 = .ok (.istore_n 1, 1) := by decide +kernel
theorem dX5_slitParts_27 : decode cX5_slitParts 27 = .ok (.iinc 2 1, 3) := by decide +kernel
theorem dX5_slitParts_30 : decode cX5_slitParts 30 = .ok (.goto (-26), 3) := by decide +kernel
theorem dX5_slitParts_33 : decode cX5_slitParts 33 = .ok (.iload_n 1, 1) := by decide +kernel
theorem dX5_slitParts_34 : decode cX5_slitParts 34 = .ok (.ireturn, 1) := by decide +kernel
theorem dX5_raise_0 : decode cX5_raise 0 = .ok (.iconst 0, 1) := by decide +kernel
theorem dX5_raise_1 : decode cX5_raise 1 = .ok (.istore_n 3, 1) := by decide +kernel
theorem dX5_raise_2 : decode cX5_raise 2 = .ok (.iload_n 3, 1) := by decide +kernel
theorem dX5_raise_3 : decode cX5_raise 3 = .ok (.aload_n 0, 1) := by decide +kernel
theorem dX5_raise_4 : decode cX5_raise 4 = .ok (.getfield 40, 3) := by decide +kernel
theorem dX5_raise_7 : decode cX5_raise 7 = .ok (.if_icmp .ge 20, 3) := by decide +kernel
theorem dX5_raise_10 : decode cX5_raise 10 = .ok (.aload_n 1, 1) := by decide +kernel
theorem dX5_raise_11 : decode cX5_raise 11 = .ok (.iload_n 3, 1) := by decide +kernel
theorem dX5_raise_12 : decode cX5_raise 12 = .ok (.dup2, 1) := by decide +kernel
theorem dX5_raise_13 : decode cX5_raise 13 = .ok (.iaload, 1) := by decide +kernel
theorem dX5_raise_14 : decode cX5_raise 14 = .ok (.iload_n 2, 1) := by decide +kernel
theorem dX5_raise_15 : decode cX5_raise 15 = .ok (.iload_n 3, 1) := by decide +kernel
theorem dX5_raise_16 : decode cX5_raise 16 = .ok (.ishr, 1) := by decide +kernel
theorem dX5_raise_17 : decode cX5_raise 17 = .ok (.iconst 1, 1) := by decide +kernel
theorem dX5_raise_18 : decode cX5_raise 18 = .ok (.iand, 1) := by decide +kernel
theorem dX5_raise_19 : decode cX5_raise 19 = .ok (.iadd, 1) := by decide +kernel
theorem dX5_raise_20 : decode cX5_raise 20 = .ok (.iastore, 1) := by decide +kernel
theorem dX5_raise_21 : decode cX5_raise 21 = .ok (.iinc 3 1, 3) := by decide +kernel
theorem dX5_raise_24 : decode cX5_raise 24 = .ok (.goto (-22), 3) := by decide +kernel
theorem dX5_raise_27 : decode cX5_raise 27 = .ok (.return_, 1) := by decide +kernel
theorem dX5_keepOnPile_0 : decode cX5_keepOnPile 0 = .ok (.aload_n 0, 1) := by decide +kernel
theorem dX5_keepOnPile_1 : decode cX5_keepOnPile 1 = .ok (.getfield 20, 3) := by decide +kernel
theorem dX5_keepOnPile_4 : decode cX5_keepOnPile 4 = .ok (.aload_n 0, 1) := by decide +kernel
theorem dX5_keepOnPile_5 : decode cX5_keepOnPile 5 = .ok (.getfield 44, 3) := by decide +kernel
theorem dX5_keepOnPile_8 : decode cX5_keepOnPile 8 = .ok (.iconst 1, 1) := by decide +kernel
theorem dX5_keepOnPile_9 : decode cX5_keepOnPile 9 = .ok (.iadd, 1) := by decide +kernel
theorem dX5_keepOnPile_10 : decode cX5_keepOnPile 10 = .ok (.aaload, 1) := by decide +kernel
theorem dX5_keepOnPile_11 : decode cX5_keepOnPile 11 = .ok (.aload_n 0, 1) := by decide +kernel
theorem dX5_keepOnPile_12 : decode cX5_keepOnPile 12 = .ok (.invokevirtual 63, 3) := by decide +kernel
theorem dX5_keepOnPile_15 : decode cX5_keepOnPile 15 = .ok (.invokevirtual 111, 3) := by decide +kernel
theorem dX5_keepOnPile_18 : decode cX5_keepOnPile 18 = .ok (.aload_n 0, 1) := by decide +kernel
theorem dX5_keepOnPile_19 : decode cX5_keepOnPile 19 = .ok (.iload_n 1, 1) := by decide +kernel
theorem dX5_keepOnPile_20 : decode cX5_keepOnPile 20 = .ok (.iload_n 3, 1) := by decide +kernel
theorem dX5_keepOnPile_21 : decode cX5_keepOnPile 21 = .ok (.iload_n 2, 1) := by decide +kernel
theorem dX5_keepOnPile_22 : decode cX5_keepOnPile 22 = .ok (.aload_n 0, 1) := by decide +kernel
theorem dX5_keepOnPile_23 : decode cX5_keepOnPile 23 = .ok (.invokevirtual 63, 3) := by decide +kernel
theorem dX5_keepOnPile_26 : decode cX5_keepOnPile 26 = .ok (.iload_n 2, 1) := by decide +kernel
theorem dX5_keepOnPile_27 : decode cX5_keepOnPile 27 = .ok (.invokevirtual 89, 3) := by decide +kernel
theorem dX5_keepOnPile_30 : decode cX5_keepOnPile 30 = .ok (.iload_n 3, 1) := by decide +kernel
theorem dX5_keepOnPile_31 : decode cX5_keepOnPile 31 = .ok (.isub, 1) := by decide +kernel
theorem dX5_keepOnPile_32 : decode cX5_keepOnPile 32 = .ok (.iload 4, 2) := by decide +kernel
theorem dX5_keepOnPile_34 : decode cX5_keepOnPile 34 = .ok (.invokevirtual 85, 3) := by decide +kernel
theorem dX5_keepOnPile_37 : decode cX5_keepOnPile 37 = .ok (.ireturn, 1) := by decide +kernel
theorem dX5_keep_0 : decode cX5_keep 0 = .ok (.aload_n 0, 1) := by decide +kernel
theorem dX5_keep_1 : decode cX5_keep 1 = .ok (.getfield 24, 3) := by decide +kernel
theorem dX5_keep_4 : decode cX5_keep 4 = .ok (.aload_n 0, 1) := by decide +kernel
theorem dX5_keep_5 : decode cX5_keep 5 = .ok (.getfield 44, 3) := by decide +kernel
theorem dX5_keep_8 : decode cX5_keep 8 = .ok (.iload_n 1, 1) := by decide +kernel
theorem dX5_keep_9 : decode cX5_keep 9 = .ok (.iastore, 1) := by decide +kernel
theorem dX5_keep_10 : decode cX5_keep 10 = .ok (.aload_n 0, 1) := by decide +kernel
theorem dX5_keep_11 : decode cX5_keep 11 = .ok (.getfield 27, 3) := by decide +kernel
theorem dX5_keep_14 : decode cX5_keep 14 = .ok (.aload_n 0, 1) := by decide +kernel
theorem dX5_keep_15 : decode cX5_keep 15 = .ok (.getfield 44, 3) := by decide +kernel
theorem dX5_keep_18 : decode cX5_keep 18 = .ok (.iload_n 2, 1) := by decide +kernel
theorem dX5_keep_19 : decode cX5_keep 19 = .ok (.iastore, 1) := by decide +kernel
theorem dX5_keep_20 : decode cX5_keep 20 = .ok (.aload_n 0, 1) := by decide +kernel
theorem dX5_keep_21 : decode cX5_keep 21 = .ok (.getfield 30, 3) := by decide +kernel
theorem dX5_keep_24 : decode cX5_keep 24 = .ok (.aload_n 0, 1) := by decide +kernel
theorem dX5_keep_25 : decode cX5_keep 25 = .ok (.getfield 44, 3) := by decide +kernel
theorem dX5_keep_28 : decode cX5_keep 28 = .ok (.iload_n 3, 1) := by decide +kernel
theorem dX5_keep_29 : decode cX5_keep 29 = .ok (.iastore, 1) := by decide +kernel
theorem dX5_keep_30 : decode cX5_keep 30 = .ok (.aload_n 0, 1) := by decide +kernel
theorem dX5_keep_31 : decode cX5_keep 31 = .ok (.getfield 33, 3) := by decide +kernel
theorem dX5_keep_34 : decode cX5_keep 34 = .ok (.aload_n 0, 1) := by decide +kernel
theorem dX5_keep_35 : decode cX5_keep 35 = .ok (.getfield 44, 3) := by decide +kernel
theorem dX5_keep_38 : decode cX5_keep 38 = .ok (.iload 4, 2) := by decide +kernel
theorem dX5_keep_40 : decode cX5_keep 40 = .ok (.iastore, 1) := by decide +kernel
theorem dX5_keep_41 : decode cX5_keep 41 = .ok (.aload_n 0, 1) := by decide +kernel
theorem dX5_keep_42 : decode cX5_keep 42 = .ok (.getfield 36, 3) := by decide +kernel
theorem dX5_keep_45 : decode cX5_keep 45 = .ok (.aload_n 0, 1) := by decide +kernel
theorem dX5_keep_46 : decode cX5_keep 46 = .ok (.getfield 44, 3) := by decide +kernel
theorem dX5_keep_49 : decode cX5_keep 49 = .ok (.iload 5, 2) := by decide +kernel
theorem dX5_keep_51 : decode cX5_keep 51 = .ok (.iastore, 1) := by decide +kernel
theorem dX5_keep_52 : decode cX5_keep 52 = .ok (.aload_n 0, 1) := by decide +kernel
theorem dX5_keep_53 : decode cX5_keep 53 = .ok (.dup, 1) := by decide +kernel
theorem dX5_keep_54 : decode cX5_keep 54 = .ok (.getfield 44, 3) := by decide +kernel
theorem dX5_keep_57 : decode cX5_keep 57 = .ok (.iconst 1, 1) := by decide +kernel
theorem dX5_keep_58 : decode cX5_keep 58 = .ok (.iadd, 1) := by decide +kernel
theorem dX5_keep_59 : decode cX5_keep 59 = .ok (.putfield 44, 3) := by decide +kernel
theorem dX5_keep_62 : decode cX5_keep 62 = .ok (.aload_n 0, 1) := by decide +kernel
theorem dX5_keep_63 : decode cX5_keep 63 = .ok (.getfield 44, 3) := by decide +kernel
theorem dX5_keep_66 : decode cX5_keep 66 = .ok (.iconst 1, 1) := by decide +kernel
theorem dX5_keep_67 : decode cX5_keep 67 = .ok (.isub, 1) := by decide +kernel
theorem dX5_keep_68 : decode cX5_keep 68 = .ok (.ireturn, 1) := by decide +kernel
theorem dX5_harmOf_0 : decode cX5_harmOf 0 = .ok (.aload_n 0, 1) := by decide +kernel
theorem dX5_harmOf_1 : decode cX5_harmOf 1 = .ok (.iload_n 1, 1) := by decide +kernel
theorem dX5_harmOf_2 : decode cX5_harmOf 2 = .ok (.aload_n 2, 1) := by decide +kernel
theorem dX5_harmOf_3 : decode cX5_harmOf 3 = .ok (.invokevirtual 115, 3) := by decide +kernel
theorem dX5_harmOf_6 : decode cX5_harmOf 6 = .ok (.istore_n 3, 1) := by decide +kernel
theorem dX5_harmOf_7 : decode cX5_harmOf 7 = .ok (.iload_n 3, 1) := by decide +kernel
theorem dX5_harmOf_8 : decode cX5_harmOf 8 = .ok (.iconst (-1), 1) := by decide +kernel
theorem dX5_harmOf_9 : decode cX5_harmOf 9 = .ok (.if_icmp .eq 9, 3) := by decide +kernel
theorem dX5_harmOf_12 : decode cX5_harmOf 12 = .ok (.aload_n 2, 1) := by decide +kernel
theorem dX5_harmOf_13 : decode cX5_harmOf 13 = .ok (.iload_n 3, 1) := by decide +kernel
theorem dX5_harmOf_14 : decode cX5_harmOf 14 = .ok (.invokevirtual 119, 3) := by decide +kernel
theorem dX5_harmOf_17 : decode cX5_harmOf 17 = .ok (.ireturn, 1) := by decide +kernel
theorem dX5_harmOf_18 : decode cX5_harmOf 18 = .ok (.aload_n 0, 1) := by decide +kernel
theorem dX5_harmOf_19 : decode cX5_harmOf 19 = .ok (.getfield 24, 3) := by decide +kernel
theorem dX5_harmOf_22 : decode cX5_harmOf 22 = .ok (.iload_n 1, 1) := by decide +kernel
theorem dX5_harmOf_23 : decode cX5_harmOf 23 = .ok (.iaload, 1) := by decide +kernel
theorem dX5_harmOf_24 : decode cX5_harmOf 24 = .ok (.iconst 3, 1) := by decide +kernel
theorem dX5_harmOf_25 : decode cX5_harmOf 25 = .ok (.if_icmp .eq 13, 3) := by decide +kernel
theorem dX5_harmOf_28 : decode cX5_harmOf 28 = .ok (.aload_n 0, 1) := by decide +kernel
theorem dX5_harmOf_29 : decode cX5_harmOf 29 = .ok (.getfield 24, 3) := by decide +kernel
theorem dX5_harmOf_32 : decode cX5_harmOf 32 = .ok (.iload_n 1, 1) := by decide +kernel
theorem dX5_harmOf_33 : decode cX5_harmOf 33 = .ok (.iaload, 1) := by decide +kernel
theorem dX5_harmOf_34 : decode cX5_harmOf 34 = .ok (.iconst 4, 1) := by decide +kernel
theorem dX5_harmOf_35 : decode cX5_harmOf 35 = .ok (.if_icmp .ne 8, 3) := by decide +kernel
theorem dX5_harmOf_38 : decode cX5_harmOf 38 = .ok (.bipush 10, 2) := by decide +kernel
theorem dX5_harmOf_40 : decode cX5_harmOf 40 = .ok (.goto 4, 3) := by decide +kernel
theorem dX5_harmOf_43 : decode cX5_harmOf 43 = .ok (.iconst 0, 1) := by decide +kernel
theorem dX5_harmOf_44 : decode cX5_harmOf 44 = .ok (.ireturn, 1) := by decide +kernel
theorem dX5_harmRule_0 : decode cX5_harmRule 0 = .ok (.aload_n 2, 1) := by decide +kernel
theorem dX5_harmRule_1 : decode cX5_harmRule 1 = .ok (.aload_n 0, 1) := by decide +kernel
theorem dX5_harmRule_2 : decode cX5_harmRule 2 = .ok (.getfield 24, 3) := by decide +kernel
theorem dX5_harmRule_5 : decode cX5_harmRule 5 = .ok (.iload_n 1, 1) := by decide +kernel
theorem dX5_harmRule_6 : decode cX5_harmRule 6 = .ok (.iaload, 1) := by decide +kernel
theorem dX5_harmRule_7 : decode cX5_harmRule 7 = .ok (.aload_n 0, 1) := by decide +kernel
theorem dX5_harmRule_8 : decode cX5_harmRule 8 = .ok (.getfield 27, 3) := by decide +kernel
theorem dX5_harmRule_11 : decode cX5_harmRule 11 = .ok (.iload_n 1, 1) := by decide +kernel
theorem dX5_harmRule_12 : decode cX5_harmRule 12 = .ok (.iaload, 1) := by decide +kernel
theorem dX5_harmRule_13 : decode cX5_harmRule 13 = .ok (.aload_n 0, 1) := by decide +kernel
theorem dX5_harmRule_14 : decode cX5_harmRule 14 = .ok (.getfield 30, 3) := by decide +kernel
theorem dX5_harmRule_17 : decode cX5_harmRule 17 = .ok (.iload_n 1, 1) := by decide +kernel
theorem dX5_harmRule_18 : decode cX5_harmRule 18 = .ok (.iaload, 1) := by decide +kernel
theorem dX5_harmRule_19 : decode cX5_harmRule 19 = .ok (.iload_n 1, 1) := by decide +kernel
theorem dX5_harmRule_20 : decode cX5_harmRule 20 = .ok (.aload_n 0, 1) := by decide +kernel
theorem dX5_harmRule_21 : decode cX5_harmRule 21 = .ok (.getfield 33, 3) := by decide +kernel
theorem dX5_harmRule_24 : decode cX5_harmRule 24 = .ok (.iload_n 1, 1) := by decide +kernel
theorem dX5_harmRule_25 : decode cX5_harmRule 25 = .ok (.iaload, 1) := by decide +kernel
theorem dX5_harmRule_26 : decode cX5_harmRule 26 = .ok (.invokevirtual 124, 3) := by decide +kernel
theorem dX5_harmRule_29 : decode cX5_harmRule 29 = .ok (.iconst (-1), 1) := by decide +kernel
theorem dX5_harmRule_30 : decode cX5_harmRule 30 = .ok (.istore_n 3, 1) := by decide +kernel
theorem dX5_harmRule_31 : decode cX5_harmRule 31 = .ok (.iconst 0, 1) := by decide +kernel
theorem dX5_harmRule_32 : decode cX5_harmRule 32 = .ok (.istore 4, 2) := by decide +kernel
theorem dX5_harmRule_34 : decode cX5_harmRule 34 = .ok (.iconst 0, 1) := by decide +kernel
theorem dX5_harmRule_35 : decode cX5_harmRule 35 = .ok (.istore 5, 2) := by decide +kernel
theorem dX5_harmRule_37 : decode cX5_harmRule 37 = .ok (.iload 5, 2) := by decide +kernel
theorem dX5_harmRule_39 : decode cX5_harmRule 39 = .ok (.iconst 3, 1) := by decide +kernel
theorem dX5_harmRule_40 : decode cX5_harmRule 40 = .ok (.if_icmp .ge 63, 3) := by decide +kernel
theorem dX5_harmRule_43 : decode cX5_harmRule 43 = .ok (.aload_n 2, 1) := by decide +kernel
theorem dX5_harmRule_44 : decode cX5_harmRule 44 = .ok (.iload 5, 2) := by decide +kernel
theorem dX5_harmRule_46 : decode cX5_harmRule 46 = .ok (.invokevirtual 128, 3) := by decide +kernel
theorem dX5_harmRule_49 : decode cX5_harmRule 49 = .ok (.istore 6, 2) := by decide +kernel
theorem dX5_harmRule_51 : decode cX5_harmRule 51 = .ok (.iload 6, 2) := by decide +kernel
theorem dX5_harmRule_53 : decode cX5_harmRule 53 = .ok (.iconst (-1), 1) := by decide +kernel
theorem dX5_harmRule_54 : decode cX5_harmRule 54 = .ok (.if_icmp .eq 43, 3) := by decide +kernel
theorem dX5_harmRule_57 : decode cX5_harmRule 57 = .ok (.aload_n 2, 1) := by decide +kernel
theorem dX5_harmRule_58 : decode cX5_harmRule 58 = .ok (.iload 6, 2) := by decide +kernel
theorem dX5_harmRule_60 : decode cX5_harmRule 60 = .ok (.invokevirtual 119, 3) := by decide +kernel
theorem dX5_harmRule_63 : decode cX5_harmRule 63 = .ok (.istore 7, 2) := by decide +kernel
theorem dX5_harmRule_65 : decode cX5_harmRule 65 = .ok (.iload_n 3, 1) := by decide +kernel
theorem dX5_harmRule_66 : decode cX5_harmRule 66 = .ok (.iconst (-1), 1) := by decide +kernel
theorem dX5_harmRule_67 : decode cX5_harmRule 67 = .ok (.if_icmp .eq 23, 3) := by decide +kernel
theorem dX5_harmRule_70 : decode cX5_harmRule 70 = .ok (.iload 7, 2) := by decide +kernel
theorem dX5_harmRule_72 : decode cX5_harmRule 72 = .ok (.iload 4, 2) := by decide +kernel
theorem dX5_harmRule_74 : decode cX5_harmRule 74 = .ok (.if_icmp .lt 16, 3) := by decide +kernel
theorem dX5_harmRule_77 : decode cX5_harmRule 77 = .ok (.iload 7, 2) := by decide +kernel
theorem dX5_harmRule_79 : decode cX5_harmRule 79 = .ok (.iload 4, 2) := by decide +kernel
theorem dX5_harmRule_81 : decode cX5_harmRule 81 = .ok (.if_icmp .ne 16, 3) := by decide +kernel
theorem dX5_harmRule_84 : decode cX5_harmRule 84 = .ok (.iload 6, 2) := by decide +kernel
theorem dX5_harmRule_86 : decode cX5_harmRule 86 = .ok (.iload_n 3, 1) := by decide +kernel
theorem dX5_harmRule_87 : decode cX5_harmRule 87 = .ok (.if_icmp .ge 10, 3) := by decide +kernel
theorem dX5_harmRule_90 : decode cX5_harmRule 90 = .ok (.iload 6, 2) := by decide +kernel
theorem dX5_harmRule_92 : decode cX5_harmRule 92 = .ok (.istore_n 3, 1) := by decide +kernel
theorem dX5_harmRule_93 : decode cX5_harmRule 93 = .ok (.iload 7, 2) := by decide +kernel
theorem dX5_harmRule_95 : decode cX5_harmRule 95 = .ok (.istore 4, 2) := by decide +kernel
theorem dX5_harmRule_97 : decode cX5_harmRule 97 = .ok (.iinc 5 1, 3) := by decide +kernel
theorem dX5_harmRule_100 : decode cX5_harmRule 100 = .ok (.goto (-63), 3) := by decide +kernel
theorem dX5_harmRule_103 : decode cX5_harmRule 103 = .ok (.iload_n 3, 1) := by decide +kernel
theorem dX5_harmRule_104 : decode cX5_harmRule 104 = .ok (.ireturn, 1) := by decide +kernel
theorem dX5_harmOfAll_0 : decode cX5_harmOfAll 0 = .ok (.iconst 0, 1) := by decide +kernel
theorem dX5_harmOfAll_1 : decode cX5_harmOfAll 1 = .ok (.istore_n 2, 1) := by decide +kernel
theorem dX5_harmOfAll_2 : decode cX5_harmOfAll 2 = .ok (.iconst 0, 1) := by decide +kernel
theorem dX5_harmOfAll_3 : decode cX5_harmOfAll 3 = .ok (.istore_n 3, 1) := by decide +kernel
theorem dX5_harmOfAll_4 : decode cX5_harmOfAll 4 = .ok (.iload_n 3, 1) := by decide +kernel
theorem dX5_harmOfAll_5 : decode cX5_harmOfAll 5 = .ok (.aload_n 0, 1) := by decide +kernel
theorem dX5_harmOfAll_6 : decode cX5_harmOfAll 6 = .ok (.getfield 44, 3) := by decide +kernel
theorem dX5_harmOfAll_9 : decode cX5_harmOfAll 9 = .ok (.if_icmp .ge 18, 3) := by decide +kernel
theorem dX5_harmOfAll_12 : decode cX5_harmOfAll 12 = .ok (.iload_n 2, 1) := by decide +kernel
theorem dX5_harmOfAll_13 : decode cX5_harmOfAll 13 = .ok (.aload_n 0, 1) := by decide +kernel
theorem dX5_harmOfAll_14 : decode cX5_harmOfAll 14 = .ok (.iload_n 3, 1) := by decide +kernel
theorem dX5_harmOfAll_15 : decode cX5_harmOfAll 15 = .ok (.aload_n 1, 1) := by decide +kernel
theorem dX5_harmOfAll_16 : decode cX5_harmOfAll 16 = .ok (.invokevirtual 131, 3) := by decide +kernel
theorem dX5_harmOfAll_19 : decode cX5_harmOfAll 19 = .ok (.iadd, 1) := by decide +kernel
theorem dX5_harmOfAll_20 : decode cX5_harmOfAll 20 = .ok (.istore_n 2, 1) := by decide +kernel
theorem dX5_harmOfAll_21 : decode cX5_harmOfAll 21 = .ok (.iinc 3 1, 3) := by decide +kernel
theorem dX5_harmOfAll_24 : decode cX5_harmOfAll 24 = .ok (.goto (-20), 3) := by decide +kernel
theorem dX5_harmOfAll_27 : decode cX5_harmOfAll 27 = .ok (.iload_n 2, 1) := by decide +kernel
theorem dX5_harmOfAll_28 : decode cX5_harmOfAll 28 = .ok (.ireturn, 1) := by decide +kernel
theorem dX5_sightOf_0 : decode cX5_sightOf 0 = .ok (.aload_n 0, 1) := by decide +kernel
theorem dX5_sightOf_1 : decode cX5_sightOf 1 = .ok (.invokevirtual 63, 3) := by decide +kernel
theorem dX5_sightOf_4 : decode cX5_sightOf 4 = .ok (.iload_n 1, 1) := by decide +kernel
theorem dX5_sightOf_5 : decode cX5_sightOf 5 = .ok (.invokevirtual 134, 3) := by decide +kernel
theorem dX5_sightOf_8 : decode cX5_sightOf 8 = .ok (.ifCond .eq 5, 3) := by decide +kernel
theorem dX5_sightOf_11 : decode cX5_sightOf 11 = .ok (.iconst 1, 1) := by decide +kernel
theorem dX5_sightOf_12 : decode cX5_sightOf 12 = .ok (.ireturn, 1) := by decide +kernel
theorem dX5_sightOf_13 : decode cX5_sightOf 13 = .ok (.aload_n 0, 1) := by decide +kernel
theorem dX5_sightOf_14 : decode cX5_sightOf 14 = .ok (.iload_n 1, 1) := by decide +kernel
theorem dX5_sightOf_15 : decode cX5_sightOf 15 = .ok (.aload_n 0, 1) := by decide +kernel
theorem dX5_sightOf_16 : decode cX5_sightOf 16 = .ok (.getfield 44, 3) := by decide +kernel
theorem dX5_sightOf_19 : decode cX5_sightOf 19 = .ok (.aload_n 2, 1) := by decide +kernel
theorem dX5_sightOf_20 : decode cX5_sightOf 20 = .ok (.invokevirtual 138, 3) := by decide +kernel
theorem dX5_sightOf_23 : decode cX5_sightOf 23 = .ok (.iconst (-1), 1) := by decide +kernel
theorem dX5_sightOf_24 : decode cX5_sightOf 24 = .ok (.if_icmp .ne 7, 3) := by decide +kernel
theorem dX5_sightOf_27 : decode cX5_sightOf 27 = .ok (.iconst 0, 1) := by decide +kernel
theorem dX5_sightOf_28 : decode cX5_sightOf 28 = .ok (.goto 4, 3) := by decide +kernel
theorem dX5_sightOf_31 : decode cX5_sightOf 31 = .ok (.iconst 2, 1) := by decide +kernel
theorem dX5_sightOf_32 : decode cX5_sightOf 32 = .ok (.ireturn, 1) := by decide +kernel
theorem dX5_peepPrice_0 : decode cX5_peepPrice 0 = .ok (.aload_n 0, 1) := by decide +kernel
theorem dX5_peepPrice_1 : decode cX5_peepPrice 1 = .ok (.getfield 20, 3) := by decide +kernel
theorem dX5_peepPrice_4 : decode cX5_peepPrice 4 = .ok (.iload_n 2, 1) := by decide +kernel
theorem dX5_peepPrice_5 : decode cX5_peepPrice 5 = .ok (.aaload, 1) := by decide +kernel
theorem dX5_peepPrice_6 : decode cX5_peepPrice 6 = .ok (.astore 4, 2) := by decide +kernel
theorem dX5_peepPrice_8 : decode cX5_peepPrice 8 = .ok (.aload 4, 2) := by decide +kernel
theorem dX5_peepPrice_10 : decode cX5_peepPrice 10 = .ok (.iload_n 1, 1) := by decide +kernel
theorem dX5_peepPrice_11 : decode cX5_peepPrice 11 = .ok (.invokevirtual 142, 3) := by decide +kernel
theorem dX5_peepPrice_14 : decode cX5_peepPrice 14 = .ok (.istore 5, 2) := by decide +kernel
theorem dX5_peepPrice_16 : decode cX5_peepPrice 16 = .ok (.iload 5, 2) := by decide +kernel
theorem dX5_peepPrice_18 : decode cX5_peepPrice 18 = .ok (.iconst (-1), 1) := by decide +kernel
theorem dX5_peepPrice_19 : decode cX5_peepPrice 19 = .ok (.if_icmp .eq 25, 3) := by decide +kernel
theorem dX5_peepPrice_22 : decode cX5_peepPrice 22 = .ok (.aload_n 0, 1) := by decide +kernel
theorem dX5_peepPrice_23 : decode cX5_peepPrice 23 = .ok (.iload_n 1, 1) := by decide +kernel
theorem dX5_peepPrice_24 : decode cX5_peepPrice 24 = .ok (.iload 5, 2) := by decide +kernel
theorem dX5_peepPrice_26 : decode cX5_peepPrice 26 = .ok (.iload_n 2, 1) := by decide +kernel
theorem dX5_peepPrice_27 : decode cX5_peepPrice 27 = .ok (.invokevirtual 145, 3) := by decide +kernel
theorem dX5_peepPrice_30 : decode cX5_peepPrice 30 = .ok (.ifCond .ne 14, 3) := by decide +kernel
theorem dX5_peepPrice_33 : decode cX5_peepPrice 33 = .ok (.aload 4, 2) := by decide +kernel
theorem dX5_peepPrice_35 : decode cX5_peepPrice 35 = .ok (.iload_n 1, 1) := by decide +kernel
theorem dX5_peepPrice_36 : decode cX5_peepPrice 36 = .ok (.iload 5, 2) := by decide +kernel
theorem dX5_peepPrice_38 : decode cX5_peepPrice 38 = .ok (.invokevirtual 149, 3) := by decide +kernel
theorem dX5_peepPrice_41 : decode cX5_peepPrice 41 = .ok (.ifCond .ne 5, 3) := by decide +kernel
theorem dX5_peepPrice_44 : decode cX5_peepPrice 44 = .ok (.iconst (-1), 1) := by decide +kernel
theorem dX5_peepPrice_45 : decode cX5_peepPrice 45 = .ok (.ireturn, 1) := by decide +kernel
theorem dX5_peepPrice_46 : decode cX5_peepPrice 46 = .ok (.aload 4, 2) := by decide +kernel
theorem dX5_peepPrice_48 : decode cX5_peepPrice 48 = .ok (.getfield 153, 3) := by decide +kernel
theorem dX5_peepPrice_51 : decode cX5_peepPrice 51 = .ok (.iload_n 1, 1) := by decide +kernel
theorem dX5_peepPrice_52 : decode cX5_peepPrice 52 = .ok (.iaload, 1) := by decide +kernel
theorem dX5_peepPrice_53 : decode cX5_peepPrice 53 = .ok (.istore 6, 2) := by decide +kernel
theorem dX5_peepPrice_55 : decode cX5_peepPrice 55 = .ok (.aload_n 3, 1) := by decide +kernel
theorem dX5_peepPrice_56 : decode cX5_peepPrice 56 = .ok (.bipush 6, 2) := by decide +kernel
theorem dX5_peepPrice_58 : decode cX5_peepPrice 58 = .ok (.aload 4, 2) := by decide +kernel
theorem dX5_peepPrice_60 : decode cX5_peepPrice 60 = .ok (.getfield 156, 3) := by decide +kernel
theorem dX5_peepPrice_63 : decode cX5_peepPrice 63 = .ok (.iload 6, 2) := by decide +kernel
theorem dX5_peepPrice_65 : decode cX5_peepPrice 65 = .ok (.iaload, 1) := by decide +kernel
theorem dX5_peepPrice_66 : decode cX5_peepPrice 66 = .ok (.iload 6, 2) := by decide +kernel
theorem dX5_peepPrice_68 : decode cX5_peepPrice 68 = .ok (.iload_n 1, 1) := by decide +kernel
theorem dX5_peepPrice_69 : decode cX5_peepPrice 69 = .ok (.aload 4, 2) := by decide +kernel
theorem dX5_peepPrice_71 : decode cX5_peepPrice 71 = .ok (.getfield 159, 3) := by decide +kernel
theorem dX5_peepPrice_74 : decode cX5_peepPrice 74 = .ok (.iload_n 1, 1) := by decide +kernel
theorem dX5_peepPrice_75 : decode cX5_peepPrice 75 = .ok (.iaload, 1) := by decide +kernel
theorem dX5_peepPrice_76 : decode cX5_peepPrice 76 = .ok (.invokevirtual 124, 3) := by decide +kernel
theorem dX5_peepPrice_79 : decode cX5_peepPrice 79 = .ok (.aload_n 3, 1) := by decide +kernel
theorem dX5_peepPrice_80 : decode cX5_peepPrice 80 = .ok (.iconst 3, 1) := by decide +kernel
theorem dX5_peepPrice_81 : decode cX5_peepPrice 81 = .ok (.iconst (-1), 1) := by decide +kernel
theorem dX5_peepPrice_82 : decode cX5_peepPrice 82 = .ok (.invokevirtual 162, 3) := by decide +kernel
theorem dX5_peepPrice_85 : decode cX5_peepPrice 85 = .ok (.ireturn, 1) := by decide +kernel
theorem dX5_areBound_0 : decode cX5_areBound 0 = .ok (.iconst 1, 1) := by decide +kernel
theorem dX5_areBound_1 : decode cX5_areBound 1 = .ok (.iload_n 1, 1) := by decide +kernel
theorem dX5_areBound_2 : decode cX5_areBound 2 = .ok (.ishl, 1) := by decide +kernel
theorem dX5_areBound_3 : decode cX5_areBound 3 = .ok (.iconst 1, 1) := by decide +kernel
theorem dX5_areBound_4 : decode cX5_areBound 4 = .ok (.iload_n 2, 1) := by decide +kernel
theorem dX5_areBound_5 : decode cX5_areBound 5 = .ok (.ishl, 1) := by decide +kernel
theorem dX5_areBound_6 : decode cX5_areBound 6 = .ok (.ior, 1) := by decide +kernel
theorem dX5_areBound_7 : decode cX5_areBound 7 = .ok (.istore 4, 2) := by decide +kernel
theorem dX5_areBound_9 : decode cX5_areBound 9 = .ok (.iconst 0, 1) := by decide +kernel
theorem dX5_areBound_10 : decode cX5_areBound 10 = .ok (.istore 5, 2) := by decide +kernel
theorem dX5_areBound_12 : decode cX5_areBound 12 = .ok (.iload 5, 2) := by decide +kernel
theorem dX5_areBound_14 : decode cX5_areBound 14 = .ok (.iload_n 3, 1) := by decide +kernel
theorem dX5_areBound_15 : decode cX5_areBound 15 = .ok (.if_icmp .ge 26, 3) := by decide +kernel
theorem dX5_areBound_18 : decode cX5_areBound 18 = .ok (.aload_n 0, 1) := by decide +kernel
theorem dX5_areBound_19 : decode cX5_areBound 19 = .ok (.getfield 36, 3) := by decide +kernel
theorem dX5_areBound_22 : decode cX5_areBound 22 = .ok (.iload 5, 2) := by decide +kernel
theorem dX5_areBound_24 : decode cX5_areBound 24 = .ok (.iaload, 1) := by decide +kernel
theorem dX5_areBound_25 : decode cX5_areBound 25 = .ok (.iload 4, 2) := by decide +kernel
theorem dX5_areBound_27 : decode cX5_areBound 27 = .ok (.iand, 1) := by decide +kernel
theorem dX5_areBound_28 : decode cX5_areBound 28 = .ok (.iload 4, 2) := by decide +kernel
theorem dX5_areBound_30 : decode cX5_areBound 30 = .ok (.if_icmp .ne 5, 3) := by decide +kernel
theorem dX5_areBound_33 : decode cX5_areBound 33 = .ok (.iconst 1, 1) := by decide +kernel
theorem dX5_areBound_34 : decode cX5_areBound 34 = .ok (.ireturn, 1) := by decide +kernel
theorem dX5_areBound_35 : decode cX5_areBound 35 = .ok (.iinc 5 1, 3) := by decide +kernel
theorem dX5_areBound_38 : decode cX5_areBound 38 = .ok (.goto (-26), 3) := by decide +kernel
theorem dX5_areBound_41 : decode cX5_areBound 41 = .ok (.iconst 0, 1) := by decide +kernel
theorem dX5_areBound_42 : decode cX5_areBound 42 = .ok (.ireturn, 1) := by decide +kernel
theorem dX5_weigh_0 : decode cX5_weigh 0 = .ok (.iconst 0, 1) := by decide +kernel
theorem dX5_weigh_1 : decode cX5_weigh 1 = .ok (.istore_n 3, 1) := by decide +kernel
theorem dX5_weigh_2 : decode cX5_weigh 2 = .ok (.aload_n 0, 1) := by decide +kernel
theorem dX5_weigh_3 : decode cX5_weigh 3 = .ok (.iconst (-1), 1) := by decide +kernel
theorem dX5_weigh_4 : decode cX5_weigh 4 = .ok (.putfield 165, 3) := by decide +kernel
theorem dX5_weigh_7 : decode cX5_weigh 7 = .ok (.aload_n 0, 1) := by decide +kernel
theorem dX5_weigh_8 : decode cX5_weigh 8 = .ok (.iconst (-1), 1) := by decide +kernel
theorem dX5_weigh_9 : decode cX5_weigh 9 = .ok (.putfield 168, 3) := by decide +kernel
theorem dX5_weigh_12 : decode cX5_weigh 12 = .ok (.aload_n 0, 1) := by decide +kernel
theorem dX5_weigh_13 : decode cX5_weigh 13 = .ok (.getfield 44, 3) := by decide +kernel
theorem dX5_weigh_16 : decode cX5_weigh 16 = .ok (.istore 4, 2) := by decide +kernel
theorem dX5_weigh_18 : decode cX5_weigh 18 = .ok (.iload 4, 2) := by decide +kernel
theorem dX5_weigh_20 : decode cX5_weigh 20 = .ok (.ifCond .lt 100, 3) := by decide +kernel
theorem dX5_weigh_23 : decode cX5_weigh 23 = .ok (.iload 4, 2) := by decide +kernel
theorem dX5_weigh_25 : decode cX5_weigh 25 = .ok (.aload_n 0, 1) := by decide +kernel
theorem dX5_weigh_26 : decode cX5_weigh 26 = .ok (.getfield 44, 3) := by decide +kernel
theorem dX5_weigh_29 : decode cX5_weigh 29 = .ok (.if_icmp .ge 13, 3) := by decide +kernel
theorem dX5_weigh_32 : decode cX5_weigh 32 = .ok (.iload_n 3, 1) := by decide +kernel
theorem dX5_weigh_33 : decode cX5_weigh 33 = .ok (.aload_n 0, 1) := by decide +kernel
theorem dX5_weigh_34 : decode cX5_weigh 34 = .ok (.iload 4, 2) := by decide +kernel
theorem dX5_weigh_36 : decode cX5_weigh 36 = .ok (.aload_n 2, 1) := by decide +kernel
theorem dX5_weigh_37 : decode cX5_weigh 37 = .ok (.invokevirtual 131, 3) := by decide +kernel
theorem dX5_weigh_40 : decode cX5_weigh 40 = .ok (.iadd, 1) := by decide +kernel
theorem dX5_weigh_41 : decode cX5_weigh 41 = .ok (.istore_n 3, 1) := by decide +kernel
theorem dX5_weigh_42 : decode cX5_weigh 42 = .ok (.aload_n 0, 1) := by decide +kernel
theorem dX5_weigh_43 : decode cX5_weigh 43 = .ok (.getfield 20, 3) := by decide +kernel
theorem dX5_weigh_46 : decode cX5_weigh 46 = .ok (.iload 4, 2) := by decide +kernel
theorem dX5_weigh_48 : decode cX5_weigh 48 = .ok (.aaload, 1) := by decide +kernel
theorem dX5_weigh_49 : decode cX5_weigh 49 = .ok (.iload_n 1, 1) := by decide +kernel
theorem dX5_weigh_50 : decode cX5_weigh 50 = .ok (.invokevirtual 134, 3) := by decide +kernel
theorem dX5_weigh_53 : decode cX5_weigh 53 = .ok (.ifCond .eq 7, 3) := by decide +kernel
theorem dX5_weigh_56 : decode cX5_weigh 56 = .ok (.iconst 0, 1) := by decide +kernel
theorem dX5_weigh_57 : decode cX5_weigh 57 = .ok (.goto 11, 3) := by decide +kernel
theorem dX5_weigh_60 : decode cX5_weigh 60 = .ok (.aload_n 0, 1) := by decide +kernel
theorem dX5_weigh_61 : decode cX5_weigh 61 = .ok (.iload_n 1, 1) := by decide +kernel
theorem dX5_weigh_62 : decode cX5_weigh 62 = .ok (.iload 4, 2) := by decide +kernel
theorem dX5_weigh_64 : decode cX5_weigh 64 = .ok (.aload_n 2, 1) := by decide +kernel
theorem dX5_weigh_65 : decode cX5_weigh 65 = .ok (.invokevirtual 138, 3) := by decide +kernel
theorem dX5_weigh_68 : decode cX5_weigh 68 = .ok (.istore 5, 2) := by decide +kernel
theorem dX5_weigh_70 : decode cX5_weigh 70 = .ok (.iload 5, 2) := by decide +kernel
theorem dX5_weigh_72 : decode cX5_weigh 72 = .ok (.iconst (-1), 1) := by decide +kernel
theorem dX5_weigh_73 : decode cX5_weigh 73 = .ok (.if_icmp .eq 41, 3) := by decide +kernel
theorem dX5_weigh_76 : decode cX5_weigh 76 = .ok (.aload_n 0, 1) := by decide +kernel
theorem dX5_weigh_77 : decode cX5_weigh 77 = .ok (.getfield 165, 3) := by decide +kernel
theorem dX5_weigh_80 : decode cX5_weigh 80 = .ok (.iconst (-1), 1) := by decide +kernel
theorem dX5_weigh_81 : decode cX5_weigh 81 = .ok (.if_icmp .eq 14, 3) := by decide +kernel
theorem dX5_weigh_84 : decode cX5_weigh 84 = .ok (.iload_n 3, 1) := by decide +kernel
theorem dX5_weigh_85 : decode cX5_weigh 85 = .ok (.iload 5, 2) := by decide +kernel
theorem dX5_weigh_87 : decode cX5_weigh 87 = .ok (.iadd, 1) := by decide +kernel
theorem dX5_weigh_88 : decode cX5_weigh 88 = .ok (.aload_n 0, 1) := by decide +kernel
theorem dX5_weigh_89 : decode cX5_weigh 89 = .ok (.getfield 165, 3) := by decide +kernel
theorem dX5_weigh_92 : decode cX5_weigh 92 = .ok (.if_icmp .ge 22, 3) := by decide +kernel
theorem dX5_weigh_95 : decode cX5_weigh 95 = .ok (.aload_n 0, 1) := by decide +kernel
theorem dX5_weigh_96 : decode cX5_weigh 96 = .ok (.iload_n 3, 1) := by decide +kernel
theorem dX5_weigh_97 : decode cX5_weigh 97 = .ok (.iload 5, 2) := by decide +kernel
theorem dX5_weigh_99 : decode cX5_weigh 99 = .ok (.iadd, 1) := by decide +kernel
theorem dX5_weigh_100 : decode cX5_weigh 100 = .ok (.putfield 165, 3) := by decide +kernel
theorem dX5_weigh_103 : decode cX5_weigh 103 = .ok (.aload_n 0, 1) := by decide +kernel
theorem dX5_weigh_104 : decode cX5_weigh 104 = .ok (.aload_n 0, 1) := by decide +kernel
theorem dX5_weigh_105 : decode cX5_weigh 105 = .ok (.getfield 44, 3) := by decide +kernel
theorem dX5_weigh_108 : decode cX5_weigh 108 = .ok (.iload 4, 2) := by decide +kernel
theorem dX5_weigh_110 : decode cX5_weigh 110 = .ok (.isub, 1) := by decide +kernel
theorem dX5_weigh_111 : decode cX5_weigh 111 = .ok (.putfield 168, 3) := by decide +kernel
theorem dX5_weigh_114 : decode cX5_weigh 114 = .ok (.iinc 4 (-1), 3) := by decide +kernel
theorem dX5_weigh_117 : decode cX5_weigh 117 = .ok (.goto (-99), 3) := by decide +kernel
theorem dX5_weigh_120 : decode cX5_weigh 120 = .ok (.return_, 1) := by decide +kernel
theorem dX6_init_0 : decode cX6_init 0 = .ok (.aload_n 0, 1) := by decide +kernel
theorem dX6_init_1 : decode cX6_init 1 = .ok (.invokespecial 3, 3) := by decide +kernel
theorem dX6_init_4 : decode cX6_init 4 = .ok (.aload_n 0, 1) := by decide +kernel
theorem dX6_init_5 : decode cX6_init 5 = .ok (.sipush 2000, 3) := by decide +kernel
theorem dX6_init_8 : decode cX6_init 8 = .ok (.newarray .byte, 2) := by decide +kernel
theorem dX6_init_10 : decode cX6_init 10 = .ok (.putfield 11, 3) := by decide +kernel
theorem dX6_init_13 : decode cX6_init 13 = .ok (.return_, 1) := by decide +kernel
theorem dX6_append_0 : decode cX6_append 0 = .ok (.bipush 24, 2) := by decide +kernel
theorem dX6_append_2 : decode cX6_append 2 = .ok (.istore_n 2, 1) := by decide +kernel
theorem dX6_append_3 : decode cX6_append 3 = .ok (.iload_n 2, 1) := by decide +kernel
theorem dX6_append_4 : decode cX6_append 4 = .ok (.ifCond .lt 42, 3) := by decide +kernel
theorem dX6_append_7 : decode cX6_append 7 = .ok (.aload_n 0, 1) := by decide +kernel
theorem dX6_append_8 : decode cX6_append 8 = .ok (.getfield 15, 3) := by decide +kernel
theorem dX6_append_11 : decode cX6_append 11 = .ok (.sipush 2000, 3) := by decide +kernel
theorem dX6_append_14 : decode cX6_append 14 = .ok (.if_icmp .ge 26, 3) := by decide +kernel
theorem dX6_append_17 : decode cX6_append 17 = .ok (.aload_n 0, 1) := by decide +kernel
theorem dX6_append_18 : decode cX6_append 18 = .ok (.getfield 11, 3) := by decide +kernel
theorem dX6_append_21 : decode cX6_append 21 = .ok (.aload_n 0, 1) := by decide +kernel
theorem dX6_append_22 : decode cX6_append 22 = .ok (.getfield 15, 3) := by decide +kernel
theorem dX6_append_25 : decode cX6_append 25 = .ok (.iload_n 1, 1) := by decide +kernel
theorem dX6_append_26 : decode cX6_append 26 = .ok (.iload_n 2, 1) := by decide +kernel
theorem dX6_append_27 : decode cX6_append 27 = .ok (.ishr, 1) := by decide +kernel
theorem dX6_append_28 : decode cX6_append 28 = .ok (.i2b, 1) := by decide +kernel
theorem dX6_append_29 : decode cX6_append 29 = .ok (.bastore, 1) := by decide +kernel
theorem dX6_append_30 : decode cX6_append 30 = .ok (.aload_n 0, 1) := by decide +kernel
theorem dX6_append_31 : decode cX6_append 31 = .ok (.dup, 1) := by decide +kernel
theorem dX6_append_32 : decode cX6_append 32 = .ok (.getfield 15, 3) := by decide +kernel
theorem dX6_append_35 : decode cX6_append 35 = .ok (.iconst 1, 1) := by decide +kernel
theorem dX6_append_36 : decode cX6_append 36 = .ok (.iadd, 1) := by decide +kernel
theorem dX6_append_37 : decode cX6_append 37 = .ok (.putfield 15, 3) := by decide +kernel
theorem dX6_append_40 : decode cX6_append 40 = .ok (.iinc 2 (-8), 3) := by decide +kernel
theorem dX6_append_43 : decode cX6_append 43 = .ok (.goto (-40), 3) := by decide +kernel
theorem dX6_append_46 : decode cX6_append 46 = .ok (.return_, 1) := by decide +kernel
theorem dX6_scan_0 : decode cX6_scan 0 = .ok (.aload_n 0, 1) := by decide +kernel
theorem dX6_scan_1 : decode cX6_scan 1 = .ok (.getfield 19, 3) := by decide +kernel
theorem dX6_scan_4 : decode cX6_scan 4 = .ok (.aload_n 0, 1) := by decide +kernel
theorem dX6_scan_5 : decode cX6_scan 5 = .ok (.getfield 15, 3) := by decide +kernel
theorem dX6_scan_8 : decode cX6_scan 8 = .ok (.if_icmp .ge 31, 3) := by decide +kernel
theorem dX6_scan_11 : decode cX6_scan 11 = .ok (.aload_n 0, 1) := by decide +kernel
theorem dX6_scan_12 : decode cX6_scan 12 = .ok (.getfield 11, 3) := by decide +kernel
theorem dX6_scan_15 : decode cX6_scan 15 = .ok (.aload_n 0, 1) := by decide +kernel
theorem dX6_scan_16 : decode cX6_scan 16 = .ok (.getfield 19, 3) := by decide +kernel
theorem dX6_scan_19 : decode cX6_scan 19 = .ok (.baload, 1) := by decide +kernel
theorem dX6_scan_20 : decode cX6_scan 20 = .ok (.invokestatic 22, 3) := by decide +kernel
theorem dX6_scan_23 : decode cX6_scan 23 = .ok (.ifCond .eq 16, 3) := by decide +kernel
theorem dX6_scan_26 : decode cX6_scan 26 = .ok (.aload_n 0, 1) := by decide +kernel
theorem dX6_scan_27 : decode cX6_scan 27 = .ok (.dup, 1) := by decide +kernel
theorem dX6_scan_28 : decode cX6_scan 28 = .ok (.getfield 19, 3) := by decide +kernel
theorem dX6_scan_31 : decode cX6_scan 31 = .ok (.iconst 1, 1) := by decide +kernel
theorem dX6_scan_32 : decode cX6_scan 32 = .ok (.iadd, 1) := by decide +kernel
theorem dX6_scan_33 : decode cX6_scan 33 = .ok (.putfield 19, 3) := by decide +kernel
theorem dX6_scan_36 : decode cX6_scan 36 = .ok (.goto (-36), 3) := by decide +kernel
theorem dX6_scan_39 : decode cX6_scan 39 = .ok (.aload_n 0, 1) := by decide +kernel
theorem dX6_scan_40 : decode cX6_scan 40 = .ok (.aload_n 0, 1) := by decide +kernel
theorem dX6_scan_41 : decode cX6_scan 41 = .ok (.getfield 19, 3) := by decide +kernel
theorem dX6_scan_44 : decode cX6_scan 44 = .ok (.putfield 26, 3) := by decide +kernel
theorem dX6_scan_47 : decode cX6_scan 47 = .ok (.aload_n 0, 1) := by decide +kernel
theorem dX6_scan_48 : decode cX6_scan 48 = .ok (.iconst 0, 1) := by decide +kernel
theorem dX6_scan_49 : decode cX6_scan 49 = .ok (.putfield 29, 3) := by decide +kernel
theorem dX6_scan_52 : decode cX6_scan 52 = .ok (.aload_n 0, 1) := by decide +kernel
theorem dX6_scan_53 : decode cX6_scan 53 = .ok (.getfield 19, 3) := by decide +kernel
theorem dX6_scan_56 : decode cX6_scan 56 = .ok (.aload_n 0, 1) := by decide +kernel
theorem dX6_scan_57 : decode cX6_scan 57 = .ok (.getfield 15, 3) := by decide +kernel
theorem dX6_scan_60 : decode cX6_scan 60 = .ok (.if_icmp .lt 11, 3) := by decide +kernel
theorem dX6_scan_63 : decode cX6_scan 63 = .ok (.aload_n 0, 1) := by decide +kernel
theorem dX6_scan_64 : decode cX6_scan 64 = .ok (.iconst 0, 1) := by decide +kernel
theorem dX6_scan_65 : decode cX6_scan 65 = .ok (.putfield 32, 3) := by decide +kernel
theorem dX6_scan_68 : decode cX6_scan 68 = .ok (.goto 60, 3) := by decide +kernel
theorem dX6_scan_71 : decode cX6_scan 71 = .ok (.aload_n 0, 1) := by decide +kernel
theorem dX6_scan_72 : decode cX6_scan 72 = .ok (.getfield 11, 3) := by decide +kernel
theorem dX6_scan_75 : decode cX6_scan 75 = .ok (.aload_n 0, 1) := by decide +kernel
theorem dX6_scan_76 : decode cX6_scan 76 = .ok (.getfield 19, 3) := by decide +kernel
theorem dX6_scan_79 : decode cX6_scan 79 = .ok (.baload, 1) := by decide +kernel
theorem dX6_scan_80 : decode cX6_scan 80 = .ok (.invokestatic 35, 3) := by decide +kernel
theorem dX6_scan_83 : decode cX6_scan 83 = .ok (.ifCond .eq 10, 3) := by decide +kernel
theorem dX6_scan_86 : decode cX6_scan 86 = .ok (.aload_n 0, 1) := by decide +kernel
theorem dX6_scan_87 : decode cX6_scan 87 = .ok (.invokevirtual 38, 3) := by decide +kernel
theorem dX6_scan_90 : decode cX6_scan 90 = .ok (.goto 38, 3) := by decide +kernel
theorem dX6_scan_93 : decode cX6_scan 93 = .ok (.aload_n 0, 1) := by decide +kernel
theorem dX6_scan_94 : decode cX6_scan 94 = .ok (.getfield 11, 3) := by decide +kernel
theorem dX6_scan_97 : decode cX6_scan 97 = .ok (.aload_n 0, 1) := by decide +kernel
theorem dX6_scan_98 : decode cX6_scan 98 = .ok (.getfield 19, 3) := by decide +kernel
theorem dX6_scan_101 : decode cX6_scan 101 = .ok (.baload, 1) := by decide +kernel
theorem dX6_scan_102 : decode cX6_scan 102 = .ok (.invokestatic 41, 3) := by decide +kernel
theorem dX6_scan_105 : decode cX6_scan 105 = .ok (.ifCond .eq 10, 3) := by decide +kernel
theorem dX6_scan_108 : decode cX6_scan 108 = .ok (.aload_n 0, 1) := by decide +kernel
theorem dX6_scan_109 : decode cX6_scan 109 = .ok (.invokevirtual 44, 3) := by decide +kernel
theorem dX6_scan_112 : decode cX6_scan 112 = .ok (.goto 16, 3) := by decide +kernel
theorem dX6_scan_115 : decode cX6_scan 115 = .ok (.aload_n 0, 1) := by decide +kernel
theorem dX6_scan_116 : decode cX6_scan 116 = .ok (.aload_n 0, 1) := by decide +kernel
theorem dX6_scan_117 : decode cX6_scan 117 = .ok (.getfield 11, 3) := by decide +kernel
theorem dX6_scan_120 : decode cX6_scan 120 = .ok (.aload_n 0, 1) := by decide +kernel
theorem dX6_scan_121 : decode cX6_scan 121 = .ok (.getfield 19, 3) := by decide +kernel
theorem dX6_scan_124 : decode cX6_scan 124 = .ok (.baload, 1) := by decide +kernel
theorem dX6_scan_125 : decode cX6_scan 125 = .ok (.invokevirtual 47, 3) := by decide +kernel
theorem dX6_scan_128 : decode cX6_scan 128 = .ok (.return_, 1) := by decide +kernel
theorem dX6_scanWord_0 : decode cX6_scanWord 0 = .ok (.aload_n 0, 1) := by decide +kernel
theorem dX6_scanWord_1 : decode cX6_scanWord 1 = .ok (.getfield 19, 3) := by decide +kernel
theorem dX6_scanWord_4 : decode cX6_scanWord 4 = .ok (.aload_n 0, 1) := by decide +kernel
theorem dX6_scanWord_5 : decode cX6_scanWord 5 = .ok (.getfield 15, 3) := by decide +kernel
theorem dX6_scanWord_8 : decode cX6_scanWord 8 = .ok (.if_icmp .ge 31, 3) := by decide +kernel
theorem dX6_scanWord_11 : decode cX6_scanWord 11 = .ok (.aload_n 0, 1) := by decide +kernel
theorem dX6_scanWord_12 : decode cX6_scanWord 12 = .ok (.getfield 11, 3) := by decide +kernel
theorem dX6_scanWord_15 : decode cX6_scanWord 15 = .ok (.aload_n 0, 1) := by decide +kernel
theorem dX6_scanWord_16 : decode cX6_scanWord 16 = .ok (.getfield 19, 3) := by decide +kernel
theorem dX6_scanWord_19 : decode cX6_scanWord 19 = .ok (.baload, 1) := by decide +kernel
theorem dX6_scanWord_20 : decode cX6_scanWord 20 = .ok (.invokestatic 35, 3) := by decide +kernel
theorem dX6_scanWord_23 : decode cX6_scanWord 23 = .ok (.ifCond .eq 16, 3) := by decide +kernel
theorem dX6_scanWord_26 : decode cX6_scanWord 26 = .ok (.aload_n 0, 1) := by decide +kernel
theorem dX6_scanWord_27 : decode cX6_scanWord 27 = .ok (.dup, 1) := by decide +kernel
theorem dX6_scanWord_28 : decode cX6_scanWord 28 = .ok (.getfield 19, 3) := by decide +kernel
theorem dX6_scanWord_31 : decode cX6_scanWord 31 = .ok (.iconst 1, 1) := by decide +kernel
theorem dX6_scanWord_32 : decode cX6_scanWord 32 = .ok (.iadd, 1) := by decide +kernel
theorem dX6_scanWord_33 : decode cX6_scanWord 33 = .ok (.putfield 19, 3) := by decide +kernel
theorem dX6_scanWord_36 : decode cX6_scanWord 36 = .ok (.goto (-36), 3) := by decide +kernel
theorem dX6_scanWord_39 : decode cX6_scanWord 39 = .ok (.aload_n 0, 1) := by decide +kernel
theorem dX6_scanWord_40 : decode cX6_scanWord 40 = .ok (.getfield 19, 3) := by decide +kernel
theorem dX6_scanWord_43 : decode cX6_scanWord 43 = .ok (.aload_n 0, 1) := by decide +kernel
theorem dX6_scanWord_44 : decode cX6_scanWord 44 = .ok (.getfield 26, 3) := by decide +kernel
theorem dX6_scanWord_47 : decode cX6_scanWord 47 = .ok (.isub, 1) := by decide +kernel
theorem dX6_scanWord_48 : decode cX6_scanWord 48 = .ok (.bipush 8, 2) := by decide +kernel
theorem dX6_scanWord_50 : decode cX6_scanWord 50 = .ok (.if_icmp .le 7, 3) := by decide +kernel
theorem dX6_scanWord_53 : decode cX6_scanWord 53 = .ok (.iconst (-1), 1) := by decide +kernel
theorem dX6_scanWord_54 : decode cX6_scanWord 54 = .ok (.goto 7, 3) := by decide +kernel
theorem dX6_scanWord_57 : decode cX6_scanWord 57 = .ok (.aload_n 0, 1) := by decide +kernel
theorem dX6_scanWord_58 : decode cX6_scanWord 58 = .ok (.invokevirtual 51, 3) := by decide +kernel
theorem dX6_scanWord_61 : decode cX6_scanWord 61 = .ok (.istore_n 1, 1) := by decide +kernel
theorem dX6_scanWord_62 : decode cX6_scanWord 62 = .ok (.iload_n 1, 1) := by decide +kernel
theorem dX6_scanWord_63 : decode cX6_scanWord 63 = .ok (.iconst (-1), 1) := by decide +kernel
theorem dX6_scanWord_64 : decode cX6_scanWord 64 = .ok (.if_icmp .ne 11, 3) := by decide +kernel
theorem dX6_scanWord_67 : decode cX6_scanWord 67 = .ok (.aload_n 0, 1) := by decide +kernel
theorem dX6_scanWord_68 : decode cX6_scanWord 68 = .ok (.iconst 1, 1) := by decide +kernel
theorem dX6_scanWord_69 : decode cX6_scanWord 69 = .ok (.putfield 32, 3) := by decide +kernel
theorem dX6_scanWord_72 : decode cX6_scanWord 72 = .ok (.goto 71, 3) := by decide +kernel
theorem dX6_scanWord_75 : decode cX6_scanWord 75 = .ok (.iload_n 1, 1) := by decide +kernel
theorem dX6_scanWord_76 : decode cX6_scanWord 76 = .ok (.bipush 6, 2) := by decide +kernel
theorem dX6_scanWord_78 : decode cX6_scanWord 78 = .ok (.if_icmp .ge 16, 3) := by decide +kernel
theorem dX6_scanWord_81 : decode cX6_scanWord 81 = .ok (.aload_n 0, 1) := by decide +kernel
theorem dX6_scanWord_82 : decode cX6_scanWord 82 = .ok (.iconst 4, 1) := by decide +kernel
theorem dX6_scanWord_83 : decode cX6_scanWord 83 = .ok (.putfield 32, 3) := by decide +kernel
theorem dX6_scanWord_86 : decode cX6_scanWord 86 = .ok (.aload_n 0, 1) := by decide +kernel
theorem dX6_scanWord_87 : decode cX6_scanWord 87 = .ok (.iload_n 1, 1) := by decide +kernel
theorem dX6_scanWord_88 : decode cX6_scanWord 88 = .ok (.putfield 29, 3) := by decide +kernel
theorem dX6_scanWord_91 : decode cX6_scanWord 91 = .ok (.goto 52, 3) := by decide +kernel
theorem dX6_scanWord_94 : decode cX6_scanWord 94 = .ok (.iload_n 1, 1) := by decide +kernel
theorem dX6_scanWord_95 : decode cX6_scanWord 95 = .ok (.bipush 9, 2) := by decide +kernel
theorem dX6_scanWord_97 : decode cX6_scanWord 97 = .ok (.if_icmp .ge 33, 3) := by decide +kernel
theorem dX6_scanWord_100 : decode cX6_scanWord 100 = .ok (.aload_n 0, 1) := by decide +kernel
theorem dX6_scanWord_101 : decode cX6_scanWord 101 = .ok (.iload_n 1, 1) := by decide +kernel
theorem dX6_scanWord_102 : decode cX6_scanWord 102 = .ok (.bipush 6, 2) := by decide +kernel
theorem dX6_scanWord_104 : decode cX6_scanWord 104 = .ok (.if_icmp .ne 7, 3) := by decide +kernel
theorem dX6_scanWord_107 : decode cX6_scanWord 107 = .ok (.iconst 5, 1) := by decide +kernel
theorem dX6_scanWord_108 : decode cX6_scanWord 108 = .ok (.goto 16, 3) := by decide +kernel
theorem dX6_scanWord_111 : decode cX6_scanWord 111 = .ok (.iload_n 1, 1) := by decide +kernel
theorem dX6_scanWord_112 : decode cX6_scanWord 112 = .ok (.bipush 7, 2) := by decide +kernel
theorem dX6_scanWord_114 : decode cX6_scanWord 114 = .ok (.if_icmp .ne 8, 3) := by decide +kernel
theorem dX6_scanWord_117 : decode cX6_scanWord 117 = .ok (.bipush 10, 2) := by decide +kernel
theorem dX6_scanWord_119 : decode cX6_scanWord 119 = .ok (.goto 5, 3) := by decide +kernel
theorem dX6_scanWord_122 : decode cX6_scanWord 122 = .ok (.bipush 9, 2) := by decide +kernel
theorem dX6_scanWord_124 : decode cX6_scanWord 124 = .ok (.putfield 32, 3) := by decide +kernel
theorem dX6_scanWord_127 : decode cX6_scanWord 127 = .ok (.goto 16, 3) := by decide +kernel
theorem dX6_scanWord_130 : decode cX6_scanWord 130 = .ok (.aload_n 0, 1) := by decide +kernel
theorem dX6_scanWord_131 : decode cX6_scanWord 131 = .ok (.iconst 3, 1) := by decide +kernel
theorem dX6_scanWord_132 : decode cX6_scanWord 132 = .ok (.putfield 32, 3) := by decide +kernel
theorem dX6_scanWord_135 : decode cX6_scanWord 135 = .ok (.aload_n 0, 1) := by decide +kernel
theorem dX6_scanWord_136 : decode cX6_scanWord 136 = .ok (.iload_n 1, 1) := by decide +kernel
theorem dX6_scanWord_137 : decode cX6_scanWord 137 = .ok (.bipush 9, 2) := by decide +kernel
theorem dX6_scanWord_139 : decode cX6_scanWord 139 = .ok (.isub, 1) := by decide +kernel
theorem dX6_scanWord_140 : decode cX6_scanWord 140 = .ok (.putfield 29, 3) := by decide +kernel
theorem dX6_scanWord_143 : decode cX6_scanWord 143 = .ok (.return_, 1) := by decide +kernel
theorem dX6_wordNumber_0 : decode cX6_wordNumber 0 = .ok (.iconst 0, 1) := by decide +kernel
theorem dX6_wordNumber_1 : decode cX6_wordNumber 1 = .ok (.istore_n 1, 1) := by decide +kernel
theorem dX6_wordNumber_2 : decode cX6_wordNumber 2 = .ok (.iload_n 1, 1) := by decide +kernel
theorem dX6_wordNumber_3 : decode cX6_wordNumber 3 = .ok (.bipush 14, 2) := by decide +kernel
theorem dX6_wordNumber_5 : decode cX6_wordNumber 5 = .ok (.if_icmp .ge 19, 3) := by decide +kernel
theorem dX6_wordNumber_8 : decode cX6_wordNumber 8 = .ok (.aload_n 0, 1) := by decide +kernel
theorem dX6_wordNumber_9 : decode cX6_wordNumber 9 = .ok (.iload_n 1, 1) := by decide +kernel
theorem dX6_wordNumber_10 : decode cX6_wordNumber 10 = .ok (.invokevirtual 55, 3) := by decide +kernel
theorem dX6_wordNumber_13 : decode cX6_wordNumber 13 = .ok (.ifCond .eq 5, 3) := by decide +kernel
theorem dX6_wordNumber_16 : decode cX6_wordNumber 16 = .ok (.iload_n 1, 1) := by decide +kernel
theorem dX6_wordNumber_17 : decode cX6_wordNumber 17 = .ok (.ireturn, 1) := by decide +kernel
theorem dX6_wordNumber_18 : decode cX6_wordNumber 18 = .ok (.iinc 1 1, 3) := by decide +kernel
theorem dX6_wordNumber_21 : decode cX6_wordNumber 21 = .ok (.goto (-19), 3) := by decide +kernel
theorem dX6_wordNumber_24 : decode cX6_wordNumber 24 = .ok (.iconst (-1), 1) := by decide +kernel
theorem dX6_wordNumber_25 : decode cX6_wordNumber 25 = .ok (.ireturn, 1) := by decide +kernel
theorem dX6_isWord_0 : decode cX6_isWord 0 = .ok (.iconst 0, 1) := by decide +kernel
theorem dX6_isWord_1 : decode cX6_isWord 1 = .ok (.istore_n 2, 1) := by decide +kernel
theorem dX6_isWord_2 : decode cX6_isWord 2 = .ok (.iload_n 2, 1) := by decide +kernel
theorem dX6_isWord_3 : decode cX6_isWord 3 = .ok (.bipush 8, 2) := by decide +kernel
theorem dX6_isWord_5 : decode cX6_isWord 5 = .ok (.if_icmp .ge 61, 3) := by decide +kernel
theorem dX6_isWord_8 : decode cX6_isWord 8 = .ok (.ldc 59, 2) := by decide +kernel
theorem dX6_isWord_10 : decode cX6_isWord 10 = .ok (.bipush 8, 2) := by decide +kernel
theorem dX6_isWord_12 : decode cX6_isWord 12 = .ok (.iload_n 1, 1) := by decide +kernel
theorem dX6_isWord_13 : decode cX6_isWord 13 = .ok (.imul, 1) := by decide +kernel
theorem dX6_isWord_14 : decode cX6_isWord 14 = .ok (.iload_n 2, 1) := by decide +kernel
theorem dX6_isWord_15 : decode cX6_isWord 15 = .ok (.iadd, 1) := by decide +kernel
theorem dX6_isWord_16 : decode cX6_isWord 16 = .ok (.invokevirtual 61, 3) := by decide +kernel
theorem dX6_isWord_19 : decode cX6_isWord 19 = .ok (.istore_n 3, 1) := by decide +kernel
theorem dX6_isWord_20 : decode cX6_isWord 20 = .ok (.aload_n 0, 1) := by decide +kernel
theorem dX6_isWord_21 : decode cX6_isWord 21 = .ok (.getfield 26, 3) := by decide +kernel
theorem dX6_isWord_24 : decode cX6_isWord 24 = .ok (.iload_n 2, 1) := by decide +kernel
theorem dX6_isWord_25 : decode cX6_isWord 25 = .ok (.iadd, 1) := by decide +kernel
theorem dX6_isWord_26 : decode cX6_isWord 26 = .ok (.aload_n 0, 1) := by decide +kernel
theorem dX6_isWord_27 : decode cX6_isWord 27 = .ok (.getfield 19, 3) := by decide +kernel
theorem dX6_isWord_30 : decode cX6_isWord 30 = .ok (.if_icmp .ge 18, 3) := by decide +kernel
theorem dX6_isWord_33 : decode cX6_isWord 33 = .ok (.aload_n 0, 1) := by decide +kernel
theorem dX6_isWord_34 : decode cX6_isWord 34 = .ok (.getfield 11, 3) := by decide +kernel
theorem dX6_isWord_37 : decode cX6_isWord 37 = .ok (.aload_n 0, 1) := by decide +kernel
theorem dX6_isWord_38 : decode cX6_isWord 38 = .ok (.getfield 26, 3) := by decide +kernel
theorem dX6_isWord_41 : decode cX6_isWord 41 = .ok (.iload_n 2, 1) := by decide +kernel
theorem dX6_isWord_42 : decode cX6_isWord 42 = .ok (.iadd, 1) := by decide +kernel
theorem dX6_isWord_43 : decode cX6_isWord 43 = .ok (.baload, 1) := by decide +kernel
theorem dX6_isWord_44 : decode cX6_isWord 44 = .ok (.i2c, 1) := by decide +kernel
theorem dX6_isWord_45 : decode cX6_isWord 45 = .ok (.goto 5, 3) := by decide +kernel
theorem dX6_isWord_48 : decode cX6_isWord 48 = .ok (.bipush 32, 2) := by decide +kernel
theorem dX6_isWord_50 : decode cX6_isWord 50 = .ok (.istore 4, 2) := by decide +kernel
theorem dX6_isWord_52 : decode cX6_isWord 52 = .ok (.iload_n 3, 1) := by decide +kernel
theorem dX6_isWord_53 : decode cX6_isWord 53 = .ok (.iload 4, 2) := by decide +kernel
theorem dX6_isWord_55 : decode cX6_isWord 55 = .ok (.if_icmp .eq 5, 3) := by decide +kernel
theorem dX6_isWord_58 : decode cX6_isWord 58 = .ok (.iconst 0, 1) := by decide +kernel
theorem dX6_isWord_59 : decode cX6_isWord 59 = .ok (.ireturn, 1) := by decide +kernel
theorem dX6_isWord_60 : decode cX6_isWord 60 = .ok (.iinc 2 1, 3) := by decide +kernel
theorem dX6_isWord_63 : decode cX6_isWord 63 = .ok (.goto (-61), 3) := by decide +kernel
theorem dX6_isWord_66 : decode cX6_isWord 66 = .ok (.iconst 1, 1) := by decide +kernel
theorem dX6_isWord_67 : decode cX6_isWord 67 = .ok (.ireturn, 1) := by decide +kernel
theorem dX6_scanNumber_0 : decode cX6_scanNumber 0 = .ok (.aload_n 0, 1) := by decide +kernel
theorem dX6_scanNumber_1 : decode cX6_scanNumber 1 = .ok (.getfield 19, 3) := by decide +kernel
theorem dX6_scanNumber_4 : decode cX6_scanNumber 4 = .ok (.aload_n 0, 1) := by decide +kernel
theorem dX6_scanNumber_5 : decode cX6_scanNumber 5 = .ok (.getfield 15, 3) := by decide +kernel
theorem dX6_scanNumber_8 : decode cX6_scanNumber 8 = .ok (.if_icmp .ge 55, 3) := by decide +kernel
theorem dX6_scanNumber_11 : decode cX6_scanNumber 11 = .ok (.aload_n 0, 1) := by decide +kernel
theorem dX6_scanNumber_12 : decode cX6_scanNumber 12 = .ok (.getfield 11, 3) := by decide +kernel
theorem dX6_scanNumber_15 : decode cX6_scanNumber 15 = .ok (.aload_n 0, 1) := by decide +kernel
theorem dX6_scanNumber_16 : decode cX6_scanNumber 16 = .ok (.getfield 19, 3) := by decide +kernel
theorem dX6_scanNumber_19 : decode cX6_scanNumber 19 = .ok (.baload, 1) := by decide +kernel
theorem dX6_scanNumber_20 : decode cX6_scanNumber 20 = .ok (.invokestatic 41, 3) := by decide +kernel
theorem dX6_scanNumber_23 : decode cX6_scanNumber 23 = .ok (.ifCond .eq 40, 3) := by decide +kernel
theorem dX6_scanNumber_26 : decode cX6_scanNumber 26 = .ok (.aload_n 0, 1) := by decide +kernel
theorem dX6_scanNumber_27 : decode cX6_scanNumber 27 = .ok (.bipush 10, 2) := by decide +kernel
theorem dX6_scanNumber_29 : decode cX6_scanNumber 29 = .ok (.aload_n 0, 1) := by decide +kernel
theorem dX6_scanNumber_30 : decode cX6_scanNumber 30 = .ok (.getfield 29, 3) := by decide +kernel
theorem dX6_scanNumber_33 : decode cX6_scanNumber 33 = .ok (.imul, 1) := by decide +kernel
theorem dX6_scanNumber_34 : decode cX6_scanNumber 34 = .ok (.aload_n 0, 1) := by decide +kernel
theorem dX6_scanNumber_35 : decode cX6_scanNumber 35 = .ok (.getfield 11, 3) := by decide +kernel
theorem dX6_scanNumber_38 : decode cX6_scanNumber 38 = .ok (.aload_n 0, 1) := by decide +kernel
theorem dX6_scanNumber_39 : decode cX6_scanNumber 39 = .ok (.getfield 19, 3) := by decide +kernel
theorem dX6_scanNumber_42 : decode cX6_scanNumber 42 = .ok (.baload, 1) := by decide +kernel
theorem dX6_scanNumber_43 : decode cX6_scanNumber 43 = .ok (.bipush 48, 2) := by decide +kernel
theorem dX6_scanNumber_45 : decode cX6_scanNumber 45 = .ok (.isub, 1) := by decide +kernel
theorem dX6_scanNumber_46 : decode cX6_scanNumber 46 = .ok (.iadd, 1) := by decide +kernel
theorem dX6_scanNumber_47 : decode cX6_scanNumber 47 = .ok (.putfield 29, 3) := by decide +kernel
theorem dX6_scanNumber_50 : decode cX6_scanNumber 50 = .ok (.aload_n 0, 1) := by decide +kernel
theorem dX6_scanNumber_51 : decode cX6_scanNumber 51 = .ok (.dup, 1) := by decide +kernel
theorem dX6_scanNumber_52 : decode cX6_scanNumber 52 = .ok (.getfield 19, 3) := by decide +kernel
theorem dX6_scanNumber_55 : decode cX6_scanNumber 55 = .ok (.iconst 1, 1) := by decide +kernel
theorem dX6_scanNumber_56 : decode cX6_scanNumber 56 = .ok (.iadd, 1) := by decide +kernel
theorem dX6_scanNumber_57 : decode cX6_scanNumber 57 = .ok (.putfield 19, 3) := by decide +kernel
theorem dX6_scanNumber_60 : decode cX6_scanNumber 60 = .ok (.goto (-60), 3) := by decide +kernel
theorem dX6_scanNumber_63 : decode cX6_scanNumber 63 = .ok (.aload_n 0, 1) := by decide +kernel
theorem dX6_scanNumber_64 : decode cX6_scanNumber 64 = .ok (.aload_n 0, 1) := by decide +kernel
theorem dX6_scanNumber_65 : decode cX6_scanNumber 65 = .ok (.getfield 19, 3) := by decide +kernel
theorem dX6_scanNumber_68 : decode cX6_scanNumber 68 = .ok (.aload_n 0, 1) := by decide +kernel
theorem dX6_scanNumber_69 : decode cX6_scanNumber 69 = .ok (.getfield 26, 3) := by decide +kernel
theorem dX6_scanNumber_72 : decode cX6_scanNumber 72 = .ok (.isub, 1) := by decide +kernel
theorem dX6_scanNumber_73 : decode cX6_scanNumber 73 = .ok (.iconst 4, 1) := by decide +kernel
theorem dX6_scanNumber_74 : decode cX6_scanNumber 74 = .ok (.if_icmp .le 7, 3) := by decide +kernel
theorem dX6_scanNumber_77 : decode cX6_scanNumber 77 = .ok (.iconst 1, 1) := by decide +kernel
theorem dX6_scanNumber_78 : decode cX6_scanNumber 78 = .ok (.goto 4, 3) := by decide +kernel
theorem dX6_scanNumber_81 : decode cX6_scanNumber 81 = .ok (.iconst 2, 1) := by decide +kernel
theorem dX6_scanNumber_82 : decode cX6_scanNumber 82 = .ok (.putfield 32, 3) := by decide +kernel
theorem dX6_scanNumber_85 : decode cX6_scanNumber 85 = .ok (.return_, 1) := by decide +kernel
theorem dX6_scanSign_0 : decode cX6_scanSign 0 = .ok (.aload_n 0, 1) := by decide +kernel
theorem dX6_scanSign_1 : decode cX6_scanSign 1 = .ok (.dup, 1) := by decide +kernel
theorem dX6_scanSign_2 : decode cX6_scanSign 2 = .ok (.getfield 19, 3) := by decide +kernel
theorem dX6_scanSign_5 : decode cX6_scanSign 5 = .ok (.iconst 1, 1) := by decide +kernel
theorem dX6_scanSign_6 : decode cX6_scanSign 6 = .ok (.iadd, 1) := by decide +kernel
theorem dX6_scanSign_7 : decode cX6_scanSign 7 = .ok (.putfield 19, 3) := by decide +kernel
theorem dX6_scanSign_10 : decode cX6_scanSign 10 = .ok (.aload_n 0, 1) := by decide +kernel
theorem dX6_scanSign_11 : decode cX6_scanSign 11 = .ok (.getfield 19, 3) := by decide +kernel
theorem dX6_scanSign_14 : decode cX6_scanSign 14 = .ok (.aload_n 0, 1) := by decide +kernel
theorem dX6_scanSign_15 : decode cX6_scanSign 15 = .ok (.getfield 15, 3) := by decide +kernel
theorem dX6_scanSign_18 : decode cX6_scanSign 18 = .ok (.if_icmp .ge 21, 3) := by decide +kernel
theorem dX6_scanSign_21 : decode cX6_scanSign 21 = .ok (.aload_n 0, 1) := by decide +kernel
theorem dX6_scanSign_22 : decode cX6_scanSign 22 = .ok (.getfield 11, 3) := by decide +kernel
theorem dX6_scanSign_25 : decode cX6_scanSign 25 = .ok (.aload_n 0, 1) := by decide +kernel
theorem dX6_scanSign_26 : decode cX6_scanSign 26 = .ok (.getfield 19, 3) := by decide +kernel
theorem dX6_scanSign_29 : decode cX6_scanSign 29 = .ok (.baload, 1) := by decide +kernel
theorem dX6_scanSign_30 : decode cX6_scanSign 30 = .ok (.bipush 61, 2) := by decide +kernel
theorem dX6_scanSign_32 : decode cX6_scanSign 32 = .ok (.if_icmp .ne 7, 3) := by decide +kernel
theorem dX6_scanSign_35 : decode cX6_scanSign 35 = .ok (.iconst 1, 1) := by decide +kernel
theorem dX6_scanSign_36 : decode cX6_scanSign 36 = .ok (.goto 4, 3) := by decide +kernel
theorem dX6_scanSign_39 : decode cX6_scanSign 39 = .ok (.iconst 0, 1) := by decide +kernel
theorem dX6_scanSign_40 : decode cX6_scanSign 40 = .ok (.istore_n 2, 1) := by decide +kernel
theorem dX6_scanSign_41 : decode cX6_scanSign 41 = .ok (.iload_n 1, 1) := by decide +kernel
theorem dX6_scanSign_42 : decode cX6_scanSign 42 = .ok (.tableswitch 236 33 61 #[219, 236, 236, 236, 236, 236, 236, 166, 175, 157, 139, 236, 148, 236, 236, 236, 236, 236, 236, 236, 236, 236, 236, 236, 236, 236, 130, 184, 202], 130) := by decide +kernel
theorem dX6_scanSign_172 : decode cX6_scanSign 172 = .ok (.aload_n 0, 1) := by decide +kernel
theorem dX6_scanSign_173 : decode cX6_scanSign 173 = .ok (.bipush 6, 2) := by decide +kernel
theorem dX6_scanSign_175 : decode cX6_scanSign 175 = .ok (.putfield 32, 3) := by decide +kernel
theorem dX6_scanSign_178 : decode cX6_scanSign 178 = .ok (.goto 105, 3) := by decide +kernel
theorem dX6_scanSign_181 : decode cX6_scanSign 181 = .ok (.aload_n 0, 1) := by decide +kernel
theorem dX6_scanSign_182 : decode cX6_scanSign 182 = .ok (.bipush 15, 2) := by decide +kernel
theorem dX6_scanSign_184 : decode cX6_scanSign 184 = .ok (.putfield 32, 3) := by decide +kernel
theorem dX6_scanSign_187 : decode cX6_scanSign 187 = .ok (.goto 96, 3) := by decide +kernel
theorem dX6_scanSign_190 : decode cX6_scanSign 190 = .ok (.aload_n 0, 1) := by decide +kernel
theorem dX6_scanSign_191 : decode cX6_scanSign 191 = .ok (.bipush 16, 2) := by decide +kernel
theorem dX6_scanSign_193 : decode cX6_scanSign 193 = .ok (.putfield 32, 3) := by decide +kernel
theorem dX6_scanSign_196 : decode cX6_scanSign 196 = .ok (.goto 87, 3) := by decide +kernel
theorem dX6_scanSign_199 : decode cX6_scanSign 199 = .ok (.aload_n 0, 1) := by decide +kernel
theorem dX6_scanSign_200 : decode cX6_scanSign 200 = .ok (.bipush 17, 2) := by decide +kernel
theorem dX6_scanSign_202 : decode cX6_scanSign 202 = .ok (.putfield 32, 3) := by decide +kernel
theorem dX6_scanSign_205 : decode cX6_scanSign 205 = .ok (.goto 78, 3) := by decide +kernel
theorem dX6_scanSign_208 : decode cX6_scanSign 208 = .ok (.aload_n 0, 1) := by decide +kernel
theorem dX6_scanSign_209 : decode cX6_scanSign 209 = .ok (.bipush 8, 2) := by decide +kernel
theorem dX6_scanSign_211 : decode cX6_scanSign 211 = .ok (.putfield 32, 3) := by decide +kernel
theorem dX6_scanSign_214 : decode cX6_scanSign 214 = .ok (.goto 69, 3) := by decide +kernel
theorem dX6_scanSign_217 : decode cX6_scanSign 217 = .ok (.aload_n 0, 1) := by decide +kernel
theorem dX6_scanSign_218 : decode cX6_scanSign 218 = .ok (.bipush 7, 2) := by decide +kernel
theorem dX6_scanSign_220 : decode cX6_scanSign 220 = .ok (.putfield 32, 3) := by decide +kernel
theorem dX6_scanSign_223 : decode cX6_scanSign 223 = .ok (.goto 60, 3) := by decide +kernel
theorem dX6_scanSign_226 : decode cX6_scanSign 226 = .ok (.aload_n 0, 1) := by decide +kernel
theorem dX6_scanSign_227 : decode cX6_scanSign 227 = .ok (.iload_n 2, 1) := by decide +kernel
theorem dX6_scanSign_228 : decode cX6_scanSign 228 = .ok (.ifCond .eq 8, 3) := by decide +kernel
theorem dX6_scanSign_231 : decode cX6_scanSign 231 = .ok (.bipush 14, 2) := by decide +kernel
theorem dX6_scanSign_233 : decode cX6_scanSign 233 = .ok (.goto 5, 3) := by decide +kernel
theorem dX6_scanSign_236 : decode cX6_scanSign 236 = .ok (.bipush 13, 2) := by decide +kernel
theorem dX6_scanSign_238 : decode cX6_scanSign 238 = .ok (.putfield 32, 3) := by decide +kernel
theorem dX6_scanSign_241 : decode cX6_scanSign 241 = .ok (.goto 42, 3) := by decide +kernel
theorem dX6_scanSign_244 : decode cX6_scanSign 244 = .ok (.aload_n 0, 1) := by decide +kernel
theorem dX6_scanSign_245 : decode cX6_scanSign 245 = .ok (.iload_n 2, 1) := by decide +kernel
theorem dX6_scanSign_246 : decode cX6_scanSign 246 = .ok (.ifCond .eq 8, 3) := by decide +kernel
theorem dX6_scanSign_249 : decode cX6_scanSign 249 = .ok (.bipush 11, 2) := by decide +kernel
theorem dX6_scanSign_251 : decode cX6_scanSign 251 = .ok (.goto 4, 3) := by decide +kernel
theorem dX6_scanSign_254 : decode cX6_scanSign 254 = .ok (.iconst 1, 1) := by decide +kernel
theorem dX6_scanSign_255 : decode cX6_scanSign 255 = .ok (.putfield 32, 3) := by decide +kernel
theorem dX6_scanSign_258 : decode cX6_scanSign 258 = .ok (.goto 25, 3) := by decide +kernel
theorem dX6_scanSign_261 : decode cX6_scanSign 261 = .ok (.aload_n 0, 1) := by decide +kernel
theorem dX6_scanSign_262 : decode cX6_scanSign 262 = .ok (.iload_n 2, 1) := by decide +kernel
theorem dX6_scanSign_263 : decode cX6_scanSign 263 = .ok (.ifCond .eq 8, 3) := by decide +kernel
theorem dX6_scanSign_266 : decode cX6_scanSign 266 = .ok (.bipush 12, 2) := by decide +kernel
theorem dX6_scanSign_268 : decode cX6_scanSign 268 = .ok (.goto 4, 3) := by decide +kernel
theorem dX6_scanSign_271 : decode cX6_scanSign 271 = .ok (.iconst 1, 1) := by decide +kernel
theorem dX6_scanSign_272 : decode cX6_scanSign 272 = .ok (.putfield 32, 3) := by decide +kernel
theorem dX6_scanSign_275 : decode cX6_scanSign 275 = .ok (.goto 8, 3) := by decide +kernel
theorem dX6_scanSign_278 : decode cX6_scanSign 278 = .ok (.aload_n 0, 1) := by decide +kernel
theorem dX6_scanSign_279 : decode cX6_scanSign 279 = .ok (.iconst 1, 1) := by decide +kernel
theorem dX6_scanSign_280 : decode cX6_scanSign 280 = .ok (.putfield 32, 3) := by decide +kernel
theorem dX6_scanSign_283 : decode cX6_scanSign 283 = .ok (.aload_n 0, 1) := by decide +kernel
theorem dX6_scanSign_284 : decode cX6_scanSign 284 = .ok (.getfield 32, 3) := by decide +kernel
theorem dX6_scanSign_287 : decode cX6_scanSign 287 = .ok (.bipush 14, 2) := by decide +kernel
theorem dX6_scanSign_289 : decode cX6_scanSign 289 = .ok (.if_icmp .eq 21, 3) := by decide +kernel
theorem dX6_scanSign_292 : decode cX6_scanSign 292 = .ok (.aload_n 0, 1) := by decide +kernel
theorem dX6_scanSign_293 : decode cX6_scanSign 293 = .ok (.getfield 32, 3) := by decide +kernel
theorem dX6_scanSign_296 : decode cX6_scanSign 296 = .ok (.bipush 11, 2) := by decide +kernel
theorem dX6_scanSign_298 : decode cX6_scanSign 298 = .ok (.if_icmp .eq 12, 3) := by decide +kernel
theorem dX6_scanSign_301 : decode cX6_scanSign 301 = .ok (.aload_n 0, 1) := by decide +kernel
theorem dX6_scanSign_302 : decode cX6_scanSign 302 = .ok (.getfield 32, 3) := by decide +kernel
theorem dX6_scanSign_305 : decode cX6_scanSign 305 = .ok (.bipush 12, 2) := by decide +kernel
theorem dX6_scanSign_307 : decode cX6_scanSign 307 = .ok (.if_icmp .ne 13, 3) := by decide +kernel
theorem dX6_scanSign_310 : decode cX6_scanSign 310 = .ok (.aload_n 0, 1) := by decide +kernel
theorem dX6_scanSign_311 : decode cX6_scanSign 311 = .ok (.dup, 1) := by decide +kernel
theorem dX6_scanSign_312 : decode cX6_scanSign 312 = .ok (.getfield 19, 3) := by decide +kernel
theorem dX6_scanSign_315 : decode cX6_scanSign 315 = .ok (.iconst 1, 1) := by decide +kernel
theorem dX6_scanSign_316 : decode cX6_scanSign 316 = .ok (.iadd, 1) := by decide +kernel
theorem dX6_scanSign_317 : decode cX6_scanSign 317 = .ok (.putfield 19, 3) := by decide +kernel
theorem dX6_scanSign_320 : decode cX6_scanSign 320 = .ok (.return_, 1) := by decide +kernel
theorem dX6_isBlank_0 : decode cX6_isBlank 0 = .ok (.iload_n 0, 1) := by decide +kernel
theorem dX6_isBlank_1 : decode cX6_isBlank 1 = .ok (.bipush 9, 2) := by decide +kernel
theorem dX6_isBlank_3 : decode cX6_isBlank 3 = .ok (.if_icmp .eq 21, 3) := by decide +kernel
theorem dX6_isBlank_6 : decode cX6_isBlank 6 = .ok (.iload_n 0, 1) := by decide +kernel
theorem dX6_isBlank_7 : decode cX6_isBlank 7 = .ok (.bipush 10, 2) := by decide +kernel
theorem dX6_isBlank_9 : decode cX6_isBlank 9 = .ok (.if_icmp .eq 15, 3) := by decide +kernel
theorem dX6_isBlank_12 : decode cX6_isBlank 12 = .ok (.iload_n 0, 1) := by decide +kernel
theorem dX6_isBlank_13 : decode cX6_isBlank 13 = .ok (.bipush 13, 2) := by decide +kernel
theorem dX6_isBlank_15 : decode cX6_isBlank 15 = .ok (.if_icmp .eq 9, 3) := by decide +kernel
theorem dX6_isBlank_18 : decode cX6_isBlank 18 = .ok (.iload_n 0, 1) := by decide +kernel
theorem dX6_isBlank_19 : decode cX6_isBlank 19 = .ok (.bipush 32, 2) := by decide +kernel
theorem dX6_isBlank_21 : decode cX6_isBlank 21 = .ok (.if_icmp .ne 7, 3) := by decide +kernel
theorem dX6_isBlank_24 : decode cX6_isBlank 24 = .ok (.iconst 1, 1) := by decide +kernel
theorem dX6_isBlank_25 : decode cX6_isBlank 25 = .ok (.goto 4, 3) := by decide +kernel
theorem dX6_isBlank_28 : decode cX6_isBlank 28 = .ok (.iconst 0, 1) := by decide +kernel
theorem dX6_isBlank_29 : decode cX6_isBlank 29 = .ok (.ireturn, 1) := by decide +kernel
theorem dX6_isLetter_0 : decode cX6_isLetter 0 = .ok (.iload_n 0, 1) := by decide +kernel
theorem dX6_isLetter_1 : decode cX6_isLetter 1 = .ok (.bipush 97, 2) := by decide +kernel
theorem dX6_isLetter_3 : decode cX6_isLetter 3 = .ok (.if_icmp .lt 13, 3) := by decide +kernel
theorem dX6_isLetter_6 : decode cX6_isLetter 6 = .ok (.iload_n 0, 1) := by decide +kernel
theorem dX6_isLetter_7 : decode cX6_isLetter 7 = .ok (.bipush 122, 2) := by decide +kernel
theorem dX6_isLetter_9 : decode cX6_isLetter 9 = .ok (.if_icmp .gt 7, 3) := by decide +kernel
theorem dX6_isLetter_12 : decode cX6_isLetter 12 = .ok (.iconst 1, 1) := by decide +kernel
theorem dX6_isLetter_13 : decode cX6_isLetter 13 = .ok (.goto 4, 3) := by decide +kernel
theorem dX6_isLetter_16 : decode cX6_isLetter 16 = .ok (.iconst 0, 1) := by decide +kernel
theorem dX6_isLetter_17 : decode cX6_isLetter 17 = .ok (.ireturn, 1) := by decide +kernel
theorem dX6_isDigit_0 : decode cX6_isDigit 0 = .ok (.iload_n 0, 1) := by decide +kernel
theorem dX6_isDigit_1 : decode cX6_isDigit 1 = .ok (.bipush 48, 2) := by decide +kernel
theorem dX6_isDigit_3 : decode cX6_isDigit 3 = .ok (.if_icmp .lt 13, 3) := by decide +kernel
theorem dX6_isDigit_6 : decode cX6_isDigit 6 = .ok (.iload_n 0, 1) := by decide +kernel
theorem dX6_isDigit_7 : decode cX6_isDigit 7 = .ok (.bipush 57, 2) := by decide +kernel
theorem dX6_isDigit_9 : decode cX6_isDigit 9 = .ok (.if_icmp .gt 7, 3) := by decide +kernel
theorem dX6_isDigit_12 : decode cX6_isDigit 12 = .ok (.iconst 1, 1) := by decide +kernel
theorem dX6_isDigit_13 : decode cX6_isDigit 13 = .ok (.goto 4, 3) := by decide +kernel
theorem dX6_isDigit_16 : decode cX6_isDigit 16 = .ok (.iconst 0, 1) := by decide +kernel
theorem dX6_isDigit_17 : decode cX6_isDigit 17 = .ok (.ireturn, 1) := by decide +kernel
theorem dX7_init_0 : decode cX7_init 0 = .ok (.aload_n 0, 1) := by decide +kernel
theorem dX7_init_1 : decode cX7_init 1 = .ok (.invokespecial 3, 3) := by decide +kernel
theorem dX7_init_4 : decode cX7_init 4 = .ok (.aload_n 0, 1) := by decide +kernel
theorem dX7_init_5 : decode cX7_init 5 = .ok (.bipush 36, 2) := by decide +kernel
theorem dX7_init_7 : decode cX7_init 7 = .ok (.newarray .int, 2) := by decide +kernel
theorem dX7_init_9 : decode cX7_init 9 = .ok (.putfield 11, 3) := by decide +kernel
theorem dX7_init_12 : decode cX7_init 12 = .ok (.aload_n 0, 1) := by decide +kernel
theorem dX7_init_13 : decode cX7_init 13 = .ok (.bipush 40, 2) := by decide +kernel
theorem dX7_init_15 : decode cX7_init 15 = .ok (.newarray .int, 2) := by decide +kernel
theorem dX7_init_17 : decode cX7_init 17 = .ok (.putfield 15, 3) := by decide +kernel
theorem dX7_init_20 : decode cX7_init 20 = .ok (.aload_n 0, 1) := by decide +kernel
theorem dX7_init_21 : decode cX7_init 21 = .ok (.bipush 40, 2) := by decide +kernel
theorem dX7_init_23 : decode cX7_init 23 = .ok (.newarray .int, 2) := by decide +kernel
theorem dX7_init_25 : decode cX7_init 25 = .ok (.putfield 18, 3) := by decide +kernel
theorem dX7_init_28 : decode cX7_init 28 = .ok (.aload_n 0, 1) := by decide +kernel
theorem dX7_init_29 : decode cX7_init 29 = .ok (.bipush 36, 2) := by decide +kernel
theorem dX7_init_31 : decode cX7_init 31 = .ok (.newarray .int, 2) := by decide +kernel
theorem dX7_init_33 : decode cX7_init 33 = .ok (.putfield 21, 3) := by decide +kernel
theorem dX7_init_36 : decode cX7_init 36 = .ok (.aload_n 0, 1) := by decide +kernel
theorem dX7_init_37 : decode cX7_init 37 = .ok (.bipush 36, 2) := by decide +kernel
theorem dX7_init_39 : decode cX7_init 39 = .ok (.newarray .int, 2) := by decide +kernel
theorem dX7_init_41 : decode cX7_init 41 = .ok (.putfield 24, 3) := by decide +kernel
theorem dX7_init_44 : decode cX7_init 44 = .ok (.aload_n 0, 1) := by decide +kernel
theorem dX7_init_45 : decode cX7_init 45 = .ok (.bipush 40, 2) := by decide +kernel
theorem dX7_init_47 : decode cX7_init 47 = .ok (.newarray .int, 2) := by decide +kernel
theorem dX7_init_49 : decode cX7_init 49 = .ok (.putfield 27, 3) := by decide +kernel
theorem dX7_init_52 : decode cX7_init 52 = .ok (.aload_n 0, 1) := by decide +kernel
theorem dX7_init_53 : decode cX7_init 53 = .ok (.bipush 108, 2) := by decide +kernel
theorem dX7_init_55 : decode cX7_init 55 = .ok (.newarray .int, 2) := by decide +kernel
theorem dX7_init_57 : decode cX7_init 57 = .ok (.putfield 30, 3) := by decide +kernel
theorem dX7_init_60 : decode cX7_init 60 = .ok (.aload_n 0, 1) := by decide +kernel
theorem dX7_init_61 : decode cX7_init 61 = .ok (.bipush 111, 2) := by decide +kernel
theorem dX7_init_63 : decode cX7_init 63 = .ok (.newarray .int, 2) := by decide +kernel
theorem dX7_init_65 : decode cX7_init 65 = .ok (.putfield 33, 3) := by decide +kernel
theorem dX7_init_68 : decode cX7_init 68 = .ok (.aload_n 0, 1) := by decide +kernel
theorem dX7_init_69 : decode cX7_init 69 = .ok (.bipush 111, 2) := by decide +kernel
theorem dX7_init_71 : decode cX7_init 71 = .ok (.newarray .long, 2) := by decide +kernel
theorem dX7_init_73 : decode cX7_init 73 = .ok (.putfield 36, 3) := by decide +kernel
theorem dX7_init_76 : decode cX7_init 76 = .ok (.aload_n 0, 1) := by decide +kernel
theorem dX7_init_77 : decode cX7_init 77 = .ok (.bipush 36, 2) := by decide +kernel
theorem dX7_init_79 : decode cX7_init 79 = .ok (.newarray .int, 2) := by decide +kernel
theorem dX7_init_81 : decode cX7_init 81 = .ok (.putfield 40, 3) := by decide +kernel
theorem dX7_init_84 : decode cX7_init 84 = .ok (.return_, 1) := by decide +kernel
theorem dX7_addHand_0 : decode cX7_addHand 0 = .ok (.aload_n 0, 1) := by decide +kernel
theorem dX7_addHand_1 : decode cX7_addHand 1 = .ok (.getfield 43, 3) := by decide +kernel
theorem dX7_addHand_4 : decode cX7_addHand 4 = .ok (.bipush 6, 2) := by decide +kernel
theorem dX7_addHand_6 : decode cX7_addHand 6 = .ok (.if_icmp .ge 19, 3) := by decide +kernel
theorem dX7_addHand_9 : decode cX7_addHand 9 = .ok (.iload_n 1, 1) := by decide +kernel
theorem dX7_addHand_10 : decode cX7_addHand 10 = .ok (.iconst 1, 1) := by decide +kernel
theorem dX7_addHand_11 : decode cX7_addHand 11 = .ok (.if_icmp .lt 14, 3) := by decide +kernel
theorem dX7_addHand_14 : decode cX7_addHand 14 = .ok (.iload_n 1, 1) := by decide +kernel
theorem dX7_addHand_15 : decode cX7_addHand 15 = .ok (.bipush 36, 2) := by decide +kernel
theorem dX7_addHand_17 : decode cX7_addHand 17 = .ok (.aload_n 0, 1) := by decide +kernel
theorem dX7_addHand_18 : decode cX7_addHand 18 = .ok (.getfield 47, 3) := by decide +kernel
theorem dX7_addHand_21 : decode cX7_addHand 21 = .ok (.isub, 1) := by decide +kernel
theorem dX7_addHand_22 : decode cX7_addHand 22 = .ok (.if_icmp .le 5, 3) := by decide +kernel
theorem dX7_addHand_25 : decode cX7_addHand 25 = .ok (.iconst (-1), 1) := by decide +kernel
theorem dX7_addHand_26 : decode cX7_addHand 26 = .ok (.ireturn, 1) := by decide +kernel
theorem dX7_addHand_27 : decode cX7_addHand 27 = .ok (.iconst 0, 1) := by decide +kernel
theorem dX7_addHand_28 : decode cX7_addHand 28 = .ok (.istore_n 2, 1) := by decide +kernel
theorem dX7_addHand_29 : decode cX7_addHand 29 = .ok (.iload_n 2, 1) := by decide +kernel
theorem dX7_addHand_30 : decode cX7_addHand 30 = .ok (.iload_n 1, 1) := by decide +kernel
theorem dX7_addHand_31 : decode cX7_addHand 31 = .ok (.if_icmp .ge 32, 3) := by decide +kernel
theorem dX7_addHand_34 : decode cX7_addHand 34 = .ok (.aload_n 0, 1) := by decide +kernel
theorem dX7_addHand_35 : decode cX7_addHand 35 = .ok (.getfield 11, 3) := by decide +kernel
theorem dX7_addHand_38 : decode cX7_addHand 38 = .ok (.aload_n 0, 1) := by decide +kernel
theorem dX7_addHand_39 : decode cX7_addHand 39 = .ok (.getfield 47, 3) := by decide +kernel
theorem dX7_addHand_42 : decode cX7_addHand 42 = .ok (.aload_n 0, 1) := by decide +kernel
theorem dX7_addHand_43 : decode cX7_addHand 43 = .ok (.getfield 43, 3) := by decide +kernel
theorem dX7_addHand_46 : decode cX7_addHand 46 = .ok (.iastore, 1) := by decide +kernel
theorem dX7_addHand_47 : decode cX7_addHand 47 = .ok (.aload_n 0, 1) := by decide +kernel
theorem dX7_addHand_48 : decode cX7_addHand 48 = .ok (.dup, 1) := by decide +kernel
theorem dX7_addHand_49 : decode cX7_addHand 49 = .ok (.getfield 47, 3) := by decide +kernel
theorem dX7_addHand_52 : decode cX7_addHand 52 = .ok (.iconst 1, 1) := by decide +kernel
theorem dX7_addHand_53 : decode cX7_addHand 53 = .ok (.iadd, 1) := by decide +kernel
theorem dX7_addHand_54 : decode cX7_addHand 54 = .ok (.putfield 47, 3) := by decide +kernel
theorem dX7_addHand_57 : decode cX7_addHand 57 = .ok (.iinc 2 1, 3) := by decide +kernel
theorem dX7_addHand_60 : decode cX7_addHand 60 = .ok (.goto (-31), 3) := by decide +kernel
theorem dX7_addHand_63 : decode cX7_addHand 63 = .ok (.aload_n 0, 1) := by decide +kernel
theorem dX7_addHand_64 : decode cX7_addHand 64 = .ok (.iconst 0, 1) := by decide +kernel
theorem dX7_addHand_65 : decode cX7_addHand 65 = .ok (.putfield 50, 3) := by decide +kernel
theorem dX7_addHand_68 : decode cX7_addHand 68 = .ok (.aload_n 0, 1) := by decide +kernel
theorem dX7_addHand_69 : decode cX7_addHand 69 = .ok (.dup, 1) := by decide +kernel
theorem dX7_addHand_70 : decode cX7_addHand 70 = .ok (.getfield 43, 3) := by decide +kernel
theorem dX7_addHand_73 : decode cX7_addHand 73 = .ok (.iconst 1, 1) := by decide +kernel
theorem dX7_addHand_74 : decode cX7_addHand 74 = .ok (.iadd, 1) := by decide +kernel
theorem dX7_addHand_75 : decode cX7_addHand 75 = .ok (.putfield 43, 3) := by decide +kernel
theorem dX7_addHand_78 : decode cX7_addHand 78 = .ok (.aload_n 0, 1) := by decide +kernel
theorem dX7_addHand_79 : decode cX7_addHand 79 = .ok (.getfield 43, 3) := by decide +kernel
theorem dX7_addHand_82 : decode cX7_addHand 82 = .ok (.iconst 1, 1) := by decide +kernel
theorem dX7_addHand_83 : decode cX7_addHand 83 = .ok (.isub, 1) := by decide +kernel
theorem dX7_addHand_84 : decode cX7_addHand 84 = .ok (.ireturn, 1) := by decide +kernel
theorem dX7_addLook_0 : decode cX7_addLook 0 = .ok (.aload_n 0, 1) := by decide +kernel
theorem dX7_addLook_1 : decode cX7_addLook 1 = .ok (.getfield 54, 3) := by decide +kernel
theorem dX7_addLook_4 : decode cX7_addLook 4 = .ok (.bipush 40, 2) := by decide +kernel
theorem dX7_addLook_6 : decode cX7_addLook 6 = .ok (.if_icmp .ge 24, 3) := by decide +kernel
theorem dX7_addLook_9 : decode cX7_addLook 9 = .ok (.iload_n 1, 1) := by decide +kernel
theorem dX7_addLook_10 : decode cX7_addLook 10 = .ok (.ifCond .lt 20, 3) := by decide +kernel
theorem dX7_addLook_13 : decode cX7_addLook 13 = .ok (.iload_n 1, 1) := by decide +kernel
theorem dX7_addLook_14 : decode cX7_addLook 14 = .ok (.aload_n 0, 1) := by decide +kernel
theorem dX7_addLook_15 : decode cX7_addLook 15 = .ok (.getfield 47, 3) := by decide +kernel
theorem dX7_addLook_18 : decode cX7_addLook 18 = .ok (.if_icmp .ge 12, 3) := by decide +kernel
theorem dX7_addLook_21 : decode cX7_addLook 21 = .ok (.iload_n 2, 1) := by decide +kernel
theorem dX7_addLook_22 : decode cX7_addLook 22 = .ok (.ifCond .lt 8, 3) := by decide +kernel
theorem dX7_addLook_25 : decode cX7_addLook 25 = .ok (.iload_n 2, 1) := by decide +kernel
theorem dX7_addLook_26 : decode cX7_addLook 26 = .ok (.iconst 2, 1) := by decide +kernel
theorem dX7_addLook_27 : decode cX7_addLook 27 = .ok (.if_icmp .le 5, 3) := by decide +kernel
theorem dX7_addLook_30 : decode cX7_addLook 30 = .ok (.iconst (-1), 1) := by decide +kernel
theorem dX7_addLook_31 : decode cX7_addLook 31 = .ok (.ireturn, 1) := by decide +kernel
theorem dX7_addLook_32 : decode cX7_addLook 32 = .ok (.aload_n 0, 1) := by decide +kernel
theorem dX7_addLook_33 : decode cX7_addLook 33 = .ok (.getfield 15, 3) := by decide +kernel
theorem dX7_addLook_36 : decode cX7_addLook 36 = .ok (.aload_n 0, 1) := by decide +kernel
theorem dX7_addLook_37 : decode cX7_addLook 37 = .ok (.getfield 54, 3) := by decide +kernel
theorem dX7_addLook_40 : decode cX7_addLook 40 = .ok (.iload_n 1, 1) := by decide +kernel
theorem dX7_addLook_41 : decode cX7_addLook 41 = .ok (.iastore, 1) := by decide +kernel
theorem dX7_addLook_42 : decode cX7_addLook 42 = .ok (.aload_n 0, 1) := by decide +kernel
theorem dX7_addLook_43 : decode cX7_addLook 43 = .ok (.getfield 18, 3) := by decide +kernel
theorem dX7_addLook_46 : decode cX7_addLook 46 = .ok (.aload_n 0, 1) := by decide +kernel
theorem dX7_addLook_47 : decode cX7_addLook 47 = .ok (.getfield 54, 3) := by decide +kernel
theorem dX7_addLook_50 : decode cX7_addLook 50 = .ok (.iload_n 2, 1) := by decide +kernel
theorem dX7_addLook_51 : decode cX7_addLook 51 = .ok (.iastore, 1) := by decide +kernel
theorem dX7_addLook_52 : decode cX7_addLook 52 = .ok (.aload_n 0, 1) := by decide +kernel
theorem dX7_addLook_53 : decode cX7_addLook 53 = .ok (.iconst 0, 1) := by decide +kernel
theorem dX7_addLook_54 : decode cX7_addLook 54 = .ok (.putfield 50, 3) := by decide +kernel
theorem dX7_addLook_57 : decode cX7_addLook 57 = .ok (.aload_n 0, 1) := by decide +kernel
theorem dX7_addLook_58 : decode cX7_addLook 58 = .ok (.dup, 1) := by decide +kernel
theorem dX7_addLook_59 : decode cX7_addLook 59 = .ok (.getfield 54, 3) := by decide +kernel
theorem dX7_addLook_62 : decode cX7_addLook 62 = .ok (.iconst 1, 1) := by decide +kernel
theorem dX7_addLook_63 : decode cX7_addLook 63 = .ok (.iadd, 1) := by decide +kernel
theorem dX7_addLook_64 : decode cX7_addLook 64 = .ok (.putfield 54, 3) := by decide +kernel
theorem dX7_addLook_67 : decode cX7_addLook 67 = .ok (.aload_n 0, 1) := by decide +kernel
theorem dX7_addLook_68 : decode cX7_addLook 68 = .ok (.getfield 54, 3) := by decide +kernel
theorem dX7_addLook_71 : decode cX7_addLook 71 = .ok (.iconst 1, 1) := by decide +kernel
theorem dX7_addLook_72 : decode cX7_addLook 72 = .ok (.isub, 1) := by decide +kernel
theorem dX7_addLook_73 : decode cX7_addLook 73 = .ok (.ireturn, 1) := by decide +kernel
theorem dX7_knows_0 : decode cX7_knows 0 = .ok (.iload_n 1, 1) := by decide +kernel
theorem dX7_knows_1 : decode cX7_knows 1 = .ok (.ifCond .lt 15, 3) := by decide +kernel
theorem dX7_knows_4 : decode cX7_knows 4 = .ok (.iload_n 1, 1) := by decide +kernel
theorem dX7_knows_5 : decode cX7_knows 5 = .ok (.aload_n 0, 1) := by decide +kernel
theorem dX7_knows_6 : decode cX7_knows 6 = .ok (.getfield 54, 3) := by decide +kernel
theorem dX7_knows_9 : decode cX7_knows 9 = .ok (.if_icmp .gt 7, 3) := by decide +kernel
theorem dX7_knows_12 : decode cX7_knows 12 = .ok (.iconst 1, 1) := by decide +kernel
theorem dX7_knows_13 : decode cX7_knows 13 = .ok (.goto 4, 3) := by decide +kernel
theorem dX7_knows_16 : decode cX7_knows 16 = .ok (.iconst 0, 1) := by decide +kernel
theorem dX7_knows_17 : decode cX7_knows 17 = .ok (.ireturn, 1) := by decide +kernel
theorem dX7_know_0 : decode cX7_know 0 = .ok (.aload_n 0, 1) := by decide +kernel
theorem dX7_know_1 : decode cX7_know 1 = .ok (.aload_n 2, 1) := by decide +kernel
theorem dX7_know_2 : decode cX7_know 2 = .ok (.invokevirtual 57, 3) := by decide +kernel
theorem dX7_know_5 : decode cX7_know 5 = .ok (.aload_n 0, 1) := by decide +kernel
theorem dX7_know_6 : decode cX7_know 6 = .ok (.getfield 30, 3) := by decide +kernel
theorem dX7_know_9 : decode cX7_know 9 = .ok (.iconst 0, 1) := by decide +kernel
theorem dX7_know_10 : decode cX7_know 10 = .ok (.invokestatic 61, 3) := by decide +kernel
theorem dX7_know_13 : decode cX7_know 13 = .ok (.iconst 0, 1) := by decide +kernel
theorem dX7_know_14 : decode cX7_know 14 = .ok (.istore_n 3, 1) := by decide +kernel
theorem dX7_know_15 : decode cX7_know 15 = .ok (.iload_n 3, 1) := by decide +kernel
theorem dX7_know_16 : decode cX7_know 16 = .ok (.iload_n 1, 1) := by decide +kernel
theorem dX7_know_17 : decode cX7_know 17 = .ok (.if_icmp .ge 14, 3) := by decide +kernel
theorem dX7_know_20 : decode cX7_know 20 = .ok (.aload_n 0, 1) := by decide +kernel
theorem dX7_know_21 : decode cX7_know 21 = .ok (.iload_n 3, 1) := by decide +kernel
theorem dX7_know_22 : decode cX7_know 22 = .ok (.invokevirtual 67, 3) := by decide +kernel
theorem dX7_know_25 : decode cX7_know 25 = .ok (.iinc 3 1, 3) := by decide +kernel
theorem dX7_know_28 : decode cX7_know 28 = .ok (.goto (-13), 3) := by decide +kernel
theorem dX7_know_31 : decode cX7_know 31 = .ok (.return_, 1) := by decide +kernel
theorem dX7_addDoubt_0 : decode cX7_addDoubt 0 = .ok (.iconst 0, 1) := by decide +kernel
theorem dX7_addDoubt_1 : decode cX7_addDoubt 1 = .ok (.istore_n 2, 1) := by decide +kernel
theorem dX7_addDoubt_2 : decode cX7_addDoubt 2 = .ok (.iload_n 2, 1) := by decide +kernel
theorem dX7_addDoubt_3 : decode cX7_addDoubt 3 = .ok (.iconst 2, 1) := by decide +kernel
theorem dX7_addDoubt_4 : decode cX7_addDoubt 4 = .ok (.if_icmp .gt 43, 3) := by decide +kernel
theorem dX7_addDoubt_7 : decode cX7_addDoubt 7 = .ok (.iload_n 2, 1) := by decide +kernel
theorem dX7_addDoubt_8 : decode cX7_addDoubt 8 = .ok (.aload_n 0, 1) := by decide +kernel
theorem dX7_addDoubt_9 : decode cX7_addDoubt 9 = .ok (.getfield 18, 3) := by decide +kernel
theorem dX7_addDoubt_12 : decode cX7_addDoubt 12 = .ok (.iload_n 1, 1) := by decide +kernel
theorem dX7_addDoubt_13 : decode cX7_addDoubt 13 = .ok (.iaload, 1) := by decide +kernel
theorem dX7_addDoubt_14 : decode cX7_addDoubt 14 = .ok (.if_icmp .eq 27, 3) := by decide +kernel
theorem dX7_addDoubt_17 : decode cX7_addDoubt 17 = .ok (.aload_n 0, 1) := by decide +kernel
theorem dX7_addDoubt_18 : decode cX7_addDoubt 18 = .ok (.getfield 30, 3) := by decide +kernel
theorem dX7_addDoubt_21 : decode cX7_addDoubt 21 = .ok (.iconst 3, 1) := by decide +kernel
theorem dX7_addDoubt_22 : decode cX7_addDoubt 22 = .ok (.aload_n 0, 1) := by decide +kernel
theorem dX7_addDoubt_23 : decode cX7_addDoubt 23 = .ok (.getfield 15, 3) := by decide +kernel
theorem dX7_addDoubt_26 : decode cX7_addDoubt 26 = .ok (.iload_n 1, 1) := by decide +kernel
theorem dX7_addDoubt_27 : decode cX7_addDoubt 27 = .ok (.iaload, 1) := by decide +kernel
theorem dX7_addDoubt_28 : decode cX7_addDoubt 28 = .ok (.imul, 1) := by decide +kernel
theorem dX7_addDoubt_29 : decode cX7_addDoubt 29 = .ok (.iload_n 2, 1) := by decide +kernel
theorem dX7_addDoubt_30 : decode cX7_addDoubt 30 = .ok (.iadd, 1) := by decide +kernel
theorem dX7_addDoubt_31 : decode cX7_addDoubt 31 = .ok (.dup2, 1) := by decide +kernel
theorem dX7_addDoubt_32 : decode cX7_addDoubt 32 = .ok (.iaload, 1) := by decide +kernel
theorem dX7_addDoubt_33 : decode cX7_addDoubt 33 = .ok (.aload_n 0, 1) := by decide +kernel
theorem dX7_addDoubt_34 : decode cX7_addDoubt 34 = .ok (.getfield 27, 3) := by decide +kernel
theorem dX7_addDoubt_37 : decode cX7_addDoubt 37 = .ok (.iload_n 1, 1) := by decide +kernel
theorem dX7_addDoubt_38 : decode cX7_addDoubt 38 = .ok (.iaload, 1) := by decide +kernel
theorem dX7_addDoubt_39 : decode cX7_addDoubt 39 = .ok (.iadd, 1) := by decide +kernel
theorem dX7_addDoubt_40 : decode cX7_addDoubt 40 = .ok (.iastore, 1) := by decide +kernel
theorem dX7_addDoubt_41 : decode cX7_addDoubt 41 = .ok (.iinc 2 1, 3) := by decide +kernel
theorem dX7_addDoubt_44 : decode cX7_addDoubt 44 = .ok (.goto (-42), 3) := by decide +kernel
theorem dX7_addDoubt_47 : decode cX7_addDoubt 47 = .ok (.return_, 1) := by decide +kernel
theorem dX7_setCosts_0 : decode cX7_setCosts 0 = .ok (.aload_n 0, 1) := by decide +kernel
theorem dX7_setCosts_1 : decode cX7_setCosts 1 = .ok (.getfield 50, 3) := by decide +kernel
theorem dX7_setCosts_4 : decode cX7_setCosts 4 = .ok (.ifCond .eq 4, 3) := by decide +kernel
theorem dX7_setCosts_7 : decode cX7_setCosts 7 = .ok (.return_, 1) := by decide +kernel
theorem dX7_setCosts_8 : decode cX7_setCosts 8 = .ok (.aload_n 0, 1) := by decide +kernel
theorem dX7_setCosts_9 : decode cX7_setCosts 9 = .ok (.iconst 1, 1) := by decide +kernel
theorem dX7_setCosts_10 : decode cX7_setCosts 10 = .ok (.putfield 50, 3) := by decide +kernel
theorem dX7_setCosts_13 : decode cX7_setCosts 13 = .ok (.iconst 0, 1) := by decide +kernel
theorem dX7_setCosts_14 : decode cX7_setCosts 14 = .ok (.istore_n 2, 1) := by decide +kernel
theorem dX7_setCosts_15 : decode cX7_setCosts 15 = .ok (.iload_n 2, 1) := by decide +kernel
theorem dX7_setCosts_16 : decode cX7_setCosts 16 = .ok (.aload_n 0, 1) := by decide +kernel
theorem dX7_setCosts_17 : decode cX7_setCosts 17 = .ok (.getfield 47, 3) := by decide +kernel
theorem dX7_setCosts_20 : decode cX7_setCosts 20 = .ok (.if_icmp .ge 65, 3) := by decide +kernel
theorem dX7_setCosts_23 : decode cX7_setCosts 23 = .ok (.aload_n 1, 1) := by decide +kernel
theorem dX7_setCosts_24 : decode cX7_setCosts 24 = .ok (.bipush 7, 2) := by decide +kernel
theorem dX7_setCosts_26 : decode cX7_setCosts 26 = .ok (.iconst 0, 1) := by decide +kernel
theorem dX7_setCosts_27 : decode cX7_setCosts 27 = .ok (.iload_n 2, 1) := by decide +kernel
theorem dX7_setCosts_28 : decode cX7_setCosts 28 = .ok (.aload_n 0, 1) := by decide +kernel
theorem dX7_setCosts_29 : decode cX7_setCosts 29 = .ok (.getfield 11, 3) := by decide +kernel
theorem dX7_setCosts_32 : decode cX7_setCosts 32 = .ok (.iload_n 2, 1) := by decide +kernel
theorem dX7_setCosts_33 : decode cX7_setCosts 33 = .ok (.iaload, 1) := by decide +kernel
theorem dX7_setCosts_34 : decode cX7_setCosts 34 = .ok (.iconst 0, 1) := by decide +kernel
theorem dX7_setCosts_35 : decode cX7_setCosts 35 = .ok (.invokevirtual 71, 3) := by decide +kernel
theorem dX7_setCosts_38 : decode cX7_setCosts 38 = .ok (.aload_n 0, 1) := by decide +kernel
theorem dX7_setCosts_39 : decode cX7_setCosts 39 = .ok (.getfield 21, 3) := by decide +kernel
theorem dX7_setCosts_42 : decode cX7_setCosts 42 = .ok (.iload_n 2, 1) := by decide +kernel
theorem dX7_setCosts_43 : decode cX7_setCosts 43 = .ok (.aload_n 1, 1) := by decide +kernel
theorem dX7_setCosts_44 : decode cX7_setCosts 44 = .ok (.iconst 4, 1) := by decide +kernel
theorem dX7_setCosts_45 : decode cX7_setCosts 45 = .ok (.bipush 10, 2) := by decide +kernel
theorem dX7_setCosts_47 : decode cX7_setCosts 47 = .ok (.invokevirtual 77, 3) := by decide +kernel
theorem dX7_setCosts_50 : decode cX7_setCosts 50 = .ok (.iastore, 1) := by decide +kernel
theorem dX7_setCosts_51 : decode cX7_setCosts 51 = .ok (.aload_n 1, 1) := by decide +kernel
theorem dX7_setCosts_52 : decode cX7_setCosts 52 = .ok (.bipush 8, 2) := by decide +kernel
theorem dX7_setCosts_54 : decode cX7_setCosts 54 = .ok (.iconst 0, 1) := by decide +kernel
theorem dX7_setCosts_55 : decode cX7_setCosts 55 = .ok (.iload_n 2, 1) := by decide +kernel
theorem dX7_setCosts_56 : decode cX7_setCosts 56 = .ok (.aload_n 0, 1) := by decide +kernel
theorem dX7_setCosts_57 : decode cX7_setCosts 57 = .ok (.getfield 11, 3) := by decide +kernel
theorem dX7_setCosts_60 : decode cX7_setCosts 60 = .ok (.iload_n 2, 1) := by decide +kernel
theorem dX7_setCosts_61 : decode cX7_setCosts 61 = .ok (.iaload, 1) := by decide +kernel
theorem dX7_setCosts_62 : decode cX7_setCosts 62 = .ok (.iconst 0, 1) := by decide +kernel
theorem dX7_setCosts_63 : decode cX7_setCosts 63 = .ok (.invokevirtual 71, 3) := by decide +kernel
theorem dX7_setCosts_66 : decode cX7_setCosts 66 = .ok (.aload_n 0, 1) := by decide +kernel
theorem dX7_setCosts_67 : decode cX7_setCosts 67 = .ok (.getfield 24, 3) := by decide +kernel
theorem dX7_setCosts_70 : decode cX7_setCosts 70 = .ok (.iload_n 2, 1) := by decide +kernel
theorem dX7_setCosts_71 : decode cX7_setCosts 71 = .ok (.aload_n 1, 1) := by decide +kernel
theorem dX7_setCosts_72 : decode cX7_setCosts 72 = .ok (.iconst 4, 1) := by decide +kernel
theorem dX7_setCosts_73 : decode cX7_setCosts 73 = .ok (.bipush 10, 2) := by decide +kernel
theorem dX7_setCosts_75 : decode cX7_setCosts 75 = .ok (.invokevirtual 77, 3) := by decide +kernel
theorem dX7_setCosts_78 : decode cX7_setCosts 78 = .ok (.iastore, 1) := by decide +kernel
theorem dX7_setCosts_79 : decode cX7_setCosts 79 = .ok (.iinc 2 1, 3) := by decide +kernel
theorem dX7_setCosts_82 : decode cX7_setCosts 82 = .ok (.goto (-67), 3) := by decide +kernel
theorem dX7_setCosts_85 : decode cX7_setCosts 85 = .ok (.iconst 0, 1) := by decide +kernel
theorem dX7_setCosts_86 : decode cX7_setCosts 86 = .ok (.istore_n 2, 1) := by decide +kernel
theorem dX7_setCosts_87 : decode cX7_setCosts 87 = .ok (.iload_n 2, 1) := by decide +kernel
theorem dX7_setCosts_88 : decode cX7_setCosts 88 = .ok (.aload_n 0, 1) := by decide +kernel
theorem dX7_setCosts_89 : decode cX7_setCosts 89 = .ok (.getfield 54, 3) := by decide +kernel
theorem dX7_setCosts_92 : decode cX7_setCosts 92 = .ok (.if_icmp .ge 52, 3) := by decide +kernel
theorem dX7_setCosts_95 : decode cX7_setCosts 95 = .ok (.aload_n 1, 1) := by decide +kernel
theorem dX7_setCosts_96 : decode cX7_setCosts 96 = .ok (.bipush 9, 2) := by decide +kernel
theorem dX7_setCosts_98 : decode cX7_setCosts 98 = .ok (.iconst 0, 1) := by decide +kernel
theorem dX7_setCosts_99 : decode cX7_setCosts 99 = .ok (.aload_n 0, 1) := by decide +kernel
theorem dX7_setCosts_100 : decode cX7_setCosts 100 = .ok (.getfield 15, 3) := by decide +kernel
theorem dX7_setCosts_103 : decode cX7_setCosts 103 = .ok (.iload_n 2, 1) := by decide +kernel
theorem dX7_setCosts_104 : decode cX7_setCosts 104 = .ok (.iaload, 1) := by decide +kernel
theorem dX7_setCosts_105 : decode cX7_setCosts 105 = .ok (.aload_n 0, 1) := by decide +kernel
theorem dX7_setCosts_106 : decode cX7_setCosts 106 = .ok (.getfield 11, 3) := by decide +kernel
theorem dX7_setCosts_109 : decode cX7_setCosts 109 = .ok (.aload_n 0, 1) := by decide +kernel
theorem dX7_setCosts_110 : decode cX7_setCosts 110 = .ok (.getfield 15, 3) := by decide +kernel
theorem dX7_setCosts_113 : decode cX7_setCosts 113 = .ok (.iload_n 2, 1) := by decide +kernel
theorem dX7_setCosts_114 : decode cX7_setCosts 114 = .ok (.iaload, 1) := by decide +kernel
theorem dX7_setCosts_115 : decode cX7_setCosts 115 = .ok (.iaload, 1) := by decide +kernel
theorem dX7_setCosts_116 : decode cX7_setCosts 116 = .ok (.aload_n 0, 1) := by decide +kernel
theorem dX7_setCosts_117 : decode cX7_setCosts 117 = .ok (.getfield 18, 3) := by decide +kernel
theorem dX7_setCosts_120 : decode cX7_setCosts 120 = .ok (.iload_n 2, 1) := by decide +kernel
theorem dX7_setCosts_121 : decode cX7_setCosts 121 = .ok (.iaload, 1) := by decide +kernel
theorem dX7_setCosts_122 : decode cX7_setCosts 122 = .ok (.invokevirtual 71, 3) := by decide +kernel
theorem dX7_setCosts_125 : decode cX7_setCosts 125 = .ok (.aload_n 0, 1) := by decide +kernel
theorem dX7_setCosts_126 : decode cX7_setCosts 126 = .ok (.getfield 27, 3) := by decide +kernel
theorem dX7_setCosts_129 : decode cX7_setCosts 129 = .ok (.iload_n 2, 1) := by decide +kernel
theorem dX7_setCosts_130 : decode cX7_setCosts 130 = .ok (.aload_n 1, 1) := by decide +kernel
theorem dX7_setCosts_131 : decode cX7_setCosts 131 = .ok (.iconst 5, 1) := by decide +kernel
theorem dX7_setCosts_132 : decode cX7_setCosts 132 = .ok (.bipush 10, 2) := by decide +kernel
theorem dX7_setCosts_134 : decode cX7_setCosts 134 = .ok (.invokevirtual 77, 3) := by decide +kernel
theorem dX7_setCosts_137 : decode cX7_setCosts 137 = .ok (.iastore, 1) := by decide +kernel
theorem dX7_setCosts_138 : decode cX7_setCosts 138 = .ok (.iinc 2 1, 3) := by decide +kernel
theorem dX7_setCosts_141 : decode cX7_setCosts 141 = .ok (.goto (-54), 3) := by decide +kernel
theorem dX7_setCosts_144 : decode cX7_setCosts 144 = .ok (.return_, 1) := by decide +kernel
theorem dX7_weigh_0 : decode cX7_weigh 0 = .ok (.iconst 0, 1) := by decide +kernel
theorem dX7_weigh_1 : decode cX7_weigh 1 = .ok (.istore_n 2, 1) := by decide +kernel
theorem dX7_weigh_2 : decode cX7_weigh 2 = .ok (.iload_n 2, 1) := by decide +kernel
theorem dX7_weigh_3 : decode cX7_weigh 3 = .ok (.iconst 2, 1) := by decide +kernel
theorem dX7_weigh_4 : decode cX7_weigh 4 = .ok (.if_icmp .gt 37, 3) := by decide +kernel
theorem dX7_weigh_7 : decode cX7_weigh 7 = .ok (.aload_n 0, 1) := by decide +kernel
theorem dX7_weigh_8 : decode cX7_weigh 8 = .ok (.getfield 33, 3) := by decide +kernel
theorem dX7_weigh_11 : decode cX7_weigh 11 = .ok (.iconst 3, 1) := by decide +kernel
theorem dX7_weigh_12 : decode cX7_weigh 12 = .ok (.aload_n 0, 1) := by decide +kernel
theorem dX7_weigh_13 : decode cX7_weigh 13 = .ok (.getfield 47, 3) := by decide +kernel
theorem dX7_weigh_16 : decode cX7_weigh 16 = .ok (.imul, 1) := by decide +kernel
theorem dX7_weigh_17 : decode cX7_weigh 17 = .ok (.iload_n 2, 1) := by decide +kernel
theorem dX7_weigh_18 : decode cX7_weigh 18 = .ok (.iadd, 1) := by decide +kernel
theorem dX7_weigh_19 : decode cX7_weigh 19 = .ok (.iconst 0, 1) := by decide +kernel
theorem dX7_weigh_20 : decode cX7_weigh 20 = .ok (.iastore, 1) := by decide +kernel
theorem dX7_weigh_21 : decode cX7_weigh 21 = .ok (.aload_n 0, 1) := by decide +kernel
theorem dX7_weigh_22 : decode cX7_weigh 22 = .ok (.getfield 36, 3) := by decide +kernel
theorem dX7_weigh_25 : decode cX7_weigh 25 = .ok (.iconst 3, 1) := by decide +kernel
theorem dX7_weigh_26 : decode cX7_weigh 26 = .ok (.aload_n 0, 1) := by decide +kernel
theorem dX7_weigh_27 : decode cX7_weigh 27 = .ok (.getfield 47, 3) := by decide +kernel
theorem dX7_weigh_30 : decode cX7_weigh 30 = .ok (.imul, 1) := by decide +kernel
theorem dX7_weigh_31 : decode cX7_weigh 31 = .ok (.iload_n 2, 1) := by decide +kernel
theorem dX7_weigh_32 : decode cX7_weigh 32 = .ok (.iadd, 1) := by decide +kernel
theorem dX7_weigh_33 : decode cX7_weigh 33 = .ok (.lconst 1, 1) := by decide +kernel
theorem dX7_weigh_34 : decode cX7_weigh 34 = .ok (.lastore, 1) := by decide +kernel
theorem dX7_weigh_35 : decode cX7_weigh 35 = .ok (.iinc 2 1, 3) := by decide +kernel
theorem dX7_weigh_38 : decode cX7_weigh 38 = .ok (.goto (-36), 3) := by decide +kernel
theorem dX7_weigh_41 : decode cX7_weigh 41 = .ok (.aload_n 0, 1) := by decide +kernel
theorem dX7_weigh_42 : decode cX7_weigh 42 = .ok (.getfield 47, 3) := by decide +kernel
theorem dX7_weigh_45 : decode cX7_weigh 45 = .ok (.iconst 1, 1) := by decide +kernel
theorem dX7_weigh_46 : decode cX7_weigh 46 = .ok (.isub, 1) := by decide +kernel
theorem dX7_weigh_47 : decode cX7_weigh 47 = .ok (.istore_n 2, 1) := by decide +kernel
theorem dX7_weigh_48 : decode cX7_weigh 48 = .ok (.iload_n 2, 1) := by decide +kernel
theorem dX7_weigh_49 : decode cX7_weigh 49 = .ok (.ifCond .lt 43, 3) := by decide +kernel
theorem dX7_weigh_52 : decode cX7_weigh 52 = .ok (.iconst 0, 1) := by decide +kernel
theorem dX7_weigh_53 : decode cX7_weigh 53 = .ok (.istore_n 3, 1) := by decide +kernel
theorem dX7_weigh_54 : decode cX7_weigh 54 = .ok (.iload_n 3, 1) := by decide +kernel
theorem dX7_weigh_55 : decode cX7_weigh 55 = .ok (.iconst 2, 1) := by decide +kernel
theorem dX7_weigh_56 : decode cX7_weigh 56 = .ok (.if_icmp .gt 30, 3) := by decide +kernel
theorem dX7_weigh_59 : decode cX7_weigh 59 = .ok (.aload_n 0, 1) := by decide +kernel
theorem dX7_weigh_60 : decode cX7_weigh 60 = .ok (.iload_n 2, 1) := by decide +kernel
theorem dX7_weigh_61 : decode cX7_weigh 61 = .ok (.iload_n 3, 1) := by decide +kernel
theorem dX7_weigh_62 : decode cX7_weigh 62 = .ok (.aload_n 0, 1) := by decide +kernel
theorem dX7_weigh_63 : decode cX7_weigh 63 = .ok (.getfield 11, 3) := by decide +kernel
theorem dX7_weigh_66 : decode cX7_weigh 66 = .ok (.iload_n 2, 1) := by decide +kernel
theorem dX7_weigh_67 : decode cX7_weigh 67 = .ok (.iaload, 1) := by decide +kernel
theorem dX7_weigh_68 : decode cX7_weigh 68 = .ok (.iload_n 1, 1) := by decide +kernel
theorem dX7_weigh_69 : decode cX7_weigh 69 = .ok (.if_icmp .ne 7, 3) := by decide +kernel
theorem dX7_weigh_72 : decode cX7_weigh 72 = .ok (.iconst 1, 1) := by decide +kernel
theorem dX7_weigh_73 : decode cX7_weigh 73 = .ok (.goto 4, 3) := by decide +kernel
theorem dX7_weigh_76 : decode cX7_weigh 76 = .ok (.iconst 0, 1) := by decide +kernel
theorem dX7_weigh_77 : decode cX7_weigh 77 = .ok (.invokevirtual 81, 3) := by decide +kernel
theorem dX7_weigh_80 : decode cX7_weigh 80 = .ok (.iinc 3 1, 3) := by decide +kernel
theorem dX7_weigh_83 : decode cX7_weigh 83 = .ok (.goto (-29), 3) := by decide +kernel
theorem dX7_weigh_86 : decode cX7_weigh 86 = .ok (.iinc 2 (-1), 3) := by decide +kernel
theorem dX7_weigh_89 : decode cX7_weigh 89 = .ok (.goto (-41), 3) := by decide +kernel
theorem dX7_weigh_92 : decode cX7_weigh 92 = .ok (.return_, 1) := by decide +kernel
theorem dX7_weighDay_0 : decode cX7_weighDay 0 = .ok (.aload_n 0, 1) := by decide +kernel
theorem dX7_weighDay_1 : decode cX7_weighDay 1 = .ok (.iload_n 1, 1) := by decide +kernel
theorem dX7_weighDay_2 : decode cX7_weighDay 2 = .ok (.iload_n 2, 1) := by decide +kernel
theorem dX7_weighDay_3 : decode cX7_weighDay 3 = .ok (.iload_n 2, 1) := by decide +kernel
theorem dX7_weighDay_4 : decode cX7_weighDay 4 = .ok (.invokevirtual 85, 3) := by decide +kernel
theorem dX7_weighDay_7 : decode cX7_weighDay 7 = .ok (.istore 4, 2) := by decide +kernel
theorem dX7_weighDay_9 : decode cX7_weighDay 9 = .ok (.aload_n 0, 1) := by decide +kernel
theorem dX7_weighDay_10 : decode cX7_weighDay 10 = .ok (.getfield 36, 3) := by decide +kernel
theorem dX7_weighDay_13 : decode cX7_weighDay 13 = .ok (.iconst 3, 1) := by decide +kernel
theorem dX7_weighDay_14 : decode cX7_weighDay 14 = .ok (.iload_n 1, 1) := by decide +kernel
theorem dX7_weighDay_15 : decode cX7_weighDay 15 = .ok (.iconst 1, 1) := by decide +kernel
theorem dX7_weighDay_16 : decode cX7_weighDay 16 = .ok (.iadd, 1) := by decide +kernel
theorem dX7_weighDay_17 : decode cX7_weighDay 17 = .ok (.imul, 1) := by decide +kernel
theorem dX7_weighDay_18 : decode cX7_weighDay 18 = .ok (.iload_n 2, 1) := by decide +kernel
theorem dX7_weighDay_19 : decode cX7_weighDay 19 = .ok (.iadd, 1) := by decide +kernel
theorem dX7_weighDay_20 : decode cX7_weighDay 20 = .ok (.laload, 1) := by decide +kernel
theorem dX7_weighDay_21 : decode cX7_weighDay 21 = .ok (.lstore 5, 2) := by decide +kernel
theorem dX7_weighDay_23 : decode cX7_weighDay 23 = .ok (.iload_n 2, 1) := by decide +kernel
theorem dX7_weighDay_24 : decode cX7_weighDay 24 = .ok (.iconst 1, 1) := by decide +kernel
theorem dX7_weighDay_25 : decode cX7_weighDay 25 = .ok (.if_icmp .ne 7, 3) := by decide +kernel
theorem dX7_weighDay_28 : decode cX7_weighDay 28 = .ok (.iconst 2, 1) := by decide +kernel
theorem dX7_weighDay_29 : decode cX7_weighDay 29 = .ok (.goto 4, 3) := by decide +kernel
theorem dX7_weighDay_32 : decode cX7_weighDay 32 = .ok (.iconst 1, 1) := by decide +kernel
theorem dX7_weighDay_33 : decode cX7_weighDay 33 = .ok (.istore 7, 2) := by decide +kernel
theorem dX7_weighDay_35 : decode cX7_weighDay 35 = .ok (.iconst 3, 1) := by decide +kernel
theorem dX7_weighDay_36 : decode cX7_weighDay 36 = .ok (.iload_n 1, 1) := by decide +kernel
theorem dX7_weighDay_37 : decode cX7_weighDay 37 = .ok (.imul, 1) := by decide +kernel
theorem dX7_weighDay_38 : decode cX7_weighDay 38 = .ok (.iload_n 2, 1) := by decide +kernel
theorem dX7_weighDay_39 : decode cX7_weighDay 39 = .ok (.iadd, 1) := by decide +kernel
theorem dX7_weighDay_40 : decode cX7_weighDay 40 = .ok (.istore 8, 2) := by decide +kernel
theorem dX7_weighDay_42 : decode cX7_weighDay 42 = .ok (.aload_n 0, 1) := by decide +kernel
theorem dX7_weighDay_43 : decode cX7_weighDay 43 = .ok (.iload_n 1, 1) := by decide +kernel
theorem dX7_weighDay_44 : decode cX7_weighDay 44 = .ok (.iload_n 2, 1) := by decide +kernel
theorem dX7_weighDay_45 : decode cX7_weighDay 45 = .ok (.iload 7, 2) := by decide +kernel
theorem dX7_weighDay_47 : decode cX7_weighDay 47 = .ok (.invokevirtual 85, 3) := by decide +kernel
theorem dX7_weighDay_50 : decode cX7_weighDay 50 = .ok (.istore 9, 2) := by decide +kernel
theorem dX7_weighDay_52 : decode cX7_weighDay 52 = .ok (.aload_n 0, 1) := by decide +kernel
theorem dX7_weighDay_53 : decode cX7_weighDay 53 = .ok (.getfield 36, 3) := by decide +kernel
theorem dX7_weighDay_56 : decode cX7_weighDay 56 = .ok (.iconst 3, 1) := by decide +kernel
theorem dX7_weighDay_57 : decode cX7_weighDay 57 = .ok (.iload_n 1, 1) := by decide +kernel
theorem dX7_weighDay_58 : decode cX7_weighDay 58 = .ok (.iconst 1, 1) := by decide +kernel
theorem dX7_weighDay_59 : decode cX7_weighDay 59 = .ok (.iadd, 1) := by decide +kernel
theorem dX7_weighDay_60 : decode cX7_weighDay 60 = .ok (.imul, 1) := by decide +kernel
theorem dX7_weighDay_61 : decode cX7_weighDay 61 = .ok (.iload 7, 2) := by decide +kernel
theorem dX7_weighDay_63 : decode cX7_weighDay 63 = .ok (.iadd, 1) := by decide +kernel
theorem dX7_weighDay_64 : decode cX7_weighDay 64 = .ok (.laload, 1) := by decide +kernel
theorem dX7_weighDay_65 : decode cX7_weighDay 65 = .ok (.lstore 10, 2) := by decide +kernel
theorem dX7_weighDay_67 : decode cX7_weighDay 67 = .ok (.iload_n 3, 1) := by decide +kernel
theorem dX7_weighDay_68 : decode cX7_weighDay 68 = .ok (.ifCond .eq 9, 3) := by decide +kernel
theorem dX7_weighDay_71 : decode cX7_weighDay 71 = .ok (.iload 7, 2) := by decide +kernel
theorem dX7_weighDay_73 : decode cX7_weighDay 73 = .ok (.iconst 1, 1) := by decide +kernel
theorem dX7_weighDay_74 : decode cX7_weighDay 74 = .ok (.if_icmp .eq 10, 3) := by decide +kernel
theorem dX7_weighDay_77 : decode cX7_weighDay 77 = .ok (.iload 4, 2) := by decide +kernel
theorem dX7_weighDay_79 : decode cX7_weighDay 79 = .ok (.iload 9, 2) := by decide +kernel
theorem dX7_weighDay_81 : decode cX7_weighDay 81 = .ok (.if_icmp .ge 24, 3) := by decide +kernel
theorem dX7_weighDay_84 : decode cX7_weighDay 84 = .ok (.aload_n 0, 1) := by decide +kernel
theorem dX7_weighDay_85 : decode cX7_weighDay 85 = .ok (.getfield 33, 3) := by decide +kernel
theorem dX7_weighDay_88 : decode cX7_weighDay 88 = .ok (.iload 8, 2) := by decide +kernel
theorem dX7_weighDay_90 : decode cX7_weighDay 90 = .ok (.iload 4, 2) := by decide +kernel
theorem dX7_weighDay_92 : decode cX7_weighDay 92 = .ok (.iastore, 1) := by decide +kernel
theorem dX7_weighDay_93 : decode cX7_weighDay 93 = .ok (.aload_n 0, 1) := by decide +kernel
theorem dX7_weighDay_94 : decode cX7_weighDay 94 = .ok (.getfield 36, 3) := by decide +kernel
theorem dX7_weighDay_97 : decode cX7_weighDay 97 = .ok (.iload 8, 2) := by decide +kernel
theorem dX7_weighDay_99 : decode cX7_weighDay 99 = .ok (.lload 5, 2) := by decide +kernel
theorem dX7_weighDay_101 : decode cX7_weighDay 101 = .ok (.lastore, 1) := by decide +kernel
theorem dX7_weighDay_102 : decode cX7_weighDay 102 = .ok (.goto 36, 3) := by decide +kernel
theorem dX7_weighDay_105 : decode cX7_weighDay 105 = .ok (.aload_n 0, 1) := by decide +kernel
theorem dX7_weighDay_106 : decode cX7_weighDay 106 = .ok (.getfield 33, 3) := by decide +kernel
theorem dX7_weighDay_109 : decode cX7_weighDay 109 = .ok (.iload 8, 2) := by decide +kernel
theorem dX7_weighDay_111 : decode cX7_weighDay 111 = .ok (.iload 9, 2) := by decide +kernel
theorem dX7_weighDay_113 : decode cX7_weighDay 113 = .ok (.iastore, 1) := by decide +kernel
theorem dX7_weighDay_114 : decode cX7_weighDay 114 = .ok (.aload_n 0, 1) := by decide +kernel
theorem dX7_weighDay_115 : decode cX7_weighDay 115 = .ok (.getfield 36, 3) := by decide +kernel
theorem dX7_weighDay_118 : decode cX7_weighDay 118 = .ok (.iload 8, 2) := by decide +kernel
theorem dX7_weighDay_120 : decode cX7_weighDay 120 = .ok (.iload 4, 2) := by decide +kernel
theorem dX7_weighDay_122 : decode cX7_weighDay 122 = .ok (.iload 9, 2) := by decide +kernel
theorem dX7_weighDay_124 : decode cX7_weighDay 124 = .ok (.if_icmp .ne 11, 3) := by decide +kernel
theorem dX7_weighDay_127 : decode cX7_weighDay 127 = .ok (.lload 5, 2) := by decide +kernel
theorem dX7_weighDay_129 : decode cX7_weighDay 129 = .ok (.lload 10, 2) := by decide +kernel
theorem dX7_weighDay_131 : decode cX7_weighDay 131 = .ok (.ladd, 1) := by decide +kernel
theorem dX7_weighDay_132 : decode cX7_weighDay 132 = .ok (.goto 5, 3) := by decide +kernel
theorem dX7_weighDay_135 : decode cX7_weighDay 135 = .ok (.lload 10, 2) := by decide +kernel
theorem dX7_weighDay_137 : decode cX7_weighDay 137 = .ok (.lastore, 1) := by decide +kernel
theorem dX7_weighDay_138 : decode cX7_weighDay 138 = .ok (.return_, 1) := by decide +kernel
theorem dX7_costFrom_0 : decode cX7_costFrom 0 = .ok (.iconst 0, 1) := by decide +kernel
theorem dX7_costFrom_1 : decode cX7_costFrom 1 = .ok (.istore 4, 2) := by decide +kernel
theorem dX7_costFrom_3 : decode cX7_costFrom 3 = .ok (.iload_n 3, 1) := by decide +kernel
theorem dX7_costFrom_4 : decode cX7_costFrom 4 = .ok (.iload_n 2, 1) := by decide +kernel
theorem dX7_costFrom_5 : decode cX7_costFrom 5 = .ok (.if_icmp .eq 25, 3) := by decide +kernel
theorem dX7_costFrom_8 : decode cX7_costFrom 8 = .ok (.iload_n 3, 1) := by decide +kernel
theorem dX7_costFrom_9 : decode cX7_costFrom 9 = .ok (.iconst 1, 1) := by decide +kernel
theorem dX7_costFrom_10 : decode cX7_costFrom 10 = .ok (.if_icmp .ne 12, 3) := by decide +kernel
theorem dX7_costFrom_13 : decode cX7_costFrom 13 = .ok (.aload_n 0, 1) := by decide +kernel
theorem dX7_costFrom_14 : decode cX7_costFrom 14 = .ok (.getfield 21, 3) := by decide +kernel
theorem dX7_costFrom_17 : decode cX7_costFrom 17 = .ok (.iload_n 1, 1) := by decide +kernel
theorem dX7_costFrom_18 : decode cX7_costFrom 18 = .ok (.iaload, 1) := by decide +kernel
theorem dX7_costFrom_19 : decode cX7_costFrom 19 = .ok (.goto 9, 3) := by decide +kernel
theorem dX7_costFrom_22 : decode cX7_costFrom 22 = .ok (.aload_n 0, 1) := by decide +kernel
theorem dX7_costFrom_23 : decode cX7_costFrom 23 = .ok (.getfield 24, 3) := by decide +kernel
theorem dX7_costFrom_26 : decode cX7_costFrom 26 = .ok (.iload_n 1, 1) := by decide +kernel
theorem dX7_costFrom_27 : decode cX7_costFrom 27 = .ok (.iaload, 1) := by decide +kernel
theorem dX7_costFrom_28 : decode cX7_costFrom 28 = .ok (.istore 4, 2) := by decide +kernel
theorem dX7_costFrom_30 : decode cX7_costFrom 30 = .ok (.iload 4, 2) := by decide +kernel
theorem dX7_costFrom_32 : decode cX7_costFrom 32 = .ok (.aload_n 0, 1) := by decide +kernel
theorem dX7_costFrom_33 : decode cX7_costFrom 33 = .ok (.getfield 30, 3) := by decide +kernel
theorem dX7_costFrom_36 : decode cX7_costFrom 36 = .ok (.iconst 3, 1) := by decide +kernel
theorem dX7_costFrom_37 : decode cX7_costFrom 37 = .ok (.iload_n 1, 1) := by decide +kernel
theorem dX7_costFrom_38 : decode cX7_costFrom 38 = .ok (.imul, 1) := by decide +kernel
theorem dX7_costFrom_39 : decode cX7_costFrom 39 = .ok (.iload_n 3, 1) := by decide +kernel
theorem dX7_costFrom_40 : decode cX7_costFrom 40 = .ok (.iadd, 1) := by decide +kernel
theorem dX7_costFrom_41 : decode cX7_costFrom 41 = .ok (.iaload, 1) := by decide +kernel
theorem dX7_costFrom_42 : decode cX7_costFrom 42 = .ok (.iadd, 1) := by decide +kernel
theorem dX7_costFrom_43 : decode cX7_costFrom 43 = .ok (.aload_n 0, 1) := by decide +kernel
theorem dX7_costFrom_44 : decode cX7_costFrom 44 = .ok (.getfield 33, 3) := by decide +kernel
theorem dX7_costFrom_47 : decode cX7_costFrom 47 = .ok (.iconst 3, 1) := by decide +kernel
theorem dX7_costFrom_48 : decode cX7_costFrom 48 = .ok (.iload_n 1, 1) := by decide +kernel
theorem dX7_costFrom_49 : decode cX7_costFrom 49 = .ok (.iconst 1, 1) := by decide +kernel
theorem dX7_costFrom_50 : decode cX7_costFrom 50 = .ok (.iadd, 1) := by decide +kernel
theorem dX7_costFrom_51 : decode cX7_costFrom 51 = .ok (.imul, 1) := by decide +kernel
theorem dX7_costFrom_52 : decode cX7_costFrom 52 = .ok (.iload_n 3, 1) := by decide +kernel
theorem dX7_costFrom_53 : decode cX7_costFrom 53 = .ok (.iadd, 1) := by decide +kernel
theorem dX7_costFrom_54 : decode cX7_costFrom 54 = .ok (.iaload, 1) := by decide +kernel
theorem dX7_costFrom_55 : decode cX7_costFrom 55 = .ok (.iadd, 1) := by decide +kernel
theorem dX7_costFrom_56 : decode cX7_costFrom 56 = .ok (.ireturn, 1) := by decide +kernel
theorem dX7_leastCost_0 : decode cX7_leastCost 0 = .ok (.aload_n 0, 1) := by decide +kernel
theorem dX7_leastCost_1 : decode cX7_leastCost 1 = .ok (.getfield 33, 3) := by decide +kernel
theorem dX7_leastCost_4 : decode cX7_leastCost 4 = .ok (.iconst 0, 1) := by decide +kernel
theorem dX7_leastCost_5 : decode cX7_leastCost 5 = .ok (.iaload, 1) := by decide +kernel
theorem dX7_leastCost_6 : decode cX7_leastCost 6 = .ok (.ireturn, 1) := by decide +kernel
theorem dX7_howMany_0 : decode cX7_howMany 0 = .ok (.aload_n 0, 1) := by decide +kernel
theorem dX7_howMany_1 : decode cX7_howMany 1 = .ok (.getfield 36, 3) := by decide +kernel
theorem dX7_howMany_4 : decode cX7_howMany 4 = .ok (.iconst 0, 1) := by decide +kernel
theorem dX7_howMany_5 : decode cX7_howMany 5 = .ok (.laload, 1) := by decide +kernel
theorem dX7_howMany_6 : decode cX7_howMany 6 = .ok (.lreturn, 1) := by decide +kernel
theorem dX7_tell_0 : decode cX7_tell 0 = .ok (.iconst 0, 1) := by decide +kernel
theorem dX7_tell_1 : decode cX7_tell 1 = .ok (.istore_n 1, 1) := by decide +kernel
theorem dX7_tell_2 : decode cX7_tell 2 = .ok (.iconst 0, 1) := by decide +kernel
theorem dX7_tell_3 : decode cX7_tell 3 = .ok (.istore_n 2, 1) := by decide +kernel
theorem dX7_tell_4 : decode cX7_tell 4 = .ok (.iconst 0, 1) := by decide +kernel
theorem dX7_tell_5 : decode cX7_tell 5 = .ok (.istore_n 3, 1) := by decide +kernel
theorem dX7_tell_6 : decode cX7_tell 6 = .ok (.iload_n 3, 1) := by decide +kernel
theorem dX7_tell_7 : decode cX7_tell 7 = .ok (.aload_n 0, 1) := by decide +kernel
theorem dX7_tell_8 : decode cX7_tell 8 = .ok (.getfield 47, 3) := by decide +kernel
theorem dX7_tell_11 : decode cX7_tell 11 = .ok (.if_icmp .ge 94, 3) := by decide +kernel
theorem dX7_tell_14 : decode cX7_tell 14 = .ok (.iload_n 2, 1) := by decide +kernel
theorem dX7_tell_15 : decode cX7_tell 15 = .ok (.iconst 1, 1) := by decide +kernel
theorem dX7_tell_16 : decode cX7_tell 16 = .ok (.if_icmp .ne 7, 3) := by decide +kernel
theorem dX7_tell_19 : decode cX7_tell 19 = .ok (.iconst 2, 1) := by decide +kernel
theorem dX7_tell_20 : decode cX7_tell 20 = .ok (.goto 4, 3) := by decide +kernel
theorem dX7_tell_23 : decode cX7_tell 23 = .ok (.iconst 1, 1) := by decide +kernel
theorem dX7_tell_24 : decode cX7_tell 24 = .ok (.istore 4, 2) := by decide +kernel
theorem dX7_tell_26 : decode cX7_tell 26 = .ok (.iload_n 2, 1) := by decide +kernel
theorem dX7_tell_27 : decode cX7_tell 27 = .ok (.iload 4, 2) := by decide +kernel
theorem dX7_tell_29 : decode cX7_tell 29 = .ok (.invokestatic 89, 3) := by decide +kernel
theorem dX7_tell_32 : decode cX7_tell 32 = .ok (.istore 5, 2) := by decide +kernel
theorem dX7_tell_34 : decode cX7_tell 34 = .ok (.aload_n 0, 1) := by decide +kernel
theorem dX7_tell_35 : decode cX7_tell 35 = .ok (.iload_n 3, 1) := by decide +kernel
theorem dX7_tell_36 : decode cX7_tell 36 = .ok (.iload_n 2, 1) := by decide +kernel
theorem dX7_tell_37 : decode cX7_tell 37 = .ok (.iload 5, 2) := by decide +kernel
theorem dX7_tell_39 : decode cX7_tell 39 = .ok (.invokevirtual 85, 3) := by decide +kernel
theorem dX7_tell_42 : decode cX7_tell 42 = .ok (.aload_n 0, 1) := by decide +kernel
theorem dX7_tell_43 : decode cX7_tell 43 = .ok (.getfield 33, 3) := by decide +kernel
theorem dX7_tell_46 : decode cX7_tell 46 = .ok (.iconst 3, 1) := by decide +kernel
theorem dX7_tell_47 : decode cX7_tell 47 = .ok (.iload_n 3, 1) := by decide +kernel
theorem dX7_tell_48 : decode cX7_tell 48 = .ok (.imul, 1) := by decide +kernel
theorem dX7_tell_49 : decode cX7_tell 49 = .ok (.iload_n 2, 1) := by decide +kernel
theorem dX7_tell_50 : decode cX7_tell 50 = .ok (.iadd, 1) := by decide +kernel
theorem dX7_tell_51 : decode cX7_tell 51 = .ok (.iaload, 1) := by decide +kernel
theorem dX7_tell_52 : decode cX7_tell 52 = .ok (.if_icmp .ne 8, 3) := by decide +kernel
theorem dX7_tell_55 : decode cX7_tell 55 = .ok (.iload 5, 2) := by decide +kernel
theorem dX7_tell_57 : decode cX7_tell 57 = .ok (.goto 10, 3) := by decide +kernel
theorem dX7_tell_60 : decode cX7_tell 60 = .ok (.iload_n 2, 1) := by decide +kernel
theorem dX7_tell_61 : decode cX7_tell 61 = .ok (.iload 4, 2) := by decide +kernel
theorem dX7_tell_63 : decode cX7_tell 63 = .ok (.iadd, 1) := by decide +kernel
theorem dX7_tell_64 : decode cX7_tell 64 = .ok (.iload 5, 2) := by decide +kernel
theorem dX7_tell_66 : decode cX7_tell 66 = .ok (.isub, 1) := by decide +kernel
theorem dX7_tell_67 : decode cX7_tell 67 = .ok (.istore 6, 2) := by decide +kernel
theorem dX7_tell_69 : decode cX7_tell 69 = .ok (.iload_n 1, 1) := by decide +kernel
theorem dX7_tell_70 : decode cX7_tell 70 = .ok (.aload_n 0, 1) := by decide +kernel
theorem dX7_tell_71 : decode cX7_tell 71 = .ok (.getfield 40, 3) := by decide +kernel
theorem dX7_tell_74 : decode cX7_tell 74 = .ok (.iload_n 3, 1) := by decide +kernel
theorem dX7_tell_75 : decode cX7_tell 75 = .ok (.iaload, 1) := by decide +kernel
theorem dX7_tell_76 : decode cX7_tell 76 = .ok (.iload 6, 2) := by decide +kernel
theorem dX7_tell_78 : decode cX7_tell 78 = .ok (.if_icmp .eq 7, 3) := by decide +kernel
theorem dX7_tell_81 : decode cX7_tell 81 = .ok (.iconst 1, 1) := by decide +kernel
theorem dX7_tell_82 : decode cX7_tell 82 = .ok (.goto 4, 3) := by decide +kernel
theorem dX7_tell_85 : decode cX7_tell 85 = .ok (.iconst 0, 1) := by decide +kernel
theorem dX7_tell_86 : decode cX7_tell 86 = .ok (.ior, 1) := by decide +kernel
theorem dX7_tell_87 : decode cX7_tell 87 = .ok (.istore_n 1, 1) := by decide +kernel
theorem dX7_tell_88 : decode cX7_tell 88 = .ok (.aload_n 0, 1) := by decide +kernel
theorem dX7_tell_89 : decode cX7_tell 89 = .ok (.getfield 40, 3) := by decide +kernel
theorem dX7_tell_92 : decode cX7_tell 92 = .ok (.iload_n 3, 1) := by decide +kernel
theorem dX7_tell_93 : decode cX7_tell 93 = .ok (.iload 6, 2) := by decide +kernel
theorem dX7_tell_95 : decode cX7_tell 95 = .ok (.iastore, 1) := by decide +kernel
theorem dX7_tell_96 : decode cX7_tell 96 = .ok (.iload 6, 2) := by decide +kernel
theorem dX7_tell_98 : decode cX7_tell 98 = .ok (.istore_n 2, 1) := by decide +kernel
theorem dX7_tell_99 : decode cX7_tell 99 = .ok (.iinc 3 1, 3) := by decide +kernel
theorem dX7_tell_102 : decode cX7_tell 102 = .ok (.goto (-96), 3) := by decide +kernel
theorem dX7_tell_105 : decode cX7_tell 105 = .ok (.iload_n 1, 1) := by decide +kernel
theorem dX7_tell_106 : decode cX7_tell 106 = .ok (.ireturn, 1) := by decide +kernel
theorem dX7_guiltOf_0 : decode cX7_guiltOf 0 = .ok (.aload_n 0, 1) := by decide +kernel
theorem dX7_guiltOf_1 : decode cX7_guiltOf 1 = .ok (.iconst (-1), 1) := by decide +kernel
theorem dX7_guiltOf_2 : decode cX7_guiltOf 2 = .ok (.invokevirtual 94, 3) := by decide +kernel
theorem dX7_guiltOf_5 : decode cX7_guiltOf 5 = .ok (.aload_n 0, 1) := by decide +kernel
theorem dX7_guiltOf_6 : decode cX7_guiltOf 6 = .ok (.invokevirtual 97, 3) := by decide +kernel
theorem dX7_guiltOf_9 : decode cX7_guiltOf 9 = .ok (.istore_n 2, 1) := by decide +kernel
theorem dX7_guiltOf_10 : decode cX7_guiltOf 10 = .ok (.aload_n 0, 1) := by decide +kernel
theorem dX7_guiltOf_11 : decode cX7_guiltOf 11 = .ok (.invokevirtual 101, 3) := by decide +kernel
theorem dX7_guiltOf_14 : decode cX7_guiltOf 14 = .ok (.lstore_n 3, 1) := by decide +kernel
theorem dX7_guiltOf_15 : decode cX7_guiltOf 15 = .ok (.aload_n 0, 1) := by decide +kernel
theorem dX7_guiltOf_16 : decode cX7_guiltOf 16 = .ok (.iload_n 1, 1) := by decide +kernel
theorem dX7_guiltOf_17 : decode cX7_guiltOf 17 = .ok (.invokevirtual 94, 3) := by decide +kernel
theorem dX7_guiltOf_20 : decode cX7_guiltOf 20 = .ok (.aload_n 0, 1) := by decide +kernel
theorem dX7_guiltOf_21 : decode cX7_guiltOf 21 = .ok (.invokevirtual 97, 3) := by decide +kernel
theorem dX7_guiltOf_24 : decode cX7_guiltOf 24 = .ok (.iload_n 2, 1) := by decide +kernel
theorem dX7_guiltOf_25 : decode cX7_guiltOf 25 = .ok (.if_icmp .ne 10, 3) := by decide +kernel
theorem dX7_guiltOf_28 : decode cX7_guiltOf 28 = .ok (.aload_n 0, 1) := by decide +kernel
theorem dX7_guiltOf_29 : decode cX7_guiltOf 29 = .ok (.invokevirtual 101, 3) := by decide +kernel
theorem dX7_guiltOf_32 : decode cX7_guiltOf 32 = .ok (.goto 4, 3) := by decide +kernel
theorem dX7_guiltOf_35 : decode cX7_guiltOf 35 = .ok (.lconst 0, 1) := by decide +kernel
theorem dX7_guiltOf_36 : decode cX7_guiltOf 36 = .ok (.lstore 5, 2) := by decide +kernel
theorem dX7_guiltOf_38 : decode cX7_guiltOf 38 = .ok (.lload 5, 2) := by decide +kernel
theorem dX7_guiltOf_40 : decode cX7_guiltOf 40 = .ok (.lconst 0, 1) := by decide +kernel
theorem dX7_guiltOf_41 : decode cX7_guiltOf 41 = .ok (.lcmp, 1) := by decide +kernel
theorem dX7_guiltOf_42 : decode cX7_guiltOf 42 = .ok (.ifCond .ne 5, 3) := by decide +kernel
theorem dX7_guiltOf_45 : decode cX7_guiltOf 45 = .ok (.iconst 1, 1) := by decide +kernel
theorem dX7_guiltOf_46 : decode cX7_guiltOf 46 = .ok (.ireturn, 1) := by decide +kernel
theorem dX7_guiltOf_47 : decode cX7_guiltOf 47 = .ok (.lload 5, 2) := by decide +kernel
theorem dX7_guiltOf_49 : decode cX7_guiltOf 49 = .ok (.lload_n 3, 1) := by decide +kernel
theorem dX7_guiltOf_50 : decode cX7_guiltOf 50 = .ok (.lcmp, 1) := by decide +kernel
theorem dX7_guiltOf_51 : decode cX7_guiltOf 51 = .ok (.ifCond .ne 7, 3) := by decide +kernel
theorem dX7_guiltOf_54 : decode cX7_guiltOf 54 = .ok (.iconst 0, 1) := by decide +kernel
theorem dX7_guiltOf_55 : decode cX7_guiltOf 55 = .ok (.goto 4, 3) := by decide +kernel
theorem dX7_guiltOf_58 : decode cX7_guiltOf 58 = .ok (.iconst 2, 1) := by decide +kernel
theorem dX7_guiltOf_59 : decode cX7_guiltOf 59 = .ok (.ireturn, 1) := by decide +kernel
theorem dX7_firstTurn_0 : decode cX7_firstTurn 0 = .ok (.aload_n 0, 1) := by decide +kernel
theorem dX7_firstTurn_1 : decode cX7_firstTurn 1 = .ok (.iconst (-1), 1) := by decide +kernel
theorem dX7_firstTurn_2 : decode cX7_firstTurn 2 = .ok (.invokevirtual 94, 3) := by decide +kernel
theorem dX7_firstTurn_5 : decode cX7_firstTurn 5 = .ok (.aload_n 0, 1) := by decide +kernel
theorem dX7_firstTurn_6 : decode cX7_firstTurn 6 = .ok (.invokevirtual 105, 3) := by decide +kernel
theorem dX7_firstTurn_9 : decode cX7_firstTurn 9 = .ok (.pop, 1) := by decide +kernel
theorem dX7_firstTurn_10 : decode cX7_firstTurn 10 = .ok (.iload_n 1, 1) := by decide +kernel
theorem dX7_firstTurn_11 : decode cX7_firstTurn 11 = .ok (.istore_n 2, 1) := by decide +kernel
theorem dX7_firstTurn_12 : decode cX7_firstTurn 12 = .ok (.iload_n 2, 1) := by decide +kernel
theorem dX7_firstTurn_13 : decode cX7_firstTurn 13 = .ok (.aload_n 0, 1) := by decide +kernel
theorem dX7_firstTurn_14 : decode cX7_firstTurn 14 = .ok (.getfield 54, 3) := by decide +kernel
theorem dX7_firstTurn_17 : decode cX7_firstTurn 17 = .ok (.if_icmp .ge 28, 3) := by decide +kernel
theorem dX7_firstTurn_20 : decode cX7_firstTurn 20 = .ok (.aload_n 0, 1) := by decide +kernel
theorem dX7_firstTurn_21 : decode cX7_firstTurn 21 = .ok (.iload_n 2, 1) := by decide +kernel
theorem dX7_firstTurn_22 : decode cX7_firstTurn 22 = .ok (.invokevirtual 67, 3) := by decide +kernel
theorem dX7_firstTurn_25 : decode cX7_firstTurn 25 = .ok (.aload_n 0, 1) := by decide +kernel
theorem dX7_firstTurn_26 : decode cX7_firstTurn 26 = .ok (.iconst (-1), 1) := by decide +kernel
theorem dX7_firstTurn_27 : decode cX7_firstTurn 27 = .ok (.invokevirtual 94, 3) := by decide +kernel
theorem dX7_firstTurn_30 : decode cX7_firstTurn 30 = .ok (.aload_n 0, 1) := by decide +kernel
theorem dX7_firstTurn_31 : decode cX7_firstTurn 31 = .ok (.invokevirtual 105, 3) := by decide +kernel
theorem dX7_firstTurn_34 : decode cX7_firstTurn 34 = .ok (.ifCond .eq 5, 3) := by decide +kernel
theorem dX7_firstTurn_37 : decode cX7_firstTurn 37 = .ok (.iload_n 2, 1) := by decide +kernel
theorem dX7_firstTurn_38 : decode cX7_firstTurn 38 = .ok (.ireturn, 1) := by decide +kernel
theorem dX7_firstTurn_39 : decode cX7_firstTurn 39 = .ok (.iinc 2 1, 3) := by decide +kernel
theorem dX7_firstTurn_42 : decode cX7_firstTurn 42 = .ok (.goto (-30), 3) := by decide +kernel
theorem dX7_firstTurn_45 : decode cX7_firstTurn 45 = .ok (.iconst (-1), 1) := by decide +kernel
theorem dX7_firstTurn_46 : decode cX7_firstTurn 46 = .ok (.ireturn, 1) := by decide +kernel
theorem dX8_init_0 : decode cX8_init 0 = .ok (.aload_n 0, 1) := by decide +kernel
theorem dX8_init_1 : decode cX8_init 1 = .ok (.invokespecial 1, 3) := by decide +kernel
theorem dX8_init_4 : decode cX8_init 4 = .ok (.aload_n 0, 1) := by decide +kernel
theorem dX8_init_5 : decode cX8_init 5 = .ok (.new 7, 3) := by decide +kernel
theorem dX8_init_8 : decode cX8_init 8 = .ok (.dup, 1) := by decide +kernel
theorem dX8_init_9 : decode cX8_init 9 = .ok (.invokespecial 9, 3) := by decide +kernel
theorem dX8_init_12 : decode cX8_init 12 = .ok (.putfield 10, 3) := by decide +kernel
theorem dX8_init_15 : decode cX8_init 15 = .ok (.aload_n 0, 1) := by decide +kernel
