theorem d_X_init_0 : decode b_X_init 0 = .ok (.aload_n 0, 1) := by decide +kernel
theorem d_X_init_1 : decode b_X_init 1 = .ok (.invokespecial 1, 3) := by decide +kernel
theorem d_X_init_4 : decode b_X_init 4 = .ok (.aload_n 0, 1) := by decide +kernel
theorem d_X_init_5 : decode b_X_init 5 = .ok (.new 7, 3) := by decide +kernel
theorem d_X_init_8 : decode b_X_init 8 = .ok (.dup, 1) := by decide +kernel
theorem d_X_init_9 : decode b_X_init 9 = .ok (.invokespecial 9, 3) := by decide +kernel
theorem d_X_init_12 : decode b_X_init 12 = .ok (.putfield 10, 3) := by decide +kernel
theorem d_X_init_15 : decode b_X_init 15 = .ok (.aload_n 0, 1) := by decide +kernel
theorem d_X_init_16 : decode b_X_init 16 = .ok (.new 7, 3) := by decide +kernel
theorem d_X_init_19 : decode b_X_init 19 = .ok (.dup, 1) := by decide +kernel
theorem d_X_init_20 : decode b_X_init 20 = .ok (.invokespecial 9, 3) := by decide +kernel
theorem d_X_init_23 : decode b_X_init 23 = .ok (.putfield 16, 3) := by decide +kernel
theorem d_X_init_26 : decode b_X_init 26 = .ok (.aload_n 0, 1) := by decide +kernel
theorem d_X_init_27 : decode b_X_init 27 = .ok (.new 7, 3) := by decide +kernel
theorem d_X_init_30 : decode b_X_init 30 = .ok (.dup, 1) := by decide +kernel
theorem d_X_init_31 : decode b_X_init 31 = .ok (.invokespecial 9, 3) := by decide +kernel
theorem d_X_init_34 : decode b_X_init 34 = .ok (.putfield 19, 3) := by decide +kernel
theorem d_X_init_37 : decode b_X_init 37 = .ok (.aload_n 0, 1) := by decide +kernel
theorem d_X_init_38 : decode b_X_init 38 = .ok (.new 22, 3) := by decide +kernel
theorem d_X_init_41 : decode b_X_init 41 = .ok (.dup, 1) := by decide +kernel
theorem d_X_init_42 : decode b_X_init 42 = .ok (.invokespecial 24, 3) := by decide +kernel
theorem d_X_init_45 : decode b_X_init 45 = .ok (.putfield 25, 3) := by decide +kernel
theorem d_X_init_48 : decode b_X_init 48 = .ok (.aload_n 0, 1) := by decide +kernel
theorem d_X_init_49 : decode b_X_init 49 = .ok (.new 29, 3) := by decide +kernel
theorem d_X_init_52 : decode b_X_init 52 = .ok (.dup, 1) := by decide +kernel
theorem d_X_init_53 : decode b_X_init 53 = .ok (.invokespecial 31, 3) := by decide +kernel
theorem d_X_init_56 : decode b_X_init 56 = .ok (.putfield 32, 3) := by decide +kernel
theorem d_X_init_59 : decode b_X_init 59 = .ok (.aload_n 0, 1) := by decide +kernel
theorem d_X_init_60 : decode b_X_init 60 = .ok (.iconst 4, 1) := by decide +kernel
theorem d_X_init_61 : decode b_X_init 61 = .ok (.anewarray 36, 3) := by decide +kernel
theorem d_X_init_64 : decode b_X_init 64 = .ok (.dup, 1) := by decide +kernel
theorem d_X_init_65 : decode b_X_init 65 = .ok (.iconst 0, 1) := by decide +kernel
theorem d_X_init_66 : decode b_X_init 66 = .ok (.new 36, 3) := by decide +kernel
theorem d_X_init_69 : decode b_X_init 69 = .ok (.dup, 1) := by decide +kernel
theorem d_X_init_70 : decode b_X_init 70 = .ok (.invokespecial 38, 3) := by decide +kernel
theorem d_X_init_73 : decode b_X_init 73 = .ok (.aastore, 1) := by decide +kernel
theorem d_X_init_74 : decode b_X_init 74 = .ok (.dup, 1) := by decide +kernel
theorem d_X_init_75 : decode b_X_init 75 = .ok (.iconst 1, 1) := by decide +kernel
theorem d_X_init_76 : decode b_X_init 76 = .ok (.new 36, 3) := by decide +kernel
theorem d_X_init_79 : decode b_X_init 79 = .ok (.dup, 1) := by decide +kernel
theorem d_X_init_80 : decode b_X_init 80 = .ok (.invokespecial 38, 3) := by decide +kernel
theorem d_X_init_83 : decode b_X_init 83 = .ok (.aastore, 1) := by decide +kernel
theorem d_X_init_84 : decode b_X_init 84 = .ok (.dup, 1) := by decide +kernel
theorem d_X_init_85 : decode b_X_init 85 = .ok (.iconst 2, 1) := by decide +kernel
theorem d_X_init_86 : decode b_X_init 86 = .ok (.new 36, 3) := by decide +kernel
theorem d_X_init_89 : decode b_X_init 89 = .ok (.dup, 1) := by decide +kernel
theorem d_X_init_90 : decode b_X_init 90 = .ok (.invokespecial 38, 3) := by decide +kernel
theorem d_X_init_93 : decode b_X_init 93 = .ok (.aastore, 1) := by decide +kernel
theorem d_X_init_94 : decode b_X_init 94 = .ok (.dup, 1) := by decide +kernel
theorem d_X_init_95 : decode b_X_init 95 = .ok (.iconst 3, 1) := by decide +kernel
theorem d_X_init_96 : decode b_X_init 96 = .ok (.new 36, 3) := by decide +kernel
theorem d_X_init_99 : decode b_X_init 99 = .ok (.dup, 1) := by decide +kernel
theorem d_X_init_100 : decode b_X_init 100 = .ok (.invokespecial 38, 3) := by decide +kernel
theorem d_X_init_103 : decode b_X_init 103 = .ok (.aastore, 1) := by decide +kernel
theorem d_X_init_104 : decode b_X_init 104 = .ok (.putfield 39, 3) := by decide +kernel
theorem d_X_init_107 : decode b_X_init 107 = .ok (.aload_n 0, 1) := by decide +kernel
theorem d_X_init_108 : decode b_X_init 108 = .ok (.bipush 7, 2) := by decide +kernel
theorem d_X_init_110 : decode b_X_init 110 = .ok (.newarray .int, 2) := by decide +kernel
theorem d_X_init_112 : decode b_X_init 112 = .ok (.putfield 43, 3) := by decide +kernel
theorem d_X_init_115 : decode b_X_init 115 = .ok (.aload_n 0, 1) := by decide +kernel
theorem d_X_init_116 : decode b_X_init 116 = .ok (.iconst 0, 1) := by decide +kernel
theorem d_X_init_117 : decode b_X_init 117 = .ok (.putfield 47, 3) := by decide +kernel
theorem d_X_init_120 : decode b_X_init 120 = .ok (.return_, 1) := by decide +kernel
theorem d_Ob_init_0 : decode b_Ob_init 0 = .ok (.return_, 1) := by decide +kernel
theorem d_Sl_init_0 : decode b_Sl_init 0 = .ok (.aload_n 0, 1) := by decide +kernel
theorem d_Sl_init_1 : decode b_Sl_init 1 = .ok (.invokespecial 1, 3) := by decide +kernel
theorem d_Sl_init_4 : decode b_Sl_init 4 = .ok (.aload_n 0, 1) := by decide +kernel
theorem d_Sl_init_5 : decode b_Sl_init 5 = .ok (.new 7, 3) := by decide +kernel
theorem d_Sl_init_8 : decode b_Sl_init 8 = .ok (.dup, 1) := by decide +kernel
theorem d_Sl_init_9 : decode b_Sl_init 9 = .ok (.invokespecial 9, 3) := by decide +kernel
theorem d_Sl_init_12 : decode b_Sl_init 12 = .ok (.putfield 10, 3) := by decide +kernel
theorem d_Sl_init_15 : decode b_Sl_init 15 = .ok (.aload_n 0, 1) := by decide +kernel
theorem d_Sl_init_16 : decode b_Sl_init 16 = .ok (.new 16, 3) := by decide +kernel
theorem d_Sl_init_19 : decode b_Sl_init 19 = .ok (.dup, 1) := by decide +kernel
theorem d_Sl_init_20 : decode b_Sl_init 20 = .ok (.invokespecial 18, 3) := by decide +kernel
theorem d_Sl_init_23 : decode b_Sl_init 23 = .ok (.putfield 19, 3) := by decide +kernel
theorem d_Sl_init_26 : decode b_Sl_init 26 = .ok (.aload_n 0, 1) := by decide +kernel
theorem d_Sl_init_27 : decode b_Sl_init 27 = .ok (.new 23, 3) := by decide +kernel
theorem d_Sl_init_30 : decode b_Sl_init 30 = .ok (.dup, 1) := by decide +kernel
theorem d_Sl_init_31 : decode b_Sl_init 31 = .ok (.invokespecial 25, 3) := by decide +kernel
theorem d_Sl_init_34 : decode b_Sl_init 34 = .ok (.putfield 26, 3) := by decide +kernel
theorem d_Sl_init_37 : decode b_Sl_init 37 = .ok (.aload_n 0, 1) := by decide +kernel
theorem d_Sl_init_38 : decode b_Sl_init 38 = .ok (.iconst 0, 1) := by decide +kernel
theorem d_Sl_init_39 : decode b_Sl_init 39 = .ok (.putfield 30, 3) := by decide +kernel
theorem d_Sl_init_42 : decode b_Sl_init 42 = .ok (.aload_n 0, 1) := by decide +kernel
theorem d_Sl_init_43 : decode b_Sl_init 43 = .ok (.bipush 12, 2) := by decide +kernel
theorem d_Sl_init_45 : decode b_Sl_init 45 = .ok (.putfield 34, 3) := by decide +kernel
theorem d_Sl_init_48 : decode b_Sl_init 48 = .ok (.aload_n 0, 1) := by decide +kernel
theorem d_Sl_init_49 : decode b_Sl_init 49 = .ok (.iconst 0, 1) := by decide +kernel
theorem d_Sl_init_50 : decode b_Sl_init 50 = .ok (.putfield 37, 3) := by decide +kernel
theorem d_Sl_init_53 : decode b_Sl_init 53 = .ok (.aload_n 0, 1) := by decide +kernel
theorem d_Sl_init_54 : decode b_Sl_init 54 = .ok (.iconst 0, 1) := by decide +kernel
theorem d_Sl_init_55 : decode b_Sl_init 55 = .ok (.putfield 40, 3) := by decide +kernel
theorem d_Sl_init_58 : decode b_Sl_init 58 = .ok (.aload_n 0, 1) := by decide +kernel
theorem d_Sl_init_59 : decode b_Sl_init 59 = .ok (.iconst 0, 1) := by decide +kernel
theorem d_Sl_init_60 : decode b_Sl_init 60 = .ok (.putfield 43, 3) := by decide +kernel
theorem d_Sl_init_63 : decode b_Sl_init 63 = .ok (.aload_n 0, 1) := by decide +kernel
theorem d_Sl_init_64 : decode b_Sl_init 64 = .ok (.iconst 0, 1) := by decide +kernel
theorem d_Sl_init_65 : decode b_Sl_init 65 = .ok (.putfield 46, 3) := by decide +kernel
theorem d_Sl_init_68 : decode b_Sl_init 68 = .ok (.return_, 1) := by decide +kernel
theorem d_Gr_init_0 : decode b_Gr_init 0 = .ok (.aload_n 0, 1) := by decide +kernel
theorem d_Gr_init_1 : decode b_Gr_init 1 = .ok (.invokespecial 3, 3) := by decide +kernel
theorem d_Gr_init_4 : decode b_Gr_init 4 = .ok (.aload_n 0, 1) := by decide +kernel
theorem d_Gr_init_5 : decode b_Gr_init 5 = .ok (.bipush 36, 2) := by decide +kernel
theorem d_Gr_init_7 : decode b_Gr_init 7 = .ok (.newarray .int, 2) := by decide +kernel
theorem d_Gr_init_9 : decode b_Gr_init 9 = .ok (.putfield 9, 3) := by decide +kernel
theorem d_Gr_init_12 : decode b_Gr_init 12 = .ok (.aload_n 0, 1) := by decide +kernel
theorem d_Gr_init_13 : decode b_Gr_init 13 = .ok (.bipush 36, 2) := by decide +kernel
theorem d_Gr_init_15 : decode b_Gr_init 15 = .ok (.newarray .int, 2) := by decide +kernel
theorem d_Gr_init_17 : decode b_Gr_init 17 = .ok (.putfield 15, 3) := by decide +kernel
theorem d_Gr_init_20 : decode b_Gr_init 20 = .ok (.aload_n 0, 1) := by decide +kernel
theorem d_Gr_init_21 : decode b_Gr_init 21 = .ok (.bipush 36, 2) := by decide +kernel
theorem d_Gr_init_23 : decode b_Gr_init 23 = .ok (.newarray .int, 2) := by decide +kernel
theorem d_Gr_init_25 : decode b_Gr_init 25 = .ok (.putfield 18, 3) := by decide +kernel
theorem d_Gr_init_28 : decode b_Gr_init 28 = .ok (.aload_n 0, 1) := by decide +kernel
theorem d_Gr_init_29 : decode b_Gr_init 29 = .ok (.bipush 14, 2) := by decide +kernel
theorem d_Gr_init_31 : decode b_Gr_init 31 = .ok (.putfield 21, 3) := by decide +kernel
theorem d_Gr_init_34 : decode b_Gr_init 34 = .ok (.aload_n 0, 1) := by decide +kernel
theorem d_Gr_init_35 : decode b_Gr_init 35 = .ok (.bipush 99, 2) := by decide +kernel
theorem d_Gr_init_37 : decode b_Gr_init 37 = .ok (.putfield 25, 3) := by decide +kernel
theorem d_Gr_init_40 : decode b_Gr_init 40 = .ok (.iconst 0, 1) := by decide +kernel
theorem d_Gr_init_41 : decode b_Gr_init 41 = .ok (.istore_n 1, 1) := by decide +kernel
theorem d_Gr_init_42 : decode b_Gr_init 42 = .ok (.iload_n 1, 1) := by decide +kernel
theorem d_Gr_init_43 : decode b_Gr_init 43 = .ok (.bipush 36, 2) := by decide +kernel
theorem d_Gr_init_45 : decode b_Gr_init 45 = .ok (.if_icmp .ge 67, 3) := by decide +kernel
theorem d_Gr_init_48 : decode b_Gr_init 48 = .ok (.iload_n 1, 1) := by decide +kernel
theorem d_Gr_init_49 : decode b_Gr_init 49 = .ok (.bipush 6, 2) := by decide +kernel
theorem d_Gr_init_51 : decode b_Gr_init 51 = .ok (.idiv, 1) := by decide +kernel
theorem d_Gr_init_52 : decode b_Gr_init 52 = .ok (.aload_n 0, 1) := by decide +kernel
theorem d_Gr_init_53 : decode b_Gr_init 53 = .ok (.getfield 21, 3) := by decide +kernel
theorem d_Gr_init_56 : decode b_Gr_init 56 = .ok (.bipush 6, 2) := by decide +kernel
theorem d_Gr_init_58 : decode b_Gr_init 58 = .ok (.idiv, 1) := by decide +kernel
theorem d_Gr_init_59 : decode b_Gr_init 59 = .ok (.isub, 1) := by decide +kernel
theorem d_Gr_init_60 : decode b_Gr_init 60 = .ok (.invokestatic 28, 3) := by decide +kernel
theorem d_Gr_init_63 : decode b_Gr_init 63 = .ok (.istore_n 2, 1) := by decide +kernel
theorem d_Gr_init_64 : decode b_Gr_init 64 = .ok (.iload_n 1, 1) := by decide +kernel
theorem d_Gr_init_65 : decode b_Gr_init 65 = .ok (.bipush 6, 2) := by decide +kernel
theorem d_Gr_init_67 : decode b_Gr_init 67 = .ok (.irem, 1) := by decide +kernel
theorem d_Gr_init_68 : decode b_Gr_init 68 = .ok (.aload_n 0, 1) := by decide +kernel
theorem d_Gr_init_69 : decode b_Gr_init 69 = .ok (.getfield 21, 3) := by decide +kernel
theorem d_Gr_init_72 : decode b_Gr_init 72 = .ok (.bipush 6, 2) := by decide +kernel
theorem d_Gr_init_74 : decode b_Gr_init 74 = .ok (.irem, 1) := by decide +kernel
theorem d_Gr_init_75 : decode b_Gr_init 75 = .ok (.isub, 1) := by decide +kernel
theorem d_Gr_init_76 : decode b_Gr_init 76 = .ok (.invokestatic 28, 3) := by decide +kernel
theorem d_Gr_init_79 : decode b_Gr_init 79 = .ok (.istore_n 3, 1) := by decide +kernel
theorem d_Gr_init_80 : decode b_Gr_init 80 = .ok (.aload_n 0, 1) := by decide +kernel
theorem d_Gr_init_81 : decode b_Gr_init 81 = .ok (.getfield 9, 3) := by decide +kernel
theorem d_Gr_init_84 : decode b_Gr_init 84 = .ok (.iload_n 1, 1) := by decide +kernel
theorem d_Gr_init_85 : decode b_Gr_init 85 = .ok (.iconst 0, 1) := by decide +kernel
theorem d_Gr_init_86 : decode b_Gr_init 86 = .ok (.bipush 50, 2) := by decide +kernel
theorem d_Gr_init_88 : decode b_Gr_init 88 = .ok (.iconst 5, 1) := by decide +kernel
theorem d_Gr_init_89 : decode b_Gr_init 89 = .ok (.iload_n 2, 1) := by decide +kernel
theorem d_Gr_init_90 : decode b_Gr_init 90 = .ok (.iload_n 3, 1) := by decide +kernel
theorem d_Gr_init_91 : decode b_Gr_init 91 = .ok (.iadd, 1) := by decide +kernel
theorem d_Gr_init_92 : decode b_Gr_init 92 = .ok (.imul, 1) := by decide +kernel
theorem d_Gr_init_93 : decode b_Gr_init 93 = .ok (.isub, 1) := by decide +kernel
theorem d_Gr_init_94 : decode b_Gr_init 94 = .ok (.invokestatic 34, 3) := by decide +kernel
theorem d_Gr_init_97 : decode b_Gr_init 97 = .ok (.iastore, 1) := by decide +kernel
theorem d_Gr_init_98 : decode b_Gr_init 98 = .ok (.aload_n 0, 1) := by decide +kernel
theorem d_Gr_init_99 : decode b_Gr_init 99 = .ok (.getfield 15, 3) := by decide +kernel
theorem d_Gr_init_102 : decode b_Gr_init 102 = .ok (.iload_n 1, 1) := by decide +kernel
theorem d_Gr_init_103 : decode b_Gr_init 103 = .ok (.bipush 20, 2) := by decide +kernel
theorem d_Gr_init_105 : decode b_Gr_init 105 = .ok (.iastore, 1) := by decide +kernel
theorem d_Gr_init_106 : decode b_Gr_init 106 = .ok (.iinc 1 1, 3) := by decide +kernel
theorem d_Gr_init_109 : decode b_Gr_init 109 = .ok (.goto (-67), 3) := by decide +kernel
theorem d_Gr_init_112 : decode b_Gr_init 112 = .ok (.return_, 1) := by decide +kernel
theorem d_Ma_abs_0 : decode b_Ma_abs 0 = .ok (.iload_n 0, 1) := by decide +kernel
theorem d_Ma_abs_1 : decode b_Ma_abs 1 = .ok (.ifCond .ge 8, 3) := by decide +kernel
theorem d_Ma_abs_4 : decode b_Ma_abs 4 = .ok (.iload_n 0, 1) := by decide +kernel
theorem d_Ma_abs_5 : decode b_Ma_abs 5 = .ok (.ineg, 1) := by decide +kernel
theorem d_Ma_abs_6 : decode b_Ma_abs 6 = .ok (.goto 4, 3) := by decide +kernel
theorem d_Ma_abs_9 : decode b_Ma_abs 9 = .ok (.iload_n 0, 1) := by decide +kernel
theorem d_Ma_abs_10 : decode b_Ma_abs 10 = .ok (.ireturn, 1) := by decide +kernel
theorem d_Ma_max_0 : decode b_Ma_max 0 = .ok (.iload_n 0, 1) := by decide +kernel
theorem d_Ma_max_1 : decode b_Ma_max 1 = .ok (.iload_n 1, 1) := by decide +kernel
theorem d_Ma_max_2 : decode b_Ma_max 2 = .ok (.if_icmp .lt 7, 3) := by decide +kernel
theorem d_Ma_max_5 : decode b_Ma_max 5 = .ok (.iload_n 0, 1) := by decide +kernel
theorem d_Ma_max_6 : decode b_Ma_max 6 = .ok (.goto 4, 3) := by decide +kernel
theorem d_Ma_max_9 : decode b_Ma_max 9 = .ok (.iload_n 1, 1) := by decide +kernel
theorem d_Ma_max_10 : decode b_Ma_max 10 = .ok (.ireturn, 1) := by decide +kernel
theorem d_Fa_init_0 : decode b_Fa_init 0 = .ok (.aload_n 0, 1) := by decide +kernel
theorem d_Fa_init_1 : decode b_Fa_init 1 = .ok (.invokespecial 3, 3) := by decide +kernel
theorem d_Fa_init_4 : decode b_Fa_init 4 = .ok (.aload_n 0, 1) := by decide +kernel
theorem d_Fa_init_5 : decode b_Fa_init 5 = .ok (.bipush 12, 2) := by decide +kernel
theorem d_Fa_init_7 : decode b_Fa_init 7 = .ok (.newarray .int, 2) := by decide +kernel
theorem d_Fa_init_9 : decode b_Fa_init 9 = .ok (.putfield 9, 3) := by decide +kernel
theorem d_Fa_init_12 : decode b_Fa_init 12 = .ok (.aload_n 0, 1) := by decide +kernel
theorem d_Fa_init_13 : decode b_Fa_init 13 = .ok (.bipush 12, 2) := by decide +kernel
theorem d_Fa_init_15 : decode b_Fa_init 15 = .ok (.newarray .int, 2) := by decide +kernel
theorem d_Fa_init_17 : decode b_Fa_init 17 = .ok (.putfield 15, 3) := by decide +kernel
theorem d_Fa_init_20 : decode b_Fa_init 20 = .ok (.aload_n 0, 1) := by decide +kernel
theorem d_Fa_init_21 : decode b_Fa_init 21 = .ok (.bipush 12, 2) := by decide +kernel
theorem d_Fa_init_23 : decode b_Fa_init 23 = .ok (.newarray .int, 2) := by decide +kernel
theorem d_Fa_init_25 : decode b_Fa_init 25 = .ok (.putfield 18, 3) := by decide +kernel
theorem d_Fa_init_28 : decode b_Fa_init 28 = .ok (.aload_n 0, 1) := by decide +kernel
theorem d_Fa_init_29 : decode b_Fa_init 29 = .ok (.bipush 12, 2) := by decide +kernel
theorem d_Fa_init_31 : decode b_Fa_init 31 = .ok (.newarray .int, 2) := by decide +kernel
theorem d_Fa_init_33 : decode b_Fa_init 33 = .ok (.putfield 21, 3) := by decide +kernel
theorem d_Fa_init_36 : decode b_Fa_init 36 = .ok (.aload_n 0, 1) := by decide +kernel
theorem d_Fa_init_37 : decode b_Fa_init 37 = .ok (.iconst 0, 1) := by decide +kernel
theorem d_Fa_init_38 : decode b_Fa_init 38 = .ok (.putfield 24, 3) := by decide +kernel
theorem d_Fa_init_41 : decode b_Fa_init 41 = .ok (.aload_n 0, 1) := by decide +kernel
theorem d_Fa_init_42 : decode b_Fa_init 42 = .ok (.iconst 0, 1) := by decide +kernel
theorem d_Fa_init_43 : decode b_Fa_init 43 = .ok (.putfield 28, 3) := by decide +kernel
theorem d_Fa_init_46 : decode b_Fa_init 46 = .ok (.return_, 1) := by decide +kernel
theorem d_Mo_init_0 : decode b_Mo_init 0 = .ok (.aload_n 0, 1) := by decide +kernel
theorem d_Mo_init_1 : decode b_Mo_init 1 = .ok (.invokespecial 3, 3) := by decide +kernel
theorem d_Mo_init_4 : decode b_Mo_init 4 = .ok (.aload_n 0, 1) := by decide +kernel
theorem d_Mo_init_5 : decode b_Mo_init 5 = .ok (.bipush 16, 2) := by decide +kernel
theorem d_Mo_init_7 : decode b_Mo_init 7 = .ok (.newarray .int, 2) := by decide +kernel
theorem d_Mo_init_9 : decode b_Mo_init 9 = .ok (.putfield 9, 3) := by decide +kernel
theorem d_Mo_init_12 : decode b_Mo_init 12 = .ok (.aload_n 0, 1) := by decide +kernel
theorem d_Mo_init_13 : decode b_Mo_init 13 = .ok (.bipush 16, 2) := by decide +kernel
theorem d_Mo_init_15 : decode b_Mo_init 15 = .ok (.newarray .int, 2) := by decide +kernel
theorem d_Mo_init_17 : decode b_Mo_init 17 = .ok (.putfield 15, 3) := by decide +kernel
theorem d_Mo_init_20 : decode b_Mo_init 20 = .ok (.aload_n 0, 1) := by decide +kernel
theorem d_Mo_init_21 : decode b_Mo_init 21 = .ok (.bipush 6, 2) := by decide +kernel
theorem d_Mo_init_23 : decode b_Mo_init 23 = .ok (.newarray .int, 2) := by decide +kernel
theorem d_Mo_init_25 : decode b_Mo_init 25 = .ok (.putfield 18, 3) := by decide +kernel
theorem d_Mo_init_28 : decode b_Mo_init 28 = .ok (.aload_n 0, 1) := by decide +kernel
theorem d_Mo_init_29 : decode b_Mo_init 29 = .ok (.iconst 0, 1) := by decide +kernel
theorem d_Mo_init_30 : decode b_Mo_init 30 = .ok (.putfield 21, 3) := by decide +kernel
theorem d_Mo_init_33 : decode b_Mo_init 33 = .ok (.aload_n 0, 1) := by decide +kernel
theorem d_Mo_init_34 : decode b_Mo_init 34 = .ok (.iconst 0, 1) := by decide +kernel
theorem d_Mo_init_35 : decode b_Mo_init 35 = .ok (.putfield 25, 3) := by decide +kernel
theorem d_Mo_init_38 : decode b_Mo_init 38 = .ok (.aload_n 0, 1) := by decide +kernel
theorem d_Mo_init_39 : decode b_Mo_init 39 = .ok (.iconst 1, 1) := by decide +kernel
theorem d_Mo_init_40 : decode b_Mo_init 40 = .ok (.putfield 28, 3) := by decide +kernel
theorem d_Mo_init_43 : decode b_Mo_init 43 = .ok (.iconst 0, 1) := by decide +kernel
theorem d_Mo_init_44 : decode b_Mo_init 44 = .ok (.istore_n 1, 1) := by decide +kernel
theorem d_Mo_init_45 : decode b_Mo_init 45 = .ok (.iload_n 1, 1) := by decide +kernel
theorem d_Mo_init_46 : decode b_Mo_init 46 = .ok (.iconst 4, 1) := by decide +kernel
theorem d_Mo_init_47 : decode b_Mo_init 47 = .ok (.if_icmp .ge 70, 3) := by decide +kernel
theorem d_Mo_init_50 : decode b_Mo_init 50 = .ok (.aload_n 0, 1) := by decide +kernel
theorem d_Mo_init_51 : decode b_Mo_init 51 = .ok (.getfield 9, 3) := by decide +kernel
theorem d_Mo_init_54 : decode b_Mo_init 54 = .ok (.iconst 4, 1) := by decide +kernel
theorem d_Mo_init_55 : decode b_Mo_init 55 = .ok (.iload_n 1, 1) := by decide +kernel
theorem d_Mo_init_56 : decode b_Mo_init 56 = .ok (.imul, 1) := by decide +kernel
theorem d_Mo_init_57 : decode b_Mo_init 57 = .ok (.iload_n 1, 1) := by decide +kernel
theorem d_Mo_init_58 : decode b_Mo_init 58 = .ok (.iadd, 1) := by decide +kernel
theorem d_Mo_init_59 : decode b_Mo_init 59 = .ok (.bipush 7, 2) := by decide +kernel
theorem d_Mo_init_61 : decode b_Mo_init 61 = .ok (.iastore, 1) := by decide +kernel
theorem d_Mo_init_62 : decode b_Mo_init 62 = .ok (.aload_n 0, 1) := by decide +kernel
theorem d_Mo_init_63 : decode b_Mo_init 63 = .ok (.getfield 9, 3) := by decide +kernel
theorem d_Mo_init_66 : decode b_Mo_init 66 = .ok (.iconst 4, 1) := by decide +kernel
theorem d_Mo_init_67 : decode b_Mo_init 67 = .ok (.iload_n 1, 1) := by decide +kernel
theorem d_Mo_init_68 : decode b_Mo_init 68 = .ok (.imul, 1) := by decide +kernel
theorem d_Mo_init_69 : decode b_Mo_init 69 = .ok (.iload_n 1, 1) := by decide +kernel
theorem d_Mo_init_70 : decode b_Mo_init 70 = .ok (.iconst 1, 1) := by decide +kernel
theorem d_Mo_init_71 : decode b_Mo_init 71 = .ok (.iadd, 1) := by decide +kernel
theorem d_Mo_init_72 : decode b_Mo_init 72 = .ok (.iconst 4, 1) := by decide +kernel
theorem d_Mo_init_73 : decode b_Mo_init 73 = .ok (.irem, 1) := by decide +kernel
theorem d_Mo_init_74 : decode b_Mo_init 74 = .ok (.iadd, 1) := by decide +kernel
theorem d_Mo_init_75 : decode b_Mo_init 75 = .ok (.iconst 3, 1) := by decide +kernel
theorem d_Mo_init_76 : decode b_Mo_init 76 = .ok (.iastore, 1) := by decide +kernel
theorem d_Mo_init_77 : decode b_Mo_init 77 = .ok (.iconst 0, 1) := by decide +kernel
theorem d_Mo_init_78 : decode b_Mo_init 78 = .ok (.istore_n 2, 1) := by decide +kernel
theorem d_Mo_init_79 : decode b_Mo_init 79 = .ok (.iload_n 2, 1) := by decide +kernel
theorem d_Mo_init_80 : decode b_Mo_init 80 = .ok (.iconst 4, 1) := by decide +kernel
theorem d_Mo_init_81 : decode b_Mo_init 81 = .ok (.if_icmp .ge 30, 3) := by decide +kernel
theorem d_Mo_init_84 : decode b_Mo_init 84 = .ok (.aload_n 0, 1) := by decide +kernel
theorem d_Mo_init_85 : decode b_Mo_init 85 = .ok (.getfield 15, 3) := by decide +kernel
theorem d_Mo_init_88 : decode b_Mo_init 88 = .ok (.iconst 4, 1) := by decide +kernel
theorem d_Mo_init_89 : decode b_Mo_init 89 = .ok (.iload_n 1, 1) := by decide +kernel
theorem d_Mo_init_90 : decode b_Mo_init 90 = .ok (.imul, 1) := by decide +kernel
theorem d_Mo_init_91 : decode b_Mo_init 91 = .ok (.iload_n 2, 1) := by decide +kernel
theorem d_Mo_init_92 : decode b_Mo_init 92 = .ok (.iadd, 1) := by decide +kernel
theorem d_Mo_init_93 : decode b_Mo_init 93 = .ok (.iload_n 2, 1) := by decide +kernel
theorem d_Mo_init_94 : decode b_Mo_init 94 = .ok (.iload_n 1, 1) := by decide +kernel
theorem d_Mo_init_95 : decode b_Mo_init 95 = .ok (.if_icmp .ne 8, 3) := by decide +kernel
theorem d_Mo_init_98 : decode b_Mo_init 98 = .ok (.bipush 7, 2) := by decide +kernel
theorem d_Mo_init_100 : decode b_Mo_init 100 = .ok (.goto 4, 3) := by decide +kernel
theorem d_Mo_init_103 : decode b_Mo_init 103 = .ok (.iconst 1, 1) := by decide +kernel
theorem d_Mo_init_104 : decode b_Mo_init 104 = .ok (.iastore, 1) := by decide +kernel
theorem d_Mo_init_105 : decode b_Mo_init 105 = .ok (.iinc 2 1, 3) := by decide +kernel
theorem d_Mo_init_108 : decode b_Mo_init 108 = .ok (.goto (-29), 3) := by decide +kernel
theorem d_Mo_init_111 : decode b_Mo_init 111 = .ok (.iinc 1 1, 3) := by decide +kernel
theorem d_Mo_init_114 : decode b_Mo_init 114 = .ok (.goto (-69), 3) := by decide +kernel
theorem d_Mo_init_117 : decode b_Mo_init 117 = .ok (.return_, 1) := by decide +kernel
theorem d_Pa_init_0 : decode b_Pa_init 0 = .ok (.aload_n 0, 1) := by decide +kernel
theorem d_Pa_init_1 : decode b_Pa_init 1 = .ok (.invokespecial 3, 3) := by decide +kernel
theorem d_Pa_init_4 : decode b_Pa_init 4 = .ok (.aload_n 0, 1) := by decide +kernel
theorem d_Pa_init_5 : decode b_Pa_init 5 = .ok (.iconst 4, 1) := by decide +kernel
theorem d_Pa_init_6 : decode b_Pa_init 6 = .ok (.newarray .long, 2) := by decide +kernel
theorem d_Pa_init_8 : decode b_Pa_init 8 = .ok (.putfield 9, 3) := by decide +kernel
theorem d_Pa_init_11 : decode b_Pa_init 11 = .ok (.aload_n 0, 1) := by decide +kernel
theorem d_Pa_init_12 : decode b_Pa_init 12 = .ok (.iconst 4, 1) := by decide +kernel
theorem d_Pa_init_13 : decode b_Pa_init 13 = .ok (.newarray .long, 2) := by decide +kernel
theorem d_Pa_init_15 : decode b_Pa_init 15 = .ok (.putfield 15, 3) := by decide +kernel
theorem d_Pa_init_18 : decode b_Pa_init 18 = .ok (.return_, 1) := by decide +kernel
theorem d_Tx_init_0 : decode b_Tx_init 0 = .ok (.aload_n 0, 1) := by decide +kernel
theorem d_Tx_init_1 : decode b_Tx_init 1 = .ok (.invokespecial 3, 3) := by decide +kernel
theorem d_Tx_init_4 : decode b_Tx_init 4 = .ok (.aload_n 0, 1) := by decide +kernel
theorem d_Tx_init_5 : decode b_Tx_init 5 = .ok (.new 9, 3) := by decide +kernel
theorem d_Tx_init_8 : decode b_Tx_init 8 = .ok (.dup, 1) := by decide +kernel
theorem d_Tx_init_9 : decode b_Tx_init 9 = .ok (.invokespecial 11, 3) := by decide +kernel
theorem d_Tx_init_12 : decode b_Tx_init 12 = .ok (.putfield 12, 3) := by decide +kernel
theorem d_Tx_init_15 : decode b_Tx_init 15 = .ok (.return_, 1) := by decide +kernel
theorem d_Ta_init_0 : decode b_Ta_init 0 = .ok (.aload_n 0, 1) := by decide +kernel
theorem d_Ta_init_1 : decode b_Ta_init 1 = .ok (.invokespecial 3, 3) := by decide +kernel
theorem d_Ta_init_4 : decode b_Ta_init 4 = .ok (.aload_n 0, 1) := by decide +kernel
theorem d_Ta_init_5 : decode b_Ta_init 5 = .ok (.bipush 120, 2) := by decide +kernel
theorem d_Ta_init_7 : decode b_Ta_init 7 = .ok (.newarray .int, 2) := by decide +kernel
theorem d_Ta_init_9 : decode b_Ta_init 9 = .ok (.putfield 9, 3) := by decide +kernel
theorem d_Ta_init_12 : decode b_Ta_init 12 = .ok (.aload_n 0, 1) := by decide +kernel
theorem d_Ta_init_13 : decode b_Ta_init 13 = .ok (.iconst 0, 1) := by decide +kernel
theorem d_Ta_init_14 : decode b_Ta_init 14 = .ok (.putfield 15, 3) := by decide +kernel
theorem d_Ta_init_17 : decode b_Ta_init 17 = .ok (.aload_n 0, 1) := by decide +kernel
theorem d_Ta_init_18 : decode b_Ta_init 18 = .ok (.iconst 0, 1) := by decide +kernel
theorem d_Ta_init_19 : decode b_Ta_init 19 = .ok (.putfield 19, 3) := by decide +kernel
theorem d_Ta_init_22 : decode b_Ta_init 22 = .ok (.aload_n 0, 1) := by decide +kernel
theorem d_Ta_init_23 : decode b_Ta_init 23 = .ok (.iconst 0, 1) := by decide +kernel
theorem d_Ta_init_24 : decode b_Ta_init 24 = .ok (.putfield 22, 3) := by decide +kernel
theorem d_Ta_init_27 : decode b_Ta_init 27 = .ok (.aload_n 0, 1) := by decide +kernel
theorem d_Ta_init_28 : decode b_Ta_init 28 = .ok (.iconst 0, 1) := by decide +kernel
theorem d_Ta_init_29 : decode b_Ta_init 29 = .ok (.putfield 25, 3) := by decide +kernel
theorem d_Ta_init_32 : decode b_Ta_init 32 = .ok (.aload_n 0, 1) := by decide +kernel
theorem d_Ta_init_33 : decode b_Ta_init 33 = .ok (.iconst 0, 1) := by decide +kernel
theorem d_Ta_init_34 : decode b_Ta_init 34 = .ok (.putfield 28, 3) := by decide +kernel
theorem d_Ta_init_37 : decode b_Ta_init 37 = .ok (.return_, 1) := by decide +kernel
theorem d_Sh_init_0 : decode b_Sh_init 0 = .ok (.aload_n 0, 1) := by decide +kernel
theorem d_Sh_init_1 : decode b_Sh_init 1 = .ok (.invokespecial 3, 3) := by decide +kernel
theorem d_Sh_init_4 : decode b_Sh_init 4 = .ok (.aload_n 0, 1) := by decide +kernel
theorem d_Sh_init_5 : decode b_Sh_init 5 = .ok (.bipush 40, 2) := by decide +kernel
theorem d_Sh_init_7 : decode b_Sh_init 7 = .ok (.newarray .long, 2) := by decide +kernel
theorem d_Sh_init_9 : decode b_Sh_init 9 = .ok (.putfield 9, 3) := by decide +kernel
theorem d_Sh_init_12 : decode b_Sh_init 12 = .ok (.aload_n 0, 1) := by decide +kernel
theorem d_Sh_init_13 : decode b_Sh_init 13 = .ok (.iconst 0, 1) := by decide +kernel
theorem d_Sh_init_14 : decode b_Sh_init 14 = .ok (.putfield 15, 3) := by decide +kernel
theorem d_Sh_init_17 : decode b_Sh_init 17 = .ok (.aload_n 0, 1) := by decide +kernel
theorem d_Sh_init_18 : decode b_Sh_init 18 = .ok (.iconst 0, 1) := by decide +kernel
theorem d_Sh_init_19 : decode b_Sh_init 19 = .ok (.putfield 19, 3) := by decide +kernel
theorem d_Sh_init_22 : decode b_Sh_init 22 = .ok (.return_, 1) := by decide +kernel
theorem d_X_set_0 : decode b_X_set 0 = .ok (.iload_n 1, 1) := by decide +kernel
theorem d_X_set_1 : decode b_X_set 1 = .ok (.invokestatic 51, 3) := by decide +kernel
theorem d_X_set_4 : decode b_X_set 4 = .ok (.ifCond .eq 22, 3) := by decide +kernel
theorem d_X_set_7 : decode b_X_set 7 = .ok (.iload_n 2, 1) := by decide +kernel
theorem d_X_set_8 : decode b_X_set 8 = .ok (.iconst 0, 1) := by decide +kernel
theorem d_X_set_9 : decode b_X_set 9 = .ok (.iconst 1, 1) := by decide +kernel
theorem d_X_set_10 : decode b_X_set 10 = .ok (.invokestatic 55, 3) := by decide +kernel
theorem d_X_set_13 : decode b_X_set 13 = .ok (.ifCond .eq 13, 3) := by decide +kernel
theorem d_X_set_16 : decode b_X_set 16 = .ok (.iload_n 3, 1) := by decide +kernel
theorem d_X_set_17 : decode b_X_set 17 = .ok (.iconst 0, 1) := by decide +kernel
theorem d_X_set_18 : decode b_X_set 18 = .ok (.bipush 99, 2) := by decide +kernel
theorem d_X_set_20 : decode b_X_set 20 = .ok (.invokestatic 55, 3) := by decide +kernel
theorem d_X_set_23 : decode b_X_set 23 = .ok (.ifCond .ne 9, 3) := by decide +kernel
theorem d_X_set_26 : decode b_X_set 26 = .ok (.aload_n 0, 1) := by decide +kernel
theorem d_X_set_27 : decode b_X_set 27 = .ok (.iconst 0, 1) := by decide +kernel
theorem d_X_set_28 : decode b_X_set 28 = .ok (.invokevirtual 59, 3) := by decide +kernel
theorem d_X_set_31 : decode b_X_set 31 = .ok (.ireturn, 1) := by decide +kernel
theorem d_X_set_32 : decode b_X_set 32 = .ok (.iload_n 2, 1) := by decide +kernel
theorem d_X_set_33 : decode b_X_set 33 = .ok (.ifCond .ne 16, 3) := by decide +kernel
theorem d_X_set_36 : decode b_X_set 36 = .ok (.aload_n 0, 1) := by decide +kernel
theorem d_X_set_37 : decode b_X_set 37 = .ok (.getfield 10, 3) := by decide +kernel
theorem d_X_set_40 : decode b_X_set 40 = .ok (.getfield 63, 3) := by decide +kernel
theorem d_X_set_43 : decode b_X_set 43 = .ok (.getfield 67, 3) := by decide +kernel
theorem d_X_set_46 : decode b_X_set 46 = .ok (.goto 13, 3) := by decide +kernel
theorem d_X_set_49 : decode b_X_set 49 = .ok (.aload_n 0, 1) := by decide +kernel
theorem d_X_set_50 : decode b_X_set 50 = .ok (.getfield 10, 3) := by decide +kernel
theorem d_X_set_53 : decode b_X_set 53 = .ok (.getfield 63, 3) := by decide +kernel
theorem d_X_set_56 : decode b_X_set 56 = .ok (.getfield 72, 3) := by decide +kernel
theorem d_X_set_59 : decode b_X_set 59 = .ok (.astore 4, 2) := by decide +kernel
theorem d_X_set_61 : decode b_X_set 61 = .ok (.aload 4, 2) := by decide +kernel
theorem d_X_set_63 : decode b_X_set 63 = .ok (.iload_n 1, 1) := by decide +kernel
theorem d_X_set_64 : decode b_X_set 64 = .ok (.iaload, 1) := by decide +kernel
theorem d_X_set_65 : decode b_X_set 65 = .ok (.istore 5, 2) := by decide +kernel
theorem d_X_set_67 : decode b_X_set 67 = .ok (.aload 4, 2) := by decide +kernel
theorem d_X_set_69 : decode b_X_set 69 = .ok (.iload_n 1, 1) := by decide +kernel
theorem d_X_set_70 : decode b_X_set 70 = .ok (.iload_n 3, 1) := by decide +kernel
theorem d_X_set_71 : decode b_X_set 71 = .ok (.iastore, 1) := by decide +kernel
theorem d_X_set_72 : decode b_X_set 72 = .ok (.iload 5, 2) := by decide +kernel
theorem d_X_set_74 : decode b_X_set 74 = .ok (.ireturn, 1) := by decide +kernel
theorem d_X_isCell_0 : decode b_X_isCell 0 = .ok (.iload_n 0, 1) := by decide +kernel
theorem d_X_isCell_1 : decode b_X_isCell 1 = .ok (.ifCond .lt 13, 3) := by decide +kernel
theorem d_X_isCell_4 : decode b_X_isCell 4 = .ok (.iload_n 0, 1) := by decide +kernel
theorem d_X_isCell_5 : decode b_X_isCell 5 = .ok (.bipush 36, 2) := by decide +kernel
theorem d_X_isCell_7 : decode b_X_isCell 7 = .ok (.if_icmp .ge 7, 3) := by decide +kernel
theorem d_X_isCell_10 : decode b_X_isCell 10 = .ok (.iconst 1, 1) := by decide +kernel
theorem d_X_isCell_11 : decode b_X_isCell 11 = .ok (.goto 4, 3) := by decide +kernel
theorem d_X_isCell_14 : decode b_X_isCell 14 = .ok (.iconst 0, 1) := by decide +kernel
theorem d_X_isCell_15 : decode b_X_isCell 15 = .ok (.ireturn, 1) := by decide +kernel
theorem d_X_isWithin_0 : decode b_X_isWithin 0 = .ok (.iload_n 0, 1) := by decide +kernel
theorem d_X_isWithin_1 : decode b_X_isWithin 1 = .ok (.iload_n 1, 1) := by decide +kernel
theorem d_X_isWithin_2 : decode b_X_isWithin 2 = .ok (.if_icmp .lt 12, 3) := by decide +kernel
theorem d_X_isWithin_5 : decode b_X_isWithin 5 = .ok (.iload_n 0, 1) := by decide +kernel
theorem d_X_isWithin_6 : decode b_X_isWithin 6 = .ok (.iload_n 2, 1) := by decide +kernel
theorem d_X_isWithin_7 : decode b_X_isWithin 7 = .ok (.if_icmp .gt 7, 3) := by decide +kernel
theorem d_X_isWithin_10 : decode b_X_isWithin 10 = .ok (.iconst 1, 1) := by decide +kernel
theorem d_X_isWithin_11 : decode b_X_isWithin 11 = .ok (.goto 4, 3) := by decide +kernel
theorem d_X_isWithin_14 : decode b_X_isWithin 14 = .ok (.iconst 0, 1) := by decide +kernel
theorem d_X_isWithin_15 : decode b_X_isWithin 15 = .ok (.ireturn, 1) := by decide +kernel
theorem d_X_finding_0 : decode b_X_finding 0 = .ok (.iload_n 1, 1) := by decide +kernel
theorem d_X_finding_1 : decode b_X_finding 1 = .ok (.iconst 0, 1) := by decide +kernel
theorem d_X_finding_2 : decode b_X_finding 2 = .ok (.bipush 6, 2) := by decide +kernel
theorem d_X_finding_4 : decode b_X_finding 4 = .ok (.invokestatic 55, 3) := by decide +kernel
theorem d_X_finding_7 : decode b_X_finding 7 = .ok (.ifCond .eq 13, 3) := by decide +kernel
theorem d_X_finding_10 : decode b_X_finding 10 = .ok (.aload_n 0, 1) := by decide +kernel
theorem d_X_finding_11 : decode b_X_finding 11 = .ok (.getfield 43, 3) := by decide +kernel
theorem d_X_finding_14 : decode b_X_finding 14 = .ok (.iload_n 1, 1) := by decide +kernel
theorem d_X_finding_15 : decode b_X_finding 15 = .ok (.dup2, 1) := by decide +kernel
theorem d_X_finding_16 : decode b_X_finding 16 = .ok (.iaload, 1) := by decide +kernel
theorem d_X_finding_17 : decode b_X_finding 17 = .ok (.iconst 1, 1) := by decide +kernel
theorem d_X_finding_18 : decode b_X_finding 18 = .ok (.iadd, 1) := by decide +kernel
theorem d_X_finding_19 : decode b_X_finding 19 = .ok (.iastore, 1) := by decide +kernel
theorem d_X_finding_20 : decode b_X_finding 20 = .ok (.ldc_w 335, 3) := by decide +kernel
theorem d_X_finding_23 : decode b_X_finding 23 = .ok (.iload_n 1, 1) := by decide +kernel
theorem d_X_finding_24 : decode b_X_finding 24 = .ok (.isub, 1) := by decide +kernel
theorem d_X_finding_25 : decode b_X_finding 25 = .ok (.ireturn, 1) := by decide +kernel
theorem d_X_cellOf_0 : decode b_X_cellOf 0 = .ok (.iload_n 1, 1) := by decide +kernel
theorem d_X_cellOf_1 : decode b_X_cellOf 1 = .ok (.invokestatic 51, 3) := by decide +kernel
theorem d_X_cellOf_4 : decode b_X_cellOf 4 = .ok (.ifCond .ne 9, 3) := by decide +kernel
theorem d_X_cellOf_7 : decode b_X_cellOf 7 = .ok (.aload_n 0, 1) := by decide +kernel
theorem d_X_cellOf_8 : decode b_X_cellOf 8 = .ok (.iconst 0, 1) := by decide +kernel
theorem d_X_cellOf_9 : decode b_X_cellOf 9 = .ok (.invokevirtual 59, 3) := by decide +kernel
theorem d_X_cellOf_12 : decode b_X_cellOf 12 = .ok (.ireturn, 1) := by decide +kernel
theorem d_X_cellOf_13 : decode b_X_cellOf 13 = .ok (.iload_n 2, 1) := by decide +kernel
theorem d_X_cellOf_14 : decode b_X_cellOf 14 = .ok (.tableswitch 81 0 3 #[30, 43, 56, 68], 30) := by decide +kernel
theorem d_X_cellOf_44 : decode b_X_cellOf 44 = .ok (.aload_n 0, 1) := by decide +kernel
theorem d_X_cellOf_45 : decode b_X_cellOf 45 = .ok (.getfield 10, 3) := by decide +kernel
theorem d_X_cellOf_48 : decode b_X_cellOf 48 = .ok (.getfield 63, 3) := by decide +kernel
theorem d_X_cellOf_51 : decode b_X_cellOf 51 = .ok (.getfield 67, 3) := by decide +kernel
theorem d_X_cellOf_54 : decode b_X_cellOf 54 = .ok (.iload_n 1, 1) := by decide +kernel
theorem d_X_cellOf_55 : decode b_X_cellOf 55 = .ok (.iaload, 1) := by decide +kernel
theorem d_X_cellOf_56 : decode b_X_cellOf 56 = .ok (.ireturn, 1) := by decide +kernel
theorem d_X_cellOf_57 : decode b_X_cellOf 57 = .ok (.aload_n 0, 1) := by decide +kernel
theorem d_X_cellOf_58 : decode b_X_cellOf 58 = .ok (.getfield 10, 3) := by decide +kernel
theorem d_X_cellOf_61 : decode b_X_cellOf 61 = .ok (.getfield 63, 3) := by decide +kernel
theorem d_X_cellOf_64 : decode b_X_cellOf 64 = .ok (.getfield 72, 3) := by decide +kernel
theorem d_X_cellOf_67 : decode b_X_cellOf 67 = .ok (.iload_n 1, 1) := by decide +kernel
theorem d_X_cellOf_68 : decode b_X_cellOf 68 = .ok (.iaload, 1) := by decide +kernel
theorem d_X_cellOf_69 : decode b_X_cellOf 69 = .ok (.ireturn, 1) := by decide +kernel
theorem d_X_cellOf_70 : decode b_X_cellOf 70 = .ok (.aload_n 0, 1) := by decide +kernel
theorem d_X_cellOf_71 : decode b_X_cellOf 71 = .ok (.getfield 10, 3) := by decide +kernel
theorem d_X_cellOf_74 : decode b_X_cellOf 74 = .ok (.getfield 75, 3) := by decide +kernel
theorem d_X_cellOf_77 : decode b_X_cellOf 77 = .ok (.iload_n 1, 1) := by decide +kernel
theorem d_X_cellOf_78 : decode b_X_cellOf 78 = .ok (.invokevirtual 79, 3) := by decide +kernel
theorem d_X_cellOf_81 : decode b_X_cellOf 81 = .ok (.ireturn, 1) := by decide +kernel
theorem d_X_cellOf_82 : decode b_X_cellOf 82 = .ok (.aload_n 0, 1) := by decide +kernel
theorem d_X_cellOf_83 : decode b_X_cellOf 83 = .ok (.getfield 10, 3) := by decide +kernel
theorem d_X_cellOf_86 : decode b_X_cellOf 86 = .ok (.getfield 63, 3) := by decide +kernel
theorem d_X_cellOf_89 : decode b_X_cellOf 89 = .ok (.getfield 84, 3) := by decide +kernel
theorem d_X_cellOf_92 : decode b_X_cellOf 92 = .ok (.iload_n 1, 1) := by decide +kernel
theorem d_X_cellOf_93 : decode b_X_cellOf 93 = .ok (.iaload, 1) := by decide +kernel
theorem d_X_cellOf_94 : decode b_X_cellOf 94 = .ok (.ireturn, 1) := by decide +kernel
theorem d_X_cellOf_95 : decode b_X_cellOf 95 = .ok (.aload_n 0, 1) := by decide +kernel
theorem d_X_cellOf_96 : decode b_X_cellOf 96 = .ok (.iconst 0, 1) := by decide +kernel
theorem d_X_cellOf_97 : decode b_X_cellOf 97 = .ok (.invokevirtual 59, 3) := by decide +kernel
theorem d_X_cellOf_100 : decode b_X_cellOf 100 = .ok (.ireturn, 1) := by decide +kernel
theorem d_Fa_farmOn_0 : decode b_Fa_farmOn 0 = .ok (.iconst 0, 1) := by decide +kernel
theorem d_Fa_farmOn_1 : decode b_Fa_farmOn 1 = .ok (.istore_n 2, 1) := by decide +kernel
theorem d_Fa_farmOn_2 : decode b_Fa_farmOn 2 = .ok (.iload_n 2, 1) := by decide +kernel
theorem d_Fa_farmOn_3 : decode b_Fa_farmOn 3 = .ok (.aload_n 0, 1) := by decide +kernel
theorem d_Fa_farmOn_4 : decode b_Fa_farmOn 4 = .ok (.getfield 24, 3) := by decide +kernel
theorem d_Fa_farmOn_7 : decode b_Fa_farmOn 7 = .ok (.if_icmp .ge 21, 3) := by decide +kernel
theorem d_Fa_farmOn_10 : decode b_Fa_farmOn 10 = .ok (.aload_n 0, 1) := by decide +kernel
theorem d_Fa_farmOn_11 : decode b_Fa_farmOn 11 = .ok (.getfield 15, 3) := by decide +kernel
theorem d_Fa_farmOn_14 : decode b_Fa_farmOn 14 = .ok (.iload_n 2, 1) := by decide +kernel
theorem d_Fa_farmOn_15 : decode b_Fa_farmOn 15 = .ok (.iaload, 1) := by decide +kernel
theorem d_Fa_farmOn_16 : decode b_Fa_farmOn 16 = .ok (.iload_n 1, 1) := by decide +kernel
theorem d_Fa_farmOn_17 : decode b_Fa_farmOn 17 = .ok (.if_icmp .ne 5, 3) := by decide +kernel
theorem d_Fa_farmOn_20 : decode b_Fa_farmOn 20 = .ok (.iload_n 2, 1) := by decide +kernel
theorem d_Fa_farmOn_21 : decode b_Fa_farmOn 21 = .ok (.ireturn, 1) := by decide +kernel
theorem d_Fa_farmOn_22 : decode b_Fa_farmOn 22 = .ok (.iinc 2 1, 3) := by decide +kernel
theorem d_Fa_farmOn_25 : decode b_Fa_farmOn 25 = .ok (.goto (-23), 3) := by decide +kernel
theorem d_Fa_farmOn_28 : decode b_Fa_farmOn 28 = .ok (.iconst (-1), 1) := by decide +kernel
theorem d_Fa_farmOn_29 : decode b_Fa_farmOn 29 = .ok (.ireturn, 1) := by decide +kernel
theorem d_X_vent_0 : decode b_X_vent 0 = .ok (.iload_n 1, 1) := by decide +kernel
theorem d_X_vent_1 : decode b_X_vent 1 = .ok (.invokestatic 51, 3) := by decide +kernel
theorem d_X_vent_4 : decode b_X_vent 4 = .ok (.ifCond .ne 9, 3) := by decide +kernel
theorem d_X_vent_7 : decode b_X_vent 7 = .ok (.aload_n 0, 1) := by decide +kernel
theorem d_X_vent_8 : decode b_X_vent 8 = .ok (.iconst 0, 1) := by decide +kernel
theorem d_X_vent_9 : decode b_X_vent 9 = .ok (.invokevirtual 59, 3) := by decide +kernel
theorem d_X_vent_12 : decode b_X_vent 12 = .ok (.ireturn, 1) := by decide +kernel
theorem d_X_vent_13 : decode b_X_vent 13 = .ok (.aload_n 0, 1) := by decide +kernel
theorem d_X_vent_14 : decode b_X_vent 14 = .ok (.getfield 10, 3) := by decide +kernel
theorem d_X_vent_17 : decode b_X_vent 17 = .ok (.getfield 63, 3) := by decide +kernel
theorem d_X_vent_20 : decode b_X_vent 20 = .ok (.getfield 87, 3) := by decide +kernel
theorem d_X_vent_23 : decode b_X_vent 23 = .ok (.istore_n 2, 1) := by decide +kernel
theorem d_X_vent_24 : decode b_X_vent 24 = .ok (.aload_n 0, 1) := by decide +kernel
theorem d_X_vent_25 : decode b_X_vent 25 = .ok (.getfield 10, 3) := by decide +kernel
theorem d_X_vent_28 : decode b_X_vent 28 = .ok (.getfield 63, 3) := by decide +kernel
theorem d_X_vent_31 : decode b_X_vent 31 = .ok (.iload_n 1, 1) := by decide +kernel
theorem d_X_vent_32 : decode b_X_vent 32 = .ok (.putfield 87, 3) := by decide +kernel
theorem d_X_vent_35 : decode b_X_vent 35 = .ok (.iload_n 2, 1) := by decide +kernel
theorem d_X_vent_36 : decode b_X_vent 36 = .ok (.ireturn, 1) := by decide +kernel
theorem d_X_wall_0 : decode b_X_wall 0 = .ok (.iload_n 1, 1) := by decide +kernel
theorem d_X_wall_1 : decode b_X_wall 1 = .ok (.iload_n 2, 1) := by decide +kernel
theorem d_X_wall_2 : decode b_X_wall 2 = .ok (.invokestatic 91, 3) := by decide +kernel
theorem d_X_wall_5 : decode b_X_wall 5 = .ok (.istore 4, 2) := by decide +kernel
theorem d_X_wall_7 : decode b_X_wall 7 = .ok (.iload 4, 2) := by decide +kernel
theorem d_X_wall_9 : decode b_X_wall 9 = .ok (.ifCond .ge 9, 3) := by decide +kernel
theorem d_X_wall_12 : decode b_X_wall 12 = .ok (.aload_n 0, 1) := by decide +kernel
theorem d_X_wall_13 : decode b_X_wall 13 = .ok (.iconst 0, 1) := by decide +kernel
theorem d_X_wall_14 : decode b_X_wall 14 = .ok (.invokevirtual 59, 3) := by decide +kernel
theorem d_X_wall_17 : decode b_X_wall 17 = .ok (.ireturn, 1) := by decide +kernel
theorem d_X_wall_18 : decode b_X_wall 18 = .ok (.aload_n 0, 1) := by decide +kernel
theorem d_X_wall_19 : decode b_X_wall 19 = .ok (.getfield 10, 3) := by decide +kernel
theorem d_X_wall_22 : decode b_X_wall 22 = .ok (.getfield 63, 3) := by decide +kernel
theorem d_X_wall_25 : decode b_X_wall 25 = .ok (.iload_n 1, 1) := by decide +kernel
theorem d_X_wall_26 : decode b_X_wall 26 = .ok (.iload 4, 2) := by decide +kernel
theorem d_X_wall_28 : decode b_X_wall 28 = .ok (.invokevirtual 95, 3) := by decide +kernel
theorem d_X_wall_31 : decode b_X_wall 31 = .ok (.iload_n 3, 1) := by decide +kernel
theorem d_X_wall_32 : decode b_X_wall 32 = .ok (.if_icmp .ne 5, 3) := by decide +kernel
theorem d_X_wall_35 : decode b_X_wall 35 = .ok (.iconst 0, 1) := by decide +kernel
theorem d_X_wall_36 : decode b_X_wall 36 = .ok (.ireturn, 1) := by decide +kernel
theorem d_X_wall_37 : decode b_X_wall 37 = .ok (.aload_n 0, 1) := by decide +kernel
theorem d_X_wall_38 : decode b_X_wall 38 = .ok (.getfield 10, 3) := by decide +kernel
theorem d_X_wall_41 : decode b_X_wall 41 = .ok (.getfield 63, 3) := by decide +kernel
theorem d_X_wall_44 : decode b_X_wall 44 = .ok (.iload_n 1, 1) := by decide +kernel
theorem d_X_wall_45 : decode b_X_wall 45 = .ok (.iload 4, 2) := by decide +kernel
theorem d_X_wall_47 : decode b_X_wall 47 = .ok (.iload_n 3, 1) := by decide +kernel
theorem d_X_wall_48 : decode b_X_wall 48 = .ok (.invokevirtual 99, 3) := by decide +kernel
theorem d_X_wall_51 : decode b_X_wall 51 = .ok (.iconst 1, 1) := by decide +kernel
theorem d_X_wall_52 : decode b_X_wall 52 = .ok (.ireturn, 1) := by decide +kernel
theorem d_X_wayTo_0 : decode b_X_wayTo 0 = .ok (.iload_n 0, 1) := by decide +kernel
theorem d_X_wayTo_1 : decode b_X_wayTo 1 = .ok (.invokestatic 51, 3) := by decide +kernel
theorem d_X_wayTo_4 : decode b_X_wayTo 4 = .ok (.ifCond .eq 10, 3) := by decide +kernel
theorem d_X_wayTo_7 : decode b_X_wayTo 7 = .ok (.iload_n 1, 1) := by decide +kernel
theorem d_X_wayTo_8 : decode b_X_wayTo 8 = .ok (.invokestatic 51, 3) := by decide +kernel
theorem d_X_wayTo_11 : decode b_X_wayTo 11 = .ok (.ifCond .ne 5, 3) := by decide +kernel
theorem d_X_wayTo_14 : decode b_X_wayTo 14 = .ok (.iconst (-1), 1) := by decide +kernel
theorem d_X_wayTo_15 : decode b_X_wayTo 15 = .ok (.ireturn, 1) := by decide +kernel
theorem d_X_wayTo_16 : decode b_X_wayTo 16 = .ok (.iconst 0, 1) := by decide +kernel
theorem d_X_wayTo_17 : decode b_X_wayTo 17 = .ok (.istore_n 2, 1) := by decide +kernel
theorem d_X_wayTo_18 : decode b_X_wayTo 18 = .ok (.iload_n 2, 1) := by decide +kernel
theorem d_X_wayTo_19 : decode b_X_wayTo 19 = .ok (.iconst 4, 1) := by decide +kernel
theorem d_X_wayTo_20 : decode b_X_wayTo 20 = .ok (.if_icmp .ge 20, 3) := by decide +kernel
theorem d_X_wayTo_23 : decode b_X_wayTo 23 = .ok (.iload_n 0, 1) := by decide +kernel
theorem d_X_wayTo_24 : decode b_X_wayTo 24 = .ok (.iload_n 2, 1) := by decide +kernel
theorem d_X_wayTo_25 : decode b_X_wayTo 25 = .ok (.invokestatic 232, 3) := by decide +kernel
theorem d_X_wayTo_28 : decode b_X_wayTo 28 = .ok (.iload_n 1, 1) := by decide +kernel
theorem d_X_wayTo_29 : decode b_X_wayTo 29 = .ok (.if_icmp .ne 5, 3) := by decide +kernel
theorem d_X_wayTo_32 : decode b_X_wayTo 32 = .ok (.iload_n 2, 1) := by decide +kernel
theorem d_X_wayTo_33 : decode b_X_wayTo 33 = .ok (.ireturn, 1) := by decide +kernel
theorem d_X_wayTo_34 : decode b_X_wayTo 34 = .ok (.iinc 2 1, 3) := by decide +kernel
theorem d_X_wayTo_37 : decode b_X_wayTo 37 = .ok (.goto (-19), 3) := by decide +kernel
theorem d_X_wayTo_40 : decode b_X_wayTo 40 = .ok (.iconst (-1), 1) := by decide +kernel
theorem d_X_wayTo_41 : decode b_X_wayTo 41 = .ok (.ireturn, 1) := by decide +kernel
theorem d_X_beside_0 : decode b_X_beside 0 = .ok (.iload_n 0, 1) := by decide +kernel
theorem d_X_beside_1 : decode b_X_beside 1 = .ok (.ifCond .lt 9, 3) := by decide +kernel
theorem d_X_beside_4 : decode b_X_beside 4 = .ok (.iload_n 0, 1) := by decide +kernel
theorem d_X_beside_5 : decode b_X_beside 5 = .ok (.bipush 36, 2) := by decide +kernel
theorem d_X_beside_7 : decode b_X_beside 7 = .ok (.if_icmp .lt 5, 3) := by decide +kernel
theorem d_X_beside_10 : decode b_X_beside 10 = .ok (.iconst (-1), 1) := by decide +kernel
theorem d_X_beside_11 : decode b_X_beside 11 = .ok (.ireturn, 1) := by decide +kernel
theorem d_X_beside_12 : decode b_X_beside 12 = .ok (.iload_n 0, 1) := by decide +kernel
theorem d_X_beside_13 : decode b_X_beside 13 = .ok (.bipush 6, 2) := by decide +kernel
theorem d_X_beside_15 : decode b_X_beside 15 = .ok (.idiv, 1) := by decide +kernel
theorem d_X_beside_16 : decode b_X_beside 16 = .ok (.istore_n 2, 1) := by decide +kernel
theorem d_X_beside_17 : decode b_X_beside 17 = .ok (.iload_n 0, 1) := by decide +kernel
theorem d_X_beside_18 : decode b_X_beside 18 = .ok (.bipush 6, 2) := by decide +kernel
theorem d_X_beside_20 : decode b_X_beside 20 = .ok (.irem, 1) := by decide +kernel
theorem d_X_beside_21 : decode b_X_beside 21 = .ok (.istore_n 3, 1) := by decide +kernel
theorem d_X_beside_22 : decode b_X_beside 22 = .ok (.iload_n 1, 1) := by decide +kernel
theorem d_X_beside_23 : decode b_X_beside 23 = .ok (.tableswitch 81 0 3 #[29, 42, 55, 69], 29) := by decide +kernel
theorem d_X_beside_52 : decode b_X_beside 52 = .ok (.iload_n 2, 1) := by decide +kernel
theorem d_X_beside_53 : decode b_X_beside 53 = .ok (.ifCond .le 10, 3) := by decide +kernel
theorem d_X_beside_56 : decode b_X_beside 56 = .ok (.iload_n 0, 1) := by decide +kernel
theorem d_X_beside_57 : decode b_X_beside 57 = .ok (.bipush 6, 2) := by decide +kernel
theorem d_X_beside_59 : decode b_X_beside 59 = .ok (.isub, 1) := by decide +kernel
theorem d_X_beside_60 : decode b_X_beside 60 = .ok (.goto 4, 3) := by decide +kernel
theorem d_X_beside_63 : decode b_X_beside 63 = .ok (.iconst (-1), 1) := by decide +kernel
theorem d_X_beside_64 : decode b_X_beside 64 = .ok (.ireturn, 1) := by decide +kernel
theorem d_X_beside_65 : decode b_X_beside 65 = .ok (.iload_n 3, 1) := by decide +kernel
theorem d_X_beside_66 : decode b_X_beside 66 = .ok (.iconst 5, 1) := by decide +kernel
theorem d_X_beside_67 : decode b_X_beside 67 = .ok (.if_icmp .ge 9, 3) := by decide +kernel
theorem d_X_beside_70 : decode b_X_beside 70 = .ok (.iload_n 0, 1) := by decide +kernel
theorem d_X_beside_71 : decode b_X_beside 71 = .ok (.iconst 1, 1) := by decide +kernel
theorem d_X_beside_72 : decode b_X_beside 72 = .ok (.iadd, 1) := by decide +kernel
theorem d_X_beside_73 : decode b_X_beside 73 = .ok (.goto 4, 3) := by decide +kernel
theorem d_X_beside_76 : decode b_X_beside 76 = .ok (.iconst (-1), 1) := by decide +kernel
theorem d_X_beside_77 : decode b_X_beside 77 = .ok (.ireturn, 1) := by decide +kernel
theorem d_X_beside_78 : decode b_X_beside 78 = .ok (.iload_n 2, 1) := by decide +kernel
theorem d_X_beside_79 : decode b_X_beside 79 = .ok (.iconst 5, 1) := by decide +kernel
theorem d_X_beside_80 : decode b_X_beside 80 = .ok (.if_icmp .ge 10, 3) := by decide +kernel
theorem d_X_beside_83 : decode b_X_beside 83 = .ok (.iload_n 0, 1) := by decide +kernel
theorem d_X_beside_84 : decode b_X_beside 84 = .ok (.bipush 6, 2) := by decide +kernel
theorem d_X_beside_86 : decode b_X_beside 86 = .ok (.iadd, 1) := by decide +kernel
theorem d_X_beside_87 : decode b_X_beside 87 = .ok (.goto 4, 3) := by decide +kernel
theorem d_X_beside_90 : decode b_X_beside 90 = .ok (.iconst (-1), 1) := by decide +kernel
theorem d_X_beside_91 : decode b_X_beside 91 = .ok (.ireturn, 1) := by decide +kernel
theorem d_X_beside_92 : decode b_X_beside 92 = .ok (.iload_n 3, 1) := by decide +kernel
theorem d_X_beside_93 : decode b_X_beside 93 = .ok (.ifCond .le 9, 3) := by decide +kernel
theorem d_X_beside_96 : decode b_X_beside 96 = .ok (.iload_n 0, 1) := by decide +kernel
theorem d_X_beside_97 : decode b_X_beside 97 = .ok (.iconst 1, 1) := by decide +kernel
theorem d_X_beside_98 : decode b_X_beside 98 = .ok (.isub, 1) := by decide +kernel
theorem d_X_beside_99 : decode b_X_beside 99 = .ok (.goto 4, 3) := by decide +kernel
theorem d_X_beside_102 : decode b_X_beside 102 = .ok (.iconst (-1), 1) := by decide +kernel
theorem d_X_beside_103 : decode b_X_beside 103 = .ok (.ireturn, 1) := by decide +kernel
theorem d_X_beside_104 : decode b_X_beside 104 = .ok (.iconst (-1), 1) := by decide +kernel
theorem d_X_beside_105 : decode b_X_beside 105 = .ok (.ireturn, 1) := by decide +kernel
theorem d_Gr_isWalled_0 : decode b_Gr_isWalled 0 = .ok (.iload_n 1, 1) := by decide +kernel
theorem d_Gr_isWalled_1 : decode b_Gr_isWalled 1 = .ok (.ifCond .lt 27, 3) := by decide +kernel
theorem d_Gr_isWalled_4 : decode b_Gr_isWalled 4 = .ok (.iload_n 1, 1) := by decide +kernel
theorem d_Gr_isWalled_5 : decode b_Gr_isWalled 5 = .ok (.bipush 36, 2) := by decide +kernel
theorem d_Gr_isWalled_7 : decode b_Gr_isWalled 7 = .ok (.if_icmp .ge 21, 3) := by decide +kernel
theorem d_Gr_isWalled_10 : decode b_Gr_isWalled 10 = .ok (.aload_n 0, 1) := by decide +kernel
theorem d_Gr_isWalled_11 : decode b_Gr_isWalled 11 = .ok (.getfield 18, 3) := by decide +kernel
theorem d_Gr_isWalled_14 : decode b_Gr_isWalled 14 = .ok (.iload_n 1, 1) := by decide +kernel
theorem d_Gr_isWalled_15 : decode b_Gr_isWalled 15 = .ok (.iaload, 1) := by decide +kernel
theorem d_Gr_isWalled_16 : decode b_Gr_isWalled 16 = .ok (.iload_n 2, 1) := by decide +kernel
theorem d_Gr_isWalled_17 : decode b_Gr_isWalled 17 = .ok (.ishr, 1) := by decide +kernel
theorem d_Gr_isWalled_18 : decode b_Gr_isWalled 18 = .ok (.iconst 1, 1) := by decide +kernel
theorem d_Gr_isWalled_19 : decode b_Gr_isWalled 19 = .ok (.iand, 1) := by decide +kernel
theorem d_Gr_isWalled_20 : decode b_Gr_isWalled 20 = .ok (.iconst 1, 1) := by decide +kernel
theorem d_Gr_isWalled_21 : decode b_Gr_isWalled 21 = .ok (.if_icmp .ne 7, 3) := by decide +kernel
theorem d_Gr_isWalled_24 : decode b_Gr_isWalled 24 = .ok (.iconst 1, 1) := by decide +kernel
theorem d_Gr_isWalled_25 : decode b_Gr_isWalled 25 = .ok (.goto 4, 3) := by decide +kernel
theorem d_Gr_isWalled_28 : decode b_Gr_isWalled 28 = .ok (.iconst 0, 1) := by decide +kernel
theorem d_Gr_isWalled_29 : decode b_Gr_isWalled 29 = .ok (.ireturn, 1) := by decide +kernel
theorem d_Gr_putWall_0 : decode b_Gr_putWall 0 = .ok (.iload_n 1, 1) := by decide +kernel
theorem d_Gr_putWall_1 : decode b_Gr_putWall 1 = .ok (.iload_n 2, 1) := by decide +kernel
theorem d_Gr_putWall_2 : decode b_Gr_putWall 2 = .ok (.invokestatic 44, 3) := by decide +kernel
theorem d_Gr_putWall_5 : decode b_Gr_putWall 5 = .ok (.istore 4, 2) := by decide +kernel
theorem d_Gr_putWall_7 : decode b_Gr_putWall 7 = .ok (.iload 4, 2) := by decide +kernel
theorem d_Gr_putWall_9 : decode b_Gr_putWall 9 = .ok (.ifCond .ge 4, 3) := by decide +kernel
theorem d_Gr_putWall_12 : decode b_Gr_putWall 12 = .ok (.return_, 1) := by decide +kernel
theorem d_Gr_putWall_13 : decode b_Gr_putWall 13 = .ok (.iconst 1, 1) := by decide +kernel
theorem d_Gr_putWall_14 : decode b_Gr_putWall 14 = .ok (.iload_n 2, 1) := by decide +kernel
theorem d_Gr_putWall_15 : decode b_Gr_putWall 15 = .ok (.ishl, 1) := by decide +kernel
theorem d_Gr_putWall_16 : decode b_Gr_putWall 16 = .ok (.istore 5, 2) := by decide +kernel
theorem d_Gr_putWall_18 : decode b_Gr_putWall 18 = .ok (.iconst 1, 1) := by decide +kernel
theorem d_Gr_putWall_19 : decode b_Gr_putWall 19 = .ok (.iload_n 2, 1) := by decide +kernel
theorem d_Gr_putWall_20 : decode b_Gr_putWall 20 = .ok (.iconst 2, 1) := by decide +kernel
theorem d_Gr_putWall_21 : decode b_Gr_putWall 21 = .ok (.iadd, 1) := by decide +kernel
theorem d_Gr_putWall_22 : decode b_Gr_putWall 22 = .ok (.iconst 4, 1) := by decide +kernel
theorem d_Gr_putWall_23 : decode b_Gr_putWall 23 = .ok (.irem, 1) := by decide +kernel
theorem d_Gr_putWall_24 : decode b_Gr_putWall 24 = .ok (.ishl, 1) := by decide +kernel
theorem d_Gr_putWall_25 : decode b_Gr_putWall 25 = .ok (.istore 6, 2) := by decide +kernel
theorem d_Gr_putWall_27 : decode b_Gr_putWall 27 = .ok (.aload_n 0, 1) := by decide +kernel
theorem d_Gr_putWall_28 : decode b_Gr_putWall 28 = .ok (.getfield 18, 3) := by decide +kernel
theorem d_Gr_putWall_31 : decode b_Gr_putWall 31 = .ok (.iload_n 1, 1) := by decide +kernel
theorem d_Gr_putWall_32 : decode b_Gr_putWall 32 = .ok (.iload_n 3, 1) := by decide +kernel
theorem d_Gr_putWall_33 : decode b_Gr_putWall 33 = .ok (.ifCond .eq 15, 3) := by decide +kernel
theorem d_Gr_putWall_36 : decode b_Gr_putWall 36 = .ok (.aload_n 0, 1) := by decide +kernel
theorem d_Gr_putWall_37 : decode b_Gr_putWall 37 = .ok (.getfield 18, 3) := by decide +kernel
theorem d_Gr_putWall_40 : decode b_Gr_putWall 40 = .ok (.iload_n 1, 1) := by decide +kernel
theorem d_Gr_putWall_41 : decode b_Gr_putWall 41 = .ok (.iaload, 1) := by decide +kernel
theorem d_Gr_putWall_42 : decode b_Gr_putWall 42 = .ok (.iload 5, 2) := by decide +kernel
theorem d_Gr_putWall_44 : decode b_Gr_putWall 44 = .ok (.ior, 1) := by decide +kernel
theorem d_Gr_putWall_45 : decode b_Gr_putWall 45 = .ok (.goto 14, 3) := by decide +kernel
theorem d_Gr_putWall_48 : decode b_Gr_putWall 48 = .ok (.aload_n 0, 1) := by decide +kernel
theorem d_Gr_putWall_49 : decode b_Gr_putWall 49 = .ok (.getfield 18, 3) := by decide +kernel
theorem d_Gr_putWall_52 : decode b_Gr_putWall 52 = .ok (.iload_n 1, 1) := by decide +kernel
theorem d_Gr_putWall_53 : decode b_Gr_putWall 53 = .ok (.iaload, 1) := by decide +kernel
theorem d_Gr_putWall_54 : decode b_Gr_putWall 54 = .ok (.iload 5, 2) := by decide +kernel
theorem d_Gr_putWall_56 : decode b_Gr_putWall 56 = .ok (.iconst (-1), 1) := by decide +kernel
theorem d_Gr_putWall_57 : decode b_Gr_putWall 57 = .ok (.ixor, 1) := by decide +kernel
theorem d_Gr_putWall_58 : decode b_Gr_putWall 58 = .ok (.iand, 1) := by decide +kernel
theorem d_Gr_putWall_59 : decode b_Gr_putWall 59 = .ok (.iastore, 1) := by decide +kernel
theorem d_Gr_putWall_60 : decode b_Gr_putWall 60 = .ok (.aload_n 0, 1) := by decide +kernel
theorem d_Gr_putWall_61 : decode b_Gr_putWall 61 = .ok (.getfield 18, 3) := by decide +kernel
theorem d_Gr_putWall_64 : decode b_Gr_putWall 64 = .ok (.iload 4, 2) := by decide +kernel
theorem d_Gr_putWall_66 : decode b_Gr_putWall 66 = .ok (.iload_n 3, 1) := by decide +kernel
theorem d_Gr_putWall_67 : decode b_Gr_putWall 67 = .ok (.ifCond .eq 16, 3) := by decide +kernel
theorem d_Gr_putWall_70 : decode b_Gr_putWall 70 = .ok (.aload_n 0, 1) := by decide +kernel
theorem d_Gr_putWall_71 : decode b_Gr_putWall 71 = .ok (.getfield 18, 3) := by decide +kernel
theorem d_Gr_putWall_74 : decode b_Gr_putWall 74 = .ok (.iload 4, 2) := by decide +kernel
theorem d_Gr_putWall_76 : decode b_Gr_putWall 76 = .ok (.iaload, 1) := by decide +kernel
theorem d_Gr_putWall_77 : decode b_Gr_putWall 77 = .ok (.iload 6, 2) := by decide +kernel
theorem d_Gr_putWall_79 : decode b_Gr_putWall 79 = .ok (.ior, 1) := by decide +kernel
theorem d_Gr_putWall_80 : decode b_Gr_putWall 80 = .ok (.goto 15, 3) := by decide +kernel
theorem d_Gr_putWall_83 : decode b_Gr_putWall 83 = .ok (.aload_n 0, 1) := by decide +kernel
theorem d_Gr_putWall_84 : decode b_Gr_putWall 84 = .ok (.getfield 18, 3) := by decide +kernel
theorem d_Gr_putWall_87 : decode b_Gr_putWall 87 = .ok (.iload 4, 2) := by decide +kernel
theorem d_Gr_putWall_89 : decode b_Gr_putWall 89 = .ok (.iaload, 1) := by decide +kernel
theorem d_Gr_putWall_90 : decode b_Gr_putWall 90 = .ok (.iload 6, 2) := by decide +kernel
theorem d_Gr_putWall_92 : decode b_Gr_putWall 92 = .ok (.iconst (-1), 1) := by decide +kernel
theorem d_Gr_putWall_93 : decode b_Gr_putWall 93 = .ok (.ixor, 1) := by decide +kernel
theorem d_Gr_putWall_94 : decode b_Gr_putWall 94 = .ok (.iand, 1) := by decide +kernel
theorem d_Gr_putWall_95 : decode b_Gr_putWall 95 = .ok (.iastore, 1) := by decide +kernel
theorem d_Gr_putWall_96 : decode b_Gr_putWall 96 = .ok (.return_, 1) := by decide +kernel
theorem d_X_farm_0 : decode b_X_farm 0 = .ok (.iload_n 1, 1) := by decide +kernel
theorem d_X_farm_1 : decode b_X_farm 1 = .ok (.invokestatic 103, 3) := by decide +kernel
theorem d_X_farm_4 : decode b_X_farm 4 = .ok (.ifCond .eq 17, 3) := by decide +kernel
theorem d_X_farm_7 : decode b_X_farm 7 = .ok (.iload_n 2, 1) := by decide +kernel
theorem d_X_farm_8 : decode b_X_farm 8 = .ok (.invokestatic 51, 3) := by decide +kernel
theorem d_X_farm_11 : decode b_X_farm 11 = .ok (.ifCond .eq 10, 3) := by decide +kernel
theorem d_X_farm_14 : decode b_X_farm 14 = .ok (.iload_n 3, 1) := by decide +kernel
theorem d_X_farm_15 : decode b_X_farm 15 = .ok (.invokestatic 106, 3) := by decide +kernel
theorem d_X_farm_18 : decode b_X_farm 18 = .ok (.ifCond .ne 9, 3) := by decide +kernel
theorem d_X_farm_21 : decode b_X_farm 21 = .ok (.aload_n 0, 1) := by decide +kernel
theorem d_X_farm_22 : decode b_X_farm 22 = .ok (.iconst 0, 1) := by decide +kernel
theorem d_X_farm_23 : decode b_X_farm 23 = .ok (.invokevirtual 59, 3) := by decide +kernel
theorem d_X_farm_26 : decode b_X_farm 26 = .ok (.ireturn, 1) := by decide +kernel
theorem d_X_farm_27 : decode b_X_farm 27 = .ok (.aload_n 0, 1) := by decide +kernel
theorem d_X_farm_28 : decode b_X_farm 28 = .ok (.getfield 10, 3) := by decide +kernel
theorem d_X_farm_31 : decode b_X_farm 31 = .ok (.getfield 75, 3) := by decide +kernel
theorem d_X_farm_34 : decode b_X_farm 34 = .ok (.iload_n 2, 1) := by decide +kernel
theorem d_X_farm_35 : decode b_X_farm 35 = .ok (.invokevirtual 79, 3) := by decide +kernel
theorem d_X_farm_38 : decode b_X_farm 38 = .ok (.ifCond .lt 9, 3) := by decide +kernel
theorem d_X_farm_41 : decode b_X_farm 41 = .ok (.aload_n 0, 1) := by decide +kernel
theorem d_X_farm_42 : decode b_X_farm 42 = .ok (.iconst 4, 1) := by decide +kernel
theorem d_X_farm_43 : decode b_X_farm 43 = .ok (.invokevirtual 59, 3) := by decide +kernel
theorem d_X_farm_46 : decode b_X_farm 46 = .ok (.ireturn, 1) := by decide +kernel
theorem d_X_farm_47 : decode b_X_farm 47 = .ok (.aload_n 0, 1) := by decide +kernel
theorem d_X_farm_48 : decode b_X_farm 48 = .ok (.getfield 10, 3) := by decide +kernel
theorem d_X_farm_51 : decode b_X_farm 51 = .ok (.getfield 75, 3) := by decide +kernel
theorem d_X_farm_54 : decode b_X_farm 54 = .ok (.invokevirtual 109, 3) := by decide +kernel
theorem d_X_farm_57 : decode b_X_farm 57 = .ok (.ifCond .eq 9, 3) := by decide +kernel
theorem d_X_farm_60 : decode b_X_farm 60 = .ok (.aload_n 0, 1) := by decide +kernel
theorem d_X_farm_61 : decode b_X_farm 61 = .ok (.iconst 1, 1) := by decide +kernel
theorem d_X_farm_62 : decode b_X_farm 62 = .ok (.invokevirtual 59, 3) := by decide +kernel
theorem d_X_farm_65 : decode b_X_farm 65 = .ok (.ireturn, 1) := by decide +kernel
theorem d_X_farm_66 : decode b_X_farm 66 = .ok (.aload_n 0, 1) := by decide +kernel
theorem d_X_farm_67 : decode b_X_farm 67 = .ok (.getfield 10, 3) := by decide +kernel
theorem d_X_farm_70 : decode b_X_farm 70 = .ok (.getfield 75, 3) := by decide +kernel
theorem d_X_farm_73 : decode b_X_farm 73 = .ok (.iload_n 1, 1) := by decide +kernel
theorem d_X_farm_74 : decode b_X_farm 74 = .ok (.iload_n 2, 1) := by decide +kernel
theorem d_X_farm_75 : decode b_X_farm 75 = .ok (.iload_n 3, 1) := by decide +kernel
theorem d_X_farm_76 : decode b_X_farm 76 = .ok (.invokevirtual 113, 3) := by decide +kernel
theorem d_X_farm_79 : decode b_X_farm 79 = .ok (.ireturn, 1) := by decide +kernel
theorem d_X_isKind_0 : decode b_X_isKind 0 = .ok (.iload_n 0, 1) := by decide +kernel
theorem d_X_isKind_1 : decode b_X_isKind 1 = .ok (.iconst 0, 1) := by decide +kernel
theorem d_X_isKind_2 : decode b_X_isKind 2 = .ok (.iconst 5, 1) := by decide +kernel
theorem d_X_isKind_3 : decode b_X_isKind 3 = .ok (.invokestatic 55, 3) := by decide +kernel
theorem d_X_isKind_6 : decode b_X_isKind 6 = .ok (.ireturn, 1) := by decide +kernel
theorem d_X_isOwner_0 : decode b_X_isOwner 0 = .ok (.iload_n 0, 1) := by decide +kernel
theorem d_X_isOwner_1 : decode b_X_isOwner 1 = .ok (.iconst 0, 1) := by decide +kernel
theorem d_X_isOwner_2 : decode b_X_isOwner 2 = .ok (.iconst 5, 1) := by decide +kernel
theorem d_X_isOwner_3 : decode b_X_isOwner 3 = .ok (.invokestatic 55, 3) := by decide +kernel
theorem d_X_isOwner_6 : decode b_X_isOwner 6 = .ok (.ireturn, 1) := by decide +kernel
theorem d_Fa_isFull_0 : decode b_Fa_isFull 0 = .ok (.aload_n 0, 1) := by decide +kernel
theorem d_Fa_isFull_1 : decode b_Fa_isFull 1 = .ok (.getfield 24, 3) := by decide +kernel
theorem d_Fa_isFull_4 : decode b_Fa_isFull 4 = .ok (.bipush 12, 2) := by decide +kernel
theorem d_Fa_isFull_6 : decode b_Fa_isFull 6 = .ok (.if_icmp .lt 7, 3) := by decide +kernel
theorem d_Fa_isFull_9 : decode b_Fa_isFull 9 = .ok (.iconst 1, 1) := by decide +kernel
theorem d_Fa_isFull_10 : decode b_Fa_isFull 10 = .ok (.goto 4, 3) := by decide +kernel
theorem d_Fa_isFull_13 : decode b_Fa_isFull 13 = .ok (.iconst 0, 1) := by decide +kernel
theorem d_Fa_isFull_14 : decode b_Fa_isFull 14 = .ok (.ireturn, 1) := by decide +kernel
theorem d_Fa_add_0 : decode b_Fa_add 0 = .ok (.aload_n 0, 1) := by decide +kernel
theorem d_Fa_add_1 : decode b_Fa_add 1 = .ok (.invokevirtual 37, 3) := by decide +kernel
theorem d_Fa_add_4 : decode b_Fa_add 4 = .ok (.ifCond .eq 5, 3) := by decide +kernel
theorem d_Fa_add_7 : decode b_Fa_add 7 = .ok (.iconst (-1), 1) := by decide +kernel
theorem d_Fa_add_8 : decode b_Fa_add 8 = .ok (.ireturn, 1) := by decide +kernel
theorem d_Fa_add_9 : decode b_Fa_add 9 = .ok (.aload_n 0, 1) := by decide +kernel
theorem d_Fa_add_10 : decode b_Fa_add 10 = .ok (.getfield 9, 3) := by decide +kernel
theorem d_Fa_add_13 : decode b_Fa_add 13 = .ok (.aload_n 0, 1) := by decide +kernel
theorem d_Fa_add_14 : decode b_Fa_add 14 = .ok (.getfield 24, 3) := by decide +kernel
theorem d_Fa_add_17 : decode b_Fa_add 17 = .ok (.iload_n 1, 1) := by decide +kernel
theorem d_Fa_add_18 : decode b_Fa_add 18 = .ok (.iastore, 1) := by decide +kernel
theorem d_Fa_add_19 : decode b_Fa_add 19 = .ok (.aload_n 0, 1) := by decide +kernel
theorem d_Fa_add_20 : decode b_Fa_add 20 = .ok (.getfield 15, 3) := by decide +kernel
theorem d_Fa_add_23 : decode b_Fa_add 23 = .ok (.aload_n 0, 1) := by decide +kernel
theorem d_Fa_add_24 : decode b_Fa_add 24 = .ok (.getfield 24, 3) := by decide +kernel
theorem d_Fa_add_27 : decode b_Fa_add 27 = .ok (.iload_n 2, 1) := by decide +kernel
theorem d_Fa_add_28 : decode b_Fa_add 28 = .ok (.iastore, 1) := by decide +kernel
theorem d_Fa_add_29 : decode b_Fa_add 29 = .ok (.aload_n 0, 1) := by decide +kernel
theorem d_Fa_add_30 : decode b_Fa_add 30 = .ok (.getfield 18, 3) := by decide +kernel
theorem d_Fa_add_33 : decode b_Fa_add 33 = .ok (.aload_n 0, 1) := by decide +kernel
theorem d_Fa_add_34 : decode b_Fa_add 34 = .ok (.getfield 24, 3) := by decide +kernel
theorem d_Fa_add_37 : decode b_Fa_add 37 = .ok (.iload_n 3, 1) := by decide +kernel
theorem d_Fa_add_38 : decode b_Fa_add 38 = .ok (.iastore, 1) := by decide +kernel
theorem d_Fa_add_39 : decode b_Fa_add 39 = .ok (.aload_n 0, 1) := by decide +kernel
theorem d_Fa_add_40 : decode b_Fa_add 40 = .ok (.getfield 21, 3) := by decide +kernel
theorem d_Fa_add_43 : decode b_Fa_add 43 = .ok (.aload_n 0, 1) := by decide +kernel
theorem d_Fa_add_44 : decode b_Fa_add 44 = .ok (.getfield 24, 3) := by decide +kernel
theorem d_Fa_add_47 : decode b_Fa_add 47 = .ok (.iconst 0, 1) := by decide +kernel
theorem d_Fa_add_48 : decode b_Fa_add 48 = .ok (.iastore, 1) := by decide +kernel
theorem d_Fa_add_49 : decode b_Fa_add 49 = .ok (.aload_n 0, 1) := by decide +kernel
theorem d_Fa_add_50 : decode b_Fa_add 50 = .ok (.dup, 1) := by decide +kernel
theorem d_Fa_add_51 : decode b_Fa_add 51 = .ok (.getfield 24, 3) := by decide +kernel
theorem d_Fa_add_54 : decode b_Fa_add 54 = .ok (.iconst 1, 1) := by decide +kernel
theorem d_Fa_add_55 : decode b_Fa_add 55 = .ok (.iadd, 1) := by decide +kernel
theorem d_Fa_add_56 : decode b_Fa_add 56 = .ok (.putfield 24, 3) := by decide +kernel
theorem d_Fa_add_59 : decode b_Fa_add 59 = .ok (.aload_n 0, 1) := by decide +kernel
theorem d_Fa_add_60 : decode b_Fa_add 60 = .ok (.getfield 24, 3) := by decide +kernel
theorem d_Fa_add_63 : decode b_Fa_add 63 = .ok (.iconst 1, 1) := by decide +kernel
theorem d_Fa_add_64 : decode b_Fa_add 64 = .ok (.isub, 1) := by decide +kernel
theorem d_Fa_add_65 : decode b_Fa_add 65 = .ok (.ireturn, 1) := by decide +kernel
theorem d_X_of_0 : decode b_X_of 0 = .ok (.aload_n 0, 1) := by decide +kernel
theorem d_X_of_1 : decode b_X_of 1 = .ok (.getfield 10, 3) := by decide +kernel
theorem d_X_of_4 : decode b_X_of 4 = .ok (.getfield 75, 3) := by decide +kernel
theorem d_X_of_7 : decode b_X_of 7 = .ok (.iload_n 1, 1) := by decide +kernel
theorem d_X_of_8 : decode b_X_of 8 = .ok (.invokevirtual 117, 3) := by decide +kernel
theorem d_X_of_11 : decode b_X_of 11 = .ok (.ifCond .ne 9, 3) := by decide +kernel
theorem d_X_of_14 : decode b_X_of 14 = .ok (.aload_n 0, 1) := by decide +kernel
theorem d_X_of_15 : decode b_X_of 15 = .ok (.iconst 0, 1) := by decide +kernel
theorem d_X_of_16 : decode b_X_of 16 = .ok (.invokevirtual 59, 3) := by decide +kernel
theorem d_X_of_19 : decode b_X_of 19 = .ok (.ireturn, 1) := by decide +kernel
theorem d_X_of_20 : decode b_X_of 20 = .ok (.iload_n 2, 1) := by decide +kernel
theorem d_X_of_21 : decode b_X_of 21 = .ok (.tableswitch 130 0 5 #[39, 52, 65, 78, 91, 111], 39) := by decide +kernel
theorem d_X_of_60 : decode b_X_of 60 = .ok (.aload_n 0, 1) := by decide +kernel
theorem d_X_of_61 : decode b_X_of 61 = .ok (.getfield 10, 3) := by decide +kernel
theorem d_X_of_64 : decode b_X_of 64 = .ok (.getfield 75, 3) := by decide +kernel
theorem d_X_of_67 : decode b_X_of 67 = .ok (.getfield 120, 3) := by decide +kernel
theorem d_X_of_70 : decode b_X_of 70 = .ok (.iload_n 1, 1) := by decide +kernel
theorem d_X_of_71 : decode b_X_of 71 = .ok (.iaload, 1) := by decide +kernel
theorem d_X_of_72 : decode b_X_of 72 = .ok (.ireturn, 1) := by decide +kernel
theorem d_X_of_73 : decode b_X_of 73 = .ok (.aload_n 0, 1) := by decide +kernel
theorem d_X_of_74 : decode b_X_of 74 = .ok (.getfield 10, 3) := by decide +kernel
theorem d_X_of_77 : decode b_X_of 77 = .ok (.getfield 75, 3) := by decide +kernel
theorem d_X_of_80 : decode b_X_of 80 = .ok (.getfield 123, 3) := by decide +kernel
theorem d_X_of_83 : decode b_X_of 83 = .ok (.iload_n 1, 1) := by decide +kernel
theorem d_X_of_84 : decode b_X_of 84 = .ok (.iaload, 1) := by decide +kernel
theorem d_X_of_85 : decode b_X_of 85 = .ok (.ireturn, 1) := by decide +kernel
theorem d_X_of_86 : decode b_X_of 86 = .ok (.aload_n 0, 1) := by decide +kernel
theorem d_X_of_87 : decode b_X_of 87 = .ok (.getfield 10, 3) := by decide +kernel
theorem d_X_of_90 : decode b_X_of 90 = .ok (.getfield 75, 3) := by decide +kernel
theorem d_X_of_93 : decode b_X_of 93 = .ok (.getfield 126, 3) := by decide +kernel
theorem d_X_of_96 : decode b_X_of 96 = .ok (.iload_n 1, 1) := by decide +kernel
theorem d_X_of_97 : decode b_X_of 97 = .ok (.iaload, 1) := by decide +kernel
theorem d_X_of_98 : decode b_X_of 98 = .ok (.ireturn, 1) := by decide +kernel
theorem d_X_of_99 : decode b_X_of 99 = .ok (.aload_n 0, 1) := by decide +kernel
theorem d_X_of_100 : decode b_X_of 100 = .ok (.getfield 10, 3) := by decide +kernel
theorem d_X_of_103 : decode b_X_of 103 = .ok (.getfield 75, 3) := by decide +kernel
theorem d_X_of_106 : decode b_X_of 106 = .ok (.getfield 129, 3) := by decide +kernel
theorem d_X_of_109 : decode b_X_of 109 = .ok (.iload_n 1, 1) := by decide +kernel
theorem d_X_of_110 : decode b_X_of 110 = .ok (.iaload, 1) := by decide +kernel
theorem d_X_of_111 : decode b_X_of 111 = .ok (.ireturn, 1) := by decide +kernel
theorem d_X_of_112 : decode b_X_of 112 = .ok (.aload_n 0, 1) := by decide +kernel
theorem d_X_of_113 : decode b_X_of 113 = .ok (.getfield 10, 3) := by decide +kernel
theorem d_X_of_116 : decode b_X_of 116 = .ok (.getfield 75, 3) := by decide +kernel
theorem d_X_of_119 : decode b_X_of 119 = .ok (.iload_n 1, 1) := by decide +kernel
theorem d_X_of_120 : decode b_X_of 120 = .ok (.invokevirtual 132, 3) := by decide +kernel
theorem d_X_of_123 : decode b_X_of 123 = .ok (.ifCond .eq 7, 3) := by decide +kernel
theorem d_X_of_126 : decode b_X_of 126 = .ok (.iconst 1, 1) := by decide +kernel
theorem d_X_of_127 : decode b_X_of 127 = .ok (.goto 4, 3) := by decide +kernel
theorem d_X_of_130 : decode b_X_of 130 = .ok (.iconst 0, 1) := by decide +kernel
theorem d_X_of_131 : decode b_X_of 131 = .ok (.ireturn, 1) := by decide +kernel
theorem d_X_of_132 : decode b_X_of 132 = .ok (.aload_n 0, 1) := by decide +kernel
theorem d_X_of_133 : decode b_X_of 133 = .ok (.getfield 10, 3) := by decide +kernel
theorem d_X_of_136 : decode b_X_of 136 = .ok (.getfield 75, 3) := by decide +kernel
theorem d_X_of_139 : decode b_X_of 139 = .ok (.iload_n 1, 1) := by decide +kernel
theorem d_X_of_140 : decode b_X_of 140 = .ok (.aload_n 0, 1) := by decide +kernel
theorem d_X_of_141 : decode b_X_of 141 = .ok (.getfield 10, 3) := by decide +kernel
theorem d_X_of_144 : decode b_X_of 144 = .ok (.getfield 63, 3) := by decide +kernel
theorem d_X_of_147 : decode b_X_of 147 = .ok (.invokevirtual 135, 3) := by decide +kernel
theorem d_X_of_150 : decode b_X_of 150 = .ok (.ireturn, 1) := by decide +kernel
theorem d_X_of_151 : decode b_X_of 151 = .ok (.aload_n 0, 1) := by decide +kernel
theorem d_X_of_152 : decode b_X_of 152 = .ok (.iconst 0, 1) := by decide +kernel
theorem d_X_of_153 : decode b_X_of 153 = .ok (.invokevirtual 59, 3) := by decide +kernel
theorem d_X_of_156 : decode b_X_of 156 = .ok (.ireturn, 1) := by decide +kernel
theorem d_Fa_has_0 : decode b_Fa_has 0 = .ok (.iload_n 1, 1) := by decide +kernel
theorem d_Fa_has_1 : decode b_Fa_has 1 = .ok (.ifCond .lt 15, 3) := by decide +kernel
theorem d_Fa_has_4 : decode b_Fa_has 4 = .ok (.iload_n 1, 1) := by decide +kernel
theorem d_Fa_has_5 : decode b_Fa_has 5 = .ok (.aload_n 0, 1) := by decide +kernel
theorem d_Fa_has_6 : decode b_Fa_has 6 = .ok (.getfield 24, 3) := by decide +kernel
theorem d_Fa_has_9 : decode b_Fa_has 9 = .ok (.if_icmp .ge 7, 3) := by decide +kernel
theorem d_Fa_has_12 : decode b_Fa_has 12 = .ok (.iconst 1, 1) := by decide +kernel
theorem d_Fa_has_13 : decode b_Fa_has 13 = .ok (.goto 4, 3) := by decide +kernel
theorem d_Fa_has_16 : decode b_Fa_has 16 = .ok (.iconst 0, 1) := by decide +kernel
theorem d_Fa_has_17 : decode b_Fa_has 17 = .ok (.ireturn, 1) := by decide +kernel
theorem d_Fa_isBurnt_0 : decode b_Fa_isBurnt 0 = .ok (.aload_n 0, 1) := by decide +kernel
theorem d_Fa_isBurnt_1 : decode b_Fa_isBurnt 1 = .ok (.getfield 28, 3) := by decide +kernel
theorem d_Fa_isBurnt_4 : decode b_Fa_isBurnt 4 = .ok (.iload_n 1, 1) := by decide +kernel
theorem d_Fa_isBurnt_5 : decode b_Fa_isBurnt 5 = .ok (.ishr, 1) := by decide +kernel
theorem d_Fa_isBurnt_6 : decode b_Fa_isBurnt 6 = .ok (.iconst 1, 1) := by decide +kernel
theorem d_Fa_isBurnt_7 : decode b_Fa_isBurnt 7 = .ok (.iand, 1) := by decide +kernel
theorem d_Fa_isBurnt_8 : decode b_Fa_isBurnt 8 = .ok (.iconst 1, 1) := by decide +kernel
theorem d_Fa_isBurnt_9 : decode b_Fa_isBurnt 9 = .ok (.if_icmp .ne 7, 3) := by decide +kernel
theorem d_Fa_isBurnt_12 : decode b_Fa_isBurnt 12 = .ok (.iconst 1, 1) := by decide +kernel
theorem d_Fa_isBurnt_13 : decode b_Fa_isBurnt 13 = .ok (.goto 4, 3) := by decide +kernel
theorem d_Fa_isBurnt_16 : decode b_Fa_isBurnt 16 = .ok (.iconst 0, 1) := by decide +kernel
theorem d_Fa_isBurnt_17 : decode b_Fa_isBurnt 17 = .ok (.ireturn, 1) := by decide +kernel
theorem d_Fa_bearsOn_0 : decode b_Fa_bearsOn 0 = .ok (.aload_n 0, 1) := by decide +kernel
theorem d_Fa_bearsOn_1 : decode b_Fa_bearsOn 1 = .ok (.iload_n 1, 1) := by decide +kernel
theorem d_Fa_bearsOn_2 : decode b_Fa_bearsOn 2 = .ok (.invokevirtual 41, 3) := by decide +kernel
theorem d_Fa_bearsOn_5 : decode b_Fa_bearsOn 5 = .ok (.ifCond .eq 7, 3) := by decide +kernel
theorem d_Fa_bearsOn_8 : decode b_Fa_bearsOn 8 = .ok (.iconst 0, 1) := by decide +kernel
theorem d_Fa_bearsOn_9 : decode b_Fa_bearsOn 9 = .ok (.goto 27, 3) := by decide +kernel
theorem d_Fa_bearsOn_12 : decode b_Fa_bearsOn 12 = .ok (.aload_n 0, 1) := by decide +kernel
theorem d_Fa_bearsOn_13 : decode b_Fa_bearsOn 13 = .ok (.getfield 9, 3) := by decide +kernel
theorem d_Fa_bearsOn_16 : decode b_Fa_bearsOn 16 = .ok (.iload_n 1, 1) := by decide +kernel
theorem d_Fa_bearsOn_17 : decode b_Fa_bearsOn 17 = .ok (.iaload, 1) := by decide +kernel
theorem d_Fa_bearsOn_18 : decode b_Fa_bearsOn 18 = .ok (.aload_n 2, 1) := by decide +kernel
theorem d_Fa_bearsOn_19 : decode b_Fa_bearsOn 19 = .ok (.getfield 45, 3) := by decide +kernel
theorem d_Fa_bearsOn_22 : decode b_Fa_bearsOn 22 = .ok (.aload_n 0, 1) := by decide +kernel
theorem d_Fa_bearsOn_23 : decode b_Fa_bearsOn 23 = .ok (.getfield 15, 3) := by decide +kernel
theorem d_Fa_bearsOn_26 : decode b_Fa_bearsOn 26 = .ok (.iload_n 1, 1) := by decide +kernel
theorem d_Fa_bearsOn_27 : decode b_Fa_bearsOn 27 = .ok (.iaload, 1) := by decide +kernel
theorem d_Fa_bearsOn_28 : decode b_Fa_bearsOn 28 = .ok (.iaload, 1) := by decide +kernel
theorem d_Fa_bearsOn_29 : decode b_Fa_bearsOn 29 = .ok (.aload_n 2, 1) := by decide +kernel
theorem d_Fa_bearsOn_30 : decode b_Fa_bearsOn 30 = .ok (.getfield 50, 3) := by decide +kernel
theorem d_Fa_bearsOn_33 : decode b_Fa_bearsOn 33 = .ok (.invokestatic 53, 3) := by decide +kernel
theorem d_Fa_bearsOn_36 : decode b_Fa_bearsOn 36 = .ok (.ireturn, 1) := by decide +kernel
theorem d_X_bearing_0 : decode b_X_bearing 0 = .ok (.iload_n 1, 1) := by decide +kernel
theorem d_X_bearing_1 : decode b_X_bearing 1 = .ok (.iconst 5, 1) := by decide +kernel
theorem d_X_bearing_2 : decode b_X_bearing 2 = .ok (.if_icmp .lt 8, 3) := by decide +kernel
theorem d_X_bearing_5 : decode b_X_bearing 5 = .ok (.bipush 10, 2) := by decide +kernel
theorem d_X_bearing_7 : decode b_X_bearing 7 = .ok (.goto 4, 3) := by decide +kernel
theorem d_X_bearing_10 : decode b_X_bearing 10 = .ok (.iconst 0, 1) := by decide +kernel
theorem d_X_bearing_11 : decode b_X_bearing 11 = .ok (.istore_n 3, 1) := by decide +kernel
theorem d_X_bearing_12 : decode b_X_bearing 12 = .ok (.iload_n 2, 1) := by decide +kernel
theorem d_X_bearing_13 : decode b_X_bearing 13 = .ok (.bipush 10, 2) := by decide +kernel
theorem d_X_bearing_15 : decode b_X_bearing 15 = .ok (.if_icmp .ge 12, 3) := by decide +kernel
theorem d_X_bearing_18 : decode b_X_bearing 18 = .ok (.iconst 2, 1) := by decide +kernel
theorem d_X_bearing_19 : decode b_X_bearing 19 = .ok (.bipush 10, 2) := by decide +kernel
theorem d_X_bearing_21 : decode b_X_bearing 21 = .ok (.iload_n 2, 1) := by decide +kernel
theorem d_X_bearing_22 : decode b_X_bearing 22 = .ok (.isub, 1) := by decide +kernel
theorem d_X_bearing_23 : decode b_X_bearing 23 = .ok (.imul, 1) := by decide +kernel
theorem d_X_bearing_24 : decode b_X_bearing 24 = .ok (.goto 4, 3) := by decide +kernel
theorem d_X_bearing_27 : decode b_X_bearing 27 = .ok (.iconst 0, 1) := by decide +kernel
theorem d_X_bearing_28 : decode b_X_bearing 28 = .ok (.istore 4, 2) := by decide +kernel
theorem d_X_bearing_30 : decode b_X_bearing 30 = .ok (.bipush 25, 2) := by decide +kernel
theorem d_X_bearing_32 : decode b_X_bearing 32 = .ok (.iload_n 1, 1) := by decide +kernel
theorem d_X_bearing_33 : decode b_X_bearing 33 = .ok (.iconst 2, 1) := by decide +kernel
theorem d_X_bearing_34 : decode b_X_bearing 34 = .ok (.idiv, 1) := by decide +kernel
theorem d_X_bearing_35 : decode b_X_bearing 35 = .ok (.invokestatic 154, 3) := by decide +kernel
theorem d_X_bearing_38 : decode b_X_bearing 38 = .ok (.istore 5, 2) := by decide +kernel
theorem d_X_bearing_40 : decode b_X_bearing 40 = .ok (.iload_n 0, 1) := by decide +kernel
theorem d_X_bearing_41 : decode b_X_bearing 41 = .ok (.tableswitch 73 1 5 #[35, 40, 45, 52, 55], 35) := by decide +kernel
theorem d_X_bearing_76 : decode b_X_bearing 76 = .ok (.iload_n 3, 1) := by decide +kernel
theorem d_X_bearing_77 : decode b_X_bearing 77 = .ok (.iload 4, 2) := by decide +kernel
theorem d_X_bearing_79 : decode b_X_bearing 79 = .ok (.iadd, 1) := by decide +kernel
theorem d_X_bearing_80 : decode b_X_bearing 80 = .ok (.ireturn, 1) := by decide +kernel
theorem d_X_bearing_81 : decode b_X_bearing 81 = .ok (.iload_n 3, 1) := by decide +kernel
theorem d_X_bearing_82 : decode b_X_bearing 82 = .ok (.iload 5, 2) := by decide +kernel
theorem d_X_bearing_84 : decode b_X_bearing 84 = .ok (.iadd, 1) := by decide +kernel
theorem d_X_bearing_85 : decode b_X_bearing 85 = .ok (.ireturn, 1) := by decide +kernel
theorem d_X_bearing_86 : decode b_X_bearing 86 = .ok (.iload_n 3, 1) := by decide +kernel
theorem d_X_bearing_87 : decode b_X_bearing 87 = .ok (.iload 4, 2) := by decide +kernel
theorem d_X_bearing_89 : decode b_X_bearing 89 = .ok (.iadd, 1) := by decide +kernel
theorem d_X_bearing_90 : decode b_X_bearing 90 = .ok (.iconst 3, 1) := by decide +kernel
theorem d_X_bearing_91 : decode b_X_bearing 91 = .ok (.iadd, 1) := by decide +kernel
theorem d_X_bearing_92 : decode b_X_bearing 92 = .ok (.ireturn, 1) := by decide +kernel
theorem d_X_bearing_93 : decode b_X_bearing 93 = .ok (.bipush 6, 2) := by decide +kernel
theorem d_X_bearing_95 : decode b_X_bearing 95 = .ok (.ireturn, 1) := by decide +kernel
theorem d_X_bearing_96 : decode b_X_bearing 96 = .ok (.iload_n 3, 1) := by decide +kernel
theorem d_X_bearing_97 : decode b_X_bearing 97 = .ok (.iload 5, 2) := by decide +kernel
theorem d_X_bearing_99 : decode b_X_bearing 99 = .ok (.iadd, 1) := by decide +kernel
theorem d_X_bearing_100 : decode b_X_bearing 100 = .ok (.iload_n 1, 1) := by decide +kernel
theorem d_X_bearing_101 : decode b_X_bearing 101 = .ok (.bipush 50, 2) := by decide +kernel
theorem d_X_bearing_103 : decode b_X_bearing 103 = .ok (.if_icmp .lt 8, 3) := by decide +kernel
theorem d_X_bearing_106 : decode b_X_bearing 106 = .ok (.bipush 10, 2) := by decide +kernel
theorem d_X_bearing_108 : decode b_X_bearing 108 = .ok (.goto 4, 3) := by decide +kernel
theorem d_X_bearing_111 : decode b_X_bearing 111 = .ok (.iconst 0, 1) := by decide +kernel
theorem d_X_bearing_112 : decode b_X_bearing 112 = .ok (.iadd, 1) := by decide +kernel
theorem d_X_bearing_113 : decode b_X_bearing 113 = .ok (.ireturn, 1) := by decide +kernel
theorem d_X_bearing_114 : decode b_X_bearing 114 = .ok (.iload_n 3, 1) := by decide +kernel
theorem d_X_bearing_115 : decode b_X_bearing 115 = .ok (.ireturn, 1) := by decide +kernel
theorem d_Ma_min_0 : decode b_Ma_min 0 = .ok (.iload_n 0, 1) := by decide +kernel
theorem d_Ma_min_1 : decode b_Ma_min 1 = .ok (.iload_n 1, 1) := by decide +kernel
theorem d_Ma_min_2 : decode b_Ma_min 2 = .ok (.if_icmp .gt 7, 3) := by decide +kernel
theorem d_Ma_min_5 : decode b_Ma_min 5 = .ok (.iload_n 0, 1) := by decide +kernel
theorem d_Ma_min_6 : decode b_Ma_min 6 = .ok (.goto 4, 3) := by decide +kernel
theorem d_Ma_min_9 : decode b_Ma_min 9 = .ok (.iload_n 1, 1) := by decide +kernel
theorem d_Ma_min_10 : decode b_Ma_min 10 = .ok (.ireturn, 1) := by decide +kernel
theorem d_X_sow_0 : decode b_X_sow 0 = .ok (.aload_n 0, 1) := by decide +kernel
theorem d_X_sow_1 : decode b_X_sow 1 = .ok (.getfield 10, 3) := by decide +kernel
theorem d_X_sow_4 : decode b_X_sow 4 = .ok (.getfield 75, 3) := by decide +kernel
theorem d_X_sow_7 : decode b_X_sow 7 = .ok (.iload_n 1, 1) := by decide +kernel
theorem d_X_sow_8 : decode b_X_sow 8 = .ok (.invokevirtual 117, 3) := by decide +kernel
theorem d_X_sow_11 : decode b_X_sow 11 = .ok (.ifCond .eq 10, 3) := by decide +kernel
theorem d_X_sow_14 : decode b_X_sow 14 = .ok (.iload_n 2, 1) := by decide +kernel
theorem d_X_sow_15 : decode b_X_sow 15 = .ok (.invokestatic 103, 3) := by decide +kernel
theorem d_X_sow_18 : decode b_X_sow 18 = .ok (.ifCond .ne 9, 3) := by decide +kernel
theorem d_X_sow_21 : decode b_X_sow 21 = .ok (.aload_n 0, 1) := by decide +kernel
theorem d_X_sow_22 : decode b_X_sow 22 = .ok (.iconst 0, 1) := by decide +kernel
theorem d_X_sow_23 : decode b_X_sow 23 = .ok (.invokevirtual 59, 3) := by decide +kernel
theorem d_X_sow_26 : decode b_X_sow 26 = .ok (.ireturn, 1) := by decide +kernel
theorem d_X_sow_27 : decode b_X_sow 27 = .ok (.aload_n 0, 1) := by decide +kernel
theorem d_X_sow_28 : decode b_X_sow 28 = .ok (.getfield 10, 3) := by decide +kernel
theorem d_X_sow_31 : decode b_X_sow 31 = .ok (.getfield 75, 3) := by decide +kernel
theorem d_X_sow_34 : decode b_X_sow 34 = .ok (.getfield 120, 3) := by decide +kernel
theorem d_X_sow_37 : decode b_X_sow 37 = .ok (.iload_n 1, 1) := by decide +kernel
theorem d_X_sow_38 : decode b_X_sow 38 = .ok (.iaload, 1) := by decide +kernel
theorem d_X_sow_39 : decode b_X_sow 39 = .ok (.istore_n 3, 1) := by decide +kernel
theorem d_X_sow_40 : decode b_X_sow 40 = .ok (.aload_n 0, 1) := by decide +kernel
theorem d_X_sow_41 : decode b_X_sow 41 = .ok (.getfield 10, 3) := by decide +kernel
theorem d_X_sow_44 : decode b_X_sow 44 = .ok (.getfield 75, 3) := by decide +kernel
theorem d_X_sow_47 : decode b_X_sow 47 = .ok (.getfield 120, 3) := by decide +kernel
theorem d_X_sow_50 : decode b_X_sow 50 = .ok (.iload_n 1, 1) := by decide +kernel
theorem d_X_sow_51 : decode b_X_sow 51 = .ok (.iload_n 2, 1) := by decide +kernel
theorem d_X_sow_52 : decode b_X_sow 52 = .ok (.iastore, 1) := by decide +kernel
theorem d_X_sow_53 : decode b_X_sow 53 = .ok (.iload_n 3, 1) := by decide +kernel
theorem d_X_sow_54 : decode b_X_sow 54 = .ok (.ireturn, 1) := by decide +kernel
theorem d_X_as_0 : decode b_X_as 0 = .ok (.aload_n 0, 1) := by decide +kernel
theorem d_X_as_1 : decode b_X_as 1 = .ok (.getfield 10, 3) := by decide +kernel
theorem d_X_as_4 : decode b_X_as 4 = .ok (.getfield 75, 3) := by decide +kernel
theorem d_X_as_7 : decode b_X_as 7 = .ok (.iload_n 1, 1) := by decide +kernel
theorem d_X_as_8 : decode b_X_as 8 = .ok (.invokevirtual 117, 3) := by decide +kernel
theorem d_X_as_11 : decode b_X_as 11 = .ok (.ifCond .eq 10, 3) := by decide +kernel
theorem d_X_as_14 : decode b_X_as 14 = .ok (.iload_n 2, 1) := by decide +kernel
theorem d_X_as_15 : decode b_X_as 15 = .ok (.invokestatic 103, 3) := by decide +kernel
theorem d_X_as_18 : decode b_X_as 18 = .ok (.ifCond .ne 9, 3) := by decide +kernel
theorem d_X_as_21 : decode b_X_as 21 = .ok (.aload_n 0, 1) := by decide +kernel
theorem d_X_as_22 : decode b_X_as 22 = .ok (.iconst 0, 1) := by decide +kernel
theorem d_X_as_23 : decode b_X_as 23 = .ok (.invokevirtual 59, 3) := by decide +kernel
theorem d_X_as_26 : decode b_X_as 26 = .ok (.ireturn, 1) := by decide +kernel
theorem d_X_as_27 : decode b_X_as 27 = .ok (.aload_n 0, 1) := by decide +kernel
theorem d_X_as_28 : decode b_X_as 28 = .ok (.getfield 10, 3) := by decide +kernel
theorem d_X_as_31 : decode b_X_as 31 = .ok (.getfield 75, 3) := by decide +kernel
theorem d_X_as_34 : decode b_X_as 34 = .ok (.getfield 120, 3) := by decide +kernel
theorem d_X_as_37 : decode b_X_as 37 = .ok (.iload_n 1, 1) := by decide +kernel
theorem d_X_as_38 : decode b_X_as 38 = .ok (.iaload, 1) := by decide +kernel
theorem d_X_as_39 : decode b_X_as 39 = .ok (.iload_n 2, 1) := by decide +kernel
theorem d_X_as_40 : decode b_X_as 40 = .ok (.invokestatic 139, 3) := by decide +kernel
theorem d_X_as_43 : decode b_X_as 43 = .ok (.ifCond .ne 9, 3) := by decide +kernel
theorem d_X_as_46 : decode b_X_as 46 = .ok (.aload_n 0, 1) := by decide +kernel
theorem d_X_as_47 : decode b_X_as 47 = .ok (.iconst 2, 1) := by decide +kernel
theorem d_X_as_48 : decode b_X_as 48 = .ok (.invokevirtual 59, 3) := by decide +kernel
theorem d_X_as_51 : decode b_X_as 51 = .ok (.ireturn, 1) := by decide +kernel
theorem d_X_as_52 : decode b_X_as 52 = .ok (.aload_n 0, 1) := by decide +kernel
theorem d_X_as_53 : decode b_X_as 53 = .ok (.getfield 10, 3) := by decide +kernel
theorem d_X_as_56 : decode b_X_as 56 = .ok (.getfield 75, 3) := by decide +kernel
theorem d_X_as_59 : decode b_X_as 59 = .ok (.getfield 123, 3) := by decide +kernel
theorem d_X_as_62 : decode b_X_as 62 = .ok (.iload_n 1, 1) := by decide +kernel
theorem d_X_as_63 : decode b_X_as 63 = .ok (.iaload, 1) := by decide +kernel
theorem d_X_as_64 : decode b_X_as 64 = .ok (.ireturn, 1) := by decide +kernel
theorem d_X_isOfKind_0 : decode b_X_isOfKind 0 = .ok (.iload_n 0, 1) := by decide +kernel
theorem d_X_isOfKind_1 : decode b_X_isOfKind 1 = .ok (.istore_n 2, 1) := by decide +kernel
theorem d_X_isOfKind_2 : decode b_X_isOfKind 2 = .ok (.iconst 0, 1) := by decide +kernel
theorem d_X_isOfKind_3 : decode b_X_isOfKind 3 = .ok (.istore_n 3, 1) := by decide +kernel
theorem d_X_isOfKind_4 : decode b_X_isOfKind 4 = .ok (.iload_n 3, 1) := by decide +kernel
theorem d_X_isOfKind_5 : decode b_X_isOfKind 5 = .ok (.bipush 6, 2) := by decide +kernel
theorem d_X_isOfKind_7 : decode b_X_isOfKind 7 = .ok (.if_icmp .ge 31, 3) := by decide +kernel
theorem d_X_isOfKind_10 : decode b_X_isOfKind 10 = .ok (.iload_n 2, 1) := by decide +kernel
theorem d_X_isOfKind_11 : decode b_X_isOfKind 11 = .ok (.iload_n 1, 1) := by decide +kernel
theorem d_X_isOfKind_12 : decode b_X_isOfKind 12 = .ok (.if_icmp .ne 5, 3) := by decide +kernel
theorem d_X_isOfKind_15 : decode b_X_isOfKind 15 = .ok (.iconst 1, 1) := by decide +kernel
theorem d_X_isOfKind_16 : decode b_X_isOfKind 16 = .ok (.ireturn, 1) := by decide +kernel
theorem d_X_isOfKind_17 : decode b_X_isOfKind 17 = .ok (.iload_n 2, 1) := by decide +kernel
theorem d_X_isOfKind_18 : decode b_X_isOfKind 18 = .ok (.invokestatic 103, 3) := by decide +kernel
theorem d_X_isOfKind_21 : decode b_X_isOfKind 21 = .ok (.ifCond .ne 5, 3) := by decide +kernel
theorem d_X_isOfKind_24 : decode b_X_isOfKind 24 = .ok (.iconst 0, 1) := by decide +kernel
theorem d_X_isOfKind_25 : decode b_X_isOfKind 25 = .ok (.ireturn, 1) := by decide +kernel
theorem d_X_isOfKind_26 : decode b_X_isOfKind 26 = .ok (.getstatic 340, 3) := by decide +kernel
theorem d_X_isOfKind_29 : decode b_X_isOfKind 29 = .ok (.iload_n 2, 1) := by decide +kernel
theorem d_X_isOfKind_30 : decode b_X_isOfKind 30 = .ok (.iaload, 1) := by decide +kernel
theorem d_X_isOfKind_31 : decode b_X_isOfKind 31 = .ok (.istore_n 2, 1) := by decide +kernel
theorem d_X_isOfKind_32 : decode b_X_isOfKind 32 = .ok (.iinc 3 1, 3) := by decide +kernel
theorem d_X_isOfKind_35 : decode b_X_isOfKind 35 = .ok (.goto (-31), 3) := by decide +kernel
theorem d_X_isOfKind_38 : decode b_X_isOfKind 38 = .ok (.iconst 0, 1) := by decide +kernel
theorem d_X_isOfKind_39 : decode b_X_isOfKind 39 = .ok (.ireturn, 1) := by decide +kernel
theorem d_X_build_0 : decode b_X_build 0 = .ok (.aload_n 0, 1) := by decide +kernel
theorem d_X_build_1 : decode b_X_build 1 = .ok (.getfield 10, 3) := by decide +kernel
theorem d_X_build_4 : decode b_X_build 4 = .ok (.getfield 75, 3) := by decide +kernel
theorem d_X_build_7 : decode b_X_build 7 = .ok (.iload_n 1, 1) := by decide +kernel
theorem d_X_build_8 : decode b_X_build 8 = .ok (.invokevirtual 117, 3) := by decide +kernel
theorem d_X_build_11 : decode b_X_build 11 = .ok (.ifCond .ne 9, 3) := by decide +kernel
theorem d_X_build_14 : decode b_X_build 14 = .ok (.aload_n 0, 1) := by decide +kernel
theorem d_X_build_15 : decode b_X_build 15 = .ok (.iconst 0, 1) := by decide +kernel
theorem d_X_build_16 : decode b_X_build 16 = .ok (.invokevirtual 59, 3) := by decide +kernel
theorem d_X_build_19 : decode b_X_build 19 = .ok (.ireturn, 1) := by decide +kernel
theorem d_X_build_20 : decode b_X_build 20 = .ok (.aload_n 0, 1) := by decide +kernel
theorem d_X_build_21 : decode b_X_build 21 = .ok (.getfield 10, 3) := by decide +kernel
theorem d_X_build_24 : decode b_X_build 24 = .ok (.getfield 75, 3) := by decide +kernel
theorem d_X_build_27 : decode b_X_build 27 = .ok (.iload_n 1, 1) := by decide +kernel
theorem d_X_build_28 : decode b_X_build 28 = .ok (.invokevirtual 132, 3) := by decide +kernel
theorem d_X_build_31 : decode b_X_build 31 = .ok (.ifCond .ne 9, 3) := by decide +kernel
theorem d_X_build_34 : decode b_X_build 34 = .ok (.aload_n 0, 1) := by decide +kernel
theorem d_X_build_35 : decode b_X_build 35 = .ok (.iconst 4, 1) := by decide +kernel
theorem d_X_build_36 : decode b_X_build 36 = .ok (.invokevirtual 59, 3) := by decide +kernel
theorem d_X_build_39 : decode b_X_build 39 = .ok (.ireturn, 1) := by decide +kernel
theorem d_X_build_40 : decode b_X_build 40 = .ok (.aload_n 0, 1) := by decide +kernel
theorem d_X_build_41 : decode b_X_build 41 = .ok (.getfield 10, 3) := by decide +kernel
theorem d_X_build_44 : decode b_X_build 44 = .ok (.getfield 75, 3) := by decide +kernel
theorem d_X_build_47 : decode b_X_build 47 = .ok (.dup, 1) := by decide +kernel
theorem d_X_build_48 : decode b_X_build 48 = .ok (.getfield 142, 3) := by decide +kernel
theorem d_X_build_51 : decode b_X_build 51 = .ok (.iconst 1, 1) := by decide +kernel
theorem d_X_build_52 : decode b_X_build 52 = .ok (.iload_n 1, 1) := by decide +kernel
theorem d_X_build_53 : decode b_X_build 53 = .ok (.ishl, 1) := by decide +kernel
theorem d_X_build_54 : decode b_X_build 54 = .ok (.iconst (-1), 1) := by decide +kernel
theorem d_X_build_55 : decode b_X_build 55 = .ok (.ixor, 1) := by decide +kernel
theorem d_X_build_56 : decode b_X_build 56 = .ok (.iand, 1) := by decide +kernel
theorem d_X_build_57 : decode b_X_build 57 = .ok (.putfield 142, 3) := by decide +kernel
theorem d_X_build_60 : decode b_X_build 60 = .ok (.aload_n 0, 1) := by decide +kernel
theorem d_X_build_61 : decode b_X_build 61 = .ok (.getfield 10, 3) := by decide +kernel
theorem d_X_build_64 : decode b_X_build 64 = .ok (.getfield 75, 3) := by decide +kernel
theorem d_X_build_67 : decode b_X_build 67 = .ok (.getfield 129, 3) := by decide +kernel
theorem d_X_build_70 : decode b_X_build 70 = .ok (.iload_n 1, 1) := by decide +kernel
theorem d_X_build_71 : decode b_X_build 71 = .ok (.dup2, 1) := by decide +kernel
theorem d_X_build_72 : decode b_X_build 72 = .ok (.iaload, 1) := by decide +kernel
theorem d_X_build_73 : decode b_X_build 73 = .ok (.bipush 20, 2) := by decide +kernel
theorem d_X_build_75 : decode b_X_build 75 = .ok (.isub, 1) := by decide +kernel
theorem d_X_build_76 : decode b_X_build 76 = .ok (.iastore, 1) := by decide +kernel
theorem d_X_build_77 : decode b_X_build 77 = .ok (.aload_n 0, 1) := by decide +kernel
theorem d_X_build_78 : decode b_X_build 78 = .ok (.getfield 10, 3) := by decide +kernel
theorem d_X_build_81 : decode b_X_build 81 = .ok (.getfield 75, 3) := by decide +kernel
theorem d_X_build_84 : decode b_X_build 84 = .ok (.getfield 129, 3) := by decide +kernel
theorem d_X_build_87 : decode b_X_build 87 = .ok (.iload_n 1, 1) := by decide +kernel
theorem d_X_build_88 : decode b_X_build 88 = .ok (.iaload, 1) := by decide +kernel
theorem d_X_build_89 : decode b_X_build 89 = .ok (.ireturn, 1) := by decide +kernel
theorem d_X_coins_0 : decode b_X_coins 0 = .ok (.iload_n 1, 1) := by decide +kernel
theorem d_X_coins_1 : decode b_X_coins 1 = .ok (.invokestatic 106, 3) := by decide +kernel
theorem d_X_coins_4 : decode b_X_coins 4 = .ok (.ifCond .ne 9, 3) := by decide +kernel
theorem d_X_coins_7 : decode b_X_coins 7 = .ok (.aload_n 0, 1) := by decide +kernel
theorem d_X_coins_8 : decode b_X_coins 8 = .ok (.iconst 0, 1) := by decide +kernel
theorem d_X_coins_9 : decode b_X_coins 9 = .ok (.invokevirtual 59, 3) := by decide +kernel
theorem d_X_coins_12 : decode b_X_coins 12 = .ok (.ireturn, 1) := by decide +kernel
theorem d_X_coins_13 : decode b_X_coins 13 = .ok (.aload_n 0, 1) := by decide +kernel
theorem d_X_coins_14 : decode b_X_coins 14 = .ok (.getfield 10, 3) := by decide +kernel
theorem d_X_coins_17 : decode b_X_coins 17 = .ok (.getfield 75, 3) := by decide +kernel
theorem d_X_coins_20 : decode b_X_coins 20 = .ok (.iload_n 1, 1) := by decide +kernel
theorem d_X_coins_21 : decode b_X_coins 21 = .ok (.invokevirtual 145, 3) := by decide +kernel
theorem d_X_coins_24 : decode b_X_coins 24 = .ok (.ireturn, 1) := by decide +kernel
theorem d_Fa_coinsOf_0 : decode b_Fa_coinsOf 0 = .ok (.iconst 0, 1) := by decide +kernel
theorem d_Fa_coinsOf_1 : decode b_Fa_coinsOf 1 = .ok (.istore_n 2, 1) := by decide +kernel
theorem d_Fa_coinsOf_2 : decode b_Fa_coinsOf 2 = .ok (.iconst 0, 1) := by decide +kernel
theorem d_Fa_coinsOf_3 : decode b_Fa_coinsOf 3 = .ok (.istore_n 3, 1) := by decide +kernel
theorem d_Fa_coinsOf_4 : decode b_Fa_coinsOf 4 = .ok (.iload_n 3, 1) := by decide +kernel
theorem d_Fa_coinsOf_5 : decode b_Fa_coinsOf 5 = .ok (.aload_n 0, 1) := by decide +kernel
theorem d_Fa_coinsOf_6 : decode b_Fa_coinsOf 6 = .ok (.getfield 24, 3) := by decide +kernel
theorem d_Fa_coinsOf_9 : decode b_Fa_coinsOf 9 = .ok (.if_icmp .ge 28, 3) := by decide +kernel
theorem d_Fa_coinsOf_12 : decode b_Fa_coinsOf 12 = .ok (.aload_n 0, 1) := by decide +kernel
theorem d_Fa_coinsOf_13 : decode b_Fa_coinsOf 13 = .ok (.getfield 18, 3) := by decide +kernel
theorem d_Fa_coinsOf_16 : decode b_Fa_coinsOf 16 = .ok (.iload_n 3, 1) := by decide +kernel
theorem d_Fa_coinsOf_17 : decode b_Fa_coinsOf 17 = .ok (.iaload, 1) := by decide +kernel
theorem d_Fa_coinsOf_18 : decode b_Fa_coinsOf 18 = .ok (.iload_n 1, 1) := by decide +kernel
theorem d_Fa_coinsOf_19 : decode b_Fa_coinsOf 19 = .ok (.if_icmp .ne 12, 3) := by decide +kernel
theorem d_Fa_coinsOf_22 : decode b_Fa_coinsOf 22 = .ok (.iload_n 2, 1) := by decide +kernel
theorem d_Fa_coinsOf_23 : decode b_Fa_coinsOf 23 = .ok (.aload_n 0, 1) := by decide +kernel
theorem d_Fa_coinsOf_24 : decode b_Fa_coinsOf 24 = .ok (.getfield 21, 3) := by decide +kernel
theorem d_Fa_coinsOf_27 : decode b_Fa_coinsOf 27 = .ok (.iload_n 3, 1) := by decide +kernel
theorem d_Fa_coinsOf_28 : decode b_Fa_coinsOf 28 = .ok (.iaload, 1) := by decide +kernel
theorem d_Fa_coinsOf_29 : decode b_Fa_coinsOf 29 = .ok (.iadd, 1) := by decide +kernel
theorem d_Fa_coinsOf_30 : decode b_Fa_coinsOf 30 = .ok (.istore_n 2, 1) := by decide +kernel
theorem d_Fa_coinsOf_31 : decode b_Fa_coinsOf 31 = .ok (.iinc 3 1, 3) := by decide +kernel
theorem d_Fa_coinsOf_34 : decode b_Fa_coinsOf 34 = .ok (.goto (-30), 3) := by decide +kernel
theorem d_Fa_coinsOf_37 : decode b_Fa_coinsOf 37 = .ok (.iload_n 2, 1) := by decide +kernel
theorem d_Fa_coinsOf_38 : decode b_Fa_coinsOf 38 = .ok (.ireturn, 1) := by decide +kernel
theorem d_X_best_0 : decode b_X_best 0 = .ok (.aload_n 0, 1) := by decide +kernel
theorem d_X_best_1 : decode b_X_best 1 = .ok (.getfield 10, 3) := by decide +kernel
theorem d_X_best_4 : decode b_X_best 4 = .ok (.getfield 75, 3) := by decide +kernel
theorem d_X_best_7 : decode b_X_best 7 = .ok (.iload_n 1, 1) := by decide +kernel
theorem d_X_best_8 : decode b_X_best 8 = .ok (.invokevirtual 117, 3) := by decide +kernel
theorem d_X_best_11 : decode b_X_best 11 = .ok (.ifCond .ne 9, 3) := by decide +kernel
theorem d_X_best_14 : decode b_X_best 14 = .ok (.aload_n 0, 1) := by decide +kernel
theorem d_X_best_15 : decode b_X_best 15 = .ok (.iconst 0, 1) := by decide +kernel
theorem d_X_best_16 : decode b_X_best 16 = .ok (.invokevirtual 59, 3) := by decide +kernel
theorem d_X_best_19 : decode b_X_best 19 = .ok (.ireturn, 1) := by decide +kernel
theorem d_X_best_20 : decode b_X_best 20 = .ok (.aload_n 0, 1) := by decide +kernel
theorem d_X_best_21 : decode b_X_best 21 = .ok (.getfield 10, 3) := by decide +kernel
theorem d_X_best_24 : decode b_X_best 24 = .ok (.getfield 63, 3) := by decide +kernel
theorem d_X_best_27 : decode b_X_best 27 = .ok (.getfield 72, 3) := by decide +kernel
theorem d_X_best_30 : decode b_X_best 30 = .ok (.aload_n 0, 1) := by decide +kernel
theorem d_X_best_31 : decode b_X_best 31 = .ok (.getfield 10, 3) := by decide +kernel
theorem d_X_best_34 : decode b_X_best 34 = .ok (.getfield 75, 3) := by decide +kernel
theorem d_X_best_37 : decode b_X_best 37 = .ok (.getfield 123, 3) := by decide +kernel
theorem d_X_best_40 : decode b_X_best 40 = .ok (.iload_n 1, 1) := by decide +kernel
theorem d_X_best_41 : decode b_X_best 41 = .ok (.iaload, 1) := by decide +kernel
theorem d_X_best_42 : decode b_X_best 42 = .ok (.iaload, 1) := by decide +kernel
theorem d_X_best_43 : decode b_X_best 43 = .ok (.istore_n 2, 1) := by decide +kernel
theorem d_X_best_44 : decode b_X_best 44 = .ok (.iconst 0, 1) := by decide +kernel
theorem d_X_best_45 : decode b_X_best 45 = .ok (.istore_n 3, 1) := by decide +kernel
theorem d_X_best_46 : decode b_X_best 46 = .ok (.iconst 1, 1) := by decide +kernel
theorem d_X_best_47 : decode b_X_best 47 = .ok (.istore 4, 2) := by decide +kernel
theorem d_X_best_49 : decode b_X_best 49 = .ok (.iload 4, 2) := by decide +kernel
theorem d_X_best_51 : decode b_X_best 51 = .ok (.bipush 6, 2) := by decide +kernel
theorem d_X_best_53 : decode b_X_best 53 = .ok (.if_icmp .ge 46, 3) := by decide +kernel
theorem d_X_best_56 : decode b_X_best 56 = .ok (.iload 4, 2) := by decide +kernel
theorem d_X_best_58 : decode b_X_best 58 = .ok (.iload_n 2, 1) := by decide +kernel
theorem d_X_best_59 : decode b_X_best 59 = .ok (.aload_n 0, 1) := by decide +kernel
theorem d_X_best_60 : decode b_X_best 60 = .ok (.getfield 10, 3) := by decide +kernel
theorem d_X_best_63 : decode b_X_best 63 = .ok (.getfield 63, 3) := by decide +kernel
theorem d_X_best_66 : decode b_X_best 66 = .ok (.getfield 148, 3) := by decide +kernel
theorem d_X_best_69 : decode b_X_best 69 = .ok (.invokestatic 151, 3) := by decide +kernel
theorem d_X_best_72 : decode b_X_best 72 = .ok (.iload_n 3, 1) := by decide +kernel
theorem d_X_best_73 : decode b_X_best 73 = .ok (.iload_n 2, 1) := by decide +kernel
theorem d_X_best_74 : decode b_X_best 74 = .ok (.aload_n 0, 1) := by decide +kernel
theorem d_X_best_75 : decode b_X_best 75 = .ok (.getfield 10, 3) := by decide +kernel
theorem d_X_best_78 : decode b_X_best 78 = .ok (.getfield 63, 3) := by decide +kernel
theorem d_X_best_81 : decode b_X_best 81 = .ok (.getfield 148, 3) := by decide +kernel
theorem d_X_best_84 : decode b_X_best 84 = .ok (.invokestatic 151, 3) := by decide +kernel
theorem d_X_best_87 : decode b_X_best 87 = .ok (.if_icmp .le 6, 3) := by decide +kernel
theorem d_X_best_90 : decode b_X_best 90 = .ok (.iload 4, 2) := by decide +kernel
theorem d_X_best_92 : decode b_X_best 92 = .ok (.istore_n 3, 1) := by decide +kernel
theorem d_X_best_93 : decode b_X_best 93 = .ok (.iinc 4 1, 3) := by decide +kernel
theorem d_X_best_96 : decode b_X_best 96 = .ok (.goto (-47), 3) := by decide +kernel
theorem d_X_best_99 : decode b_X_best 99 = .ok (.iload_n 3, 1) := by decide +kernel
theorem d_X_best_100 : decode b_X_best 100 = .ok (.ireturn, 1) := by decide +kernel
theorem d_X_harvest_0 : decode b_X_harvest 0 = .ok (.iload_n 1, 1) := by decide +kernel
theorem d_X_harvest_1 : decode b_X_harvest 1 = .ok (.invokestatic 103, 3) := by decide +kernel
theorem d_X_harvest_4 : decode b_X_harvest 4 = .ok (.ifCond .eq 20, 3) := by decide +kernel
theorem d_X_harvest_7 : decode b_X_harvest 7 = .ok (.iload_n 2, 1) := by decide +kernel
theorem d_X_harvest_8 : decode b_X_harvest 8 = .ok (.invokestatic 51, 3) := by decide +kernel
theorem d_X_harvest_11 : decode b_X_harvest 11 = .ok (.ifCond .eq 13, 3) := by decide +kernel
theorem d_X_harvest_14 : decode b_X_harvest 14 = .ok (.iload_n 3, 1) := by decide +kernel
theorem d_X_harvest_15 : decode b_X_harvest 15 = .ok (.iconst 0, 1) := by decide +kernel
theorem d_X_harvest_16 : decode b_X_harvest 16 = .ok (.bipush 50, 2) := by decide +kernel
theorem d_X_harvest_18 : decode b_X_harvest 18 = .ok (.invokestatic 55, 3) := by decide +kernel
theorem d_X_harvest_21 : decode b_X_harvest 21 = .ok (.ifCond .ne 9, 3) := by decide +kernel
theorem d_X_harvest_24 : decode b_X_harvest 24 = .ok (.aload_n 0, 1) := by decide +kernel
theorem d_X_harvest_25 : decode b_X_harvest 25 = .ok (.iconst 0, 1) := by decide +kernel
theorem d_X_harvest_26 : decode b_X_harvest 26 = .ok (.invokevirtual 59, 3) := by decide +kernel
theorem d_X_harvest_29 : decode b_X_harvest 29 = .ok (.ireturn, 1) := by decide +kernel
theorem d_X_harvest_30 : decode b_X_harvest 30 = .ok (.iconst 0, 1) := by decide +kernel
theorem d_X_harvest_31 : decode b_X_harvest 31 = .ok (.istore 4, 2) := by decide +kernel
theorem d_X_harvest_33 : decode b_X_harvest 33 = .ok (.iconst 0, 1) := by decide +kernel
theorem d_X_harvest_34 : decode b_X_harvest 34 = .ok (.istore 5, 2) := by decide +kernel
theorem d_X_harvest_36 : decode b_X_harvest 36 = .ok (.iload 5, 2) := by decide +kernel
theorem d_X_harvest_38 : decode b_X_harvest 38 = .ok (.iload_n 3, 1) := by decide +kernel
theorem d_X_harvest_39 : decode b_X_harvest 39 = .ok (.if_icmp .ge 64, 3) := by decide +kernel
theorem d_X_harvest_42 : decode b_X_harvest 42 = .ok (.bipush 99, 2) := by decide +kernel
theorem d_X_harvest_44 : decode b_X_harvest 44 = .ok (.aload_n 0, 1) := by decide +kernel
theorem d_X_harvest_45 : decode b_X_harvest 45 = .ok (.getfield 10, 3) := by decide +kernel
theorem d_X_harvest_48 : decode b_X_harvest 48 = .ok (.getfield 63, 3) := by decide +kernel
theorem d_X_harvest_51 : decode b_X_harvest 51 = .ok (.getfield 72, 3) := by decide +kernel
theorem d_X_harvest_54 : decode b_X_harvest 54 = .ok (.iload_n 2, 1) := by decide +kernel
theorem d_X_harvest_55 : decode b_X_harvest 55 = .ok (.iaload, 1) := by decide +kernel
theorem d_X_harvest_56 : decode b_X_harvest 56 = .ok (.iload 5, 2) := by decide +kernel
theorem d_X_harvest_58 : decode b_X_harvest 58 = .ok (.iadd, 1) := by decide +kernel
theorem d_X_harvest_59 : decode b_X_harvest 59 = .ok (.invokestatic 154, 3) := by decide +kernel
theorem d_X_harvest_62 : decode b_X_harvest 62 = .ok (.istore 6, 2) := by decide +kernel
theorem d_X_harvest_64 : decode b_X_harvest 64 = .ok (.bipush 99, 2) := by decide +kernel
theorem d_X_harvest_66 : decode b_X_harvest 66 = .ok (.aload_n 0, 1) := by decide +kernel
theorem d_X_harvest_67 : decode b_X_harvest 67 = .ok (.getfield 10, 3) := by decide +kernel
theorem d_X_harvest_70 : decode b_X_harvest 70 = .ok (.getfield 63, 3) := by decide +kernel
theorem d_X_harvest_73 : decode b_X_harvest 73 = .ok (.getfield 148, 3) := by decide +kernel
theorem d_X_harvest_76 : decode b_X_harvest 76 = .ok (.iload 5, 2) := by decide +kernel
theorem d_X_harvest_78 : decode b_X_harvest 78 = .ok (.iadd, 1) := by decide +kernel
theorem d_X_harvest_79 : decode b_X_harvest 79 = .ok (.invokestatic 154, 3) := by decide +kernel
theorem d_X_harvest_82 : decode b_X_harvest 82 = .ok (.istore 7, 2) := by decide +kernel
theorem d_X_harvest_84 : decode b_X_harvest 84 = .ok (.iload 4, 2) := by decide +kernel
theorem d_X_harvest_86 : decode b_X_harvest 86 = .ok (.iload_n 1, 1) := by decide +kernel
theorem d_X_harvest_87 : decode b_X_harvest 87 = .ok (.iload 6, 2) := by decide +kernel
theorem d_X_harvest_89 : decode b_X_harvest 89 = .ok (.iload 7, 2) := by decide +kernel
theorem d_X_harvest_91 : decode b_X_harvest 91 = .ok (.invokestatic 151, 3) := by decide +kernel
theorem d_X_harvest_94 : decode b_X_harvest 94 = .ok (.iadd, 1) := by decide +kernel
theorem d_X_harvest_95 : decode b_X_harvest 95 = .ok (.istore 4, 2) := by decide +kernel
theorem d_X_harvest_97 : decode b_X_harvest 97 = .ok (.iinc 5 1, 3) := by decide +kernel
theorem d_X_harvest_100 : decode b_X_harvest 100 = .ok (.goto (-64), 3) := by decide +kernel
theorem d_X_harvest_103 : decode b_X_harvest 103 = .ok (.iload 4, 2) := by decide +kernel
theorem d_X_harvest_105 : decode b_X_harvest 105 = .ok (.ireturn, 1) := by decide +kernel
theorem d_X_tenths_0 : decode b_X_tenths 0 = .ok (.iload_n 1, 1) := by decide +kernel
theorem d_X_tenths_1 : decode b_X_tenths 1 = .ok (.iconst 0, 1) := by decide +kernel
theorem d_X_tenths_2 : decode b_X_tenths 2 = .ok (.iconst 1, 1) := by decide +kernel
theorem d_X_tenths_3 : decode b_X_tenths 3 = .ok (.invokestatic 55, 3) := by decide +kernel
theorem d_X_tenths_6 : decode b_X_tenths 6 = .ok (.ifCond .eq 10, 3) := by decide +kernel
theorem d_X_tenths_9 : decode b_X_tenths 9 = .ok (.iload_n 2, 1) := by decide +kernel
theorem d_X_tenths_10 : decode b_X_tenths 10 = .ok (.invokestatic 159, 3) := by decide +kernel
theorem d_X_tenths_13 : decode b_X_tenths 13 = .ok (.ifCond .ne 9, 3) := by decide +kernel
theorem d_X_tenths_16 : decode b_X_tenths 16 = .ok (.aload_n 0, 1) := by decide +kernel
theorem d_X_tenths_17 : decode b_X_tenths 17 = .ok (.iconst 0, 1) := by decide +kernel
theorem d_X_tenths_18 : decode b_X_tenths 18 = .ok (.invokevirtual 59, 3) := by decide +kernel
theorem d_X_tenths_21 : decode b_X_tenths 21 = .ok (.ireturn, 1) := by decide +kernel
theorem d_X_tenths_22 : decode b_X_tenths 22 = .ok (.iload_n 3, 1) := by decide +kernel
theorem d_X_tenths_23 : decode b_X_tenths 23 = .ok (.iconst 0, 1) := by decide +kernel
theorem d_X_tenths_24 : decode b_X_tenths 24 = .ok (.bipush 10, 2) := by decide +kernel
theorem d_X_tenths_26 : decode b_X_tenths 26 = .ok (.invokestatic 55, 3) := by decide +kernel
theorem d_X_tenths_29 : decode b_X_tenths 29 = .ok (.ifCond .eq 32, 3) := by decide +kernel
theorem d_X_tenths_32 : decode b_X_tenths 32 = .ok (.iload 4, 2) := by decide +kernel
theorem d_X_tenths_34 : decode b_X_tenths 34 = .ok (.iconst 0, 1) := by decide +kernel
theorem d_X_tenths_35 : decode b_X_tenths 35 = .ok (.bipush 10, 2) := by decide +kernel
theorem d_X_tenths_37 : decode b_X_tenths 37 = .ok (.iload_n 3, 1) := by decide +kernel
theorem d_X_tenths_38 : decode b_X_tenths 38 = .ok (.isub, 1) := by decide +kernel
theorem d_X_tenths_39 : decode b_X_tenths 39 = .ok (.invokestatic 55, 3) := by decide +kernel
theorem d_X_tenths_42 : decode b_X_tenths 42 = .ok (.ifCond .eq 19, 3) := by decide +kernel
theorem d_X_tenths_45 : decode b_X_tenths 45 = .ok (.iload 5, 2) := by decide +kernel
theorem d_X_tenths_47 : decode b_X_tenths 47 = .ok (.iconst 0, 1) := by decide +kernel
theorem d_X_tenths_48 : decode b_X_tenths 48 = .ok (.bipush 10, 2) := by decide +kernel
theorem d_X_tenths_50 : decode b_X_tenths 50 = .ok (.iload_n 3, 1) := by decide +kernel
theorem d_X_tenths_51 : decode b_X_tenths 51 = .ok (.isub, 1) := by decide +kernel
theorem d_X_tenths_52 : decode b_X_tenths 52 = .ok (.iload 4, 2) := by decide +kernel
theorem d_X_tenths_54 : decode b_X_tenths 54 = .ok (.isub, 1) := by decide +kernel
theorem d_X_tenths_55 : decode b_X_tenths 55 = .ok (.invokestatic 55, 3) := by decide +kernel
theorem d_X_tenths_58 : decode b_X_tenths 58 = .ok (.ifCond .ne 9, 3) := by decide +kernel
theorem d_X_tenths_61 : decode b_X_tenths 61 = .ok (.aload_n 0, 1) := by decide +kernel
theorem d_X_tenths_62 : decode b_X_tenths 62 = .ok (.iconst 0, 1) := by decide +kernel
theorem d_X_tenths_63 : decode b_X_tenths 63 = .ok (.invokevirtual 59, 3) := by decide +kernel
theorem d_X_tenths_66 : decode b_X_tenths 66 = .ok (.ireturn, 1) := by decide +kernel
theorem d_X_tenths_67 : decode b_X_tenths 67 = .ok (.aload_n 0, 1) := by decide +kernel
theorem d_X_tenths_68 : decode b_X_tenths 68 = .ok (.getfield 10, 3) := by decide +kernel
theorem d_X_tenths_71 : decode b_X_tenths 71 = .ok (.getfield 162, 3) := by decide +kernel
theorem d_X_tenths_74 : decode b_X_tenths 74 = .ok (.iload_n 1, 1) := by decide +kernel
theorem d_X_tenths_75 : decode b_X_tenths 75 = .ok (.iload_n 2, 1) := by decide +kernel
theorem d_X_tenths_76 : decode b_X_tenths 76 = .ok (.iconst 0, 1) := by decide +kernel
theorem d_X_tenths_77 : decode b_X_tenths 77 = .ok (.invokevirtual 166, 3) := by decide +kernel
theorem d_X_tenths_80 : decode b_X_tenths 80 = .ok (.istore 6, 2) := by decide +kernel
theorem d_X_tenths_82 : decode b_X_tenths 82 = .ok (.aload_n 0, 1) := by decide +kernel
theorem d_X_tenths_83 : decode b_X_tenths 83 = .ok (.getfield 10, 3) := by decide +kernel
theorem d_X_tenths_86 : decode b_X_tenths 86 = .ok (.getfield 162, 3) := by decide +kernel
theorem d_X_tenths_89 : decode b_X_tenths 89 = .ok (.iload_n 1, 1) := by decide +kernel
theorem d_X_tenths_90 : decode b_X_tenths 90 = .ok (.iload_n 2, 1) := by decide +kernel
theorem d_X_tenths_91 : decode b_X_tenths 91 = .ok (.iconst 0, 1) := by decide +kernel
theorem d_X_tenths_92 : decode b_X_tenths 92 = .ok (.iload_n 3, 1) := by decide +kernel
theorem d_X_tenths_93 : decode b_X_tenths 93 = .ok (.invokevirtual 171, 3) := by decide +kernel
theorem d_X_tenths_96 : decode b_X_tenths 96 = .ok (.aload_n 0, 1) := by decide +kernel
theorem d_X_tenths_97 : decode b_X_tenths 97 = .ok (.getfield 10, 3) := by decide +kernel
theorem d_X_tenths_100 : decode b_X_tenths 100 = .ok (.getfield 162, 3) := by decide +kernel
theorem d_X_tenths_103 : decode b_X_tenths 103 = .ok (.iload_n 1, 1) := by decide +kernel
theorem d_X_tenths_104 : decode b_X_tenths 104 = .ok (.iload_n 2, 1) := by decide +kernel
theorem d_X_tenths_105 : decode b_X_tenths 105 = .ok (.iconst 1, 1) := by decide +kernel
theorem d_X_tenths_106 : decode b_X_tenths 106 = .ok (.iload 4, 2) := by decide +kernel
theorem d_X_tenths_108 : decode b_X_tenths 108 = .ok (.invokevirtual 171, 3) := by decide +kernel
theorem d_X_tenths_111 : decode b_X_tenths 111 = .ok (.aload_n 0, 1) := by decide +kernel
theorem d_X_tenths_112 : decode b_X_tenths 112 = .ok (.getfield 10, 3) := by decide +kernel
theorem d_X_tenths_115 : decode b_X_tenths 115 = .ok (.getfield 162, 3) := by decide +kernel
theorem d_X_tenths_118 : decode b_X_tenths 118 = .ok (.iload_n 1, 1) := by decide +kernel
theorem d_X_tenths_119 : decode b_X_tenths 119 = .ok (.iload_n 2, 1) := by decide +kernel
theorem d_X_tenths_120 : decode b_X_tenths 120 = .ok (.iconst 2, 1) := by decide +kernel
theorem d_X_tenths_121 : decode b_X_tenths 121 = .ok (.iload 5, 2) := by decide +kernel
theorem d_X_tenths_123 : decode b_X_tenths 123 = .ok (.invokevirtual 171, 3) := by decide +kernel
theorem d_X_tenths_126 : decode b_X_tenths 126 = .ok (.aload_n 0, 1) := by decide +kernel
theorem d_X_tenths_127 : decode b_X_tenths 127 = .ok (.getfield 10, 3) := by decide +kernel
theorem d_X_tenths_130 : decode b_X_tenths 130 = .ok (.getfield 162, 3) := by decide +kernel
theorem d_X_tenths_133 : decode b_X_tenths 133 = .ok (.iload_n 1, 1) := by decide +kernel
theorem d_X_tenths_134 : decode b_X_tenths 134 = .ok (.iload_n 2, 1) := by decide +kernel
theorem d_X_tenths_135 : decode b_X_tenths 135 = .ok (.iconst 3, 1) := by decide +kernel
theorem d_X_tenths_136 : decode b_X_tenths 136 = .ok (.bipush 10, 2) := by decide +kernel
theorem d_X_tenths_138 : decode b_X_tenths 138 = .ok (.iload_n 3, 1) := by decide +kernel
theorem d_X_tenths_139 : decode b_X_tenths 139 = .ok (.isub, 1) := by decide +kernel
theorem d_X_tenths_140 : decode b_X_tenths 140 = .ok (.iload 4, 2) := by decide +kernel
theorem d_X_tenths_142 : decode b_X_tenths 142 = .ok (.isub, 1) := by decide +kernel
theorem d_X_tenths_143 : decode b_X_tenths 143 = .ok (.iload 5, 2) := by decide +kernel
theorem d_X_tenths_145 : decode b_X_tenths 145 = .ok (.isub, 1) := by decide +kernel
theorem d_X_tenths_146 : decode b_X_tenths 146 = .ok (.invokevirtual 171, 3) := by decide +kernel
theorem d_X_tenths_149 : decode b_X_tenths 149 = .ok (.iload 6, 2) := by decide +kernel
theorem d_X_tenths_151 : decode b_X_tenths 151 = .ok (.ireturn, 1) := by decide +kernel
theorem d_X_isState_0 : decode b_X_isState 0 = .ok (.iload_n 0, 1) := by decide +kernel
theorem d_X_isState_1 : decode b_X_isState 1 = .ok (.iconst 0, 1) := by decide +kernel
theorem d_X_isState_2 : decode b_X_isState 2 = .ok (.iconst 3, 1) := by decide +kernel
theorem d_X_isState_3 : decode b_X_isState 3 = .ok (.invokestatic 55, 3) := by decide +kernel
theorem d_X_isState_6 : decode b_X_isState 6 = .ok (.ireturn, 1) := by decide +kernel
theorem d_Mo_tenthAt_0 : decode b_Mo_tenthAt 0 = .ok (.iload_n 1, 1) := by decide +kernel
theorem d_Mo_tenthAt_1 : decode b_Mo_tenthAt 1 = .ok (.ifCond .ne 10, 3) := by decide +kernel
theorem d_Mo_tenthAt_4 : decode b_Mo_tenthAt 4 = .ok (.aload_n 0, 1) := by decide +kernel
theorem d_Mo_tenthAt_5 : decode b_Mo_tenthAt 5 = .ok (.getfield 9, 3) := by decide +kernel
theorem d_Mo_tenthAt_8 : decode b_Mo_tenthAt 8 = .ok (.goto 7, 3) := by decide +kernel
theorem d_Mo_tenthAt_11 : decode b_Mo_tenthAt 11 = .ok (.aload_n 0, 1) := by decide +kernel
theorem d_Mo_tenthAt_12 : decode b_Mo_tenthAt 12 = .ok (.getfield 15, 3) := by decide +kernel
theorem d_Mo_tenthAt_15 : decode b_Mo_tenthAt 15 = .ok (.astore 4, 2) := by decide +kernel
theorem d_Mo_tenthAt_17 : decode b_Mo_tenthAt 17 = .ok (.iconst 4, 1) := by decide +kernel
theorem d_Mo_tenthAt_18 : decode b_Mo_tenthAt 18 = .ok (.iload_n 2, 1) := by decide +kernel
theorem d_Mo_tenthAt_19 : decode b_Mo_tenthAt 19 = .ok (.imul, 1) := by decide +kernel
theorem d_Mo_tenthAt_20 : decode b_Mo_tenthAt 20 = .ok (.iload_n 3, 1) := by decide +kernel
theorem d_Mo_tenthAt_21 : decode b_Mo_tenthAt 21 = .ok (.iadd, 1) := by decide +kernel
theorem d_Mo_tenthAt_22 : decode b_Mo_tenthAt 22 = .ok (.istore 5, 2) := by decide +kernel
theorem d_Mo_tenthAt_24 : decode b_Mo_tenthAt 24 = .ok (.iload 5, 2) := by decide +kernel
theorem d_Mo_tenthAt_26 : decode b_Mo_tenthAt 26 = .ok (.iconst 0, 1) := by decide +kernel
theorem d_Mo_tenthAt_27 : decode b_Mo_tenthAt 27 = .ok (.aload 4, 2) := by decide +kernel
theorem d_Mo_tenthAt_29 : decode b_Mo_tenthAt 29 = .ok (.arraylength, 1) := by decide +kernel
theorem d_Mo_tenthAt_30 : decode b_Mo_tenthAt 30 = .ok (.iconst 1, 1) := by decide +kernel
theorem d_Mo_tenthAt_31 : decode b_Mo_tenthAt 31 = .ok (.isub, 1) := by decide +kernel
theorem d_Mo_tenthAt_32 : decode b_Mo_tenthAt 32 = .ok (.invokestatic 37, 3) := by decide +kernel
theorem d_Mo_tenthAt_35 : decode b_Mo_tenthAt 35 = .ok (.ifCond .eq 11, 3) := by decide +kernel
theorem d_Mo_tenthAt_38 : decode b_Mo_tenthAt 38 = .ok (.aload 4, 2) := by decide +kernel
theorem d_Mo_tenthAt_40 : decode b_Mo_tenthAt 40 = .ok (.iload 5, 2) := by decide +kernel
theorem d_Mo_tenthAt_42 : decode b_Mo_tenthAt 42 = .ok (.iaload, 1) := by decide +kernel
theorem d_Mo_tenthAt_43 : decode b_Mo_tenthAt 43 = .ok (.goto 4, 3) := by decide +kernel
theorem d_Mo_tenthAt_46 : decode b_Mo_tenthAt 46 = .ok (.iconst 0, 1) := by decide +kernel
theorem d_Mo_tenthAt_47 : decode b_Mo_tenthAt 47 = .ok (.ireturn, 1) := by decide +kernel
theorem d_Mo_putTenth_0 : decode b_Mo_putTenth 0 = .ok (.iload_n 1, 1) := by decide +kernel
theorem d_Mo_putTenth_1 : decode b_Mo_putTenth 1 = .ok (.ifCond .ne 10, 3) := by decide +kernel
theorem d_Mo_putTenth_4 : decode b_Mo_putTenth 4 = .ok (.aload_n 0, 1) := by decide +kernel
theorem d_Mo_putTenth_5 : decode b_Mo_putTenth 5 = .ok (.getfield 9, 3) := by decide +kernel
theorem d_Mo_putTenth_8 : decode b_Mo_putTenth 8 = .ok (.goto 7, 3) := by decide +kernel
theorem d_Mo_putTenth_11 : decode b_Mo_putTenth 11 = .ok (.aload_n 0, 1) := by decide +kernel
theorem d_Mo_putTenth_12 : decode b_Mo_putTenth 12 = .ok (.getfield 15, 3) := by decide +kernel
theorem d_Mo_putTenth_15 : decode b_Mo_putTenth 15 = .ok (.astore 5, 2) := by decide +kernel
theorem d_Mo_putTenth_17 : decode b_Mo_putTenth 17 = .ok (.iconst 4, 1) := by decide +kernel
theorem d_Mo_putTenth_18 : decode b_Mo_putTenth 18 = .ok (.iload_n 2, 1) := by decide +kernel
theorem d_Mo_putTenth_19 : decode b_Mo_putTenth 19 = .ok (.imul, 1) := by decide +kernel
theorem d_Mo_putTenth_20 : decode b_Mo_putTenth 20 = .ok (.iload_n 3, 1) := by decide +kernel
theorem d_Mo_putTenth_21 : decode b_Mo_putTenth 21 = .ok (.iadd, 1) := by decide +kernel
theorem d_Mo_putTenth_22 : decode b_Mo_putTenth 22 = .ok (.istore 6, 2) := by decide +kernel
theorem d_Mo_putTenth_24 : decode b_Mo_putTenth 24 = .ok (.iload 6, 2) := by decide +kernel
theorem d_Mo_putTenth_26 : decode b_Mo_putTenth 26 = .ok (.iconst 0, 1) := by decide +kernel
theorem d_Mo_putTenth_27 : decode b_Mo_putTenth 27 = .ok (.aload 5, 2) := by decide +kernel
theorem d_Mo_putTenth_29 : decode b_Mo_putTenth 29 = .ok (.arraylength, 1) := by decide +kernel
theorem d_Mo_putTenth_30 : decode b_Mo_putTenth 30 = .ok (.iconst 1, 1) := by decide +kernel
theorem d_Mo_putTenth_31 : decode b_Mo_putTenth 31 = .ok (.isub, 1) := by decide +kernel
theorem d_Mo_putTenth_32 : decode b_Mo_putTenth 32 = .ok (.invokestatic 37, 3) := by decide +kernel
theorem d_Mo_putTenth_35 : decode b_Mo_putTenth 35 = .ok (.ifCond .eq 10, 3) := by decide +kernel
theorem d_Mo_putTenth_38 : decode b_Mo_putTenth 38 = .ok (.aload 5, 2) := by decide +kernel
theorem d_Mo_putTenth_40 : decode b_Mo_putTenth 40 = .ok (.iload 6, 2) := by decide +kernel
theorem d_Mo_putTenth_42 : decode b_Mo_putTenth 42 = .ok (.iload 4, 2) := by decide +kernel
theorem d_Mo_putTenth_44 : decode b_Mo_putTenth 44 = .ok (.iastore, 1) := by decide +kernel
theorem d_Mo_putTenth_45 : decode b_Mo_putTenth 45 = .ok (.return_, 1) := by decide +kernel
theorem d_X_tenth_0 : decode b_X_tenth 0 = .ok (.iload_n 1, 1) := by decide +kernel
theorem d_X_tenth_1 : decode b_X_tenth 1 = .ok (.iconst 0, 1) := by decide +kernel
theorem d_X_tenth_2 : decode b_X_tenth 2 = .ok (.iconst 1, 1) := by decide +kernel
theorem d_X_tenth_3 : decode b_X_tenth 3 = .ok (.invokestatic 55, 3) := by decide +kernel
theorem d_X_tenth_6 : decode b_X_tenth 6 = .ok (.ifCond .eq 19, 3) := by decide +kernel
theorem d_X_tenth_9 : decode b_X_tenth 9 = .ok (.iload_n 2, 1) := by decide +kernel
theorem d_X_tenth_10 : decode b_X_tenth 10 = .ok (.invokestatic 159, 3) := by decide +kernel
theorem d_X_tenth_13 : decode b_X_tenth 13 = .ok (.ifCond .eq 12, 3) := by decide +kernel
theorem d_X_tenth_16 : decode b_X_tenth 16 = .ok (.iload_n 3, 1) := by decide +kernel
theorem d_X_tenth_17 : decode b_X_tenth 17 = .ok (.iconst 0, 1) := by decide +kernel
theorem d_X_tenth_18 : decode b_X_tenth 18 = .ok (.iconst 3, 1) := by decide +kernel
theorem d_X_tenth_19 : decode b_X_tenth 19 = .ok (.invokestatic 55, 3) := by decide +kernel
theorem d_X_tenth_22 : decode b_X_tenth 22 = .ok (.ifCond .ne 9, 3) := by decide +kernel
theorem d_X_tenth_25 : decode b_X_tenth 25 = .ok (.aload_n 0, 1) := by decide +kernel
theorem d_X_tenth_26 : decode b_X_tenth 26 = .ok (.iconst 0, 1) := by decide +kernel
theorem d_X_tenth_27 : decode b_X_tenth 27 = .ok (.invokevirtual 59, 3) := by decide +kernel
theorem d_X_tenth_30 : decode b_X_tenth 30 = .ok (.ireturn, 1) := by decide +kernel
theorem d_X_tenth_31 : decode b_X_tenth 31 = .ok (.aload_n 0, 1) := by decide +kernel
theorem d_X_tenth_32 : decode b_X_tenth 32 = .ok (.getfield 10, 3) := by decide +kernel
theorem d_X_tenth_35 : decode b_X_tenth 35 = .ok (.getfield 162, 3) := by decide +kernel
theorem d_X_tenth_38 : decode b_X_tenth 38 = .ok (.iload_n 1, 1) := by decide +kernel
theorem d_X_tenth_39 : decode b_X_tenth 39 = .ok (.iload_n 2, 1) := by decide +kernel
theorem d_X_tenth_40 : decode b_X_tenth 40 = .ok (.iload_n 3, 1) := by decide +kernel
theorem d_X_tenth_41 : decode b_X_tenth 41 = .ok (.invokevirtual 166, 3) := by decide +kernel
theorem d_X_tenth_44 : decode b_X_tenth 44 = .ok (.ireturn, 1) := by decide +kernel
theorem d_X_sees_0 : decode b_X_sees 0 = .ok (.iload_n 1, 1) := by decide +kernel
theorem d_X_sees_1 : decode b_X_sees 1 = .ok (.invokestatic 175, 3) := by decide +kernel
theorem d_X_sees_4 : decode b_X_sees 4 = .ok (.ifCond .ne 9, 3) := by decide +kernel
theorem d_X_sees_7 : decode b_X_sees 7 = .ok (.aload_n 0, 1) := by decide +kernel
theorem d_X_sees_8 : decode b_X_sees 8 = .ok (.iconst 0, 1) := by decide +kernel
theorem d_X_sees_9 : decode b_X_sees 9 = .ok (.invokevirtual 59, 3) := by decide +kernel
theorem d_X_sees_12 : decode b_X_sees 12 = .ok (.ireturn, 1) := by decide +kernel
theorem d_X_sees_13 : decode b_X_sees 13 = .ok (.aload_n 0, 1) := by decide +kernel
theorem d_X_sees_14 : decode b_X_sees 14 = .ok (.getfield 10, 3) := by decide +kernel
theorem d_X_sees_17 : decode b_X_sees 17 = .ok (.getfield 162, 3) := by decide +kernel
theorem d_X_sees_20 : decode b_X_sees 20 = .ok (.invokevirtual 178, 3) := by decide +kernel
theorem d_X_sees_23 : decode b_X_sees 23 = .ok (.ifCond .eq 9, 3) := by decide +kernel
theorem d_X_sees_26 : decode b_X_sees 26 = .ok (.aload_n 0, 1) := by decide +kernel
theorem d_X_sees_27 : decode b_X_sees 27 = .ok (.iconst 1, 1) := by decide +kernel
theorem d_X_sees_28 : decode b_X_sees 28 = .ok (.invokevirtual 59, 3) := by decide +kernel
theorem d_X_sees_31 : decode b_X_sees 31 = .ok (.ireturn, 1) := by decide +kernel
theorem d_X_sees_32 : decode b_X_sees 32 = .ok (.aload_n 0, 1) := by decide +kernel
theorem d_X_sees_33 : decode b_X_sees 33 = .ok (.getfield 10, 3) := by decide +kernel
theorem d_X_sees_36 : decode b_X_sees 36 = .ok (.getfield 162, 3) := by decide +kernel
theorem d_X_sees_39 : decode b_X_sees 39 = .ok (.iload_n 1, 1) := by decide +kernel
theorem d_X_sees_40 : decode b_X_sees 40 = .ok (.invokevirtual 181, 3) := by decide +kernel
theorem d_X_sees_43 : decode b_X_sees 43 = .ok (.aload_n 0, 1) := by decide +kernel
theorem d_X_sees_44 : decode b_X_sees 44 = .ok (.getfield 10, 3) := by decide +kernel
theorem d_X_sees_47 : decode b_X_sees 47 = .ok (.getfield 162, 3) := by decide +kernel
theorem d_X_sees_50 : decode b_X_sees 50 = .ok (.getfield 185, 3) := by decide +kernel
theorem d_X_sees_53 : decode b_X_sees 53 = .ok (.ireturn, 1) := by decide +kernel
theorem d_X_isSign_0 : decode b_X_isSign 0 = .ok (.iload_n 0, 1) := by decide +kernel
theorem d_X_isSign_1 : decode b_X_isSign 1 = .ok (.iconst 0, 1) := by decide +kernel
theorem d_X_isSign_2 : decode b_X_isSign 2 = .ok (.iconst 3, 1) := by decide +kernel
theorem d_X_isSign_3 : decode b_X_isSign 3 = .ok (.invokestatic 55, 3) := by decide +kernel
theorem d_X_isSign_6 : decode b_X_isSign 6 = .ok (.ireturn, 1) := by decide +kernel
theorem d_Mo_isDiaryFull_0 : decode b_Mo_isDiaryFull 0 = .ok (.aload_n 0, 1) := by decide +kernel
theorem d_Mo_isDiaryFull_1 : decode b_Mo_isDiaryFull 1 = .ok (.getfield 21, 3) := by decide +kernel
theorem d_Mo_isDiaryFull_4 : decode b_Mo_isDiaryFull 4 = .ok (.bipush 6, 2) := by decide +kernel
theorem d_Mo_isDiaryFull_6 : decode b_Mo_isDiaryFull 6 = .ok (.if_icmp .lt 7, 3) := by decide +kernel
theorem d_Mo_isDiaryFull_9 : decode b_Mo_isDiaryFull 9 = .ok (.iconst 1, 1) := by decide +kernel
theorem d_Mo_isDiaryFull_10 : decode b_Mo_isDiaryFull 10 = .ok (.goto 4, 3) := by decide +kernel
theorem d_Mo_isDiaryFull_13 : decode b_Mo_isDiaryFull 13 = .ok (.iconst 0, 1) := by decide +kernel
theorem d_Mo_isDiaryFull_14 : decode b_Mo_isDiaryFull 14 = .ok (.ireturn, 1) := by decide +kernel
theorem d_Mo_addSign_0 : decode b_Mo_addSign 0 = .ok (.aload_n 0, 1) := by decide +kernel
theorem d_Mo_addSign_1 : decode b_Mo_addSign 1 = .ok (.invokevirtual 41, 3) := by decide +kernel
theorem d_Mo_addSign_4 : decode b_Mo_addSign 4 = .ok (.ifCond .ne 23, 3) := by decide +kernel
theorem d_Mo_addSign_7 : decode b_Mo_addSign 7 = .ok (.aload_n 0, 1) := by decide +kernel
theorem d_Mo_addSign_8 : decode b_Mo_addSign 8 = .ok (.getfield 18, 3) := by decide +kernel
theorem d_Mo_addSign_11 : decode b_Mo_addSign 11 = .ok (.aload_n 0, 1) := by decide +kernel
theorem d_Mo_addSign_12 : decode b_Mo_addSign 12 = .ok (.getfield 21, 3) := by decide +kernel
theorem d_Mo_addSign_15 : decode b_Mo_addSign 15 = .ok (.iload_n 1, 1) := by decide +kernel
theorem d_Mo_addSign_16 : decode b_Mo_addSign 16 = .ok (.iastore, 1) := by decide +kernel
theorem d_Mo_addSign_17 : decode b_Mo_addSign 17 = .ok (.aload_n 0, 1) := by decide +kernel
theorem d_Mo_addSign_18 : decode b_Mo_addSign 18 = .ok (.dup, 1) := by decide +kernel
theorem d_Mo_addSign_19 : decode b_Mo_addSign 19 = .ok (.getfield 21, 3) := by decide +kernel
theorem d_Mo_addSign_22 : decode b_Mo_addSign 22 = .ok (.iconst 1, 1) := by decide +kernel
theorem d_Mo_addSign_23 : decode b_Mo_addSign 23 = .ok (.iadd, 1) := by decide +kernel
theorem d_Mo_addSign_24 : decode b_Mo_addSign 24 = .ok (.putfield 21, 3) := by decide +kernel
theorem d_Mo_addSign_27 : decode b_Mo_addSign 27 = .ok (.return_, 1) := by decide +kernel
theorem d_X_burn_0 : decode b_X_burn 0 = .ok (.aload_n 0, 1) := by decide +kernel
theorem d_X_burn_1 : decode b_X_burn 1 = .ok (.getfield 10, 3) := by decide +kernel
theorem d_X_burn_4 : decode b_X_burn 4 = .ok (.getfield 162, 3) := by decide +kernel
theorem d_X_burn_7 : decode b_X_burn 7 = .ok (.getfield 185, 3) := by decide +kernel
theorem d_X_burn_10 : decode b_X_burn 10 = .ok (.istore_n 1, 1) := by decide +kernel
theorem d_X_burn_11 : decode b_X_burn 11 = .ok (.aload_n 0, 1) := by decide +kernel
theorem d_X_burn_12 : decode b_X_burn 12 = .ok (.getfield 10, 3) := by decide +kernel
theorem d_X_burn_15 : decode b_X_burn 15 = .ok (.getfield 162, 3) := by decide +kernel
theorem d_X_burn_18 : decode b_X_burn 18 = .ok (.iconst 0, 1) := by decide +kernel
theorem d_X_burn_19 : decode b_X_burn 19 = .ok (.putfield 185, 3) := by decide +kernel
theorem d_X_burn_22 : decode b_X_burn 22 = .ok (.iload_n 1, 1) := by decide +kernel
theorem d_X_burn_23 : decode b_X_burn 23 = .ok (.ireturn, 1) := by decide +kernel
theorem d_X_weight_0 : decode b_X_weight 0 = .ok (.iload_n 1, 1) := by decide +kernel
theorem d_X_weight_1 : decode b_X_weight 1 = .ok (.iconst (-1), 1) := by decide +kernel
theorem d_X_weight_2 : decode b_X_weight 2 = .ok (.iconst 3, 1) := by decide +kernel
theorem d_X_weight_3 : decode b_X_weight 3 = .ok (.invokestatic 55, 3) := by decide +kernel
theorem d_X_weight_6 : decode b_X_weight 6 = .ok (.ifCond .ne 10, 3) := by decide +kernel
theorem d_X_weight_9 : decode b_X_weight 9 = .ok (.aload_n 0, 1) := by decide +kernel
theorem d_X_weight_10 : decode b_X_weight 10 = .ok (.iconst 0, 1) := by decide +kernel
theorem d_X_weight_11 : decode b_X_weight 11 = .ok (.invokevirtual 59, 3) := by decide +kernel
theorem d_X_weight_14 : decode b_X_weight 14 = .ok (.i2l, 1) := by decide +kernel
theorem d_X_weight_15 : decode b_X_weight 15 = .ok (.lreturn, 1) := by decide +kernel
theorem d_X_weight_16 : decode b_X_weight 16 = .ok (.aload_n 0, 1) := by decide +kernel
theorem d_X_weight_17 : decode b_X_weight 17 = .ok (.getfield 25, 3) := by decide +kernel
theorem d_X_weight_20 : decode b_X_weight 20 = .ok (.aload_n 0, 1) := by decide +kernel
theorem d_X_weight_21 : decode b_X_weight 21 = .ok (.getfield 10, 3) := by decide +kernel
theorem d_X_weight_24 : decode b_X_weight 24 = .ok (.getfield 162, 3) := by decide +kernel
theorem d_X_weight_27 : decode b_X_weight 27 = .ok (.invokevirtual 188, 3) := by decide +kernel
theorem d_X_weight_30 : decode b_X_weight 30 = .ok (.iload_n 1, 1) := by decide +kernel
theorem d_X_weight_31 : decode b_X_weight 31 = .ok (.ifCond .ge 13, 3) := by decide +kernel
theorem d_X_weight_34 : decode b_X_weight 34 = .ok (.aload_n 0, 1) := by decide +kernel
theorem d_X_weight_35 : decode b_X_weight 35 = .ok (.getfield 25, 3) := by decide +kernel
theorem d_X_weight_38 : decode b_X_weight 38 = .ok (.invokevirtual 192, 3) := by decide +kernel
theorem d_X_weight_41 : decode b_X_weight 41 = .ok (.goto 12, 3) := by decide +kernel
theorem d_X_weight_44 : decode b_X_weight 44 = .ok (.aload_n 0, 1) := by decide +kernel
theorem d_X_weight_45 : decode b_X_weight 45 = .ok (.getfield 25, 3) := by decide +kernel
theorem d_X_weight_48 : decode b_X_weight 48 = .ok (.getfield 196, 3) := by decide +kernel
theorem d_X_weight_51 : decode b_X_weight 51 = .ok (.iload_n 1, 1) := by decide +kernel
theorem d_X_weight_52 : decode b_X_weight 52 = .ok (.laload, 1) := by decide +kernel
theorem d_X_weight_53 : decode b_X_weight 53 = .ok (.lreturn, 1) := by decide +kernel
theorem d_Pa_weigh_0 : decode b_Pa_weigh 0 = .ok (.aload_n 0, 1) := by decide +kernel
theorem d_Pa_weigh_1 : decode b_Pa_weigh 1 = .ok (.getfield 9, 3) := by decide +kernel
theorem d_Pa_weigh_4 : decode b_Pa_weigh 4 = .ok (.iconst 0, 1) := by decide +kernel
theorem d_Pa_weigh_5 : decode b_Pa_weigh 5 = .ok (.ldc2_w 18, 3) := by decide +kernel
theorem d_Pa_weigh_8 : decode b_Pa_weigh 8 = .ok (.lastore, 1) := by decide +kernel
theorem d_Pa_weigh_9 : decode b_Pa_weigh 9 = .ok (.iconst 1, 1) := by decide +kernel
theorem d_Pa_weigh_10 : decode b_Pa_weigh 10 = .ok (.istore_n 2, 1) := by decide +kernel
theorem d_Pa_weigh_11 : decode b_Pa_weigh 11 = .ok (.iload_n 2, 1) := by decide +kernel
theorem d_Pa_weigh_12 : decode b_Pa_weigh 12 = .ok (.iconst 4, 1) := by decide +kernel
theorem d_Pa_weigh_13 : decode b_Pa_weigh 13 = .ok (.if_icmp .ge 16, 3) := by decide +kernel
theorem d_Pa_weigh_16 : decode b_Pa_weigh 16 = .ok (.aload_n 0, 1) := by decide +kernel
theorem d_Pa_weigh_17 : decode b_Pa_weigh 17 = .ok (.getfield 9, 3) := by decide +kernel
theorem d_Pa_weigh_20 : decode b_Pa_weigh 20 = .ok (.iload_n 2, 1) := by decide +kernel
theorem d_Pa_weigh_21 : decode b_Pa_weigh 21 = .ok (.lconst 0, 1) := by decide +kernel
theorem d_Pa_weigh_22 : decode b_Pa_weigh 22 = .ok (.lastore, 1) := by decide +kernel
theorem d_Pa_weigh_23 : decode b_Pa_weigh 23 = .ok (.iinc 2 1, 3) := by decide +kernel
theorem d_Pa_weigh_26 : decode b_Pa_weigh 26 = .ok (.goto (-15), 3) := by decide +kernel
theorem d_Pa_weigh_29 : decode b_Pa_weigh 29 = .ok (.iconst 0, 1) := by decide +kernel
theorem d_Pa_weigh_30 : decode b_Pa_weigh 30 = .ok (.istore_n 2, 1) := by decide +kernel
theorem d_Pa_weigh_31 : decode b_Pa_weigh 31 = .ok (.iload_n 2, 1) := by decide +kernel
theorem d_Pa_weigh_32 : decode b_Pa_weigh 32 = .ok (.aload_n 1, 1) := by decide +kernel
theorem d_Pa_weigh_33 : decode b_Pa_weigh 33 = .ok (.getfield 20, 3) := by decide +kernel
theorem d_Pa_weigh_36 : decode b_Pa_weigh 36 = .ok (.if_icmp .ge 20, 3) := by decide +kernel
theorem d_Pa_weigh_39 : decode b_Pa_weigh 39 = .ok (.aload_n 0, 1) := by decide +kernel
theorem d_Pa_weigh_40 : decode b_Pa_weigh 40 = .ok (.aload_n 1, 1) := by decide +kernel
theorem d_Pa_weigh_41 : decode b_Pa_weigh 41 = .ok (.aload_n 1, 1) := by decide +kernel
theorem d_Pa_weigh_42 : decode b_Pa_weigh 42 = .ok (.getfield 26, 3) := by decide +kernel
theorem d_Pa_weigh_45 : decode b_Pa_weigh 45 = .ok (.iload_n 2, 1) := by decide +kernel
theorem d_Pa_weigh_46 : decode b_Pa_weigh 46 = .ok (.iaload, 1) := by decide +kernel
theorem d_Pa_weigh_47 : decode b_Pa_weigh 47 = .ok (.invokevirtual 30, 3) := by decide +kernel
theorem d_Pa_weigh_50 : decode b_Pa_weigh 50 = .ok (.iinc 2 1, 3) := by decide +kernel
theorem d_Pa_weigh_53 : decode b_Pa_weigh 53 = .ok (.goto (-22), 3) := by decide +kernel
theorem d_Pa_weigh_56 : decode b_Pa_weigh 56 = .ok (.return_, 1) := by decide +kernel
theorem d_Pa_see_0 : decode b_Pa_see 0 = .ok (.iconst 0, 1) := by decide +kernel
theorem d_Pa_see_1 : decode b_Pa_see 1 = .ok (.istore_n 3, 1) := by decide +kernel
theorem d_Pa_see_2 : decode b_Pa_see 2 = .ok (.iload_n 3, 1) := by decide +kernel
theorem d_Pa_see_3 : decode b_Pa_see 3 = .ok (.iconst 4, 1) := by decide +kernel
theorem d_Pa_see_4 : decode b_Pa_see 4 = .ok (.if_icmp .ge 57, 3) := by decide +kernel
theorem d_Pa_see_7 : decode b_Pa_see 7 = .ok (.aload_n 0, 1) := by decide +kernel
theorem d_Pa_see_8 : decode b_Pa_see 8 = .ok (.getfield 15, 3) := by decide +kernel
theorem d_Pa_see_11 : decode b_Pa_see 11 = .ok (.iload_n 3, 1) := by decide +kernel
theorem d_Pa_see_12 : decode b_Pa_see 12 = .ok (.lconst 0, 1) := by decide +kernel
theorem d_Pa_see_13 : decode b_Pa_see 13 = .ok (.lastore, 1) := by decide +kernel
theorem d_Pa_see_14 : decode b_Pa_see 14 = .ok (.iconst 0, 1) := by decide +kernel
theorem d_Pa_see_15 : decode b_Pa_see 15 = .ok (.istore 4, 2) := by decide +kernel
theorem d_Pa_see_17 : decode b_Pa_see 17 = .ok (.iload 4, 2) := by decide +kernel
theorem d_Pa_see_19 : decode b_Pa_see 19 = .ok (.iconst 4, 1) := by decide +kernel
theorem d_Pa_see_20 : decode b_Pa_see 20 = .ok (.if_icmp .ge 35, 3) := by decide +kernel
theorem d_Pa_see_23 : decode b_Pa_see 23 = .ok (.aload_n 0, 1) := by decide +kernel
theorem d_Pa_see_24 : decode b_Pa_see 24 = .ok (.getfield 15, 3) := by decide +kernel
theorem d_Pa_see_27 : decode b_Pa_see 27 = .ok (.iload_n 3, 1) := by decide +kernel
theorem d_Pa_see_28 : decode b_Pa_see 28 = .ok (.dup2, 1) := by decide +kernel
theorem d_Pa_see_29 : decode b_Pa_see 29 = .ok (.laload, 1) := by decide +kernel
theorem d_Pa_see_30 : decode b_Pa_see 30 = .ok (.aload_n 0, 1) := by decide +kernel
theorem d_Pa_see_31 : decode b_Pa_see 31 = .ok (.getfield 9, 3) := by decide +kernel
theorem d_Pa_see_34 : decode b_Pa_see 34 = .ok (.iload 4, 2) := by decide +kernel
theorem d_Pa_see_36 : decode b_Pa_see 36 = .ok (.laload, 1) := by decide +kernel
theorem d_Pa_see_37 : decode b_Pa_see 37 = .ok (.aload_n 1, 1) := by decide +kernel
theorem d_Pa_see_38 : decode b_Pa_see 38 = .ok (.iconst 0, 1) := by decide +kernel
theorem d_Pa_see_39 : decode b_Pa_see 39 = .ok (.iload 4, 2) := by decide +kernel
theorem d_Pa_see_41 : decode b_Pa_see 41 = .ok (.iload_n 3, 1) := by decide +kernel
theorem d_Pa_see_42 : decode b_Pa_see 42 = .ok (.invokevirtual 34, 3) := by decide +kernel
theorem d_Pa_see_45 : decode b_Pa_see 45 = .ok (.i2l, 1) := by decide +kernel
theorem d_Pa_see_46 : decode b_Pa_see 46 = .ok (.lmul, 1) := by decide +kernel
theorem d_Pa_see_47 : decode b_Pa_see 47 = .ok (.ladd, 1) := by decide +kernel
theorem d_Pa_see_48 : decode b_Pa_see 48 = .ok (.lastore, 1) := by decide +kernel
theorem d_Pa_see_49 : decode b_Pa_see 49 = .ok (.iinc 4 1, 3) := by decide +kernel
theorem d_Pa_see_52 : decode b_Pa_see 52 = .ok (.goto (-35), 3) := by decide +kernel
theorem d_Pa_see_55 : decode b_Pa_see 55 = .ok (.iinc 3 1, 3) := by decide +kernel
theorem d_Pa_see_58 : decode b_Pa_see 58 = .ok (.goto (-56), 3) := by decide +kernel
theorem d_Pa_see_61 : decode b_Pa_see 61 = .ok (.iconst 0, 1) := by decide +kernel
theorem d_Pa_see_62 : decode b_Pa_see 62 = .ok (.istore_n 3, 1) := by decide +kernel
theorem d_Pa_see_63 : decode b_Pa_see 63 = .ok (.iload_n 3, 1) := by decide +kernel
theorem d_Pa_see_64 : decode b_Pa_see 64 = .ok (.iconst 4, 1) := by decide +kernel
theorem d_Pa_see_65 : decode b_Pa_see 65 = .ok (.if_icmp .ge 30, 3) := by decide +kernel
theorem d_Pa_see_68 : decode b_Pa_see 68 = .ok (.aload_n 0, 1) := by decide +kernel
theorem d_Pa_see_69 : decode b_Pa_see 69 = .ok (.getfield 9, 3) := by decide +kernel
theorem d_Pa_see_72 : decode b_Pa_see 72 = .ok (.iload_n 3, 1) := by decide +kernel
theorem d_Pa_see_73 : decode b_Pa_see 73 = .ok (.aload_n 0, 1) := by decide +kernel
theorem d_Pa_see_74 : decode b_Pa_see 74 = .ok (.getfield 15, 3) := by decide +kernel
theorem d_Pa_see_77 : decode b_Pa_see 77 = .ok (.iload_n 3, 1) := by decide +kernel
theorem d_Pa_see_78 : decode b_Pa_see 78 = .ok (.laload, 1) := by decide +kernel
theorem d_Pa_see_79 : decode b_Pa_see 79 = .ok (.aload_n 1, 1) := by decide +kernel
theorem d_Pa_see_80 : decode b_Pa_see 80 = .ok (.iconst 1, 1) := by decide +kernel
theorem d_Pa_see_81 : decode b_Pa_see 81 = .ok (.iload_n 3, 1) := by decide +kernel
theorem d_Pa_see_82 : decode b_Pa_see 82 = .ok (.iload_n 2, 1) := by decide +kernel
theorem d_Pa_see_83 : decode b_Pa_see 83 = .ok (.invokevirtual 34, 3) := by decide +kernel
theorem d_Pa_see_86 : decode b_Pa_see 86 = .ok (.i2l, 1) := by decide +kernel
theorem d_Pa_see_87 : decode b_Pa_see 87 = .ok (.lmul, 1) := by decide +kernel
theorem d_Pa_see_88 : decode b_Pa_see 88 = .ok (.lastore, 1) := by decide +kernel
theorem d_Pa_see_89 : decode b_Pa_see 89 = .ok (.iinc 3 1, 3) := by decide +kernel
theorem d_Pa_see_92 : decode b_Pa_see 92 = .ok (.goto (-29), 3) := by decide +kernel
theorem d_Pa_see_95 : decode b_Pa_see 95 = .ok (.return_, 1) := by decide +kernel
theorem d_Pa_all_0 : decode b_Pa_all 0 = .ok (.lconst 0, 1) := by decide +kernel
theorem d_Pa_all_1 : decode b_Pa_all 1 = .ok (.lstore_n 1, 1) := by decide +kernel
theorem d_Pa_all_2 : decode b_Pa_all 2 = .ok (.aload_n 0, 1) := by decide +kernel
theorem d_Pa_all_3 : decode b_Pa_all 3 = .ok (.getfield 9, 3) := by decide +kernel
theorem d_Pa_all_6 : decode b_Pa_all 6 = .ok (.astore_n 3, 1) := by decide +kernel
theorem d_Pa_all_7 : decode b_Pa_all 7 = .ok (.aload_n 3, 1) := by decide +kernel
theorem d_Pa_all_8 : decode b_Pa_all 8 = .ok (.arraylength, 1) := by decide +kernel
theorem d_Pa_all_9 : decode b_Pa_all 9 = .ok (.istore 4, 2) := by decide +kernel
theorem d_Pa_all_11 : decode b_Pa_all 11 = .ok (.iconst 0, 1) := by decide +kernel
theorem d_Pa_all_12 : decode b_Pa_all 12 = .ok (.istore 5, 2) := by decide +kernel
theorem d_Pa_all_14 : decode b_Pa_all 14 = .ok (.iload 5, 2) := by decide +kernel
theorem d_Pa_all_16 : decode b_Pa_all 16 = .ok (.iload 4, 2) := by decide +kernel
theorem d_Pa_all_18 : decode b_Pa_all 18 = .ok (.if_icmp .ge 20, 3) := by decide +kernel
theorem d_Pa_all_21 : decode b_Pa_all 21 = .ok (.aload_n 3, 1) := by decide +kernel
theorem d_Pa_all_22 : decode b_Pa_all 22 = .ok (.iload 5, 2) := by decide +kernel
theorem d_Pa_all_24 : decode b_Pa_all 24 = .ok (.laload, 1) := by decide +kernel
theorem d_Pa_all_25 : decode b_Pa_all 25 = .ok (.lstore 6, 2) := by decide +kernel
theorem d_Pa_all_27 : decode b_Pa_all 27 = .ok (.lload_n 1, 1) := by decide +kernel
theorem d_Pa_all_28 : decode b_Pa_all 28 = .ok (.lload 6, 2) := by decide +kernel
theorem d_Pa_all_30 : decode b_Pa_all 30 = .ok (.ladd, 1) := by decide +kernel
theorem d_Pa_all_31 : decode b_Pa_all 31 = .ok (.lstore_n 1, 1) := by decide +kernel
theorem d_Pa_all_32 : decode b_Pa_all 32 = .ok (.iinc 5 1, 3) := by decide +kernel
theorem d_Pa_all_35 : decode b_Pa_all 35 = .ok (.goto (-21), 3) := by decide +kernel
theorem d_Pa_all_38 : decode b_Pa_all 38 = .ok (.lload_n 1, 1) := by decide +kernel
theorem d_Pa_all_39 : decode b_Pa_all 39 = .ok (.lreturn, 1) := by decide +kernel
theorem d_X_likeliest_0 : decode b_X_likeliest 0 = .ok (.aload_n 0, 1) := by decide +kernel
theorem d_X_likeliest_1 : decode b_X_likeliest 1 = .ok (.getfield 25, 3) := by decide +kernel
theorem d_X_likeliest_4 : decode b_X_likeliest 4 = .ok (.aload_n 0, 1) := by decide +kernel
theorem d_X_likeliest_5 : decode b_X_likeliest 5 = .ok (.getfield 10, 3) := by decide +kernel
theorem d_X_likeliest_8 : decode b_X_likeliest 8 = .ok (.getfield 162, 3) := by decide +kernel
theorem d_X_likeliest_11 : decode b_X_likeliest 11 = .ok (.invokevirtual 188, 3) := by decide +kernel
theorem d_X_likeliest_14 : decode b_X_likeliest 14 = .ok (.aload_n 0, 1) := by decide +kernel
theorem d_X_likeliest_15 : decode b_X_likeliest 15 = .ok (.getfield 25, 3) := by decide +kernel
theorem d_X_likeliest_18 : decode b_X_likeliest 18 = .ok (.invokevirtual 192, 3) := by decide +kernel
theorem d_X_likeliest_21 : decode b_X_likeliest 21 = .ok (.lconst 0, 1) := by decide +kernel
theorem d_X_likeliest_22 : decode b_X_likeliest 22 = .ok (.lcmp, 1) := by decide +kernel
theorem d_X_likeliest_23 : decode b_X_likeliest 23 = .ok (.ifCond .ne 9, 3) := by decide +kernel
theorem d_X_likeliest_26 : decode b_X_likeliest 26 = .ok (.aload_n 0, 1) := by decide +kernel
theorem d_X_likeliest_27 : decode b_X_likeliest 27 = .ok (.iconst 3, 1) := by decide +kernel
theorem d_X_likeliest_28 : decode b_X_likeliest 28 = .ok (.invokevirtual 59, 3) := by decide +kernel
theorem d_X_likeliest_31 : decode b_X_likeliest 31 = .ok (.ireturn, 1) := by decide +kernel
theorem d_X_likeliest_32 : decode b_X_likeliest 32 = .ok (.iconst 0, 1) := by decide +kernel
theorem d_X_likeliest_33 : decode b_X_likeliest 33 = .ok (.istore_n 1, 1) := by decide +kernel
theorem d_X_likeliest_34 : decode b_X_likeliest 34 = .ok (.iconst 1, 1) := by decide +kernel
theorem d_X_likeliest_35 : decode b_X_likeliest 35 = .ok (.istore_n 2, 1) := by decide +kernel
theorem d_X_likeliest_36 : decode b_X_likeliest 36 = .ok (.iload_n 2, 1) := by decide +kernel
theorem d_X_likeliest_37 : decode b_X_likeliest 37 = .ok (.iconst 4, 1) := by decide +kernel
theorem d_X_likeliest_38 : decode b_X_likeliest 38 = .ok (.if_icmp .ge 33, 3) := by decide +kernel
theorem d_X_likeliest_41 : decode b_X_likeliest 41 = .ok (.aload_n 0, 1) := by decide +kernel
theorem d_X_likeliest_42 : decode b_X_likeliest 42 = .ok (.getfield 25, 3) := by decide +kernel
theorem d_X_likeliest_45 : decode b_X_likeliest 45 = .ok (.getfield 196, 3) := by decide +kernel
theorem d_X_likeliest_48 : decode b_X_likeliest 48 = .ok (.iload_n 2, 1) := by decide +kernel
theorem d_X_likeliest_49 : decode b_X_likeliest 49 = .ok (.laload, 1) := by decide +kernel
theorem d_X_likeliest_50 : decode b_X_likeliest 50 = .ok (.aload_n 0, 1) := by decide +kernel
theorem d_X_likeliest_51 : decode b_X_likeliest 51 = .ok (.getfield 25, 3) := by decide +kernel
theorem d_X_likeliest_54 : decode b_X_likeliest 54 = .ok (.getfield 196, 3) := by decide +kernel
theorem d_X_likeliest_57 : decode b_X_likeliest 57 = .ok (.iload_n 1, 1) := by decide +kernel
theorem d_X_likeliest_58 : decode b_X_likeliest 58 = .ok (.laload, 1) := by decide +kernel
theorem d_X_likeliest_59 : decode b_X_likeliest 59 = .ok (.lcmp, 1) := by decide +kernel
theorem d_X_likeliest_60 : decode b_X_likeliest 60 = .ok (.ifCond .le 5, 3) := by decide +kernel
theorem d_X_likeliest_63 : decode b_X_likeliest 63 = .ok (.iload_n 2, 1) := by decide +kernel
theorem d_X_likeliest_64 : decode b_X_likeliest 64 = .ok (.istore_n 1, 1) := by decide +kernel
theorem d_X_likeliest_65 : decode b_X_likeliest 65 = .ok (.iinc 2 1, 3) := by decide +kernel
theorem d_X_likeliest_68 : decode b_X_likeliest 68 = .ok (.goto (-32), 3) := by decide +kernel
theorem d_X_likeliest_71 : decode b_X_likeliest 71 = .ok (.iload_n 1, 1) := by decide +kernel
theorem d_X_likeliest_72 : decode b_X_likeliest 72 = .ok (.ireturn, 1) := by decide +kernel
theorem d_X_flee_0 : decode b_X_flee 0 = .ok (.iload_n 1, 1) := by decide +kernel
theorem d_X_flee_1 : decode b_X_flee 1 = .ok (.iconst 0, 1) := by decide +kernel
theorem d_X_flee_2 : decode b_X_flee 2 = .ok (.bipush 10, 2) := by decide +kernel
theorem d_X_flee_4 : decode b_X_flee 4 = .ok (.invokestatic 55, 3) := by decide +kernel
theorem d_X_flee_7 : decode b_X_flee 7 = .ok (.ifCond .ne 9, 3) := by decide +kernel
theorem d_X_flee_10 : decode b_X_flee 10 = .ok (.aload_n 0, 1) := by decide +kernel
theorem d_X_flee_11 : decode b_X_flee 11 = .ok (.iconst 0, 1) := by decide +kernel
theorem d_X_flee_12 : decode b_X_flee 12 = .ok (.invokevirtual 59, 3) := by decide +kernel
theorem d_X_flee_15 : decode b_X_flee 15 = .ok (.ireturn, 1) := by decide +kernel
theorem d_X_flee_16 : decode b_X_flee 16 = .ok (.aload_n 0, 1) := by decide +kernel
theorem d_X_flee_17 : decode b_X_flee 17 = .ok (.getfield 25, 3) := by decide +kernel
theorem d_X_flee_20 : decode b_X_flee 20 = .ok (.aload_n 0, 1) := by decide +kernel
theorem d_X_flee_21 : decode b_X_flee 21 = .ok (.getfield 10, 3) := by decide +kernel
theorem d_X_flee_24 : decode b_X_flee 24 = .ok (.getfield 162, 3) := by decide +kernel
theorem d_X_flee_27 : decode b_X_flee 27 = .ok (.invokevirtual 188, 3) := by decide +kernel
theorem d_X_flee_30 : decode b_X_flee 30 = .ok (.aload_n 0, 1) := by decide +kernel
theorem d_X_flee_31 : decode b_X_flee 31 = .ok (.getfield 25, 3) := by decide +kernel
theorem d_X_flee_34 : decode b_X_flee 34 = .ok (.invokevirtual 192, 3) := by decide +kernel
theorem d_X_flee_37 : decode b_X_flee 37 = .ok (.lstore_n 2, 1) := by decide +kernel
theorem d_X_flee_38 : decode b_X_flee 38 = .ok (.lload_n 2, 1) := by decide +kernel
theorem d_X_flee_39 : decode b_X_flee 39 = .ok (.lconst 0, 1) := by decide +kernel
theorem d_X_flee_40 : decode b_X_flee 40 = .ok (.lcmp, 1) := by decide +kernel
theorem d_X_flee_41 : decode b_X_flee 41 = .ok (.ifCond .ne 9, 3) := by decide +kernel
theorem d_X_flee_44 : decode b_X_flee 44 = .ok (.aload_n 0, 1) := by decide +kernel
theorem d_X_flee_45 : decode b_X_flee 45 = .ok (.iconst 3, 1) := by decide +kernel
theorem d_X_flee_46 : decode b_X_flee 46 = .ok (.invokevirtual 59, 3) := by decide +kernel
theorem d_X_flee_49 : decode b_X_flee 49 = .ok (.ireturn, 1) := by decide +kernel
theorem d_X_flee_50 : decode b_X_flee 50 = .ok (.ldc2_w 200, 3) := by decide +kernel
theorem d_X_flee_53 : decode b_X_flee 53 = .ok (.aload_n 0, 1) := by decide +kernel
theorem d_X_flee_54 : decode b_X_flee 54 = .ok (.getfield 25, 3) := by decide +kernel
theorem d_X_flee_57 : decode b_X_flee 57 = .ok (.getfield 196, 3) := by decide +kernel
theorem d_X_flee_60 : decode b_X_flee 60 = .ok (.iconst 2, 1) := by decide +kernel
theorem d_X_flee_61 : decode b_X_flee 61 = .ok (.laload, 1) := by decide +kernel
theorem d_X_flee_62 : decode b_X_flee 62 = .ok (.aload_n 0, 1) := by decide +kernel
theorem d_X_flee_63 : decode b_X_flee 63 = .ok (.getfield 25, 3) := by decide +kernel
theorem d_X_flee_66 : decode b_X_flee 66 = .ok (.getfield 196, 3) := by decide +kernel
theorem d_X_flee_69 : decode b_X_flee 69 = .ok (.iconst 3, 1) := by decide +kernel
theorem d_X_flee_70 : decode b_X_flee 70 = .ok (.laload, 1) := by decide +kernel
theorem d_X_flee_71 : decode b_X_flee 71 = .ok (.ladd, 1) := by decide +kernel
theorem d_X_flee_72 : decode b_X_flee 72 = .ok (.lmul, 1) := by decide +kernel
theorem d_X_flee_73 : decode b_X_flee 73 = .ok (.iload_n 1, 1) := by decide +kernel
theorem d_X_flee_74 : decode b_X_flee 74 = .ok (.i2l, 1) := by decide +kernel
theorem d_X_flee_75 : decode b_X_flee 75 = .ok (.lload_n 2, 1) := by decide +kernel
theorem d_X_flee_76 : decode b_X_flee 76 = .ok (.lmul, 1) := by decide +kernel
theorem d_X_flee_77 : decode b_X_flee 77 = .ok (.lcmp, 1) := by decide +kernel
theorem d_X_flee_78 : decode b_X_flee 78 = .ok (.ifCond .lt 7, 3) := by decide +kernel
theorem d_X_flee_81 : decode b_X_flee 81 = .ok (.iconst 1, 1) := by decide +kernel
theorem d_X_flee_82 : decode b_X_flee 82 = .ok (.goto 4, 3) := by decide +kernel
theorem d_X_flee_85 : decode b_X_flee 85 = .ok (.iconst 0, 1) := by decide +kernel
theorem d_X_flee_86 : decode b_X_flee 86 = .ok (.ireturn, 1) := by decide +kernel
theorem d_X_dread_0 : decode b_X_dread 0 = .ok (.aload_n 0, 1) := by decide +kernel
theorem d_X_dread_1 : decode b_X_dread 1 = .ok (.getfield 10, 3) := by decide +kernel
theorem d_X_dread_4 : decode b_X_dread 4 = .ok (.getfield 162, 3) := by decide +kernel
theorem d_X_dread_7 : decode b_X_dread 7 = .ok (.invokevirtual 178, 3) := by decide +kernel
theorem d_X_dread_10 : decode b_X_dread 10 = .ok (.ifCond .eq 9, 3) := by decide +kernel
theorem d_X_dread_13 : decode b_X_dread 13 = .ok (.aload_n 0, 1) := by decide +kernel
theorem d_X_dread_14 : decode b_X_dread 14 = .ok (.iconst 3, 1) := by decide +kernel
theorem d_X_dread_15 : decode b_X_dread 15 = .ok (.invokevirtual 59, 3) := by decide +kernel
theorem d_X_dread_18 : decode b_X_dread 18 = .ok (.ireturn, 1) := by decide +kernel
theorem d_X_dread_19 : decode b_X_dread 19 = .ok (.iconst (-1), 1) := by decide +kernel
theorem d_X_dread_20 : decode b_X_dread 20 = .ok (.istore_n 1, 1) := by decide +kernel
theorem d_X_dread_21 : decode b_X_dread 21 = .ok (.ldc2_w 202, 3) := by decide +kernel
theorem d_X_dread_24 : decode b_X_dread 24 = .ok (.lstore_n 2, 1) := by decide +kernel
theorem d_X_dread_25 : decode b_X_dread 25 = .ok (.iconst 0, 1) := by decide +kernel
theorem d_X_dread_26 : decode b_X_dread 26 = .ok (.istore 4, 2) := by decide +kernel
theorem d_X_dread_28 : decode b_X_dread 28 = .ok (.iload 4, 2) := by decide +kernel
theorem d_X_dread_30 : decode b_X_dread 30 = .ok (.iconst 4, 1) := by decide +kernel
theorem d_X_dread_31 : decode b_X_dread 31 = .ok (.if_icmp .ge 92, 3) := by decide +kernel
theorem d_X_dread_34 : decode b_X_dread 34 = .ok (.aload_n 0, 1) := by decide +kernel
theorem d_X_dread_35 : decode b_X_dread 35 = .ok (.getfield 25, 3) := by decide +kernel
theorem d_X_dread_38 : decode b_X_dread 38 = .ok (.aload_n 0, 1) := by decide +kernel
theorem d_X_dread_39 : decode b_X_dread 39 = .ok (.getfield 10, 3) := by decide +kernel
theorem d_X_dread_42 : decode b_X_dread 42 = .ok (.getfield 162, 3) := by decide +kernel
theorem d_X_dread_45 : decode b_X_dread 45 = .ok (.invokevirtual 188, 3) := by decide +kernel
theorem d_X_dread_48 : decode b_X_dread 48 = .ok (.aload_n 0, 1) := by decide +kernel
theorem d_X_dread_49 : decode b_X_dread 49 = .ok (.getfield 25, 3) := by decide +kernel
theorem d_X_dread_52 : decode b_X_dread 52 = .ok (.aload_n 0, 1) := by decide +kernel
theorem d_X_dread_53 : decode b_X_dread 53 = .ok (.getfield 10, 3) := by decide +kernel
theorem d_X_dread_56 : decode b_X_dread 56 = .ok (.getfield 162, 3) := by decide +kernel
theorem d_X_dread_59 : decode b_X_dread 59 = .ok (.iload 4, 2) := by decide +kernel
theorem d_X_dread_61 : decode b_X_dread 61 = .ok (.invokevirtual 204, 3) := by decide +kernel
theorem d_X_dread_64 : decode b_X_dread 64 = .ok (.aload_n 0, 1) := by decide +kernel
theorem d_X_dread_65 : decode b_X_dread 65 = .ok (.getfield 25, 3) := by decide +kernel
theorem d_X_dread_68 : decode b_X_dread 68 = .ok (.invokevirtual 192, 3) := by decide +kernel
theorem d_X_dread_71 : decode b_X_dread 71 = .ok (.lstore 5, 2) := by decide +kernel
theorem d_X_dread_73 : decode b_X_dread 73 = .ok (.lload 5, 2) := by decide +kernel
theorem d_X_dread_75 : decode b_X_dread 75 = .ok (.lconst 0, 1) := by decide +kernel
theorem d_X_dread_76 : decode b_X_dread 76 = .ok (.lcmp, 1) := by decide +kernel
theorem d_X_dread_77 : decode b_X_dread 77 = .ok (.ifCond .le 22, 3) := by decide +kernel
theorem d_X_dread_80 : decode b_X_dread 80 = .ok (.ldc2_w 208, 3) := by decide +kernel
theorem d_X_dread_83 : decode b_X_dread 83 = .ok (.aload_n 0, 1) := by decide +kernel
theorem d_X_dread_84 : decode b_X_dread 84 = .ok (.getfield 25, 3) := by decide +kernel
theorem d_X_dread_87 : decode b_X_dread 87 = .ok (.getfield 196, 3) := by decide +kernel
theorem d_X_dread_90 : decode b_X_dread 90 = .ok (.iconst 3, 1) := by decide +kernel
theorem d_X_dread_91 : decode b_X_dread 91 = .ok (.laload, 1) := by decide +kernel
theorem d_X_dread_92 : decode b_X_dread 92 = .ok (.lmul, 1) := by decide +kernel
theorem d_X_dread_93 : decode b_X_dread 93 = .ok (.lload 5, 2) := by decide +kernel
theorem d_X_dread_95 : decode b_X_dread 95 = .ok (.ldiv, 1) := by decide +kernel
theorem d_X_dread_96 : decode b_X_dread 96 = .ok (.goto 6, 3) := by decide +kernel
theorem d_X_dread_99 : decode b_X_dread 99 = .ok (.ldc2_w 202, 3) := by decide +kernel
theorem d_X_dread_102 : decode b_X_dread 102 = .ok (.lstore 7, 2) := by decide +kernel
theorem d_X_dread_104 : decode b_X_dread 104 = .ok (.lload 7, 2) := by decide +kernel
theorem d_X_dread_106 : decode b_X_dread 106 = .ok (.lload_n 2, 1) := by decide +kernel
theorem d_X_dread_107 : decode b_X_dread 107 = .ok (.lcmp, 1) := by decide +kernel
theorem d_X_dread_108 : decode b_X_dread 108 = .ok (.ifCond .le 9, 3) := by decide +kernel
theorem d_X_dread_111 : decode b_X_dread 111 = .ok (.lload 7, 2) := by decide +kernel
theorem d_X_dread_113 : decode b_X_dread 113 = .ok (.lstore_n 2, 1) := by decide +kernel
theorem d_X_dread_114 : decode b_X_dread 114 = .ok (.iload 4, 2) := by decide +kernel
theorem d_X_dread_116 : decode b_X_dread 116 = .ok (.istore_n 1, 1) := by decide +kernel
theorem d_X_dread_117 : decode b_X_dread 117 = .ok (.iinc 4 1, 3) := by decide +kernel
theorem d_X_dread_120 : decode b_X_dread 120 = .ok (.goto (-92), 3) := by decide +kernel
theorem d_X_dread_123 : decode b_X_dread 123 = .ok (.iload_n 1, 1) := by decide +kernel
theorem d_X_dread_124 : decode b_X_dread 124 = .ok (.ifCond .ge 11, 3) := by decide +kernel
theorem d_X_dread_127 : decode b_X_dread 127 = .ok (.aload_n 0, 1) := by decide +kernel
theorem d_X_dread_128 : decode b_X_dread 128 = .ok (.iconst 3, 1) := by decide +kernel
theorem d_X_dread_129 : decode b_X_dread 129 = .ok (.invokevirtual 59, 3) := by decide +kernel
theorem d_X_dread_132 : decode b_X_dread 132 = .ok (.goto 4, 3) := by decide +kernel
theorem d_X_dread_135 : decode b_X_dread 135 = .ok (.iload_n 1, 1) := by decide +kernel
theorem d_X_dread_136 : decode b_X_dread 136 = .ok (.ireturn, 1) := by decide +kernel
theorem d_X_flow_0 : decode b_X_flow 0 = .ok (.iload_n 1, 1) := by decide +kernel
theorem d_X_flow_1 : decode b_X_flow 1 = .ok (.invokestatic 51, 3) := by decide +kernel
theorem d_X_flow_4 : decode b_X_flow 4 = .ok (.ifCond .eq 10, 3) := by decide +kernel
theorem d_X_flow_7 : decode b_X_flow 7 = .ok (.iload_n 2, 1) := by decide +kernel
theorem d_X_flow_8 : decode b_X_flow 8 = .ok (.invokestatic 210, 3) := by decide +kernel
theorem d_X_flow_11 : decode b_X_flow 11 = .ok (.ifCond .ne 10, 3) := by decide +kernel
theorem d_X_flow_14 : decode b_X_flow 14 = .ok (.aload_n 0, 1) := by decide +kernel
theorem d_X_flow_15 : decode b_X_flow 15 = .ok (.iconst 0, 1) := by decide +kernel
theorem d_X_flow_16 : decode b_X_flow 16 = .ok (.invokevirtual 59, 3) := by decide +kernel
theorem d_X_flow_19 : decode b_X_flow 19 = .ok (.i2l, 1) := by decide +kernel
theorem d_X_flow_20 : decode b_X_flow 20 = .ok (.lreturn, 1) := by decide +kernel
theorem d_X_flow_21 : decode b_X_flow 21 = .ok (.aload_n 0, 1) := by decide +kernel
theorem d_X_flow_22 : decode b_X_flow 22 = .ok (.getfield 19, 3) := by decide +kernel
theorem d_X_flow_25 : decode b_X_flow 25 = .ok (.getfield 63, 3) := by decide +kernel
theorem d_X_flow_28 : decode b_X_flow 28 = .ok (.aload_n 0, 1) := by decide +kernel
theorem d_X_flow_29 : decode b_X_flow 29 = .ok (.getfield 10, 3) := by decide +kernel
theorem d_X_flow_32 : decode b_X_flow 32 = .ok (.getfield 63, 3) := by decide +kernel
theorem d_X_flow_35 : decode b_X_flow 35 = .ok (.invokevirtual 213, 3) := by decide +kernel
theorem d_X_flow_38 : decode b_X_flow 38 = .ok (.aload_n 0, 1) := by decide +kernel
theorem d_X_flow_39 : decode b_X_flow 39 = .ok (.getfield 19, 3) := by decide +kernel
theorem d_X_flow_42 : decode b_X_flow 42 = .ok (.getfield 63, 3) := by decide +kernel
theorem d_X_flow_45 : decode b_X_flow 45 = .ok (.iload_n 1, 1) := by decide +kernel
theorem d_X_flow_46 : decode b_X_flow 46 = .ok (.iload_n 2, 1) := by decide +kernel
theorem d_X_flow_47 : decode b_X_flow 47 = .ok (.invokevirtual 217, 3) := by decide +kernel
theorem d_X_flow_50 : decode b_X_flow 50 = .ok (.lreturn, 1) := by decide +kernel
theorem d_X_isVolume_0 : decode b_X_isVolume 0 = .ok (.iload_n 0, 1) := by decide +kernel
theorem d_X_isVolume_1 : decode b_X_isVolume 1 = .ok (.iconst 1, 1) := by decide +kernel
theorem d_X_isVolume_2 : decode b_X_isVolume 2 = .ok (.bipush 99, 2) := by decide +kernel
theorem d_X_isVolume_4 : decode b_X_isVolume 4 = .ok (.invokestatic 55, 3) := by decide +kernel
theorem d_X_isVolume_7 : decode b_X_isVolume 7 = .ok (.ireturn, 1) := by decide +kernel
theorem d_Gr_become_0 : decode b_Gr_become 0 = .ok (.aload_n 1, 1) := by decide +kernel
theorem d_Gr_become_1 : decode b_Gr_become 1 = .ok (.getfield 9, 3) := by decide +kernel
theorem d_Gr_become_4 : decode b_Gr_become 4 = .ok (.iconst 0, 1) := by decide +kernel
theorem d_Gr_become_5 : decode b_Gr_become 5 = .ok (.aload_n 0, 1) := by decide +kernel
theorem d_Gr_become_6 : decode b_Gr_become 6 = .ok (.getfield 9, 3) := by decide +kernel
theorem d_Gr_become_9 : decode b_Gr_become 9 = .ok (.iconst 0, 1) := by decide +kernel
theorem d_Gr_become_10 : decode b_Gr_become 10 = .ok (.bipush 36, 2) := by decide +kernel
theorem d_Gr_become_12 : decode b_Gr_become 12 = .ok (.invokestatic 38, 3) := by decide +kernel
theorem d_Gr_become_15 : decode b_Gr_become 15 = .ok (.aload_n 1, 1) := by decide +kernel
theorem d_Gr_become_16 : decode b_Gr_become 16 = .ok (.getfield 15, 3) := by decide +kernel
theorem d_Gr_become_19 : decode b_Gr_become 19 = .ok (.iconst 0, 1) := by decide +kernel
theorem d_Gr_become_20 : decode b_Gr_become 20 = .ok (.aload_n 0, 1) := by decide +kernel
theorem d_Gr_become_21 : decode b_Gr_become 21 = .ok (.getfield 15, 3) := by decide +kernel
theorem d_Gr_become_24 : decode b_Gr_become 24 = .ok (.iconst 0, 1) := by decide +kernel
theorem d_Gr_become_25 : decode b_Gr_become 25 = .ok (.bipush 36, 2) := by decide +kernel
theorem d_Gr_become_27 : decode b_Gr_become 27 = .ok (.invokestatic 38, 3) := by decide +kernel
theorem d_Gr_become_30 : decode b_Gr_become 30 = .ok (.aload_n 1, 1) := by decide +kernel
theorem d_Gr_become_31 : decode b_Gr_become 31 = .ok (.getfield 18, 3) := by decide +kernel
theorem d_Gr_become_34 : decode b_Gr_become 34 = .ok (.iconst 0, 1) := by decide +kernel
theorem d_Gr_become_35 : decode b_Gr_become 35 = .ok (.aload_n 0, 1) := by decide +kernel
theorem d_Gr_become_36 : decode b_Gr_become 36 = .ok (.getfield 18, 3) := by decide +kernel
theorem d_Gr_become_39 : decode b_Gr_become 39 = .ok (.iconst 0, 1) := by decide +kernel
theorem d_Gr_become_40 : decode b_Gr_become 40 = .ok (.bipush 36, 2) := by decide +kernel
theorem d_Gr_become_42 : decode b_Gr_become 42 = .ok (.invokestatic 38, 3) := by decide +kernel
theorem d_Gr_become_45 : decode b_Gr_become 45 = .ok (.aload_n 0, 1) := by decide +kernel
theorem d_Gr_become_46 : decode b_Gr_become 46 = .ok (.aload_n 1, 1) := by decide +kernel
theorem d_Gr_become_47 : decode b_Gr_become 47 = .ok (.getfield 21, 3) := by decide +kernel
theorem d_Gr_become_50 : decode b_Gr_become 50 = .ok (.putfield 21, 3) := by decide +kernel
theorem d_Gr_become_53 : decode b_Gr_become 53 = .ok (.aload_n 0, 1) := by decide +kernel
theorem d_Gr_become_54 : decode b_Gr_become 54 = .ok (.aload_n 1, 1) := by decide +kernel
theorem d_Gr_become_55 : decode b_Gr_become 55 = .ok (.getfield 25, 3) := by decide +kernel
theorem d_Gr_become_58 : decode b_Gr_become 58 = .ok (.putfield 25, 3) := by decide +kernel
theorem d_Gr_become_61 : decode b_Gr_become 61 = .ok (.return_, 1) := by decide +kernel
theorem d_Gr_lavaFrom_0 : decode b_Gr_lavaFrom 0 = .ok (.iload_n 1, 1) := by decide +kernel
theorem d_Gr_lavaFrom_1 : decode b_Gr_lavaFrom 1 = .ok (.istore_n 3, 1) := by decide +kernel
theorem d_Gr_lavaFrom_2 : decode b_Gr_lavaFrom 2 = .ok (.lconst 1, 1) := by decide +kernel
theorem d_Gr_lavaFrom_3 : decode b_Gr_lavaFrom 3 = .ok (.iload_n 3, 1) := by decide +kernel
theorem d_Gr_lavaFrom_4 : decode b_Gr_lavaFrom 4 = .ok (.lshl, 1) := by decide +kernel
theorem d_Gr_lavaFrom_5 : decode b_Gr_lavaFrom 5 = .ok (.lstore 4, 2) := by decide +kernel
theorem d_Gr_lavaFrom_7 : decode b_Gr_lavaFrom 7 = .ok (.iconst 1, 1) := by decide +kernel
theorem d_Gr_lavaFrom_8 : decode b_Gr_lavaFrom 8 = .ok (.istore 6, 2) := by decide +kernel
theorem d_Gr_lavaFrom_10 : decode b_Gr_lavaFrom 10 = .ok (.iload 6, 2) := by decide +kernel
theorem d_Gr_lavaFrom_12 : decode b_Gr_lavaFrom 12 = .ok (.iload_n 2, 1) := by decide +kernel
theorem d_Gr_lavaFrom_13 : decode b_Gr_lavaFrom 13 = .ok (.if_icmp .ge 23, 3) := by decide +kernel
theorem d_Gr_lavaFrom_16 : decode b_Gr_lavaFrom 16 = .ok (.aload_n 0, 1) := by decide +kernel
theorem d_Gr_lavaFrom_17 : decode b_Gr_lavaFrom 17 = .ok (.iload_n 3, 1) := by decide +kernel
theorem d_Gr_lavaFrom_18 : decode b_Gr_lavaFrom 18 = .ok (.invokevirtual 52, 3) := by decide +kernel
theorem d_Gr_lavaFrom_21 : decode b_Gr_lavaFrom 21 = .ok (.istore_n 3, 1) := by decide +kernel
theorem d_Gr_lavaFrom_22 : decode b_Gr_lavaFrom 22 = .ok (.lload 4, 2) := by decide +kernel
theorem d_Gr_lavaFrom_24 : decode b_Gr_lavaFrom 24 = .ok (.lconst 1, 1) := by decide +kernel
theorem d_Gr_lavaFrom_25 : decode b_Gr_lavaFrom 25 = .ok (.iload_n 3, 1) := by decide +kernel
theorem d_Gr_lavaFrom_26 : decode b_Gr_lavaFrom 26 = .ok (.lshl, 1) := by decide +kernel
theorem d_Gr_lavaFrom_27 : decode b_Gr_lavaFrom 27 = .ok (.lor, 1) := by decide +kernel
theorem d_Gr_lavaFrom_28 : decode b_Gr_lavaFrom 28 = .ok (.lstore 4, 2) := by decide +kernel
theorem d_Gr_lavaFrom_30 : decode b_Gr_lavaFrom 30 = .ok (.iinc 6 1, 3) := by decide +kernel
theorem d_Gr_lavaFrom_33 : decode b_Gr_lavaFrom 33 = .ok (.goto (-23), 3) := by decide +kernel
theorem d_Gr_lavaFrom_36 : decode b_Gr_lavaFrom 36 = .ok (.lload 4, 2) := by decide +kernel
theorem d_Gr_lavaFrom_38 : decode b_Gr_lavaFrom 38 = .ok (.lreturn, 1) := by decide +kernel
theorem d_Gr_lavaGoesOn_0 : decode b_Gr_lavaGoesOn 0 = .ok (.iload_n 1, 1) := by decide +kernel
theorem d_Gr_lavaGoesOn_1 : decode b_Gr_lavaGoesOn 1 = .ok (.invokestatic 58, 3) := by decide +kernel
theorem d_Gr_lavaGoesOn_4 : decode b_Gr_lavaGoesOn 4 = .ok (.ifCond .ne 5, 3) := by decide +kernel
theorem d_Gr_lavaGoesOn_7 : decode b_Gr_lavaGoesOn 7 = .ok (.iload_n 1, 1) := by decide +kernel
theorem d_Gr_lavaGoesOn_8 : decode b_Gr_lavaGoesOn 8 = .ok (.ireturn, 1) := by decide +kernel
theorem d_Gr_lavaGoesOn_9 : decode b_Gr_lavaGoesOn 9 = .ok (.iload_n 1, 1) := by decide +kernel
theorem d_Gr_lavaGoesOn_10 : decode b_Gr_lavaGoesOn 10 = .ok (.istore_n 2, 1) := by decide +kernel
theorem d_Gr_lavaGoesOn_11 : decode b_Gr_lavaGoesOn 11 = .ok (.iconst 0, 1) := by decide +kernel
theorem d_Gr_lavaGoesOn_12 : decode b_Gr_lavaGoesOn 12 = .ok (.istore_n 3, 1) := by decide +kernel
theorem d_Gr_lavaGoesOn_13 : decode b_Gr_lavaGoesOn 13 = .ok (.iload_n 3, 1) := by decide +kernel
theorem d_Gr_lavaGoesOn_14 : decode b_Gr_lavaGoesOn 14 = .ok (.iconst 4, 1) := by decide +kernel
theorem d_Gr_lavaGoesOn_15 : decode b_Gr_lavaGoesOn 15 = .ok (.if_icmp .ge 49, 3) := by decide +kernel
theorem d_Gr_lavaGoesOn_18 : decode b_Gr_lavaGoesOn 18 = .ok (.iload_n 1, 1) := by decide +kernel
theorem d_Gr_lavaGoesOn_19 : decode b_Gr_lavaGoesOn 19 = .ok (.iload_n 3, 1) := by decide +kernel
theorem d_Gr_lavaGoesOn_20 : decode b_Gr_lavaGoesOn 20 = .ok (.invokestatic 44, 3) := by decide +kernel
theorem d_Gr_lavaGoesOn_23 : decode b_Gr_lavaGoesOn 23 = .ok (.istore 4, 2) := by decide +kernel
theorem d_Gr_lavaGoesOn_25 : decode b_Gr_lavaGoesOn 25 = .ok (.iload 4, 2) := by decide +kernel
theorem d_Gr_lavaGoesOn_27 : decode b_Gr_lavaGoesOn 27 = .ok (.ifCond .lt 31, 3) := by decide +kernel
theorem d_Gr_lavaGoesOn_30 : decode b_Gr_lavaGoesOn 30 = .ok (.aload_n 0, 1) := by decide +kernel
theorem d_Gr_lavaGoesOn_31 : decode b_Gr_lavaGoesOn 31 = .ok (.iload_n 1, 1) := by decide +kernel
theorem d_Gr_lavaGoesOn_32 : decode b_Gr_lavaGoesOn 32 = .ok (.iload_n 3, 1) := by decide +kernel
theorem d_Gr_lavaGoesOn_33 : decode b_Gr_lavaGoesOn 33 = .ok (.invokevirtual 62, 3) := by decide +kernel
theorem d_Gr_lavaGoesOn_36 : decode b_Gr_lavaGoesOn 36 = .ok (.ifCond .ne 22, 3) := by decide +kernel
theorem d_Gr_lavaGoesOn_39 : decode b_Gr_lavaGoesOn 39 = .ok (.aload_n 0, 1) := by decide +kernel
theorem d_Gr_lavaGoesOn_40 : decode b_Gr_lavaGoesOn 40 = .ok (.getfield 9, 3) := by decide +kernel
theorem d_Gr_lavaGoesOn_43 : decode b_Gr_lavaGoesOn 43 = .ok (.iload 4, 2) := by decide +kernel
theorem d_Gr_lavaGoesOn_45 : decode b_Gr_lavaGoesOn 45 = .ok (.iaload, 1) := by decide +kernel
theorem d_Gr_lavaGoesOn_46 : decode b_Gr_lavaGoesOn 46 = .ok (.aload_n 0, 1) := by decide +kernel
theorem d_Gr_lavaGoesOn_47 : decode b_Gr_lavaGoesOn 47 = .ok (.getfield 9, 3) := by decide +kernel
theorem d_Gr_lavaGoesOn_50 : decode b_Gr_lavaGoesOn 50 = .ok (.iload_n 2, 1) := by decide +kernel
theorem d_Gr_lavaGoesOn_51 : decode b_Gr_lavaGoesOn 51 = .ok (.iaload, 1) := by decide +kernel
theorem d_Gr_lavaGoesOn_52 : decode b_Gr_lavaGoesOn 52 = .ok (.if_icmp .ge 6, 3) := by decide +kernel
theorem d_Gr_lavaGoesOn_55 : decode b_Gr_lavaGoesOn 55 = .ok (.iload 4, 2) := by decide +kernel
theorem d_Gr_lavaGoesOn_57 : decode b_Gr_lavaGoesOn 57 = .ok (.istore_n 2, 1) := by decide +kernel
theorem d_Gr_lavaGoesOn_58 : decode b_Gr_lavaGoesOn 58 = .ok (.iinc 3 1, 3) := by decide +kernel
theorem d_Gr_lavaGoesOn_61 : decode b_Gr_lavaGoesOn 61 = .ok (.goto (-48), 3) := by decide +kernel
theorem d_Gr_lavaGoesOn_64 : decode b_Gr_lavaGoesOn 64 = .ok (.iload_n 2, 1) := by decide +kernel
theorem d_Gr_lavaGoesOn_65 : decode b_Gr_lavaGoesOn 65 = .ok (.iload_n 1, 1) := by decide +kernel
theorem d_Gr_lavaGoesOn_66 : decode b_Gr_lavaGoesOn 66 = .ok (.if_icmp .ne 22, 3) := by decide +kernel
theorem d_Gr_lavaGoesOn_69 : decode b_Gr_lavaGoesOn 69 = .ok (.aload_n 0, 1) := by decide +kernel
theorem d_Gr_lavaGoesOn_70 : decode b_Gr_lavaGoesOn 70 = .ok (.getfield 9, 3) := by decide +kernel
theorem d_Gr_lavaGoesOn_73 : decode b_Gr_lavaGoesOn 73 = .ok (.iload_n 1, 1) := by decide +kernel
theorem d_Gr_lavaGoesOn_74 : decode b_Gr_lavaGoesOn 74 = .ok (.bipush 99, 2) := by decide +kernel
theorem d_Gr_lavaGoesOn_76 : decode b_Gr_lavaGoesOn 76 = .ok (.aload_n 0, 1) := by decide +kernel
theorem d_Gr_lavaGoesOn_77 : decode b_Gr_lavaGoesOn 77 = .ok (.getfield 9, 3) := by decide +kernel
theorem d_Gr_lavaGoesOn_80 : decode b_Gr_lavaGoesOn 80 = .ok (.iload_n 1, 1) := by decide +kernel
theorem d_Gr_lavaGoesOn_81 : decode b_Gr_lavaGoesOn 81 = .ok (.iaload, 1) := by decide +kernel
theorem d_Gr_lavaGoesOn_82 : decode b_Gr_lavaGoesOn 82 = .ok (.iconst 3, 1) := by decide +kernel
theorem d_Gr_lavaGoesOn_83 : decode b_Gr_lavaGoesOn 83 = .ok (.iadd, 1) := by decide +kernel
theorem d_Gr_lavaGoesOn_84 : decode b_Gr_lavaGoesOn 84 = .ok (.invokestatic 55, 3) := by decide +kernel
theorem d_Gr_lavaGoesOn_87 : decode b_Gr_lavaGoesOn 87 = .ok (.iastore, 1) := by decide +kernel
theorem d_Gr_lavaGoesOn_88 : decode b_Gr_lavaGoesOn 88 = .ok (.iload_n 2, 1) := by decide +kernel
theorem d_Gr_lavaGoesOn_89 : decode b_Gr_lavaGoesOn 89 = .ok (.ireturn, 1) := by decide +kernel
theorem d_X_hit_0 : decode b_X_hit 0 = .ok (.iload_n 1, 1) := by decide +kernel
theorem d_X_hit_1 : decode b_X_hit 1 = .ok (.invokestatic 210, 3) := by decide +kernel
theorem d_X_hit_4 : decode b_X_hit 4 = .ok (.ifCond .ne 9, 3) := by decide +kernel
theorem d_X_hit_7 : decode b_X_hit 7 = .ok (.aload_n 0, 1) := by decide +kernel
theorem d_X_hit_8 : decode b_X_hit 8 = .ok (.iconst 0, 1) := by decide +kernel
theorem d_X_hit_9 : decode b_X_hit 9 = .ok (.invokevirtual 59, 3) := by decide +kernel
theorem d_X_hit_12 : decode b_X_hit 12 = .ok (.ireturn, 1) := by decide +kernel
theorem d_X_hit_13 : decode b_X_hit 13 = .ok (.aload_n 0, 1) := by decide +kernel
theorem d_X_hit_14 : decode b_X_hit 14 = .ok (.iconst (-1), 1) := by decide +kernel
theorem d_X_hit_15 : decode b_X_hit 15 = .ok (.iconst 0, 1) := by decide +kernel
theorem d_X_hit_16 : decode b_X_hit 16 = .ok (.iload_n 1, 1) := by decide +kernel
theorem d_X_hit_17 : decode b_X_hit 17 = .ok (.invokevirtual 221, 3) := by decide +kernel
theorem d_X_hit_20 : decode b_X_hit 20 = .ok (.ireturn, 1) := by decide +kernel
theorem d_X_hitWith_0 : decode b_X_hitWith 0 = .ok (.aload_n 0, 1) := by decide +kernel
theorem d_X_hitWith_1 : decode b_X_hitWith 1 = .ok (.getfield 19, 3) := by decide +kernel
theorem d_X_hitWith_4 : decode b_X_hitWith 4 = .ok (.getfield 63, 3) := by decide +kernel
theorem d_X_hitWith_7 : decode b_X_hitWith 7 = .ok (.aload_n 0, 1) := by decide +kernel
theorem d_X_hitWith_8 : decode b_X_hitWith 8 = .ok (.getfield 10, 3) := by decide +kernel
theorem d_X_hitWith_11 : decode b_X_hitWith 11 = .ok (.getfield 63, 3) := by decide +kernel
theorem d_X_hitWith_14 : decode b_X_hitWith 14 = .ok (.invokevirtual 213, 3) := by decide +kernel
theorem d_X_hitWith_17 : decode b_X_hitWith 17 = .ok (.iload_n 1, 1) := by decide +kernel
theorem d_X_hitWith_18 : decode b_X_hitWith 18 = .ok (.ifCond .lt 16, 3) := by decide +kernel
theorem d_X_hitWith_21 : decode b_X_hitWith 21 = .ok (.aload_n 0, 1) := by decide +kernel
theorem d_X_hitWith_22 : decode b_X_hitWith 22 = .ok (.getfield 19, 3) := by decide +kernel
theorem d_X_hitWith_25 : decode b_X_hitWith 25 = .ok (.getfield 63, 3) := by decide +kernel
theorem d_X_hitWith_28 : decode b_X_hitWith 28 = .ok (.iload_n 1, 1) := by decide +kernel
theorem d_X_hitWith_29 : decode b_X_hitWith 29 = .ok (.iload_n 2, 1) := by decide +kernel
theorem d_X_hitWith_30 : decode b_X_hitWith 30 = .ok (.iconst 1, 1) := by decide +kernel
theorem d_X_hitWith_31 : decode b_X_hitWith 31 = .ok (.invokevirtual 99, 3) := by decide +kernel
theorem d_X_hitWith_34 : decode b_X_hitWith 34 = .ok (.aload_n 0, 1) := by decide +kernel
theorem d_X_hitWith_35 : decode b_X_hitWith 35 = .ok (.getfield 19, 3) := by decide +kernel
theorem d_X_hitWith_38 : decode b_X_hitWith 38 = .ok (.getfield 63, 3) := by decide +kernel
theorem d_X_hitWith_41 : decode b_X_hitWith 41 = .ok (.aload_n 0, 1) := by decide +kernel
theorem d_X_hitWith_42 : decode b_X_hitWith 42 = .ok (.getfield 19, 3) := by decide +kernel
theorem d_X_hitWith_45 : decode b_X_hitWith 45 = .ok (.getfield 63, 3) := by decide +kernel
theorem d_X_hitWith_48 : decode b_X_hitWith 48 = .ok (.getfield 87, 3) := by decide +kernel
theorem d_X_hitWith_51 : decode b_X_hitWith 51 = .ok (.iload_n 3, 1) := by decide +kernel
theorem d_X_hitWith_52 : decode b_X_hitWith 52 = .ok (.invokevirtual 217, 3) := by decide +kernel
theorem d_X_hitWith_55 : decode b_X_hitWith 55 = .ok (.lstore 4, 2) := by decide +kernel
theorem d_X_hitWith_57 : decode b_X_hitWith 57 = .ok (.aload_n 0, 1) := by decide +kernel
theorem d_X_hitWith_58 : decode b_X_hitWith 58 = .ok (.getfield 10, 3) := by decide +kernel
theorem d_X_hitWith_61 : decode b_X_hitWith 61 = .ok (.getfield 75, 3) := by decide +kernel
theorem d_X_hitWith_64 : decode b_X_hitWith 64 = .ok (.lload 4, 2) := by decide +kernel
theorem d_X_hitWith_66 : decode b_X_hitWith 66 = .ok (.invokevirtual 336, 3) := by decide +kernel
theorem d_X_hitWith_69 : decode b_X_hitWith 69 = .ok (.aload_n 0, 1) := by decide +kernel
theorem d_X_hitWith_70 : decode b_X_hitWith 70 = .ok (.getfield 10, 3) := by decide +kernel
theorem d_X_hitWith_73 : decode b_X_hitWith 73 = .ok (.getfield 75, 3) := by decide +kernel
theorem d_X_hitWith_76 : decode b_X_hitWith 76 = .ok (.getfield 142, 3) := by decide +kernel
theorem d_X_hitWith_79 : decode b_X_hitWith 79 = .ok (.iconst (-1), 1) := by decide +kernel
theorem d_X_hitWith_80 : decode b_X_hitWith 80 = .ok (.ixor, 1) := by decide +kernel
theorem d_X_hitWith_81 : decode b_X_hitWith 81 = .ok (.iand, 1) := by decide +kernel
theorem d_X_hitWith_82 : decode b_X_hitWith 82 = .ok (.ireturn, 1) := by decide +kernel
theorem d_Fa_standingOn_0 : decode b_Fa_standingOn 0 = .ok (.iconst 0, 1) := by decide +kernel
theorem d_Fa_standingOn_1 : decode b_Fa_standingOn 1 = .ok (.istore_n 3, 1) := by decide +kernel
theorem d_Fa_standingOn_2 : decode b_Fa_standingOn 2 = .ok (.iconst 0, 1) := by decide +kernel
theorem d_Fa_standingOn_3 : decode b_Fa_standingOn 3 = .ok (.istore 4, 2) := by decide +kernel
theorem d_Fa_standingOn_5 : decode b_Fa_standingOn 5 = .ok (.iload 4, 2) := by decide +kernel
theorem d_Fa_standingOn_7 : decode b_Fa_standingOn 7 = .ok (.aload_n 0, 1) := by decide +kernel
theorem d_Fa_standingOn_8 : decode b_Fa_standingOn 8 = .ok (.getfield 24, 3) := by decide +kernel
theorem d_Fa_standingOn_11 : decode b_Fa_standingOn 11 = .ok (.if_icmp .ge 32, 3) := by decide +kernel
theorem d_Fa_standingOn_14 : decode b_Fa_standingOn 14 = .ok (.lload_n 1, 1) := by decide +kernel
theorem d_Fa_standingOn_15 : decode b_Fa_standingOn 15 = .ok (.aload_n 0, 1) := by decide +kernel
theorem d_Fa_standingOn_16 : decode b_Fa_standingOn 16 = .ok (.getfield 15, 3) := by decide +kernel
theorem d_Fa_standingOn_19 : decode b_Fa_standingOn 19 = .ok (.iload 4, 2) := by decide +kernel
theorem d_Fa_standingOn_21 : decode b_Fa_standingOn 21 = .ok (.iaload, 1) := by decide +kernel
theorem d_Fa_standingOn_22 : decode b_Fa_standingOn 22 = .ok (.lshr, 1) := by decide +kernel
theorem d_Fa_standingOn_23 : decode b_Fa_standingOn 23 = .ok (.lconst 1, 1) := by decide +kernel
theorem d_Fa_standingOn_24 : decode b_Fa_standingOn 24 = .ok (.land, 1) := by decide +kernel
theorem d_Fa_standingOn_25 : decode b_Fa_standingOn 25 = .ok (.lconst 1, 1) := by decide +kernel
theorem d_Fa_standingOn_26 : decode b_Fa_standingOn 26 = .ok (.lcmp, 1) := by decide +kernel
theorem d_Fa_standingOn_27 : decode b_Fa_standingOn 27 = .ok (.ifCond .ne 10, 3) := by decide +kernel
theorem d_Fa_standingOn_30 : decode b_Fa_standingOn 30 = .ok (.iload_n 3, 1) := by decide +kernel
theorem d_Fa_standingOn_31 : decode b_Fa_standingOn 31 = .ok (.iconst 1, 1) := by decide +kernel
theorem d_Fa_standingOn_32 : decode b_Fa_standingOn 32 = .ok (.iload 4, 2) := by decide +kernel
theorem d_Fa_standingOn_34 : decode b_Fa_standingOn 34 = .ok (.ishl, 1) := by decide +kernel
theorem d_Fa_standingOn_35 : decode b_Fa_standingOn 35 = .ok (.ior, 1) := by decide +kernel
theorem d_Fa_standingOn_36 : decode b_Fa_standingOn 36 = .ok (.istore_n 3, 1) := by decide +kernel
theorem d_Fa_standingOn_37 : decode b_Fa_standingOn 37 = .ok (.iinc 4 1, 3) := by decide +kernel
theorem d_Fa_standingOn_40 : decode b_Fa_standingOn 40 = .ok (.goto (-35), 3) := by decide +kernel
theorem d_Fa_standingOn_43 : decode b_Fa_standingOn 43 = .ok (.iload_n 3, 1) := by decide +kernel
theorem d_Fa_standingOn_44 : decode b_Fa_standingOn 44 = .ok (.ireturn, 1) := by decide +kernel
theorem d_X_least_0 : decode b_X_least 0 = .ok (.aload_n 0, 1) := by decide +kernel
theorem d_X_least_1 : decode b_X_least 1 = .ok (.getfield 10, 3) := by decide +kernel
theorem d_X_least_4 : decode b_X_least 4 = .ok (.getfield 75, 3) := by decide +kernel
theorem d_X_least_7 : decode b_X_least 7 = .ok (.iload_n 1, 1) := by decide +kernel
theorem d_X_least_8 : decode b_X_least 8 = .ok (.invokevirtual 117, 3) := by decide +kernel
theorem d_X_least_11 : decode b_X_least 11 = .ok (.ifCond .ne 9, 3) := by decide +kernel
theorem d_X_least_14 : decode b_X_least 14 = .ok (.aload_n 0, 1) := by decide +kernel
theorem d_X_least_15 : decode b_X_least 15 = .ok (.iconst 0, 1) := by decide +kernel
theorem d_X_least_16 : decode b_X_least 16 = .ok (.invokevirtual 59, 3) := by decide +kernel
theorem d_X_least_19 : decode b_X_least 19 = .ok (.ireturn, 1) := by decide +kernel
theorem d_X_least_20 : decode b_X_least 20 = .ok (.aload_n 0, 1) := by decide +kernel
theorem d_X_least_21 : decode b_X_least 21 = .ok (.getfield 10, 3) := by decide +kernel
theorem d_X_least_24 : decode b_X_least 24 = .ok (.getfield 75, 3) := by decide +kernel
theorem d_X_least_27 : decode b_X_least 27 = .ok (.iload_n 1, 1) := by decide +kernel
theorem d_X_least_28 : decode b_X_least 28 = .ok (.invokevirtual 132, 3) := by decide +kernel
theorem d_X_least_31 : decode b_X_least 31 = .ok (.ifCond .eq 9, 3) := by decide +kernel
theorem d_X_least_34 : decode b_X_least 34 = .ok (.aload_n 0, 1) := by decide +kernel
theorem d_X_least_35 : decode b_X_least 35 = .ok (.iconst 4, 1) := by decide +kernel
theorem d_X_least_36 : decode b_X_least 36 = .ok (.invokevirtual 59, 3) := by decide +kernel
theorem d_X_least_39 : decode b_X_least 39 = .ok (.ireturn, 1) := by decide +kernel
theorem d_X_least_40 : decode b_X_least 40 = .ok (.aload_n 0, 1) := by decide +kernel
theorem d_X_least_41 : decode b_X_least 41 = .ok (.getfield 19, 3) := by decide +kernel
theorem d_X_least_44 : decode b_X_least 44 = .ok (.getfield 63, 3) := by decide +kernel
theorem d_X_least_47 : decode b_X_least 47 = .ok (.aload_n 0, 1) := by decide +kernel
theorem d_X_least_48 : decode b_X_least 48 = .ok (.getfield 10, 3) := by decide +kernel
theorem d_X_least_51 : decode b_X_least 51 = .ok (.getfield 63, 3) := by decide +kernel
theorem d_X_least_54 : decode b_X_least 54 = .ok (.invokevirtual 213, 3) := by decide +kernel
theorem d_X_least_57 : decode b_X_least 57 = .ok (.aload_n 0, 1) := by decide +kernel
theorem d_X_least_58 : decode b_X_least 58 = .ok (.getfield 19, 3) := by decide +kernel
theorem d_X_least_61 : decode b_X_least 61 = .ok (.getfield 63, 3) := by decide +kernel
theorem d_X_least_64 : decode b_X_least 64 = .ok (.aload_n 0, 1) := by decide +kernel
theorem d_X_least_65 : decode b_X_least 65 = .ok (.getfield 10, 3) := by decide +kernel
theorem d_X_least_68 : decode b_X_least 68 = .ok (.getfield 75, 3) := by decide +kernel
theorem d_X_least_71 : decode b_X_least 71 = .ok (.getfield 123, 3) := by decide +kernel
theorem d_X_least_74 : decode b_X_least 74 = .ok (.iload_n 1, 1) := by decide +kernel
theorem d_X_least_75 : decode b_X_least 75 = .ok (.iaload, 1) := by decide +kernel
theorem d_X_least_76 : decode b_X_least 76 = .ok (.invokevirtual 224, 3) := by decide +kernel
theorem d_X_least_79 : decode b_X_least 79 = .ok (.istore_n 2, 1) := by decide +kernel
theorem d_X_least_80 : decode b_X_least 80 = .ok (.iload_n 2, 1) := by decide +kernel
theorem d_X_least_81 : decode b_X_least 81 = .ok (.ifCond .ge 11, 3) := by decide +kernel
theorem d_X_least_84 : decode b_X_least 84 = .ok (.aload_n 0, 1) := by decide +kernel
theorem d_X_least_85 : decode b_X_least 85 = .ok (.iconst 3, 1) := by decide +kernel
theorem d_X_least_86 : decode b_X_least 86 = .ok (.invokevirtual 59, 3) := by decide +kernel
theorem d_X_least_89 : decode b_X_least 89 = .ok (.goto 4, 3) := by decide +kernel
theorem d_X_least_92 : decode b_X_least 92 = .ok (.iload_n 2, 1) := by decide +kernel
theorem d_X_least_93 : decode b_X_least 93 = .ok (.ireturn, 1) := by decide +kernel
theorem d_Gr_leastVolumeTo_0 : decode b_Gr_leastVolumeTo 0 = .ok (.aload_n 0, 1) := by decide +kernel
theorem d_Gr_leastVolumeTo_1 : decode b_Gr_leastVolumeTo 1 = .ok (.getfield 21, 3) := by decide +kernel
theorem d_Gr_leastVolumeTo_4 : decode b_Gr_leastVolumeTo 4 = .ok (.istore_n 2, 1) := by decide +kernel
theorem d_Gr_leastVolumeTo_5 : decode b_Gr_leastVolumeTo 5 = .ok (.iconst 1, 1) := by decide +kernel
theorem d_Gr_leastVolumeTo_6 : decode b_Gr_leastVolumeTo 6 = .ok (.istore_n 3, 1) := by decide +kernel
theorem d_Gr_leastVolumeTo_7 : decode b_Gr_leastVolumeTo 7 = .ok (.iload_n 3, 1) := by decide +kernel
theorem d_Gr_leastVolumeTo_8 : decode b_Gr_leastVolumeTo 8 = .ok (.bipush 99, 2) := by decide +kernel
theorem d_Gr_leastVolumeTo_10 : decode b_Gr_leastVolumeTo 10 = .ok (.if_icmp .gt 22, 3) := by decide +kernel
theorem d_Gr_leastVolumeTo_13 : decode b_Gr_leastVolumeTo 13 = .ok (.iload_n 2, 1) := by decide +kernel
theorem d_Gr_leastVolumeTo_14 : decode b_Gr_leastVolumeTo 14 = .ok (.iload_n 1, 1) := by decide +kernel
theorem d_Gr_leastVolumeTo_15 : decode b_Gr_leastVolumeTo 15 = .ok (.if_icmp .ne 5, 3) := by decide +kernel
theorem d_Gr_leastVolumeTo_18 : decode b_Gr_leastVolumeTo 18 = .ok (.iload_n 3, 1) := by decide +kernel
theorem d_Gr_leastVolumeTo_19 : decode b_Gr_leastVolumeTo 19 = .ok (.ireturn, 1) := by decide +kernel
theorem d_Gr_leastVolumeTo_20 : decode b_Gr_leastVolumeTo 20 = .ok (.aload_n 0, 1) := by decide +kernel
theorem d_Gr_leastVolumeTo_21 : decode b_Gr_leastVolumeTo 21 = .ok (.iload_n 2, 1) := by decide +kernel
theorem d_Gr_leastVolumeTo_22 : decode b_Gr_leastVolumeTo 22 = .ok (.invokevirtual 52, 3) := by decide +kernel
theorem d_Gr_leastVolumeTo_25 : decode b_Gr_leastVolumeTo 25 = .ok (.istore_n 2, 1) := by decide +kernel
theorem d_Gr_leastVolumeTo_26 : decode b_Gr_leastVolumeTo 26 = .ok (.iinc 3 1, 3) := by decide +kernel
theorem d_Gr_leastVolumeTo_29 : decode b_Gr_leastVolumeTo 29 = .ok (.goto (-22), 3) := by decide +kernel
theorem d_Gr_leastVolumeTo_32 : decode b_Gr_leastVolumeTo 32 = .ok (.iconst (-1), 1) := by decide +kernel
theorem d_Gr_leastVolumeTo_33 : decode b_Gr_leastVolumeTo 33 = .ok (.ireturn, 1) := by decide +kernel
theorem d_X_turnsOn_0 : decode b_X_turnsOn 0 = .ok (.iload_n 1, 1) := by decide +kernel
theorem d_X_turnsOn_1 : decode b_X_turnsOn 1 = .ok (.iload_n 2, 1) := by decide +kernel
theorem d_X_turnsOn_2 : decode b_X_turnsOn 2 = .ok (.invokestatic 91, 3) := by decide +kernel
theorem d_X_turnsOn_5 : decode b_X_turnsOn 5 = .ok (.istore 4, 2) := by decide +kernel
theorem d_X_turnsOn_7 : decode b_X_turnsOn 7 = .ok (.iload 4, 2) := by decide +kernel
theorem d_X_turnsOn_9 : decode b_X_turnsOn 9 = .ok (.ifCond .lt 10, 3) := by decide +kernel
theorem d_X_turnsOn_12 : decode b_X_turnsOn 12 = .ok (.iload_n 3, 1) := by decide +kernel
theorem d_X_turnsOn_13 : decode b_X_turnsOn 13 = .ok (.invokestatic 210, 3) := by decide +kernel
theorem d_X_turnsOn_16 : decode b_X_turnsOn 16 = .ok (.ifCond .ne 9, 3) := by decide +kernel
theorem d_X_turnsOn_19 : decode b_X_turnsOn 19 = .ok (.aload_n 0, 1) := by decide +kernel
theorem d_X_turnsOn_20 : decode b_X_turnsOn 20 = .ok (.iconst 0, 1) := by decide +kernel
theorem d_X_turnsOn_21 : decode b_X_turnsOn 21 = .ok (.invokevirtual 59, 3) := by decide +kernel
theorem d_X_turnsOn_24 : decode b_X_turnsOn 24 = .ok (.ireturn, 1) := by decide +kernel
theorem d_X_turnsOn_25 : decode b_X_turnsOn 25 = .ok (.aload_n 0, 1) := by decide +kernel
theorem d_X_turnsOn_26 : decode b_X_turnsOn 26 = .ok (.getfield 10, 3) := by decide +kernel
theorem d_X_turnsOn_29 : decode b_X_turnsOn 29 = .ok (.getfield 63, 3) := by decide +kernel
theorem d_X_turnsOn_32 : decode b_X_turnsOn 32 = .ok (.iload_n 1, 1) := by decide +kernel
theorem d_X_turnsOn_33 : decode b_X_turnsOn 33 = .ok (.iload 4, 2) := by decide +kernel
theorem d_X_turnsOn_35 : decode b_X_turnsOn 35 = .ok (.invokevirtual 95, 3) := by decide +kernel
theorem d_X_turnsOn_38 : decode b_X_turnsOn 38 = .ok (.ifCond .eq 9, 3) := by decide +kernel
theorem d_X_turnsOn_41 : decode b_X_turnsOn 41 = .ok (.aload_n 0, 1) := by decide +kernel
theorem d_X_turnsOn_42 : decode b_X_turnsOn 42 = .ok (.iconst 4, 1) := by decide +kernel
theorem d_X_turnsOn_43 : decode b_X_turnsOn 43 = .ok (.invokevirtual 59, 3) := by decide +kernel
theorem d_X_turnsOn_46 : decode b_X_turnsOn 46 = .ok (.ireturn, 1) := by decide +kernel
theorem d_X_turnsOn_47 : decode b_X_turnsOn 47 = .ok (.aload_n 0, 1) := by decide +kernel
theorem d_X_turnsOn_48 : decode b_X_turnsOn 48 = .ok (.iload_n 1, 1) := by decide +kernel
theorem d_X_turnsOn_49 : decode b_X_turnsOn 49 = .ok (.iload 4, 2) := by decide +kernel
theorem d_X_turnsOn_51 : decode b_X_turnsOn 51 = .ok (.iload_n 3, 1) := by decide +kernel
theorem d_X_turnsOn_52 : decode b_X_turnsOn 52 = .ok (.invokevirtual 221, 3) := by decide +kernel
theorem d_X_turnsOn_55 : decode b_X_turnsOn 55 = .ok (.aload_n 0, 1) := by decide +kernel
theorem d_X_turnsOn_56 : decode b_X_turnsOn 56 = .ok (.iconst (-1), 1) := by decide +kernel
theorem d_X_turnsOn_57 : decode b_X_turnsOn 57 = .ok (.iconst 0, 1) := by decide +kernel
theorem d_X_turnsOn_58 : decode b_X_turnsOn 58 = .ok (.iload_n 3, 1) := by decide +kernel
theorem d_X_turnsOn_59 : decode b_X_turnsOn 59 = .ok (.invokevirtual 221, 3) := by decide +kernel
theorem d_X_turnsOn_62 : decode b_X_turnsOn 62 = .ok (.iconst (-1), 1) := by decide +kernel
theorem d_X_turnsOn_63 : decode b_X_turnsOn 63 = .ok (.ixor, 1) := by decide +kernel
theorem d_X_turnsOn_64 : decode b_X_turnsOn 64 = .ok (.iand, 1) := by decide +kernel
theorem d_X_turnsOn_65 : decode b_X_turnsOn 65 = .ok (.ireturn, 1) := by decide +kernel
theorem d_X_save_0 : decode b_X_save 0 = .ok (.iload_n 1, 1) := by decide +kernel
theorem d_X_save_1 : decode b_X_save 1 = .ok (.invokestatic 210, 3) := by decide +kernel
theorem d_X_save_4 : decode b_X_save 4 = .ok (.ifCond .ne 9, 3) := by decide +kernel
theorem d_X_save_7 : decode b_X_save 7 = .ok (.aload_n 0, 1) := by decide +kernel
theorem d_X_save_8 : decode b_X_save 8 = .ok (.iconst 0, 1) := by decide +kernel
theorem d_X_save_9 : decode b_X_save 9 = .ok (.invokevirtual 59, 3) := by decide +kernel
theorem d_X_save_12 : decode b_X_save 12 = .ok (.ireturn, 1) := by decide +kernel
theorem d_X_save_13 : decode b_X_save 13 = .ok (.aload_n 0, 1) := by decide +kernel
theorem d_X_save_14 : decode b_X_save 14 = .ok (.iconst (-1), 1) := by decide +kernel
theorem d_X_save_15 : decode b_X_save 15 = .ok (.iconst 0, 1) := by decide +kernel
theorem d_X_save_16 : decode b_X_save 16 = .ok (.iload_n 1, 1) := by decide +kernel
theorem d_X_save_17 : decode b_X_save 17 = .ok (.invokevirtual 221, 3) := by decide +kernel
theorem d_X_save_20 : decode b_X_save 20 = .ok (.invokestatic 227, 3) := by decide +kernel
theorem d_X_save_23 : decode b_X_save 23 = .ok (.istore_n 2, 1) := by decide +kernel
theorem d_X_save_24 : decode b_X_save 24 = .ok (.iconst (-1), 1) := by decide +kernel
theorem d_X_save_25 : decode b_X_save 25 = .ok (.istore_n 3, 1) := by decide +kernel
theorem d_X_save_26 : decode b_X_save 26 = .ok (.iconst 0, 1) := by decide +kernel
theorem d_X_save_27 : decode b_X_save 27 = .ok (.istore 4, 2) := by decide +kernel
theorem d_X_save_29 : decode b_X_save 29 = .ok (.iload 4, 2) := by decide +kernel
theorem d_X_save_31 : decode b_X_save 31 = .ok (.bipush 36, 2) := by decide +kernel
theorem d_X_save_33 : decode b_X_save 33 = .ok (.if_icmp .ge 90, 3) := by decide +kernel
theorem d_X_save_36 : decode b_X_save 36 = .ok (.iconst 1, 1) := by decide +kernel
theorem d_X_save_37 : decode b_X_save 37 = .ok (.istore 5, 2) := by decide +kernel
theorem d_X_save_39 : decode b_X_save 39 = .ok (.iload 5, 2) := by decide +kernel
theorem d_X_save_41 : decode b_X_save 41 = .ok (.iconst 2, 1) := by decide +kernel
theorem d_X_save_42 : decode b_X_save 42 = .ok (.if_icmp .gt 75, 3) := by decide +kernel
theorem d_X_save_45 : decode b_X_save 45 = .ok (.iload 4, 2) := by decide +kernel
theorem d_X_save_47 : decode b_X_save 47 = .ok (.iload 5, 2) := by decide +kernel
theorem d_X_save_49 : decode b_X_save 49 = .ok (.invokestatic 232, 3) := by decide +kernel
theorem d_X_save_52 : decode b_X_save 52 = .ok (.istore 6, 2) := by decide +kernel
theorem d_X_save_54 : decode b_X_save 54 = .ok (.iload 6, 2) := by decide +kernel
theorem d_X_save_56 : decode b_X_save 56 = .ok (.ifCond .lt 55, 3) := by decide +kernel
theorem d_X_save_59 : decode b_X_save 59 = .ok (.aload_n 0, 1) := by decide +kernel
theorem d_X_save_60 : decode b_X_save 60 = .ok (.getfield 10, 3) := by decide +kernel
theorem d_X_save_63 : decode b_X_save 63 = .ok (.getfield 63, 3) := by decide +kernel
theorem d_X_save_66 : decode b_X_save 66 = .ok (.iload 4, 2) := by decide +kernel
theorem d_X_save_68 : decode b_X_save 68 = .ok (.iload 5, 2) := by decide +kernel
theorem d_X_save_70 : decode b_X_save 70 = .ok (.invokevirtual 95, 3) := by decide +kernel
theorem d_X_save_73 : decode b_X_save 73 = .ok (.ifCond .eq 6, 3) := by decide +kernel
theorem d_X_save_76 : decode b_X_save 76 = .ok (.goto 35, 3) := by decide +kernel
theorem d_X_save_79 : decode b_X_save 79 = .ok (.aload_n 0, 1) := by decide +kernel
theorem d_X_save_80 : decode b_X_save 80 = .ok (.iload 4, 2) := by decide +kernel
theorem d_X_save_82 : decode b_X_save 82 = .ok (.iload 5, 2) := by decide +kernel
theorem d_X_save_84 : decode b_X_save 84 = .ok (.iload_n 1, 1) := by decide +kernel
theorem d_X_save_85 : decode b_X_save 85 = .ok (.invokevirtual 221, 3) := by decide +kernel
theorem d_X_save_88 : decode b_X_save 88 = .ok (.invokestatic 227, 3) := by decide +kernel
theorem d_X_save_91 : decode b_X_save 91 = .ok (.istore 7, 2) := by decide +kernel
theorem d_X_save_93 : decode b_X_save 93 = .ok (.iload 7, 2) := by decide +kernel
theorem d_X_save_95 : decode b_X_save 95 = .ok (.iload_n 2, 1) := by decide +kernel
theorem d_X_save_96 : decode b_X_save 96 = .ok (.if_icmp .ge 15, 3) := by decide +kernel
theorem d_X_save_99 : decode b_X_save 99 = .ok (.iload 7, 2) := by decide +kernel
theorem d_X_save_101 : decode b_X_save 101 = .ok (.istore_n 2, 1) := by decide +kernel
theorem d_X_save_102 : decode b_X_save 102 = .ok (.bipush 100, 2) := by decide +kernel
theorem d_X_save_104 : decode b_X_save 104 = .ok (.iload 4, 2) := by decide +kernel
theorem d_X_save_106 : decode b_X_save 106 = .ok (.imul, 1) := by decide +kernel
theorem d_X_save_107 : decode b_X_save 107 = .ok (.iload 6, 2) := by decide +kernel
theorem d_X_save_109 : decode b_X_save 109 = .ok (.iadd, 1) := by decide +kernel
theorem d_X_save_110 : decode b_X_save 110 = .ok (.istore_n 3, 1) := by decide +kernel
theorem d_X_save_111 : decode b_X_save 111 = .ok (.iinc 5 1, 3) := by decide +kernel
theorem d_X_save_114 : decode b_X_save 114 = .ok (.goto (-75), 3) := by decide +kernel
theorem d_X_save_117 : decode b_X_save 117 = .ok (.iinc 4 1, 3) := by decide +kernel
theorem d_X_save_120 : decode b_X_save 120 = .ok (.goto (-91), 3) := by decide +kernel
theorem d_X_save_123 : decode b_X_save 123 = .ok (.iload_n 3, 1) := by decide +kernel
theorem d_X_save_124 : decode b_X_save 124 = .ok (.ifCond .ge 11, 3) := by decide +kernel
theorem d_X_save_127 : decode b_X_save 127 = .ok (.aload_n 0, 1) := by decide +kernel
theorem d_X_save_128 : decode b_X_save 128 = .ok (.iconst 3, 1) := by decide +kernel
theorem d_X_save_129 : decode b_X_save 129 = .ok (.invokevirtual 59, 3) := by decide +kernel
theorem d_X_save_132 : decode b_X_save 132 = .ok (.goto 4, 3) := by decide +kernel
theorem d_X_save_135 : decode b_X_save 135 = .ok (.iload_n 3, 1) := by decide +kernel
theorem d_X_save_136 : decode b_X_save 136 = .ok (.ireturn, 1) := by decide +kernel
theorem d_In_bitCount_0 : decode b_In_bitCount 0 = .ok (.iload_n 0, 1) := by decide +kernel
theorem d_In_bitCount_1 : decode b_In_bitCount 1 = .ok (.iload_n 0, 1) := by decide +kernel
theorem d_In_bitCount_2 : decode b_In_bitCount 2 = .ok (.iconst 1, 1) := by decide +kernel
theorem d_In_bitCount_3 : decode b_In_bitCount 3 = .ok (.iushr, 1) := by decide +kernel
theorem d_In_bitCount_4 : decode b_In_bitCount 4 = .ok (.ldc_w 265, 3) := by decide +kernel
theorem d_In_bitCount_7 : decode b_In_bitCount 7 = .ok (.iand, 1) := by decide +kernel
theorem d_In_bitCount_8 : decode b_In_bitCount 8 = .ok (.isub, 1) := by decide +kernel
theorem d_In_bitCount_9 : decode b_In_bitCount 9 = .ok (.istore_n 0, 1) := by decide +kernel
theorem d_In_bitCount_10 : decode b_In_bitCount 10 = .ok (.iload_n 0, 1) := by decide +kernel
theorem d_In_bitCount_11 : decode b_In_bitCount 11 = .ok (.ldc_w 266, 3) := by decide +kernel
theorem d_In_bitCount_14 : decode b_In_bitCount 14 = .ok (.iand, 1) := by decide +kernel
theorem d_In_bitCount_15 : decode b_In_bitCount 15 = .ok (.iload_n 0, 1) := by decide +kernel
theorem d_In_bitCount_16 : decode b_In_bitCount 16 = .ok (.iconst 2, 1) := by decide +kernel
theorem d_In_bitCount_17 : decode b_In_bitCount 17 = .ok (.iushr, 1) := by decide +kernel
theorem d_In_bitCount_18 : decode b_In_bitCount 18 = .ok (.ldc_w 266, 3) := by decide +kernel
theorem d_In_bitCount_21 : decode b_In_bitCount 21 = .ok (.iand, 1) := by decide +kernel
theorem d_In_bitCount_22 : decode b_In_bitCount 22 = .ok (.iadd, 1) := by decide +kernel
theorem d_In_bitCount_23 : decode b_In_bitCount 23 = .ok (.istore_n 0, 1) := by decide +kernel
theorem d_In_bitCount_24 : decode b_In_bitCount 24 = .ok (.iload_n 0, 1) := by decide +kernel
theorem d_In_bitCount_25 : decode b_In_bitCount 25 = .ok (.iload_n 0, 1) := by decide +kernel
theorem d_In_bitCount_26 : decode b_In_bitCount 26 = .ok (.iconst 4, 1) := by decide +kernel
theorem d_In_bitCount_27 : decode b_In_bitCount 27 = .ok (.iushr, 1) := by decide +kernel
theorem d_In_bitCount_28 : decode b_In_bitCount 28 = .ok (.iadd, 1) := by decide +kernel
theorem d_In_bitCount_29 : decode b_In_bitCount 29 = .ok (.ldc_w 267, 3) := by decide +kernel
theorem d_In_bitCount_32 : decode b_In_bitCount 32 = .ok (.iand, 1) := by decide +kernel
theorem d_In_bitCount_33 : decode b_In_bitCount 33 = .ok (.istore_n 0, 1) := by decide +kernel
theorem d_In_bitCount_34 : decode b_In_bitCount 34 = .ok (.iload_n 0, 1) := by decide +kernel
theorem d_In_bitCount_35 : decode b_In_bitCount 35 = .ok (.iload_n 0, 1) := by decide +kernel
theorem d_In_bitCount_36 : decode b_In_bitCount 36 = .ok (.bipush 8, 2) := by decide +kernel
theorem d_In_bitCount_38 : decode b_In_bitCount 38 = .ok (.iushr, 1) := by decide +kernel
theorem d_In_bitCount_39 : decode b_In_bitCount 39 = .ok (.iadd, 1) := by decide +kernel
theorem d_In_bitCount_40 : decode b_In_bitCount 40 = .ok (.istore_n 0, 1) := by decide +kernel
theorem d_In_bitCount_41 : decode b_In_bitCount 41 = .ok (.iload_n 0, 1) := by decide +kernel
theorem d_In_bitCount_42 : decode b_In_bitCount 42 = .ok (.iload_n 0, 1) := by decide +kernel
theorem d_In_bitCount_43 : decode b_In_bitCount 43 = .ok (.bipush 16, 2) := by decide +kernel
theorem d_In_bitCount_45 : decode b_In_bitCount 45 = .ok (.iushr, 1) := by decide +kernel
theorem d_In_bitCount_46 : decode b_In_bitCount 46 = .ok (.iadd, 1) := by decide +kernel
theorem d_In_bitCount_47 : decode b_In_bitCount 47 = .ok (.istore_n 0, 1) := by decide +kernel
theorem d_In_bitCount_48 : decode b_In_bitCount 48 = .ok (.iload_n 0, 1) := by decide +kernel
theorem d_In_bitCount_49 : decode b_In_bitCount 49 = .ok (.bipush 63, 2) := by decide +kernel
theorem d_In_bitCount_51 : decode b_In_bitCount 51 = .ok (.iand, 1) := by decide +kernel
theorem d_In_bitCount_52 : decode b_In_bitCount 52 = .ok (.ireturn, 1) := by decide +kernel
theorem d_X_volume_0 : decode b_X_volume 0 = .ok (.iload_n 1, 1) := by decide +kernel
theorem d_X_volume_1 : decode b_X_volume 1 = .ok (.invokestatic 210, 3) := by decide +kernel
theorem d_X_volume_4 : decode b_X_volume 4 = .ok (.ifCond .ne 9, 3) := by decide +kernel
theorem d_X_volume_7 : decode b_X_volume 7 = .ok (.aload_n 0, 1) := by decide +kernel
theorem d_X_volume_8 : decode b_X_volume 8 = .ok (.iconst 0, 1) := by decide +kernel
theorem d_X_volume_9 : decode b_X_volume 9 = .ok (.invokevirtual 59, 3) := by decide +kernel
theorem d_X_volume_12 : decode b_X_volume 12 = .ok (.ireturn, 1) := by decide +kernel
theorem d_X_volume_13 : decode b_X_volume 13 = .ok (.aload_n 0, 1) := by decide +kernel
theorem d_X_volume_14 : decode b_X_volume 14 = .ok (.getfield 10, 3) := by decide +kernel
theorem d_X_volume_17 : decode b_X_volume 17 = .ok (.getfield 235, 3) := by decide +kernel
theorem d_X_volume_20 : decode b_X_volume 20 = .ok (.istore_n 2, 1) := by decide +kernel
theorem d_X_volume_21 : decode b_X_volume 21 = .ok (.aload_n 0, 1) := by decide +kernel
theorem d_X_volume_22 : decode b_X_volume 22 = .ok (.getfield 10, 3) := by decide +kernel
theorem d_X_volume_25 : decode b_X_volume 25 = .ok (.iload_n 1, 1) := by decide +kernel
theorem d_X_volume_26 : decode b_X_volume 26 = .ok (.putfield 235, 3) := by decide +kernel
theorem d_X_volume_29 : decode b_X_volume 29 = .ok (.iload_n 2, 1) := by decide +kernel
theorem d_X_volume_30 : decode b_X_volume 30 = .ok (.ireturn, 1) := by decide +kernel
theorem d_X_pigs_0 : decode b_X_pigs 0 = .ok (.aload_n 0, 1) := by decide +kernel
theorem d_X_pigs_1 : decode b_X_pigs 1 = .ok (.getfield 10, 3) := by decide +kernel
theorem d_X_pigs_4 : decode b_X_pigs 4 = .ok (.getfield 238, 3) := by decide +kernel
theorem d_X_pigs_7 : decode b_X_pigs 7 = .ok (.iload_n 1, 1) := by decide +kernel
theorem d_X_pigs_8 : decode b_X_pigs 8 = .ok (.if_icmp .ne 5, 3) := by decide +kernel
theorem d_X_pigs_11 : decode b_X_pigs 11 = .ok (.iconst 0, 1) := by decide +kernel
theorem d_X_pigs_12 : decode b_X_pigs 12 = .ok (.ireturn, 1) := by decide +kernel
theorem d_X_pigs_13 : decode b_X_pigs 13 = .ok (.aload_n 0, 1) := by decide +kernel
theorem d_X_pigs_14 : decode b_X_pigs 14 = .ok (.getfield 10, 3) := by decide +kernel
theorem d_X_pigs_17 : decode b_X_pigs 17 = .ok (.iload_n 1, 1) := by decide +kernel
theorem d_X_pigs_18 : decode b_X_pigs 18 = .ok (.putfield 238, 3) := by decide +kernel
theorem d_X_pigs_21 : decode b_X_pigs 21 = .ok (.iconst 1, 1) := by decide +kernel
theorem d_X_pigs_22 : decode b_X_pigs 22 = .ok (.ireturn, 1) := by decide +kernel
theorem d_X_months_0 : decode b_X_months 0 = .ok (.iload_n 1, 1) := by decide +kernel
theorem d_X_months_1 : decode b_X_months 1 = .ok (.iconst 1, 1) := by decide +kernel
theorem d_X_months_2 : decode b_X_months 2 = .ok (.sipush 240, 3) := by decide +kernel
theorem d_X_months_5 : decode b_X_months 5 = .ok (.invokestatic 55, 3) := by decide +kernel
theorem d_X_months_8 : decode b_X_months 8 = .ok (.ifCond .ne 9, 3) := by decide +kernel
theorem d_X_months_11 : decode b_X_months 11 = .ok (.aload_n 0, 1) := by decide +kernel
theorem d_X_months_12 : decode b_X_months 12 = .ok (.iconst 0, 1) := by decide +kernel
theorem d_X_months_13 : decode b_X_months 13 = .ok (.invokevirtual 59, 3) := by decide +kernel
theorem d_X_months_16 : decode b_X_months 16 = .ok (.ireturn, 1) := by decide +kernel
theorem d_X_months_17 : decode b_X_months 17 = .ok (.aload_n 0, 1) := by decide +kernel
theorem d_X_months_18 : decode b_X_months 18 = .ok (.getfield 10, 3) := by decide +kernel
theorem d_X_months_21 : decode b_X_months 21 = .ok (.getfield 241, 3) := by decide +kernel
theorem d_X_months_24 : decode b_X_months 24 = .ok (.iload_n 1, 1) := by decide +kernel
theorem d_X_months_25 : decode b_X_months 25 = .ok (.iadd, 1) := by decide +kernel
theorem d_X_months_26 : decode b_X_months 26 = .ok (.sipush 9999, 3) := by decide +kernel
theorem d_X_months_29 : decode b_X_months 29 = .ok (.if_icmp .le 9, 3) := by decide +kernel
theorem d_X_months_32 : decode b_X_months 32 = .ok (.aload_n 0, 1) := by decide +kernel
theorem d_X_months_33 : decode b_X_months 33 = .ok (.iconst 4, 1) := by decide +kernel
theorem d_X_months_34 : decode b_X_months 34 = .ok (.invokevirtual 59, 3) := by decide +kernel
theorem d_X_months_37 : decode b_X_months 37 = .ok (.ireturn, 1) := by decide +kernel
theorem d_X_months_38 : decode b_X_months 38 = .ok (.aload_n 0, 1) := by decide +kernel
theorem d_X_months_39 : decode b_X_months 39 = .ok (.getfield 10, 3) := by decide +kernel
theorem d_X_months_42 : decode b_X_months 42 = .ok (.iload_n 1, 1) := by decide +kernel
theorem d_X_months_43 : decode b_X_months 43 = .ok (.invokevirtual 244, 3) := by decide +kernel
theorem d_X_months_46 : decode b_X_months 46 = .ok (.ireturn, 1) := by decide +kernel
theorem d_Sl_goMonths_0 : decode b_Sl_goMonths 0 = .ok (.iconst 0, 1) := by decide +kernel
theorem d_Sl_goMonths_1 : decode b_Sl_goMonths 1 = .ok (.istore_n 2, 1) := by decide +kernel
theorem d_Sl_goMonths_2 : decode b_Sl_goMonths 2 = .ok (.iconst 0, 1) := by decide +kernel
theorem d_Sl_goMonths_3 : decode b_Sl_goMonths 3 = .ok (.istore_n 3, 1) := by decide +kernel
theorem d_Sl_goMonths_4 : decode b_Sl_goMonths 4 = .ok (.iload_n 3, 1) := by decide +kernel
theorem d_Sl_goMonths_5 : decode b_Sl_goMonths 5 = .ok (.iload_n 1, 1) := by decide +kernel
theorem d_Sl_goMonths_6 : decode b_Sl_goMonths 6 = .ok (.if_icmp .ge 19, 3) := by decide +kernel
theorem d_Sl_goMonths_9 : decode b_Sl_goMonths 9 = .ok (.aload_n 0, 1) := by decide +kernel
theorem d_Sl_goMonths_10 : decode b_Sl_goMonths 10 = .ok (.invokevirtual 60, 3) := by decide +kernel
theorem d_Sl_goMonths_13 : decode b_Sl_goMonths 13 = .ok (.ifCond .eq 6, 3) := by decide +kernel
theorem d_Sl_goMonths_16 : decode b_Sl_goMonths 16 = .ok (.iinc 2 1, 3) := by decide +kernel
theorem d_Sl_goMonths_19 : decode b_Sl_goMonths 19 = .ok (.iinc 3 1, 3) := by decide +kernel
theorem d_Sl_goMonths_22 : decode b_Sl_goMonths 22 = .ok (.goto (-18), 3) := by decide +kernel
theorem d_Sl_goMonths_25 : decode b_Sl_goMonths 25 = .ok (.iload_n 2, 1) := by decide +kernel
theorem d_Sl_goMonths_26 : decode b_Sl_goMonths 26 = .ok (.ireturn, 1) := by decide +kernel
theorem d_Sl_goMonth_0 : decode b_Sl_goMonth 0 = .ok (.aload_n 0, 1) := by decide +kernel
theorem d_Sl_goMonth_1 : decode b_Sl_goMonth 1 = .ok (.getfield 26, 3) := by decide +kernel
theorem d_Sl_goMonth_4 : decode b_Sl_goMonth 4 = .ok (.invokevirtual 64, 3) := by decide +kernel
theorem d_Sl_goMonth_7 : decode b_Sl_goMonth 7 = .ok (.istore_n 1, 1) := by decide +kernel
theorem d_Sl_goMonth_8 : decode b_Sl_goMonth 8 = .ok (.iload_n 1, 1) := by decide +kernel
theorem d_Sl_goMonth_9 : decode b_Sl_goMonth 9 = .ok (.ifCond .eq 7, 3) := by decide +kernel
theorem d_Sl_goMonth_12 : decode b_Sl_goMonth 12 = .ok (.aload_n 0, 1) := by decide +kernel
theorem d_Sl_goMonth_13 : decode b_Sl_goMonth 13 = .ok (.invokevirtual 67, 3) := by decide +kernel
theorem d_Sl_goMonth_16 : decode b_Sl_goMonth 16 = .ok (.aload_n 0, 1) := by decide +kernel
theorem d_Sl_goMonth_17 : decode b_Sl_goMonth 17 = .ok (.getfield 30, 3) := by decide +kernel
theorem d_Sl_goMonth_20 : decode b_Sl_goMonth 20 = .ok (.iconst 1, 1) := by decide +kernel
theorem d_Sl_goMonth_21 : decode b_Sl_goMonth 21 = .ok (.iadd, 1) := by decide +kernel
theorem d_Sl_goMonth_22 : decode b_Sl_goMonth 22 = .ok (.bipush 12, 2) := by decide +kernel
theorem d_Sl_goMonth_24 : decode b_Sl_goMonth 24 = .ok (.irem, 1) := by decide +kernel
theorem d_Sl_goMonth_25 : decode b_Sl_goMonth 25 = .ok (.ifCond .ne 21, 3) := by decide +kernel
theorem d_Sl_goMonth_28 : decode b_Sl_goMonth 28 = .ok (.aload_n 0, 1) := by decide +kernel
theorem d_Sl_goMonth_29 : decode b_Sl_goMonth 29 = .ok (.getfield 19, 3) := by decide +kernel
theorem d_Sl_goMonth_32 : decode b_Sl_goMonth 32 = .ok (.aload_n 0, 1) := by decide +kernel
theorem d_Sl_goMonth_33 : decode b_Sl_goMonth 33 = .ok (.getfield 10, 3) := by decide +kernel
theorem d_Sl_goMonth_36 : decode b_Sl_goMonth 36 = .ok (.invokevirtual 70, 3) := by decide +kernel
theorem d_Sl_goMonth_39 : decode b_Sl_goMonth 39 = .ok (.aload_n 0, 1) := by decide +kernel
theorem d_Sl_goMonth_40 : decode b_Sl_goMonth 40 = .ok (.getfield 10, 3) := by decide +kernel
theorem d_Sl_goMonth_43 : decode b_Sl_goMonth 43 = .ok (.invokevirtual 73, 3) := by decide +kernel
theorem d_Sl_goMonth_46 : decode b_Sl_goMonth 46 = .ok (.aload_n 0, 1) := by decide +kernel
theorem d_Sl_goMonth_47 : decode b_Sl_goMonth 47 = .ok (.getfield 46, 3) := by decide +kernel
theorem d_Sl_goMonth_50 : decode b_Sl_goMonth 50 = .ok (.ifCond .eq 31, 3) := by decide +kernel
theorem d_Sl_goMonth_53 : decode b_Sl_goMonth 53 = .ok (.aload_n 0, 1) := by decide +kernel
theorem d_Sl_goMonth_54 : decode b_Sl_goMonth 54 = .ok (.dup, 1) := by decide +kernel
theorem d_Sl_goMonth_55 : decode b_Sl_goMonth 55 = .ok (.getfield 40, 3) := by decide +kernel
theorem d_Sl_goMonth_58 : decode b_Sl_goMonth 58 = .ok (.iconst 1, 1) := by decide +kernel
theorem d_Sl_goMonth_59 : decode b_Sl_goMonth 59 = .ok (.iadd, 1) := by decide +kernel
theorem d_Sl_goMonth_60 : decode b_Sl_goMonth 60 = .ok (.putfield 40, 3) := by decide +kernel
theorem d_Sl_goMonth_63 : decode b_Sl_goMonth 63 = .ok (.aload_n 0, 1) := by decide +kernel
theorem d_Sl_goMonth_64 : decode b_Sl_goMonth 64 = .ok (.dup, 1) := by decide +kernel
theorem d_Sl_goMonth_65 : decode b_Sl_goMonth 65 = .ok (.getfield 43, 3) := by decide +kernel
theorem d_Sl_goMonth_68 : decode b_Sl_goMonth 68 = .ok (.iload_n 1, 1) := by decide +kernel
theorem d_Sl_goMonth_69 : decode b_Sl_goMonth 69 = .ok (.ifCond .eq 7, 3) := by decide +kernel
theorem d_Sl_goMonth_72 : decode b_Sl_goMonth 72 = .ok (.iconst 1, 1) := by decide +kernel
theorem d_Sl_goMonth_73 : decode b_Sl_goMonth 73 = .ok (.goto 4, 3) := by decide +kernel
theorem d_Sl_goMonth_76 : decode b_Sl_goMonth 76 = .ok (.iconst 0, 1) := by decide +kernel
theorem d_Sl_goMonth_77 : decode b_Sl_goMonth 77 = .ok (.iadd, 1) := by decide +kernel
theorem d_Sl_goMonth_78 : decode b_Sl_goMonth 78 = .ok (.putfield 43, 3) := by decide +kernel
theorem d_Sl_goMonth_81 : decode b_Sl_goMonth 81 = .ok (.aload_n 0, 1) := by decide +kernel
theorem d_Sl_goMonth_82 : decode b_Sl_goMonth 82 = .ok (.dup, 1) := by decide +kernel
theorem d_Sl_goMonth_83 : decode b_Sl_goMonth 83 = .ok (.getfield 30, 3) := by decide +kernel
theorem d_Sl_goMonth_86 : decode b_Sl_goMonth 86 = .ok (.iconst 1, 1) := by decide +kernel
theorem d_Sl_goMonth_87 : decode b_Sl_goMonth 87 = .ok (.iadd, 1) := by decide +kernel
theorem d_Sl_goMonth_88 : decode b_Sl_goMonth 88 = .ok (.putfield 30, 3) := by decide +kernel
theorem d_Sl_goMonth_91 : decode b_Sl_goMonth 91 = .ok (.aload_n 0, 1) := by decide +kernel
theorem d_Sl_goMonth_92 : decode b_Sl_goMonth 92 = .ok (.iconst 0, 1) := by decide +kernel
theorem d_Sl_goMonth_93 : decode b_Sl_goMonth 93 = .ok (.putfield 46, 3) := by decide +kernel
theorem d_Sl_goMonth_96 : decode b_Sl_goMonth 96 = .ok (.iload_n 1, 1) := by decide +kernel
theorem d_Sl_goMonth_97 : decode b_Sl_goMonth 97 = .ok (.ireturn, 1) := by decide +kernel
theorem d_Mo_goOn_0 : decode b_Mo_goOn 0 = .ok (.aload_n 0, 1) := by decide +kernel
theorem d_Mo_goOn_1 : decode b_Mo_goOn 1 = .ok (.aload_n 0, 1) := by decide +kernel
theorem d_Mo_goOn_2 : decode b_Mo_goOn 2 = .ok (.getfield 28, 3) := by decide +kernel
theorem d_Mo_goOn_5 : decode b_Mo_goOn 5 = .ok (.ldc 45, 2) := by decide +kernel
theorem d_Mo_goOn_7 : decode b_Mo_goOn 7 = .ok (.imul, 1) := by decide +kernel
theorem d_Mo_goOn_8 : decode b_Mo_goOn 8 = .ok (.sipush 12345, 3) := by decide +kernel
theorem d_Mo_goOn_11 : decode b_Mo_goOn 11 = .ok (.iadd, 1) := by decide +kernel
theorem d_Mo_goOn_12 : decode b_Mo_goOn 12 = .ok (.putfield 28, 3) := by decide +kernel
theorem d_Mo_goOn_15 : decode b_Mo_goOn 15 = .ok (.aload_n 0, 1) := by decide +kernel
theorem d_Mo_goOn_16 : decode b_Mo_goOn 16 = .ok (.getfield 28, 3) := by decide +kernel
theorem d_Mo_goOn_19 : decode b_Mo_goOn 19 = .ok (.bipush 8, 2) := by decide +kernel
theorem d_Mo_goOn_21 : decode b_Mo_goOn 21 = .ok (.iushr, 1) := by decide +kernel
theorem d_Mo_goOn_22 : decode b_Mo_goOn 22 = .ok (.bipush 10, 2) := by decide +kernel
theorem d_Mo_goOn_24 : decode b_Mo_goOn 24 = .ok (.irem, 1) := by decide +kernel
theorem d_Mo_goOn_25 : decode b_Mo_goOn 25 = .ok (.istore_n 1, 1) := by decide +kernel
theorem d_Mo_goOn_26 : decode b_Mo_goOn 26 = .ok (.aload_n 0, 1) := by decide +kernel
theorem d_Mo_goOn_27 : decode b_Mo_goOn 27 = .ok (.getfield 25, 3) := by decide +kernel
theorem d_Mo_goOn_30 : decode b_Mo_goOn 30 = .ok (.istore_n 2, 1) := by decide +kernel
theorem d_Mo_goOn_31 : decode b_Mo_goOn 31 = .ok (.iconst 0, 1) := by decide +kernel
theorem d_Mo_goOn_32 : decode b_Mo_goOn 32 = .ok (.istore_n 3, 1) := by decide +kernel
theorem d_Mo_goOn_33 : decode b_Mo_goOn 33 = .ok (.iconst 0, 1) := by decide +kernel
theorem d_Mo_goOn_34 : decode b_Mo_goOn 34 = .ok (.istore 4, 2) := by decide +kernel
theorem d_Mo_goOn_36 : decode b_Mo_goOn 36 = .ok (.iload 4, 2) := by decide +kernel
theorem d_Mo_goOn_38 : decode b_Mo_goOn 38 = .ok (.iconst 4, 1) := by decide +kernel
theorem d_Mo_goOn_39 : decode b_Mo_goOn 39 = .ok (.if_icmp .ge 34, 3) := by decide +kernel
theorem d_Mo_goOn_42 : decode b_Mo_goOn 42 = .ok (.iload_n 3, 1) := by decide +kernel
theorem d_Mo_goOn_43 : decode b_Mo_goOn 43 = .ok (.aload_n 0, 1) := by decide +kernel
theorem d_Mo_goOn_44 : decode b_Mo_goOn 44 = .ok (.iconst 0, 1) := by decide +kernel
theorem d_Mo_goOn_45 : decode b_Mo_goOn 45 = .ok (.iload_n 2, 1) := by decide +kernel
theorem d_Mo_goOn_46 : decode b_Mo_goOn 46 = .ok (.iload 4, 2) := by decide +kernel
theorem d_Mo_goOn_48 : decode b_Mo_goOn 48 = .ok (.invokevirtual 46, 3) := by decide +kernel
theorem d_Mo_goOn_51 : decode b_Mo_goOn 51 = .ok (.iadd, 1) := by decide +kernel
theorem d_Mo_goOn_52 : decode b_Mo_goOn 52 = .ok (.istore_n 3, 1) := by decide +kernel
theorem d_Mo_goOn_53 : decode b_Mo_goOn 53 = .ok (.iload_n 1, 1) := by decide +kernel
theorem d_Mo_goOn_54 : decode b_Mo_goOn 54 = .ok (.iload_n 3, 1) := by decide +kernel
theorem d_Mo_goOn_55 : decode b_Mo_goOn 55 = .ok (.if_icmp .ge 12, 3) := by decide +kernel
theorem d_Mo_goOn_58 : decode b_Mo_goOn 58 = .ok (.aload_n 0, 1) := by decide +kernel
theorem d_Mo_goOn_59 : decode b_Mo_goOn 59 = .ok (.iload 4, 2) := by decide +kernel
theorem d_Mo_goOn_61 : decode b_Mo_goOn 61 = .ok (.putfield 25, 3) := by decide +kernel
theorem d_Mo_goOn_64 : decode b_Mo_goOn 64 = .ok (.goto 9, 3) := by decide +kernel
theorem d_Mo_goOn_67 : decode b_Mo_goOn 67 = .ok (.iinc 4 1, 3) := by decide +kernel
theorem d_Mo_goOn_70 : decode b_Mo_goOn 70 = .ok (.goto (-34), 3) := by decide +kernel
theorem d_Mo_goOn_73 : decode b_Mo_goOn 73 = .ok (.aload_n 0, 1) := by decide +kernel
theorem d_Mo_goOn_74 : decode b_Mo_goOn 74 = .ok (.getfield 25, 3) := by decide +kernel
theorem d_Mo_goOn_77 : decode b_Mo_goOn 77 = .ok (.iconst 3, 1) := by decide +kernel
theorem d_Mo_goOn_78 : decode b_Mo_goOn 78 = .ok (.if_icmp .ne 12, 3) := by decide +kernel
theorem d_Mo_goOn_81 : decode b_Mo_goOn 81 = .ok (.iload_n 2, 1) := by decide +kernel
theorem d_Mo_goOn_82 : decode b_Mo_goOn 82 = .ok (.iconst 3, 1) := by decide +kernel
theorem d_Mo_goOn_83 : decode b_Mo_goOn 83 = .ok (.if_icmp .eq 7, 3) := by decide +kernel
theorem d_Mo_goOn_86 : decode b_Mo_goOn 86 = .ok (.iconst 1, 1) := by decide +kernel
theorem d_Mo_goOn_87 : decode b_Mo_goOn 87 = .ok (.goto 4, 3) := by decide +kernel
theorem d_Mo_goOn_90 : decode b_Mo_goOn 90 = .ok (.iconst 0, 1) := by decide +kernel
theorem d_Mo_goOn_91 : decode b_Mo_goOn 91 = .ok (.ireturn, 1) := by decide +kernel
theorem d_Sl_eruptNow_0 : decode b_Sl_eruptNow 0 = .ok (.aload_n 0, 1) := by decide +kernel
theorem d_Sl_eruptNow_1 : decode b_Sl_eruptNow 1 = .ok (.getfield 10, 3) := by decide +kernel
theorem d_Sl_eruptNow_4 : decode b_Sl_eruptNow 4 = .ok (.aload_n 0, 1) := by decide +kernel
theorem d_Sl_eruptNow_5 : decode b_Sl_eruptNow 5 = .ok (.getfield 10, 3) := by decide +kernel
theorem d_Sl_eruptNow_8 : decode b_Sl_eruptNow 8 = .ok (.getfield 76, 3) := by decide +kernel
theorem d_Sl_eruptNow_11 : decode b_Sl_eruptNow 11 = .ok (.aload_n 0, 1) := by decide +kernel
theorem d_Sl_eruptNow_12 : decode b_Sl_eruptNow 12 = .ok (.getfield 34, 3) := by decide +kernel
theorem d_Sl_eruptNow_15 : decode b_Sl_eruptNow 15 = .ok (.invokevirtual 79, 3) := by decide +kernel
theorem d_Sl_eruptNow_18 : decode b_Sl_eruptNow 18 = .ok (.lstore_n 1, 1) := by decide +kernel
theorem d_Sl_eruptNow_19 : decode b_Sl_eruptNow 19 = .ok (.aload_n 0, 1) := by decide +kernel
theorem d_Sl_eruptNow_20 : decode b_Sl_eruptNow 20 = .ok (.getfield 10, 3) := by decide +kernel
theorem d_Sl_eruptNow_23 : decode b_Sl_eruptNow 23 = .ok (.lload_n 1, 1) := by decide +kernel
theorem d_Sl_eruptNow_24 : decode b_Sl_eruptNow 24 = .ok (.invokevirtual 83, 3) := by decide +kernel
theorem d_Sl_eruptNow_27 : decode b_Sl_eruptNow 27 = .ok (.aload_n 0, 1) := by decide +kernel
theorem d_Sl_eruptNow_28 : decode b_Sl_eruptNow 28 = .ok (.getfield 19, 3) := by decide +kernel
theorem d_Sl_eruptNow_31 : decode b_Sl_eruptNow 31 = .ok (.dup, 1) := by decide +kernel
theorem d_Sl_eruptNow_32 : decode b_Sl_eruptNow 32 = .ok (.getfield 87, 3) := by decide +kernel
theorem d_Sl_eruptNow_35 : decode b_Sl_eruptNow 35 = .ok (.aload_n 0, 1) := by decide +kernel
theorem d_Sl_eruptNow_36 : decode b_Sl_eruptNow 36 = .ok (.getfield 19, 3) := by decide +kernel
theorem d_Sl_eruptNow_39 : decode b_Sl_eruptNow 39 = .ok (.lload_n 1, 1) := by decide +kernel
theorem d_Sl_eruptNow_40 : decode b_Sl_eruptNow 40 = .ok (.invokevirtual 90, 3) := by decide +kernel
theorem d_Sl_eruptNow_43 : decode b_Sl_eruptNow 43 = .ok (.ior, 1) := by decide +kernel
theorem d_Sl_eruptNow_44 : decode b_Sl_eruptNow 44 = .ok (.putfield 87, 3) := by decide +kernel
theorem d_Sl_eruptNow_47 : decode b_Sl_eruptNow 47 = .ok (.aload_n 0, 1) := by decide +kernel
theorem d_Sl_eruptNow_48 : decode b_Sl_eruptNow 48 = .ok (.dup, 1) := by decide +kernel
theorem d_Sl_eruptNow_49 : decode b_Sl_eruptNow 49 = .ok (.getfield 37, 3) := by decide +kernel
theorem d_Sl_eruptNow_52 : decode b_Sl_eruptNow 52 = .ok (.iconst 1, 1) := by decide +kernel
theorem d_Sl_eruptNow_53 : decode b_Sl_eruptNow 53 = .ok (.iadd, 1) := by decide +kernel
theorem d_Sl_eruptNow_54 : decode b_Sl_eruptNow 54 = .ok (.putfield 37, 3) := by decide +kernel
theorem d_Sl_eruptNow_57 : decode b_Sl_eruptNow 57 = .ok (.return_, 1) := by decide +kernel
theorem d_Gr_coolDown_0 : decode b_Gr_coolDown 0 = .ok (.iconst 0, 1) := by decide +kernel
theorem d_Gr_coolDown_1 : decode b_Gr_coolDown 1 = .ok (.istore_n 3, 1) := by decide +kernel
theorem d_Gr_coolDown_2 : decode b_Gr_coolDown 2 = .ok (.iload_n 3, 1) := by decide +kernel
theorem d_Gr_coolDown_3 : decode b_Gr_coolDown 3 = .ok (.bipush 36, 2) := by decide +kernel
theorem d_Gr_coolDown_5 : decode b_Gr_coolDown 5 = .ok (.if_icmp .ge 26, 3) := by decide +kernel
theorem d_Gr_coolDown_8 : decode b_Gr_coolDown 8 = .ok (.lload_n 1, 1) := by decide +kernel
theorem d_Gr_coolDown_9 : decode b_Gr_coolDown 9 = .ok (.iload_n 3, 1) := by decide +kernel
theorem d_Gr_coolDown_10 : decode b_Gr_coolDown 10 = .ok (.lshr, 1) := by decide +kernel
theorem d_Gr_coolDown_11 : decode b_Gr_coolDown 11 = .ok (.lconst 1, 1) := by decide +kernel
theorem d_Gr_coolDown_12 : decode b_Gr_coolDown 12 = .ok (.land, 1) := by decide +kernel
theorem d_Gr_coolDown_13 : decode b_Gr_coolDown 13 = .ok (.lconst 1, 1) := by decide +kernel
theorem d_Gr_coolDown_14 : decode b_Gr_coolDown 14 = .ok (.lcmp, 1) := by decide +kernel
theorem d_Gr_coolDown_15 : decode b_Gr_coolDown 15 = .ok (.ifCond .ne 10, 3) := by decide +kernel
theorem d_Gr_coolDown_18 : decode b_Gr_coolDown 18 = .ok (.aload_n 0, 1) := by decide +kernel
theorem d_Gr_coolDown_19 : decode b_Gr_coolDown 19 = .ok (.getfield 15, 3) := by decide +kernel
theorem d_Gr_coolDown_22 : decode b_Gr_coolDown 22 = .ok (.iload_n 3, 1) := by decide +kernel
theorem d_Gr_coolDown_23 : decode b_Gr_coolDown 23 = .ok (.iconst 0, 1) := by decide +kernel
theorem d_Gr_coolDown_24 : decode b_Gr_coolDown 24 = .ok (.iastore, 1) := by decide +kernel
theorem d_Gr_coolDown_25 : decode b_Gr_coolDown 25 = .ok (.iinc 3 1, 3) := by decide +kernel
theorem d_Gr_coolDown_28 : decode b_Gr_coolDown 28 = .ok (.goto (-26), 3) := by decide +kernel
theorem d_Gr_coolDown_31 : decode b_Gr_coolDown 31 = .ok (.aload_n 0, 1) := by decide +kernel
theorem d_Gr_coolDown_32 : decode b_Gr_coolDown 32 = .ok (.iconst 0, 1) := by decide +kernel
theorem d_Gr_coolDown_33 : decode b_Gr_coolDown 33 = .ok (.putfield 25, 3) := by decide +kernel
theorem d_Gr_coolDown_36 : decode b_Gr_coolDown 36 = .ok (.return_, 1) := by decide +kernel
theorem d_Fa_earnOn_0 : decode b_Fa_earnOn 0 = .ok (.iconst 0, 1) := by decide +kernel
theorem d_Fa_earnOn_1 : decode b_Fa_earnOn 1 = .ok (.istore_n 2, 1) := by decide +kernel
theorem d_Fa_earnOn_2 : decode b_Fa_earnOn 2 = .ok (.iload_n 2, 1) := by decide +kernel
theorem d_Fa_earnOn_3 : decode b_Fa_earnOn 3 = .ok (.aload_n 0, 1) := by decide +kernel
theorem d_Fa_earnOn_4 : decode b_Fa_earnOn 4 = .ok (.getfield 24, 3) := by decide +kernel
theorem d_Fa_earnOn_7 : decode b_Fa_earnOn 7 = .ok (.if_icmp .ge 24, 3) := by decide +kernel
theorem d_Fa_earnOn_10 : decode b_Fa_earnOn 10 = .ok (.aload_n 0, 1) := by decide +kernel
theorem d_Fa_earnOn_11 : decode b_Fa_earnOn 11 = .ok (.getfield 21, 3) := by decide +kernel
theorem d_Fa_earnOn_14 : decode b_Fa_earnOn 14 = .ok (.iload_n 2, 1) := by decide +kernel
theorem d_Fa_earnOn_15 : decode b_Fa_earnOn 15 = .ok (.dup2, 1) := by decide +kernel
theorem d_Fa_earnOn_16 : decode b_Fa_earnOn 16 = .ok (.iaload, 1) := by decide +kernel
theorem d_Fa_earnOn_17 : decode b_Fa_earnOn 17 = .ok (.aload_n 0, 1) := by decide +kernel
theorem d_Fa_earnOn_18 : decode b_Fa_earnOn 18 = .ok (.iload_n 2, 1) := by decide +kernel
theorem d_Fa_earnOn_19 : decode b_Fa_earnOn 19 = .ok (.aload_n 1, 1) := by decide +kernel
theorem d_Fa_earnOn_20 : decode b_Fa_earnOn 20 = .ok (.invokevirtual 57, 3) := by decide +kernel
theorem d_Fa_earnOn_23 : decode b_Fa_earnOn 23 = .ok (.iadd, 1) := by decide +kernel
theorem d_Fa_earnOn_24 : decode b_Fa_earnOn 24 = .ok (.iastore, 1) := by decide +kernel
theorem d_Fa_earnOn_25 : decode b_Fa_earnOn 25 = .ok (.iinc 2 1, 3) := by decide +kernel
theorem d_Fa_earnOn_28 : decode b_Fa_earnOn 28 = .ok (.goto (-26), 3) := by decide +kernel
theorem d_Fa_earnOn_31 : decode b_Fa_earnOn 31 = .ok (.return_, 1) := by decide +kernel
theorem d_Gr_growOlder_0 : decode b_Gr_growOlder 0 = .ok (.iconst 0, 1) := by decide +kernel
theorem d_Gr_growOlder_1 : decode b_Gr_growOlder 1 = .ok (.istore_n 1, 1) := by decide +kernel
theorem d_Gr_growOlder_2 : decode b_Gr_growOlder 2 = .ok (.iload_n 1, 1) := by decide +kernel
theorem d_Gr_growOlder_3 : decode b_Gr_growOlder 3 = .ok (.bipush 36, 2) := by decide +kernel
theorem d_Gr_growOlder_5 : decode b_Gr_growOlder 5 = .ok (.if_icmp .ge 28, 3) := by decide +kernel
theorem d_Gr_growOlder_8 : decode b_Gr_growOlder 8 = .ok (.aload_n 0, 1) := by decide +kernel
theorem d_Gr_growOlder_9 : decode b_Gr_growOlder 9 = .ok (.getfield 15, 3) := by decide +kernel
theorem d_Gr_growOlder_12 : decode b_Gr_growOlder 12 = .ok (.iload_n 1, 1) := by decide +kernel
theorem d_Gr_growOlder_13 : decode b_Gr_growOlder 13 = .ok (.bipush 99, 2) := by decide +kernel
theorem d_Gr_growOlder_15 : decode b_Gr_growOlder 15 = .ok (.aload_n 0, 1) := by decide +kernel
theorem d_Gr_growOlder_16 : decode b_Gr_growOlder 16 = .ok (.getfield 15, 3) := by decide +kernel
theorem d_Gr_growOlder_19 : decode b_Gr_growOlder 19 = .ok (.iload_n 1, 1) := by decide +kernel
theorem d_Gr_growOlder_20 : decode b_Gr_growOlder 20 = .ok (.iaload, 1) := by decide +kernel
theorem d_Gr_growOlder_21 : decode b_Gr_growOlder 21 = .ok (.iconst 1, 1) := by decide +kernel
theorem d_Gr_growOlder_22 : decode b_Gr_growOlder 22 = .ok (.iadd, 1) := by decide +kernel
theorem d_Gr_growOlder_23 : decode b_Gr_growOlder 23 = .ok (.invokestatic 55, 3) := by decide +kernel
theorem d_Gr_growOlder_26 : decode b_Gr_growOlder 26 = .ok (.iastore, 1) := by decide +kernel
theorem d_Gr_growOlder_27 : decode b_Gr_growOlder 27 = .ok (.iinc 1 1, 3) := by decide +kernel
theorem d_Gr_growOlder_30 : decode b_Gr_growOlder 30 = .ok (.goto (-28), 3) := by decide +kernel
theorem d_Gr_growOlder_33 : decode b_Gr_growOlder 33 = .ok (.aload_n 0, 1) := by decide +kernel
theorem d_Gr_growOlder_34 : decode b_Gr_growOlder 34 = .ok (.bipush 99, 2) := by decide +kernel
theorem d_Gr_growOlder_36 : decode b_Gr_growOlder 36 = .ok (.aload_n 0, 1) := by decide +kernel
theorem d_Gr_growOlder_37 : decode b_Gr_growOlder 37 = .ok (.getfield 25, 3) := by decide +kernel
theorem d_Gr_growOlder_40 : decode b_Gr_growOlder 40 = .ok (.iconst 1, 1) := by decide +kernel
theorem d_Gr_growOlder_41 : decode b_Gr_growOlder 41 = .ok (.iadd, 1) := by decide +kernel
theorem d_Gr_growOlder_42 : decode b_Gr_growOlder 42 = .ok (.invokestatic 55, 3) := by decide +kernel
theorem d_Gr_growOlder_45 : decode b_Gr_growOlder 45 = .ok (.putfield 25, 3) := by decide +kernel
theorem d_Gr_growOlder_48 : decode b_Gr_growOlder 48 = .ok (.return_, 1) := by decide +kernel
theorem d_X_seed_0 : decode b_X_seed 0 = .ok (.aload_n 0, 1) := by decide +kernel
theorem d_X_seed_1 : decode b_X_seed 1 = .ok (.getfield 10, 3) := by decide +kernel
theorem d_X_seed_4 : decode b_X_seed 4 = .ok (.getfield 162, 3) := by decide +kernel
theorem d_X_seed_7 : decode b_X_seed 7 = .ok (.getfield 247, 3) := by decide +kernel
theorem d_X_seed_10 : decode b_X_seed 10 = .ok (.istore_n 2, 1) := by decide +kernel
theorem d_X_seed_11 : decode b_X_seed 11 = .ok (.aload_n 0, 1) := by decide +kernel
theorem d_X_seed_12 : decode b_X_seed 12 = .ok (.getfield 10, 3) := by decide +kernel
theorem d_X_seed_15 : decode b_X_seed 15 = .ok (.getfield 162, 3) := by decide +kernel
theorem d_X_seed_18 : decode b_X_seed 18 = .ok (.iload_n 1, 1) := by decide +kernel
theorem d_X_seed_19 : decode b_X_seed 19 = .ok (.putfield 247, 3) := by decide +kernel
theorem d_X_seed_22 : decode b_X_seed 22 = .ok (.iload_n 2, 1) := by decide +kernel
theorem d_X_seed_23 : decode b_X_seed 23 = .ok (.ireturn, 1) := by decide +kernel
theorem d_X_now_0 : decode b_X_now 0 = .ok (.iload_n 1, 1) := by decide +kernel
theorem d_X_now_1 : decode b_X_now 1 = .ok (.tableswitch 120 0 7 #[47, 55, 66, 77, 88, 96, 104, 112], 47) := by decide +kernel
theorem d_X_now_48 : decode b_X_now 48 = .ok (.aload_n 0, 1) := by decide +kernel
theorem d_X_now_49 : decode b_X_now 49 = .ok (.getfield 10, 3) := by decide +kernel
theorem d_X_now_52 : decode b_X_now 52 = .ok (.getfield 241, 3) := by decide +kernel
theorem d_X_now_55 : decode b_X_now 55 = .ok (.ireturn, 1) := by decide +kernel
theorem d_X_now_56 : decode b_X_now 56 = .ok (.aload_n 0, 1) := by decide +kernel
theorem d_X_now_57 : decode b_X_now 57 = .ok (.getfield 10, 3) := by decide +kernel
theorem d_X_now_60 : decode b_X_now 60 = .ok (.getfield 162, 3) := by decide +kernel
theorem d_X_now_63 : decode b_X_now 63 = .ok (.getfield 250, 3) := by decide +kernel
theorem d_X_now_66 : decode b_X_now 66 = .ok (.ireturn, 1) := by decide +kernel
theorem d_X_now_67 : decode b_X_now 67 = .ok (.aload_n 0, 1) := by decide +kernel
theorem d_X_now_68 : decode b_X_now 68 = .ok (.getfield 10, 3) := by decide +kernel
theorem d_X_now_71 : decode b_X_now 71 = .ok (.getfield 63, 3) := by decide +kernel
theorem d_X_now_74 : decode b_X_now 74 = .ok (.getfield 87, 3) := by decide +kernel
theorem d_X_now_77 : decode b_X_now 77 = .ok (.ireturn, 1) := by decide +kernel
theorem d_X_now_78 : decode b_X_now 78 = .ok (.aload_n 0, 1) := by decide +kernel
theorem d_X_now_79 : decode b_X_now 79 = .ok (.getfield 10, 3) := by decide +kernel
theorem d_X_now_82 : decode b_X_now 82 = .ok (.getfield 63, 3) := by decide +kernel
theorem d_X_now_85 : decode b_X_now 85 = .ok (.getfield 148, 3) := by decide +kernel
theorem d_X_now_88 : decode b_X_now 88 = .ok (.ireturn, 1) := by decide +kernel
theorem d_X_now_89 : decode b_X_now 89 = .ok (.aload_n 0, 1) := by decide +kernel
theorem d_X_now_90 : decode b_X_now 90 = .ok (.getfield 10, 3) := by decide +kernel
theorem d_X_now_93 : decode b_X_now 93 = .ok (.getfield 235, 3) := by decide +kernel
theorem d_X_now_96 : decode b_X_now 96 = .ok (.ireturn, 1) := by decide +kernel
theorem d_X_now_97 : decode b_X_now 97 = .ok (.aload_n 0, 1) := by decide +kernel
theorem d_X_now_98 : decode b_X_now 98 = .ok (.getfield 10, 3) := by decide +kernel
theorem d_X_now_101 : decode b_X_now 101 = .ok (.getfield 253, 3) := by decide +kernel
theorem d_X_now_104 : decode b_X_now 104 = .ok (.ireturn, 1) := by decide +kernel
theorem d_X_now_105 : decode b_X_now 105 = .ok (.aload_n 0, 1) := by decide +kernel
theorem d_X_now_106 : decode b_X_now 106 = .ok (.getfield 10, 3) := by decide +kernel
theorem d_X_now_109 : decode b_X_now 109 = .ok (.getfield 256, 3) := by decide +kernel
theorem d_X_now_112 : decode b_X_now 112 = .ok (.ireturn, 1) := by decide +kernel
theorem d_X_now_113 : decode b_X_now 113 = .ok (.aload_n 0, 1) := by decide +kernel
theorem d_X_now_114 : decode b_X_now 114 = .ok (.getfield 10, 3) := by decide +kernel
theorem d_X_now_117 : decode b_X_now 117 = .ok (.getfield 259, 3) := by decide +kernel
theorem d_X_now_120 : decode b_X_now 120 = .ok (.ireturn, 1) := by decide +kernel
theorem d_X_now_121 : decode b_X_now 121 = .ok (.aload_n 0, 1) := by decide +kernel
theorem d_X_now_122 : decode b_X_now 122 = .ok (.iconst 0, 1) := by decide +kernel
theorem d_X_now_123 : decode b_X_now 123 = .ok (.invokevirtual 59, 3) := by decide +kernel
theorem d_X_now_126 : decode b_X_now 126 = .ok (.ireturn, 1) := by decide +kernel
theorem d_X_doPigs_0 : decode b_X_doPigs 0 = .ok (.aload_n 0, 1) := by decide +kernel
theorem d_X_doPigs_1 : decode b_X_doPigs 1 = .ok (.getfield 10, 3) := by decide +kernel
theorem d_X_doPigs_4 : decode b_X_doPigs 4 = .ok (.getfield 256, 3) := by decide +kernel
theorem d_X_doPigs_7 : decode b_X_doPigs 7 = .ok (.ifCond .eq 20, 3) := by decide +kernel
theorem d_X_doPigs_10 : decode b_X_doPigs 10 = .ok (.aload_n 0, 1) := by decide +kernel
theorem d_X_doPigs_11 : decode b_X_doPigs 11 = .ok (.getfield 10, 3) := by decide +kernel
theorem d_X_doPigs_14 : decode b_X_doPigs 14 = .ok (.getfield 256, 3) := by decide +kernel
theorem d_X_doPigs_17 : decode b_X_doPigs 17 = .ok (.aload_n 0, 1) := by decide +kernel
theorem d_X_doPigs_18 : decode b_X_doPigs 18 = .ok (.getfield 10, 3) := by decide +kernel
theorem d_X_doPigs_21 : decode b_X_doPigs 21 = .ok (.getfield 241, 3) := by decide +kernel
theorem d_X_doPigs_24 : decode b_X_doPigs 24 = .ok (.if_icmp .ne 9, 3) := by decide +kernel
theorem d_X_doPigs_27 : decode b_X_doPigs 27 = .ok (.aload_n 0, 1) := by decide +kernel
theorem d_X_doPigs_28 : decode b_X_doPigs 28 = .ok (.iconst 3, 1) := by decide +kernel
theorem d_X_doPigs_29 : decode b_X_doPigs 29 = .ok (.invokevirtual 59, 3) := by decide +kernel
theorem d_X_doPigs_32 : decode b_X_doPigs 32 = .ok (.ireturn, 1) := by decide +kernel
theorem d_X_doPigs_33 : decode b_X_doPigs 33 = .ok (.aload_n 0, 1) := by decide +kernel
theorem d_X_doPigs_34 : decode b_X_doPigs 34 = .ok (.getfield 10, 3) := by decide +kernel
theorem d_X_doPigs_37 : decode b_X_doPigs 37 = .ok (.getfield 253, 3) := by decide +kernel
theorem d_X_doPigs_40 : decode b_X_doPigs 40 = .ok (.aload_n 0, 1) := by decide +kernel
theorem d_X_doPigs_41 : decode b_X_doPigs 41 = .ok (.getfield 10, 3) := by decide +kernel
theorem d_X_doPigs_44 : decode b_X_doPigs 44 = .ok (.getfield 259, 3) := by decide +kernel
theorem d_X_doPigs_47 : decode b_X_doPigs 47 = .ok (.isub, 1) := by decide +kernel
theorem d_X_doPigs_48 : decode b_X_doPigs 48 = .ok (.i2l, 1) := by decide +kernel
theorem d_X_doPigs_49 : decode b_X_doPigs 49 = .ok (.aload_n 0, 1) := by decide +kernel
theorem d_X_doPigs_50 : decode b_X_doPigs 50 = .ok (.getfield 10, 3) := by decide +kernel
theorem d_X_doPigs_53 : decode b_X_doPigs 53 = .ok (.getfield 256, 3) := by decide +kernel
theorem d_X_doPigs_56 : decode b_X_doPigs 56 = .ok (.i2l, 1) := by decide +kernel
theorem d_X_doPigs_57 : decode b_X_doPigs 57 = .ok (.lmul, 1) := by decide +kernel
theorem d_X_doPigs_58 : decode b_X_doPigs 58 = .ok (.lstore_n 1, 1) := by decide +kernel
theorem d_X_doPigs_59 : decode b_X_doPigs 59 = .ok (.aload_n 0, 1) := by decide +kernel
theorem d_X_doPigs_60 : decode b_X_doPigs 60 = .ok (.getfield 10, 3) := by decide +kernel
theorem d_X_doPigs_63 : decode b_X_doPigs 63 = .ok (.getfield 259, 3) := by decide +kernel
theorem d_X_doPigs_66 : decode b_X_doPigs 66 = .ok (.i2l, 1) := by decide +kernel
theorem d_X_doPigs_67 : decode b_X_doPigs 67 = .ok (.aload_n 0, 1) := by decide +kernel
theorem d_X_doPigs_68 : decode b_X_doPigs 68 = .ok (.getfield 10, 3) := by decide +kernel
theorem d_X_doPigs_71 : decode b_X_doPigs 71 = .ok (.getfield 241, 3) := by decide +kernel
theorem d_X_doPigs_74 : decode b_X_doPigs 74 = .ok (.aload_n 0, 1) := by decide +kernel
theorem d_X_doPigs_75 : decode b_X_doPigs 75 = .ok (.getfield 10, 3) := by decide +kernel
theorem d_X_doPigs_78 : decode b_X_doPigs 78 = .ok (.getfield 256, 3) := by decide +kernel
theorem d_X_doPigs_81 : decode b_X_doPigs 81 = .ok (.isub, 1) := by decide +kernel
theorem d_X_doPigs_82 : decode b_X_doPigs 82 = .ok (.i2l, 1) := by decide +kernel
theorem d_X_doPigs_83 : decode b_X_doPigs 83 = .ok (.lmul, 1) := by decide +kernel
theorem d_X_doPigs_84 : decode b_X_doPigs 84 = .ok (.lstore_n 3, 1) := by decide +kernel
theorem d_X_doPigs_85 : decode b_X_doPigs 85 = .ok (.lload_n 1, 1) := by decide +kernel
theorem d_X_doPigs_86 : decode b_X_doPigs 86 = .ok (.lload_n 3, 1) := by decide +kernel
theorem d_X_doPigs_87 : decode b_X_doPigs 87 = .ok (.invokestatic 262, 3) := by decide +kernel
theorem d_X_doPigs_90 : decode b_X_doPigs 90 = .ok (.ireturn, 1) := by decide +kernel
theorem d_Lo_compare_0 : decode b_Lo_compare 0 = .ok (.lload_n 0, 1) := by decide +kernel
theorem d_Lo_compare_1 : decode b_Lo_compare 1 = .ok (.lload_n 2, 1) := by decide +kernel
theorem d_Lo_compare_2 : decode b_Lo_compare 2 = .ok (.lcmp, 1) := by decide +kernel
theorem d_Lo_compare_3 : decode b_Lo_compare 3 = .ok (.ifCond .ge 7, 3) := by decide +kernel
theorem d_Lo_compare_6 : decode b_Lo_compare 6 = .ok (.iconst (-1), 1) := by decide +kernel
theorem d_Lo_compare_7 : decode b_Lo_compare 7 = .ok (.goto 14, 3) := by decide +kernel
theorem d_Lo_compare_10 : decode b_Lo_compare 10 = .ok (.lload_n 0, 1) := by decide +kernel
theorem d_Lo_compare_11 : decode b_Lo_compare 11 = .ok (.lload_n 2, 1) := by decide +kernel
theorem d_Lo_compare_12 : decode b_Lo_compare 12 = .ok (.lcmp, 1) := by decide +kernel
theorem d_Lo_compare_13 : decode b_Lo_compare 13 = .ok (.ifCond .ne 7, 3) := by decide +kernel
theorem d_Lo_compare_16 : decode b_Lo_compare 16 = .ok (.iconst 0, 1) := by decide +kernel
theorem d_Lo_compare_17 : decode b_Lo_compare 17 = .ok (.goto 4, 3) := by decide +kernel
theorem d_Lo_compare_20 : decode b_Lo_compare 20 = .ok (.iconst 1, 1) := by decide +kernel
theorem d_Lo_compare_21 : decode b_Lo_compare 21 = .ok (.ireturn, 1) := by decide +kernel
theorem d_X_out_0 : decode b_X_out 0 = .ok (.aload_n 0, 1) := by decide +kernel
theorem d_X_out_1 : decode b_X_out 1 = .ok (.getfield 10, 3) := by decide +kernel
theorem d_X_out_4 : decode b_X_out 4 = .ok (.getfield 241, 3) := by decide +kernel
theorem d_X_out_7 : decode b_X_out 7 = .ok (.sipush 240, 3) := by decide +kernel
theorem d_X_out_10 : decode b_X_out 10 = .ok (.iadd, 1) := by decide +kernel
theorem d_X_out_11 : decode b_X_out 11 = .ok (.sipush 9999, 3) := by decide +kernel
theorem d_X_out_14 : decode b_X_out 14 = .ok (.if_icmp .le 9, 3) := by decide +kernel
theorem d_X_out_17 : decode b_X_out 17 = .ok (.aload_n 0, 1) := by decide +kernel
theorem d_X_out_18 : decode b_X_out 18 = .ok (.iconst 4, 1) := by decide +kernel
theorem d_X_out_19 : decode b_X_out 19 = .ok (.invokevirtual 59, 3) := by decide +kernel
theorem d_X_out_22 : decode b_X_out 22 = .ok (.ireturn, 1) := by decide +kernel
theorem d_X_out_23 : decode b_X_out 23 = .ok (.aload_n 0, 1) := by decide +kernel
theorem d_X_out_24 : decode b_X_out 24 = .ok (.getfield 19, 3) := by decide +kernel
theorem d_X_out_27 : decode b_X_out 27 = .ok (.aload_n 0, 1) := by decide +kernel
theorem d_X_out_28 : decode b_X_out 28 = .ok (.getfield 10, 3) := by decide +kernel
theorem d_X_out_31 : decode b_X_out 31 = .ok (.invokevirtual 268, 3) := by decide +kernel
theorem d_X_out_34 : decode b_X_out 34 = .ok (.iconst 1, 1) := by decide +kernel
theorem d_X_out_35 : decode b_X_out 35 = .ok (.istore_n 1, 1) := by decide +kernel
theorem d_X_out_36 : decode b_X_out 36 = .ok (.iload_n 1, 1) := by decide +kernel
theorem d_X_out_37 : decode b_X_out 37 = .ok (.sipush 240, 3) := by decide +kernel
theorem d_X_out_40 : decode b_X_out 40 = .ok (.if_icmp .gt 21, 3) := by decide +kernel
theorem d_X_out_43 : decode b_X_out 43 = .ok (.aload_n 0, 1) := by decide +kernel
theorem d_X_out_44 : decode b_X_out 44 = .ok (.getfield 19, 3) := by decide +kernel
theorem d_X_out_47 : decode b_X_out 47 = .ok (.invokevirtual 271, 3) := by decide +kernel
theorem d_X_out_50 : decode b_X_out 50 = .ok (.ifCond .eq 5, 3) := by decide +kernel
theorem d_X_out_53 : decode b_X_out 53 = .ok (.iload_n 1, 1) := by decide +kernel
theorem d_X_out_54 : decode b_X_out 54 = .ok (.ireturn, 1) := by decide +kernel
theorem d_X_out_55 : decode b_X_out 55 = .ok (.iinc 1 1, 3) := by decide +kernel
theorem d_X_out_58 : decode b_X_out 58 = .ok (.goto (-22), 3) := by decide +kernel
theorem d_X_out_61 : decode b_X_out 61 = .ok (.aload_n 0, 1) := by decide +kernel
theorem d_X_out_62 : decode b_X_out 62 = .ok (.iconst 3, 1) := by decide +kernel
theorem d_X_out_63 : decode b_X_out 63 = .ok (.invokevirtual 59, 3) := by decide +kernel
theorem d_X_out_66 : decode b_X_out 66 = .ok (.ireturn, 1) := by decide +kernel
theorem d_Sl_become_0 : decode b_Sl_become 0 = .ok (.aload_n 0, 1) := by decide +kernel
theorem d_Sl_become_1 : decode b_Sl_become 1 = .ok (.getfield 10, 3) := by decide +kernel
theorem d_Sl_become_4 : decode b_Sl_become 4 = .ok (.aload_n 1, 1) := by decide +kernel
theorem d_Sl_become_5 : decode b_Sl_become 5 = .ok (.getfield 10, 3) := by decide +kernel
theorem d_Sl_become_8 : decode b_Sl_become 8 = .ok (.invokevirtual 50, 3) := by decide +kernel
theorem d_Sl_become_11 : decode b_Sl_become 11 = .ok (.aload_n 0, 1) := by decide +kernel
theorem d_Sl_become_12 : decode b_Sl_become 12 = .ok (.getfield 19, 3) := by decide +kernel
theorem d_Sl_become_15 : decode b_Sl_become 15 = .ok (.aload_n 1, 1) := by decide +kernel
theorem d_Sl_become_16 : decode b_Sl_become 16 = .ok (.getfield 19, 3) := by decide +kernel
theorem d_Sl_become_19 : decode b_Sl_become 19 = .ok (.invokevirtual 54, 3) := by decide +kernel
theorem d_Sl_become_22 : decode b_Sl_become 22 = .ok (.aload_n 0, 1) := by decide +kernel
theorem d_Sl_become_23 : decode b_Sl_become 23 = .ok (.getfield 26, 3) := by decide +kernel
theorem d_Sl_become_26 : decode b_Sl_become 26 = .ok (.aload_n 1, 1) := by decide +kernel
theorem d_Sl_become_27 : decode b_Sl_become 27 = .ok (.getfield 26, 3) := by decide +kernel
theorem d_Sl_become_30 : decode b_Sl_become 30 = .ok (.invokevirtual 57, 3) := by decide +kernel
theorem d_Sl_become_33 : decode b_Sl_become 33 = .ok (.aload_n 0, 1) := by decide +kernel
theorem d_Sl_become_34 : decode b_Sl_become 34 = .ok (.aload_n 1, 1) := by decide +kernel
theorem d_Sl_become_35 : decode b_Sl_become 35 = .ok (.getfield 30, 3) := by decide +kernel
theorem d_Sl_become_38 : decode b_Sl_become 38 = .ok (.putfield 30, 3) := by decide +kernel
theorem d_Sl_become_41 : decode b_Sl_become 41 = .ok (.aload_n 0, 1) := by decide +kernel
theorem d_Sl_become_42 : decode b_Sl_become 42 = .ok (.aload_n 1, 1) := by decide +kernel
theorem d_Sl_become_43 : decode b_Sl_become 43 = .ok (.getfield 34, 3) := by decide +kernel
theorem d_Sl_become_46 : decode b_Sl_become 46 = .ok (.putfield 34, 3) := by decide +kernel
theorem d_Sl_become_49 : decode b_Sl_become 49 = .ok (.aload_n 0, 1) := by decide +kernel
theorem d_Sl_become_50 : decode b_Sl_become 50 = .ok (.aload_n 1, 1) := by decide +kernel
theorem d_Sl_become_51 : decode b_Sl_become 51 = .ok (.getfield 37, 3) := by decide +kernel
theorem d_Sl_become_54 : decode b_Sl_become 54 = .ok (.putfield 37, 3) := by decide +kernel
theorem d_Sl_become_57 : decode b_Sl_become 57 = .ok (.aload_n 0, 1) := by decide +kernel
theorem d_Sl_become_58 : decode b_Sl_become 58 = .ok (.aload_n 1, 1) := by decide +kernel
theorem d_Sl_become_59 : decode b_Sl_become 59 = .ok (.getfield 40, 3) := by decide +kernel
theorem d_Sl_become_62 : decode b_Sl_become 62 = .ok (.putfield 40, 3) := by decide +kernel
theorem d_Sl_become_65 : decode b_Sl_become 65 = .ok (.aload_n 0, 1) := by decide +kernel
theorem d_Sl_become_66 : decode b_Sl_become 66 = .ok (.aload_n 1, 1) := by decide +kernel
theorem d_Sl_become_67 : decode b_Sl_become 67 = .ok (.getfield 43, 3) := by decide +kernel
theorem d_Sl_become_70 : decode b_Sl_become 70 = .ok (.putfield 43, 3) := by decide +kernel
theorem d_Sl_become_73 : decode b_Sl_become 73 = .ok (.aload_n 0, 1) := by decide +kernel
theorem d_Sl_become_74 : decode b_Sl_become 74 = .ok (.aload_n 1, 1) := by decide +kernel
theorem d_Sl_become_75 : decode b_Sl_become 75 = .ok (.getfield 46, 3) := by decide +kernel
theorem d_Sl_become_78 : decode b_Sl_become 78 = .ok (.putfield 46, 3) := by decide +kernel
theorem d_Sl_become_81 : decode b_Sl_become 81 = .ok (.return_, 1) := by decide +kernel
theorem d_Fa_become_0 : decode b_Fa_become 0 = .ok (.aload_n 1, 1) := by decide +kernel
theorem d_Fa_become_1 : decode b_Fa_become 1 = .ok (.getfield 9, 3) := by decide +kernel
theorem d_Fa_become_4 : decode b_Fa_become 4 = .ok (.iconst 0, 1) := by decide +kernel
theorem d_Fa_become_5 : decode b_Fa_become 5 = .ok (.aload_n 0, 1) := by decide +kernel
theorem d_Fa_become_6 : decode b_Fa_become 6 = .ok (.getfield 9, 3) := by decide +kernel
theorem d_Fa_become_9 : decode b_Fa_become 9 = .ok (.iconst 0, 1) := by decide +kernel
theorem d_Fa_become_10 : decode b_Fa_become 10 = .ok (.bipush 12, 2) := by decide +kernel
theorem d_Fa_become_12 : decode b_Fa_become 12 = .ok (.invokestatic 31, 3) := by decide +kernel
theorem d_Fa_become_15 : decode b_Fa_become 15 = .ok (.aload_n 1, 1) := by decide +kernel
theorem d_Fa_become_16 : decode b_Fa_become 16 = .ok (.getfield 15, 3) := by decide +kernel
theorem d_Fa_become_19 : decode b_Fa_become 19 = .ok (.iconst 0, 1) := by decide +kernel
theorem d_Fa_become_20 : decode b_Fa_become 20 = .ok (.aload_n 0, 1) := by decide +kernel
theorem d_Fa_become_21 : decode b_Fa_become 21 = .ok (.getfield 15, 3) := by decide +kernel
theorem d_Fa_become_24 : decode b_Fa_become 24 = .ok (.iconst 0, 1) := by decide +kernel
theorem d_Fa_become_25 : decode b_Fa_become 25 = .ok (.bipush 12, 2) := by decide +kernel
theorem d_Fa_become_27 : decode b_Fa_become 27 = .ok (.invokestatic 31, 3) := by decide +kernel
theorem d_Fa_become_30 : decode b_Fa_become 30 = .ok (.aload_n 1, 1) := by decide +kernel
theorem d_Fa_become_31 : decode b_Fa_become 31 = .ok (.getfield 18, 3) := by decide +kernel
theorem d_Fa_become_34 : decode b_Fa_become 34 = .ok (.iconst 0, 1) := by decide +kernel
theorem d_Fa_become_35 : decode b_Fa_become 35 = .ok (.aload_n 0, 1) := by decide +kernel
theorem d_Fa_become_36 : decode b_Fa_become 36 = .ok (.getfield 18, 3) := by decide +kernel
theorem d_Fa_become_39 : decode b_Fa_become 39 = .ok (.iconst 0, 1) := by decide +kernel
theorem d_Fa_become_40 : decode b_Fa_become 40 = .ok (.bipush 12, 2) := by decide +kernel
theorem d_Fa_become_42 : decode b_Fa_become 42 = .ok (.invokestatic 31, 3) := by decide +kernel
theorem d_Fa_become_45 : decode b_Fa_become 45 = .ok (.aload_n 1, 1) := by decide +kernel
theorem d_Fa_become_46 : decode b_Fa_become 46 = .ok (.getfield 21, 3) := by decide +kernel
theorem d_Fa_become_49 : decode b_Fa_become 49 = .ok (.iconst 0, 1) := by decide +kernel
theorem d_Fa_become_50 : decode b_Fa_become 50 = .ok (.aload_n 0, 1) := by decide +kernel
theorem d_Fa_become_51 : decode b_Fa_become 51 = .ok (.getfield 21, 3) := by decide +kernel
theorem d_Fa_become_54 : decode b_Fa_become 54 = .ok (.iconst 0, 1) := by decide +kernel
theorem d_Fa_become_55 : decode b_Fa_become 55 = .ok (.bipush 12, 2) := by decide +kernel
theorem d_Fa_become_57 : decode b_Fa_become 57 = .ok (.invokestatic 31, 3) := by decide +kernel
theorem d_Fa_become_60 : decode b_Fa_become 60 = .ok (.aload_n 0, 1) := by decide +kernel
theorem d_Fa_become_61 : decode b_Fa_become 61 = .ok (.aload_n 1, 1) := by decide +kernel
theorem d_Fa_become_62 : decode b_Fa_become 62 = .ok (.getfield 24, 3) := by decide +kernel
theorem d_Fa_become_65 : decode b_Fa_become 65 = .ok (.putfield 24, 3) := by decide +kernel
theorem d_Fa_become_68 : decode b_Fa_become 68 = .ok (.aload_n 0, 1) := by decide +kernel
theorem d_Fa_become_69 : decode b_Fa_become 69 = .ok (.aload_n 1, 1) := by decide +kernel
theorem d_Fa_become_70 : decode b_Fa_become 70 = .ok (.getfield 28, 3) := by decide +kernel
theorem d_Fa_become_73 : decode b_Fa_become 73 = .ok (.putfield 28, 3) := by decide +kernel
theorem d_Fa_become_76 : decode b_Fa_become 76 = .ok (.return_, 1) := by decide +kernel
theorem d_Mo_become_0 : decode b_Mo_become 0 = .ok (.aload_n 1, 1) := by decide +kernel
theorem d_Mo_become_1 : decode b_Mo_become 1 = .ok (.getfield 9, 3) := by decide +kernel
theorem d_Mo_become_4 : decode b_Mo_become 4 = .ok (.iconst 0, 1) := by decide +kernel
theorem d_Mo_become_5 : decode b_Mo_become 5 = .ok (.aload_n 0, 1) := by decide +kernel
theorem d_Mo_become_6 : decode b_Mo_become 6 = .ok (.getfield 9, 3) := by decide +kernel
theorem d_Mo_become_9 : decode b_Mo_become 9 = .ok (.iconst 0, 1) := by decide +kernel
theorem d_Mo_become_10 : decode b_Mo_become 10 = .ok (.bipush 16, 2) := by decide +kernel
theorem d_Mo_become_12 : decode b_Mo_become 12 = .ok (.invokestatic 31, 3) := by decide +kernel
theorem d_Mo_become_15 : decode b_Mo_become 15 = .ok (.aload_n 1, 1) := by decide +kernel
theorem d_Mo_become_16 : decode b_Mo_become 16 = .ok (.getfield 15, 3) := by decide +kernel
theorem d_Mo_become_19 : decode b_Mo_become 19 = .ok (.iconst 0, 1) := by decide +kernel
theorem d_Mo_become_20 : decode b_Mo_become 20 = .ok (.aload_n 0, 1) := by decide +kernel
theorem d_Mo_become_21 : decode b_Mo_become 21 = .ok (.getfield 15, 3) := by decide +kernel
theorem d_Mo_become_24 : decode b_Mo_become 24 = .ok (.iconst 0, 1) := by decide +kernel
theorem d_Mo_become_25 : decode b_Mo_become 25 = .ok (.bipush 16, 2) := by decide +kernel
theorem d_Mo_become_27 : decode b_Mo_become 27 = .ok (.invokestatic 31, 3) := by decide +kernel
theorem d_Mo_become_30 : decode b_Mo_become 30 = .ok (.aload_n 1, 1) := by decide +kernel
theorem d_Mo_become_31 : decode b_Mo_become 31 = .ok (.getfield 18, 3) := by decide +kernel
theorem d_Mo_become_34 : decode b_Mo_become 34 = .ok (.iconst 0, 1) := by decide +kernel
theorem d_Mo_become_35 : decode b_Mo_become 35 = .ok (.aload_n 0, 1) := by decide +kernel
theorem d_Mo_become_36 : decode b_Mo_become 36 = .ok (.getfield 18, 3) := by decide +kernel
theorem d_Mo_become_39 : decode b_Mo_become 39 = .ok (.iconst 0, 1) := by decide +kernel
theorem d_Mo_become_40 : decode b_Mo_become 40 = .ok (.bipush 6, 2) := by decide +kernel
theorem d_Mo_become_42 : decode b_Mo_become 42 = .ok (.invokestatic 31, 3) := by decide +kernel
theorem d_Mo_become_45 : decode b_Mo_become 45 = .ok (.aload_n 0, 1) := by decide +kernel
theorem d_Mo_become_46 : decode b_Mo_become 46 = .ok (.aload_n 1, 1) := by decide +kernel
theorem d_Mo_become_47 : decode b_Mo_become 47 = .ok (.getfield 21, 3) := by decide +kernel
theorem d_Mo_become_50 : decode b_Mo_become 50 = .ok (.putfield 21, 3) := by decide +kernel
theorem d_Mo_become_53 : decode b_Mo_become 53 = .ok (.aload_n 0, 1) := by decide +kernel
theorem d_Mo_become_54 : decode b_Mo_become 54 = .ok (.aload_n 1, 1) := by decide +kernel
theorem d_Mo_become_55 : decode b_Mo_become 55 = .ok (.getfield 25, 3) := by decide +kernel
theorem d_Mo_become_58 : decode b_Mo_become 58 = .ok (.putfield 25, 3) := by decide +kernel
theorem d_Mo_become_61 : decode b_Mo_become 61 = .ok (.aload_n 0, 1) := by decide +kernel
theorem d_Mo_become_62 : decode b_Mo_become 62 = .ok (.aload_n 1, 1) := by decide +kernel
theorem d_Mo_become_63 : decode b_Mo_become 63 = .ok (.getfield 28, 3) := by decide +kernel
theorem d_Mo_become_66 : decode b_Mo_become 66 = .ok (.putfield 28, 3) := by decide +kernel
theorem d_Mo_become_69 : decode b_Mo_become 69 = .ok (.return_, 1) := by decide +kernel
theorem d_X_on_0 : decode b_X_on 0 = .ok (.iload_n 1, 1) := by decide +kernel
theorem d_X_on_1 : decode b_X_on 1 = .ok (.iconst 0, 1) := by decide +kernel
theorem d_X_on_2 : decode b_X_on 2 = .ok (.sipush 240, 3) := by decide +kernel
theorem d_X_on_5 : decode b_X_on 5 = .ok (.invokestatic 55, 3) := by decide +kernel
theorem d_X_on_8 : decode b_X_on 8 = .ok (.ifCond .eq 12, 3) := by decide +kernel
theorem d_X_on_11 : decode b_X_on 11 = .ok (.iload_n 2, 1) := by decide +kernel
theorem d_X_on_12 : decode b_X_on 12 = .ok (.iconst 0, 1) := by decide +kernel
theorem d_X_on_13 : decode b_X_on 13 = .ok (.iconst 2, 1) := by decide +kernel
theorem d_X_on_14 : decode b_X_on 14 = .ok (.invokestatic 55, 3) := by decide +kernel
theorem d_X_on_17 : decode b_X_on 17 = .ok (.ifCond .ne 9, 3) := by decide +kernel
theorem d_X_on_20 : decode b_X_on 20 = .ok (.aload_n 0, 1) := by decide +kernel
theorem d_X_on_21 : decode b_X_on 21 = .ok (.iconst 0, 1) := by decide +kernel
theorem d_X_on_22 : decode b_X_on 22 = .ok (.invokevirtual 59, 3) := by decide +kernel
theorem d_X_on_25 : decode b_X_on 25 = .ok (.ireturn, 1) := by decide +kernel
theorem d_X_on_26 : decode b_X_on 26 = .ok (.aload_n 0, 1) := by decide +kernel
theorem d_X_on_27 : decode b_X_on 27 = .ok (.getfield 10, 3) := by decide +kernel
theorem d_X_on_30 : decode b_X_on 30 = .ok (.getfield 241, 3) := by decide +kernel
theorem d_X_on_33 : decode b_X_on 33 = .ok (.iload_n 1, 1) := by decide +kernel
theorem d_X_on_34 : decode b_X_on 34 = .ok (.iadd, 1) := by decide +kernel
theorem d_X_on_35 : decode b_X_on 35 = .ok (.sipush 9999, 3) := by decide +kernel
theorem d_X_on_38 : decode b_X_on 38 = .ok (.if_icmp .le 9, 3) := by decide +kernel
theorem d_X_on_41 : decode b_X_on 41 = .ok (.aload_n 0, 1) := by decide +kernel
theorem d_X_on_42 : decode b_X_on 42 = .ok (.iconst 4, 1) := by decide +kernel
theorem d_X_on_43 : decode b_X_on 43 = .ok (.invokevirtual 59, 3) := by decide +kernel
theorem d_X_on_46 : decode b_X_on 46 = .ok (.ireturn, 1) := by decide +kernel
theorem d_X_on_47 : decode b_X_on 47 = .ok (.aload_n 0, 1) := by decide +kernel
theorem d_X_on_48 : decode b_X_on 48 = .ok (.getfield 19, 3) := by decide +kernel
theorem d_X_on_51 : decode b_X_on 51 = .ok (.aload_n 0, 1) := by decide +kernel
theorem d_X_on_52 : decode b_X_on 52 = .ok (.getfield 10, 3) := by decide +kernel
theorem d_X_on_55 : decode b_X_on 55 = .ok (.invokevirtual 268, 3) := by decide +kernel
theorem d_X_on_58 : decode b_X_on 58 = .ok (.aload_n 0, 1) := by decide +kernel
theorem d_X_on_59 : decode b_X_on 59 = .ok (.getfield 19, 3) := by decide +kernel
theorem d_X_on_62 : decode b_X_on 62 = .ok (.iload_n 1, 1) := by decide +kernel
theorem d_X_on_63 : decode b_X_on 63 = .ok (.invokevirtual 244, 3) := by decide +kernel
theorem d_X_on_66 : decode b_X_on 66 = .ok (.pop, 1) := by decide +kernel
theorem d_X_on_67 : decode b_X_on 67 = .ok (.iload_n 2, 1) := by decide +kernel
theorem d_X_on_68 : decode b_X_on 68 = .ok (.lookupswitch 50 #[(0, 28), (1, 39)], 28) := by decide +kernel
theorem d_X_on_96 : decode b_X_on 96 = .ok (.aload_n 0, 1) := by decide +kernel
theorem d_X_on_97 : decode b_X_on 97 = .ok (.getfield 19, 3) := by decide +kernel
theorem d_X_on_100 : decode b_X_on 100 = .ok (.getfield 75, 3) := by decide +kernel
theorem d_X_on_103 : decode b_X_on 103 = .ok (.getfield 142, 3) := by decide +kernel
theorem d_X_on_106 : decode b_X_on 106 = .ok (.ireturn, 1) := by decide +kernel
theorem d_X_on_107 : decode b_X_on 107 = .ok (.aload_n 0, 1) := by decide +kernel
theorem d_X_on_108 : decode b_X_on 108 = .ok (.getfield 19, 3) := by decide +kernel
theorem d_X_on_111 : decode b_X_on 111 = .ok (.getfield 75, 3) := by decide +kernel
theorem d_X_on_114 : decode b_X_on 114 = .ok (.invokevirtual 274, 3) := by decide +kernel
theorem d_X_on_117 : decode b_X_on 117 = .ok (.ireturn, 1) := by decide +kernel
theorem d_X_on_118 : decode b_X_on 118 = .ok (.aload_n 0, 1) := by decide +kernel
theorem d_X_on_119 : decode b_X_on 119 = .ok (.getfield 19, 3) := by decide +kernel
theorem d_X_on_122 : decode b_X_on 122 = .ok (.getfield 162, 3) := by decide +kernel
theorem d_X_on_125 : decode b_X_on 125 = .ok (.getfield 250, 3) := by decide +kernel
theorem d_X_on_128 : decode b_X_on 128 = .ok (.ireturn, 1) := by decide +kernel
theorem d_Fa_allCoins_0 : decode b_Fa_allCoins 0 = .ok (.iconst 0, 1) := by decide +kernel
theorem d_Fa_allCoins_1 : decode b_Fa_allCoins 1 = .ok (.istore_n 1, 1) := by decide +kernel
theorem d_Fa_allCoins_2 : decode b_Fa_allCoins 2 = .ok (.iconst 0, 1) := by decide +kernel
theorem d_Fa_allCoins_3 : decode b_Fa_allCoins 3 = .ok (.istore_n 2, 1) := by decide +kernel
theorem d_Fa_allCoins_4 : decode b_Fa_allCoins 4 = .ok (.iload_n 2, 1) := by decide +kernel
theorem d_Fa_allCoins_5 : decode b_Fa_allCoins 5 = .ok (.aload_n 0, 1) := by decide +kernel
theorem d_Fa_allCoins_6 : decode b_Fa_allCoins 6 = .ok (.getfield 24, 3) := by decide +kernel
theorem d_Fa_allCoins_9 : decode b_Fa_allCoins 9 = .ok (.if_icmp .ge 18, 3) := by decide +kernel
theorem d_Fa_allCoins_12 : decode b_Fa_allCoins 12 = .ok (.iload_n 1, 1) := by decide +kernel
theorem d_Fa_allCoins_13 : decode b_Fa_allCoins 13 = .ok (.aload_n 0, 1) := by decide +kernel
theorem d_Fa_allCoins_14 : decode b_Fa_allCoins 14 = .ok (.getfield 21, 3) := by decide +kernel
theorem d_Fa_allCoins_17 : decode b_Fa_allCoins 17 = .ok (.iload_n 2, 1) := by decide +kernel
theorem d_Fa_allCoins_18 : decode b_Fa_allCoins 18 = .ok (.iaload, 1) := by decide +kernel
theorem d_Fa_allCoins_19 : decode b_Fa_allCoins 19 = .ok (.iadd, 1) := by decide +kernel
theorem d_Fa_allCoins_20 : decode b_Fa_allCoins 20 = .ok (.istore_n 1, 1) := by decide +kernel
theorem d_Fa_allCoins_21 : decode b_Fa_allCoins 21 = .ok (.iinc 2 1, 3) := by decide +kernel
theorem d_Fa_allCoins_24 : decode b_Fa_allCoins 24 = .ok (.goto (-20), 3) := by decide +kernel
theorem d_Fa_allCoins_27 : decode b_Fa_allCoins 27 = .ok (.iload_n 1, 1) := by decide +kernel
theorem d_Fa_allCoins_28 : decode b_Fa_allCoins 28 = .ok (.ireturn, 1) := by decide +kernel
theorem d_X_crop_0 : decode b_X_crop 0 = .ok (.iload_n 1, 1) := by decide +kernel
theorem d_X_crop_1 : decode b_X_crop 1 = .ok (.iconst 1, 1) := by decide +kernel
theorem d_X_crop_2 : decode b_X_crop 2 = .ok (.sipush 240, 3) := by decide +kernel
theorem d_X_crop_5 : decode b_X_crop 5 = .ok (.invokestatic 55, 3) := by decide +kernel
theorem d_X_crop_8 : decode b_X_crop 8 = .ok (.ifCond .ne 9, 3) := by decide +kernel
theorem d_X_crop_11 : decode b_X_crop 11 = .ok (.aload_n 0, 1) := by decide +kernel
theorem d_X_crop_12 : decode b_X_crop 12 = .ok (.iconst 0, 1) := by decide +kernel
theorem d_X_crop_13 : decode b_X_crop 13 = .ok (.invokevirtual 59, 3) := by decide +kernel
theorem d_X_crop_16 : decode b_X_crop 16 = .ok (.ireturn, 1) := by decide +kernel
theorem d_X_crop_17 : decode b_X_crop 17 = .ok (.aload_n 0, 1) := by decide +kernel
theorem d_X_crop_18 : decode b_X_crop 18 = .ok (.getfield 10, 3) := by decide +kernel
theorem d_X_crop_21 : decode b_X_crop 21 = .ok (.getfield 241, 3) := by decide +kernel
theorem d_X_crop_24 : decode b_X_crop 24 = .ok (.iload_n 1, 1) := by decide +kernel
theorem d_X_crop_25 : decode b_X_crop 25 = .ok (.iadd, 1) := by decide +kernel
theorem d_X_crop_26 : decode b_X_crop 26 = .ok (.sipush 9999, 3) := by decide +kernel
theorem d_X_crop_29 : decode b_X_crop 29 = .ok (.if_icmp .le 9, 3) := by decide +kernel
theorem d_X_crop_32 : decode b_X_crop 32 = .ok (.aload_n 0, 1) := by decide +kernel
theorem d_X_crop_33 : decode b_X_crop 33 = .ok (.iconst 4, 1) := by decide +kernel
theorem d_X_crop_34 : decode b_X_crop 34 = .ok (.invokevirtual 59, 3) := by decide +kernel
theorem d_X_crop_37 : decode b_X_crop 37 = .ok (.ireturn, 1) := by decide +kernel
theorem d_X_crop_38 : decode b_X_crop 38 = .ok (.iconst 0, 1) := by decide +kernel
theorem d_X_crop_39 : decode b_X_crop 39 = .ok (.istore_n 2, 1) := by decide +kernel
theorem d_X_crop_40 : decode b_X_crop 40 = .ok (.iconst 0, 1) := by decide +kernel
theorem d_X_crop_41 : decode b_X_crop 41 = .ok (.istore_n 3, 1) := by decide +kernel
theorem d_X_crop_42 : decode b_X_crop 42 = .ok (.iconst 0, 1) := by decide +kernel
theorem d_X_crop_43 : decode b_X_crop 43 = .ok (.istore 4, 2) := by decide +kernel
theorem d_X_crop_45 : decode b_X_crop 45 = .ok (.iload 4, 2) := by decide +kernel
theorem d_X_crop_47 : decode b_X_crop 47 = .ok (.bipush 6, 2) := by decide +kernel
theorem d_X_crop_49 : decode b_X_crop 49 = .ok (.if_icmp .ge 70, 3) := by decide +kernel
theorem d_X_crop_52 : decode b_X_crop 52 = .ok (.aload_n 0, 1) := by decide +kernel
theorem d_X_crop_53 : decode b_X_crop 53 = .ok (.getfield 19, 3) := by decide +kernel
theorem d_X_crop_56 : decode b_X_crop 56 = .ok (.aload_n 0, 1) := by decide +kernel
theorem d_X_crop_57 : decode b_X_crop 57 = .ok (.getfield 10, 3) := by decide +kernel
theorem d_X_crop_60 : decode b_X_crop 60 = .ok (.invokevirtual 268, 3) := by decide +kernel
theorem d_X_crop_63 : decode b_X_crop 63 = .ok (.aload_n 0, 1) := by decide +kernel
theorem d_X_crop_64 : decode b_X_crop 64 = .ok (.getfield 19, 3) := by decide +kernel
theorem d_X_crop_67 : decode b_X_crop 67 = .ok (.getfield 75, 3) := by decide +kernel
theorem d_X_crop_70 : decode b_X_crop 70 = .ok (.iload 4, 2) := by decide +kernel
theorem d_X_crop_72 : decode b_X_crop 72 = .ok (.invokevirtual 278, 3) := by decide +kernel
theorem d_X_crop_75 : decode b_X_crop 75 = .ok (.aload_n 0, 1) := by decide +kernel
theorem d_X_crop_76 : decode b_X_crop 76 = .ok (.getfield 19, 3) := by decide +kernel
theorem d_X_crop_79 : decode b_X_crop 79 = .ok (.iload_n 1, 1) := by decide +kernel
theorem d_X_crop_80 : decode b_X_crop 80 = .ok (.invokevirtual 244, 3) := by decide +kernel
theorem d_X_crop_83 : decode b_X_crop 83 = .ok (.pop, 1) := by decide +kernel
theorem d_X_crop_84 : decode b_X_crop 84 = .ok (.aload_n 0, 1) := by decide +kernel
theorem d_X_crop_85 : decode b_X_crop 85 = .ok (.getfield 19, 3) := by decide +kernel
theorem d_X_crop_88 : decode b_X_crop 88 = .ok (.getfield 75, 3) := by decide +kernel
theorem d_X_crop_91 : decode b_X_crop 91 = .ok (.invokevirtual 274, 3) := by decide +kernel
theorem d_X_crop_94 : decode b_X_crop 94 = .ok (.istore 5, 2) := by decide +kernel
theorem d_X_crop_96 : decode b_X_crop 96 = .ok (.iload 4, 2) := by decide +kernel
theorem d_X_crop_98 : decode b_X_crop 98 = .ok (.ifCond .eq 9, 3) := by decide +kernel
theorem d_X_crop_101 : decode b_X_crop 101 = .ok (.iload 5, 2) := by decide +kernel
theorem d_X_crop_103 : decode b_X_crop 103 = .ok (.iload_n 3, 1) := by decide +kernel
theorem d_X_crop_104 : decode b_X_crop 104 = .ok (.if_icmp .le 9, 3) := by decide +kernel
theorem d_X_crop_107 : decode b_X_crop 107 = .ok (.iload 5, 2) := by decide +kernel
theorem d_X_crop_109 : decode b_X_crop 109 = .ok (.istore_n 3, 1) := by decide +kernel
theorem d_X_crop_110 : decode b_X_crop 110 = .ok (.iload 4, 2) := by decide +kernel
theorem d_X_crop_112 : decode b_X_crop 112 = .ok (.istore_n 2, 1) := by decide +kernel
theorem d_X_crop_113 : decode b_X_crop 113 = .ok (.iinc 4 1, 3) := by decide +kernel
theorem d_X_crop_116 : decode b_X_crop 116 = .ok (.goto (-71), 3) := by decide +kernel
theorem d_X_crop_119 : decode b_X_crop 119 = .ok (.iload_n 2, 1) := by decide +kernel
theorem d_X_crop_120 : decode b_X_crop 120 = .ok (.ireturn, 1) := by decide +kernel
theorem d_Fa_sowAll_0 : decode b_Fa_sowAll 0 = .ok (.iconst 0, 1) := by decide +kernel
theorem d_Fa_sowAll_1 : decode b_Fa_sowAll 1 = .ok (.istore_n 2, 1) := by decide +kernel
theorem d_Fa_sowAll_2 : decode b_Fa_sowAll 2 = .ok (.iload_n 2, 1) := by decide +kernel
theorem d_Fa_sowAll_3 : decode b_Fa_sowAll 3 = .ok (.aload_n 0, 1) := by decide +kernel
theorem d_Fa_sowAll_4 : decode b_Fa_sowAll 4 = .ok (.getfield 24, 3) := by decide +kernel
theorem d_Fa_sowAll_7 : decode b_Fa_sowAll 7 = .ok (.if_icmp .ge 16, 3) := by decide +kernel
theorem d_Fa_sowAll_10 : decode b_Fa_sowAll 10 = .ok (.aload_n 0, 1) := by decide +kernel
theorem d_Fa_sowAll_11 : decode b_Fa_sowAll 11 = .ok (.getfield 9, 3) := by decide +kernel
theorem d_Fa_sowAll_14 : decode b_Fa_sowAll 14 = .ok (.iload_n 2, 1) := by decide +kernel
theorem d_Fa_sowAll_15 : decode b_Fa_sowAll 15 = .ok (.iload_n 1, 1) := by decide +kernel
theorem d_Fa_sowAll_16 : decode b_Fa_sowAll 16 = .ok (.iastore, 1) := by decide +kernel
theorem d_Fa_sowAll_17 : decode b_Fa_sowAll 17 = .ok (.iinc 2 1, 3) := by decide +kernel
theorem d_Fa_sowAll_20 : decode b_Fa_sowAll 20 = .ok (.goto (-18), 3) := by decide +kernel
theorem d_Fa_sowAll_23 : decode b_Fa_sowAll 23 = .ok (.return_, 1) := by decide +kernel
theorem d_X_feed_0 : decode b_X_feed 0 = .ok (.iload_n 2, 1) := by decide +kernel
theorem d_X_feed_1 : decode b_X_feed 1 = .ok (.iconst 1, 1) := by decide +kernel
theorem d_X_feed_2 : decode b_X_feed 2 = .ok (.iconst 4, 1) := by decide +kernel
theorem d_X_feed_3 : decode b_X_feed 3 = .ok (.invokestatic 55, 3) := by decide +kernel
theorem d_X_feed_6 : decode b_X_feed 6 = .ok (.ifCond .ne 9, 3) := by decide +kernel
theorem d_X_feed_9 : decode b_X_feed 9 = .ok (.aload_n 0, 1) := by decide +kernel
theorem d_X_feed_10 : decode b_X_feed 10 = .ok (.iconst 0, 1) := by decide +kernel
theorem d_X_feed_11 : decode b_X_feed 11 = .ok (.invokevirtual 59, 3) := by decide +kernel
theorem d_X_feed_14 : decode b_X_feed 14 = .ok (.ireturn, 1) := by decide +kernel
theorem d_X_feed_15 : decode b_X_feed 15 = .ok (.aload_n 0, 1) := by decide +kernel
theorem d_X_feed_16 : decode b_X_feed 16 = .ok (.getfield 32, 3) := by decide +kernel
theorem d_X_feed_19 : decode b_X_feed 19 = .ok (.getfield 281, 3) := by decide +kernel
theorem d_X_feed_22 : decode b_X_feed 22 = .ok (.getfield 285, 3) := by decide +kernel
theorem d_X_feed_25 : decode b_X_feed 25 = .ok (.iload_n 2, 1) := by decide +kernel
theorem d_X_feed_26 : decode b_X_feed 26 = .ok (.iadd, 1) := by decide +kernel
theorem d_X_feed_27 : decode b_X_feed 27 = .ok (.bipush 120, 2) := by decide +kernel
theorem d_X_feed_29 : decode b_X_feed 29 = .ok (.if_icmp .le 9, 3) := by decide +kernel
theorem d_X_feed_32 : decode b_X_feed 32 = .ok (.aload_n 0, 1) := by decide +kernel
theorem d_X_feed_33 : decode b_X_feed 33 = .ok (.iconst 1, 1) := by decide +kernel
theorem d_X_feed_34 : decode b_X_feed 34 = .ok (.invokevirtual 59, 3) := by decide +kernel
theorem d_X_feed_37 : decode b_X_feed 37 = .ok (.ireturn, 1) := by decide +kernel
theorem d_X_feed_38 : decode b_X_feed 38 = .ok (.iload_n 2, 1) := by decide +kernel
theorem d_X_feed_39 : decode b_X_feed 39 = .ok (.iconst 1, 1) := by decide +kernel
theorem d_X_feed_40 : decode b_X_feed 40 = .ok (.isub, 1) := by decide +kernel
theorem d_X_feed_41 : decode b_X_feed 41 = .ok (.istore_n 3, 1) := by decide +kernel
theorem d_X_feed_42 : decode b_X_feed 42 = .ok (.iload_n 3, 1) := by decide +kernel
theorem d_X_feed_43 : decode b_X_feed 43 = .ok (.ifCond .lt 29, 3) := by decide +kernel
theorem d_X_feed_46 : decode b_X_feed 46 = .ok (.aload_n 0, 1) := by decide +kernel
theorem d_X_feed_47 : decode b_X_feed 47 = .ok (.getfield 32, 3) := by decide +kernel
theorem d_X_feed_50 : decode b_X_feed 50 = .ok (.getfield 281, 3) := by decide +kernel
theorem d_X_feed_53 : decode b_X_feed 53 = .ok (.iload_n 1, 1) := by decide +kernel
theorem d_X_feed_54 : decode b_X_feed 54 = .ok (.bipush 8, 2) := by decide +kernel
theorem d_X_feed_56 : decode b_X_feed 56 = .ok (.iload_n 3, 1) := by decide +kernel
theorem d_X_feed_57 : decode b_X_feed 57 = .ok (.imul, 1) := by decide +kernel
theorem d_X_feed_58 : decode b_X_feed 58 = .ok (.iushr, 1) := by decide +kernel
theorem d_X_feed_59 : decode b_X_feed 59 = .ok (.sipush 255, 3) := by decide +kernel
theorem d_X_feed_62 : decode b_X_feed 62 = .ok (.iand, 1) := by decide +kernel
theorem d_X_feed_63 : decode b_X_feed 63 = .ok (.invokevirtual 290, 3) := by decide +kernel
theorem d_X_feed_66 : decode b_X_feed 66 = .ok (.iinc 3 (-1), 3) := by decide +kernel
theorem d_X_feed_69 : decode b_X_feed 69 = .ok (.goto (-27), 3) := by decide +kernel
theorem d_X_feed_72 : decode b_X_feed 72 = .ok (.aload_n 0, 1) := by decide +kernel
theorem d_X_feed_73 : decode b_X_feed 73 = .ok (.getfield 32, 3) := by decide +kernel
theorem d_X_feed_76 : decode b_X_feed 76 = .ok (.getfield 281, 3) := by decide +kernel
theorem d_X_feed_79 : decode b_X_feed 79 = .ok (.getfield 285, 3) := by decide +kernel
theorem d_X_feed_82 : decode b_X_feed 82 = .ok (.ireturn, 1) := by decide +kernel
theorem d_Ta_append_0 : decode b_Ta_append 0 = .ok (.aload_n 0, 1) := by decide +kernel
theorem d_Ta_append_1 : decode b_Ta_append 1 = .ok (.getfield 15, 3) := by decide +kernel
theorem d_Ta_append_4 : decode b_Ta_append 4 = .ok (.bipush 120, 2) := by decide +kernel
theorem d_Ta_append_6 : decode b_Ta_append 6 = .ok (.if_icmp .ge 23, 3) := by decide +kernel
theorem d_Ta_append_9 : decode b_Ta_append 9 = .ok (.aload_n 0, 1) := by decide +kernel
theorem d_Ta_append_10 : decode b_Ta_append 10 = .ok (.getfield 9, 3) := by decide +kernel
theorem d_Ta_append_13 : decode b_Ta_append 13 = .ok (.aload_n 0, 1) := by decide +kernel
theorem d_Ta_append_14 : decode b_Ta_append 14 = .ok (.getfield 15, 3) := by decide +kernel
theorem d_Ta_append_17 : decode b_Ta_append 17 = .ok (.iload_n 1, 1) := by decide +kernel
theorem d_Ta_append_18 : decode b_Ta_append 18 = .ok (.iastore, 1) := by decide +kernel
theorem d_Ta_append_19 : decode b_Ta_append 19 = .ok (.aload_n 0, 1) := by decide +kernel
theorem d_Ta_append_20 : decode b_Ta_append 20 = .ok (.dup, 1) := by decide +kernel
theorem d_Ta_append_21 : decode b_Ta_append 21 = .ok (.getfield 15, 3) := by decide +kernel
theorem d_Ta_append_24 : decode b_Ta_append 24 = .ok (.iconst 1, 1) := by decide +kernel
theorem d_Ta_append_25 : decode b_Ta_append 25 = .ok (.iadd, 1) := by decide +kernel
theorem d_Ta_append_26 : decode b_Ta_append 26 = .ok (.putfield 15, 3) := by decide +kernel
theorem d_Ta_append_29 : decode b_Ta_append 29 = .ok (.return_, 1) := by decide +kernel
theorem d_X_wipe_0 : decode b_X_wipe 0 = .ok (.aload_n 0, 1) := by decide +kernel
theorem d_X_wipe_1 : decode b_X_wipe 1 = .ok (.getfield 32, 3) := by decide +kernel
theorem d_X_wipe_4 : decode b_X_wipe 4 = .ok (.getfield 281, 3) := by decide +kernel
theorem d_X_wipe_7 : decode b_X_wipe 7 = .ok (.getfield 285, 3) := by decide +kernel
theorem d_X_wipe_10 : decode b_X_wipe 10 = .ok (.istore_n 1, 1) := by decide +kernel
theorem d_X_wipe_11 : decode b_X_wipe 11 = .ok (.aload_n 0, 1) := by decide +kernel
theorem d_X_wipe_12 : decode b_X_wipe 12 = .ok (.getfield 32, 3) := by decide +kernel
theorem d_X_wipe_15 : decode b_X_wipe 15 = .ok (.getfield 281, 3) := by decide +kernel
theorem d_X_wipe_18 : decode b_X_wipe 18 = .ok (.iconst 0, 1) := by decide +kernel
theorem d_X_wipe_19 : decode b_X_wipe 19 = .ok (.putfield 285, 3) := by decide +kernel
theorem d_X_wipe_22 : decode b_X_wipe 22 = .ok (.iload_n 1, 1) := by decide +kernel
theorem d_X_wipe_23 : decode b_X_wipe 23 = .ok (.ireturn, 1) := by decide +kernel
theorem d_X_slope_0 : decode b_X_slope 0 = .ok (.aload_n 0, 1) := by decide +kernel
theorem d_X_slope_1 : decode b_X_slope 1 = .ok (.getfield 19, 3) := by decide +kernel
theorem d_X_slope_4 : decode b_X_slope 4 = .ok (.aload_n 0, 1) := by decide +kernel
theorem d_X_slope_5 : decode b_X_slope 5 = .ok (.getfield 10, 3) := by decide +kernel
theorem d_X_slope_8 : decode b_X_slope 8 = .ok (.invokevirtual 268, 3) := by decide +kernel
theorem d_X_slope_11 : decode b_X_slope 11 = .ok (.aload_n 0, 1) := by decide +kernel
theorem d_X_slope_12 : decode b_X_slope 12 = .ok (.getfield 32, 3) := by decide +kernel
theorem d_X_slope_15 : decode b_X_slope 15 = .ok (.aload_n 0, 1) := by decide +kernel
theorem d_X_slope_16 : decode b_X_slope 16 = .ok (.getfield 19, 3) := by decide +kernel
theorem d_X_slope_19 : decode b_X_slope 19 = .ok (.invokevirtual 293, 3) := by decide +kernel
theorem d_X_slope_22 : decode b_X_slope 22 = .ok (.istore_n 1, 1) := by decide +kernel
theorem d_X_slope_23 : decode b_X_slope 23 = .ok (.iload_n 1, 1) := by decide +kernel
theorem d_X_slope_24 : decode b_X_slope 24 = .ok (.ifCond .le 14, 3) := by decide +kernel
theorem d_X_slope_27 : decode b_X_slope 27 = .ok (.aload_n 0, 1) := by decide +kernel
theorem d_X_slope_28 : decode b_X_slope 28 = .ok (.getfield 10, 3) := by decide +kernel
theorem d_X_slope_31 : decode b_X_slope 31 = .ok (.aload_n 0, 1) := by decide +kernel
theorem d_X_slope_32 : decode b_X_slope 32 = .ok (.getfield 19, 3) := by decide +kernel
theorem d_X_slope_35 : decode b_X_slope 35 = .ok (.invokevirtual 268, 3) := by decide +kernel
theorem d_X_slope_38 : decode b_X_slope 38 = .ok (.aload_n 0, 1) := by decide +kernel
theorem d_X_slope_39 : decode b_X_slope 39 = .ok (.getfield 32, 3) := by decide +kernel
theorem d_X_slope_42 : decode b_X_slope 42 = .ok (.getfield 281, 3) := by decide +kernel
theorem d_X_slope_45 : decode b_X_slope 45 = .ok (.iconst 0, 1) := by decide +kernel
theorem d_X_slope_46 : decode b_X_slope 46 = .ok (.putfield 285, 3) := by decide +kernel
theorem d_X_slope_49 : decode b_X_slope 49 = .ok (.iload_n 1, 1) := by decide +kernel
theorem d_X_slope_50 : decode b_X_slope 50 = .ok (.ireturn, 1) := by decide +kernel
theorem d_Tx_readAll_0 : decode b_Tx_readAll 0 = .ok (.aload_n 0, 1) := by decide +kernel
theorem d_Tx_readAll_1 : decode b_Tx_readAll 1 = .ok (.getfield 12, 3) := by decide +kernel
theorem d_Tx_readAll_4 : decode b_Tx_readAll 4 = .ok (.invokevirtual 18, 3) := by decide +kernel
theorem d_Tx_readAll_7 : decode b_Tx_readAll 7 = .ok (.iconst 1, 1) := by decide +kernel
theorem d_Tx_readAll_8 : decode b_Tx_readAll 8 = .ok (.istore_n 2, 1) := by decide +kernel
theorem d_Tx_readAll_9 : decode b_Tx_readAll 9 = .ok (.iload_n 2, 1) := by decide +kernel
theorem d_Tx_readAll_10 : decode b_Tx_readAll 10 = .ok (.bipush 120, 2) := by decide +kernel
theorem d_Tx_readAll_12 : decode b_Tx_readAll 12 = .ok (.if_icmp .gt 52, 3) := by decide +kernel
theorem d_Tx_readAll_15 : decode b_Tx_readAll 15 = .ok (.aload_n 0, 1) := by decide +kernel
theorem d_Tx_readAll_16 : decode b_Tx_readAll 16 = .ok (.aload_n 1, 1) := by decide +kernel
theorem d_Tx_readAll_17 : decode b_Tx_readAll 17 = .ok (.invokevirtual 21, 3) := by decide +kernel
theorem d_Tx_readAll_20 : decode b_Tx_readAll 20 = .ok (.ifCond .ne 6, 3) := by decide +kernel
theorem d_Tx_readAll_23 : decode b_Tx_readAll 23 = .ok (.goto 41, 3) := by decide +kernel
theorem d_Tx_readAll_26 : decode b_Tx_readAll 26 = .ok (.aload_n 0, 1) := by decide +kernel
theorem d_Tx_readAll_27 : decode b_Tx_readAll 27 = .ok (.getfield 12, 3) := by decide +kernel
theorem d_Tx_readAll_30 : decode b_Tx_readAll 30 = .ok (.invokevirtual 25, 3) := by decide +kernel
theorem d_Tx_readAll_33 : decode b_Tx_readAll 33 = .ok (.ifCond .eq 5, 3) := by decide +kernel
theorem d_Tx_readAll_36 : decode b_Tx_readAll 36 = .ok (.iload_n 2, 1) := by decide +kernel
theorem d_Tx_readAll_37 : decode b_Tx_readAll 37 = .ok (.ireturn, 1) := by decide +kernel
theorem d_Tx_readAll_38 : decode b_Tx_readAll 38 = .ok (.aload_n 0, 1) := by decide +kernel
theorem d_Tx_readAll_39 : decode b_Tx_readAll 39 = .ok (.getfield 12, 3) := by decide +kernel
theorem d_Tx_readAll_42 : decode b_Tx_readAll 42 = .ok (.invokevirtual 29, 3) := by decide +kernel
theorem d_Tx_readAll_45 : decode b_Tx_readAll 45 = .ok (.ifCond .ne 6, 3) := by decide +kernel
theorem d_Tx_readAll_48 : decode b_Tx_readAll 48 = .ok (.goto 16, 3) := by decide +kernel
theorem d_Tx_readAll_51 : decode b_Tx_readAll 51 = .ok (.aload_n 0, 1) := by decide +kernel
theorem d_Tx_readAll_52 : decode b_Tx_readAll 52 = .ok (.getfield 12, 3) := by decide +kernel
theorem d_Tx_readAll_55 : decode b_Tx_readAll 55 = .ok (.invokevirtual 32, 3) := by decide +kernel
theorem d_Tx_readAll_58 : decode b_Tx_readAll 58 = .ok (.iinc 2 1, 3) := by decide +kernel
theorem d_Tx_readAll_61 : decode b_Tx_readAll 61 = .ok (.goto (-52), 3) := by decide +kernel
theorem d_Tx_readAll_64 : decode b_Tx_readAll 64 = .ok (.iconst (-1), 1) := by decide +kernel
theorem d_Tx_readAll_65 : decode b_Tx_readAll 65 = .ok (.aload_n 0, 1) := by decide +kernel
theorem d_Tx_readAll_66 : decode b_Tx_readAll 66 = .ok (.getfield 12, 3) := by decide +kernel
theorem d_Tx_readAll_69 : decode b_Tx_readAll 69 = .ok (.getfield 35, 3) := by decide +kernel
theorem d_Tx_readAll_72 : decode b_Tx_readAll 72 = .ok (.isub, 1) := by decide +kernel
theorem d_Tx_readAll_73 : decode b_Tx_readAll 73 = .ok (.ireturn, 1) := by decide +kernel
theorem d_Ta_goToFirst_0 : decode b_Ta_goToFirst 0 = .ok (.aload_n 0, 1) := by decide +kernel
theorem d_Ta_goToFirst_1 : decode b_Ta_goToFirst 1 = .ok (.iconst 0, 1) := by decide +kernel
theorem d_Ta_goToFirst_2 : decode b_Ta_goToFirst 2 = .ok (.putfield 22, 3) := by decide +kernel
theorem d_Ta_goToFirst_5 : decode b_Ta_goToFirst 5 = .ok (.aload_n 0, 1) := by decide +kernel
theorem d_Ta_goToFirst_6 : decode b_Ta_goToFirst 6 = .ok (.invokevirtual 31, 3) := by decide +kernel
theorem d_Ta_goToFirst_9 : decode b_Ta_goToFirst 9 = .ok (.return_, 1) := by decide +kernel
theorem d_Ta_goToNext_0 : decode b_Ta_goToNext 0 = .ok (.aload_n 0, 1) := by decide +kernel
theorem d_Ta_goToNext_1 : decode b_Ta_goToNext 1 = .ok (.aload_n 0, 1) := by decide +kernel
theorem d_Ta_goToNext_2 : decode b_Ta_goToNext 2 = .ok (.getfield 22, 3) := by decide +kernel
theorem d_Ta_goToNext_5 : decode b_Ta_goToNext 5 = .ok (.putfield 19, 3) := by decide +kernel
theorem d_Ta_goToNext_8 : decode b_Ta_goToNext 8 = .ok (.aload_n 0, 1) := by decide +kernel
theorem d_Ta_goToNext_9 : decode b_Ta_goToNext 9 = .ok (.getfield 19, 3) := by decide +kernel
theorem d_Ta_goToNext_12 : decode b_Ta_goToNext 12 = .ok (.aload_n 0, 1) := by decide +kernel
theorem d_Ta_goToNext_13 : decode b_Ta_goToNext 13 = .ok (.getfield 15, 3) := by decide +kernel
theorem d_Ta_goToNext_16 : decode b_Ta_goToNext 16 = .ok (.if_icmp .ge 30, 3) := by decide +kernel
theorem d_Ta_goToNext_19 : decode b_Ta_goToNext 19 = .ok (.aload_n 0, 1) := by decide +kernel
theorem d_Ta_goToNext_20 : decode b_Ta_goToNext 20 = .ok (.getfield 9, 3) := by decide +kernel
theorem d_Ta_goToNext_23 : decode b_Ta_goToNext 23 = .ok (.aload_n 0, 1) := by decide +kernel
theorem d_Ta_goToNext_24 : decode b_Ta_goToNext 24 = .ok (.getfield 19, 3) := by decide +kernel
theorem d_Ta_goToNext_27 : decode b_Ta_goToNext 27 = .ok (.iaload, 1) := by decide +kernel
theorem d_Ta_goToNext_28 : decode b_Ta_goToNext 28 = .ok (.bipush 32, 2) := by decide +kernel
theorem d_Ta_goToNext_30 : decode b_Ta_goToNext 30 = .ok (.if_icmp .ne 16, 3) := by decide +kernel
theorem d_Ta_goToNext_33 : decode b_Ta_goToNext 33 = .ok (.aload_n 0, 1) := by decide +kernel
theorem d_Ta_goToNext_34 : decode b_Ta_goToNext 34 = .ok (.dup, 1) := by decide +kernel
theorem d_Ta_goToNext_35 : decode b_Ta_goToNext 35 = .ok (.getfield 19, 3) := by decide +kernel
theorem d_Ta_goToNext_38 : decode b_Ta_goToNext 38 = .ok (.iconst 1, 1) := by decide +kernel
theorem d_Ta_goToNext_39 : decode b_Ta_goToNext 39 = .ok (.iadd, 1) := by decide +kernel
theorem d_Ta_goToNext_40 : decode b_Ta_goToNext 40 = .ok (.putfield 19, 3) := by decide +kernel
theorem d_Ta_goToNext_43 : decode b_Ta_goToNext 43 = .ok (.goto (-35), 3) := by decide +kernel
theorem d_Ta_goToNext_46 : decode b_Ta_goToNext 46 = .ok (.aload_n 0, 1) := by decide +kernel
theorem d_Ta_goToNext_47 : decode b_Ta_goToNext 47 = .ok (.aload_n 0, 1) := by decide +kernel
theorem d_Ta_goToNext_48 : decode b_Ta_goToNext 48 = .ok (.getfield 19, 3) := by decide +kernel
theorem d_Ta_goToNext_51 : decode b_Ta_goToNext 51 = .ok (.putfield 22, 3) := by decide +kernel
theorem d_Ta_goToNext_54 : decode b_Ta_goToNext 54 = .ok (.aload_n 0, 1) := by decide +kernel
theorem d_Ta_goToNext_55 : decode b_Ta_goToNext 55 = .ok (.getfield 19, 3) := by decide +kernel
theorem d_Ta_goToNext_58 : decode b_Ta_goToNext 58 = .ok (.aload_n 0, 1) := by decide +kernel
theorem d_Ta_goToNext_59 : decode b_Ta_goToNext 59 = .ok (.getfield 15, 3) := by decide +kernel
theorem d_Ta_goToNext_62 : decode b_Ta_goToNext 62 = .ok (.if_icmp .lt 11, 3) := by decide +kernel
theorem d_Ta_goToNext_65 : decode b_Ta_goToNext 65 = .ok (.aload_n 0, 1) := by decide +kernel
theorem d_Ta_goToNext_66 : decode b_Ta_goToNext 66 = .ok (.iconst 0, 1) := by decide +kernel
theorem d_Ta_goToNext_67 : decode b_Ta_goToNext 67 = .ok (.putfield 25, 3) := by decide +kernel
theorem d_Ta_goToNext_70 : decode b_Ta_goToNext 70 = .ok (.goto 80, 3) := by decide +kernel
theorem d_Ta_goToNext_73 : decode b_Ta_goToNext 73 = .ok (.aload_n 0, 1) := by decide +kernel
theorem d_Ta_goToNext_74 : decode b_Ta_goToNext 74 = .ok (.getfield 9, 3) := by decide +kernel
theorem d_Ta_goToNext_77 : decode b_Ta_goToNext 77 = .ok (.aload_n 0, 1) := by decide +kernel
theorem d_Ta_goToNext_78 : decode b_Ta_goToNext 78 = .ok (.getfield 19, 3) := by decide +kernel
theorem d_Ta_goToNext_81 : decode b_Ta_goToNext 81 = .ok (.iaload, 1) := by decide +kernel
theorem d_Ta_goToNext_82 : decode b_Ta_goToNext 82 = .ok (.invokestatic 34, 3) := by decide +kernel
theorem d_Ta_goToNext_85 : decode b_Ta_goToNext 85 = .ok (.ifCond .eq 10, 3) := by decide +kernel
theorem d_Ta_goToNext_88 : decode b_Ta_goToNext 88 = .ok (.aload_n 0, 1) := by decide +kernel
theorem d_Ta_goToNext_89 : decode b_Ta_goToNext 89 = .ok (.invokevirtual 38, 3) := by decide +kernel
theorem d_Ta_goToNext_92 : decode b_Ta_goToNext 92 = .ok (.goto 58, 3) := by decide +kernel
theorem d_Ta_goToNext_95 : decode b_Ta_goToNext 95 = .ok (.aload_n 0, 1) := by decide +kernel
theorem d_Ta_goToNext_96 : decode b_Ta_goToNext 96 = .ok (.getfield 9, 3) := by decide +kernel
theorem d_Ta_goToNext_99 : decode b_Ta_goToNext 99 = .ok (.aload_n 0, 1) := by decide +kernel
theorem d_Ta_goToNext_100 : decode b_Ta_goToNext 100 = .ok (.getfield 19, 3) := by decide +kernel
theorem d_Ta_goToNext_103 : decode b_Ta_goToNext 103 = .ok (.iaload, 1) := by decide +kernel
theorem d_Ta_goToNext_104 : decode b_Ta_goToNext 104 = .ok (.invokestatic 41, 3) := by decide +kernel
theorem d_Ta_goToNext_107 : decode b_Ta_goToNext 107 = .ok (.ifCond .eq 10, 3) := by decide +kernel
theorem d_Ta_goToNext_110 : decode b_Ta_goToNext 110 = .ok (.aload_n 0, 1) := by decide +kernel
theorem d_Ta_goToNext_111 : decode b_Ta_goToNext 111 = .ok (.invokevirtual 44, 3) := by decide +kernel
theorem d_Ta_goToNext_114 : decode b_Ta_goToNext 114 = .ok (.goto 36, 3) := by decide +kernel
theorem d_Ta_goToNext_117 : decode b_Ta_goToNext 117 = .ok (.aload_n 0, 1) := by decide +kernel
theorem d_Ta_goToNext_118 : decode b_Ta_goToNext 118 = .ok (.aload_n 0, 1) := by decide +kernel
theorem d_Ta_goToNext_119 : decode b_Ta_goToNext 119 = .ok (.getfield 9, 3) := by decide +kernel
theorem d_Ta_goToNext_122 : decode b_Ta_goToNext 122 = .ok (.aload_n 0, 1) := by decide +kernel
theorem d_Ta_goToNext_123 : decode b_Ta_goToNext 123 = .ok (.getfield 19, 3) := by decide +kernel
theorem d_Ta_goToNext_126 : decode b_Ta_goToNext 126 = .ok (.iaload, 1) := by decide +kernel
theorem d_Ta_goToNext_127 : decode b_Ta_goToNext 127 = .ok (.bipush 59, 2) := by decide +kernel
theorem d_Ta_goToNext_129 : decode b_Ta_goToNext 129 = .ok (.if_icmp .ne 7, 3) := by decide +kernel
theorem d_Ta_goToNext_132 : decode b_Ta_goToNext 132 = .ok (.iconst 3, 1) := by decide +kernel
theorem d_Ta_goToNext_133 : decode b_Ta_goToNext 133 = .ok (.goto 4, 3) := by decide +kernel
theorem d_Ta_goToNext_136 : decode b_Ta_goToNext 136 = .ok (.iconst 4, 1) := by decide +kernel
theorem d_Ta_goToNext_137 : decode b_Ta_goToNext 137 = .ok (.putfield 25, 3) := by decide +kernel
theorem d_Ta_goToNext_140 : decode b_Ta_goToNext 140 = .ok (.aload_n 0, 1) := by decide +kernel
theorem d_Ta_goToNext_141 : decode b_Ta_goToNext 141 = .ok (.dup, 1) := by decide +kernel
theorem d_Ta_goToNext_142 : decode b_Ta_goToNext 142 = .ok (.getfield 22, 3) := by decide +kernel
theorem d_Ta_goToNext_145 : decode b_Ta_goToNext 145 = .ok (.iconst 1, 1) := by decide +kernel
theorem d_Ta_goToNext_146 : decode b_Ta_goToNext 146 = .ok (.iadd, 1) := by decide +kernel
theorem d_Ta_goToNext_147 : decode b_Ta_goToNext 147 = .ok (.putfield 22, 3) := by decide +kernel
theorem d_Ta_goToNext_150 : decode b_Ta_goToNext 150 = .ok (.return_, 1) := by decide +kernel
theorem d_Ta_isLetter_0 : decode b_Ta_isLetter 0 = .ok (.iload_n 0, 1) := by decide +kernel
theorem d_Ta_isLetter_1 : decode b_Ta_isLetter 1 = .ok (.bipush 97, 2) := by decide +kernel
theorem d_Ta_isLetter_3 : decode b_Ta_isLetter 3 = .ok (.if_icmp .lt 13, 3) := by decide +kernel
theorem d_Ta_isLetter_6 : decode b_Ta_isLetter 6 = .ok (.iload_n 0, 1) := by decide +kernel
theorem d_Ta_isLetter_7 : decode b_Ta_isLetter 7 = .ok (.bipush 122, 2) := by decide +kernel
theorem d_Ta_isLetter_9 : decode b_Ta_isLetter 9 = .ok (.if_icmp .gt 7, 3) := by decide +kernel
theorem d_Ta_isLetter_12 : decode b_Ta_isLetter 12 = .ok (.iconst 1, 1) := by decide +kernel
theorem d_Ta_isLetter_13 : decode b_Ta_isLetter 13 = .ok (.goto 4, 3) := by decide +kernel
theorem d_Ta_isLetter_16 : decode b_Ta_isLetter 16 = .ok (.iconst 0, 1) := by decide +kernel
theorem d_Ta_isLetter_17 : decode b_Ta_isLetter 17 = .ok (.ireturn, 1) := by decide +kernel
theorem d_Ta_endWord_0 : decode b_Ta_endWord 0 = .ok (.aload_n 0, 1) := by decide +kernel
theorem d_Ta_endWord_1 : decode b_Ta_endWord 1 = .ok (.iconst 1, 1) := by decide +kernel
theorem d_Ta_endWord_2 : decode b_Ta_endWord 2 = .ok (.putfield 25, 3) := by decide +kernel
theorem d_Ta_endWord_5 : decode b_Ta_endWord 5 = .ok (.aload_n 0, 1) := by decide +kernel
theorem d_Ta_endWord_6 : decode b_Ta_endWord 6 = .ok (.getfield 22, 3) := by decide +kernel
theorem d_Ta_endWord_9 : decode b_Ta_endWord 9 = .ok (.aload_n 0, 1) := by decide +kernel
theorem d_Ta_endWord_10 : decode b_Ta_endWord 10 = .ok (.getfield 15, 3) := by decide +kernel
theorem d_Ta_endWord_13 : decode b_Ta_endWord 13 = .ok (.if_icmp .ge 31, 3) := by decide +kernel
theorem d_Ta_endWord_16 : decode b_Ta_endWord 16 = .ok (.aload_n 0, 1) := by decide +kernel
theorem d_Ta_endWord_17 : decode b_Ta_endWord 17 = .ok (.getfield 9, 3) := by decide +kernel
theorem d_Ta_endWord_20 : decode b_Ta_endWord 20 = .ok (.aload_n 0, 1) := by decide +kernel
theorem d_Ta_endWord_21 : decode b_Ta_endWord 21 = .ok (.getfield 22, 3) := by decide +kernel
theorem d_Ta_endWord_24 : decode b_Ta_endWord 24 = .ok (.iaload, 1) := by decide +kernel
theorem d_Ta_endWord_25 : decode b_Ta_endWord 25 = .ok (.invokestatic 34, 3) := by decide +kernel
theorem d_Ta_endWord_28 : decode b_Ta_endWord 28 = .ok (.ifCond .eq 16, 3) := by decide +kernel
theorem d_Ta_endWord_31 : decode b_Ta_endWord 31 = .ok (.aload_n 0, 1) := by decide +kernel
theorem d_Ta_endWord_32 : decode b_Ta_endWord 32 = .ok (.dup, 1) := by decide +kernel
theorem d_Ta_endWord_33 : decode b_Ta_endWord 33 = .ok (.getfield 22, 3) := by decide +kernel
theorem d_Ta_endWord_36 : decode b_Ta_endWord 36 = .ok (.iconst 1, 1) := by decide +kernel
theorem d_Ta_endWord_37 : decode b_Ta_endWord 37 = .ok (.iadd, 1) := by decide +kernel
theorem d_Ta_endWord_38 : decode b_Ta_endWord 38 = .ok (.putfield 22, 3) := by decide +kernel
theorem d_Ta_endWord_41 : decode b_Ta_endWord 41 = .ok (.goto (-36), 3) := by decide +kernel
theorem d_Ta_endWord_44 : decode b_Ta_endWord 44 = .ok (.return_, 1) := by decide +kernel
theorem d_Ta_isDigit_0 : decode b_Ta_isDigit 0 = .ok (.iload_n 0, 1) := by decide +kernel
theorem d_Ta_isDigit_1 : decode b_Ta_isDigit 1 = .ok (.bipush 48, 2) := by decide +kernel
theorem d_Ta_isDigit_3 : decode b_Ta_isDigit 3 = .ok (.if_icmp .lt 13, 3) := by decide +kernel
theorem d_Ta_isDigit_6 : decode b_Ta_isDigit 6 = .ok (.iload_n 0, 1) := by decide +kernel
theorem d_Ta_isDigit_7 : decode b_Ta_isDigit 7 = .ok (.bipush 57, 2) := by decide +kernel
theorem d_Ta_isDigit_9 : decode b_Ta_isDigit 9 = .ok (.if_icmp .gt 7, 3) := by decide +kernel
theorem d_Ta_isDigit_12 : decode b_Ta_isDigit 12 = .ok (.iconst 1, 1) := by decide +kernel
theorem d_Ta_isDigit_13 : decode b_Ta_isDigit 13 = .ok (.goto 4, 3) := by decide +kernel
theorem d_Ta_isDigit_16 : decode b_Ta_isDigit 16 = .ok (.iconst 0, 1) := by decide +kernel
theorem d_Ta_isDigit_17 : decode b_Ta_isDigit 17 = .ok (.ireturn, 1) := by decide +kernel
theorem d_Ta_endNumber_0 : decode b_Ta_endNumber 0 = .ok (.aload_n 0, 1) := by decide +kernel
theorem d_Ta_endNumber_1 : decode b_Ta_endNumber 1 = .ok (.iconst 2, 1) := by decide +kernel
theorem d_Ta_endNumber_2 : decode b_Ta_endNumber 2 = .ok (.putfield 25, 3) := by decide +kernel
theorem d_Ta_endNumber_5 : decode b_Ta_endNumber 5 = .ok (.aload_n 0, 1) := by decide +kernel
theorem d_Ta_endNumber_6 : decode b_Ta_endNumber 6 = .ok (.iconst 0, 1) := by decide +kernel
theorem d_Ta_endNumber_7 : decode b_Ta_endNumber 7 = .ok (.putfield 28, 3) := by decide +kernel
theorem d_Ta_endNumber_10 : decode b_Ta_endNumber 10 = .ok (.aload_n 0, 1) := by decide +kernel
theorem d_Ta_endNumber_11 : decode b_Ta_endNumber 11 = .ok (.getfield 22, 3) := by decide +kernel
theorem d_Ta_endNumber_14 : decode b_Ta_endNumber 14 = .ok (.aload_n 0, 1) := by decide +kernel
theorem d_Ta_endNumber_15 : decode b_Ta_endNumber 15 = .ok (.getfield 15, 3) := by decide +kernel
theorem d_Ta_endNumber_18 : decode b_Ta_endNumber 18 = .ok (.if_icmp .ge 61, 3) := by decide +kernel
theorem d_Ta_endNumber_21 : decode b_Ta_endNumber 21 = .ok (.aload_n 0, 1) := by decide +kernel
theorem d_Ta_endNumber_22 : decode b_Ta_endNumber 22 = .ok (.getfield 9, 3) := by decide +kernel
theorem d_Ta_endNumber_25 : decode b_Ta_endNumber 25 = .ok (.aload_n 0, 1) := by decide +kernel
theorem d_Ta_endNumber_26 : decode b_Ta_endNumber 26 = .ok (.getfield 22, 3) := by decide +kernel
theorem d_Ta_endNumber_29 : decode b_Ta_endNumber 29 = .ok (.iaload, 1) := by decide +kernel
theorem d_Ta_endNumber_30 : decode b_Ta_endNumber 30 = .ok (.invokestatic 41, 3) := by decide +kernel
theorem d_Ta_endNumber_33 : decode b_Ta_endNumber 33 = .ok (.ifCond .eq 46, 3) := by decide +kernel
theorem d_Ta_endNumber_36 : decode b_Ta_endNumber 36 = .ok (.aload_n 0, 1) := by decide +kernel
theorem d_Ta_endNumber_37 : decode b_Ta_endNumber 37 = .ok (.sipush 1000, 3) := by decide +kernel
theorem d_Ta_endNumber_40 : decode b_Ta_endNumber 40 = .ok (.bipush 10, 2) := by decide +kernel
theorem d_Ta_endNumber_42 : decode b_Ta_endNumber 42 = .ok (.aload_n 0, 1) := by decide +kernel
theorem d_Ta_endNumber_43 : decode b_Ta_endNumber 43 = .ok (.getfield 28, 3) := by decide +kernel
theorem d_Ta_endNumber_46 : decode b_Ta_endNumber 46 = .ok (.imul, 1) := by decide +kernel
theorem d_Ta_endNumber_47 : decode b_Ta_endNumber 47 = .ok (.aload_n 0, 1) := by decide +kernel
theorem d_Ta_endNumber_48 : decode b_Ta_endNumber 48 = .ok (.getfield 9, 3) := by decide +kernel
theorem d_Ta_endNumber_51 : decode b_Ta_endNumber 51 = .ok (.aload_n 0, 1) := by decide +kernel
theorem d_Ta_endNumber_52 : decode b_Ta_endNumber 52 = .ok (.getfield 22, 3) := by decide +kernel
theorem d_Ta_endNumber_55 : decode b_Ta_endNumber 55 = .ok (.iaload, 1) := by decide +kernel
theorem d_Ta_endNumber_56 : decode b_Ta_endNumber 56 = .ok (.iadd, 1) := by decide +kernel
theorem d_Ta_endNumber_57 : decode b_Ta_endNumber 57 = .ok (.bipush 48, 2) := by decide +kernel
theorem d_Ta_endNumber_59 : decode b_Ta_endNumber 59 = .ok (.isub, 1) := by decide +kernel
theorem d_Ta_endNumber_60 : decode b_Ta_endNumber 60 = .ok (.invokestatic 57, 3) := by decide +kernel
theorem d_Ta_endNumber_63 : decode b_Ta_endNumber 63 = .ok (.putfield 28, 3) := by decide +kernel
theorem d_Ta_endNumber_66 : decode b_Ta_endNumber 66 = .ok (.aload_n 0, 1) := by decide +kernel
theorem d_Ta_endNumber_67 : decode b_Ta_endNumber 67 = .ok (.dup, 1) := by decide +kernel
theorem d_Ta_endNumber_68 : decode b_Ta_endNumber 68 = .ok (.getfield 22, 3) := by decide +kernel
theorem d_Ta_endNumber_71 : decode b_Ta_endNumber 71 = .ok (.iconst 1, 1) := by decide +kernel
theorem d_Ta_endNumber_72 : decode b_Ta_endNumber 72 = .ok (.iadd, 1) := by decide +kernel
theorem d_Ta_endNumber_73 : decode b_Ta_endNumber 73 = .ok (.putfield 22, 3) := by decide +kernel
theorem d_Ta_endNumber_76 : decode b_Ta_endNumber 76 = .ok (.goto (-66), 3) := by decide +kernel
theorem d_Ta_endNumber_79 : decode b_Ta_endNumber 79 = .ok (.return_, 1) := by decide +kernel
theorem d_Tx_readItem_0 : decode b_Tx_readItem 0 = .ok (.aload_n 0, 1) := by decide +kernel
theorem d_Tx_readItem_1 : decode b_Tx_readItem 1 = .ok (.invokevirtual 39, 3) := by decide +kernel
theorem d_Tx_readItem_4 : decode b_Tx_readItem 4 = .ok (.istore_n 2, 1) := by decide +kernel
theorem d_Tx_readItem_5 : decode b_Tx_readItem 5 = .ok (.iload_n 2, 1) := by decide +kernel
theorem d_Tx_readItem_6 : decode b_Tx_readItem 6 = .ok (.ifCond .lt 13, 3) := by decide +kernel
theorem d_Tx_readItem_9 : decode b_Tx_readItem 9 = .ok (.aload_n 0, 1) := by decide +kernel
theorem d_Tx_readItem_10 : decode b_Tx_readItem 10 = .ok (.iload_n 2, 1) := by decide +kernel
theorem d_Tx_readItem_11 : decode b_Tx_readItem 11 = .ok (.aload_n 1, 1) := by decide +kernel
theorem d_Tx_readItem_12 : decode b_Tx_readItem 12 = .ok (.getfield 43, 3) := by decide +kernel
theorem d_Tx_readItem_15 : decode b_Tx_readItem 15 = .ok (.invokevirtual 49, 3) := by decide +kernel
theorem d_Tx_readItem_18 : decode b_Tx_readItem 18 = .ok (.ireturn, 1) := by decide +kernel
theorem d_Tx_readItem_19 : decode b_Tx_readItem 19 = .ok (.aload_n 0, 1) := by decide +kernel
theorem d_Tx_readItem_20 : decode b_Tx_readItem 20 = .ok (.getfield 12, 3) := by decide +kernel
theorem d_Tx_readItem_23 : decode b_Tx_readItem 23 = .ok (.ldc 53, 2) := by decide +kernel
theorem d_Tx_readItem_25 : decode b_Tx_readItem 25 = .ok (.invokevirtual 55, 3) := by decide +kernel
theorem d_Tx_readItem_28 : decode b_Tx_readItem 28 = .ok (.ifCond .eq 12, 3) := by decide +kernel
theorem d_Tx_readItem_31 : decode b_Tx_readItem 31 = .ok (.aload_n 0, 1) := by decide +kernel
theorem d_Tx_readItem_32 : decode b_Tx_readItem 32 = .ok (.aload_n 1, 1) := by decide +kernel
theorem d_Tx_readItem_33 : decode b_Tx_readItem 33 = .ok (.getfield 59, 3) := by decide +kernel
theorem d_Tx_readItem_36 : decode b_Tx_readItem 36 = .ok (.invokevirtual 63, 3) := by decide +kernel
theorem d_Tx_readItem_39 : decode b_Tx_readItem 39 = .ok (.ireturn, 1) := by decide +kernel
theorem d_Tx_readItem_40 : decode b_Tx_readItem 40 = .ok (.aload_n 0, 1) := by decide +kernel
theorem d_Tx_readItem_41 : decode b_Tx_readItem 41 = .ok (.getfield 12, 3) := by decide +kernel
theorem d_Tx_readItem_44 : decode b_Tx_readItem 44 = .ok (.ldc 67, 2) := by decide +kernel
theorem d_Tx_readItem_46 : decode b_Tx_readItem 46 = .ok (.invokevirtual 55, 3) := by decide +kernel
theorem d_Tx_readItem_49 : decode b_Tx_readItem 49 = .ok (.ifCond .eq 15, 3) := by decide +kernel
theorem d_Tx_readItem_52 : decode b_Tx_readItem 52 = .ok (.aload_n 0, 1) := by decide +kernel
theorem d_Tx_readItem_53 : decode b_Tx_readItem 53 = .ok (.aload_n 1, 1) := by decide +kernel
theorem d_Tx_readItem_54 : decode b_Tx_readItem 54 = .ok (.getfield 59, 3) := by decide +kernel
theorem d_Tx_readItem_57 : decode b_Tx_readItem 57 = .ok (.getfield 69, 3) := by decide +kernel
theorem d_Tx_readItem_60 : decode b_Tx_readItem 60 = .ok (.invokevirtual 75, 3) := by decide +kernel
theorem d_Tx_readItem_63 : decode b_Tx_readItem 63 = .ok (.ireturn, 1) := by decide +kernel
theorem d_Tx_readItem_64 : decode b_Tx_readItem 64 = .ok (.aload_n 0, 1) := by decide +kernel
theorem d_Tx_readItem_65 : decode b_Tx_readItem 65 = .ok (.getfield 12, 3) := by decide +kernel
theorem d_Tx_readItem_68 : decode b_Tx_readItem 68 = .ok (.ldc 79, 2) := by decide +kernel
theorem d_Tx_readItem_70 : decode b_Tx_readItem 70 = .ok (.invokevirtual 55, 3) := by decide +kernel
theorem d_Tx_readItem_73 : decode b_Tx_readItem 73 = .ok (.ifCond .eq 15, 3) := by decide +kernel
theorem d_Tx_readItem_76 : decode b_Tx_readItem 76 = .ok (.aload_n 0, 1) := by decide +kernel
theorem d_Tx_readItem_77 : decode b_Tx_readItem 77 = .ok (.aload_n 1, 1) := by decide +kernel
theorem d_Tx_readItem_78 : decode b_Tx_readItem 78 = .ok (.getfield 59, 3) := by decide +kernel
theorem d_Tx_readItem_81 : decode b_Tx_readItem 81 = .ok (.getfield 81, 3) := by decide +kernel
theorem d_Tx_readItem_84 : decode b_Tx_readItem 84 = .ok (.invokevirtual 75, 3) := by decide +kernel
theorem d_Tx_readItem_87 : decode b_Tx_readItem 87 = .ok (.ireturn, 1) := by decide +kernel
theorem d_Tx_readItem_88 : decode b_Tx_readItem 88 = .ok (.aload_n 0, 1) := by decide +kernel
theorem d_Tx_readItem_89 : decode b_Tx_readItem 89 = .ok (.getfield 12, 3) := by decide +kernel
theorem d_Tx_readItem_92 : decode b_Tx_readItem 92 = .ok (.ldc 84, 2) := by decide +kernel
theorem d_Tx_readItem_94 : decode b_Tx_readItem 94 = .ok (.invokevirtual 55, 3) := by decide +kernel
theorem d_Tx_readItem_97 : decode b_Tx_readItem 97 = .ok (.ifCond .eq 12, 3) := by decide +kernel
theorem d_Tx_readItem_100 : decode b_Tx_readItem 100 = .ok (.aload_n 0, 1) := by decide +kernel
theorem d_Tx_readItem_101 : decode b_Tx_readItem 101 = .ok (.aload_n 1, 1) := by decide +kernel
theorem d_Tx_readItem_102 : decode b_Tx_readItem 102 = .ok (.getfield 59, 3) := by decide +kernel
theorem d_Tx_readItem_105 : decode b_Tx_readItem 105 = .ok (.invokevirtual 86, 3) := by decide +kernel
theorem d_Tx_readItem_108 : decode b_Tx_readItem 108 = .ok (.ireturn, 1) := by decide +kernel
theorem d_Tx_readItem_109 : decode b_Tx_readItem 109 = .ok (.aload_n 0, 1) := by decide +kernel
theorem d_Tx_readItem_110 : decode b_Tx_readItem 110 = .ok (.getfield 12, 3) := by decide +kernel
theorem d_Tx_readItem_113 : decode b_Tx_readItem 113 = .ok (.ldc 89, 2) := by decide +kernel
theorem d_Tx_readItem_115 : decode b_Tx_readItem 115 = .ok (.invokevirtual 55, 3) := by decide +kernel
theorem d_Tx_readItem_118 : decode b_Tx_readItem 118 = .ok (.ifCond .eq 13, 3) := by decide +kernel
theorem d_Tx_readItem_121 : decode b_Tx_readItem 121 = .ok (.aload_n 0, 1) := by decide +kernel
theorem d_Tx_readItem_122 : decode b_Tx_readItem 122 = .ok (.iconst 0, 1) := by decide +kernel
theorem d_Tx_readItem_123 : decode b_Tx_readItem 123 = .ok (.aload_n 1, 1) := by decide +kernel
theorem d_Tx_readItem_124 : decode b_Tx_readItem 124 = .ok (.getfield 91, 3) := by decide +kernel
theorem d_Tx_readItem_127 : decode b_Tx_readItem 127 = .ok (.invokevirtual 95, 3) := by decide +kernel
theorem d_Tx_readItem_130 : decode b_Tx_readItem 130 = .ok (.ireturn, 1) := by decide +kernel
theorem d_Tx_readItem_131 : decode b_Tx_readItem 131 = .ok (.aload_n 0, 1) := by decide +kernel
theorem d_Tx_readItem_132 : decode b_Tx_readItem 132 = .ok (.getfield 12, 3) := by decide +kernel
theorem d_Tx_readItem_135 : decode b_Tx_readItem 135 = .ok (.ldc 99, 2) := by decide +kernel
theorem d_Tx_readItem_137 : decode b_Tx_readItem 137 = .ok (.invokevirtual 55, 3) := by decide +kernel
theorem d_Tx_readItem_140 : decode b_Tx_readItem 140 = .ok (.ifCond .eq 13, 3) := by decide +kernel
theorem d_Tx_readItem_143 : decode b_Tx_readItem 143 = .ok (.aload_n 0, 1) := by decide +kernel
theorem d_Tx_readItem_144 : decode b_Tx_readItem 144 = .ok (.iconst 1, 1) := by decide +kernel
theorem d_Tx_readItem_145 : decode b_Tx_readItem 145 = .ok (.aload_n 1, 1) := by decide +kernel
theorem d_Tx_readItem_146 : decode b_Tx_readItem 146 = .ok (.getfield 91, 3) := by decide +kernel
theorem d_Tx_readItem_149 : decode b_Tx_readItem 149 = .ok (.invokevirtual 95, 3) := by decide +kernel
theorem d_Tx_readItem_152 : decode b_Tx_readItem 152 = .ok (.ireturn, 1) := by decide +kernel
theorem d_Tx_readItem_153 : decode b_Tx_readItem 153 = .ok (.aload_n 0, 1) := by decide +kernel
theorem d_Tx_readItem_154 : decode b_Tx_readItem 154 = .ok (.getfield 12, 3) := by decide +kernel
theorem d_Tx_readItem_157 : decode b_Tx_readItem 157 = .ok (.ldc 101, 2) := by decide +kernel
theorem d_Tx_readItem_159 : decode b_Tx_readItem 159 = .ok (.invokevirtual 55, 3) := by decide +kernel
theorem d_Tx_readItem_162 : decode b_Tx_readItem 162 = .ok (.ifCond .eq 12, 3) := by decide +kernel
theorem d_Tx_readItem_165 : decode b_Tx_readItem 165 = .ok (.aload_n 0, 1) := by decide +kernel
theorem d_Tx_readItem_166 : decode b_Tx_readItem 166 = .ok (.aload_n 1, 1) := by decide +kernel
theorem d_Tx_readItem_167 : decode b_Tx_readItem 167 = .ok (.getfield 91, 3) := by decide +kernel
theorem d_Tx_readItem_170 : decode b_Tx_readItem 170 = .ok (.invokevirtual 103, 3) := by decide +kernel
theorem d_Tx_readItem_173 : decode b_Tx_readItem 173 = .ok (.ireturn, 1) := by decide +kernel
theorem d_Tx_readItem_174 : decode b_Tx_readItem 174 = .ok (.iconst 0, 1) := by decide +kernel
theorem d_Tx_readItem_175 : decode b_Tx_readItem 175 = .ok (.ireturn, 1) := by decide +kernel
theorem d_Tx_kindHere_0 : decode b_Tx_kindHere 0 = .ok (.iconst 0, 1) := by decide +kernel
theorem d_Tx_kindHere_1 : decode b_Tx_kindHere 1 = .ok (.istore_n 1, 1) := by decide +kernel
theorem d_Tx_kindHere_2 : decode b_Tx_kindHere 2 = .ok (.iload_n 1, 1) := by decide +kernel
theorem d_Tx_kindHere_3 : decode b_Tx_kindHere 3 = .ok (.bipush 6, 2) := by decide +kernel
theorem d_Tx_kindHere_5 : decode b_Tx_kindHere 5 = .ok (.if_icmp .ge 25, 3) := by decide +kernel
theorem d_Tx_kindHere_8 : decode b_Tx_kindHere 8 = .ok (.aload_n 0, 1) := by decide +kernel
theorem d_Tx_kindHere_9 : decode b_Tx_kindHere 9 = .ok (.getfield 12, 3) := by decide +kernel
theorem d_Tx_kindHere_12 : decode b_Tx_kindHere 12 = .ok (.iload_n 1, 1) := by decide +kernel
theorem d_Tx_kindHere_13 : decode b_Tx_kindHere 13 = .ok (.invokestatic 107, 3) := by decide +kernel
theorem d_Tx_kindHere_16 : decode b_Tx_kindHere 16 = .ok (.invokevirtual 55, 3) := by decide +kernel
theorem d_Tx_kindHere_19 : decode b_Tx_kindHere 19 = .ok (.ifCond .eq 5, 3) := by decide +kernel
theorem d_Tx_kindHere_22 : decode b_Tx_kindHere 22 = .ok (.iload_n 1, 1) := by decide +kernel
theorem d_Tx_kindHere_23 : decode b_Tx_kindHere 23 = .ok (.ireturn, 1) := by decide +kernel
theorem d_Tx_kindHere_24 : decode b_Tx_kindHere 24 = .ok (.iinc 1 1, 3) := by decide +kernel
theorem d_Tx_kindHere_27 : decode b_Tx_kindHere 27 = .ok (.goto (-25), 3) := by decide +kernel
theorem d_Tx_kindHere_30 : decode b_Tx_kindHere 30 = .ok (.iconst (-1), 1) := by decide +kernel
theorem d_Tx_kindHere_31 : decode b_Tx_kindHere 31 = .ok (.ireturn, 1) := by decide +kernel
theorem d_Tx_nameOf_0 : decode b_Tx_nameOf 0 = .ok (.iload_n 0, 1) := by decide +kernel
theorem d_Tx_nameOf_1 : decode b_Tx_nameOf 1 = .ok (.tableswitch 50 0 4 #[35, 38, 41, 44, 47], 35) := by decide +kernel
theorem d_Tx_nameOf_36 : decode b_Tx_nameOf 36 = .ok (.ldc 111, 2) := by decide +kernel
theorem d_Tx_nameOf_38 : decode b_Tx_nameOf 38 = .ok (.areturn, 1) := by decide +kernel
theorem d_Tx_nameOf_39 : decode b_Tx_nameOf 39 = .ok (.ldc 113, 2) := by decide +kernel
theorem d_Tx_nameOf_41 : decode b_Tx_nameOf 41 = .ok (.areturn, 1) := by decide +kernel
theorem d_Tx_nameOf_42 : decode b_Tx_nameOf 42 = .ok (.ldc 115, 2) := by decide +kernel
theorem d_Tx_nameOf_44 : decode b_Tx_nameOf 44 = .ok (.areturn, 1) := by decide +kernel
theorem d_Tx_nameOf_45 : decode b_Tx_nameOf 45 = .ok (.ldc 117, 2) := by decide +kernel
theorem d_Tx_nameOf_47 : decode b_Tx_nameOf 47 = .ok (.areturn, 1) := by decide +kernel
theorem d_Tx_nameOf_48 : decode b_Tx_nameOf 48 = .ok (.ldc 119, 2) := by decide +kernel
theorem d_Tx_nameOf_50 : decode b_Tx_nameOf 50 = .ok (.areturn, 1) := by decide +kernel
theorem d_Tx_nameOf_51 : decode b_Tx_nameOf 51 = .ok (.ldc 121, 2) := by decide +kernel
theorem d_Tx_nameOf_53 : decode b_Tx_nameOf 53 = .ok (.areturn, 1) := by decide +kernel
theorem d_Ta_isAt_0 : decode b_Ta_isAt 0 = .ok (.aload_n 0, 1) := by decide +kernel
theorem d_Ta_isAt_1 : decode b_Ta_isAt 1 = .ok (.getfield 25, 3) := by decide +kernel
theorem d_Ta_isAt_4 : decode b_Ta_isAt 4 = .ok (.iconst 1, 1) := by decide +kernel
theorem d_Ta_isAt_5 : decode b_Ta_isAt 5 = .ok (.if_icmp .ne 19, 3) := by decide +kernel
theorem d_Ta_isAt_8 : decode b_Ta_isAt 8 = .ok (.aload_n 0, 1) := by decide +kernel
theorem d_Ta_isAt_9 : decode b_Ta_isAt 9 = .ok (.getfield 22, 3) := by decide +kernel
theorem d_Ta_isAt_12 : decode b_Ta_isAt 12 = .ok (.aload_n 0, 1) := by decide +kernel
theorem d_Ta_isAt_13 : decode b_Ta_isAt 13 = .ok (.getfield 19, 3) := by decide +kernel
theorem d_Ta_isAt_16 : decode b_Ta_isAt 16 = .ok (.isub, 1) := by decide +kernel
theorem d_Ta_isAt_17 : decode b_Ta_isAt 17 = .ok (.aload_n 1, 1) := by decide +kernel
theorem d_Ta_isAt_18 : decode b_Ta_isAt 18 = .ok (.invokevirtual 47, 3) := by decide +kernel
theorem d_Ta_isAt_21 : decode b_Ta_isAt 21 = .ok (.if_icmp .eq 5, 3) := by decide +kernel
theorem d_Ta_isAt_24 : decode b_Ta_isAt 24 = .ok (.iconst 0, 1) := by decide +kernel
theorem d_Ta_isAt_25 : decode b_Ta_isAt 25 = .ok (.ireturn, 1) := by decide +kernel
theorem d_Ta_isAt_26 : decode b_Ta_isAt 26 = .ok (.iconst 0, 1) := by decide +kernel
theorem d_Ta_isAt_27 : decode b_Ta_isAt 27 = .ok (.istore_n 2, 1) := by decide +kernel
theorem d_Ta_isAt_28 : decode b_Ta_isAt 28 = .ok (.iload_n 2, 1) := by decide +kernel
theorem d_Ta_isAt_29 : decode b_Ta_isAt 29 = .ok (.aload_n 1, 1) := by decide +kernel
theorem d_Ta_isAt_30 : decode b_Ta_isAt 30 = .ok (.invokevirtual 47, 3) := by decide +kernel
theorem d_Ta_isAt_33 : decode b_Ta_isAt 33 = .ok (.if_icmp .ge 43, 3) := by decide +kernel
theorem d_Ta_isAt_36 : decode b_Ta_isAt 36 = .ok (.aload_n 0, 1) := by decide +kernel
theorem d_Ta_isAt_37 : decode b_Ta_isAt 37 = .ok (.getfield 19, 3) := by decide +kernel
theorem d_Ta_isAt_40 : decode b_Ta_isAt 40 = .ok (.iload_n 2, 1) := by decide +kernel
theorem d_Ta_isAt_41 : decode b_Ta_isAt 41 = .ok (.iadd, 1) := by decide +kernel
theorem d_Ta_isAt_42 : decode b_Ta_isAt 42 = .ok (.aload_n 0, 1) := by decide +kernel
theorem d_Ta_isAt_43 : decode b_Ta_isAt 43 = .ok (.getfield 15, 3) := by decide +kernel
theorem d_Ta_isAt_46 : decode b_Ta_isAt 46 = .ok (.if_icmp .ge 30, 3) := by decide +kernel
theorem d_Ta_isAt_49 : decode b_Ta_isAt 49 = .ok (.aload_n 0, 1) := by decide +kernel
theorem d_Ta_isAt_50 : decode b_Ta_isAt 50 = .ok (.getfield 9, 3) := by decide +kernel
theorem d_Ta_isAt_53 : decode b_Ta_isAt 53 = .ok (.aload_n 0, 1) := by decide +kernel
theorem d_Ta_isAt_54 : decode b_Ta_isAt 54 = .ok (.getfield 19, 3) := by decide +kernel
theorem d_Ta_isAt_57 : decode b_Ta_isAt 57 = .ok (.iload_n 2, 1) := by decide +kernel
theorem d_Ta_isAt_58 : decode b_Ta_isAt 58 = .ok (.iadd, 1) := by decide +kernel
theorem d_Ta_isAt_59 : decode b_Ta_isAt 59 = .ok (.iaload, 1) := by decide +kernel
theorem d_Ta_isAt_60 : decode b_Ta_isAt 60 = .ok (.aload_n 1, 1) := by decide +kernel
theorem d_Ta_isAt_61 : decode b_Ta_isAt 61 = .ok (.iload_n 2, 1) := by decide +kernel
theorem d_Ta_isAt_62 : decode b_Ta_isAt 62 = .ok (.invokevirtual 53, 3) := by decide +kernel
theorem d_Ta_isAt_65 : decode b_Ta_isAt 65 = .ok (.if_icmp .eq 5, 3) := by decide +kernel
theorem d_Ta_isAt_68 : decode b_Ta_isAt 68 = .ok (.iconst 0, 1) := by decide +kernel
theorem d_Ta_isAt_69 : decode b_Ta_isAt 69 = .ok (.ireturn, 1) := by decide +kernel
theorem d_Ta_isAt_70 : decode b_Ta_isAt 70 = .ok (.iinc 2 1, 3) := by decide +kernel
theorem d_Ta_isAt_73 : decode b_Ta_isAt 73 = .ok (.goto (-45), 3) := by decide +kernel
theorem d_Ta_isAt_76 : decode b_Ta_isAt 76 = .ok (.iconst 1, 1) := by decide +kernel
theorem d_Ta_isAt_77 : decode b_Ta_isAt 77 = .ok (.ireturn, 1) := by decide +kernel
theorem d_Sg_length_0 : decode b_Sg_length 0 = .ok (.aload_n 0, 1) := by decide +kernel
theorem d_Sg_length_1 : decode b_Sg_length 1 = .ok (.getfield 9, 3) := by decide +kernel
theorem d_Sg_length_4 : decode b_Sg_length 4 = .ok (.arraylength, 1) := by decide +kernel
theorem d_Sg_length_5 : decode b_Sg_length 5 = .ok (.aload_n 0, 1) := by decide +kernel
theorem d_Sg_length_6 : decode b_Sg_length 6 = .ok (.invokevirtual 335, 3) := by decide +kernel
theorem d_Sg_length_9 : decode b_Sg_length 9 = .ok (.ishr, 1) := by decide +kernel
theorem d_Sg_length_10 : decode b_Sg_length 10 = .ok (.ireturn, 1) := by decide +kernel
theorem d_Sg_coder_0 : decode b_Sg_coder 0 = .ok (.getstatic 38, 3) := by decide +kernel
theorem d_Sg_coder_3 : decode b_Sg_coder 3 = .ok (.ifCond .eq 10, 3) := by decide +kernel
theorem d_Sg_coder_6 : decode b_Sg_coder 6 = .ok (.aload_n 0, 1) := by decide +kernel
theorem d_Sg_coder_7 : decode b_Sg_coder 7 = .ok (.getfield 15, 3) := by decide +kernel
theorem d_Sg_coder_10 : decode b_Sg_coder 10 = .ok (.goto 4, 3) := by decide +kernel
theorem d_Sg_coder_13 : decode b_Sg_coder 13 = .ok (.iconst 1, 1) := by decide +kernel
theorem d_Sg_coder_14 : decode b_Sg_coder 14 = .ok (.ireturn, 1) := by decide +kernel
theorem d_Sg_charAt_0 : decode b_Sg_charAt 0 = .ok (.aload_n 0, 1) := by decide +kernel
theorem d_Sg_charAt_1 : decode b_Sg_charAt 1 = .ok (.invokevirtual 492, 3) := by decide +kernel
theorem d_Sg_charAt_4 : decode b_Sg_charAt 4 = .ok (.ifCond .eq 12, 3) := by decide +kernel
theorem d_Sg_charAt_7 : decode b_Sg_charAt 7 = .ok (.aload_n 0, 1) := by decide +kernel
theorem d_Sg_charAt_8 : decode b_Sg_charAt 8 = .ok (.getfield 9, 3) := by decide +kernel
theorem d_Sg_charAt_11 : decode b_Sg_charAt 11 = .ok (.iload_n 1, 1) := by decide +kernel
theorem d_Sg_charAt_12 : decode b_Sg_charAt 12 = .ok (.invokestatic 495, 3) := by decide +kernel
theorem d_Sg_charAt_15 : decode b_Sg_charAt 15 = .ok (.ireturn, 1) := by decide +kernel
theorem d_Sg_charAt_16 : decode b_Sg_charAt 16 = .ok (.aload_n 0, 1) := by decide +kernel
theorem d_Sg_charAt_17 : decode b_Sg_charAt 17 = .ok (.getfield 9, 3) := by decide +kernel
theorem d_Sg_charAt_20 : decode b_Sg_charAt 20 = .ok (.iload_n 1, 1) := by decide +kernel
theorem d_Sg_charAt_21 : decode b_Sg_charAt 21 = .ok (.invokestatic 498, 3) := by decide +kernel
theorem d_Sg_charAt_24 : decode b_Sg_charAt 24 = .ok (.ireturn, 1) := by decide +kernel
theorem d_Sg_isLatin1_0 : decode b_Sg_isLatin1 0 = .ok (.getstatic 38, 3) := by decide +kernel
theorem d_Sg_isLatin1_3 : decode b_Sg_isLatin1 3 = .ok (.ifCond .eq 14, 3) := by decide +kernel
theorem d_Sg_isLatin1_6 : decode b_Sg_isLatin1 6 = .ok (.aload_n 0, 1) := by decide +kernel
theorem d_Sg_isLatin1_7 : decode b_Sg_isLatin1 7 = .ok (.getfield 15, 3) := by decide +kernel
theorem d_Sg_isLatin1_10 : decode b_Sg_isLatin1 10 = .ok (.ifCond .ne 7, 3) := by decide +kernel
theorem d_Sg_isLatin1_13 : decode b_Sg_isLatin1 13 = .ok (.iconst 1, 1) := by decide +kernel
theorem d_Sg_isLatin1_14 : decode b_Sg_isLatin1 14 = .ok (.goto 4, 3) := by decide +kernel
theorem d_Sg_isLatin1_17 : decode b_Sg_isLatin1 17 = .ok (.iconst 0, 1) := by decide +kernel
theorem d_Sg_isLatin1_18 : decode b_Sg_isLatin1 18 = .ok (.ireturn, 1) := by decide +kernel
theorem d_S1_charAt_0 : decode b_S1_charAt 0 = .ok (.iload_n 1, 1) := by decide +kernel
theorem d_S1_charAt_1 : decode b_S1_charAt 1 = .ok (.aload_n 0, 1) := by decide +kernel
theorem d_S1_charAt_2 : decode b_S1_charAt 2 = .ok (.arraylength, 1) := by decide +kernel
theorem d_S1_charAt_3 : decode b_S1_charAt 3 = .ok (.invokestatic 9, 3) := by decide +kernel
theorem d_S1_charAt_6 : decode b_S1_charAt 6 = .ok (.aload_n 0, 1) := by decide +kernel
theorem d_S1_charAt_7 : decode b_S1_charAt 7 = .ok (.iload_n 1, 1) := by decide +kernel
theorem d_S1_charAt_8 : decode b_S1_charAt 8 = .ok (.baload, 1) := by decide +kernel
theorem d_S1_charAt_9 : decode b_S1_charAt 9 = .ok (.sipush 255, 3) := by decide +kernel
theorem d_S1_charAt_12 : decode b_S1_charAt 12 = .ok (.iand, 1) := by decide +kernel
theorem d_S1_charAt_13 : decode b_S1_charAt 13 = .ok (.i2c, 1) := by decide +kernel
theorem d_S1_charAt_14 : decode b_S1_charAt 14 = .ok (.ireturn, 1) := by decide +kernel
theorem d_Sg_checkIndex_0 : decode b_Sg_checkIndex 0 = .ok (.iload_n 0, 1) := by decide +kernel
theorem d_Sg_checkIndex_1 : decode b_Sg_checkIndex 1 = .ok (.iload_n 1, 1) := by decide +kernel
theorem d_Sg_checkIndex_2 : decode b_Sg_checkIndex 2 = .ok (.getstatic 1053, 3) := by decide +kernel
theorem d_Sg_checkIndex_5 : decode b_Sg_checkIndex 5 = .ok (.invokestatic 1059, 3) := by decide +kernel
theorem d_Sg_checkIndex_8 : decode b_Sg_checkIndex 8 = .ok (.pop, 1) := by decide +kernel
theorem d_Sg_checkIndex_9 : decode b_Sg_checkIndex 9 = .ok (.return_, 1) := by decide +kernel
theorem d_Pr_checkIndex_0 : decode b_Pr_checkIndex 0 = .ok (.iload_n 0, 1) := by decide +kernel
theorem d_Pr_checkIndex_1 : decode b_Pr_checkIndex 1 = .ok (.ifCond .lt 8, 3) := by decide +kernel
theorem d_Pr_checkIndex_4 : decode b_Pr_checkIndex 4 = .ok (.iload_n 0, 1) := by decide +kernel
theorem d_Pr_checkIndex_5 : decode b_Pr_checkIndex 5 = .ok (.iload_n 1, 1) := by decide +kernel
theorem d_Pr_checkIndex_6 : decode b_Pr_checkIndex 6 = .ok (.if_icmp .lt 10, 3) := by decide +kernel
theorem d_Pr_checkIndex_9 : decode b_Pr_checkIndex 9 = .ok (.aload_n 2, 1) := by decide +kernel
theorem d_Pr_checkIndex_10 : decode b_Pr_checkIndex 10 = .ok (.iload_n 0, 1) := by decide +kernel
theorem d_Pr_checkIndex_11 : decode b_Pr_checkIndex 11 = .ok (.iload_n 1, 1) := by decide +kernel
theorem d_Pr_checkIndex_12 : decode b_Pr_checkIndex 12 = .ok (.invokestatic 95, 3) := by decide +kernel
theorem d_Pr_checkIndex_15 : decode b_Pr_checkIndex 15 = .ok (.athrow, 1) := by decide +kernel
theorem d_Pr_checkIndex_16 : decode b_Pr_checkIndex 16 = .ok (.iload_n 0, 1) := by decide +kernel
theorem d_Pr_checkIndex_17 : decode b_Pr_checkIndex 17 = .ok (.ireturn, 1) := by decide +kernel
theorem d_S6_charAt_0 : decode b_S6_charAt 0 = .ok (.iload_n 1, 1) := by decide +kernel
theorem d_S6_charAt_1 : decode b_S6_charAt 1 = .ok (.aload_n 0, 1) := by decide +kernel
theorem d_S6_charAt_2 : decode b_S6_charAt 2 = .ok (.invokestatic 67, 3) := by decide +kernel
theorem d_S6_charAt_5 : decode b_S6_charAt 5 = .ok (.aload_n 0, 1) := by decide +kernel
theorem d_S6_charAt_6 : decode b_S6_charAt 6 = .ok (.iload_n 1, 1) := by decide +kernel
theorem d_S6_charAt_7 : decode b_S6_charAt 7 = .ok (.invokestatic 71, 3) := by decide +kernel
theorem d_S6_charAt_10 : decode b_S6_charAt 10 = .ok (.ireturn, 1) := by decide +kernel
theorem d_S6_checkIndex_0 : decode b_S6_checkIndex 0 = .ok (.iload_n 0, 1) := by decide +kernel
theorem d_S6_checkIndex_1 : decode b_S6_checkIndex 1 = .ok (.aload_n 1, 1) := by decide +kernel
theorem d_S6_checkIndex_2 : decode b_S6_checkIndex 2 = .ok (.invokestatic 48, 3) := by decide +kernel
theorem d_S6_checkIndex_5 : decode b_S6_checkIndex 5 = .ok (.invokestatic 414, 3) := by decide +kernel
theorem d_S6_checkIndex_8 : decode b_S6_checkIndex 8 = .ok (.return_, 1) := by decide +kernel
theorem d_S6_length_0 : decode b_S6_length 0 = .ok (.aload_n 0, 1) := by decide +kernel
theorem d_S6_length_1 : decode b_S6_length 1 = .ok (.arraylength, 1) := by decide +kernel
theorem d_S6_length_2 : decode b_S6_length 2 = .ok (.iconst 1, 1) := by decide +kernel
theorem d_S6_length_3 : decode b_S6_length 3 = .ok (.ishr, 1) := by decide +kernel
theorem d_S6_length_4 : decode b_S6_length 4 = .ok (.ireturn, 1) := by decide +kernel
theorem d_S6_getChar_0 : decode b_S6_getChar 0 = .ok (.getstatic 44, 3) := by decide +kernel
theorem d_S6_getChar_3 : decode b_S6_getChar 3 = .ok (.ifCond .ne 25, 3) := by decide +kernel
theorem d_S6_getChar_6 : decode b_S6_getChar 6 = .ok (.iload_n 1, 1) := by decide +kernel
theorem d_S6_getChar_7 : decode b_S6_getChar 7 = .ok (.ifCond .lt 11, 3) := by decide +kernel
theorem d_S6_getChar_10 : decode b_S6_getChar 10 = .ok (.iload_n 1, 1) := by decide +kernel
theorem d_S6_getChar_11 : decode b_S6_getChar 11 = .ok (.aload_n 0, 1) := by decide +kernel
theorem d_S6_getChar_12 : decode b_S6_getChar 12 = .ok (.invokestatic 48, 3) := by decide +kernel
theorem d_S6_getChar_15 : decode b_S6_getChar 15 = .ok (.if_icmp .lt 13, 3) := by decide +kernel
theorem d_S6_getChar_18 : decode b_S6_getChar 18 = .ok (.new 52, 3) := by decide +kernel
theorem d_S6_getChar_21 : decode b_S6_getChar 21 = .ok (.dup, 1) := by decide +kernel
theorem d_S6_getChar_22 : decode b_S6_getChar 22 = .ok (.ldc 54, 2) := by decide +kernel
theorem d_S6_getChar_24 : decode b_S6_getChar 24 = .ok (.invokespecial 56, 3) := by decide +kernel
theorem d_S6_getChar_27 : decode b_S6_getChar 27 = .ok (.athrow, 1) := by decide +kernel
theorem d_S6_getChar_28 : decode b_S6_getChar 28 = .ok (.iload_n 1, 1) := by decide +kernel
theorem d_S6_getChar_29 : decode b_S6_getChar 29 = .ok (.iconst 1, 1) := by decide +kernel
theorem d_S6_getChar_30 : decode b_S6_getChar 30 = .ok (.ishl, 1) := by decide +kernel
theorem d_S6_getChar_31 : decode b_S6_getChar 31 = .ok (.istore_n 1, 1) := by decide +kernel
theorem d_S6_getChar_32 : decode b_S6_getChar 32 = .ok (.aload_n 0, 1) := by decide +kernel
theorem d_S6_getChar_33 : decode b_S6_getChar 33 = .ok (.iload_n 1, 1) := by decide +kernel
theorem d_S6_getChar_34 : decode b_S6_getChar 34 = .ok (.iinc 1 1, 3) := by decide +kernel
theorem d_S6_getChar_37 : decode b_S6_getChar 37 = .ok (.baload, 1) := by decide +kernel
theorem d_S6_getChar_38 : decode b_S6_getChar 38 = .ok (.sipush 255, 3) := by decide +kernel
theorem d_S6_getChar_41 : decode b_S6_getChar 41 = .ok (.iand, 1) := by decide +kernel
theorem d_S6_getChar_42 : decode b_S6_getChar 42 = .ok (.getstatic 59, 3) := by decide +kernel
theorem d_S6_getChar_45 : decode b_S6_getChar 45 = .ok (.ishl, 1) := by decide +kernel
theorem d_S6_getChar_46 : decode b_S6_getChar 46 = .ok (.aload_n 0, 1) := by decide +kernel
theorem d_S6_getChar_47 : decode b_S6_getChar 47 = .ok (.iload_n 1, 1) := by decide +kernel
theorem d_S6_getChar_48 : decode b_S6_getChar 48 = .ok (.baload, 1) := by decide +kernel
theorem d_S6_getChar_49 : decode b_S6_getChar 49 = .ok (.sipush 255, 3) := by decide +kernel
theorem d_S6_getChar_52 : decode b_S6_getChar 52 = .ok (.iand, 1) := by decide +kernel
theorem d_S6_getChar_53 : decode b_S6_getChar 53 = .ok (.getstatic 63, 3) := by decide +kernel
theorem d_S6_getChar_56 : decode b_S6_getChar 56 = .ok (.ishl, 1) := by decide +kernel
theorem d_S6_getChar_57 : decode b_S6_getChar 57 = .ok (.ior, 1) := by decide +kernel
theorem d_S6_getChar_58 : decode b_S6_getChar 58 = .ok (.i2c, 1) := by decide +kernel
theorem d_S6_getChar_59 : decode b_S6_getChar 59 = .ok (.ireturn, 1) := by decide +kernel
theorem d_Tx_readFarm_0 : decode b_Tx_readFarm 0 = .ok (.aload_n 2, 1) := by decide +kernel
theorem d_Tx_readFarm_1 : decode b_Tx_readFarm 1 = .ok (.invokevirtual 123, 3) := by decide +kernel
theorem d_Tx_readFarm_4 : decode b_Tx_readFarm 4 = .ok (.ifCond .eq 5, 3) := by decide +kernel
theorem d_Tx_readFarm_7 : decode b_Tx_readFarm 7 = .ok (.iconst 0, 1) := by decide +kernel
theorem d_Tx_readFarm_8 : decode b_Tx_readFarm 8 = .ok (.ireturn, 1) := by decide +kernel
theorem d_Tx_readFarm_9 : decode b_Tx_readFarm 9 = .ok (.aload_n 0, 1) := by decide +kernel
theorem d_Tx_readFarm_10 : decode b_Tx_readFarm 10 = .ok (.getfield 12, 3) := by decide +kernel
theorem d_Tx_readFarm_13 : decode b_Tx_readFarm 13 = .ok (.invokevirtual 32, 3) := by decide +kernel
theorem d_Tx_readFarm_16 : decode b_Tx_readFarm 16 = .ok (.aload_n 0, 1) := by decide +kernel
theorem d_Tx_readFarm_17 : decode b_Tx_readFarm 17 = .ok (.getfield 12, 3) := by decide +kernel
theorem d_Tx_readFarm_20 : decode b_Tx_readFarm 20 = .ok (.ldc 128, 2) := by decide +kernel
theorem d_Tx_readFarm_22 : decode b_Tx_readFarm 22 = .ok (.invokevirtual 55, 3) := by decide +kernel
theorem d_Tx_readFarm_25 : decode b_Tx_readFarm 25 = .ok (.ifCond .ne 5, 3) := by decide +kernel
theorem d_Tx_readFarm_28 : decode b_Tx_readFarm 28 = .ok (.iconst 0, 1) := by decide +kernel
theorem d_Tx_readFarm_29 : decode b_Tx_readFarm 29 = .ok (.ireturn, 1) := by decide +kernel
theorem d_Tx_readFarm_30 : decode b_Tx_readFarm 30 = .ok (.aload_n 0, 1) := by decide +kernel
theorem d_Tx_readFarm_31 : decode b_Tx_readFarm 31 = .ok (.getfield 12, 3) := by decide +kernel
theorem d_Tx_readFarm_34 : decode b_Tx_readFarm 34 = .ok (.invokevirtual 32, 3) := by decide +kernel
theorem d_Tx_readFarm_37 : decode b_Tx_readFarm 37 = .ok (.aload_n 0, 1) := by decide +kernel
theorem d_Tx_readFarm_38 : decode b_Tx_readFarm 38 = .ok (.getfield 12, 3) := by decide +kernel
theorem d_Tx_readFarm_41 : decode b_Tx_readFarm 41 = .ok (.bipush 35, 2) := by decide +kernel
theorem d_Tx_readFarm_43 : decode b_Tx_readFarm 43 = .ok (.invokevirtual 130, 3) := by decide +kernel
theorem d_Tx_readFarm_46 : decode b_Tx_readFarm 46 = .ok (.istore_n 3, 1) := by decide +kernel
theorem d_Tx_readFarm_47 : decode b_Tx_readFarm 47 = .ok (.iload_n 3, 1) := by decide +kernel
theorem d_Tx_readFarm_48 : decode b_Tx_readFarm 48 = .ok (.ifCond .lt 11, 3) := by decide +kernel
theorem d_Tx_readFarm_51 : decode b_Tx_readFarm 51 = .ok (.aload_n 2, 1) := by decide +kernel
theorem d_Tx_readFarm_52 : decode b_Tx_readFarm 52 = .ok (.iload_n 3, 1) := by decide +kernel
theorem d_Tx_readFarm_53 : decode b_Tx_readFarm 53 = .ok (.invokevirtual 134, 3) := by decide +kernel
theorem d_Tx_readFarm_56 : decode b_Tx_readFarm 56 = .ok (.ifCond .lt 5, 3) := by decide +kernel
theorem d_Tx_readFarm_59 : decode b_Tx_readFarm 59 = .ok (.iconst 0, 1) := by decide +kernel
theorem d_Tx_readFarm_60 : decode b_Tx_readFarm 60 = .ok (.ireturn, 1) := by decide +kernel
theorem d_Tx_readFarm_61 : decode b_Tx_readFarm 61 = .ok (.aload_n 0, 1) := by decide +kernel
theorem d_Tx_readFarm_62 : decode b_Tx_readFarm 62 = .ok (.getfield 12, 3) := by decide +kernel
theorem d_Tx_readFarm_65 : decode b_Tx_readFarm 65 = .ok (.invokevirtual 32, 3) := by decide +kernel
theorem d_Tx_readFarm_68 : decode b_Tx_readFarm 68 = .ok (.iconst 0, 1) := by decide +kernel
theorem d_Tx_readFarm_69 : decode b_Tx_readFarm 69 = .ok (.istore 4, 2) := by decide +kernel
theorem d_Tx_readFarm_71 : decode b_Tx_readFarm 71 = .ok (.aload_n 0, 1) := by decide +kernel
theorem d_Tx_readFarm_72 : decode b_Tx_readFarm 72 = .ok (.getfield 12, 3) := by decide +kernel
theorem d_Tx_readFarm_75 : decode b_Tx_readFarm 75 = .ok (.ldc 137, 2) := by decide +kernel
theorem d_Tx_readFarm_77 : decode b_Tx_readFarm 77 = .ok (.invokevirtual 55, 3) := by decide +kernel
theorem d_Tx_readFarm_80 : decode b_Tx_readFarm 80 = .ok (.ifCond .eq 34, 3) := by decide +kernel
theorem d_Tx_readFarm_83 : decode b_Tx_readFarm 83 = .ok (.aload_n 0, 1) := by decide +kernel
theorem d_Tx_readFarm_84 : decode b_Tx_readFarm 84 = .ok (.getfield 12, 3) := by decide +kernel
theorem d_Tx_readFarm_87 : decode b_Tx_readFarm 87 = .ok (.invokevirtual 32, 3) := by decide +kernel
theorem d_Tx_readFarm_90 : decode b_Tx_readFarm 90 = .ok (.aload_n 0, 1) := by decide +kernel
theorem d_Tx_readFarm_91 : decode b_Tx_readFarm 91 = .ok (.getfield 12, 3) := by decide +kernel
theorem d_Tx_readFarm_94 : decode b_Tx_readFarm 94 = .ok (.iconst 5, 1) := by decide +kernel
theorem d_Tx_readFarm_95 : decode b_Tx_readFarm 95 = .ok (.invokevirtual 130, 3) := by decide +kernel
theorem d_Tx_readFarm_98 : decode b_Tx_readFarm 98 = .ok (.istore 4, 2) := by decide +kernel
theorem d_Tx_readFarm_100 : decode b_Tx_readFarm 100 = .ok (.iload 4, 2) := by decide +kernel
theorem d_Tx_readFarm_102 : decode b_Tx_readFarm 102 = .ok (.ifCond .ge 5, 3) := by decide +kernel
theorem d_Tx_readFarm_105 : decode b_Tx_readFarm 105 = .ok (.iconst 0, 1) := by decide +kernel
theorem d_Tx_readFarm_106 : decode b_Tx_readFarm 106 = .ok (.ireturn, 1) := by decide +kernel
theorem d_Tx_readFarm_107 : decode b_Tx_readFarm 107 = .ok (.aload_n 0, 1) := by decide +kernel
theorem d_Tx_readFarm_108 : decode b_Tx_readFarm 108 = .ok (.getfield 12, 3) := by decide +kernel
theorem d_Tx_readFarm_111 : decode b_Tx_readFarm 111 = .ok (.invokevirtual 32, 3) := by decide +kernel
theorem d_Tx_readFarm_114 : decode b_Tx_readFarm 114 = .ok (.aload_n 2, 1) := by decide +kernel
theorem d_Tx_readFarm_115 : decode b_Tx_readFarm 115 = .ok (.iload_n 1, 1) := by decide +kernel
theorem d_Tx_readFarm_116 : decode b_Tx_readFarm 116 = .ok (.iload_n 3, 1) := by decide +kernel
theorem d_Tx_readFarm_117 : decode b_Tx_readFarm 117 = .ok (.iload 4, 2) := by decide +kernel
theorem d_Tx_readFarm_119 : decode b_Tx_readFarm 119 = .ok (.invokevirtual 139, 3) := by decide +kernel
theorem d_Tx_readFarm_122 : decode b_Tx_readFarm 122 = .ok (.pop, 1) := by decide +kernel
theorem d_Tx_readFarm_123 : decode b_Tx_readFarm 123 = .ok (.iconst 1, 1) := by decide +kernel
theorem d_Tx_readFarm_124 : decode b_Tx_readFarm 124 = .ok (.ireturn, 1) := by decide +kernel
theorem d_Ta_numberUpTo_0 : decode b_Ta_numberUpTo 0 = .ok (.aload_n 0, 1) := by decide +kernel
theorem d_Ta_numberUpTo_1 : decode b_Ta_numberUpTo 1 = .ok (.getfield 25, 3) := by decide +kernel
theorem d_Ta_numberUpTo_4 : decode b_Ta_numberUpTo 4 = .ok (.iconst 2, 1) := by decide +kernel
theorem d_Ta_numberUpTo_5 : decode b_Ta_numberUpTo 5 = .ok (.if_icmp .ne 18, 3) := by decide +kernel
theorem d_Ta_numberUpTo_8 : decode b_Ta_numberUpTo 8 = .ok (.aload_n 0, 1) := by decide +kernel
theorem d_Ta_numberUpTo_9 : decode b_Ta_numberUpTo 9 = .ok (.getfield 28, 3) := by decide +kernel
theorem d_Ta_numberUpTo_12 : decode b_Ta_numberUpTo 12 = .ok (.iload_n 1, 1) := by decide +kernel
theorem d_Ta_numberUpTo_13 : decode b_Ta_numberUpTo 13 = .ok (.if_icmp .gt 10, 3) := by decide +kernel
theorem d_Ta_numberUpTo_16 : decode b_Ta_numberUpTo 16 = .ok (.aload_n 0, 1) := by decide +kernel
theorem d_Ta_numberUpTo_17 : decode b_Ta_numberUpTo 17 = .ok (.getfield 28, 3) := by decide +kernel
theorem d_Ta_numberUpTo_20 : decode b_Ta_numberUpTo 20 = .ok (.goto 4, 3) := by decide +kernel
theorem d_Ta_numberUpTo_23 : decode b_Ta_numberUpTo 23 = .ok (.iconst (-1), 1) := by decide +kernel
theorem d_Ta_numberUpTo_24 : decode b_Ta_numberUpTo 24 = .ok (.ireturn, 1) := by decide +kernel
theorem d_Tx_readWall_0 : decode b_Tx_readWall 0 = .ok (.aload_n 0, 1) := by decide +kernel
theorem d_Tx_readWall_1 : decode b_Tx_readWall 1 = .ok (.getfield 12, 3) := by decide +kernel
theorem d_Tx_readWall_4 : decode b_Tx_readWall 4 = .ok (.invokevirtual 32, 3) := by decide +kernel
theorem d_Tx_readWall_7 : decode b_Tx_readWall 7 = .ok (.aload_n 0, 1) := by decide +kernel
theorem d_Tx_readWall_8 : decode b_Tx_readWall 8 = .ok (.getfield 12, 3) := by decide +kernel
theorem d_Tx_readWall_11 : decode b_Tx_readWall 11 = .ok (.bipush 35, 2) := by decide +kernel
theorem d_Tx_readWall_13 : decode b_Tx_readWall 13 = .ok (.invokevirtual 130, 3) := by decide +kernel
theorem d_Tx_readWall_16 : decode b_Tx_readWall 16 = .ok (.istore_n 2, 1) := by decide +kernel
theorem d_Tx_readWall_17 : decode b_Tx_readWall 17 = .ok (.iload_n 2, 1) := by decide +kernel
theorem d_Tx_readWall_18 : decode b_Tx_readWall 18 = .ok (.ifCond .ge 5, 3) := by decide +kernel
theorem d_Tx_readWall_21 : decode b_Tx_readWall 21 = .ok (.iconst 0, 1) := by decide +kernel
theorem d_Tx_readWall_22 : decode b_Tx_readWall 22 = .ok (.ireturn, 1) := by decide +kernel
theorem d_Tx_readWall_23 : decode b_Tx_readWall 23 = .ok (.aload_n 0, 1) := by decide +kernel
theorem d_Tx_readWall_24 : decode b_Tx_readWall 24 = .ok (.getfield 12, 3) := by decide +kernel
theorem d_Tx_readWall_27 : decode b_Tx_readWall 27 = .ok (.invokevirtual 32, 3) := by decide +kernel
theorem d_Tx_readWall_30 : decode b_Tx_readWall 30 = .ok (.iload_n 2, 1) := by decide +kernel
theorem d_Tx_readWall_31 : decode b_Tx_readWall 31 = .ok (.aload_n 0, 1) := by decide +kernel
theorem d_Tx_readWall_32 : decode b_Tx_readWall 32 = .ok (.getfield 12, 3) := by decide +kernel
theorem d_Tx_readWall_35 : decode b_Tx_readWall 35 = .ok (.bipush 35, 2) := by decide +kernel
theorem d_Tx_readWall_37 : decode b_Tx_readWall 37 = .ok (.invokevirtual 130, 3) := by decide +kernel
theorem d_Tx_readWall_40 : decode b_Tx_readWall 40 = .ok (.invokestatic 143, 3) := by decide +kernel
theorem d_Tx_readWall_43 : decode b_Tx_readWall 43 = .ok (.istore_n 3, 1) := by decide +kernel
theorem d_Tx_readWall_44 : decode b_Tx_readWall 44 = .ok (.iload_n 3, 1) := by decide +kernel
theorem d_Tx_readWall_45 : decode b_Tx_readWall 45 = .ok (.ifCond .ge 5, 3) := by decide +kernel
theorem d_Tx_readWall_48 : decode b_Tx_readWall 48 = .ok (.iconst 0, 1) := by decide +kernel
theorem d_Tx_readWall_49 : decode b_Tx_readWall 49 = .ok (.ireturn, 1) := by decide +kernel
theorem d_Tx_readWall_50 : decode b_Tx_readWall 50 = .ok (.aload_n 0, 1) := by decide +kernel
theorem d_Tx_readWall_51 : decode b_Tx_readWall 51 = .ok (.getfield 12, 3) := by decide +kernel
theorem d_Tx_readWall_54 : decode b_Tx_readWall 54 = .ok (.invokevirtual 32, 3) := by decide +kernel
theorem d_Tx_readWall_57 : decode b_Tx_readWall 57 = .ok (.aload_n 1, 1) := by decide +kernel
theorem d_Tx_readWall_58 : decode b_Tx_readWall 58 = .ok (.iload_n 2, 1) := by decide +kernel
theorem d_Tx_readWall_59 : decode b_Tx_readWall 59 = .ok (.iload_n 3, 1) := by decide +kernel
theorem d_Tx_readWall_60 : decode b_Tx_readWall 60 = .ok (.iconst 1, 1) := by decide +kernel
theorem d_Tx_readWall_61 : decode b_Tx_readWall 61 = .ok (.invokevirtual 147, 3) := by decide +kernel
theorem d_Tx_readWall_64 : decode b_Tx_readWall 64 = .ok (.iconst 1, 1) := by decide +kernel
theorem d_Tx_readWall_65 : decode b_Tx_readWall 65 = .ok (.ireturn, 1) := by decide +kernel
theorem d_Tx_readLevel_0 : decode b_Tx_readLevel 0 = .ok (.aload_n 0, 1) := by decide +kernel
theorem d_Tx_readLevel_1 : decode b_Tx_readLevel 1 = .ok (.getfield 12, 3) := by decide +kernel
theorem d_Tx_readLevel_4 : decode b_Tx_readLevel 4 = .ok (.invokevirtual 32, 3) := by decide +kernel
theorem d_Tx_readLevel_7 : decode b_Tx_readLevel 7 = .ok (.aload_n 0, 1) := by decide +kernel
theorem d_Tx_readLevel_8 : decode b_Tx_readLevel 8 = .ok (.getfield 12, 3) := by decide +kernel
theorem d_Tx_readLevel_11 : decode b_Tx_readLevel 11 = .ok (.bipush 35, 2) := by decide +kernel
theorem d_Tx_readLevel_13 : decode b_Tx_readLevel 13 = .ok (.invokevirtual 130, 3) := by decide +kernel
theorem d_Tx_readLevel_16 : decode b_Tx_readLevel 16 = .ok (.istore_n 2, 1) := by decide +kernel
theorem d_Tx_readLevel_17 : decode b_Tx_readLevel 17 = .ok (.iload_n 2, 1) := by decide +kernel
theorem d_Tx_readLevel_18 : decode b_Tx_readLevel 18 = .ok (.iconst 0, 1) := by decide +kernel
theorem d_Tx_readLevel_19 : decode b_Tx_readLevel 19 = .ok (.aload_n 1, 1) := by decide +kernel
theorem d_Tx_readLevel_20 : decode b_Tx_readLevel 20 = .ok (.arraylength, 1) := by decide +kernel
theorem d_Tx_readLevel_21 : decode b_Tx_readLevel 21 = .ok (.iconst 1, 1) := by decide +kernel
theorem d_Tx_readLevel_22 : decode b_Tx_readLevel 22 = .ok (.isub, 1) := by decide +kernel
theorem d_Tx_readLevel_23 : decode b_Tx_readLevel 23 = .ok (.invokestatic 151, 3) := by decide +kernel
theorem d_Tx_readLevel_26 : decode b_Tx_readLevel 26 = .ok (.ifCond .ne 5, 3) := by decide +kernel
theorem d_Tx_readLevel_29 : decode b_Tx_readLevel 29 = .ok (.iconst 0, 1) := by decide +kernel
theorem d_Tx_readLevel_30 : decode b_Tx_readLevel 30 = .ok (.ireturn, 1) := by decide +kernel
theorem d_Tx_readLevel_31 : decode b_Tx_readLevel 31 = .ok (.aload_n 0, 1) := by decide +kernel
theorem d_Tx_readLevel_32 : decode b_Tx_readLevel 32 = .ok (.getfield 12, 3) := by decide +kernel
theorem d_Tx_readLevel_35 : decode b_Tx_readLevel 35 = .ok (.invokevirtual 32, 3) := by decide +kernel
theorem d_Tx_readLevel_38 : decode b_Tx_readLevel 38 = .ok (.aload_n 0, 1) := by decide +kernel
theorem d_Tx_readLevel_39 : decode b_Tx_readLevel 39 = .ok (.getfield 12, 3) := by decide +kernel
theorem d_Tx_readLevel_42 : decode b_Tx_readLevel 42 = .ok (.bipush 99, 2) := by decide +kernel
theorem d_Tx_readLevel_44 : decode b_Tx_readLevel 44 = .ok (.invokevirtual 130, 3) := by decide +kernel
theorem d_Tx_readLevel_47 : decode b_Tx_readLevel 47 = .ok (.istore_n 3, 1) := by decide +kernel
theorem d_Tx_readLevel_48 : decode b_Tx_readLevel 48 = .ok (.iload_n 3, 1) := by decide +kernel
theorem d_Tx_readLevel_49 : decode b_Tx_readLevel 49 = .ok (.ifCond .ge 5, 3) := by decide +kernel
theorem d_Tx_readLevel_52 : decode b_Tx_readLevel 52 = .ok (.iconst 0, 1) := by decide +kernel
theorem d_Tx_readLevel_53 : decode b_Tx_readLevel 53 = .ok (.ireturn, 1) := by decide +kernel
theorem d_Tx_readLevel_54 : decode b_Tx_readLevel 54 = .ok (.aload_n 0, 1) := by decide +kernel
theorem d_Tx_readLevel_55 : decode b_Tx_readLevel 55 = .ok (.getfield 12, 3) := by decide +kernel
theorem d_Tx_readLevel_58 : decode b_Tx_readLevel 58 = .ok (.invokevirtual 32, 3) := by decide +kernel
theorem d_Tx_readLevel_61 : decode b_Tx_readLevel 61 = .ok (.aload_n 1, 1) := by decide +kernel
theorem d_Tx_readLevel_62 : decode b_Tx_readLevel 62 = .ok (.iload_n 2, 1) := by decide +kernel
theorem d_Tx_readLevel_63 : decode b_Tx_readLevel 63 = .ok (.iload_n 3, 1) := by decide +kernel
theorem d_Tx_readLevel_64 : decode b_Tx_readLevel 64 = .ok (.iastore, 1) := by decide +kernel
theorem d_Tx_readLevel_65 : decode b_Tx_readLevel 65 = .ok (.iconst 1, 1) := by decide +kernel
theorem d_Tx_readLevel_66 : decode b_Tx_readLevel 66 = .ok (.ireturn, 1) := by decide +kernel
theorem d_Tx_readVent_0 : decode b_Tx_readVent 0 = .ok (.aload_n 0, 1) := by decide +kernel
theorem d_Tx_readVent_1 : decode b_Tx_readVent 1 = .ok (.getfield 12, 3) := by decide +kernel
theorem d_Tx_readVent_4 : decode b_Tx_readVent 4 = .ok (.invokevirtual 32, 3) := by decide +kernel
theorem d_Tx_readVent_7 : decode b_Tx_readVent 7 = .ok (.aload_n 0, 1) := by decide +kernel
theorem d_Tx_readVent_8 : decode b_Tx_readVent 8 = .ok (.getfield 12, 3) := by decide +kernel
theorem d_Tx_readVent_11 : decode b_Tx_readVent 11 = .ok (.bipush 35, 2) := by decide +kernel
theorem d_Tx_readVent_13 : decode b_Tx_readVent 13 = .ok (.invokevirtual 130, 3) := by decide +kernel
theorem d_Tx_readVent_16 : decode b_Tx_readVent 16 = .ok (.istore_n 2, 1) := by decide +kernel
theorem d_Tx_readVent_17 : decode b_Tx_readVent 17 = .ok (.iload_n 2, 1) := by decide +kernel
theorem d_Tx_readVent_18 : decode b_Tx_readVent 18 = .ok (.ifCond .ge 5, 3) := by decide +kernel
theorem d_Tx_readVent_21 : decode b_Tx_readVent 21 = .ok (.iconst 0, 1) := by decide +kernel
theorem d_Tx_readVent_22 : decode b_Tx_readVent 22 = .ok (.ireturn, 1) := by decide +kernel
theorem d_Tx_readVent_23 : decode b_Tx_readVent 23 = .ok (.aload_n 0, 1) := by decide +kernel
theorem d_Tx_readVent_24 : decode b_Tx_readVent 24 = .ok (.getfield 12, 3) := by decide +kernel
theorem d_Tx_readVent_27 : decode b_Tx_readVent 27 = .ok (.invokevirtual 32, 3) := by decide +kernel
theorem d_Tx_readVent_30 : decode b_Tx_readVent 30 = .ok (.aload_n 1, 1) := by decide +kernel
theorem d_Tx_readVent_31 : decode b_Tx_readVent 31 = .ok (.iload_n 2, 1) := by decide +kernel
theorem d_Tx_readVent_32 : decode b_Tx_readVent 32 = .ok (.putfield 155, 3) := by decide +kernel
theorem d_Tx_readVent_35 : decode b_Tx_readVent 35 = .ok (.iconst 1, 1) := by decide +kernel
theorem d_Tx_readVent_36 : decode b_Tx_readVent 36 = .ok (.ireturn, 1) := by decide +kernel
theorem d_Tx_readTenths_0 : decode b_Tx_readTenths 0 = .ok (.aload_n 0, 1) := by decide +kernel
theorem d_Tx_readTenths_1 : decode b_Tx_readTenths 1 = .ok (.getfield 12, 3) := by decide +kernel
theorem d_Tx_readTenths_4 : decode b_Tx_readTenths 4 = .ok (.invokevirtual 32, 3) := by decide +kernel
theorem d_Tx_readTenths_7 : decode b_Tx_readTenths 7 = .ok (.aload_n 0, 1) := by decide +kernel
theorem d_Tx_readTenths_8 : decode b_Tx_readTenths 8 = .ok (.getfield 12, 3) := by decide +kernel
theorem d_Tx_readTenths_11 : decode b_Tx_readTenths 11 = .ok (.iconst 3, 1) := by decide +kernel
theorem d_Tx_readTenths_12 : decode b_Tx_readTenths 12 = .ok (.invokevirtual 130, 3) := by decide +kernel
theorem d_Tx_readTenths_15 : decode b_Tx_readTenths 15 = .ok (.istore_n 3, 1) := by decide +kernel
theorem d_Tx_readTenths_16 : decode b_Tx_readTenths 16 = .ok (.iload_n 3, 1) := by decide +kernel
theorem d_Tx_readTenths_17 : decode b_Tx_readTenths 17 = .ok (.ifCond .ge 5, 3) := by decide +kernel
theorem d_Tx_readTenths_20 : decode b_Tx_readTenths 20 = .ok (.iconst 0, 1) := by decide +kernel
theorem d_Tx_readTenths_21 : decode b_Tx_readTenths 21 = .ok (.ireturn, 1) := by decide +kernel
theorem d_Tx_readTenths_22 : decode b_Tx_readTenths 22 = .ok (.aload_n 0, 1) := by decide +kernel
theorem d_Tx_readTenths_23 : decode b_Tx_readTenths 23 = .ok (.getfield 12, 3) := by decide +kernel
theorem d_Tx_readTenths_26 : decode b_Tx_readTenths 26 = .ok (.invokevirtual 32, 3) := by decide +kernel
theorem d_Tx_readTenths_29 : decode b_Tx_readTenths 29 = .ok (.bipush 10, 2) := by decide +kernel
theorem d_Tx_readTenths_31 : decode b_Tx_readTenths 31 = .ok (.istore 4, 2) := by decide +kernel
theorem d_Tx_readTenths_33 : decode b_Tx_readTenths 33 = .ok (.iconst 0, 1) := by decide +kernel
theorem d_Tx_readTenths_34 : decode b_Tx_readTenths 34 = .ok (.istore 5, 2) := by decide +kernel
theorem d_Tx_readTenths_36 : decode b_Tx_readTenths 36 = .ok (.iload 5, 2) := by decide +kernel
theorem d_Tx_readTenths_38 : decode b_Tx_readTenths 38 = .ok (.iconst 4, 1) := by decide +kernel
theorem d_Tx_readTenths_39 : decode b_Tx_readTenths 39 = .ok (.if_icmp .ge 64, 3) := by decide +kernel
theorem d_Tx_readTenths_42 : decode b_Tx_readTenths 42 = .ok (.aload_n 0, 1) := by decide +kernel
theorem d_Tx_readTenths_43 : decode b_Tx_readTenths 43 = .ok (.getfield 12, 3) := by decide +kernel
theorem d_Tx_readTenths_46 : decode b_Tx_readTenths 46 = .ok (.iload 4, 2) := by decide +kernel
theorem d_Tx_readTenths_48 : decode b_Tx_readTenths 48 = .ok (.invokevirtual 130, 3) := by decide +kernel
theorem d_Tx_readTenths_51 : decode b_Tx_readTenths 51 = .ok (.istore 6, 2) := by decide +kernel
theorem d_Tx_readTenths_53 : decode b_Tx_readTenths 53 = .ok (.iload 6, 2) := by decide +kernel
theorem d_Tx_readTenths_55 : decode b_Tx_readTenths 55 = .ok (.ifCond .lt 16, 3) := by decide +kernel
theorem d_Tx_readTenths_58 : decode b_Tx_readTenths 58 = .ok (.iload 5, 2) := by decide +kernel
theorem d_Tx_readTenths_60 : decode b_Tx_readTenths 60 = .ok (.iconst 3, 1) := by decide +kernel
theorem d_Tx_readTenths_61 : decode b_Tx_readTenths 61 = .ok (.if_icmp .ne 12, 3) := by decide +kernel
theorem d_Tx_readTenths_64 : decode b_Tx_readTenths 64 = .ok (.iload 6, 2) := by decide +kernel
theorem d_Tx_readTenths_66 : decode b_Tx_readTenths 66 = .ok (.iload 4, 2) := by decide +kernel
theorem d_Tx_readTenths_68 : decode b_Tx_readTenths 68 = .ok (.if_icmp .eq 5, 3) := by decide +kernel
theorem d_Tx_readTenths_71 : decode b_Tx_readTenths 71 = .ok (.iconst 0, 1) := by decide +kernel
theorem d_Tx_readTenths_72 : decode b_Tx_readTenths 72 = .ok (.ireturn, 1) := by decide +kernel
theorem d_Tx_readTenths_73 : decode b_Tx_readTenths 73 = .ok (.aload_n 0, 1) := by decide +kernel
theorem d_Tx_readTenths_74 : decode b_Tx_readTenths 74 = .ok (.getfield 12, 3) := by decide +kernel
theorem d_Tx_readTenths_77 : decode b_Tx_readTenths 77 = .ok (.invokevirtual 32, 3) := by decide +kernel
theorem d_Tx_readTenths_80 : decode b_Tx_readTenths 80 = .ok (.aload_n 2, 1) := by decide +kernel
theorem d_Tx_readTenths_81 : decode b_Tx_readTenths 81 = .ok (.iload_n 1, 1) := by decide +kernel
theorem d_Tx_readTenths_82 : decode b_Tx_readTenths 82 = .ok (.iload_n 3, 1) := by decide +kernel
theorem d_Tx_readTenths_83 : decode b_Tx_readTenths 83 = .ok (.iload 5, 2) := by decide +kernel
theorem d_Tx_readTenths_85 : decode b_Tx_readTenths 85 = .ok (.iload 6, 2) := by decide +kernel
theorem d_Tx_readTenths_87 : decode b_Tx_readTenths 87 = .ok (.invokevirtual 157, 3) := by decide +kernel
theorem d_Tx_readTenths_90 : decode b_Tx_readTenths 90 = .ok (.iload 4, 2) := by decide +kernel
theorem d_Tx_readTenths_92 : decode b_Tx_readTenths 92 = .ok (.iload 6, 2) := by decide +kernel
theorem d_Tx_readTenths_94 : decode b_Tx_readTenths 94 = .ok (.isub, 1) := by decide +kernel
theorem d_Tx_readTenths_95 : decode b_Tx_readTenths 95 = .ok (.istore 4, 2) := by decide +kernel
theorem d_Tx_readTenths_97 : decode b_Tx_readTenths 97 = .ok (.iinc 5 1, 3) := by decide +kernel
theorem d_Tx_readTenths_100 : decode b_Tx_readTenths 100 = .ok (.goto (-64), 3) := by decide +kernel
theorem d_Tx_readTenths_103 : decode b_Tx_readTenths 103 = .ok (.iconst 1, 1) := by decide +kernel
theorem d_Tx_readTenths_104 : decode b_Tx_readTenths 104 = .ok (.ireturn, 1) := by decide +kernel
theorem d_Tx_readDiary_0 : decode b_Tx_readDiary 0 = .ok (.aload_n 0, 1) := by decide +kernel
theorem d_Tx_readDiary_1 : decode b_Tx_readDiary 1 = .ok (.getfield 12, 3) := by decide +kernel
theorem d_Tx_readDiary_4 : decode b_Tx_readDiary 4 = .ok (.invokevirtual 32, 3) := by decide +kernel
theorem d_Tx_readDiary_7 : decode b_Tx_readDiary 7 = .ok (.aload_n 0, 1) := by decide +kernel
theorem d_Tx_readDiary_8 : decode b_Tx_readDiary 8 = .ok (.getfield 12, 3) := by decide +kernel
theorem d_Tx_readDiary_11 : decode b_Tx_readDiary 11 = .ok (.invokevirtual 163, 3) := by decide +kernel
theorem d_Tx_readDiary_14 : decode b_Tx_readDiary 14 = .ok (.ifCond .ne 5, 3) := by decide +kernel
theorem d_Tx_readDiary_17 : decode b_Tx_readDiary 17 = .ok (.iconst 0, 1) := by decide +kernel
theorem d_Tx_readDiary_18 : decode b_Tx_readDiary 18 = .ok (.ireturn, 1) := by decide +kernel
theorem d_Tx_readDiary_19 : decode b_Tx_readDiary 19 = .ok (.aload_n 1, 1) := by decide +kernel
theorem d_Tx_readDiary_20 : decode b_Tx_readDiary 20 = .ok (.iconst 0, 1) := by decide +kernel
theorem d_Tx_readDiary_21 : decode b_Tx_readDiary 21 = .ok (.putfield 166, 3) := by decide +kernel
theorem d_Tx_readDiary_24 : decode b_Tx_readDiary 24 = .ok (.iconst 0, 1) := by decide +kernel
theorem d_Tx_readDiary_25 : decode b_Tx_readDiary 25 = .ok (.istore_n 2, 1) := by decide +kernel
theorem d_Tx_readDiary_26 : decode b_Tx_readDiary 26 = .ok (.iload_n 2, 1) := by decide +kernel
theorem d_Tx_readDiary_27 : decode b_Tx_readDiary 27 = .ok (.bipush 6, 2) := by decide +kernel
theorem d_Tx_readDiary_29 : decode b_Tx_readDiary 29 = .ok (.if_icmp .ge 46, 3) := by decide +kernel
theorem d_Tx_readDiary_32 : decode b_Tx_readDiary 32 = .ok (.aload_n 0, 1) := by decide +kernel
theorem d_Tx_readDiary_33 : decode b_Tx_readDiary 33 = .ok (.getfield 12, 3) := by decide +kernel
theorem d_Tx_readDiary_36 : decode b_Tx_readDiary 36 = .ok (.invokevirtual 163, 3) := by decide +kernel
theorem d_Tx_readDiary_39 : decode b_Tx_readDiary 39 = .ok (.ifCond .eq 36, 3) := by decide +kernel
theorem d_Tx_readDiary_42 : decode b_Tx_readDiary 42 = .ok (.aload_n 0, 1) := by decide +kernel
theorem d_Tx_readDiary_43 : decode b_Tx_readDiary 43 = .ok (.getfield 12, 3) := by decide +kernel
theorem d_Tx_readDiary_46 : decode b_Tx_readDiary 46 = .ok (.iconst 3, 1) := by decide +kernel
theorem d_Tx_readDiary_47 : decode b_Tx_readDiary 47 = .ok (.invokevirtual 130, 3) := by decide +kernel
theorem d_Tx_readDiary_50 : decode b_Tx_readDiary 50 = .ok (.istore_n 3, 1) := by decide +kernel
theorem d_Tx_readDiary_51 : decode b_Tx_readDiary 51 = .ok (.iload_n 3, 1) := by decide +kernel
theorem d_Tx_readDiary_52 : decode b_Tx_readDiary 52 = .ok (.ifCond .ge 5, 3) := by decide +kernel
theorem d_Tx_readDiary_55 : decode b_Tx_readDiary 55 = .ok (.iconst 0, 1) := by decide +kernel
theorem d_Tx_readDiary_56 : decode b_Tx_readDiary 56 = .ok (.ireturn, 1) := by decide +kernel
theorem d_Tx_readDiary_57 : decode b_Tx_readDiary 57 = .ok (.aload_n 1, 1) := by decide +kernel
theorem d_Tx_readDiary_58 : decode b_Tx_readDiary 58 = .ok (.iload_n 3, 1) := by decide +kernel
theorem d_Tx_readDiary_59 : decode b_Tx_readDiary 59 = .ok (.invokevirtual 169, 3) := by decide +kernel
theorem d_Tx_readDiary_62 : decode b_Tx_readDiary 62 = .ok (.aload_n 0, 1) := by decide +kernel
theorem d_Tx_readDiary_63 : decode b_Tx_readDiary 63 = .ok (.getfield 12, 3) := by decide +kernel
theorem d_Tx_readDiary_66 : decode b_Tx_readDiary 66 = .ok (.invokevirtual 32, 3) := by decide +kernel
theorem d_Tx_readDiary_69 : decode b_Tx_readDiary 69 = .ok (.iinc 2 1, 3) := by decide +kernel
theorem d_Tx_readDiary_72 : decode b_Tx_readDiary 72 = .ok (.goto (-46), 3) := by decide +kernel
theorem d_Tx_readDiary_75 : decode b_Tx_readDiary 75 = .ok (.aload_n 0, 1) := by decide +kernel
theorem d_Tx_readDiary_76 : decode b_Tx_readDiary 76 = .ok (.getfield 12, 3) := by decide +kernel
theorem d_Tx_readDiary_79 : decode b_Tx_readDiary 79 = .ok (.invokevirtual 163, 3) := by decide +kernel
theorem d_Tx_readDiary_82 : decode b_Tx_readDiary 82 = .ok (.ifCond .ne 7, 3) := by decide +kernel
theorem d_Tx_readDiary_85 : decode b_Tx_readDiary 85 = .ok (.iconst 1, 1) := by decide +kernel
theorem d_Tx_readDiary_86 : decode b_Tx_readDiary 86 = .ok (.goto 4, 3) := by decide +kernel
theorem d_Tx_readDiary_89 : decode b_Tx_readDiary 89 = .ok (.iconst 0, 1) := by decide +kernel
theorem d_Tx_readDiary_90 : decode b_Tx_readDiary 90 = .ok (.ireturn, 1) := by decide +kernel
theorem d_Ta_isAtNumber_0 : decode b_Ta_isAtNumber 0 = .ok (.aload_n 0, 1) := by decide +kernel
theorem d_Ta_isAtNumber_1 : decode b_Ta_isAtNumber 1 = .ok (.getfield 25, 3) := by decide +kernel
theorem d_Ta_isAtNumber_4 : decode b_Ta_isAtNumber 4 = .ok (.iconst 2, 1) := by decide +kernel
theorem d_Ta_isAtNumber_5 : decode b_Ta_isAtNumber 5 = .ok (.if_icmp .ne 7, 3) := by decide +kernel
theorem d_Ta_isAtNumber_8 : decode b_Ta_isAtNumber 8 = .ok (.iconst 1, 1) := by decide +kernel
theorem d_Ta_isAtNumber_9 : decode b_Ta_isAtNumber 9 = .ok (.goto 4, 3) := by decide +kernel
theorem d_Ta_isAtNumber_12 : decode b_Ta_isAtNumber 12 = .ok (.iconst 0, 1) := by decide +kernel
theorem d_Ta_isAtNumber_13 : decode b_Ta_isAtNumber 13 = .ok (.ireturn, 1) := by decide +kernel
theorem d_Ta_isAtEnd_0 : decode b_Ta_isAtEnd 0 = .ok (.aload_n 0, 1) := by decide +kernel
theorem d_Ta_isAtEnd_1 : decode b_Ta_isAtEnd 1 = .ok (.getfield 25, 3) := by decide +kernel
theorem d_Ta_isAtEnd_4 : decode b_Ta_isAtEnd 4 = .ok (.ifCond .ne 7, 3) := by decide +kernel
theorem d_Ta_isAtEnd_7 : decode b_Ta_isAtEnd 7 = .ok (.iconst 1, 1) := by decide +kernel
theorem d_Ta_isAtEnd_8 : decode b_Ta_isAtEnd 8 = .ok (.goto 4, 3) := by decide +kernel
theorem d_Ta_isAtEnd_11 : decode b_Ta_isAtEnd 11 = .ok (.iconst 0, 1) := by decide +kernel
theorem d_Ta_isAtEnd_12 : decode b_Ta_isAtEnd 12 = .ok (.ireturn, 1) := by decide +kernel
theorem d_Ta_isAtSemicolon_0 : decode b_Ta_isAtSemicolon 0 = .ok (.aload_n 0, 1) := by decide +kernel
theorem d_Ta_isAtSemicolon_1 : decode b_Ta_isAtSemicolon 1 = .ok (.getfield 25, 3) := by decide +kernel
theorem d_Ta_isAtSemicolon_4 : decode b_Ta_isAtSemicolon 4 = .ok (.iconst 3, 1) := by decide +kernel
theorem d_Ta_isAtSemicolon_5 : decode b_Ta_isAtSemicolon 5 = .ok (.if_icmp .ne 7, 3) := by decide +kernel
theorem d_Ta_isAtSemicolon_8 : decode b_Ta_isAtSemicolon 8 = .ok (.iconst 1, 1) := by decide +kernel
theorem d_Ta_isAtSemicolon_9 : decode b_Ta_isAtSemicolon 9 = .ok (.goto 4, 3) := by decide +kernel
theorem d_Ta_isAtSemicolon_12 : decode b_Ta_isAtSemicolon 12 = .ok (.iconst 0, 1) := by decide +kernel
theorem d_Ta_isAtSemicolon_13 : decode b_Ta_isAtSemicolon 13 = .ok (.ireturn, 1) := by decide +kernel
theorem d_X_sheet_0 : decode b_X_sheet 0 = .ok (.iload_n 1, 1) := by decide +kernel
theorem d_X_sheet_1 : decode b_X_sheet 1 = .ok (.invokestatic 297, 3) := by decide +kernel
theorem d_X_sheet_4 : decode b_X_sheet 4 = .ok (.ifCond .eq 25, 3) := by decide +kernel
theorem d_X_sheet_7 : decode b_X_sheet 7 = .ok (.iload_n 2, 1) := by decide +kernel
theorem d_X_sheet_8 : decode b_X_sheet 8 = .ok (.ifCond .eq 27, 3) := by decide +kernel
theorem d_X_sheet_11 : decode b_X_sheet 11 = .ok (.iload_n 2, 1) := by decide +kernel
theorem d_X_sheet_12 : decode b_X_sheet 12 = .ok (.bipush 8, 2) := by decide +kernel
theorem d_X_sheet_14 : decode b_X_sheet 14 = .ok (.if_icmp .eq 21, 3) := by decide +kernel
theorem d_X_sheet_17 : decode b_X_sheet 17 = .ok (.iload_n 2, 1) := by decide +kernel
theorem d_X_sheet_18 : decode b_X_sheet 18 = .ok (.bipush 16, 2) := by decide +kernel
theorem d_X_sheet_20 : decode b_X_sheet 20 = .ok (.if_icmp .eq 15, 3) := by decide +kernel
theorem d_X_sheet_23 : decode b_X_sheet 23 = .ok (.iload_n 2, 1) := by decide +kernel
theorem d_X_sheet_24 : decode b_X_sheet 24 = .ok (.bipush 64, 2) := by decide +kernel
theorem d_X_sheet_26 : decode b_X_sheet 26 = .ok (.if_icmp .eq 9, 3) := by decide +kernel
theorem d_X_sheet_29 : decode b_X_sheet 29 = .ok (.aload_n 0, 1) := by decide +kernel
theorem d_X_sheet_30 : decode b_X_sheet 30 = .ok (.iconst 0, 1) := by decide +kernel
theorem d_X_sheet_31 : decode b_X_sheet 31 = .ok (.invokevirtual 59, 3) := by decide +kernel
theorem d_X_sheet_34 : decode b_X_sheet 34 = .ok (.ireturn, 1) := by decide +kernel
theorem d_X_sheet_35 : decode b_X_sheet 35 = .ok (.iload_n 3, 1) := by decide +kernel
theorem d_X_sheet_36 : decode b_X_sheet 36 = .ok (.ifCond .ge 10, 3) := by decide +kernel
theorem d_X_sheet_39 : decode b_X_sheet 39 = .ok (.aload_n 0, 1) := by decide +kernel
theorem d_X_sheet_40 : decode b_X_sheet 40 = .ok (.bipush 6, 2) := by decide +kernel
theorem d_X_sheet_42 : decode b_X_sheet 42 = .ok (.invokevirtual 59, 3) := by decide +kernel
theorem d_X_sheet_45 : decode b_X_sheet 45 = .ok (.ireturn, 1) := by decide +kernel
theorem d_X_sheet_46 : decode b_X_sheet 46 = .ok (.iload_n 3, 1) := by decide +kernel
theorem d_X_sheet_47 : decode b_X_sheet 47 = .ok (.bipush 40, 2) := by decide +kernel
theorem d_X_sheet_49 : decode b_X_sheet 49 = .ok (.if_icmp .le 9, 3) := by decide +kernel
theorem d_X_sheet_52 : decode b_X_sheet 52 = .ok (.aload_n 0, 1) := by decide +kernel
theorem d_X_sheet_53 : decode b_X_sheet 53 = .ok (.iconst 0, 1) := by decide +kernel
theorem d_X_sheet_54 : decode b_X_sheet 54 = .ok (.invokevirtual 59, 3) := by decide +kernel
theorem d_X_sheet_57 : decode b_X_sheet 57 = .ok (.ireturn, 1) := by decide +kernel
theorem d_X_sheet_58 : decode b_X_sheet 58 = .ok (.aload_n 0, 1) := by decide +kernel
theorem d_X_sheet_59 : decode b_X_sheet 59 = .ok (.getfield 39, 3) := by decide +kernel
theorem d_X_sheet_62 : decode b_X_sheet 62 = .ok (.iload_n 1, 1) := by decide +kernel
theorem d_X_sheet_63 : decode b_X_sheet 63 = .ok (.aaload, 1) := by decide +kernel
theorem d_X_sheet_64 : decode b_X_sheet 64 = .ok (.iload_n 2, 1) := by decide +kernel
theorem d_X_sheet_65 : decode b_X_sheet 65 = .ok (.iload_n 3, 1) := by decide +kernel
theorem d_X_sheet_66 : decode b_X_sheet 66 = .ok (.invokevirtual 300, 3) := by decide +kernel
theorem d_X_sheet_69 : decode b_X_sheet 69 = .ok (.aload_n 0, 1) := by decide +kernel
theorem d_X_sheet_70 : decode b_X_sheet 70 = .ok (.getfield 39, 3) := by decide +kernel
theorem d_X_sheet_73 : decode b_X_sheet 73 = .ok (.iload_n 1, 1) := by decide +kernel
theorem d_X_sheet_74 : decode b_X_sheet 74 = .ok (.aaload, 1) := by decide +kernel
theorem d_X_sheet_75 : decode b_X_sheet 75 = .ok (.getfield 304, 3) := by decide +kernel
theorem d_X_sheet_78 : decode b_X_sheet 78 = .ok (.ireturn, 1) := by decide +kernel
theorem d_X_isSheet_0 : decode b_X_isSheet 0 = .ok (.iload_n 0, 1) := by decide +kernel
theorem d_X_isSheet_1 : decode b_X_isSheet 1 = .ok (.iconst 0, 1) := by decide +kernel
theorem d_X_isSheet_2 : decode b_X_isSheet 2 = .ok (.iconst 3, 1) := by decide +kernel
theorem d_X_isSheet_3 : decode b_X_isSheet 3 = .ok (.invokestatic 55, 3) := by decide +kernel
theorem d_X_isSheet_6 : decode b_X_isSheet 6 = .ok (.ireturn, 1) := by decide +kernel
theorem d_Sh_lay_0 : decode b_Sh_lay 0 = .ok (.aload_n 0, 1) := by decide +kernel
theorem d_Sh_lay_1 : decode b_Sh_lay 1 = .ok (.iload_n 1, 1) := by decide +kernel
theorem d_Sh_lay_2 : decode b_Sh_lay 2 = .ok (.putfield 15, 3) := by decide +kernel
theorem d_Sh_lay_5 : decode b_Sh_lay 5 = .ok (.aload_n 0, 1) := by decide +kernel
theorem d_Sh_lay_6 : decode b_Sh_lay 6 = .ok (.iload_n 1, 1) := by decide +kernel
theorem d_Sh_lay_7 : decode b_Sh_lay 7 = .ok (.ifCond .ne 7, 3) := by decide +kernel
theorem d_Sh_lay_10 : decode b_Sh_lay 10 = .ok (.iconst 0, 1) := by decide +kernel
theorem d_Sh_lay_11 : decode b_Sh_lay 11 = .ok (.goto 4, 3) := by decide +kernel
theorem d_Sh_lay_14 : decode b_Sh_lay 14 = .ok (.iload_n 2, 1) := by decide +kernel
theorem d_Sh_lay_15 : decode b_Sh_lay 15 = .ok (.putfield 19, 3) := by decide +kernel
theorem d_Sh_lay_18 : decode b_Sh_lay 18 = .ok (.iconst 0, 1) := by decide +kernel
theorem d_Sh_lay_19 : decode b_Sh_lay 19 = .ok (.istore_n 3, 1) := by decide +kernel
theorem d_Sh_lay_20 : decode b_Sh_lay 20 = .ok (.iload_n 3, 1) := by decide +kernel
theorem d_Sh_lay_21 : decode b_Sh_lay 21 = .ok (.bipush 40, 2) := by decide +kernel
theorem d_Sh_lay_23 : decode b_Sh_lay 23 = .ok (.if_icmp .ge 16, 3) := by decide +kernel
theorem d_Sh_lay_26 : decode b_Sh_lay 26 = .ok (.aload_n 0, 1) := by decide +kernel
theorem d_Sh_lay_27 : decode b_Sh_lay 27 = .ok (.getfield 9, 3) := by decide +kernel
theorem d_Sh_lay_30 : decode b_Sh_lay 30 = .ok (.iload_n 3, 1) := by decide +kernel
theorem d_Sh_lay_31 : decode b_Sh_lay 31 = .ok (.lconst 0, 1) := by decide +kernel
theorem d_Sh_lay_32 : decode b_Sh_lay 32 = .ok (.lastore, 1) := by decide +kernel
theorem d_Sh_lay_33 : decode b_Sh_lay 33 = .ok (.iinc 3 1, 3) := by decide +kernel
theorem d_Sh_lay_36 : decode b_Sh_lay 36 = .ok (.goto (-16), 3) := by decide +kernel
theorem d_Sh_lay_39 : decode b_Sh_lay 39 = .ok (.return_, 1) := by decide +kernel
theorem d_X_write_0 : decode b_X_write 0 = .ok (.iload_n 1, 1) := by decide +kernel
theorem d_X_write_1 : decode b_X_write 1 = .ok (.invokestatic 297, 3) := by decide +kernel
theorem d_X_write_4 : decode b_X_write 4 = .ok (.ifCond .ne 10, 3) := by decide +kernel
theorem d_X_write_7 : decode b_X_write 7 = .ok (.aload_n 0, 1) := by decide +kernel
theorem d_X_write_8 : decode b_X_write 8 = .ok (.iconst 0, 1) := by decide +kernel
theorem d_X_write_9 : decode b_X_write 9 = .ok (.invokevirtual 59, 3) := by decide +kernel
theorem d_X_write_12 : decode b_X_write 12 = .ok (.i2l, 1) := by decide +kernel
theorem d_X_write_13 : decode b_X_write 13 = .ok (.lreturn, 1) := by decide +kernel
theorem d_X_write_14 : decode b_X_write 14 = .ok (.aload_n 0, 1) := by decide +kernel
theorem d_X_write_15 : decode b_X_write 15 = .ok (.getfield 39, 3) := by decide +kernel
theorem d_X_write_18 : decode b_X_write 18 = .ok (.iload_n 1, 1) := by decide +kernel
theorem d_X_write_19 : decode b_X_write 19 = .ok (.aaload, 1) := by decide +kernel
theorem d_X_write_20 : decode b_X_write 20 = .ok (.invokevirtual 305, 3) := by decide +kernel
theorem d_X_write_23 : decode b_X_write 23 = .ok (.ifCond .eq 10, 3) := by decide +kernel
theorem d_X_write_26 : decode b_X_write 26 = .ok (.aload_n 0, 1) := by decide +kernel
theorem d_X_write_27 : decode b_X_write 27 = .ok (.iconst 5, 1) := by decide +kernel
theorem d_X_write_28 : decode b_X_write 28 = .ok (.invokevirtual 59, 3) := by decide +kernel
theorem d_X_write_31 : decode b_X_write 31 = .ok (.i2l, 1) := by decide +kernel
theorem d_X_write_32 : decode b_X_write 32 = .ok (.lreturn, 1) := by decide +kernel
theorem d_X_write_33 : decode b_X_write 33 = .ok (.iload_n 2, 1) := by decide +kernel
theorem d_X_write_34 : decode b_X_write 34 = .ok (.iconst 0, 1) := by decide +kernel
theorem d_X_write_35 : decode b_X_write 35 = .ok (.aload_n 0, 1) := by decide +kernel
theorem d_X_write_36 : decode b_X_write 36 = .ok (.getfield 39, 3) := by decide +kernel
theorem d_X_write_39 : decode b_X_write 39 = .ok (.iload_n 1, 1) := by decide +kernel
theorem d_X_write_40 : decode b_X_write 40 = .ok (.aaload, 1) := by decide +kernel
theorem d_X_write_41 : decode b_X_write 41 = .ok (.getfield 304, 3) := by decide +kernel
theorem d_X_write_44 : decode b_X_write 44 = .ok (.iconst 1, 1) := by decide +kernel
theorem d_X_write_45 : decode b_X_write 45 = .ok (.isub, 1) := by decide +kernel
theorem d_X_write_46 : decode b_X_write 46 = .ok (.invokestatic 55, 3) := by decide +kernel
theorem d_X_write_49 : decode b_X_write 49 = .ok (.ifCond .ne 10, 3) := by decide +kernel
theorem d_X_write_52 : decode b_X_write 52 = .ok (.aload_n 0, 1) := by decide +kernel
theorem d_X_write_53 : decode b_X_write 53 = .ok (.iconst 0, 1) := by decide +kernel
theorem d_X_write_54 : decode b_X_write 54 = .ok (.invokevirtual 59, 3) := by decide +kernel
theorem d_X_write_57 : decode b_X_write 57 = .ok (.i2l, 1) := by decide +kernel
theorem d_X_write_58 : decode b_X_write 58 = .ok (.lreturn, 1) := by decide +kernel
theorem d_X_write_59 : decode b_X_write 59 = .ok (.aload_n 0, 1) := by decide +kernel
theorem d_X_write_60 : decode b_X_write 60 = .ok (.getfield 39, 3) := by decide +kernel
theorem d_X_write_63 : decode b_X_write 63 = .ok (.iload_n 1, 1) := by decide +kernel
theorem d_X_write_64 : decode b_X_write 64 = .ok (.aaload, 1) := by decide +kernel
theorem d_X_write_65 : decode b_X_write 65 = .ok (.getfield 308, 3) := by decide +kernel
theorem d_X_write_68 : decode b_X_write 68 = .ok (.iload_n 2, 1) := by decide +kernel
theorem d_X_write_69 : decode b_X_write 69 = .ok (.laload, 1) := by decide +kernel
theorem d_X_write_70 : decode b_X_write 70 = .ok (.lstore 5, 2) := by decide +kernel
theorem d_X_write_72 : decode b_X_write 72 = .ok (.aload_n 0, 1) := by decide +kernel
theorem d_X_write_73 : decode b_X_write 73 = .ok (.getfield 39, 3) := by decide +kernel
theorem d_X_write_76 : decode b_X_write 76 = .ok (.iload_n 1, 1) := by decide +kernel
theorem d_X_write_77 : decode b_X_write 77 = .ok (.aaload, 1) := by decide +kernel
theorem d_X_write_78 : decode b_X_write 78 = .ok (.iload_n 2, 1) := by decide +kernel
theorem d_X_write_79 : decode b_X_write 79 = .ok (.lload_n 3, 1) := by decide +kernel
theorem d_X_write_80 : decode b_X_write 80 = .ok (.invokevirtual 311, 3) := by decide +kernel
theorem d_X_write_83 : decode b_X_write 83 = .ok (.lload 5, 2) := by decide +kernel
theorem d_X_write_85 : decode b_X_write 85 = .ok (.lreturn, 1) := by decide +kernel
theorem d_Sh_isMissing_0 : decode b_Sh_isMissing 0 = .ok (.aload_n 0, 1) := by decide +kernel
theorem d_Sh_isMissing_1 : decode b_Sh_isMissing 1 = .ok (.getfield 15, 3) := by decide +kernel
theorem d_Sh_isMissing_4 : decode b_Sh_isMissing 4 = .ok (.ifCond .ne 7, 3) := by decide +kernel
theorem d_Sh_isMissing_7 : decode b_Sh_isMissing 7 = .ok (.iconst 1, 1) := by decide +kernel
theorem d_Sh_isMissing_8 : decode b_Sh_isMissing 8 = .ok (.goto 4, 3) := by decide +kernel
theorem d_Sh_isMissing_11 : decode b_Sh_isMissing 11 = .ok (.iconst 0, 1) := by decide +kernel
theorem d_Sh_isMissing_12 : decode b_Sh_isMissing 12 = .ok (.ireturn, 1) := by decide +kernel
theorem d_Sh_put_0 : decode b_Sh_put 0 = .ok (.iload_n 1, 1) := by decide +kernel
theorem d_Sh_put_1 : decode b_Sh_put 1 = .ok (.iconst 0, 1) := by decide +kernel
theorem d_Sh_put_2 : decode b_Sh_put 2 = .ok (.aload_n 0, 1) := by decide +kernel
theorem d_Sh_put_3 : decode b_Sh_put 3 = .ok (.getfield 19, 3) := by decide +kernel
theorem d_Sh_put_6 : decode b_Sh_put 6 = .ok (.iconst 1, 1) := by decide +kernel
theorem d_Sh_put_7 : decode b_Sh_put 7 = .ok (.isub, 1) := by decide +kernel
theorem d_Sh_put_8 : decode b_Sh_put 8 = .ok (.invokestatic 22, 3) := by decide +kernel
theorem d_Sh_put_11 : decode b_Sh_put 11 = .ok (.ifCond .ne 4, 3) := by decide +kernel
theorem d_Sh_put_14 : decode b_Sh_put 14 = .ok (.return_, 1) := by decide +kernel
theorem d_Sh_put_15 : decode b_Sh_put 15 = .ok (.aload_n 0, 1) := by decide +kernel
theorem d_Sh_put_16 : decode b_Sh_put 16 = .ok (.getfield 15, 3) := by decide +kernel
theorem d_Sh_put_19 : decode b_Sh_put 19 = .ok (.lookupswitch 51 #[(8, 25), (16, 38)], 25) := by decide +kernel
theorem d_Sh_put_44 : decode b_Sh_put 44 = .ok (.aload_n 0, 1) := by decide +kernel
theorem d_Sh_put_45 : decode b_Sh_put 45 = .ok (.getfield 9, 3) := by decide +kernel
theorem d_Sh_put_48 : decode b_Sh_put 48 = .ok (.iload_n 1, 1) := by decide +kernel
theorem d_Sh_put_49 : decode b_Sh_put 49 = .ok (.lload_n 2, 1) := by decide +kernel
theorem d_Sh_put_50 : decode b_Sh_put 50 = .ok (.l2i, 1) := by decide +kernel
theorem d_Sh_put_51 : decode b_Sh_put 51 = .ok (.i2b, 1) := by decide +kernel
theorem d_Sh_put_52 : decode b_Sh_put 52 = .ok (.i2l, 1) := by decide +kernel
theorem d_Sh_put_53 : decode b_Sh_put 53 = .ok (.lastore, 1) := by decide +kernel
theorem d_Sh_put_54 : decode b_Sh_put 54 = .ok (.goto 23, 3) := by decide +kernel
theorem d_Sh_put_57 : decode b_Sh_put 57 = .ok (.aload_n 0, 1) := by decide +kernel
theorem d_Sh_put_58 : decode b_Sh_put 58 = .ok (.getfield 9, 3) := by decide +kernel
theorem d_Sh_put_61 : decode b_Sh_put 61 = .ok (.iload_n 1, 1) := by decide +kernel
theorem d_Sh_put_62 : decode b_Sh_put 62 = .ok (.lload_n 2, 1) := by decide +kernel
theorem d_Sh_put_63 : decode b_Sh_put 63 = .ok (.l2i, 1) := by decide +kernel
theorem d_Sh_put_64 : decode b_Sh_put 64 = .ok (.i2s, 1) := by decide +kernel
theorem d_Sh_put_65 : decode b_Sh_put 65 = .ok (.i2l, 1) := by decide +kernel
theorem d_Sh_put_66 : decode b_Sh_put 66 = .ok (.lastore, 1) := by decide +kernel
theorem d_Sh_put_67 : decode b_Sh_put 67 = .ok (.goto 10, 3) := by decide +kernel
theorem d_Sh_put_70 : decode b_Sh_put 70 = .ok (.aload_n 0, 1) := by decide +kernel
theorem d_Sh_put_71 : decode b_Sh_put 71 = .ok (.getfield 9, 3) := by decide +kernel
theorem d_Sh_put_74 : decode b_Sh_put 74 = .ok (.iload_n 1, 1) := by decide +kernel
theorem d_Sh_put_75 : decode b_Sh_put 75 = .ok (.lload_n 2, 1) := by decide +kernel
theorem d_Sh_put_76 : decode b_Sh_put 76 = .ok (.lastore, 1) := by decide +kernel
theorem d_Sh_put_77 : decode b_Sh_put 77 = .ok (.return_, 1) := by decide +kernel
theorem d_X_copy_0 : decode b_X_copy 0 = .ok (.iload_n 1, 1) := by decide +kernel
theorem d_X_copy_1 : decode b_X_copy 1 = .ok (.invokestatic 297, 3) := by decide +kernel
theorem d_X_copy_4 : decode b_X_copy 4 = .ok (.ifCond .eq 10, 3) := by decide +kernel
theorem d_X_copy_7 : decode b_X_copy 7 = .ok (.iload_n 3, 1) := by decide +kernel
theorem d_X_copy_8 : decode b_X_copy 8 = .ok (.invokestatic 297, 3) := by decide +kernel
theorem d_X_copy_11 : decode b_X_copy 11 = .ok (.ifCond .ne 9, 3) := by decide +kernel
theorem d_X_copy_14 : decode b_X_copy 14 = .ok (.aload_n 0, 1) := by decide +kernel
theorem d_X_copy_15 : decode b_X_copy 15 = .ok (.iconst 0, 1) := by decide +kernel
theorem d_X_copy_16 : decode b_X_copy 16 = .ok (.invokevirtual 59, 3) := by decide +kernel
theorem d_X_copy_19 : decode b_X_copy 19 = .ok (.ireturn, 1) := by decide +kernel
theorem d_X_copy_20 : decode b_X_copy 20 = .ok (.aload_n 0, 1) := by decide +kernel
theorem d_X_copy_21 : decode b_X_copy 21 = .ok (.getfield 39, 3) := by decide +kernel
theorem d_X_copy_24 : decode b_X_copy 24 = .ok (.iload_n 1, 1) := by decide +kernel
theorem d_X_copy_25 : decode b_X_copy 25 = .ok (.aaload, 1) := by decide +kernel
theorem d_X_copy_26 : decode b_X_copy 26 = .ok (.invokevirtual 305, 3) := by decide +kernel
theorem d_X_copy_29 : decode b_X_copy 29 = .ok (.ifCond .ne 15, 3) := by decide +kernel
theorem d_X_copy_32 : decode b_X_copy 32 = .ok (.aload_n 0, 1) := by decide +kernel
theorem d_X_copy_33 : decode b_X_copy 33 = .ok (.getfield 39, 3) := by decide +kernel
theorem d_X_copy_36 : decode b_X_copy 36 = .ok (.iload_n 3, 1) := by decide +kernel
theorem d_X_copy_37 : decode b_X_copy 37 = .ok (.aaload, 1) := by decide +kernel
theorem d_X_copy_38 : decode b_X_copy 38 = .ok (.invokevirtual 305, 3) := by decide +kernel
theorem d_X_copy_41 : decode b_X_copy 41 = .ok (.ifCond .eq 9, 3) := by decide +kernel
theorem d_X_copy_44 : decode b_X_copy 44 = .ok (.aload_n 0, 1) := by decide +kernel
theorem d_X_copy_45 : decode b_X_copy 45 = .ok (.iconst 5, 1) := by decide +kernel
theorem d_X_copy_46 : decode b_X_copy 46 = .ok (.invokevirtual 59, 3) := by decide +kernel
theorem d_X_copy_49 : decode b_X_copy 49 = .ok (.ireturn, 1) := by decide +kernel
theorem d_X_copy_50 : decode b_X_copy 50 = .ok (.aload_n 0, 1) := by decide +kernel
theorem d_X_copy_51 : decode b_X_copy 51 = .ok (.getfield 39, 3) := by decide +kernel
theorem d_X_copy_54 : decode b_X_copy 54 = .ok (.iload_n 1, 1) := by decide +kernel
theorem d_X_copy_55 : decode b_X_copy 55 = .ok (.aaload, 1) := by decide +kernel
theorem d_X_copy_56 : decode b_X_copy 56 = .ok (.getfield 315, 3) := by decide +kernel
theorem d_X_copy_59 : decode b_X_copy 59 = .ok (.aload_n 0, 1) := by decide +kernel
theorem d_X_copy_60 : decode b_X_copy 60 = .ok (.getfield 39, 3) := by decide +kernel
theorem d_X_copy_63 : decode b_X_copy 63 = .ok (.iload_n 3, 1) := by decide +kernel
theorem d_X_copy_64 : decode b_X_copy 64 = .ok (.aaload, 1) := by decide +kernel
theorem d_X_copy_65 : decode b_X_copy 65 = .ok (.getfield 315, 3) := by decide +kernel
theorem d_X_copy_68 : decode b_X_copy 68 = .ok (.if_icmp .eq 9, 3) := by decide +kernel
theorem d_X_copy_71 : decode b_X_copy 71 = .ok (.aload_n 0, 1) := by decide +kernel
theorem d_X_copy_72 : decode b_X_copy 72 = .ok (.iconst 2, 1) := by decide +kernel
theorem d_X_copy_73 : decode b_X_copy 73 = .ok (.invokevirtual 59, 3) := by decide +kernel
theorem d_X_copy_76 : decode b_X_copy 76 = .ok (.ireturn, 1) := by decide +kernel
theorem d_X_copy_77 : decode b_X_copy 77 = .ok (.aload_n 0, 1) := by decide +kernel
theorem d_X_copy_78 : decode b_X_copy 78 = .ok (.getfield 39, 3) := by decide +kernel
theorem d_X_copy_81 : decode b_X_copy 81 = .ok (.iload_n 1, 1) := by decide +kernel
theorem d_X_copy_82 : decode b_X_copy 82 = .ok (.aaload, 1) := by decide +kernel
theorem d_X_copy_83 : decode b_X_copy 83 = .ok (.iload_n 2, 1) := by decide +kernel
theorem d_X_copy_84 : decode b_X_copy 84 = .ok (.iload 5, 2) := by decide +kernel
theorem d_X_copy_86 : decode b_X_copy 86 = .ok (.invokevirtual 318, 3) := by decide +kernel
theorem d_X_copy_89 : decode b_X_copy 89 = .ok (.ifCond .eq 19, 3) := by decide +kernel
theorem d_X_copy_92 : decode b_X_copy 92 = .ok (.aload_n 0, 1) := by decide +kernel
theorem d_X_copy_93 : decode b_X_copy 93 = .ok (.getfield 39, 3) := by decide +kernel
theorem d_X_copy_96 : decode b_X_copy 96 = .ok (.iload_n 3, 1) := by decide +kernel
theorem d_X_copy_97 : decode b_X_copy 97 = .ok (.aaload, 1) := by decide +kernel
theorem d_X_copy_98 : decode b_X_copy 98 = .ok (.iload 4, 2) := by decide +kernel
theorem d_X_copy_100 : decode b_X_copy 100 = .ok (.iload 5, 2) := by decide +kernel
theorem d_X_copy_102 : decode b_X_copy 102 = .ok (.invokevirtual 318, 3) := by decide +kernel
theorem d_X_copy_105 : decode b_X_copy 105 = .ok (.ifCond .ne 9, 3) := by decide +kernel
theorem d_X_copy_108 : decode b_X_copy 108 = .ok (.aload_n 0, 1) := by decide +kernel
theorem d_X_copy_109 : decode b_X_copy 109 = .ok (.iconst 0, 1) := by decide +kernel
theorem d_X_copy_110 : decode b_X_copy 110 = .ok (.invokevirtual 59, 3) := by decide +kernel
theorem d_X_copy_113 : decode b_X_copy 113 = .ok (.ireturn, 1) := by decide +kernel
theorem d_X_copy_114 : decode b_X_copy 114 = .ok (.aload_n 0, 1) := by decide +kernel
theorem d_X_copy_115 : decode b_X_copy 115 = .ok (.getfield 39, 3) := by decide +kernel
theorem d_X_copy_118 : decode b_X_copy 118 = .ok (.iload_n 1, 1) := by decide +kernel
theorem d_X_copy_119 : decode b_X_copy 119 = .ok (.aaload, 1) := by decide +kernel
theorem d_X_copy_120 : decode b_X_copy 120 = .ok (.getfield 308, 3) := by decide +kernel
theorem d_X_copy_123 : decode b_X_copy 123 = .ok (.iload_n 2, 1) := by decide +kernel
theorem d_X_copy_124 : decode b_X_copy 124 = .ok (.aload_n 0, 1) := by decide +kernel
theorem d_X_copy_125 : decode b_X_copy 125 = .ok (.getfield 39, 3) := by decide +kernel
theorem d_X_copy_128 : decode b_X_copy 128 = .ok (.iload_n 3, 1) := by decide +kernel
theorem d_X_copy_129 : decode b_X_copy 129 = .ok (.aaload, 1) := by decide +kernel
theorem d_X_copy_130 : decode b_X_copy 130 = .ok (.getfield 308, 3) := by decide +kernel
theorem d_X_copy_133 : decode b_X_copy 133 = .ok (.iload 4, 2) := by decide +kernel
theorem d_X_copy_135 : decode b_X_copy 135 = .ok (.iload 5, 2) := by decide +kernel
theorem d_X_copy_137 : decode b_X_copy 137 = .ok (.invokestatic 321, 3) := by decide +kernel
theorem d_X_copy_140 : decode b_X_copy 140 = .ok (.iload 5, 2) := by decide +kernel
theorem d_X_copy_142 : decode b_X_copy 142 = .ok (.ireturn, 1) := by decide +kernel
theorem d_Sh_hasRun_0 : decode b_Sh_hasRun 0 = .ok (.iload_n 1, 1) := by decide +kernel
theorem d_Sh_hasRun_1 : decode b_Sh_hasRun 1 = .ok (.ifCond .lt 21, 3) := by decide +kernel
theorem d_Sh_hasRun_4 : decode b_Sh_hasRun 4 = .ok (.iload_n 2, 1) := by decide +kernel
theorem d_Sh_hasRun_5 : decode b_Sh_hasRun 5 = .ok (.ifCond .lt 17, 3) := by decide +kernel
theorem d_Sh_hasRun_8 : decode b_Sh_hasRun 8 = .ok (.iload_n 2, 1) := by decide +kernel
theorem d_Sh_hasRun_9 : decode b_Sh_hasRun 9 = .ok (.aload_n 0, 1) := by decide +kernel
theorem d_Sh_hasRun_10 : decode b_Sh_hasRun 10 = .ok (.getfield 19, 3) := by decide +kernel
theorem d_Sh_hasRun_13 : decode b_Sh_hasRun 13 = .ok (.iload_n 1, 1) := by decide +kernel
theorem d_Sh_hasRun_14 : decode b_Sh_hasRun 14 = .ok (.isub, 1) := by decide +kernel
theorem d_Sh_hasRun_15 : decode b_Sh_hasRun 15 = .ok (.if_icmp .gt 7, 3) := by decide +kernel
theorem d_Sh_hasRun_18 : decode b_Sh_hasRun 18 = .ok (.iconst 1, 1) := by decide +kernel
theorem d_Sh_hasRun_19 : decode b_Sh_hasRun 19 = .ok (.goto 4, 3) := by decide +kernel
theorem d_Sh_hasRun_22 : decode b_Sh_hasRun 22 = .ok (.iconst 0, 1) := by decide +kernel
theorem d_Sh_hasRun_23 : decode b_Sh_hasRun 23 = .ok (.ireturn, 1) := by decide +kernel
theorem d_X_lays_0 : decode b_X_lays 0 = .ok (.iload_n 1, 1) := by decide +kernel
theorem d_X_lays_1 : decode b_X_lays 1 = .ok (.invokestatic 297, 3) := by decide +kernel
theorem d_X_lays_4 : decode b_X_lays 4 = .ok (.ifCond .ne 9, 3) := by decide +kernel
theorem d_X_lays_7 : decode b_X_lays 7 = .ok (.aload_n 0, 1) := by decide +kernel
theorem d_X_lays_8 : decode b_X_lays 8 = .ok (.iconst 0, 1) := by decide +kernel
theorem d_X_lays_9 : decode b_X_lays 9 = .ok (.invokevirtual 59, 3) := by decide +kernel
theorem d_X_lays_12 : decode b_X_lays 12 = .ok (.ireturn, 1) := by decide +kernel
theorem d_X_lays_13 : decode b_X_lays 13 = .ok (.aload_n 0, 1) := by decide +kernel
theorem d_X_lays_14 : decode b_X_lays 14 = .ok (.getfield 39, 3) := by decide +kernel
theorem d_X_lays_17 : decode b_X_lays 17 = .ok (.iload_n 1, 1) := by decide +kernel
theorem d_X_lays_18 : decode b_X_lays 18 = .ok (.aaload, 1) := by decide +kernel
theorem d_X_lays_19 : decode b_X_lays 19 = .ok (.invokevirtual 305, 3) := by decide +kernel
theorem d_X_lays_22 : decode b_X_lays 22 = .ok (.ifCond .eq 9, 3) := by decide +kernel
theorem d_X_lays_25 : decode b_X_lays 25 = .ok (.aload_n 0, 1) := by decide +kernel
theorem d_X_lays_26 : decode b_X_lays 26 = .ok (.iconst 5, 1) := by decide +kernel
theorem d_X_lays_27 : decode b_X_lays 27 = .ok (.invokevirtual 59, 3) := by decide +kernel
theorem d_X_lays_30 : decode b_X_lays 30 = .ok (.ireturn, 1) := by decide +kernel
theorem d_X_lays_31 : decode b_X_lays 31 = .ok (.iconst 0, 1) := by decide +kernel
theorem d_X_lays_32 : decode b_X_lays 32 = .ok (.istore_n 2, 1) := by decide +kernel
theorem d_X_lays_33 : decode b_X_lays 33 = .ok (.iconst 0, 1) := by decide +kernel
theorem d_X_lays_34 : decode b_X_lays 34 = .ok (.istore_n 3, 1) := by decide +kernel
theorem d_X_lays_35 : decode b_X_lays 35 = .ok (.iload_n 3, 1) := by decide +kernel
theorem d_X_lays_36 : decode b_X_lays 36 = .ok (.bipush 36, 2) := by decide +kernel
theorem d_X_lays_38 : decode b_X_lays 38 = .ok (.if_icmp .ge 69, 3) := by decide +kernel
theorem d_X_lays_41 : decode b_X_lays 41 = .ok (.iload_n 3, 1) := by decide +kernel
theorem d_X_lays_42 : decode b_X_lays 42 = .ok (.aload_n 0, 1) := by decide +kernel
theorem d_X_lays_43 : decode b_X_lays 43 = .ok (.getfield 39, 3) := by decide +kernel
theorem d_X_lays_46 : decode b_X_lays 46 = .ok (.iload_n 1, 1) := by decide +kernel
theorem d_X_lays_47 : decode b_X_lays 47 = .ok (.aaload, 1) := by decide +kernel
theorem d_X_lays_48 : decode b_X_lays 48 = .ok (.getfield 304, 3) := by decide +kernel
theorem d_X_lays_51 : decode b_X_lays 51 = .ok (.if_icmp .ge 56, 3) := by decide +kernel
theorem d_X_lays_54 : decode b_X_lays 54 = .ok (.aload_n 0, 1) := by decide +kernel
theorem d_X_lays_55 : decode b_X_lays 55 = .ok (.getfield 39, 3) := by decide +kernel
theorem d_X_lays_58 : decode b_X_lays 58 = .ok (.iload_n 1, 1) := by decide +kernel
theorem d_X_lays_59 : decode b_X_lays 59 = .ok (.aaload, 1) := by decide +kernel
theorem d_X_lays_60 : decode b_X_lays 60 = .ok (.getfield 308, 3) := by decide +kernel
theorem d_X_lays_63 : decode b_X_lays 63 = .ok (.iload_n 3, 1) := by decide +kernel
theorem d_X_lays_64 : decode b_X_lays 64 = .ok (.laload, 1) := by decide +kernel
theorem d_X_lays_65 : decode b_X_lays 65 = .ok (.lstore 4, 2) := by decide +kernel
theorem d_X_lays_67 : decode b_X_lays 67 = .ok (.lload 4, 2) := by decide +kernel
theorem d_X_lays_69 : decode b_X_lays 69 = .ok (.lconst 0, 1) := by decide +kernel
theorem d_X_lays_70 : decode b_X_lays 70 = .ok (.lcmp, 1) := by decide +kernel
theorem d_X_lays_71 : decode b_X_lays 71 = .ok (.ifCond .lt 30, 3) := by decide +kernel
theorem d_X_lays_74 : decode b_X_lays 74 = .ok (.lload 4, 2) := by decide +kernel
theorem d_X_lays_76 : decode b_X_lays 76 = .ok (.ldc2_w 327, 3) := by decide +kernel
theorem d_X_lays_79 : decode b_X_lays 79 = .ok (.lcmp, 1) := by decide +kernel
theorem d_X_lays_80 : decode b_X_lays 80 = .ok (.ifCond .gt 21, 3) := by decide +kernel
theorem d_X_lays_83 : decode b_X_lays 83 = .ok (.aload_n 0, 1) := by decide +kernel
theorem d_X_lays_84 : decode b_X_lays 84 = .ok (.getfield 10, 3) := by decide +kernel
theorem d_X_lays_87 : decode b_X_lays 87 = .ok (.getfield 63, 3) := by decide +kernel
theorem d_X_lays_90 : decode b_X_lays 90 = .ok (.getfield 67, 3) := by decide +kernel
theorem d_X_lays_93 : decode b_X_lays 93 = .ok (.iload_n 3, 1) := by decide +kernel
theorem d_X_lays_94 : decode b_X_lays 94 = .ok (.lload 4, 2) := by decide +kernel
theorem d_X_lays_96 : decode b_X_lays 96 = .ok (.l2i, 1) := by decide +kernel
theorem d_X_lays_97 : decode b_X_lays 97 = .ok (.iastore, 1) := by decide +kernel
theorem d_X_lays_98 : decode b_X_lays 98 = .ok (.iinc 2 1, 3) := by decide +kernel
theorem d_X_lays_101 : decode b_X_lays 101 = .ok (.iinc 3 1, 3) := by decide +kernel
theorem d_X_lays_104 : decode b_X_lays 104 = .ok (.goto (-69), 3) := by decide +kernel
theorem d_X_lays_107 : decode b_X_lays 107 = .ok (.iload_n 2, 1) := by decide +kernel
theorem d_X_lays_108 : decode b_X_lays 108 = .ok (.ireturn, 1) := by decide +kernel
theorem d_X_book_0 : decode b_X_book 0 = .ok (.iload_n 1, 1) := by decide +kernel
theorem d_X_book_1 : decode b_X_book 1 = .ok (.invokestatic 297, 3) := by decide +kernel
theorem d_X_book_4 : decode b_X_book 4 = .ok (.ifCond .ne 9, 3) := by decide +kernel
theorem d_X_book_7 : decode b_X_book 7 = .ok (.aload_n 0, 1) := by decide +kernel
theorem d_X_book_8 : decode b_X_book 8 = .ok (.iconst 0, 1) := by decide +kernel
theorem d_X_book_9 : decode b_X_book 9 = .ok (.invokevirtual 59, 3) := by decide +kernel
theorem d_X_book_12 : decode b_X_book 12 = .ok (.ireturn, 1) := by decide +kernel
theorem d_X_book_13 : decode b_X_book 13 = .ok (.aload_n 0, 1) := by decide +kernel
theorem d_X_book_14 : decode b_X_book 14 = .ok (.getfield 39, 3) := by decide +kernel
theorem d_X_book_17 : decode b_X_book 17 = .ok (.iload_n 1, 1) := by decide +kernel
theorem d_X_book_18 : decode b_X_book 18 = .ok (.aaload, 1) := by decide +kernel
theorem d_X_book_19 : decode b_X_book 19 = .ok (.invokevirtual 305, 3) := by decide +kernel
theorem d_X_book_22 : decode b_X_book 22 = .ok (.ifCond .eq 9, 3) := by decide +kernel
theorem d_X_book_25 : decode b_X_book 25 = .ok (.aload_n 0, 1) := by decide +kernel
theorem d_X_book_26 : decode b_X_book 26 = .ok (.iconst 5, 1) := by decide +kernel
theorem d_X_book_27 : decode b_X_book 27 = .ok (.invokevirtual 59, 3) := by decide +kernel
theorem d_X_book_30 : decode b_X_book 30 = .ok (.ireturn, 1) := by decide +kernel
theorem d_X_book_31 : decode b_X_book 31 = .ok (.aload_n 0, 1) := by decide +kernel
theorem d_X_book_32 : decode b_X_book 32 = .ok (.getfield 10, 3) := by decide +kernel
theorem d_X_book_35 : decode b_X_book 35 = .ok (.getfield 75, 3) := by decide +kernel
theorem d_X_book_38 : decode b_X_book 38 = .ok (.getfield 329, 3) := by decide +kernel
theorem d_X_book_41 : decode b_X_book 41 = .ok (.aload_n 0, 1) := by decide +kernel
theorem d_X_book_42 : decode b_X_book 42 = .ok (.getfield 39, 3) := by decide +kernel
theorem d_X_book_45 : decode b_X_book 45 = .ok (.iload_n 1, 1) := by decide +kernel
theorem d_X_book_46 : decode b_X_book 46 = .ok (.aaload, 1) := by decide +kernel
theorem d_X_book_47 : decode b_X_book 47 = .ok (.getfield 304, 3) := by decide +kernel
theorem d_X_book_50 : decode b_X_book 50 = .ok (.invokestatic 154, 3) := by decide +kernel
theorem d_X_book_53 : decode b_X_book 53 = .ok (.istore_n 2, 1) := by decide +kernel
theorem d_X_book_54 : decode b_X_book 54 = .ok (.iconst 0, 1) := by decide +kernel
theorem d_X_book_55 : decode b_X_book 55 = .ok (.istore_n 3, 1) := by decide +kernel
theorem d_X_book_56 : decode b_X_book 56 = .ok (.iload_n 3, 1) := by decide +kernel
theorem d_X_book_57 : decode b_X_book 57 = .ok (.iload_n 2, 1) := by decide +kernel
theorem d_X_book_58 : decode b_X_book 58 = .ok (.if_icmp .ge 32, 3) := by decide +kernel
theorem d_X_book_61 : decode b_X_book 61 = .ok (.aload_n 0, 1) := by decide +kernel
theorem d_X_book_62 : decode b_X_book 62 = .ok (.getfield 39, 3) := by decide +kernel
theorem d_X_book_65 : decode b_X_book 65 = .ok (.iload_n 1, 1) := by decide +kernel
theorem d_X_book_66 : decode b_X_book 66 = .ok (.aaload, 1) := by decide +kernel
theorem d_X_book_67 : decode b_X_book 67 = .ok (.iload_n 3, 1) := by decide +kernel
theorem d_X_book_68 : decode b_X_book 68 = .ok (.aload_n 0, 1) := by decide +kernel
theorem d_X_book_69 : decode b_X_book 69 = .ok (.getfield 10, 3) := by decide +kernel
theorem d_X_book_72 : decode b_X_book 72 = .ok (.getfield 75, 3) := by decide +kernel
theorem d_X_book_75 : decode b_X_book 75 = .ok (.getfield 129, 3) := by decide +kernel
theorem d_X_book_78 : decode b_X_book 78 = .ok (.iload_n 3, 1) := by decide +kernel
theorem d_X_book_79 : decode b_X_book 79 = .ok (.iaload, 1) := by decide +kernel
theorem d_X_book_80 : decode b_X_book 80 = .ok (.i2l, 1) := by decide +kernel
theorem d_X_book_81 : decode b_X_book 81 = .ok (.invokevirtual 311, 3) := by decide +kernel
theorem d_X_book_84 : decode b_X_book 84 = .ok (.iinc 3 1, 3) := by decide +kernel
theorem d_X_book_87 : decode b_X_book 87 = .ok (.goto (-31), 3) := by decide +kernel
theorem d_X_book_90 : decode b_X_book 90 = .ok (.iload_n 2, 1) := by decide +kernel
theorem d_X_book_91 : decode b_X_book 91 = .ok (.ireturn, 1) := by decide +kernel
theorem d_X_read_0 : decode b_X_read 0 = .ok (.iload_n 1, 1) := by decide +kernel
theorem d_X_read_1 : decode b_X_read 1 = .ok (.invokestatic 297, 3) := by decide +kernel
theorem d_X_read_4 : decode b_X_read 4 = .ok (.ifCond .ne 9, 3) := by decide +kernel
theorem d_X_read_7 : decode b_X_read 7 = .ok (.aload_n 0, 1) := by decide +kernel
theorem d_X_read_8 : decode b_X_read 8 = .ok (.iconst 0, 1) := by decide +kernel
theorem d_X_read_9 : decode b_X_read 9 = .ok (.invokevirtual 59, 3) := by decide +kernel
theorem d_X_read_12 : decode b_X_read 12 = .ok (.ireturn, 1) := by decide +kernel
theorem d_X_read_13 : decode b_X_read 13 = .ok (.aload_n 0, 1) := by decide +kernel
theorem d_X_read_14 : decode b_X_read 14 = .ok (.getfield 39, 3) := by decide +kernel
theorem d_X_read_17 : decode b_X_read 17 = .ok (.iload_n 1, 1) := by decide +kernel
theorem d_X_read_18 : decode b_X_read 18 = .ok (.aaload, 1) := by decide +kernel
theorem d_X_read_19 : decode b_X_read 19 = .ok (.invokevirtual 305, 3) := by decide +kernel
theorem d_X_read_22 : decode b_X_read 22 = .ok (.ifCond .eq 9, 3) := by decide +kernel
theorem d_X_read_25 : decode b_X_read 25 = .ok (.aload_n 0, 1) := by decide +kernel
theorem d_X_read_26 : decode b_X_read 26 = .ok (.iconst 5, 1) := by decide +kernel
theorem d_X_read_27 : decode b_X_read 27 = .ok (.invokevirtual 59, 3) := by decide +kernel
theorem d_X_read_30 : decode b_X_read 30 = .ok (.ireturn, 1) := by decide +kernel
theorem d_X_read_31 : decode b_X_read 31 = .ok (.aload_n 0, 1) := by decide +kernel
theorem d_X_read_32 : decode b_X_read 32 = .ok (.getfield 10, 3) := by decide +kernel
theorem d_X_read_35 : decode b_X_read 35 = .ok (.getfield 241, 3) := by decide +kernel
theorem d_X_read_38 : decode b_X_read 38 = .ok (.bipush 40, 2) := by decide +kernel
theorem d_X_read_40 : decode b_X_read 40 = .ok (.iadd, 1) := by decide +kernel
theorem d_X_read_41 : decode b_X_read 41 = .ok (.sipush 9999, 3) := by decide +kernel
theorem d_X_read_44 : decode b_X_read 44 = .ok (.if_icmp .le 9, 3) := by decide +kernel
theorem d_X_read_47 : decode b_X_read 47 = .ok (.aload_n 0, 1) := by decide +kernel
theorem d_X_read_48 : decode b_X_read 48 = .ok (.iconst 4, 1) := by decide +kernel
theorem d_X_read_49 : decode b_X_read 49 = .ok (.invokevirtual 59, 3) := by decide +kernel
theorem d_X_read_52 : decode b_X_read 52 = .ok (.ireturn, 1) := by decide +kernel
theorem d_X_read_53 : decode b_X_read 53 = .ok (.aload_n 0, 1) := by decide +kernel
theorem d_X_read_54 : decode b_X_read 54 = .ok (.getfield 19, 3) := by decide +kernel
theorem d_X_read_57 : decode b_X_read 57 = .ok (.aload_n 0, 1) := by decide +kernel
theorem d_X_read_58 : decode b_X_read 58 = .ok (.getfield 10, 3) := by decide +kernel
theorem d_X_read_61 : decode b_X_read 61 = .ok (.invokevirtual 268, 3) := by decide +kernel
theorem d_X_read_64 : decode b_X_read 64 = .ok (.iconst 0, 1) := by decide +kernel
theorem d_X_read_65 : decode b_X_read 65 = .ok (.istore_n 2, 1) := by decide +kernel
theorem d_X_read_66 : decode b_X_read 66 = .ok (.iload_n 2, 1) := by decide +kernel
theorem d_X_read_67 : decode b_X_read 67 = .ok (.aload_n 0, 1) := by decide +kernel
theorem d_X_read_68 : decode b_X_read 68 = .ok (.getfield 39, 3) := by decide +kernel
theorem d_X_read_71 : decode b_X_read 71 = .ok (.iload_n 1, 1) := by decide +kernel
theorem d_X_read_72 : decode b_X_read 72 = .ok (.aaload, 1) := by decide +kernel
theorem d_X_read_73 : decode b_X_read 73 = .ok (.getfield 304, 3) := by decide +kernel
theorem d_X_read_76 : decode b_X_read 76 = .ok (.if_icmp .ge 47, 3) := by decide +kernel
theorem d_X_read_79 : decode b_X_read 79 = .ok (.aload_n 0, 1) := by decide +kernel
theorem d_X_read_80 : decode b_X_read 80 = .ok (.getfield 39, 3) := by decide +kernel
theorem d_X_read_83 : decode b_X_read 83 = .ok (.iload_n 1, 1) := by decide +kernel
theorem d_X_read_84 : decode b_X_read 84 = .ok (.aaload, 1) := by decide +kernel
theorem d_X_read_85 : decode b_X_read 85 = .ok (.getfield 308, 3) := by decide +kernel
theorem d_X_read_88 : decode b_X_read 88 = .ok (.iload_n 2, 1) := by decide +kernel
theorem d_X_read_89 : decode b_X_read 89 = .ok (.laload, 1) := by decide +kernel
theorem d_X_read_90 : decode b_X_read 90 = .ok (.aload_n 0, 1) := by decide +kernel
theorem d_X_read_91 : decode b_X_read 91 = .ok (.getfield 19, 3) := by decide +kernel
theorem d_X_read_94 : decode b_X_read 94 = .ok (.getfield 162, 3) := by decide +kernel
theorem d_X_read_97 : decode b_X_read 97 = .ok (.getfield 250, 3) := by decide +kernel
theorem d_X_read_100 : decode b_X_read 100 = .ok (.i2l, 1) := by decide +kernel
theorem d_X_read_101 : decode b_X_read 101 = .ok (.lcmp, 1) := by decide +kernel
theorem d_X_read_102 : decode b_X_read 102 = .ok (.ifCond .eq 7, 3) := by decide +kernel
theorem d_X_read_105 : decode b_X_read 105 = .ok (.iconst 1, 1) := by decide +kernel
theorem d_X_read_106 : decode b_X_read 106 = .ok (.iload_n 2, 1) := by decide +kernel
theorem d_X_read_107 : decode b_X_read 107 = .ok (.iadd, 1) := by decide +kernel
theorem d_X_read_108 : decode b_X_read 108 = .ok (.ireturn, 1) := by decide +kernel
theorem d_X_read_109 : decode b_X_read 109 = .ok (.aload_n 0, 1) := by decide +kernel
theorem d_X_read_110 : decode b_X_read 110 = .ok (.getfield 19, 3) := by decide +kernel
theorem d_X_read_113 : decode b_X_read 113 = .ok (.invokevirtual 271, 3) := by decide +kernel
theorem d_X_read_116 : decode b_X_read 116 = .ok (.pop, 1) := by decide +kernel
theorem d_X_read_117 : decode b_X_read 117 = .ok (.iinc 2 1, 3) := by decide +kernel
theorem d_X_read_120 : decode b_X_read 120 = .ok (.goto (-54), 3) := by decide +kernel
theorem d_X_read_123 : decode b_X_read 123 = .ok (.iconst 0, 1) := by decide +kernel
theorem d_X_read_124 : decode b_X_read 124 = .ok (.ireturn, 1) := by decide +kernel
theorem d_X_image_0 : decode b_X_image 0 = .ok (.aload_n 0, 1) := by decide +kernel
theorem d_X_image_1 : decode b_X_image 1 = .ok (.getfield 16, 3) := by decide +kernel
theorem d_X_image_4 : decode b_X_image 4 = .ok (.aload_n 0, 1) := by decide +kernel
theorem d_X_image_5 : decode b_X_image 5 = .ok (.getfield 10, 3) := by decide +kernel
theorem d_X_image_8 : decode b_X_image 8 = .ok (.invokevirtual 268, 3) := by decide +kernel
theorem d_X_image_11 : decode b_X_image 11 = .ok (.aload_n 0, 1) := by decide +kernel
theorem d_X_image_12 : decode b_X_image 12 = .ok (.iconst 1, 1) := by decide +kernel
theorem d_X_image_13 : decode b_X_image 13 = .ok (.putfield 47, 3) := by decide +kernel
theorem d_X_image_16 : decode b_X_image 16 = .ok (.iconst 1, 1) := by decide +kernel
theorem d_X_image_17 : decode b_X_image 17 = .ok (.ireturn, 1) := by decide +kernel
theorem d_X_undo_0 : decode b_X_undo 0 = .ok (.aload_n 0, 1) := by decide +kernel
theorem d_X_undo_1 : decode b_X_undo 1 = .ok (.getfield 47, 3) := by decide +kernel
theorem d_X_undo_4 : decode b_X_undo 4 = .ok (.ifCond .ne 9, 3) := by decide +kernel
theorem d_X_undo_7 : decode b_X_undo 7 = .ok (.aload_n 0, 1) := by decide +kernel
theorem d_X_undo_8 : decode b_X_undo 8 = .ok (.iconst 3, 1) := by decide +kernel
theorem d_X_undo_9 : decode b_X_undo 9 = .ok (.invokevirtual 59, 3) := by decide +kernel
theorem d_X_undo_12 : decode b_X_undo 12 = .ok (.ireturn, 1) := by decide +kernel
theorem d_X_undo_13 : decode b_X_undo 13 = .ok (.aload_n 0, 1) := by decide +kernel
theorem d_X_undo_14 : decode b_X_undo 14 = .ok (.getfield 10, 3) := by decide +kernel
theorem d_X_undo_17 : decode b_X_undo 17 = .ok (.aload_n 0, 1) := by decide +kernel
theorem d_X_undo_18 : decode b_X_undo 18 = .ok (.getfield 16, 3) := by decide +kernel
theorem d_X_undo_21 : decode b_X_undo 21 = .ok (.invokevirtual 268, 3) := by decide +kernel
theorem d_X_undo_24 : decode b_X_undo 24 = .ok (.aload_n 0, 1) := by decide +kernel
theorem d_X_undo_25 : decode b_X_undo 25 = .ok (.getfield 10, 3) := by decide +kernel
theorem d_X_undo_28 : decode b_X_undo 28 = .ok (.getfield 75, 3) := by decide +kernel
theorem d_X_undo_31 : decode b_X_undo 31 = .ok (.getfield 329, 3) := by decide +kernel
theorem d_X_undo_34 : decode b_X_undo 34 = .ok (.ireturn, 1) := by decide +kernel
theorem d_X_tear_0 : decode b_X_tear 0 = .ok (.aload_n 0, 1) := by decide +kernel
theorem d_X_tear_1 : decode b_X_tear 1 = .ok (.getfield 47, 3) := by decide +kernel
theorem d_X_tear_4 : decode b_X_tear 4 = .ok (.ifCond .eq 7, 3) := by decide +kernel
theorem d_X_tear_7 : decode b_X_tear 7 = .ok (.iconst 1, 1) := by decide +kernel
theorem d_X_tear_8 : decode b_X_tear 8 = .ok (.goto 4, 3) := by decide +kernel
theorem d_X_tear_11 : decode b_X_tear 11 = .ok (.iconst 0, 1) := by decide +kernel
theorem d_X_tear_12 : decode b_X_tear 12 = .ok (.istore_n 1, 1) := by decide +kernel
theorem d_X_tear_13 : decode b_X_tear 13 = .ok (.aload_n 0, 1) := by decide +kernel
theorem d_X_tear_14 : decode b_X_tear 14 = .ok (.iconst 0, 1) := by decide +kernel
theorem d_X_tear_15 : decode b_X_tear 15 = .ok (.putfield 47, 3) := by decide +kernel
theorem d_X_tear_18 : decode b_X_tear 18 = .ok (.iload_n 1, 1) := by decide +kernel
theorem d_X_tear_19 : decode b_X_tear 19 = .ok (.ireturn, 1) := by decide +kernel
theorem d_X_count_0 : decode b_X_count 0 = .ok (.iload_n 1, 1) := by decide +kernel
theorem d_X_count_1 : decode b_X_count 1 = .ok (.tableswitch 108 0 5 #[39, 50, 64, 75, 86, 97], 39) := by decide +kernel
theorem d_X_count_40 : decode b_X_count 40 = .ok (.aload_n 0, 1) := by decide +kernel
theorem d_X_count_41 : decode b_X_count 41 = .ok (.getfield 10, 3) := by decide +kernel
theorem d_X_count_44 : decode b_X_count 44 = .ok (.getfield 75, 3) := by decide +kernel
theorem d_X_count_47 : decode b_X_count 47 = .ok (.getfield 329, 3) := by decide +kernel
theorem d_X_count_50 : decode b_X_count 50 = .ok (.ireturn, 1) := by decide +kernel
theorem d_X_count_51 : decode b_X_count 51 = .ok (.aload_n 0, 1) := by decide +kernel
theorem d_X_count_52 : decode b_X_count 52 = .ok (.getfield 10, 3) := by decide +kernel
theorem d_X_count_55 : decode b_X_count 55 = .ok (.getfield 75, 3) := by decide +kernel
theorem d_X_count_58 : decode b_X_count 58 = .ok (.getfield 142, 3) := by decide +kernel
theorem d_X_count_61 : decode b_X_count 61 = .ok (.invokestatic 227, 3) := by decide +kernel
theorem d_X_count_64 : decode b_X_count 64 = .ok (.ireturn, 1) := by decide +kernel
theorem d_X_count_65 : decode b_X_count 65 = .ok (.aload_n 0, 1) := by decide +kernel
theorem d_X_count_66 : decode b_X_count 66 = .ok (.getfield 10, 3) := by decide +kernel
theorem d_X_count_69 : decode b_X_count 69 = .ok (.getfield 63, 3) := by decide +kernel
theorem d_X_count_72 : decode b_X_count 72 = .ok (.invokevirtual 332, 3) := by decide +kernel
theorem d_X_count_75 : decode b_X_count 75 = .ok (.ireturn, 1) := by decide +kernel
theorem d_X_count_76 : decode b_X_count 76 = .ok (.aload_n 0, 1) := by decide +kernel
theorem d_X_count_77 : decode b_X_count 77 = .ok (.getfield 32, 3) := by decide +kernel
theorem d_X_count_80 : decode b_X_count 80 = .ok (.getfield 281, 3) := by decide +kernel
theorem d_X_count_83 : decode b_X_count 83 = .ok (.getfield 285, 3) := by decide +kernel
theorem d_X_count_86 : decode b_X_count 86 = .ok (.ireturn, 1) := by decide +kernel
theorem d_X_count_87 : decode b_X_count 87 = .ok (.aload_n 0, 1) := by decide +kernel
theorem d_X_count_88 : decode b_X_count 88 = .ok (.getfield 10, 3) := by decide +kernel
theorem d_X_count_91 : decode b_X_count 91 = .ok (.getfield 162, 3) := by decide +kernel
theorem d_X_count_94 : decode b_X_count 94 = .ok (.getfield 185, 3) := by decide +kernel
theorem d_X_count_97 : decode b_X_count 97 = .ok (.ireturn, 1) := by decide +kernel
theorem d_X_count_98 : decode b_X_count 98 = .ok (.aload_n 0, 1) := by decide +kernel
theorem d_X_count_99 : decode b_X_count 99 = .ok (.getfield 10, 3) := by decide +kernel
theorem d_X_count_102 : decode b_X_count 102 = .ok (.getfield 162, 3) := by decide +kernel
theorem d_X_count_105 : decode b_X_count 105 = .ok (.getfield 247, 3) := by decide +kernel
theorem d_X_count_108 : decode b_X_count 108 = .ok (.ireturn, 1) := by decide +kernel
theorem d_X_count_109 : decode b_X_count 109 = .ok (.aload_n 0, 1) := by decide +kernel
theorem d_X_count_110 : decode b_X_count 110 = .ok (.iconst 0, 1) := by decide +kernel
theorem d_X_count_111 : decode b_X_count 111 = .ok (.invokevirtual 59, 3) := by decide +kernel
theorem d_X_count_114 : decode b_X_count 114 = .ok (.ireturn, 1) := by decide +kernel
theorem d_Gr_countWalls_0 : decode b_Gr_countWalls 0 = .ok (.iconst 0, 1) := by decide +kernel
theorem d_Gr_countWalls_1 : decode b_Gr_countWalls 1 = .ok (.istore_n 1, 1) := by decide +kernel
theorem d_Gr_countWalls_2 : decode b_Gr_countWalls 2 = .ok (.aload_n 0, 1) := by decide +kernel
theorem d_Gr_countWalls_3 : decode b_Gr_countWalls 3 = .ok (.getfield 18, 3) := by decide +kernel
theorem d_Gr_countWalls_6 : decode b_Gr_countWalls 6 = .ok (.astore_n 2, 1) := by decide +kernel
theorem d_Gr_countWalls_7 : decode b_Gr_countWalls 7 = .ok (.aload_n 2, 1) := by decide +kernel
theorem d_Gr_countWalls_8 : decode b_Gr_countWalls 8 = .ok (.arraylength, 1) := by decide +kernel
theorem d_Gr_countWalls_9 : decode b_Gr_countWalls 9 = .ok (.istore_n 3, 1) := by decide +kernel
theorem d_Gr_countWalls_10 : decode b_Gr_countWalls 10 = .ok (.iconst 0, 1) := by decide +kernel
theorem d_Gr_countWalls_11 : decode b_Gr_countWalls 11 = .ok (.istore 4, 2) := by decide +kernel
theorem d_Gr_countWalls_13 : decode b_Gr_countWalls 13 = .ok (.iload 4, 2) := by decide +kernel
theorem d_Gr_countWalls_15 : decode b_Gr_countWalls 15 = .ok (.iload_n 3, 1) := by decide +kernel
theorem d_Gr_countWalls_16 : decode b_Gr_countWalls 16 = .ok (.if_icmp .ge 23, 3) := by decide +kernel
theorem d_Gr_countWalls_19 : decode b_Gr_countWalls 19 = .ok (.aload_n 2, 1) := by decide +kernel
theorem d_Gr_countWalls_20 : decode b_Gr_countWalls 20 = .ok (.iload 4, 2) := by decide +kernel
theorem d_Gr_countWalls_22 : decode b_Gr_countWalls 22 = .ok (.iaload, 1) := by decide +kernel
theorem d_Gr_countWalls_23 : decode b_Gr_countWalls 23 = .ok (.istore 5, 2) := by decide +kernel
theorem d_Gr_countWalls_25 : decode b_Gr_countWalls 25 = .ok (.iload_n 1, 1) := by decide +kernel
theorem d_Gr_countWalls_26 : decode b_Gr_countWalls 26 = .ok (.iload 5, 2) := by decide +kernel
theorem d_Gr_countWalls_28 : decode b_Gr_countWalls 28 = .ok (.invokestatic 47, 3) := by decide +kernel
theorem d_Gr_countWalls_31 : decode b_Gr_countWalls 31 = .ok (.iadd, 1) := by decide +kernel
theorem d_Gr_countWalls_32 : decode b_Gr_countWalls 32 = .ok (.istore_n 1, 1) := by decide +kernel
theorem d_Gr_countWalls_33 : decode b_Gr_countWalls 33 = .ok (.iinc 4 1, 3) := by decide +kernel
theorem d_Gr_countWalls_36 : decode b_Gr_countWalls 36 = .ok (.goto (-23), 3) := by decide +kernel
theorem d_Gr_countWalls_39 : decode b_Gr_countWalls 39 = .ok (.iload_n 1, 1) := by decide +kernel
theorem d_Gr_countWalls_40 : decode b_Gr_countWalls 40 = .ok (.iconst 2, 1) := by decide +kernel
theorem d_Gr_countWalls_41 : decode b_Gr_countWalls 41 = .ok (.idiv, 1) := by decide +kernel
theorem d_Gr_countWalls_42 : decode b_Gr_countWalls 42 = .ok (.ireturn, 1) := by decide +kernel
theorem d_X_status_0 : decode b_X_status 0 = .ok (.iload_n 1, 1) := by decide +kernel
theorem d_X_status_1 : decode b_X_status 1 = .ok (.iconst (-1), 1) := by decide +kernel
theorem d_X_status_2 : decode b_X_status 2 = .ok (.bipush 6, 2) := by decide +kernel
theorem d_X_status_4 : decode b_X_status 4 = .ok (.invokestatic 55, 3) := by decide +kernel
theorem d_X_status_7 : decode b_X_status 7 = .ok (.ifCond .ne 9, 3) := by decide +kernel
theorem d_X_status_10 : decode b_X_status 10 = .ok (.aload_n 0, 1) := by decide +kernel
theorem d_X_status_11 : decode b_X_status 11 = .ok (.iconst 0, 1) := by decide +kernel
theorem d_X_status_12 : decode b_X_status 12 = .ok (.invokevirtual 59, 3) := by decide +kernel
theorem d_X_status_15 : decode b_X_status 15 = .ok (.ireturn, 1) := by decide +kernel
theorem d_X_status_16 : decode b_X_status 16 = .ok (.iload_n 1, 1) := by decide +kernel
theorem d_X_status_17 : decode b_X_status 17 = .ok (.ifCond .lt 10, 3) := by decide +kernel
theorem d_X_status_20 : decode b_X_status 20 = .ok (.aload_n 0, 1) := by decide +kernel
theorem d_X_status_21 : decode b_X_status 21 = .ok (.getfield 43, 3) := by decide +kernel
theorem d_X_status_24 : decode b_X_status 24 = .ok (.iload_n 1, 1) := by decide +kernel
theorem d_X_status_25 : decode b_X_status 25 = .ok (.iaload, 1) := by decide +kernel
theorem d_X_status_26 : decode b_X_status 26 = .ok (.ireturn, 1) := by decide +kernel
theorem d_X_status_27 : decode b_X_status 27 = .ok (.iconst 0, 1) := by decide +kernel
theorem d_X_status_28 : decode b_X_status 28 = .ok (.istore_n 2, 1) := by decide +kernel
theorem d_X_status_29 : decode b_X_status 29 = .ok (.aload_n 0, 1) := by decide +kernel
theorem d_X_status_30 : decode b_X_status 30 = .ok (.getfield 43, 3) := by decide +kernel
theorem d_X_status_33 : decode b_X_status 33 = .ok (.astore_n 3, 1) := by decide +kernel
theorem d_X_status_34 : decode b_X_status 34 = .ok (.aload_n 3, 1) := by decide +kernel
theorem d_X_status_35 : decode b_X_status 35 = .ok (.arraylength, 1) := by decide +kernel
theorem d_X_status_36 : decode b_X_status 36 = .ok (.istore 4, 2) := by decide +kernel
theorem d_X_status_38 : decode b_X_status 38 = .ok (.iconst 0, 1) := by decide +kernel
theorem d_X_status_39 : decode b_X_status 39 = .ok (.istore 5, 2) := by decide +kernel
theorem d_X_status_41 : decode b_X_status 41 = .ok (.iload 5, 2) := by decide +kernel
theorem d_X_status_43 : decode b_X_status 43 = .ok (.iload 4, 2) := by decide +kernel
theorem d_X_status_45 : decode b_X_status 45 = .ok (.if_icmp .ge 20, 3) := by decide +kernel
theorem d_X_status_48 : decode b_X_status 48 = .ok (.aload_n 3, 1) := by decide +kernel
theorem d_X_status_49 : decode b_X_status 49 = .ok (.iload 5, 2) := by decide +kernel
theorem d_X_status_51 : decode b_X_status 51 = .ok (.iaload, 1) := by decide +kernel
theorem d_X_status_52 : decode b_X_status 52 = .ok (.istore 6, 2) := by decide +kernel
theorem d_X_status_54 : decode b_X_status 54 = .ok (.iload_n 2, 1) := by decide +kernel
theorem d_X_status_55 : decode b_X_status 55 = .ok (.iload 6, 2) := by decide +kernel
theorem d_X_status_57 : decode b_X_status 57 = .ok (.iadd, 1) := by decide +kernel
theorem d_X_status_58 : decode b_X_status 58 = .ok (.istore_n 2, 1) := by decide +kernel
theorem d_X_status_59 : decode b_X_status 59 = .ok (.iinc 5 1, 3) := by decide +kernel
theorem d_X_status_62 : decode b_X_status 62 = .ok (.goto (-21), 3) := by decide +kernel
theorem d_X_status_65 : decode b_X_status 65 = .ok (.iload_n 2, 1) := by decide +kernel
theorem d_X_status_66 : decode b_X_status 66 = .ok (.ireturn, 1) := by decide +kernel
theorem d_M_init_0 : decode b_M_init 0 = .ok (.aload_n 0, 1) := by decide +kernel
theorem d_M_init_1 : decode b_M_init 1 = .ok (.invokespecial 1, 3) := by decide +kernel
theorem d_M_init_4 : decode b_M_init 4 = .ok (.aload_n 0, 1) := by decide +kernel
theorem d_M_init_5 : decode b_M_init 5 = .ok (.sipush 218, 3) := by decide +kernel
theorem d_M_init_8 : decode b_M_init 8 = .ok (.newarray .int, 2) := by decide +kernel
theorem d_M_init_10 : decode b_M_init 10 = .ok (.putfield 9, 3) := by decide +kernel
theorem d_M_init_13 : decode b_M_init 13 = .ok (.aload_n 0, 1) := by decide +kernel
theorem d_M_init_14 : decode b_M_init 14 = .ok (.sipush 218, 3) := by decide +kernel
theorem d_M_init_17 : decode b_M_init 17 = .ok (.newarray .int, 2) := by decide +kernel
theorem d_M_init_19 : decode b_M_init 19 = .ok (.putfield 13, 3) := by decide +kernel
theorem d_M_init_22 : decode b_M_init 22 = .ok (.aload_n 0, 1) := by decide +kernel
theorem d_M_init_23 : decode b_M_init 23 = .ok (.sipush 218, 3) := by decide +kernel
theorem d_M_init_26 : decode b_M_init 26 = .ok (.newarray .int, 2) := by decide +kernel
theorem d_M_init_28 : decode b_M_init 28 = .ok (.putfield 16, 3) := by decide +kernel
theorem d_M_init_31 : decode b_M_init 31 = .ok (.aload_n 0, 1) := by decide +kernel
theorem d_M_init_32 : decode b_M_init 32 = .ok (.bipush 8, 2) := by decide +kernel
theorem d_M_init_34 : decode b_M_init 34 = .ok (.newarray .int, 2) := by decide +kernel
theorem d_M_init_36 : decode b_M_init 36 = .ok (.putfield 19, 3) := by decide +kernel
theorem d_M_init_39 : decode b_M_init 39 = .ok (.aload_n 0, 1) := by decide +kernel
theorem d_M_init_40 : decode b_M_init 40 = .ok (.iconst 4, 1) := by decide +kernel
theorem d_M_init_41 : decode b_M_init 41 = .ok (.newarray .int, 2) := by decide +kernel
theorem d_M_init_43 : decode b_M_init 43 = .ok (.dup, 1) := by decide +kernel
theorem d_M_init_44 : decode b_M_init 44 = .ok (.iconst 0, 1) := by decide +kernel
theorem d_M_init_45 : decode b_M_init 45 = .ok (.iconst (-1), 1) := by decide +kernel
theorem d_M_init_46 : decode b_M_init 46 = .ok (.iastore, 1) := by decide +kernel
theorem d_M_init_47 : decode b_M_init 47 = .ok (.dup, 1) := by decide +kernel
theorem d_M_init_48 : decode b_M_init 48 = .ok (.iconst 1, 1) := by decide +kernel
theorem d_M_init_49 : decode b_M_init 49 = .ok (.iconst 0, 1) := by decide +kernel
theorem d_M_init_50 : decode b_M_init 50 = .ok (.iastore, 1) := by decide +kernel
theorem d_M_init_51 : decode b_M_init 51 = .ok (.dup, 1) := by decide +kernel
theorem d_M_init_52 : decode b_M_init 52 = .ok (.iconst 2, 1) := by decide +kernel
theorem d_M_init_53 : decode b_M_init 53 = .ok (.iconst 1, 1) := by decide +kernel
theorem d_M_init_54 : decode b_M_init 54 = .ok (.iastore, 1) := by decide +kernel
theorem d_M_init_55 : decode b_M_init 55 = .ok (.dup, 1) := by decide +kernel
theorem d_M_init_56 : decode b_M_init 56 = .ok (.iconst 3, 1) := by decide +kernel
theorem d_M_init_57 : decode b_M_init 57 = .ok (.iconst 0, 1) := by decide +kernel
theorem d_M_init_58 : decode b_M_init 58 = .ok (.iastore, 1) := by decide +kernel
theorem d_M_init_59 : decode b_M_init 59 = .ok (.putfield 22, 3) := by decide +kernel
theorem d_M_init_62 : decode b_M_init 62 = .ok (.aload_n 0, 1) := by decide +kernel
theorem d_M_init_63 : decode b_M_init 63 = .ok (.iconst 4, 1) := by decide +kernel
theorem d_M_init_64 : decode b_M_init 64 = .ok (.newarray .int, 2) := by decide +kernel
theorem d_M_init_66 : decode b_M_init 66 = .ok (.dup, 1) := by decide +kernel
theorem d_M_init_67 : decode b_M_init 67 = .ok (.iconst 0, 1) := by decide +kernel
theorem d_M_init_68 : decode b_M_init 68 = .ok (.iconst 0, 1) := by decide +kernel
theorem d_M_init_69 : decode b_M_init 69 = .ok (.iastore, 1) := by decide +kernel
theorem d_M_init_70 : decode b_M_init 70 = .ok (.dup, 1) := by decide +kernel
theorem d_M_init_71 : decode b_M_init 71 = .ok (.iconst 1, 1) := by decide +kernel
theorem d_M_init_72 : decode b_M_init 72 = .ok (.iconst 1, 1) := by decide +kernel
theorem d_M_init_73 : decode b_M_init 73 = .ok (.iastore, 1) := by decide +kernel
theorem d_M_init_74 : decode b_M_init 74 = .ok (.dup, 1) := by decide +kernel
theorem d_M_init_75 : decode b_M_init 75 = .ok (.iconst 2, 1) := by decide +kernel
theorem d_M_init_76 : decode b_M_init 76 = .ok (.iconst 0, 1) := by decide +kernel
theorem d_M_init_77 : decode b_M_init 77 = .ok (.iastore, 1) := by decide +kernel
theorem d_M_init_78 : decode b_M_init 78 = .ok (.dup, 1) := by decide +kernel
theorem d_M_init_79 : decode b_M_init 79 = .ok (.iconst 3, 1) := by decide +kernel
theorem d_M_init_80 : decode b_M_init 80 = .ok (.iconst (-1), 1) := by decide +kernel
theorem d_M_init_81 : decode b_M_init 81 = .ok (.iastore, 1) := by decide +kernel
theorem d_M_init_82 : decode b_M_init 82 = .ok (.putfield 25, 3) := by decide +kernel
theorem d_M_init_85 : decode b_M_init 85 = .ok (.aload_n 0, 1) := by decide +kernel
theorem d_M_init_86 : decode b_M_init 86 = .ok (.iconst 4, 1) := by decide +kernel
theorem d_M_init_87 : decode b_M_init 87 = .ok (.newarray .long, 2) := by decide +kernel
theorem d_M_init_89 : decode b_M_init 89 = .ok (.putfield 28, 3) := by decide +kernel
theorem d_M_init_92 : decode b_M_init 92 = .ok (.aload_n 0, 1) := by decide +kernel
theorem d_M_init_93 : decode b_M_init 93 = .ok (.iconst 4, 1) := by decide +kernel
theorem d_M_init_94 : decode b_M_init 94 = .ok (.newarray .long, 2) := by decide +kernel
theorem d_M_init_96 : decode b_M_init 96 = .ok (.putfield 32, 3) := by decide +kernel
theorem d_M_init_99 : decode b_M_init 99 = .ok (.aload_n 0, 1) := by decide +kernel
theorem d_M_init_100 : decode b_M_init 100 = .ok (.bipush 120, 2) := by decide +kernel
theorem d_M_init_102 : decode b_M_init 102 = .ok (.newarray .int, 2) := by decide +kernel
theorem d_M_init_104 : decode b_M_init 104 = .ok (.putfield 35, 3) := by decide +kernel
theorem d_M_init_107 : decode b_M_init 107 = .ok (.aload_n 0, 1) := by decide +kernel
theorem d_M_init_108 : decode b_M_init 108 = .ok (.bipush 6, 2) := by decide +kernel
theorem d_M_init_110 : decode b_M_init 110 = .ok (.anewarray 38, 3) := by decide +kernel
theorem d_M_init_113 : decode b_M_init 113 = .ok (.dup, 1) := by decide +kernel
theorem d_M_init_114 : decode b_M_init 114 = .ok (.iconst 0, 1) := by decide +kernel
theorem d_M_init_115 : decode b_M_init 115 = .ok (.ldc 40, 2) := by decide +kernel
theorem d_M_init_117 : decode b_M_init 117 = .ok (.aastore, 1) := by decide +kernel
theorem d_M_init_118 : decode b_M_init 118 = .ok (.dup, 1) := by decide +kernel
theorem d_M_init_119 : decode b_M_init 119 = .ok (.iconst 1, 1) := by decide +kernel
theorem d_M_init_120 : decode b_M_init 120 = .ok (.ldc 42, 2) := by decide +kernel
theorem d_M_init_122 : decode b_M_init 122 = .ok (.aastore, 1) := by decide +kernel
theorem d_M_init_123 : decode b_M_init 123 = .ok (.dup, 1) := by decide +kernel
theorem d_M_init_124 : decode b_M_init 124 = .ok (.iconst 2, 1) := by decide +kernel
theorem d_M_init_125 : decode b_M_init 125 = .ok (.ldc 44, 2) := by decide +kernel
theorem d_M_init_127 : decode b_M_init 127 = .ok (.aastore, 1) := by decide +kernel
theorem d_M_init_128 : decode b_M_init 128 = .ok (.dup, 1) := by decide +kernel
theorem d_M_init_129 : decode b_M_init 129 = .ok (.iconst 3, 1) := by decide +kernel
theorem d_M_init_130 : decode b_M_init 130 = .ok (.ldc 46, 2) := by decide +kernel
theorem d_M_init_132 : decode b_M_init 132 = .ok (.aastore, 1) := by decide +kernel
theorem d_M_init_133 : decode b_M_init 133 = .ok (.dup, 1) := by decide +kernel
theorem d_M_init_134 : decode b_M_init 134 = .ok (.iconst 4, 1) := by decide +kernel
theorem d_M_init_135 : decode b_M_init 135 = .ok (.ldc 48, 2) := by decide +kernel
theorem d_M_init_137 : decode b_M_init 137 = .ok (.aastore, 1) := by decide +kernel
theorem d_M_init_138 : decode b_M_init 138 = .ok (.dup, 1) := by decide +kernel
theorem d_M_init_139 : decode b_M_init 139 = .ok (.iconst 5, 1) := by decide +kernel
theorem d_M_init_140 : decode b_M_init 140 = .ok (.ldc 50, 2) := by decide +kernel
theorem d_M_init_142 : decode b_M_init 142 = .ok (.aastore, 1) := by decide +kernel
theorem d_M_init_143 : decode b_M_init 143 = .ok (.putfield 52, 3) := by decide +kernel
theorem d_M_init_146 : decode b_M_init 146 = .ok (.aload_n 0, 1) := by decide +kernel
theorem d_M_init_147 : decode b_M_init 147 = .ok (.sipush 720, 3) := by decide +kernel
theorem d_M_init_150 : decode b_M_init 150 = .ok (.newarray .int, 2) := by decide +kernel
theorem d_M_init_152 : decode b_M_init 152 = .ok (.putfield 56, 3) := by decide +kernel
theorem d_M_init_155 : decode b_M_init 155 = .ok (.aload_n 0, 1) := by decide +kernel
theorem d_M_init_156 : decode b_M_init 156 = .ok (.iconst 4, 1) := by decide +kernel
theorem d_M_init_157 : decode b_M_init 157 = .ok (.newarray .int, 2) := by decide +kernel
theorem d_M_init_159 : decode b_M_init 159 = .ok (.putfield 59, 3) := by decide +kernel
theorem d_M_init_162 : decode b_M_init 162 = .ok (.aload_n 0, 1) := by decide +kernel
theorem d_M_init_163 : decode b_M_init 163 = .ok (.iconst 4, 1) := by decide +kernel
theorem d_M_init_164 : decode b_M_init 164 = .ok (.newarray .int, 2) := by decide +kernel
theorem d_M_init_166 : decode b_M_init 166 = .ok (.putfield 62, 3) := by decide +kernel
theorem d_M_init_169 : decode b_M_init 169 = .ok (.aload_n 0, 1) := by decide +kernel
theorem d_M_init_170 : decode b_M_init 170 = .ok (.sipush 160, 3) := by decide +kernel
theorem d_M_init_173 : decode b_M_init 173 = .ok (.newarray .long, 2) := by decide +kernel
theorem d_M_init_175 : decode b_M_init 175 = .ok (.putfield 65, 3) := by decide +kernel
theorem d_M_init_178 : decode b_M_init 178 = .ok (.aload_n 0, 1) := by decide +kernel
theorem d_M_init_179 : decode b_M_init 179 = .ok (.bipush 40, 2) := by decide +kernel
theorem d_M_init_181 : decode b_M_init 181 = .ok (.newarray .long, 2) := by decide +kernel
theorem d_M_init_183 : decode b_M_init 183 = .ok (.putfield 68, 3) := by decide +kernel
theorem d_M_init_186 : decode b_M_init 186 = .ok (.aload_n 0, 1) := by decide +kernel
theorem d_M_init_187 : decode b_M_init 187 = .ok (.getfield 9, 3) := by decide +kernel
theorem d_M_init_190 : decode b_M_init 190 = .ok (.iconst 0, 1) := by decide +kernel
theorem d_M_init_191 : decode b_M_init 191 = .ok (.iconst 1, 1) := by decide +kernel
theorem d_M_init_192 : decode b_M_init 192 = .ok (.iastore, 1) := by decide +kernel
theorem d_M_init_193 : decode b_M_init 193 = .ok (.aload_n 0, 1) := by decide +kernel
theorem d_M_init_194 : decode b_M_init 194 = .ok (.getfield 9, 3) := by decide +kernel
theorem d_M_init_197 : decode b_M_init 197 = .ok (.iconst 3, 1) := by decide +kernel
theorem d_M_init_198 : decode b_M_init 198 = .ok (.bipush 14, 2) := by decide +kernel
theorem d_M_init_200 : decode b_M_init 200 = .ok (.iastore, 1) := by decide +kernel
theorem d_M_init_201 : decode b_M_init 201 = .ok (.aload_n 0, 1) := by decide +kernel
theorem d_M_init_202 : decode b_M_init 202 = .ok (.getfield 9, 3) := by decide +kernel
theorem d_M_init_205 : decode b_M_init 205 = .ok (.iconst 4, 1) := by decide +kernel
theorem d_M_init_206 : decode b_M_init 206 = .ok (.bipush 99, 2) := by decide +kernel
theorem d_M_init_208 : decode b_M_init 208 = .ok (.iastore, 1) := by decide +kernel
theorem d_M_init_209 : decode b_M_init 209 = .ok (.aload_n 0, 1) := by decide +kernel
theorem d_M_init_210 : decode b_M_init 210 = .ok (.getfield 9, 3) := by decide +kernel
theorem d_M_init_213 : decode b_M_init 213 = .ok (.iconst 5, 1) := by decide +kernel
theorem d_M_init_214 : decode b_M_init 214 = .ok (.bipush 12, 2) := by decide +kernel
theorem d_M_init_216 : decode b_M_init 216 = .ok (.iastore, 1) := by decide +kernel
theorem d_M_init_217 : decode b_M_init 217 = .ok (.iconst 0, 1) := by decide +kernel
theorem d_M_init_218 : decode b_M_init 218 = .ok (.istore_n 1, 1) := by decide +kernel
theorem d_M_init_219 : decode b_M_init 219 = .ok (.iload_n 1, 1) := by decide +kernel
theorem d_M_init_220 : decode b_M_init 220 = .ok (.bipush 36, 2) := by decide +kernel
theorem d_M_init_222 : decode b_M_init 222 = .ok (.if_icmp .ge 57, 3) := by decide +kernel
theorem d_M_init_225 : decode b_M_init 225 = .ok (.aload_n 0, 1) := by decide +kernel
theorem d_M_init_226 : decode b_M_init 226 = .ok (.getfield 9, 3) := by decide +kernel
theorem d_M_init_229 : decode b_M_init 229 = .ok (.bipush 50, 2) := by decide +kernel
theorem d_M_init_231 : decode b_M_init 231 = .ok (.iload_n 1, 1) := by decide +kernel
theorem d_M_init_232 : decode b_M_init 232 = .ok (.iadd, 1) := by decide +kernel
theorem d_M_init_233 : decode b_M_init 233 = .ok (.iconst 0, 1) := by decide +kernel
theorem d_M_init_234 : decode b_M_init 234 = .ok (.bipush 50, 2) := by decide +kernel
theorem d_M_init_236 : decode b_M_init 236 = .ok (.iconst 5, 1) := by decide +kernel
theorem d_M_init_237 : decode b_M_init 237 = .ok (.iload_n 1, 1) := by decide +kernel
theorem d_M_init_238 : decode b_M_init 238 = .ok (.bipush 6, 2) := by decide +kernel
theorem d_M_init_240 : decode b_M_init 240 = .ok (.idiv, 1) := by decide +kernel
theorem d_M_init_241 : decode b_M_init 241 = .ok (.iconst 2, 1) := by decide +kernel
theorem d_M_init_242 : decode b_M_init 242 = .ok (.isub, 1) := by decide +kernel
theorem d_M_init_243 : decode b_M_init 243 = .ok (.invokestatic 71, 3) := by decide +kernel
theorem d_M_init_246 : decode b_M_init 246 = .ok (.iload_n 1, 1) := by decide +kernel
theorem d_M_init_247 : decode b_M_init 247 = .ok (.bipush 6, 2) := by decide +kernel
theorem d_M_init_249 : decode b_M_init 249 = .ok (.irem, 1) := by decide +kernel
theorem d_M_init_250 : decode b_M_init 250 = .ok (.iconst 2, 1) := by decide +kernel
theorem d_M_init_251 : decode b_M_init 251 = .ok (.isub, 1) := by decide +kernel
theorem d_M_init_252 : decode b_M_init 252 = .ok (.invokestatic 71, 3) := by decide +kernel
theorem d_M_init_255 : decode b_M_init 255 = .ok (.iadd, 1) := by decide +kernel
theorem d_M_init_256 : decode b_M_init 256 = .ok (.imul, 1) := by decide +kernel
theorem d_M_init_257 : decode b_M_init 257 = .ok (.isub, 1) := by decide +kernel
theorem d_M_init_258 : decode b_M_init 258 = .ok (.invokestatic 77, 3) := by decide +kernel
theorem d_M_init_261 : decode b_M_init 261 = .ok (.iastore, 1) := by decide +kernel
theorem d_M_init_262 : decode b_M_init 262 = .ok (.aload_n 0, 1) := by decide +kernel
theorem d_M_init_263 : decode b_M_init 263 = .ok (.getfield 9, 3) := by decide +kernel
theorem d_M_init_266 : decode b_M_init 266 = .ok (.bipush 86, 2) := by decide +kernel
theorem d_M_init_268 : decode b_M_init 268 = .ok (.iload_n 1, 1) := by decide +kernel
theorem d_M_init_269 : decode b_M_init 269 = .ok (.iadd, 1) := by decide +kernel
theorem d_M_init_270 : decode b_M_init 270 = .ok (.bipush 20, 2) := by decide +kernel
theorem d_M_init_272 : decode b_M_init 272 = .ok (.iastore, 1) := by decide +kernel
theorem d_M_init_273 : decode b_M_init 273 = .ok (.iinc 1 1, 3) := by decide +kernel
theorem d_M_init_276 : decode b_M_init 276 = .ok (.goto (-57), 3) := by decide +kernel
theorem d_M_init_279 : decode b_M_init 279 = .ok (.iconst 0, 1) := by decide +kernel
theorem d_M_init_280 : decode b_M_init 280 = .ok (.istore_n 1, 1) := by decide +kernel
theorem d_M_init_281 : decode b_M_init 281 = .ok (.iload_n 1, 1) := by decide +kernel
theorem d_M_init_282 : decode b_M_init 282 = .ok (.iconst 4, 1) := by decide +kernel
theorem d_M_init_283 : decode b_M_init 283 = .ok (.if_icmp .ge 79, 3) := by decide +kernel
theorem d_M_init_286 : decode b_M_init 286 = .ok (.aload_n 0, 1) := by decide +kernel
theorem d_M_init_287 : decode b_M_init 287 = .ok (.getfield 9, 3) := by decide +kernel
theorem d_M_init_290 : decode b_M_init 290 = .ok (.bipush 18, 2) := by decide +kernel
theorem d_M_init_292 : decode b_M_init 292 = .ok (.iconst 4, 1) := by decide +kernel
theorem d_M_init_293 : decode b_M_init 293 = .ok (.iload_n 1, 1) := by decide +kernel
theorem d_M_init_294 : decode b_M_init 294 = .ok (.imul, 1) := by decide +kernel
theorem d_M_init_295 : decode b_M_init 295 = .ok (.iadd, 1) := by decide +kernel
theorem d_M_init_296 : decode b_M_init 296 = .ok (.iload_n 1, 1) := by decide +kernel
theorem d_M_init_297 : decode b_M_init 297 = .ok (.iadd, 1) := by decide +kernel
theorem d_M_init_298 : decode b_M_init 298 = .ok (.bipush 7, 2) := by decide +kernel
theorem d_M_init_300 : decode b_M_init 300 = .ok (.iastore, 1) := by decide +kernel
theorem d_M_init_301 : decode b_M_init 301 = .ok (.aload_n 0, 1) := by decide +kernel
theorem d_M_init_302 : decode b_M_init 302 = .ok (.getfield 9, 3) := by decide +kernel
theorem d_M_init_305 : decode b_M_init 305 = .ok (.bipush 18, 2) := by decide +kernel
theorem d_M_init_307 : decode b_M_init 307 = .ok (.iconst 4, 1) := by decide +kernel
theorem d_M_init_308 : decode b_M_init 308 = .ok (.iload_n 1, 1) := by decide +kernel
theorem d_M_init_309 : decode b_M_init 309 = .ok (.imul, 1) := by decide +kernel
theorem d_M_init_310 : decode b_M_init 310 = .ok (.iadd, 1) := by decide +kernel
theorem d_M_init_311 : decode b_M_init 311 = .ok (.iload_n 1, 1) := by decide +kernel
theorem d_M_init_312 : decode b_M_init 312 = .ok (.iconst 1, 1) := by decide +kernel
theorem d_M_init_313 : decode b_M_init 313 = .ok (.iadd, 1) := by decide +kernel
theorem d_M_init_314 : decode b_M_init 314 = .ok (.iconst 4, 1) := by decide +kernel
theorem d_M_init_315 : decode b_M_init 315 = .ok (.irem, 1) := by decide +kernel
theorem d_M_init_316 : decode b_M_init 316 = .ok (.iadd, 1) := by decide +kernel
theorem d_M_init_317 : decode b_M_init 317 = .ok (.iconst 3, 1) := by decide +kernel
theorem d_M_init_318 : decode b_M_init 318 = .ok (.iastore, 1) := by decide +kernel
theorem d_M_init_319 : decode b_M_init 319 = .ok (.iconst 0, 1) := by decide +kernel
theorem d_M_init_320 : decode b_M_init 320 = .ok (.istore_n 2, 1) := by decide +kernel
theorem d_M_init_321 : decode b_M_init 321 = .ok (.iload_n 2, 1) := by decide +kernel
theorem d_M_init_322 : decode b_M_init 322 = .ok (.iconst 4, 1) := by decide +kernel
theorem d_M_init_323 : decode b_M_init 323 = .ok (.if_icmp .ge 33, 3) := by decide +kernel
theorem d_M_init_326 : decode b_M_init 326 = .ok (.aload_n 0, 1) := by decide +kernel
theorem d_M_init_327 : decode b_M_init 327 = .ok (.getfield 9, 3) := by decide +kernel
theorem d_M_init_330 : decode b_M_init 330 = .ok (.bipush 34, 2) := by decide +kernel
theorem d_M_init_332 : decode b_M_init 332 = .ok (.iconst 4, 1) := by decide +kernel
theorem d_M_init_333 : decode b_M_init 333 = .ok (.iload_n 1, 1) := by decide +kernel
theorem d_M_init_334 : decode b_M_init 334 = .ok (.imul, 1) := by decide +kernel
theorem d_M_init_335 : decode b_M_init 335 = .ok (.iadd, 1) := by decide +kernel
theorem d_M_init_336 : decode b_M_init 336 = .ok (.iload_n 2, 1) := by decide +kernel
theorem d_M_init_337 : decode b_M_init 337 = .ok (.iadd, 1) := by decide +kernel
theorem d_M_init_338 : decode b_M_init 338 = .ok (.iload_n 1, 1) := by decide +kernel
theorem d_M_init_339 : decode b_M_init 339 = .ok (.iload_n 2, 1) := by decide +kernel
theorem d_M_init_340 : decode b_M_init 340 = .ok (.if_icmp .ne 8, 3) := by decide +kernel
theorem d_M_init_343 : decode b_M_init 343 = .ok (.bipush 7, 2) := by decide +kernel
theorem d_M_init_345 : decode b_M_init 345 = .ok (.goto 4, 3) := by decide +kernel
theorem d_M_init_348 : decode b_M_init 348 = .ok (.iconst 1, 1) := by decide +kernel
theorem d_M_init_349 : decode b_M_init 349 = .ok (.iastore, 1) := by decide +kernel
theorem d_M_init_350 : decode b_M_init 350 = .ok (.iinc 2 1, 3) := by decide +kernel
theorem d_M_init_353 : decode b_M_init 353 = .ok (.goto (-32), 3) := by decide +kernel
theorem d_M_init_356 : decode b_M_init 356 = .ok (.iinc 1 1, 3) := by decide +kernel
theorem d_M_init_359 : decode b_M_init 359 = .ok (.goto (-78), 3) := by decide +kernel
theorem d_M_init_362 : decode b_M_init 362 = .ok (.return_, 1) := by decide +kernel
theorem d_M_set_0 : decode b_M_set 0 = .ok (.iload_n 1, 1) := by decide +kernel
theorem d_M_set_1 : decode b_M_set 1 = .ok (.invokestatic 90, 3) := by decide +kernel
theorem d_M_set_4 : decode b_M_set 4 = .ok (.ifCond .eq 22, 3) := by decide +kernel
theorem d_M_set_7 : decode b_M_set 7 = .ok (.iload_n 2, 1) := by decide +kernel
theorem d_M_set_8 : decode b_M_set 8 = .ok (.iconst 0, 1) := by decide +kernel
theorem d_M_set_9 : decode b_M_set 9 = .ok (.iconst 1, 1) := by decide +kernel
theorem d_M_set_10 : decode b_M_set 10 = .ok (.invokestatic 86, 3) := by decide +kernel
theorem d_M_set_13 : decode b_M_set 13 = .ok (.ifCond .eq 13, 3) := by decide +kernel
theorem d_M_set_16 : decode b_M_set 16 = .ok (.iload_n 3, 1) := by decide +kernel
theorem d_M_set_17 : decode b_M_set 17 = .ok (.iconst 0, 1) := by decide +kernel
theorem d_M_set_18 : decode b_M_set 18 = .ok (.bipush 99, 2) := by decide +kernel
theorem d_M_set_20 : decode b_M_set 20 = .ok (.invokestatic 86, 3) := by decide +kernel
theorem d_M_set_23 : decode b_M_set 23 = .ok (.ifCond .ne 10, 3) := by decide +kernel
theorem d_M_set_26 : decode b_M_set 26 = .ok (.aload_n 0, 1) := by decide +kernel
theorem d_M_set_27 : decode b_M_set 27 = .ok (.ldc 81, 2) := by decide +kernel
theorem d_M_set_29 : decode b_M_set 29 = .ok (.invokevirtual 94, 3) := by decide +kernel
theorem d_M_set_32 : decode b_M_set 32 = .ok (.ireturn, 1) := by decide +kernel
theorem d_M_set_33 : decode b_M_set 33 = .ok (.aload_n 0, 1) := by decide +kernel
theorem d_M_set_34 : decode b_M_set 34 = .ok (.iload_n 2, 1) := by decide +kernel
theorem d_M_set_35 : decode b_M_set 35 = .ok (.ifCond .ne 8, 3) := by decide +kernel
theorem d_M_set_38 : decode b_M_set 38 = .ok (.bipush 50, 2) := by decide +kernel
theorem d_M_set_40 : decode b_M_set 40 = .ok (.goto 5, 3) := by decide +kernel
theorem d_M_set_43 : decode b_M_set 43 = .ok (.bipush 86, 2) := by decide +kernel
theorem d_M_set_45 : decode b_M_set 45 = .ok (.iload_n 1, 1) := by decide +kernel
theorem d_M_set_46 : decode b_M_set 46 = .ok (.iadd, 1) := by decide +kernel
theorem d_M_set_47 : decode b_M_set 47 = .ok (.iload_n 3, 1) := by decide +kernel
theorem d_M_set_48 : decode b_M_set 48 = .ok (.invokevirtual 97, 3) := by decide +kernel
theorem d_M_set_51 : decode b_M_set 51 = .ok (.ireturn, 1) := by decide +kernel
theorem d_M_isCell_0 : decode b_M_isCell 0 = .ok (.iload_n 0, 1) := by decide +kernel
theorem d_M_isCell_1 : decode b_M_isCell 1 = .ok (.iconst 0, 1) := by decide +kernel
theorem d_M_isCell_2 : decode b_M_isCell 2 = .ok (.bipush 35, 2) := by decide +kernel
theorem d_M_isCell_4 : decode b_M_isCell 4 = .ok (.invokestatic 86, 3) := by decide +kernel
theorem d_M_isCell_7 : decode b_M_isCell 7 = .ok (.ireturn, 1) := by decide +kernel
theorem d_M_within_0 : decode b_M_within 0 = .ok (.iload_n 0, 1) := by decide +kernel
theorem d_M_within_1 : decode b_M_within 1 = .ok (.iload_n 1, 1) := by decide +kernel
theorem d_M_within_2 : decode b_M_within 2 = .ok (.if_icmp .lt 12, 3) := by decide +kernel
theorem d_M_within_5 : decode b_M_within 5 = .ok (.iload_n 0, 1) := by decide +kernel
theorem d_M_within_6 : decode b_M_within 6 = .ok (.iload_n 2, 1) := by decide +kernel
theorem d_M_within_7 : decode b_M_within 7 = .ok (.if_icmp .gt 7, 3) := by decide +kernel
theorem d_M_within_10 : decode b_M_within 10 = .ok (.iconst 1, 1) := by decide +kernel
theorem d_M_within_11 : decode b_M_within 11 = .ok (.goto 4, 3) := by decide +kernel
theorem d_M_within_14 : decode b_M_within 14 = .ok (.iconst 0, 1) := by decide +kernel
theorem d_M_within_15 : decode b_M_within 15 = .ok (.ireturn, 1) := by decide +kernel
theorem d_M_finding_0 : decode b_M_finding 0 = .ok (.aload_n 0, 1) := by decide +kernel
theorem d_M_finding_1 : decode b_M_finding 1 = .ok (.getfield 19, 3) := by decide +kernel
theorem d_M_finding_4 : decode b_M_finding 4 = .ok (.ldc 81, 2) := by decide +kernel
theorem d_M_finding_6 : decode b_M_finding 6 = .ok (.iload_n 1, 1) := by decide +kernel
theorem d_M_finding_7 : decode b_M_finding 7 = .ok (.isub, 1) := by decide +kernel
theorem d_M_finding_8 : decode b_M_finding 8 = .ok (.iconst 1, 1) := by decide +kernel
theorem d_M_finding_9 : decode b_M_finding 9 = .ok (.iadd, 1) := by decide +kernel
theorem d_M_finding_10 : decode b_M_finding 10 = .ok (.dup2, 1) := by decide +kernel
theorem d_M_finding_11 : decode b_M_finding 11 = .ok (.iaload, 1) := by decide +kernel
theorem d_M_finding_12 : decode b_M_finding 12 = .ok (.iconst 1, 1) := by decide +kernel
theorem d_M_finding_13 : decode b_M_finding 13 = .ok (.iadd, 1) := by decide +kernel
theorem d_M_finding_14 : decode b_M_finding 14 = .ok (.iastore, 1) := by decide +kernel
theorem d_M_finding_15 : decode b_M_finding 15 = .ok (.aload_n 0, 1) := by decide +kernel
theorem d_M_finding_16 : decode b_M_finding 16 = .ok (.getfield 19, 3) := by decide +kernel
theorem d_M_finding_19 : decode b_M_finding 19 = .ok (.iconst 0, 1) := by decide +kernel
theorem d_M_finding_20 : decode b_M_finding 20 = .ok (.dup2, 1) := by decide +kernel
theorem d_M_finding_21 : decode b_M_finding 21 = .ok (.iaload, 1) := by decide +kernel
theorem d_M_finding_22 : decode b_M_finding 22 = .ok (.iconst 1, 1) := by decide +kernel
theorem d_M_finding_23 : decode b_M_finding 23 = .ok (.iadd, 1) := by decide +kernel
theorem d_M_finding_24 : decode b_M_finding 24 = .ok (.iastore, 1) := by decide +kernel
theorem d_M_finding_25 : decode b_M_finding 25 = .ok (.iload_n 1, 1) := by decide +kernel
theorem d_M_finding_26 : decode b_M_finding 26 = .ok (.ireturn, 1) := by decide +kernel
theorem d_M_become_0 : decode b_M_become 0 = .ok (.aload_n 0, 1) := by decide +kernel
theorem d_M_become_1 : decode b_M_become 1 = .ok (.getfield 9, 3) := by decide +kernel
theorem d_M_become_4 : decode b_M_become 4 = .ok (.iload_n 1, 1) := by decide +kernel
theorem d_M_become_5 : decode b_M_become 5 = .ok (.iaload, 1) := by decide +kernel
theorem d_M_become_6 : decode b_M_become 6 = .ok (.istore_n 3, 1) := by decide +kernel
theorem d_M_become_7 : decode b_M_become 7 = .ok (.aload_n 0, 1) := by decide +kernel
theorem d_M_become_8 : decode b_M_become 8 = .ok (.getfield 9, 3) := by decide +kernel
theorem d_M_become_11 : decode b_M_become 11 = .ok (.iload_n 1, 1) := by decide +kernel
theorem d_M_become_12 : decode b_M_become 12 = .ok (.iload_n 2, 1) := by decide +kernel
theorem d_M_become_13 : decode b_M_become 13 = .ok (.iastore, 1) := by decide +kernel
theorem d_M_become_14 : decode b_M_become 14 = .ok (.iload_n 3, 1) := by decide +kernel
theorem d_M_become_15 : decode b_M_become 15 = .ok (.ireturn, 1) := by decide +kernel
theorem d_M_cellOf_0 : decode b_M_cellOf 0 = .ok (.iload_n 1, 1) := by decide +kernel
theorem d_M_cellOf_1 : decode b_M_cellOf 1 = .ok (.invokestatic 90, 3) := by decide +kernel
theorem d_M_cellOf_4 : decode b_M_cellOf 4 = .ok (.ifCond .ne 10, 3) := by decide +kernel
theorem d_M_cellOf_7 : decode b_M_cellOf 7 = .ok (.aload_n 0, 1) := by decide +kernel
theorem d_M_cellOf_8 : decode b_M_cellOf 8 = .ok (.ldc 81, 2) := by decide +kernel
theorem d_M_cellOf_10 : decode b_M_cellOf 10 = .ok (.invokevirtual 94, 3) := by decide +kernel
theorem d_M_cellOf_13 : decode b_M_cellOf 13 = .ok (.ireturn, 1) := by decide +kernel
theorem d_M_cellOf_14 : decode b_M_cellOf 14 = .ok (.iload_n 2, 1) := by decide +kernel
theorem d_M_cellOf_15 : decode b_M_cellOf 15 = .ok (.tableswitch 65 0 3 #[29, 39, 49, 55], 29) := by decide +kernel
theorem d_M_cellOf_44 : decode b_M_cellOf 44 = .ok (.aload_n 0, 1) := by decide +kernel
theorem d_M_cellOf_45 : decode b_M_cellOf 45 = .ok (.getfield 9, 3) := by decide +kernel
theorem d_M_cellOf_48 : decode b_M_cellOf 48 = .ok (.bipush 50, 2) := by decide +kernel
theorem d_M_cellOf_50 : decode b_M_cellOf 50 = .ok (.iload_n 1, 1) := by decide +kernel
theorem d_M_cellOf_51 : decode b_M_cellOf 51 = .ok (.iadd, 1) := by decide +kernel
theorem d_M_cellOf_52 : decode b_M_cellOf 52 = .ok (.iaload, 1) := by decide +kernel
theorem d_M_cellOf_53 : decode b_M_cellOf 53 = .ok (.ireturn, 1) := by decide +kernel
theorem d_M_cellOf_54 : decode b_M_cellOf 54 = .ok (.aload_n 0, 1) := by decide +kernel
theorem d_M_cellOf_55 : decode b_M_cellOf 55 = .ok (.getfield 9, 3) := by decide +kernel
theorem d_M_cellOf_58 : decode b_M_cellOf 58 = .ok (.bipush 86, 2) := by decide +kernel
theorem d_M_cellOf_60 : decode b_M_cellOf 60 = .ok (.iload_n 1, 1) := by decide +kernel
theorem d_M_cellOf_61 : decode b_M_cellOf 61 = .ok (.iadd, 1) := by decide +kernel
theorem d_M_cellOf_62 : decode b_M_cellOf 62 = .ok (.iaload, 1) := by decide +kernel
theorem d_M_cellOf_63 : decode b_M_cellOf 63 = .ok (.ireturn, 1) := by decide +kernel
theorem d_M_cellOf_64 : decode b_M_cellOf 64 = .ok (.aload_n 0, 1) := by decide +kernel
theorem d_M_cellOf_65 : decode b_M_cellOf 65 = .ok (.iload_n 1, 1) := by decide +kernel
theorem d_M_cellOf_66 : decode b_M_cellOf 66 = .ok (.invokevirtual 106, 3) := by decide +kernel
theorem d_M_cellOf_69 : decode b_M_cellOf 69 = .ok (.ireturn, 1) := by decide +kernel
theorem d_M_cellOf_70 : decode b_M_cellOf 70 = .ok (.aload_n 0, 1) := by decide +kernel
theorem d_M_cellOf_71 : decode b_M_cellOf 71 = .ok (.getfield 9, 3) := by decide +kernel
theorem d_M_cellOf_74 : decode b_M_cellOf 74 = .ok (.bipush 122, 2) := by decide +kernel
theorem d_M_cellOf_76 : decode b_M_cellOf 76 = .ok (.iload_n 1, 1) := by decide +kernel
theorem d_M_cellOf_77 : decode b_M_cellOf 77 = .ok (.iadd, 1) := by decide +kernel
theorem d_M_cellOf_78 : decode b_M_cellOf 78 = .ok (.iaload, 1) := by decide +kernel
theorem d_M_cellOf_79 : decode b_M_cellOf 79 = .ok (.ireturn, 1) := by decide +kernel
theorem d_M_cellOf_80 : decode b_M_cellOf 80 = .ok (.aload_n 0, 1) := by decide +kernel
theorem d_M_cellOf_81 : decode b_M_cellOf 81 = .ok (.ldc 81, 2) := by decide +kernel
theorem d_M_cellOf_83 : decode b_M_cellOf 83 = .ok (.invokevirtual 94, 3) := by decide +kernel
theorem d_M_cellOf_86 : decode b_M_cellOf 86 = .ok (.ireturn, 1) := by decide +kernel
theorem d_M_farmAt_0 : decode b_M_farmAt 0 = .ok (.iconst (-1), 1) := by decide +kernel
theorem d_M_farmAt_1 : decode b_M_farmAt 1 = .ok (.istore_n 2, 1) := by decide +kernel
theorem d_M_farmAt_2 : decode b_M_farmAt 2 = .ok (.iconst 0, 1) := by decide +kernel
theorem d_M_farmAt_3 : decode b_M_farmAt 3 = .ok (.istore_n 3, 1) := by decide +kernel
theorem d_M_farmAt_4 : decode b_M_farmAt 4 = .ok (.iload_n 3, 1) := by decide +kernel
theorem d_M_farmAt_5 : decode b_M_farmAt 5 = .ok (.aload_n 0, 1) := by decide +kernel
theorem d_M_farmAt_6 : decode b_M_farmAt 6 = .ok (.getfield 9, 3) := by decide +kernel
theorem d_M_farmAt_9 : decode b_M_farmAt 9 = .ok (.bipush 10, 2) := by decide +kernel
theorem d_M_farmAt_11 : decode b_M_farmAt 11 = .ok (.iaload, 1) := by decide +kernel
theorem d_M_farmAt_12 : decode b_M_farmAt 12 = .ok (.if_icmp .ge 25, 3) := by decide +kernel
theorem d_M_farmAt_15 : decode b_M_farmAt 15 = .ok (.aload_n 0, 1) := by decide +kernel
theorem d_M_farmAt_16 : decode b_M_farmAt 16 = .ok (.iload_n 3, 1) := by decide +kernel
theorem d_M_farmAt_17 : decode b_M_farmAt 17 = .ok (.iconst 1, 1) := by decide +kernel
theorem d_M_farmAt_18 : decode b_M_farmAt 18 = .ok (.invokevirtual 103, 3) := by decide +kernel
theorem d_M_farmAt_21 : decode b_M_farmAt 21 = .ok (.iload_n 1, 1) := by decide +kernel
theorem d_M_farmAt_22 : decode b_M_farmAt 22 = .ok (.if_icmp .ne 7, 3) := by decide +kernel
theorem d_M_farmAt_25 : decode b_M_farmAt 25 = .ok (.iload_n 3, 1) := by decide +kernel
theorem d_M_farmAt_26 : decode b_M_farmAt 26 = .ok (.goto 4, 3) := by decide +kernel
theorem d_M_farmAt_29 : decode b_M_farmAt 29 = .ok (.iload_n 2, 1) := by decide +kernel
theorem d_M_farmAt_30 : decode b_M_farmAt 30 = .ok (.istore_n 2, 1) := by decide +kernel
theorem d_M_farmAt_31 : decode b_M_farmAt 31 = .ok (.iinc 3 1, 3) := by decide +kernel
theorem d_M_farmAt_34 : decode b_M_farmAt 34 = .ok (.goto (-30), 3) := by decide +kernel
theorem d_M_farmAt_37 : decode b_M_farmAt 37 = .ok (.iload_n 2, 1) := by decide +kernel
theorem d_M_farmAt_38 : decode b_M_farmAt 38 = .ok (.ireturn, 1) := by decide +kernel
theorem d_M_farmIs_0 : decode b_M_farmIs 0 = .ok (.aload_n 0, 1) := by decide +kernel
theorem d_M_farmIs_1 : decode b_M_farmIs 1 = .ok (.getfield 9, 3) := by decide +kernel
theorem d_M_farmIs_4 : decode b_M_farmIs 4 = .ok (.sipush 158, 3) := by decide +kernel
theorem d_M_farmIs_7 : decode b_M_farmIs 7 = .ok (.iconst 5, 1) := by decide +kernel
theorem d_M_farmIs_8 : decode b_M_farmIs 8 = .ok (.iload_n 1, 1) := by decide +kernel
theorem d_M_farmIs_9 : decode b_M_farmIs 9 = .ok (.imul, 1) := by decide +kernel
theorem d_M_farmIs_10 : decode b_M_farmIs 10 = .ok (.iadd, 1) := by decide +kernel
theorem d_M_farmIs_11 : decode b_M_farmIs 11 = .ok (.iload_n 2, 1) := by decide +kernel
theorem d_M_farmIs_12 : decode b_M_farmIs 12 = .ok (.iadd, 1) := by decide +kernel
theorem d_M_farmIs_13 : decode b_M_farmIs 13 = .ok (.iaload, 1) := by decide +kernel
theorem d_M_farmIs_14 : decode b_M_farmIs 14 = .ok (.ireturn, 1) := by decide +kernel
theorem d_M_vent_0 : decode b_M_vent 0 = .ok (.iload_n 1, 1) := by decide +kernel
theorem d_M_vent_1 : decode b_M_vent 1 = .ok (.invokestatic 90, 3) := by decide +kernel
theorem d_M_vent_4 : decode b_M_vent 4 = .ok (.ifCond .eq 12, 3) := by decide +kernel
theorem d_M_vent_7 : decode b_M_vent 7 = .ok (.aload_n 0, 1) := by decide +kernel
theorem d_M_vent_8 : decode b_M_vent 8 = .ok (.iconst 3, 1) := by decide +kernel
theorem d_M_vent_9 : decode b_M_vent 9 = .ok (.iload_n 1, 1) := by decide +kernel
theorem d_M_vent_10 : decode b_M_vent 10 = .ok (.invokevirtual 97, 3) := by decide +kernel
theorem d_M_vent_13 : decode b_M_vent 13 = .ok (.goto 9, 3) := by decide +kernel
theorem d_M_vent_16 : decode b_M_vent 16 = .ok (.aload_n 0, 1) := by decide +kernel
theorem d_M_vent_17 : decode b_M_vent 17 = .ok (.ldc 81, 2) := by decide +kernel
theorem d_M_vent_19 : decode b_M_vent 19 = .ok (.invokevirtual 94, 3) := by decide +kernel
theorem d_M_vent_22 : decode b_M_vent 22 = .ok (.ireturn, 1) := by decide +kernel
theorem d_M_wall_0 : decode b_M_wall 0 = .ok (.aload_n 0, 1) := by decide +kernel
theorem d_M_wall_1 : decode b_M_wall 1 = .ok (.iload_n 1, 1) := by decide +kernel
theorem d_M_wall_2 : decode b_M_wall 2 = .ok (.iload_n 2, 1) := by decide +kernel
theorem d_M_wall_3 : decode b_M_wall 3 = .ok (.invokevirtual 109, 3) := by decide +kernel
theorem d_M_wall_6 : decode b_M_wall 6 = .ok (.istore 4, 2) := by decide +kernel
theorem d_M_wall_8 : decode b_M_wall 8 = .ok (.iload 4, 2) := by decide +kernel
theorem d_M_wall_10 : decode b_M_wall 10 = .ok (.ifCond .ge 10, 3) := by decide +kernel
theorem d_M_wall_13 : decode b_M_wall 13 = .ok (.aload_n 0, 1) := by decide +kernel
theorem d_M_wall_14 : decode b_M_wall 14 = .ok (.ldc 81, 2) := by decide +kernel
theorem d_M_wall_16 : decode b_M_wall 16 = .ok (.invokevirtual 94, 3) := by decide +kernel
theorem d_M_wall_19 : decode b_M_wall 19 = .ok (.ireturn, 1) := by decide +kernel
theorem d_M_wall_20 : decode b_M_wall 20 = .ok (.aload_n 0, 1) := by decide +kernel
theorem d_M_wall_21 : decode b_M_wall 21 = .ok (.iload_n 1, 1) := by decide +kernel
theorem d_M_wall_22 : decode b_M_wall 22 = .ok (.iload 4, 2) := by decide +kernel
theorem d_M_wall_24 : decode b_M_wall 24 = .ok (.invokevirtual 112, 3) := by decide +kernel
theorem d_M_wall_27 : decode b_M_wall 27 = .ok (.iload_n 3, 1) := by decide +kernel
theorem d_M_wall_28 : decode b_M_wall 28 = .ok (.if_icmp .ne 7, 3) := by decide +kernel
theorem d_M_wall_31 : decode b_M_wall 31 = .ok (.iconst 0, 1) := by decide +kernel
theorem d_M_wall_32 : decode b_M_wall 32 = .ok (.goto 4, 3) := by decide +kernel
theorem d_M_wall_35 : decode b_M_wall 35 = .ok (.iconst 1, 1) := by decide +kernel
theorem d_M_wall_36 : decode b_M_wall 36 = .ok (.istore 5, 2) := by decide +kernel
theorem d_M_wall_38 : decode b_M_wall 38 = .ok (.aload_n 0, 1) := by decide +kernel
theorem d_M_wall_39 : decode b_M_wall 39 = .ok (.iload_n 1, 1) := by decide +kernel
theorem d_M_wall_40 : decode b_M_wall 40 = .ok (.iload 4, 2) := by decide +kernel
theorem d_M_wall_42 : decode b_M_wall 42 = .ok (.iload_n 3, 1) := by decide +kernel
theorem d_M_wall_43 : decode b_M_wall 43 = .ok (.invokevirtual 116, 3) := by decide +kernel
theorem d_M_wall_46 : decode b_M_wall 46 = .ok (.iload 5, 2) := by decide +kernel
theorem d_M_wall_48 : decode b_M_wall 48 = .ok (.ireturn, 1) := by decide +kernel
theorem d_M_wayTo_0 : decode b_M_wayTo 0 = .ok (.iconst (-1), 1) := by decide +kernel
theorem d_M_wayTo_1 : decode b_M_wayTo 1 = .ok (.istore_n 3, 1) := by decide +kernel
theorem d_M_wayTo_2 : decode b_M_wayTo 2 = .ok (.iconst 0, 1) := by decide +kernel
theorem d_M_wayTo_3 : decode b_M_wayTo 3 = .ok (.istore 4, 2) := by decide +kernel
theorem d_M_wayTo_5 : decode b_M_wayTo 5 = .ok (.iload 4, 2) := by decide +kernel
theorem d_M_wayTo_7 : decode b_M_wayTo 7 = .ok (.iconst 4, 1) := by decide +kernel
theorem d_M_wayTo_8 : decode b_M_wayTo 8 = .ok (.if_icmp .ge 41, 3) := by decide +kernel
theorem d_M_wayTo_11 : decode b_M_wayTo 11 = .ok (.iload_n 1, 1) := by decide +kernel
theorem d_M_wayTo_12 : decode b_M_wayTo 12 = .ok (.invokestatic 90, 3) := by decide +kernel
theorem d_M_wayTo_15 : decode b_M_wayTo 15 = .ok (.ifCond .eq 34, 3) := by decide +kernel
theorem d_M_wayTo_18 : decode b_M_wayTo 18 = .ok (.iload_n 2, 1) := by decide +kernel
theorem d_M_wayTo_19 : decode b_M_wayTo 19 = .ok (.invokestatic 90, 3) := by decide +kernel
theorem d_M_wayTo_22 : decode b_M_wayTo 22 = .ok (.ifCond .eq 27, 3) := by decide +kernel
theorem d_M_wayTo_25 : decode b_M_wayTo 25 = .ok (.aload_n 0, 1) := by decide +kernel
theorem d_M_wayTo_26 : decode b_M_wayTo 26 = .ok (.iload_n 1, 1) := by decide +kernel
theorem d_M_wayTo_27 : decode b_M_wayTo 27 = .ok (.iload 4, 2) := by decide +kernel
theorem d_M_wayTo_29 : decode b_M_wayTo 29 = .ok (.invokevirtual 100, 3) := by decide +kernel
theorem d_M_wayTo_32 : decode b_M_wayTo 32 = .ok (.iload_n 2, 1) := by decide +kernel
theorem d_M_wayTo_33 : decode b_M_wayTo 33 = .ok (.if_icmp .ne 8, 3) := by decide +kernel
theorem d_M_wayTo_36 : decode b_M_wayTo 36 = .ok (.iload 4, 2) := by decide +kernel
theorem d_M_wayTo_38 : decode b_M_wayTo 38 = .ok (.goto 4, 3) := by decide +kernel
theorem d_M_wayTo_41 : decode b_M_wayTo 41 = .ok (.iload_n 3, 1) := by decide +kernel
theorem d_M_wayTo_42 : decode b_M_wayTo 42 = .ok (.istore_n 3, 1) := by decide +kernel
theorem d_M_wayTo_43 : decode b_M_wayTo 43 = .ok (.iinc 4 1, 3) := by decide +kernel
theorem d_M_wayTo_46 : decode b_M_wayTo 46 = .ok (.goto (-41), 3) := by decide +kernel
theorem d_M_wayTo_49 : decode b_M_wayTo 49 = .ok (.iload_n 3, 1) := by decide +kernel
theorem d_M_wayTo_50 : decode b_M_wayTo 50 = .ok (.ireturn, 1) := by decide +kernel
theorem d_M_cellIn_0 : decode b_M_cellIn 0 = .ok (.iload_n 1, 1) := by decide +kernel
theorem d_M_cellIn_1 : decode b_M_cellIn 1 = .ok (.bipush 6, 2) := by decide +kernel
theorem d_M_cellIn_3 : decode b_M_cellIn 3 = .ok (.idiv, 1) := by decide +kernel
theorem d_M_cellIn_4 : decode b_M_cellIn 4 = .ok (.aload_n 0, 1) := by decide +kernel
theorem d_M_cellIn_5 : decode b_M_cellIn 5 = .ok (.getfield 22, 3) := by decide +kernel
theorem d_M_cellIn_8 : decode b_M_cellIn 8 = .ok (.iload_n 2, 1) := by decide +kernel
theorem d_M_cellIn_9 : decode b_M_cellIn 9 = .ok (.iaload, 1) := by decide +kernel
theorem d_M_cellIn_10 : decode b_M_cellIn 10 = .ok (.iadd, 1) := by decide +kernel
theorem d_M_cellIn_11 : decode b_M_cellIn 11 = .ok (.istore_n 3, 1) := by decide +kernel
theorem d_M_cellIn_12 : decode b_M_cellIn 12 = .ok (.iload_n 1, 1) := by decide +kernel
theorem d_M_cellIn_13 : decode b_M_cellIn 13 = .ok (.bipush 6, 2) := by decide +kernel
theorem d_M_cellIn_15 : decode b_M_cellIn 15 = .ok (.irem, 1) := by decide +kernel
theorem d_M_cellIn_16 : decode b_M_cellIn 16 = .ok (.aload_n 0, 1) := by decide +kernel
theorem d_M_cellIn_17 : decode b_M_cellIn 17 = .ok (.getfield 25, 3) := by decide +kernel
theorem d_M_cellIn_20 : decode b_M_cellIn 20 = .ok (.iload_n 2, 1) := by decide +kernel
theorem d_M_cellIn_21 : decode b_M_cellIn 21 = .ok (.iaload, 1) := by decide +kernel
theorem d_M_cellIn_22 : decode b_M_cellIn 22 = .ok (.iadd, 1) := by decide +kernel
theorem d_M_cellIn_23 : decode b_M_cellIn 23 = .ok (.istore 4, 2) := by decide +kernel
theorem d_M_cellIn_25 : decode b_M_cellIn 25 = .ok (.iload_n 3, 1) := by decide +kernel
theorem d_M_cellIn_26 : decode b_M_cellIn 26 = .ok (.iconst 0, 1) := by decide +kernel
theorem d_M_cellIn_27 : decode b_M_cellIn 27 = .ok (.iconst 5, 1) := by decide +kernel
theorem d_M_cellIn_28 : decode b_M_cellIn 28 = .ok (.invokestatic 86, 3) := by decide +kernel
theorem d_M_cellIn_31 : decode b_M_cellIn 31 = .ok (.ifCond .eq 23, 3) := by decide +kernel
theorem d_M_cellIn_34 : decode b_M_cellIn 34 = .ok (.iload 4, 2) := by decide +kernel
theorem d_M_cellIn_36 : decode b_M_cellIn 36 = .ok (.iconst 0, 1) := by decide +kernel
theorem d_M_cellIn_37 : decode b_M_cellIn 37 = .ok (.iconst 5, 1) := by decide +kernel
theorem d_M_cellIn_38 : decode b_M_cellIn 38 = .ok (.invokestatic 86, 3) := by decide +kernel
theorem d_M_cellIn_41 : decode b_M_cellIn 41 = .ok (.ifCond .eq 13, 3) := by decide +kernel
theorem d_M_cellIn_44 : decode b_M_cellIn 44 = .ok (.bipush 6, 2) := by decide +kernel
theorem d_M_cellIn_46 : decode b_M_cellIn 46 = .ok (.iload_n 3, 1) := by decide +kernel
theorem d_M_cellIn_47 : decode b_M_cellIn 47 = .ok (.imul, 1) := by decide +kernel
theorem d_M_cellIn_48 : decode b_M_cellIn 48 = .ok (.iload 4, 2) := by decide +kernel
theorem d_M_cellIn_50 : decode b_M_cellIn 50 = .ok (.iadd, 1) := by decide +kernel
theorem d_M_cellIn_51 : decode b_M_cellIn 51 = .ok (.goto 4, 3) := by decide +kernel
theorem d_M_cellIn_54 : decode b_M_cellIn 54 = .ok (.iconst (-1), 1) := by decide +kernel
theorem d_M_cellIn_55 : decode b_M_cellIn 55 = .ok (.ireturn, 1) := by decide +kernel
theorem d_M_hasWall_0 : decode b_M_hasWall 0 = .ok (.aload_n 0, 1) := by decide +kernel
theorem d_M_hasWall_1 : decode b_M_hasWall 1 = .ok (.getfield 9, 3) := by decide +kernel
theorem d_M_hasWall_4 : decode b_M_hasWall 4 = .ok (.bipush 122, 2) := by decide +kernel
theorem d_M_hasWall_6 : decode b_M_hasWall 6 = .ok (.iload_n 1, 1) := by decide +kernel
theorem d_M_hasWall_7 : decode b_M_hasWall 7 = .ok (.iadd, 1) := by decide +kernel
theorem d_M_hasWall_8 : decode b_M_hasWall 8 = .ok (.iaload, 1) := by decide +kernel
theorem d_M_hasWall_9 : decode b_M_hasWall 9 = .ok (.iload_n 2, 1) := by decide +kernel
theorem d_M_hasWall_10 : decode b_M_hasWall 10 = .ok (.ishr, 1) := by decide +kernel
theorem d_M_hasWall_11 : decode b_M_hasWall 11 = .ok (.iconst 1, 1) := by decide +kernel
theorem d_M_hasWall_12 : decode b_M_hasWall 12 = .ok (.iand, 1) := by decide +kernel
theorem d_M_hasWall_13 : decode b_M_hasWall 13 = .ok (.iconst 1, 1) := by decide +kernel
theorem d_M_hasWall_14 : decode b_M_hasWall 14 = .ok (.if_icmp .ne 7, 3) := by decide +kernel
theorem d_M_hasWall_17 : decode b_M_hasWall 17 = .ok (.iconst 1, 1) := by decide +kernel
theorem d_M_hasWall_18 : decode b_M_hasWall 18 = .ok (.goto 4, 3) := by decide +kernel
theorem d_M_hasWall_21 : decode b_M_hasWall 21 = .ok (.iconst 0, 1) := by decide +kernel
theorem d_M_hasWall_22 : decode b_M_hasWall 22 = .ok (.ireturn, 1) := by decide +kernel
theorem d_M_putWall_0 : decode b_M_putWall 0 = .ok (.aload_n 0, 1) := by decide +kernel
theorem d_M_putWall_1 : decode b_M_putWall 1 = .ok (.iload_n 1, 1) := by decide +kernel
theorem d_M_putWall_2 : decode b_M_putWall 2 = .ok (.iload_n 2, 1) := by decide +kernel
theorem d_M_putWall_3 : decode b_M_putWall 3 = .ok (.invokevirtual 100, 3) := by decide +kernel
theorem d_M_putWall_6 : decode b_M_putWall 6 = .ok (.istore 4, 2) := by decide +kernel
theorem d_M_putWall_8 : decode b_M_putWall 8 = .ok (.iload_n 2, 1) := by decide +kernel
theorem d_M_putWall_9 : decode b_M_putWall 9 = .ok (.iconst 2, 1) := by decide +kernel
theorem d_M_putWall_10 : decode b_M_putWall 10 = .ok (.iadd, 1) := by decide +kernel
theorem d_M_putWall_11 : decode b_M_putWall 11 = .ok (.iconst 4, 1) := by decide +kernel
theorem d_M_putWall_12 : decode b_M_putWall 12 = .ok (.irem, 1) := by decide +kernel
theorem d_M_putWall_13 : decode b_M_putWall 13 = .ok (.istore 5, 2) := by decide +kernel
theorem d_M_putWall_15 : decode b_M_putWall 15 = .ok (.aload_n 0, 1) := by decide +kernel
theorem d_M_putWall_16 : decode b_M_putWall 16 = .ok (.getfield 9, 3) := by decide +kernel
theorem d_M_putWall_19 : decode b_M_putWall 19 = .ok (.bipush 122, 2) := by decide +kernel
theorem d_M_putWall_21 : decode b_M_putWall 21 = .ok (.iload_n 1, 1) := by decide +kernel
theorem d_M_putWall_22 : decode b_M_putWall 22 = .ok (.iadd, 1) := by decide +kernel
theorem d_M_putWall_23 : decode b_M_putWall 23 = .ok (.iload_n 3, 1) := by decide +kernel
theorem d_M_putWall_24 : decode b_M_putWall 24 = .ok (.ifCond .eq 19, 3) := by decide +kernel
theorem d_M_putWall_27 : decode b_M_putWall 27 = .ok (.aload_n 0, 1) := by decide +kernel
theorem d_M_putWall_28 : decode b_M_putWall 28 = .ok (.getfield 9, 3) := by decide +kernel
theorem d_M_putWall_31 : decode b_M_putWall 31 = .ok (.bipush 122, 2) := by decide +kernel
theorem d_M_putWall_33 : decode b_M_putWall 33 = .ok (.iload_n 1, 1) := by decide +kernel
theorem d_M_putWall_34 : decode b_M_putWall 34 = .ok (.iadd, 1) := by decide +kernel
theorem d_M_putWall_35 : decode b_M_putWall 35 = .ok (.iaload, 1) := by decide +kernel
theorem d_M_putWall_36 : decode b_M_putWall 36 = .ok (.iconst 1, 1) := by decide +kernel
theorem d_M_putWall_37 : decode b_M_putWall 37 = .ok (.iload_n 2, 1) := by decide +kernel
theorem d_M_putWall_38 : decode b_M_putWall 38 = .ok (.ishl, 1) := by decide +kernel
theorem d_M_putWall_39 : decode b_M_putWall 39 = .ok (.ior, 1) := by decide +kernel
theorem d_M_putWall_40 : decode b_M_putWall 40 = .ok (.goto 18, 3) := by decide +kernel
theorem d_M_putWall_43 : decode b_M_putWall 43 = .ok (.aload_n 0, 1) := by decide +kernel
theorem d_M_putWall_44 : decode b_M_putWall 44 = .ok (.getfield 9, 3) := by decide +kernel
theorem d_M_putWall_47 : decode b_M_putWall 47 = .ok (.bipush 122, 2) := by decide +kernel
theorem d_M_putWall_49 : decode b_M_putWall 49 = .ok (.iload_n 1, 1) := by decide +kernel
theorem d_M_putWall_50 : decode b_M_putWall 50 = .ok (.iadd, 1) := by decide +kernel
theorem d_M_putWall_51 : decode b_M_putWall 51 = .ok (.iaload, 1) := by decide +kernel
theorem d_M_putWall_52 : decode b_M_putWall 52 = .ok (.iconst 1, 1) := by decide +kernel
theorem d_M_putWall_53 : decode b_M_putWall 53 = .ok (.iload_n 2, 1) := by decide +kernel
theorem d_M_putWall_54 : decode b_M_putWall 54 = .ok (.ishl, 1) := by decide +kernel
theorem d_M_putWall_55 : decode b_M_putWall 55 = .ok (.iconst (-1), 1) := by decide +kernel
theorem d_M_putWall_56 : decode b_M_putWall 56 = .ok (.ixor, 1) := by decide +kernel
theorem d_M_putWall_57 : decode b_M_putWall 57 = .ok (.iand, 1) := by decide +kernel
theorem d_M_putWall_58 : decode b_M_putWall 58 = .ok (.iastore, 1) := by decide +kernel
theorem d_M_putWall_59 : decode b_M_putWall 59 = .ok (.aload_n 0, 1) := by decide +kernel
theorem d_M_putWall_60 : decode b_M_putWall 60 = .ok (.getfield 9, 3) := by decide +kernel
theorem d_M_putWall_63 : decode b_M_putWall 63 = .ok (.bipush 122, 2) := by decide +kernel
theorem d_M_putWall_65 : decode b_M_putWall 65 = .ok (.iload 4, 2) := by decide +kernel
theorem d_M_putWall_67 : decode b_M_putWall 67 = .ok (.iadd, 1) := by decide +kernel
theorem d_M_putWall_68 : decode b_M_putWall 68 = .ok (.iload_n 3, 1) := by decide +kernel
theorem d_M_putWall_69 : decode b_M_putWall 69 = .ok (.ifCond .eq 21, 3) := by decide +kernel
theorem d_M_putWall_72 : decode b_M_putWall 72 = .ok (.aload_n 0, 1) := by decide +kernel
theorem d_M_putWall_73 : decode b_M_putWall 73 = .ok (.getfield 9, 3) := by decide +kernel
theorem d_M_putWall_76 : decode b_M_putWall 76 = .ok (.bipush 122, 2) := by decide +kernel
theorem d_M_putWall_78 : decode b_M_putWall 78 = .ok (.iload 4, 2) := by decide +kernel
theorem d_M_putWall_80 : decode b_M_putWall 80 = .ok (.iadd, 1) := by decide +kernel
theorem d_M_putWall_81 : decode b_M_putWall 81 = .ok (.iaload, 1) := by decide +kernel
theorem d_M_putWall_82 : decode b_M_putWall 82 = .ok (.iconst 1, 1) := by decide +kernel
theorem d_M_putWall_83 : decode b_M_putWall 83 = .ok (.iload 5, 2) := by decide +kernel
theorem d_M_putWall_85 : decode b_M_putWall 85 = .ok (.ishl, 1) := by decide +kernel
theorem d_M_putWall_86 : decode b_M_putWall 86 = .ok (.ior, 1) := by decide +kernel
theorem d_M_putWall_87 : decode b_M_putWall 87 = .ok (.goto 20, 3) := by decide +kernel
theorem d_M_putWall_90 : decode b_M_putWall 90 = .ok (.aload_n 0, 1) := by decide +kernel
theorem d_M_putWall_91 : decode b_M_putWall 91 = .ok (.getfield 9, 3) := by decide +kernel
theorem d_M_putWall_94 : decode b_M_putWall 94 = .ok (.bipush 122, 2) := by decide +kernel
theorem d_M_putWall_96 : decode b_M_putWall 96 = .ok (.iload 4, 2) := by decide +kernel
theorem d_M_putWall_98 : decode b_M_putWall 98 = .ok (.iadd, 1) := by decide +kernel
theorem d_M_putWall_99 : decode b_M_putWall 99 = .ok (.iaload, 1) := by decide +kernel
theorem d_M_putWall_100 : decode b_M_putWall 100 = .ok (.iconst 1, 1) := by decide +kernel
theorem d_M_putWall_101 : decode b_M_putWall 101 = .ok (.iload 5, 2) := by decide +kernel
theorem d_M_putWall_103 : decode b_M_putWall 103 = .ok (.ishl, 1) := by decide +kernel
theorem d_M_putWall_104 : decode b_M_putWall 104 = .ok (.iconst (-1), 1) := by decide +kernel
theorem d_M_putWall_105 : decode b_M_putWall 105 = .ok (.ixor, 1) := by decide +kernel
theorem d_M_putWall_106 : decode b_M_putWall 106 = .ok (.iand, 1) := by decide +kernel
theorem d_M_putWall_107 : decode b_M_putWall 107 = .ok (.iastore, 1) := by decide +kernel
theorem d_M_putWall_108 : decode b_M_putWall 108 = .ok (.return_, 1) := by decide +kernel
theorem d_M_farm_0 : decode b_M_farm 0 = .ok (.iload_n 1, 1) := by decide +kernel
theorem d_M_farm_1 : decode b_M_farm 1 = .ok (.invokestatic 120, 3) := by decide +kernel
theorem d_M_farm_4 : decode b_M_farm 4 = .ok (.ifCond .eq 19, 3) := by decide +kernel
theorem d_M_farm_7 : decode b_M_farm 7 = .ok (.iload_n 2, 1) := by decide +kernel
theorem d_M_farm_8 : decode b_M_farm 8 = .ok (.invokestatic 90, 3) := by decide +kernel
theorem d_M_farm_11 : decode b_M_farm 11 = .ok (.ifCond .eq 12, 3) := by decide +kernel
theorem d_M_farm_14 : decode b_M_farm 14 = .ok (.iload_n 3, 1) := by decide +kernel
theorem d_M_farm_15 : decode b_M_farm 15 = .ok (.iconst 0, 1) := by decide +kernel
theorem d_M_farm_16 : decode b_M_farm 16 = .ok (.iconst 5, 1) := by decide +kernel
theorem d_M_farm_17 : decode b_M_farm 17 = .ok (.invokestatic 86, 3) := by decide +kernel
theorem d_M_farm_20 : decode b_M_farm 20 = .ok (.ifCond .ne 10, 3) := by decide +kernel
theorem d_M_farm_23 : decode b_M_farm 23 = .ok (.aload_n 0, 1) := by decide +kernel
theorem d_M_farm_24 : decode b_M_farm 24 = .ok (.ldc 81, 2) := by decide +kernel
theorem d_M_farm_26 : decode b_M_farm 26 = .ok (.invokevirtual 94, 3) := by decide +kernel
theorem d_M_farm_29 : decode b_M_farm 29 = .ok (.ireturn, 1) := by decide +kernel
theorem d_M_farm_30 : decode b_M_farm 30 = .ok (.aload_n 0, 1) := by decide +kernel
theorem d_M_farm_31 : decode b_M_farm 31 = .ok (.iload_n 2, 1) := by decide +kernel
theorem d_M_farm_32 : decode b_M_farm 32 = .ok (.invokevirtual 106, 3) := by decide +kernel
theorem d_M_farm_35 : decode b_M_farm 35 = .ok (.ifCond .lt 10, 3) := by decide +kernel
theorem d_M_farm_38 : decode b_M_farm 38 = .ok (.aload_n 0, 1) := by decide +kernel
theorem d_M_farm_39 : decode b_M_farm 39 = .ok (.ldc 123, 2) := by decide +kernel
theorem d_M_farm_41 : decode b_M_farm 41 = .ok (.invokevirtual 94, 3) := by decide +kernel
theorem d_M_farm_44 : decode b_M_farm 44 = .ok (.ireturn, 1) := by decide +kernel
theorem d_M_farm_45 : decode b_M_farm 45 = .ok (.aload_n 0, 1) := by decide +kernel
theorem d_M_farm_46 : decode b_M_farm 46 = .ok (.getfield 9, 3) := by decide +kernel
theorem d_M_farm_49 : decode b_M_farm 49 = .ok (.bipush 10, 2) := by decide +kernel
theorem d_M_farm_51 : decode b_M_farm 51 = .ok (.iaload, 1) := by decide +kernel
theorem d_M_farm_52 : decode b_M_farm 52 = .ok (.bipush 12, 2) := by decide +kernel
theorem d_M_farm_54 : decode b_M_farm 54 = .ok (.if_icmp .ne 12, 3) := by decide +kernel
theorem d_M_farm_57 : decode b_M_farm 57 = .ok (.aload_n 0, 1) := by decide +kernel
theorem d_M_farm_58 : decode b_M_farm 58 = .ok (.ldc 124, 2) := by decide +kernel
theorem d_M_farm_60 : decode b_M_farm 60 = .ok (.invokevirtual 94, 3) := by decide +kernel
theorem d_M_farm_63 : decode b_M_farm 63 = .ok (.goto 10, 3) := by decide +kernel
theorem d_M_farm_66 : decode b_M_farm 66 = .ok (.aload_n 0, 1) := by decide +kernel
theorem d_M_farm_67 : decode b_M_farm 67 = .ok (.iload_n 1, 1) := by decide +kernel
theorem d_M_farm_68 : decode b_M_farm 68 = .ok (.iload_n 2, 1) := by decide +kernel
theorem d_M_farm_69 : decode b_M_farm 69 = .ok (.iload_n 3, 1) := by decide +kernel
theorem d_M_farm_70 : decode b_M_farm 70 = .ok (.invokevirtual 125, 3) := by decide +kernel
theorem d_M_farm_73 : decode b_M_farm 73 = .ok (.ireturn, 1) := by decide +kernel
theorem d_M_isKind_0 : decode b_M_isKind 0 = .ok (.iload_n 0, 1) := by decide +kernel
theorem d_M_isKind_1 : decode b_M_isKind 1 = .ok (.iconst 0, 1) := by decide +kernel
theorem d_M_isKind_2 : decode b_M_isKind 2 = .ok (.iconst 5, 1) := by decide +kernel
theorem d_M_isKind_3 : decode b_M_isKind 3 = .ok (.invokestatic 86, 3) := by decide +kernel
theorem d_M_isKind_6 : decode b_M_isKind 6 = .ok (.ireturn, 1) := by decide +kernel
theorem d_M_built_0 : decode b_M_built 0 = .ok (.aload_n 0, 1) := by decide +kernel
theorem d_M_built_1 : decode b_M_built 1 = .ok (.getfield 9, 3) := by decide +kernel
theorem d_M_built_4 : decode b_M_built 4 = .ok (.bipush 10, 2) := by decide +kernel
theorem d_M_built_6 : decode b_M_built 6 = .ok (.iaload, 1) := by decide +kernel
theorem d_M_built_7 : decode b_M_built 7 = .ok (.istore 4, 2) := by decide +kernel
theorem d_M_built_9 : decode b_M_built 9 = .ok (.sipush 158, 3) := by decide +kernel
theorem d_M_built_12 : decode b_M_built 12 = .ok (.iconst 5, 1) := by decide +kernel
theorem d_M_built_13 : decode b_M_built 13 = .ok (.iload 4, 2) := by decide +kernel
theorem d_M_built_15 : decode b_M_built 15 = .ok (.imul, 1) := by decide +kernel
theorem d_M_built_16 : decode b_M_built 16 = .ok (.iadd, 1) := by decide +kernel
theorem d_M_built_17 : decode b_M_built 17 = .ok (.istore 5, 2) := by decide +kernel
theorem d_M_built_19 : decode b_M_built 19 = .ok (.aload_n 0, 1) := by decide +kernel
theorem d_M_built_20 : decode b_M_built 20 = .ok (.getfield 9, 3) := by decide +kernel
theorem d_M_built_23 : decode b_M_built 23 = .ok (.iload 5, 2) := by decide +kernel
theorem d_M_built_25 : decode b_M_built 25 = .ok (.iconst 0, 1) := by decide +kernel
theorem d_M_built_26 : decode b_M_built 26 = .ok (.iadd, 1) := by decide +kernel
theorem d_M_built_27 : decode b_M_built 27 = .ok (.iload_n 1, 1) := by decide +kernel
theorem d_M_built_28 : decode b_M_built 28 = .ok (.iastore, 1) := by decide +kernel
theorem d_M_built_29 : decode b_M_built 29 = .ok (.aload_n 0, 1) := by decide +kernel
theorem d_M_built_30 : decode b_M_built 30 = .ok (.getfield 9, 3) := by decide +kernel
theorem d_M_built_33 : decode b_M_built 33 = .ok (.iload 5, 2) := by decide +kernel
theorem d_M_built_35 : decode b_M_built 35 = .ok (.iconst 1, 1) := by decide +kernel
theorem d_M_built_36 : decode b_M_built 36 = .ok (.iadd, 1) := by decide +kernel
theorem d_M_built_37 : decode b_M_built 37 = .ok (.iload_n 2, 1) := by decide +kernel
theorem d_M_built_38 : decode b_M_built 38 = .ok (.iastore, 1) := by decide +kernel
theorem d_M_built_39 : decode b_M_built 39 = .ok (.aload_n 0, 1) := by decide +kernel
theorem d_M_built_40 : decode b_M_built 40 = .ok (.getfield 9, 3) := by decide +kernel
theorem d_M_built_43 : decode b_M_built 43 = .ok (.iload 5, 2) := by decide +kernel
theorem d_M_built_45 : decode b_M_built 45 = .ok (.iconst 2, 1) := by decide +kernel
theorem d_M_built_46 : decode b_M_built 46 = .ok (.iadd, 1) := by decide +kernel
theorem d_M_built_47 : decode b_M_built 47 = .ok (.iload_n 3, 1) := by decide +kernel
theorem d_M_built_48 : decode b_M_built 48 = .ok (.iastore, 1) := by decide +kernel
theorem d_M_built_49 : decode b_M_built 49 = .ok (.aload_n 0, 1) := by decide +kernel
theorem d_M_built_50 : decode b_M_built 50 = .ok (.getfield 9, 3) := by decide +kernel
theorem d_M_built_53 : decode b_M_built 53 = .ok (.iload 5, 2) := by decide +kernel
theorem d_M_built_55 : decode b_M_built 55 = .ok (.iconst 3, 1) := by decide +kernel
theorem d_M_built_56 : decode b_M_built 56 = .ok (.iadd, 1) := by decide +kernel
theorem d_M_built_57 : decode b_M_built 57 = .ok (.iconst 0, 1) := by decide +kernel
theorem d_M_built_58 : decode b_M_built 58 = .ok (.iastore, 1) := by decide +kernel
theorem d_M_built_59 : decode b_M_built 59 = .ok (.aload_n 0, 1) := by decide +kernel
theorem d_M_built_60 : decode b_M_built 60 = .ok (.getfield 9, 3) := by decide +kernel
theorem d_M_built_63 : decode b_M_built 63 = .ok (.iload 5, 2) := by decide +kernel
theorem d_M_built_65 : decode b_M_built 65 = .ok (.iconst 4, 1) := by decide +kernel
theorem d_M_built_66 : decode b_M_built 66 = .ok (.iadd, 1) := by decide +kernel
theorem d_M_built_67 : decode b_M_built 67 = .ok (.iconst 0, 1) := by decide +kernel
theorem d_M_built_68 : decode b_M_built 68 = .ok (.iastore, 1) := by decide +kernel
theorem d_M_built_69 : decode b_M_built 69 = .ok (.aload_n 0, 1) := by decide +kernel
theorem d_M_built_70 : decode b_M_built 70 = .ok (.getfield 9, 3) := by decide +kernel
theorem d_M_built_73 : decode b_M_built 73 = .ok (.bipush 10, 2) := by decide +kernel
theorem d_M_built_75 : decode b_M_built 75 = .ok (.dup2, 1) := by decide +kernel
theorem d_M_built_76 : decode b_M_built 76 = .ok (.iaload, 1) := by decide +kernel
theorem d_M_built_77 : decode b_M_built 77 = .ok (.iconst 1, 1) := by decide +kernel
theorem d_M_built_78 : decode b_M_built 78 = .ok (.iadd, 1) := by decide +kernel
theorem d_M_built_79 : decode b_M_built 79 = .ok (.iastore, 1) := by decide +kernel
theorem d_M_built_80 : decode b_M_built 80 = .ok (.iload 4, 2) := by decide +kernel
theorem d_M_built_82 : decode b_M_built 82 = .ok (.ireturn, 1) := by decide +kernel
theorem d_M_of_0 : decode b_M_of 0 = .ok (.aload_n 0, 1) := by decide +kernel
theorem d_M_of_1 : decode b_M_of 1 = .ok (.iload_n 1, 1) := by decide +kernel
theorem d_M_of_2 : decode b_M_of 2 = .ok (.invokevirtual 135, 3) := by decide +kernel
theorem d_M_of_5 : decode b_M_of 5 = .ok (.ifCond .eq 12, 3) := by decide +kernel
theorem d_M_of_8 : decode b_M_of 8 = .ok (.iload_n 2, 1) := by decide +kernel
theorem d_M_of_9 : decode b_M_of 9 = .ok (.iconst 0, 1) := by decide +kernel
theorem d_M_of_10 : decode b_M_of 10 = .ok (.iconst 5, 1) := by decide +kernel
theorem d_M_of_11 : decode b_M_of 11 = .ok (.invokestatic 86, 3) := by decide +kernel
theorem d_M_of_14 : decode b_M_of 14 = .ok (.ifCond .ne 10, 3) := by decide +kernel
theorem d_M_of_17 : decode b_M_of 17 = .ok (.aload_n 0, 1) := by decide +kernel
theorem d_M_of_18 : decode b_M_of 18 = .ok (.ldc 81, 2) := by decide +kernel
theorem d_M_of_20 : decode b_M_of 20 = .ok (.invokevirtual 94, 3) := by decide +kernel
theorem d_M_of_23 : decode b_M_of 23 = .ok (.ireturn, 1) := by decide +kernel
theorem d_M_of_24 : decode b_M_of 24 = .ok (.iload_n 2, 1) := by decide +kernel
theorem d_M_of_25 : decode b_M_of 25 = .ok (.iconst 5, 1) := by decide +kernel
theorem d_M_of_26 : decode b_M_of 26 = .ok (.if_icmp .ne 11, 3) := by decide +kernel
theorem d_M_of_29 : decode b_M_of 29 = .ok (.aload_n 0, 1) := by decide +kernel
theorem d_M_of_30 : decode b_M_of 30 = .ok (.iload_n 1, 1) := by decide +kernel
theorem d_M_of_31 : decode b_M_of 31 = .ok (.invokevirtual 138, 3) := by decide +kernel
theorem d_M_of_34 : decode b_M_of 34 = .ok (.goto 9, 3) := by decide +kernel
theorem d_M_of_37 : decode b_M_of 37 = .ok (.aload_n 0, 1) := by decide +kernel
theorem d_M_of_38 : decode b_M_of 38 = .ok (.iload_n 1, 1) := by decide +kernel
theorem d_M_of_39 : decode b_M_of 39 = .ok (.iload_n 2, 1) := by decide +kernel
theorem d_M_of_40 : decode b_M_of 40 = .ok (.invokevirtual 103, 3) := by decide +kernel
theorem d_M_of_43 : decode b_M_of 43 = .ok (.ireturn, 1) := by decide +kernel
theorem d_M_isFarm_0 : decode b_M_isFarm 0 = .ok (.iload_n 1, 1) := by decide +kernel
theorem d_M_isFarm_1 : decode b_M_isFarm 1 = .ok (.iconst 0, 1) := by decide +kernel
theorem d_M_isFarm_2 : decode b_M_isFarm 2 = .ok (.aload_n 0, 1) := by decide +kernel
theorem d_M_isFarm_3 : decode b_M_isFarm 3 = .ok (.getfield 9, 3) := by decide +kernel
theorem d_M_isFarm_6 : decode b_M_isFarm 6 = .ok (.bipush 10, 2) := by decide +kernel
theorem d_M_isFarm_8 : decode b_M_isFarm 8 = .ok (.iaload, 1) := by decide +kernel
theorem d_M_isFarm_9 : decode b_M_isFarm 9 = .ok (.iconst 1, 1) := by decide +kernel
theorem d_M_isFarm_10 : decode b_M_isFarm 10 = .ok (.isub, 1) := by decide +kernel
theorem d_M_isFarm_11 : decode b_M_isFarm 11 = .ok (.invokestatic 86, 3) := by decide +kernel
theorem d_M_isFarm_14 : decode b_M_isFarm 14 = .ok (.ireturn, 1) := by decide +kernel
theorem d_M_bears_0 : decode b_M_bears 0 = .ok (.aload_n 0, 1) := by decide +kernel
theorem d_M_bears_1 : decode b_M_bears 1 = .ok (.iload_n 1, 1) := by decide +kernel
theorem d_M_bears_2 : decode b_M_bears 2 = .ok (.iconst 4, 1) := by decide +kernel
theorem d_M_bears_3 : decode b_M_bears 3 = .ok (.invokevirtual 103, 3) := by decide +kernel
theorem d_M_bears_6 : decode b_M_bears 6 = .ok (.iconst 1, 1) := by decide +kernel
theorem d_M_bears_7 : decode b_M_bears 7 = .ok (.if_icmp .ne 7, 3) := by decide +kernel
theorem d_M_bears_10 : decode b_M_bears 10 = .ok (.iconst 0, 1) := by decide +kernel
theorem d_M_bears_11 : decode b_M_bears 11 = .ok (.goto 32, 3) := by decide +kernel
theorem d_M_bears_14 : decode b_M_bears 14 = .ok (.aload_n 0, 1) := by decide +kernel
theorem d_M_bears_15 : decode b_M_bears 15 = .ok (.iload_n 1, 1) := by decide +kernel
theorem d_M_bears_16 : decode b_M_bears 16 = .ok (.iconst 0, 1) := by decide +kernel
theorem d_M_bears_17 : decode b_M_bears 17 = .ok (.invokevirtual 103, 3) := by decide +kernel
theorem d_M_bears_20 : decode b_M_bears 20 = .ok (.aload_n 0, 1) := by decide +kernel
theorem d_M_bears_21 : decode b_M_bears 21 = .ok (.getfield 9, 3) := by decide +kernel
theorem d_M_bears_24 : decode b_M_bears 24 = .ok (.bipush 86, 2) := by decide +kernel
theorem d_M_bears_26 : decode b_M_bears 26 = .ok (.aload_n 0, 1) := by decide +kernel
theorem d_M_bears_27 : decode b_M_bears 27 = .ok (.iload_n 1, 1) := by decide +kernel
theorem d_M_bears_28 : decode b_M_bears 28 = .ok (.iconst 1, 1) := by decide +kernel
theorem d_M_bears_29 : decode b_M_bears 29 = .ok (.invokevirtual 103, 3) := by decide +kernel
theorem d_M_bears_32 : decode b_M_bears 32 = .ok (.iadd, 1) := by decide +kernel
theorem d_M_bears_33 : decode b_M_bears 33 = .ok (.iaload, 1) := by decide +kernel
theorem d_M_bears_34 : decode b_M_bears 34 = .ok (.aload_n 0, 1) := by decide +kernel
theorem d_M_bears_35 : decode b_M_bears 35 = .ok (.getfield 9, 3) := by decide +kernel
theorem d_M_bears_38 : decode b_M_bears 38 = .ok (.iconst 4, 1) := by decide +kernel
theorem d_M_bears_39 : decode b_M_bears 39 = .ok (.iaload, 1) := by decide +kernel
theorem d_M_bears_40 : decode b_M_bears 40 = .ok (.invokestatic 132, 3) := by decide +kernel
theorem d_M_bears_43 : decode b_M_bears 43 = .ok (.ireturn, 1) := by decide +kernel
theorem d_M_bearsAt_0 : decode b_M_bearsAt 0 = .ok (.iload_n 1, 1) := by decide +kernel
theorem d_M_bearsAt_1 : decode b_M_bearsAt 1 = .ok (.iconst 5, 1) := by decide +kernel
theorem d_M_bearsAt_2 : decode b_M_bearsAt 2 = .ok (.if_icmp .lt 8, 3) := by decide +kernel
theorem d_M_bearsAt_5 : decode b_M_bearsAt 5 = .ok (.bipush 10, 2) := by decide +kernel
theorem d_M_bearsAt_7 : decode b_M_bearsAt 7 = .ok (.goto 4, 3) := by decide +kernel
theorem d_M_bearsAt_10 : decode b_M_bearsAt 10 = .ok (.iconst 0, 1) := by decide +kernel
theorem d_M_bearsAt_11 : decode b_M_bearsAt 11 = .ok (.istore_n 3, 1) := by decide +kernel
theorem d_M_bearsAt_12 : decode b_M_bearsAt 12 = .ok (.iload_n 3, 1) := by decide +kernel
theorem d_M_bearsAt_13 : decode b_M_bearsAt 13 = .ok (.iload_n 2, 1) := by decide +kernel
theorem d_M_bearsAt_14 : decode b_M_bearsAt 14 = .ok (.bipush 10, 2) := by decide +kernel
theorem d_M_bearsAt_16 : decode b_M_bearsAt 16 = .ok (.if_icmp .ge 12, 3) := by decide +kernel
theorem d_M_bearsAt_19 : decode b_M_bearsAt 19 = .ok (.iconst 2, 1) := by decide +kernel
theorem d_M_bearsAt_20 : decode b_M_bearsAt 20 = .ok (.bipush 10, 2) := by decide +kernel
theorem d_M_bearsAt_22 : decode b_M_bearsAt 22 = .ok (.iload_n 2, 1) := by decide +kernel
theorem d_M_bearsAt_23 : decode b_M_bearsAt 23 = .ok (.isub, 1) := by decide +kernel
theorem d_M_bearsAt_24 : decode b_M_bearsAt 24 = .ok (.imul, 1) := by decide +kernel
theorem d_M_bearsAt_25 : decode b_M_bearsAt 25 = .ok (.goto 4, 3) := by decide +kernel
theorem d_M_bearsAt_28 : decode b_M_bearsAt 28 = .ok (.iconst 0, 1) := by decide +kernel
theorem d_M_bearsAt_29 : decode b_M_bearsAt 29 = .ok (.iadd, 1) := by decide +kernel
theorem d_M_bearsAt_30 : decode b_M_bearsAt 30 = .ok (.istore 4, 2) := by decide +kernel
theorem d_M_bearsAt_32 : decode b_M_bearsAt 32 = .ok (.iload_n 3, 1) := by decide +kernel
theorem d_M_bearsAt_33 : decode b_M_bearsAt 33 = .ok (.bipush 25, 2) := by decide +kernel
theorem d_M_bearsAt_35 : decode b_M_bearsAt 35 = .ok (.iload_n 1, 1) := by decide +kernel
theorem d_M_bearsAt_36 : decode b_M_bearsAt 36 = .ok (.iconst 2, 1) := by decide +kernel
theorem d_M_bearsAt_37 : decode b_M_bearsAt 37 = .ok (.idiv, 1) := by decide +kernel
theorem d_M_bearsAt_38 : decode b_M_bearsAt 38 = .ok (.invokestatic 129, 3) := by decide +kernel
theorem d_M_bearsAt_41 : decode b_M_bearsAt 41 = .ok (.iadd, 1) := by decide +kernel
theorem d_M_bearsAt_42 : decode b_M_bearsAt 42 = .ok (.istore 5, 2) := by decide +kernel
theorem d_M_bearsAt_44 : decode b_M_bearsAt 44 = .ok (.iload_n 0, 1) := by decide +kernel
theorem d_M_bearsAt_45 : decode b_M_bearsAt 45 = .ok (.tableswitch 65 1 5 #[35, 38, 41, 46, 49], 35) := by decide +kernel
theorem d_M_bearsAt_80 : decode b_M_bearsAt 80 = .ok (.iload 4, 2) := by decide +kernel
theorem d_M_bearsAt_82 : decode b_M_bearsAt 82 = .ok (.ireturn, 1) := by decide +kernel
theorem d_M_bearsAt_83 : decode b_M_bearsAt 83 = .ok (.iload 5, 2) := by decide +kernel
theorem d_M_bearsAt_85 : decode b_M_bearsAt 85 = .ok (.ireturn, 1) := by decide +kernel
theorem d_M_bearsAt_86 : decode b_M_bearsAt 86 = .ok (.iload 4, 2) := by decide +kernel
theorem d_M_bearsAt_88 : decode b_M_bearsAt 88 = .ok (.iconst 3, 1) := by decide +kernel
theorem d_M_bearsAt_89 : decode b_M_bearsAt 89 = .ok (.iadd, 1) := by decide +kernel
theorem d_M_bearsAt_90 : decode b_M_bearsAt 90 = .ok (.ireturn, 1) := by decide +kernel
theorem d_M_bearsAt_91 : decode b_M_bearsAt 91 = .ok (.bipush 6, 2) := by decide +kernel
theorem d_M_bearsAt_93 : decode b_M_bearsAt 93 = .ok (.ireturn, 1) := by decide +kernel
theorem d_M_bearsAt_94 : decode b_M_bearsAt 94 = .ok (.iload 5, 2) := by decide +kernel
theorem d_M_bearsAt_96 : decode b_M_bearsAt 96 = .ok (.iload_n 1, 1) := by decide +kernel
theorem d_M_bearsAt_97 : decode b_M_bearsAt 97 = .ok (.bipush 50, 2) := by decide +kernel
theorem d_M_bearsAt_99 : decode b_M_bearsAt 99 = .ok (.if_icmp .lt 8, 3) := by decide +kernel
theorem d_M_bearsAt_102 : decode b_M_bearsAt 102 = .ok (.bipush 10, 2) := by decide +kernel
theorem d_M_bearsAt_104 : decode b_M_bearsAt 104 = .ok (.goto 4, 3) := by decide +kernel
theorem d_M_bearsAt_107 : decode b_M_bearsAt 107 = .ok (.iconst 0, 1) := by decide +kernel
theorem d_M_bearsAt_108 : decode b_M_bearsAt 108 = .ok (.iadd, 1) := by decide +kernel
theorem d_M_bearsAt_109 : decode b_M_bearsAt 109 = .ok (.ireturn, 1) := by decide +kernel
theorem d_M_bearsAt_110 : decode b_M_bearsAt 110 = .ok (.iload_n 3, 1) := by decide +kernel
theorem d_M_bearsAt_111 : decode b_M_bearsAt 111 = .ok (.ireturn, 1) := by decide +kernel
theorem d_M_sow_0 : decode b_M_sow 0 = .ok (.aload_n 0, 1) := by decide +kernel
theorem d_M_sow_1 : decode b_M_sow 1 = .ok (.iload_n 1, 1) := by decide +kernel
theorem d_M_sow_2 : decode b_M_sow 2 = .ok (.invokevirtual 135, 3) := by decide +kernel
theorem d_M_sow_5 : decode b_M_sow 5 = .ok (.ifCond .eq 27, 3) := by decide +kernel
theorem d_M_sow_8 : decode b_M_sow 8 = .ok (.iload_n 2, 1) := by decide +kernel
theorem d_M_sow_9 : decode b_M_sow 9 = .ok (.invokestatic 120, 3) := by decide +kernel
theorem d_M_sow_12 : decode b_M_sow 12 = .ok (.ifCond .eq 20, 3) := by decide +kernel
theorem d_M_sow_15 : decode b_M_sow 15 = .ok (.aload_n 0, 1) := by decide +kernel
theorem d_M_sow_16 : decode b_M_sow 16 = .ok (.sipush 158, 3) := by decide +kernel
theorem d_M_sow_19 : decode b_M_sow 19 = .ok (.iconst 5, 1) := by decide +kernel
theorem d_M_sow_20 : decode b_M_sow 20 = .ok (.iload_n 1, 1) := by decide +kernel
theorem d_M_sow_21 : decode b_M_sow 21 = .ok (.imul, 1) := by decide +kernel
theorem d_M_sow_22 : decode b_M_sow 22 = .ok (.iadd, 1) := by decide +kernel
theorem d_M_sow_23 : decode b_M_sow 23 = .ok (.iconst 0, 1) := by decide +kernel
theorem d_M_sow_24 : decode b_M_sow 24 = .ok (.iadd, 1) := by decide +kernel
theorem d_M_sow_25 : decode b_M_sow 25 = .ok (.iload_n 2, 1) := by decide +kernel
theorem d_M_sow_26 : decode b_M_sow 26 = .ok (.invokevirtual 97, 3) := by decide +kernel
theorem d_M_sow_29 : decode b_M_sow 29 = .ok (.goto 9, 3) := by decide +kernel
theorem d_M_sow_32 : decode b_M_sow 32 = .ok (.aload_n 0, 1) := by decide +kernel
theorem d_M_sow_33 : decode b_M_sow 33 = .ok (.ldc 81, 2) := by decide +kernel
theorem d_M_sow_35 : decode b_M_sow 35 = .ok (.invokevirtual 94, 3) := by decide +kernel
theorem d_M_sow_38 : decode b_M_sow 38 = .ok (.ireturn, 1) := by decide +kernel
theorem d_M_as_0 : decode b_M_as 0 = .ok (.aload_n 0, 1) := by decide +kernel
theorem d_M_as_1 : decode b_M_as 1 = .ok (.iload_n 1, 1) := by decide +kernel
theorem d_M_as_2 : decode b_M_as 2 = .ok (.invokevirtual 135, 3) := by decide +kernel
theorem d_M_as_5 : decode b_M_as 5 = .ok (.ifCond .eq 10, 3) := by decide +kernel
theorem d_M_as_8 : decode b_M_as 8 = .ok (.iload_n 2, 1) := by decide +kernel
theorem d_M_as_9 : decode b_M_as 9 = .ok (.invokestatic 120, 3) := by decide +kernel
theorem d_M_as_12 : decode b_M_as 12 = .ok (.ifCond .ne 10, 3) := by decide +kernel
theorem d_M_as_15 : decode b_M_as 15 = .ok (.aload_n 0, 1) := by decide +kernel
theorem d_M_as_16 : decode b_M_as 16 = .ok (.ldc 81, 2) := by decide +kernel
theorem d_M_as_18 : decode b_M_as 18 = .ok (.invokevirtual 94, 3) := by decide +kernel
theorem d_M_as_21 : decode b_M_as 21 = .ok (.ireturn, 1) := by decide +kernel
theorem d_M_as_22 : decode b_M_as 22 = .ok (.aload_n 0, 1) := by decide +kernel
theorem d_M_as_23 : decode b_M_as 23 = .ok (.iload_n 1, 1) := by decide +kernel
theorem d_M_as_24 : decode b_M_as 24 = .ok (.iconst 0, 1) := by decide +kernel
theorem d_M_as_25 : decode b_M_as 25 = .ok (.invokevirtual 103, 3) := by decide +kernel
theorem d_M_as_28 : decode b_M_as 28 = .ok (.istore_n 3, 1) := by decide +kernel
theorem d_M_as_29 : decode b_M_as 29 = .ok (.iload_n 3, 1) := by decide +kernel
theorem d_M_as_30 : decode b_M_as 30 = .ok (.ifCond .lt 16, 3) := by decide +kernel
theorem d_M_as_33 : decode b_M_as 33 = .ok (.iload_n 3, 1) := by decide +kernel
theorem d_M_as_34 : decode b_M_as 34 = .ok (.iload_n 2, 1) := by decide +kernel
theorem d_M_as_35 : decode b_M_as 35 = .ok (.if_icmp .eq 11, 3) := by decide +kernel
theorem d_M_as_38 : decode b_M_as 38 = .ok (.iload_n 3, 1) := by decide +kernel
theorem d_M_as_39 : decode b_M_as 39 = .ok (.invokestatic 141, 3) := by decide +kernel
theorem d_M_as_42 : decode b_M_as 42 = .ok (.istore_n 3, 1) := by decide +kernel
theorem d_M_as_43 : decode b_M_as 43 = .ok (.goto (-14), 3) := by decide +kernel
theorem d_M_as_46 : decode b_M_as 46 = .ok (.iload_n 3, 1) := by decide +kernel
theorem d_M_as_47 : decode b_M_as 47 = .ok (.ifCond .ge 12, 3) := by decide +kernel
theorem d_M_as_50 : decode b_M_as 50 = .ok (.aload_n 0, 1) := by decide +kernel
theorem d_M_as_51 : decode b_M_as 51 = .ok (.ldc 144, 2) := by decide +kernel
theorem d_M_as_53 : decode b_M_as 53 = .ok (.invokevirtual 94, 3) := by decide +kernel
theorem d_M_as_56 : decode b_M_as 56 = .ok (.goto 9, 3) := by decide +kernel
theorem d_M_as_59 : decode b_M_as 59 = .ok (.aload_n 0, 1) := by decide +kernel
theorem d_M_as_60 : decode b_M_as 60 = .ok (.iload_n 1, 1) := by decide +kernel
theorem d_M_as_61 : decode b_M_as 61 = .ok (.iconst 1, 1) := by decide +kernel
theorem d_M_as_62 : decode b_M_as 62 = .ok (.invokevirtual 103, 3) := by decide +kernel
theorem d_M_as_65 : decode b_M_as 65 = .ok (.ireturn, 1) := by decide +kernel
theorem d_M_above_0 : decode b_M_above 0 = .ok (.iload_n 0, 1) := by decide +kernel
theorem d_M_above_1 : decode b_M_above 1 = .ok (.ifCond .ne 7, 3) := by decide +kernel
theorem d_M_above_4 : decode b_M_above 4 = .ok (.iconst (-1), 1) := by decide +kernel
theorem d_M_above_5 : decode b_M_above 5 = .ok (.goto 22, 3) := by decide +kernel
theorem d_M_above_8 : decode b_M_above 8 = .ok (.iload_n 0, 1) := by decide +kernel
theorem d_M_above_9 : decode b_M_above 9 = .ok (.iconst 3, 1) := by decide +kernel
theorem d_M_above_10 : decode b_M_above 10 = .ok (.if_icmp .ne 7, 3) := by decide +kernel
theorem d_M_above_13 : decode b_M_above 13 = .ok (.iconst 1, 1) := by decide +kernel
theorem d_M_above_14 : decode b_M_above 14 = .ok (.goto 13, 3) := by decide +kernel
theorem d_M_above_17 : decode b_M_above 17 = .ok (.iload_n 0, 1) := by decide +kernel
theorem d_M_above_18 : decode b_M_above 18 = .ok (.iconst 5, 1) := by decide +kernel
theorem d_M_above_19 : decode b_M_above 19 = .ok (.if_icmp .ne 7, 3) := by decide +kernel
theorem d_M_above_22 : decode b_M_above 22 = .ok (.iconst 2, 1) := by decide +kernel
theorem d_M_above_23 : decode b_M_above 23 = .ok (.goto 4, 3) := by decide +kernel
theorem d_M_above_26 : decode b_M_above 26 = .ok (.iconst 0, 1) := by decide +kernel
theorem d_M_above_27 : decode b_M_above 27 = .ok (.ireturn, 1) := by decide +kernel
theorem d_M_build_0 : decode b_M_build 0 = .ok (.aload_n 0, 1) := by decide +kernel
theorem d_M_build_1 : decode b_M_build 1 = .ok (.iload_n 1, 1) := by decide +kernel
theorem d_M_build_2 : decode b_M_build 2 = .ok (.invokevirtual 135, 3) := by decide +kernel
theorem d_M_build_5 : decode b_M_build 5 = .ok (.ifCond .ne 10, 3) := by decide +kernel
theorem d_M_build_8 : decode b_M_build 8 = .ok (.aload_n 0, 1) := by decide +kernel
theorem d_M_build_9 : decode b_M_build 9 = .ok (.ldc 81, 2) := by decide +kernel
theorem d_M_build_11 : decode b_M_build 11 = .ok (.invokevirtual 94, 3) := by decide +kernel
theorem d_M_build_14 : decode b_M_build 14 = .ok (.ireturn, 1) := by decide +kernel
theorem d_M_build_15 : decode b_M_build 15 = .ok (.aload_n 0, 1) := by decide +kernel
theorem d_M_build_16 : decode b_M_build 16 = .ok (.iload_n 1, 1) := by decide +kernel
theorem d_M_build_17 : decode b_M_build 17 = .ok (.iconst 4, 1) := by decide +kernel
theorem d_M_build_18 : decode b_M_build 18 = .ok (.invokevirtual 103, 3) := by decide +kernel
theorem d_M_build_21 : decode b_M_build 21 = .ok (.ifCond .ne 10, 3) := by decide +kernel
theorem d_M_build_24 : decode b_M_build 24 = .ok (.aload_n 0, 1) := by decide +kernel
theorem d_M_build_25 : decode b_M_build 25 = .ok (.ldc 123, 2) := by decide +kernel
theorem d_M_build_27 : decode b_M_build 27 = .ok (.invokevirtual 94, 3) := by decide +kernel
theorem d_M_build_30 : decode b_M_build 30 = .ok (.ireturn, 1) := by decide +kernel
theorem d_M_build_31 : decode b_M_build 31 = .ok (.sipush 158, 3) := by decide +kernel
theorem d_M_build_34 : decode b_M_build 34 = .ok (.iconst 5, 1) := by decide +kernel
theorem d_M_build_35 : decode b_M_build 35 = .ok (.iload_n 1, 1) := by decide +kernel
theorem d_M_build_36 : decode b_M_build 36 = .ok (.imul, 1) := by decide +kernel
theorem d_M_build_37 : decode b_M_build 37 = .ok (.iadd, 1) := by decide +kernel
theorem d_M_build_38 : decode b_M_build 38 = .ok (.istore_n 2, 1) := by decide +kernel
theorem d_M_build_39 : decode b_M_build 39 = .ok (.aload_n 0, 1) := by decide +kernel
theorem d_M_build_40 : decode b_M_build 40 = .ok (.getfield 9, 3) := by decide +kernel
theorem d_M_build_43 : decode b_M_build 43 = .ok (.iload_n 2, 1) := by decide +kernel
theorem d_M_build_44 : decode b_M_build 44 = .ok (.iconst 4, 1) := by decide +kernel
theorem d_M_build_45 : decode b_M_build 45 = .ok (.iadd, 1) := by decide +kernel
theorem d_M_build_46 : decode b_M_build 46 = .ok (.iconst 0, 1) := by decide +kernel
theorem d_M_build_47 : decode b_M_build 47 = .ok (.iastore, 1) := by decide +kernel
theorem d_M_build_48 : decode b_M_build 48 = .ok (.aload_n 0, 1) := by decide +kernel
theorem d_M_build_49 : decode b_M_build 49 = .ok (.getfield 9, 3) := by decide +kernel
theorem d_M_build_52 : decode b_M_build 52 = .ok (.iload_n 2, 1) := by decide +kernel
theorem d_M_build_53 : decode b_M_build 53 = .ok (.iconst 3, 1) := by decide +kernel
theorem d_M_build_54 : decode b_M_build 54 = .ok (.iadd, 1) := by decide +kernel
theorem d_M_build_55 : decode b_M_build 55 = .ok (.dup2, 1) := by decide +kernel
theorem d_M_build_56 : decode b_M_build 56 = .ok (.iaload, 1) := by decide +kernel
theorem d_M_build_57 : decode b_M_build 57 = .ok (.bipush 20, 2) := by decide +kernel
theorem d_M_build_59 : decode b_M_build 59 = .ok (.isub, 1) := by decide +kernel
theorem d_M_build_60 : decode b_M_build 60 = .ok (.iastore, 1) := by decide +kernel
theorem d_M_build_61 : decode b_M_build 61 = .ok (.aload_n 0, 1) := by decide +kernel
theorem d_M_build_62 : decode b_M_build 62 = .ok (.getfield 9, 3) := by decide +kernel
theorem d_M_build_65 : decode b_M_build 65 = .ok (.iload_n 2, 1) := by decide +kernel
theorem d_M_build_66 : decode b_M_build 66 = .ok (.iconst 3, 1) := by decide +kernel
theorem d_M_build_67 : decode b_M_build 67 = .ok (.iadd, 1) := by decide +kernel
theorem d_M_build_68 : decode b_M_build 68 = .ok (.iaload, 1) := by decide +kernel
theorem d_M_build_69 : decode b_M_build 69 = .ok (.ireturn, 1) := by decide +kernel
theorem d_M_coins_0 : decode b_M_coins 0 = .ok (.iload_n 1, 1) := by decide +kernel
theorem d_M_coins_1 : decode b_M_coins 1 = .ok (.iconst 0, 1) := by decide +kernel
theorem d_M_coins_2 : decode b_M_coins 2 = .ok (.iconst 5, 1) := by decide +kernel
theorem d_M_coins_3 : decode b_M_coins 3 = .ok (.invokestatic 86, 3) := by decide +kernel
theorem d_M_coins_6 : decode b_M_coins 6 = .ok (.ifCond .eq 11, 3) := by decide +kernel
theorem d_M_coins_9 : decode b_M_coins 9 = .ok (.aload_n 0, 1) := by decide +kernel
theorem d_M_coins_10 : decode b_M_coins 10 = .ok (.iload_n 1, 1) := by decide +kernel
theorem d_M_coins_11 : decode b_M_coins 11 = .ok (.invokevirtual 145, 3) := by decide +kernel
theorem d_M_coins_14 : decode b_M_coins 14 = .ok (.goto 9, 3) := by decide +kernel
theorem d_M_coins_17 : decode b_M_coins 17 = .ok (.aload_n 0, 1) := by decide +kernel
theorem d_M_coins_18 : decode b_M_coins 18 = .ok (.ldc 81, 2) := by decide +kernel
theorem d_M_coins_20 : decode b_M_coins 20 = .ok (.invokevirtual 94, 3) := by decide +kernel
theorem d_M_coins_23 : decode b_M_coins 23 = .ok (.ireturn, 1) := by decide +kernel
theorem d_M_coinsOf_0 : decode b_M_coinsOf 0 = .ok (.iconst 0, 1) := by decide +kernel
theorem d_M_coinsOf_1 : decode b_M_coinsOf 1 = .ok (.istore_n 2, 1) := by decide +kernel
theorem d_M_coinsOf_2 : decode b_M_coinsOf 2 = .ok (.iconst 0, 1) := by decide +kernel
theorem d_M_coinsOf_3 : decode b_M_coinsOf 3 = .ok (.istore_n 3, 1) := by decide +kernel
theorem d_M_coinsOf_4 : decode b_M_coinsOf 4 = .ok (.iload_n 3, 1) := by decide +kernel
theorem d_M_coinsOf_5 : decode b_M_coinsOf 5 = .ok (.aload_n 0, 1) := by decide +kernel
theorem d_M_coinsOf_6 : decode b_M_coinsOf 6 = .ok (.getfield 9, 3) := by decide +kernel
theorem d_M_coinsOf_9 : decode b_M_coinsOf 9 = .ok (.bipush 10, 2) := by decide +kernel
theorem d_M_coinsOf_11 : decode b_M_coinsOf 11 = .ok (.iaload, 1) := by decide +kernel
theorem d_M_coinsOf_12 : decode b_M_coinsOf 12 = .ok (.if_icmp .ge 36, 3) := by decide +kernel
theorem d_M_coinsOf_15 : decode b_M_coinsOf 15 = .ok (.iload_n 2, 1) := by decide +kernel
theorem d_M_coinsOf_16 : decode b_M_coinsOf 16 = .ok (.iload_n 1, 1) := by decide +kernel
theorem d_M_coinsOf_17 : decode b_M_coinsOf 17 = .ok (.ifCond .lt 13, 3) := by decide +kernel
theorem d_M_coinsOf_20 : decode b_M_coinsOf 20 = .ok (.aload_n 0, 1) := by decide +kernel
theorem d_M_coinsOf_21 : decode b_M_coinsOf 21 = .ok (.iload_n 3, 1) := by decide +kernel
theorem d_M_coinsOf_22 : decode b_M_coinsOf 22 = .ok (.iconst 2, 1) := by decide +kernel
theorem d_M_coinsOf_23 : decode b_M_coinsOf 23 = .ok (.invokevirtual 103, 3) := by decide +kernel
theorem d_M_coinsOf_26 : decode b_M_coinsOf 26 = .ok (.iload_n 1, 1) := by decide +kernel
theorem d_M_coinsOf_27 : decode b_M_coinsOf 27 = .ok (.if_icmp .ne 12, 3) := by decide +kernel
theorem d_M_coinsOf_30 : decode b_M_coinsOf 30 = .ok (.aload_n 0, 1) := by decide +kernel
theorem d_M_coinsOf_31 : decode b_M_coinsOf 31 = .ok (.iload_n 3, 1) := by decide +kernel
theorem d_M_coinsOf_32 : decode b_M_coinsOf 32 = .ok (.iconst 3, 1) := by decide +kernel
theorem d_M_coinsOf_33 : decode b_M_coinsOf 33 = .ok (.invokevirtual 103, 3) := by decide +kernel
theorem d_M_coinsOf_36 : decode b_M_coinsOf 36 = .ok (.goto 4, 3) := by decide +kernel
theorem d_M_coinsOf_39 : decode b_M_coinsOf 39 = .ok (.iconst 0, 1) := by decide +kernel
theorem d_M_coinsOf_40 : decode b_M_coinsOf 40 = .ok (.iadd, 1) := by decide +kernel
theorem d_M_coinsOf_41 : decode b_M_coinsOf 41 = .ok (.istore_n 2, 1) := by decide +kernel
theorem d_M_coinsOf_42 : decode b_M_coinsOf 42 = .ok (.iinc 3 1, 3) := by decide +kernel
theorem d_M_coinsOf_45 : decode b_M_coinsOf 45 = .ok (.goto (-41), 3) := by decide +kernel
theorem d_M_coinsOf_48 : decode b_M_coinsOf 48 = .ok (.iload_n 2, 1) := by decide +kernel
theorem d_M_coinsOf_49 : decode b_M_coinsOf 49 = .ok (.ireturn, 1) := by decide +kernel
theorem d_M_best_0 : decode b_M_best 0 = .ok (.aload_n 0, 1) := by decide +kernel
theorem d_M_best_1 : decode b_M_best 1 = .ok (.iload_n 1, 1) := by decide +kernel
theorem d_M_best_2 : decode b_M_best 2 = .ok (.invokevirtual 135, 3) := by decide +kernel
theorem d_M_best_5 : decode b_M_best 5 = .ok (.ifCond .ne 10, 3) := by decide +kernel
theorem d_M_best_8 : decode b_M_best 8 = .ok (.aload_n 0, 1) := by decide +kernel
theorem d_M_best_9 : decode b_M_best 9 = .ok (.ldc 81, 2) := by decide +kernel
theorem d_M_best_11 : decode b_M_best 11 = .ok (.invokevirtual 94, 3) := by decide +kernel
theorem d_M_best_14 : decode b_M_best 14 = .ok (.ireturn, 1) := by decide +kernel
theorem d_M_best_15 : decode b_M_best 15 = .ok (.aload_n 0, 1) := by decide +kernel
theorem d_M_best_16 : decode b_M_best 16 = .ok (.getfield 9, 3) := by decide +kernel
theorem d_M_best_19 : decode b_M_best 19 = .ok (.bipush 86, 2) := by decide +kernel
theorem d_M_best_21 : decode b_M_best 21 = .ok (.aload_n 0, 1) := by decide +kernel
theorem d_M_best_22 : decode b_M_best 22 = .ok (.iload_n 1, 1) := by decide +kernel
theorem d_M_best_23 : decode b_M_best 23 = .ok (.iconst 1, 1) := by decide +kernel
theorem d_M_best_24 : decode b_M_best 24 = .ok (.invokevirtual 103, 3) := by decide +kernel
theorem d_M_best_27 : decode b_M_best 27 = .ok (.iadd, 1) := by decide +kernel
theorem d_M_best_28 : decode b_M_best 28 = .ok (.iaload, 1) := by decide +kernel
theorem d_M_best_29 : decode b_M_best 29 = .ok (.istore_n 2, 1) := by decide +kernel
theorem d_M_best_30 : decode b_M_best 30 = .ok (.iconst 0, 1) := by decide +kernel
theorem d_M_best_31 : decode b_M_best 31 = .ok (.istore_n 3, 1) := by decide +kernel
theorem d_M_best_32 : decode b_M_best 32 = .ok (.iconst 1, 1) := by decide +kernel
theorem d_M_best_33 : decode b_M_best 33 = .ok (.istore 4, 2) := by decide +kernel
theorem d_M_best_35 : decode b_M_best 35 = .ok (.iload 4, 2) := by decide +kernel
theorem d_M_best_37 : decode b_M_best 37 = .ok (.iconst 5, 1) := by decide +kernel
theorem d_M_best_38 : decode b_M_best 38 = .ok (.if_icmp .gt 42, 3) := by decide +kernel
theorem d_M_best_41 : decode b_M_best 41 = .ok (.iload 4, 2) := by decide +kernel
theorem d_M_best_43 : decode b_M_best 43 = .ok (.iload_n 2, 1) := by decide +kernel
theorem d_M_best_44 : decode b_M_best 44 = .ok (.aload_n 0, 1) := by decide +kernel
theorem d_M_best_45 : decode b_M_best 45 = .ok (.getfield 9, 3) := by decide +kernel
theorem d_M_best_48 : decode b_M_best 48 = .ok (.iconst 4, 1) := by decide +kernel
theorem d_M_best_49 : decode b_M_best 49 = .ok (.iaload, 1) := by decide +kernel
theorem d_M_best_50 : decode b_M_best 50 = .ok (.invokestatic 132, 3) := by decide +kernel
theorem d_M_best_53 : decode b_M_best 53 = .ok (.iload_n 3, 1) := by decide +kernel
theorem d_M_best_54 : decode b_M_best 54 = .ok (.iload_n 2, 1) := by decide +kernel
theorem d_M_best_55 : decode b_M_best 55 = .ok (.aload_n 0, 1) := by decide +kernel
theorem d_M_best_56 : decode b_M_best 56 = .ok (.getfield 9, 3) := by decide +kernel
theorem d_M_best_59 : decode b_M_best 59 = .ok (.iconst 4, 1) := by decide +kernel
theorem d_M_best_60 : decode b_M_best 60 = .ok (.iaload, 1) := by decide +kernel
theorem d_M_best_61 : decode b_M_best 61 = .ok (.invokestatic 132, 3) := by decide +kernel
theorem d_M_best_64 : decode b_M_best 64 = .ok (.if_icmp .le 8, 3) := by decide +kernel
theorem d_M_best_67 : decode b_M_best 67 = .ok (.iload 4, 2) := by decide +kernel
theorem d_M_best_69 : decode b_M_best 69 = .ok (.goto 4, 3) := by decide +kernel
theorem d_M_best_72 : decode b_M_best 72 = .ok (.iload_n 3, 1) := by decide +kernel
theorem d_M_best_73 : decode b_M_best 73 = .ok (.istore_n 3, 1) := by decide +kernel
theorem d_M_best_74 : decode b_M_best 74 = .ok (.iinc 4 1, 3) := by decide +kernel
theorem d_M_best_77 : decode b_M_best 77 = .ok (.goto (-42), 3) := by decide +kernel
theorem d_M_best_80 : decode b_M_best 80 = .ok (.iload_n 3, 1) := by decide +kernel
theorem d_M_best_81 : decode b_M_best 81 = .ok (.ireturn, 1) := by decide +kernel
theorem d_M_harvest_0 : decode b_M_harvest 0 = .ok (.iload_n 1, 1) := by decide +kernel
theorem d_M_harvest_1 : decode b_M_harvest 1 = .ok (.invokestatic 120, 3) := by decide +kernel
theorem d_M_harvest_4 : decode b_M_harvest 4 = .ok (.ifCond .eq 20, 3) := by decide +kernel
theorem d_M_harvest_7 : decode b_M_harvest 7 = .ok (.iload_n 2, 1) := by decide +kernel
theorem d_M_harvest_8 : decode b_M_harvest 8 = .ok (.invokestatic 90, 3) := by decide +kernel
theorem d_M_harvest_11 : decode b_M_harvest 11 = .ok (.ifCond .eq 13, 3) := by decide +kernel
theorem d_M_harvest_14 : decode b_M_harvest 14 = .ok (.iload_n 3, 1) := by decide +kernel
theorem d_M_harvest_15 : decode b_M_harvest 15 = .ok (.iconst 0, 1) := by decide +kernel
theorem d_M_harvest_16 : decode b_M_harvest 16 = .ok (.bipush 50, 2) := by decide +kernel
theorem d_M_harvest_18 : decode b_M_harvest 18 = .ok (.invokestatic 86, 3) := by decide +kernel
theorem d_M_harvest_21 : decode b_M_harvest 21 = .ok (.ifCond .ne 10, 3) := by decide +kernel
theorem d_M_harvest_24 : decode b_M_harvest 24 = .ok (.aload_n 0, 1) := by decide +kernel
theorem d_M_harvest_25 : decode b_M_harvest 25 = .ok (.ldc 81, 2) := by decide +kernel
theorem d_M_harvest_27 : decode b_M_harvest 27 = .ok (.invokevirtual 94, 3) := by decide +kernel
theorem d_M_harvest_30 : decode b_M_harvest 30 = .ok (.ireturn, 1) := by decide +kernel
theorem d_M_harvest_31 : decode b_M_harvest 31 = .ok (.iconst 0, 1) := by decide +kernel
theorem d_M_harvest_32 : decode b_M_harvest 32 = .ok (.istore 4, 2) := by decide +kernel
theorem d_M_harvest_34 : decode b_M_harvest 34 = .ok (.iconst 0, 1) := by decide +kernel
theorem d_M_harvest_35 : decode b_M_harvest 35 = .ok (.istore 5, 2) := by decide +kernel
theorem d_M_harvest_37 : decode b_M_harvest 37 = .ok (.iload 5, 2) := by decide +kernel
theorem d_M_harvest_39 : decode b_M_harvest 39 = .ok (.iload_n 3, 1) := by decide +kernel
theorem d_M_harvest_40 : decode b_M_harvest 40 = .ok (.if_icmp .ge 49, 3) := by decide +kernel
theorem d_M_harvest_43 : decode b_M_harvest 43 = .ok (.iload 4, 2) := by decide +kernel
theorem d_M_harvest_45 : decode b_M_harvest 45 = .ok (.iload_n 1, 1) := by decide +kernel
theorem d_M_harvest_46 : decode b_M_harvest 46 = .ok (.bipush 99, 2) := by decide +kernel
theorem d_M_harvest_48 : decode b_M_harvest 48 = .ok (.aload_n 0, 1) := by decide +kernel
theorem d_M_harvest_49 : decode b_M_harvest 49 = .ok (.getfield 9, 3) := by decide +kernel
theorem d_M_harvest_52 : decode b_M_harvest 52 = .ok (.bipush 86, 2) := by decide +kernel
theorem d_M_harvest_54 : decode b_M_harvest 54 = .ok (.iload_n 2, 1) := by decide +kernel
theorem d_M_harvest_55 : decode b_M_harvest 55 = .ok (.iadd, 1) := by decide +kernel
theorem d_M_harvest_56 : decode b_M_harvest 56 = .ok (.iaload, 1) := by decide +kernel
theorem d_M_harvest_57 : decode b_M_harvest 57 = .ok (.iload 5, 2) := by decide +kernel
theorem d_M_harvest_59 : decode b_M_harvest 59 = .ok (.iadd, 1) := by decide +kernel
theorem d_M_harvest_60 : decode b_M_harvest 60 = .ok (.invokestatic 129, 3) := by decide +kernel
theorem d_M_harvest_63 : decode b_M_harvest 63 = .ok (.bipush 99, 2) := by decide +kernel
theorem d_M_harvest_65 : decode b_M_harvest 65 = .ok (.aload_n 0, 1) := by decide +kernel
theorem d_M_harvest_66 : decode b_M_harvest 66 = .ok (.getfield 9, 3) := by decide +kernel
theorem d_M_harvest_69 : decode b_M_harvest 69 = .ok (.iconst 4, 1) := by decide +kernel
theorem d_M_harvest_70 : decode b_M_harvest 70 = .ok (.iaload, 1) := by decide +kernel
theorem d_M_harvest_71 : decode b_M_harvest 71 = .ok (.iload 5, 2) := by decide +kernel
theorem d_M_harvest_73 : decode b_M_harvest 73 = .ok (.iadd, 1) := by decide +kernel
theorem d_M_harvest_74 : decode b_M_harvest 74 = .ok (.invokestatic 129, 3) := by decide +kernel
theorem d_M_harvest_77 : decode b_M_harvest 77 = .ok (.invokestatic 132, 3) := by decide +kernel
theorem d_M_harvest_80 : decode b_M_harvest 80 = .ok (.iadd, 1) := by decide +kernel
theorem d_M_harvest_81 : decode b_M_harvest 81 = .ok (.istore 4, 2) := by decide +kernel
theorem d_M_harvest_83 : decode b_M_harvest 83 = .ok (.iinc 5 1, 3) := by decide +kernel
theorem d_M_harvest_86 : decode b_M_harvest 86 = .ok (.goto (-49), 3) := by decide +kernel
theorem d_M_harvest_89 : decode b_M_harvest 89 = .ok (.iload 4, 2) := by decide +kernel
theorem d_M_harvest_91 : decode b_M_harvest 91 = .ok (.ireturn, 1) := by decide +kernel
theorem d_M_tenths_0 : decode b_M_tenths 0 = .ok (.iload_n 3, 1) := by decide +kernel
theorem d_M_tenths_1 : decode b_M_tenths 1 = .ok (.iconst 0, 1) := by decide +kernel
theorem d_M_tenths_2 : decode b_M_tenths 2 = .ok (.bipush 10, 2) := by decide +kernel
theorem d_M_tenths_4 : decode b_M_tenths 4 = .ok (.invokestatic 86, 3) := by decide +kernel
theorem d_M_tenths_7 : decode b_M_tenths 7 = .ok (.ifCond .eq 41, 3) := by decide +kernel
theorem d_M_tenths_10 : decode b_M_tenths 10 = .ok (.iload 4, 2) := by decide +kernel
theorem d_M_tenths_12 : decode b_M_tenths 12 = .ok (.iconst 0, 1) := by decide +kernel
theorem d_M_tenths_13 : decode b_M_tenths 13 = .ok (.bipush 10, 2) := by decide +kernel
theorem d_M_tenths_15 : decode b_M_tenths 15 = .ok (.invokestatic 86, 3) := by decide +kernel
theorem d_M_tenths_18 : decode b_M_tenths 18 = .ok (.ifCond .eq 30, 3) := by decide +kernel
theorem d_M_tenths_21 : decode b_M_tenths 21 = .ok (.iload 5, 2) := by decide +kernel
theorem d_M_tenths_23 : decode b_M_tenths 23 = .ok (.iconst 0, 1) := by decide +kernel
theorem d_M_tenths_24 : decode b_M_tenths 24 = .ok (.bipush 10, 2) := by decide +kernel
theorem d_M_tenths_26 : decode b_M_tenths 26 = .ok (.invokestatic 86, 3) := by decide +kernel
theorem d_M_tenths_29 : decode b_M_tenths 29 = .ok (.ifCond .eq 19, 3) := by decide +kernel
theorem d_M_tenths_32 : decode b_M_tenths 32 = .ok (.iload_n 3, 1) := by decide +kernel
theorem d_M_tenths_33 : decode b_M_tenths 33 = .ok (.iload 4, 2) := by decide +kernel
theorem d_M_tenths_35 : decode b_M_tenths 35 = .ok (.iadd, 1) := by decide +kernel
theorem d_M_tenths_36 : decode b_M_tenths 36 = .ok (.iload 5, 2) := by decide +kernel
theorem d_M_tenths_38 : decode b_M_tenths 38 = .ok (.iadd, 1) := by decide +kernel
theorem d_M_tenths_39 : decode b_M_tenths 39 = .ok (.bipush 10, 2) := by decide +kernel
theorem d_M_tenths_41 : decode b_M_tenths 41 = .ok (.if_icmp .gt 7, 3) := by decide +kernel
theorem d_M_tenths_44 : decode b_M_tenths 44 = .ok (.iconst 1, 1) := by decide +kernel
theorem d_M_tenths_45 : decode b_M_tenths 45 = .ok (.goto 4, 3) := by decide +kernel
theorem d_M_tenths_48 : decode b_M_tenths 48 = .ok (.iconst 0, 1) := by decide +kernel
theorem d_M_tenths_49 : decode b_M_tenths 49 = .ok (.istore 6, 2) := by decide +kernel
theorem d_M_tenths_51 : decode b_M_tenths 51 = .ok (.iload_n 1, 1) := by decide +kernel
theorem d_M_tenths_52 : decode b_M_tenths 52 = .ok (.iconst 0, 1) := by decide +kernel
theorem d_M_tenths_53 : decode b_M_tenths 53 = .ok (.iconst 1, 1) := by decide +kernel
theorem d_M_tenths_54 : decode b_M_tenths 54 = .ok (.invokestatic 86, 3) := by decide +kernel
theorem d_M_tenths_57 : decode b_M_tenths 57 = .ok (.ifCond .eq 15, 3) := by decide +kernel
theorem d_M_tenths_60 : decode b_M_tenths 60 = .ok (.iload_n 2, 1) := by decide +kernel
theorem d_M_tenths_61 : decode b_M_tenths 61 = .ok (.invokestatic 148, 3) := by decide +kernel
theorem d_M_tenths_64 : decode b_M_tenths 64 = .ok (.ifCond .eq 8, 3) := by decide +kernel
theorem d_M_tenths_67 : decode b_M_tenths 67 = .ok (.iload 6, 2) := by decide +kernel
theorem d_M_tenths_69 : decode b_M_tenths 69 = .ok (.ifCond .ne 10, 3) := by decide +kernel
theorem d_M_tenths_72 : decode b_M_tenths 72 = .ok (.aload_n 0, 1) := by decide +kernel
theorem d_M_tenths_73 : decode b_M_tenths 73 = .ok (.ldc 81, 2) := by decide +kernel
theorem d_M_tenths_75 : decode b_M_tenths 75 = .ok (.invokevirtual 94, 3) := by decide +kernel
theorem d_M_tenths_78 : decode b_M_tenths 78 = .ok (.ireturn, 1) := by decide +kernel
theorem d_M_tenths_79 : decode b_M_tenths 79 = .ok (.iload_n 1, 1) := by decide +kernel
theorem d_M_tenths_80 : decode b_M_tenths 80 = .ok (.ifCond .ne 8, 3) := by decide +kernel
theorem d_M_tenths_83 : decode b_M_tenths 83 = .ok (.bipush 18, 2) := by decide +kernel
theorem d_M_tenths_85 : decode b_M_tenths 85 = .ok (.goto 5, 3) := by decide +kernel
theorem d_M_tenths_88 : decode b_M_tenths 88 = .ok (.bipush 34, 2) := by decide +kernel
theorem d_M_tenths_90 : decode b_M_tenths 90 = .ok (.iconst 4, 1) := by decide +kernel
theorem d_M_tenths_91 : decode b_M_tenths 91 = .ok (.iload_n 2, 1) := by decide +kernel
theorem d_M_tenths_92 : decode b_M_tenths 92 = .ok (.imul, 1) := by decide +kernel
theorem d_M_tenths_93 : decode b_M_tenths 93 = .ok (.iadd, 1) := by decide +kernel
theorem d_M_tenths_94 : decode b_M_tenths 94 = .ok (.istore 7, 2) := by decide +kernel
theorem d_M_tenths_96 : decode b_M_tenths 96 = .ok (.aload_n 0, 1) := by decide +kernel
theorem d_M_tenths_97 : decode b_M_tenths 97 = .ok (.getfield 9, 3) := by decide +kernel
theorem d_M_tenths_100 : decode b_M_tenths 100 = .ok (.iload 7, 2) := by decide +kernel
theorem d_M_tenths_102 : decode b_M_tenths 102 = .ok (.iaload, 1) := by decide +kernel
theorem d_M_tenths_103 : decode b_M_tenths 103 = .ok (.istore 8, 2) := by decide +kernel
theorem d_M_tenths_105 : decode b_M_tenths 105 = .ok (.aload_n 0, 1) := by decide +kernel
theorem d_M_tenths_106 : decode b_M_tenths 106 = .ok (.iload 7, 2) := by decide +kernel
theorem d_M_tenths_108 : decode b_M_tenths 108 = .ok (.iload_n 3, 1) := by decide +kernel
theorem d_M_tenths_109 : decode b_M_tenths 109 = .ok (.iload 4, 2) := by decide +kernel
theorem d_M_tenths_111 : decode b_M_tenths 111 = .ok (.iload 5, 2) := by decide +kernel
theorem d_M_tenths_113 : decode b_M_tenths 113 = .ok (.invokevirtual 151, 3) := by decide +kernel
theorem d_M_tenths_116 : decode b_M_tenths 116 = .ok (.iload 8, 2) := by decide +kernel
theorem d_M_tenths_118 : decode b_M_tenths 118 = .ok (.ireturn, 1) := by decide +kernel
theorem d_M_isState_0 : decode b_M_isState 0 = .ok (.iload_n 0, 1) := by decide +kernel
theorem d_M_isState_1 : decode b_M_isState 1 = .ok (.iconst 0, 1) := by decide +kernel
theorem d_M_isState_2 : decode b_M_isState 2 = .ok (.iconst 3, 1) := by decide +kernel
theorem d_M_isState_3 : decode b_M_isState 3 = .ok (.invokestatic 86, 3) := by decide +kernel
theorem d_M_isState_6 : decode b_M_isState 6 = .ok (.ireturn, 1) := by decide +kernel
theorem d_M_putTenths_0 : decode b_M_putTenths 0 = .ok (.aload_n 0, 1) := by decide +kernel
theorem d_M_putTenths_1 : decode b_M_putTenths 1 = .ok (.getfield 9, 3) := by decide +kernel
theorem d_M_putTenths_4 : decode b_M_putTenths 4 = .ok (.iload_n 1, 1) := by decide +kernel
theorem d_M_putTenths_5 : decode b_M_putTenths 5 = .ok (.iload_n 2, 1) := by decide +kernel
theorem d_M_putTenths_6 : decode b_M_putTenths 6 = .ok (.iastore, 1) := by decide +kernel
theorem d_M_putTenths_7 : decode b_M_putTenths 7 = .ok (.aload_n 0, 1) := by decide +kernel
theorem d_M_putTenths_8 : decode b_M_putTenths 8 = .ok (.getfield 9, 3) := by decide +kernel
theorem d_M_putTenths_11 : decode b_M_putTenths 11 = .ok (.iload_n 1, 1) := by decide +kernel
theorem d_M_putTenths_12 : decode b_M_putTenths 12 = .ok (.iconst 1, 1) := by decide +kernel
theorem d_M_putTenths_13 : decode b_M_putTenths 13 = .ok (.iadd, 1) := by decide +kernel
theorem d_M_putTenths_14 : decode b_M_putTenths 14 = .ok (.iload_n 3, 1) := by decide +kernel
theorem d_M_putTenths_15 : decode b_M_putTenths 15 = .ok (.iastore, 1) := by decide +kernel
theorem d_M_putTenths_16 : decode b_M_putTenths 16 = .ok (.aload_n 0, 1) := by decide +kernel
theorem d_M_putTenths_17 : decode b_M_putTenths 17 = .ok (.getfield 9, 3) := by decide +kernel
theorem d_M_putTenths_20 : decode b_M_putTenths 20 = .ok (.iload_n 1, 1) := by decide +kernel
theorem d_M_putTenths_21 : decode b_M_putTenths 21 = .ok (.iconst 2, 1) := by decide +kernel
theorem d_M_putTenths_22 : decode b_M_putTenths 22 = .ok (.iadd, 1) := by decide +kernel
theorem d_M_putTenths_23 : decode b_M_putTenths 23 = .ok (.iload 4, 2) := by decide +kernel
theorem d_M_putTenths_25 : decode b_M_putTenths 25 = .ok (.iastore, 1) := by decide +kernel
theorem d_M_putTenths_26 : decode b_M_putTenths 26 = .ok (.aload_n 0, 1) := by decide +kernel
theorem d_M_putTenths_27 : decode b_M_putTenths 27 = .ok (.getfield 9, 3) := by decide +kernel
theorem d_M_putTenths_30 : decode b_M_putTenths 30 = .ok (.iload_n 1, 1) := by decide +kernel
theorem d_M_putTenths_31 : decode b_M_putTenths 31 = .ok (.iconst 3, 1) := by decide +kernel
theorem d_M_putTenths_32 : decode b_M_putTenths 32 = .ok (.iadd, 1) := by decide +kernel
theorem d_M_putTenths_33 : decode b_M_putTenths 33 = .ok (.bipush 10, 2) := by decide +kernel
theorem d_M_putTenths_35 : decode b_M_putTenths 35 = .ok (.iload_n 2, 1) := by decide +kernel
theorem d_M_putTenths_36 : decode b_M_putTenths 36 = .ok (.isub, 1) := by decide +kernel
theorem d_M_putTenths_37 : decode b_M_putTenths 37 = .ok (.iload_n 3, 1) := by decide +kernel
theorem d_M_putTenths_38 : decode b_M_putTenths 38 = .ok (.isub, 1) := by decide +kernel
theorem d_M_putTenths_39 : decode b_M_putTenths 39 = .ok (.iload 4, 2) := by decide +kernel
theorem d_M_putTenths_41 : decode b_M_putTenths 41 = .ok (.isub, 1) := by decide +kernel
theorem d_M_putTenths_42 : decode b_M_putTenths 42 = .ok (.iastore, 1) := by decide +kernel
theorem d_M_putTenths_43 : decode b_M_putTenths 43 = .ok (.return_, 1) := by decide +kernel
theorem d_M_tenth_0 : decode b_M_tenth 0 = .ok (.iload_n 1, 1) := by decide +kernel
theorem d_M_tenth_1 : decode b_M_tenth 1 = .ok (.iconst 0, 1) := by decide +kernel
theorem d_M_tenth_2 : decode b_M_tenth 2 = .ok (.iconst 1, 1) := by decide +kernel
theorem d_M_tenth_3 : decode b_M_tenth 3 = .ok (.invokestatic 86, 3) := by decide +kernel
theorem d_M_tenth_6 : decode b_M_tenth 6 = .ok (.ifCond .eq 42, 3) := by decide +kernel
theorem d_M_tenth_9 : decode b_M_tenth 9 = .ok (.iload_n 2, 1) := by decide +kernel
theorem d_M_tenth_10 : decode b_M_tenth 10 = .ok (.invokestatic 148, 3) := by decide +kernel
theorem d_M_tenth_13 : decode b_M_tenth 13 = .ok (.ifCond .eq 35, 3) := by decide +kernel
theorem d_M_tenth_16 : decode b_M_tenth 16 = .ok (.iload_n 3, 1) := by decide +kernel
theorem d_M_tenth_17 : decode b_M_tenth 17 = .ok (.invokestatic 148, 3) := by decide +kernel
theorem d_M_tenth_20 : decode b_M_tenth 20 = .ok (.ifCond .eq 28, 3) := by decide +kernel
theorem d_M_tenth_23 : decode b_M_tenth 23 = .ok (.aload_n 0, 1) := by decide +kernel
theorem d_M_tenth_24 : decode b_M_tenth 24 = .ok (.getfield 9, 3) := by decide +kernel
theorem d_M_tenth_27 : decode b_M_tenth 27 = .ok (.iload_n 1, 1) := by decide +kernel
theorem d_M_tenth_28 : decode b_M_tenth 28 = .ok (.ifCond .ne 8, 3) := by decide +kernel
theorem d_M_tenth_31 : decode b_M_tenth 31 = .ok (.bipush 18, 2) := by decide +kernel
theorem d_M_tenth_33 : decode b_M_tenth 33 = .ok (.goto 5, 3) := by decide +kernel
theorem d_M_tenth_36 : decode b_M_tenth 36 = .ok (.bipush 34, 2) := by decide +kernel
theorem d_M_tenth_38 : decode b_M_tenth 38 = .ok (.iconst 4, 1) := by decide +kernel
theorem d_M_tenth_39 : decode b_M_tenth 39 = .ok (.iload_n 2, 1) := by decide +kernel
theorem d_M_tenth_40 : decode b_M_tenth 40 = .ok (.imul, 1) := by decide +kernel
theorem d_M_tenth_41 : decode b_M_tenth 41 = .ok (.iadd, 1) := by decide +kernel
theorem d_M_tenth_42 : decode b_M_tenth 42 = .ok (.iload_n 3, 1) := by decide +kernel
theorem d_M_tenth_43 : decode b_M_tenth 43 = .ok (.iadd, 1) := by decide +kernel
theorem d_M_tenth_44 : decode b_M_tenth 44 = .ok (.iaload, 1) := by decide +kernel
theorem d_M_tenth_45 : decode b_M_tenth 45 = .ok (.goto 9, 3) := by decide +kernel
theorem d_M_tenth_48 : decode b_M_tenth 48 = .ok (.aload_n 0, 1) := by decide +kernel
theorem d_M_tenth_49 : decode b_M_tenth 49 = .ok (.ldc 81, 2) := by decide +kernel
theorem d_M_tenth_51 : decode b_M_tenth 51 = .ok (.invokevirtual 94, 3) := by decide +kernel
theorem d_M_tenth_54 : decode b_M_tenth 54 = .ok (.ireturn, 1) := by decide +kernel
theorem d_M_sees_0 : decode b_M_sees 0 = .ok (.iload_n 1, 1) := by decide +kernel
theorem d_M_sees_1 : decode b_M_sees 1 = .ok (.invokestatic 148, 3) := by decide +kernel
theorem d_M_sees_4 : decode b_M_sees 4 = .ok (.ifCond .ne 10, 3) := by decide +kernel
theorem d_M_sees_7 : decode b_M_sees 7 = .ok (.aload_n 0, 1) := by decide +kernel
theorem d_M_sees_8 : decode b_M_sees 8 = .ok (.ldc 81, 2) := by decide +kernel
theorem d_M_sees_10 : decode b_M_sees 10 = .ok (.invokevirtual 94, 3) := by decide +kernel
theorem d_M_sees_13 : decode b_M_sees 13 = .ok (.ireturn, 1) := by decide +kernel
theorem d_M_sees_14 : decode b_M_sees 14 = .ok (.aload_n 0, 1) := by decide +kernel
theorem d_M_sees_15 : decode b_M_sees 15 = .ok (.getfield 9, 3) := by decide +kernel
theorem d_M_sees_18 : decode b_M_sees 18 = .ok (.bipush 11, 2) := by decide +kernel
theorem d_M_sees_20 : decode b_M_sees 20 = .ok (.iaload, 1) := by decide +kernel
theorem d_M_sees_21 : decode b_M_sees 21 = .ok (.bipush 6, 2) := by decide +kernel
theorem d_M_sees_23 : decode b_M_sees 23 = .ok (.if_icmp .ne 10, 3) := by decide +kernel
theorem d_M_sees_26 : decode b_M_sees 26 = .ok (.aload_n 0, 1) := by decide +kernel
theorem d_M_sees_27 : decode b_M_sees 27 = .ok (.ldc 124, 2) := by decide +kernel
theorem d_M_sees_29 : decode b_M_sees 29 = .ok (.invokevirtual 94, 3) := by decide +kernel
theorem d_M_sees_32 : decode b_M_sees 32 = .ok (.ireturn, 1) := by decide +kernel
theorem d_M_sees_33 : decode b_M_sees 33 = .ok (.aload_n 0, 1) := by decide +kernel
theorem d_M_sees_34 : decode b_M_sees 34 = .ok (.getfield 9, 3) := by decide +kernel
theorem d_M_sees_37 : decode b_M_sees 37 = .ok (.bipush 12, 2) := by decide +kernel
theorem d_M_sees_39 : decode b_M_sees 39 = .ok (.aload_n 0, 1) := by decide +kernel
theorem d_M_sees_40 : decode b_M_sees 40 = .ok (.getfield 9, 3) := by decide +kernel
theorem d_M_sees_43 : decode b_M_sees 43 = .ok (.bipush 11, 2) := by decide +kernel
theorem d_M_sees_45 : decode b_M_sees 45 = .ok (.iaload, 1) := by decide +kernel
theorem d_M_sees_46 : decode b_M_sees 46 = .ok (.iadd, 1) := by decide +kernel
theorem d_M_sees_47 : decode b_M_sees 47 = .ok (.iload_n 1, 1) := by decide +kernel
theorem d_M_sees_48 : decode b_M_sees 48 = .ok (.iastore, 1) := by decide +kernel
theorem d_M_sees_49 : decode b_M_sees 49 = .ok (.aload_n 0, 1) := by decide +kernel
theorem d_M_sees_50 : decode b_M_sees 50 = .ok (.getfield 9, 3) := by decide +kernel
theorem d_M_sees_53 : decode b_M_sees 53 = .ok (.bipush 11, 2) := by decide +kernel
theorem d_M_sees_55 : decode b_M_sees 55 = .ok (.dup2, 1) := by decide +kernel
theorem d_M_sees_56 : decode b_M_sees 56 = .ok (.iaload, 1) := by decide +kernel
theorem d_M_sees_57 : decode b_M_sees 57 = .ok (.iconst 1, 1) := by decide +kernel
theorem d_M_sees_58 : decode b_M_sees 58 = .ok (.iadd, 1) := by decide +kernel
theorem d_M_sees_59 : decode b_M_sees 59 = .ok (.iastore, 1) := by decide +kernel
theorem d_M_sees_60 : decode b_M_sees 60 = .ok (.aload_n 0, 1) := by decide +kernel
theorem d_M_sees_61 : decode b_M_sees 61 = .ok (.getfield 9, 3) := by decide +kernel
theorem d_M_sees_64 : decode b_M_sees 64 = .ok (.bipush 11, 2) := by decide +kernel
theorem d_M_sees_66 : decode b_M_sees 66 = .ok (.iaload, 1) := by decide +kernel
theorem d_M_sees_67 : decode b_M_sees 67 = .ok (.ireturn, 1) := by decide +kernel
theorem d_M_burn_0 : decode b_M_burn 0 = .ok (.aload_n 0, 1) := by decide +kernel
theorem d_M_burn_1 : decode b_M_burn 1 = .ok (.bipush 11, 2) := by decide +kernel
theorem d_M_burn_3 : decode b_M_burn 3 = .ok (.iconst 0, 1) := by decide +kernel
theorem d_M_burn_4 : decode b_M_burn 4 = .ok (.invokevirtual 97, 3) := by decide +kernel
theorem d_M_burn_7 : decode b_M_burn 7 = .ok (.ireturn, 1) := by decide +kernel
theorem d_M_weight_0 : decode b_M_weight 0 = .ok (.iload_n 1, 1) := by decide +kernel
theorem d_M_weight_1 : decode b_M_weight 1 = .ok (.iconst (-1), 1) := by decide +kernel
theorem d_M_weight_2 : decode b_M_weight 2 = .ok (.iconst 3, 1) := by decide +kernel
theorem d_M_weight_3 : decode b_M_weight 3 = .ok (.invokestatic 86, 3) := by decide +kernel
theorem d_M_weight_6 : decode b_M_weight 6 = .ok (.ifCond .ne 11, 3) := by decide +kernel
theorem d_M_weight_9 : decode b_M_weight 9 = .ok (.aload_n 0, 1) := by decide +kernel
theorem d_M_weight_10 : decode b_M_weight 10 = .ok (.ldc 81, 2) := by decide +kernel
theorem d_M_weight_12 : decode b_M_weight 12 = .ok (.invokevirtual 94, 3) := by decide +kernel
theorem d_M_weight_15 : decode b_M_weight 15 = .ok (.i2l, 1) := by decide +kernel
theorem d_M_weight_16 : decode b_M_weight 16 = .ok (.lreturn, 1) := by decide +kernel
theorem d_M_weight_17 : decode b_M_weight 17 = .ok (.aload_n 0, 1) := by decide +kernel
theorem d_M_weight_18 : decode b_M_weight 18 = .ok (.invokevirtual 165, 3) := by decide +kernel
theorem d_M_weight_21 : decode b_M_weight 21 = .ok (.lstore_n 2, 1) := by decide +kernel
theorem d_M_weight_22 : decode b_M_weight 22 = .ok (.iload_n 1, 1) := by decide +kernel
theorem d_M_weight_23 : decode b_M_weight 23 = .ok (.ifCond .ge 7, 3) := by decide +kernel
theorem d_M_weight_26 : decode b_M_weight 26 = .ok (.lload_n 2, 1) := by decide +kernel
theorem d_M_weight_27 : decode b_M_weight 27 = .ok (.goto 9, 3) := by decide +kernel
theorem d_M_weight_30 : decode b_M_weight 30 = .ok (.aload_n 0, 1) := by decide +kernel
theorem d_M_weight_31 : decode b_M_weight 31 = .ok (.getfield 28, 3) := by decide +kernel
theorem d_M_weight_34 : decode b_M_weight 34 = .ok (.iload_n 1, 1) := by decide +kernel
theorem d_M_weight_35 : decode b_M_weight 35 = .ok (.laload, 1) := by decide +kernel
theorem d_M_weight_36 : decode b_M_weight 36 = .ok (.lreturn, 1) := by decide +kernel
theorem d_M_weigh_0 : decode b_M_weigh 0 = .ok (.iconst 0, 1) := by decide +kernel
theorem d_M_weigh_1 : decode b_M_weigh 1 = .ok (.istore_n 1, 1) := by decide +kernel
theorem d_M_weigh_2 : decode b_M_weigh 2 = .ok (.iload_n 1, 1) := by decide +kernel
theorem d_M_weigh_3 : decode b_M_weigh 3 = .ok (.iconst 4, 1) := by decide +kernel
theorem d_M_weigh_4 : decode b_M_weigh 4 = .ok (.if_icmp .ge 26, 3) := by decide +kernel
theorem d_M_weigh_7 : decode b_M_weigh 7 = .ok (.aload_n 0, 1) := by decide +kernel
theorem d_M_weigh_8 : decode b_M_weigh 8 = .ok (.getfield 28, 3) := by decide +kernel
theorem d_M_weigh_11 : decode b_M_weigh 11 = .ok (.iload_n 1, 1) := by decide +kernel
theorem d_M_weigh_12 : decode b_M_weigh 12 = .ok (.iload_n 1, 1) := by decide +kernel
theorem d_M_weigh_13 : decode b_M_weigh 13 = .ok (.ifCond .ne 9, 3) := by decide +kernel
theorem d_M_weigh_16 : decode b_M_weigh 16 = .ok (.ldc2_w 155, 3) := by decide +kernel
theorem d_M_weigh_19 : decode b_M_weigh 19 = .ok (.goto 4, 3) := by decide +kernel
theorem d_M_weigh_22 : decode b_M_weigh 22 = .ok (.lconst 0, 1) := by decide +kernel
theorem d_M_weigh_23 : decode b_M_weigh 23 = .ok (.lastore, 1) := by decide +kernel
theorem d_M_weigh_24 : decode b_M_weigh 24 = .ok (.iinc 1 1, 3) := by decide +kernel
theorem d_M_weigh_27 : decode b_M_weigh 27 = .ok (.goto (-25), 3) := by decide +kernel
theorem d_M_weigh_30 : decode b_M_weigh 30 = .ok (.iconst 0, 1) := by decide +kernel
theorem d_M_weigh_31 : decode b_M_weigh 31 = .ok (.istore_n 1, 1) := by decide +kernel
theorem d_M_weigh_32 : decode b_M_weigh 32 = .ok (.iload_n 1, 1) := by decide +kernel
theorem d_M_weigh_33 : decode b_M_weigh 33 = .ok (.aload_n 0, 1) := by decide +kernel
theorem d_M_weigh_34 : decode b_M_weigh 34 = .ok (.getfield 9, 3) := by decide +kernel
theorem d_M_weigh_37 : decode b_M_weigh 37 = .ok (.bipush 11, 2) := by decide +kernel
theorem d_M_weigh_39 : decode b_M_weigh 39 = .ok (.iaload, 1) := by decide +kernel
theorem d_M_weigh_40 : decode b_M_weigh 40 = .ok (.if_icmp .ge 22, 3) := by decide +kernel
theorem d_M_weigh_43 : decode b_M_weigh 43 = .ok (.aload_n 0, 1) := by decide +kernel
theorem d_M_weigh_44 : decode b_M_weigh 44 = .ok (.aload_n 0, 1) := by decide +kernel
theorem d_M_weigh_45 : decode b_M_weigh 45 = .ok (.getfield 9, 3) := by decide +kernel
theorem d_M_weigh_48 : decode b_M_weigh 48 = .ok (.bipush 12, 2) := by decide +kernel
theorem d_M_weigh_50 : decode b_M_weigh 50 = .ok (.iload_n 1, 1) := by decide +kernel
theorem d_M_weigh_51 : decode b_M_weigh 51 = .ok (.iadd, 1) := by decide +kernel
theorem d_M_weigh_52 : decode b_M_weigh 52 = .ok (.iaload, 1) := by decide +kernel
theorem d_M_weigh_53 : decode b_M_weigh 53 = .ok (.invokevirtual 157, 3) := by decide +kernel
theorem d_M_weigh_56 : decode b_M_weigh 56 = .ok (.iinc 1 1, 3) := by decide +kernel
theorem d_M_weigh_59 : decode b_M_weigh 59 = .ok (.goto (-27), 3) := by decide +kernel
theorem d_M_weigh_62 : decode b_M_weigh 62 = .ok (.aload_n 0, 1) := by decide +kernel
theorem d_M_weigh_63 : decode b_M_weigh 63 = .ok (.invokevirtual 161, 3) := by decide +kernel
theorem d_M_weigh_66 : decode b_M_weigh 66 = .ok (.lreturn, 1) := by decide +kernel
theorem d_M_seen_0 : decode b_M_seen 0 = .ok (.iconst 0, 1) := by decide +kernel
theorem d_M_seen_1 : decode b_M_seen 1 = .ok (.istore_n 2, 1) := by decide +kernel
theorem d_M_seen_2 : decode b_M_seen 2 = .ok (.iload_n 2, 1) := by decide +kernel
theorem d_M_seen_3 : decode b_M_seen 3 = .ok (.iconst 4, 1) := by decide +kernel
theorem d_M_seen_4 : decode b_M_seen 4 = .ok (.if_icmp .ge 74, 3) := by decide +kernel
theorem d_M_seen_7 : decode b_M_seen 7 = .ok (.lconst 0, 1) := by decide +kernel
theorem d_M_seen_8 : decode b_M_seen 8 = .ok (.lstore_n 3, 1) := by decide +kernel
theorem d_M_seen_9 : decode b_M_seen 9 = .ok (.iconst 0, 1) := by decide +kernel
theorem d_M_seen_10 : decode b_M_seen 10 = .ok (.istore 5, 2) := by decide +kernel
theorem d_M_seen_12 : decode b_M_seen 12 = .ok (.iload 5, 2) := by decide +kernel
theorem d_M_seen_14 : decode b_M_seen 14 = .ok (.iconst 4, 1) := by decide +kernel
theorem d_M_seen_15 : decode b_M_seen 15 = .ok (.if_icmp .ge 35, 3) := by decide +kernel
theorem d_M_seen_18 : decode b_M_seen 18 = .ok (.lload_n 3, 1) := by decide +kernel
theorem d_M_seen_19 : decode b_M_seen 19 = .ok (.aload_n 0, 1) := by decide +kernel
theorem d_M_seen_20 : decode b_M_seen 20 = .ok (.getfield 28, 3) := by decide +kernel
theorem d_M_seen_23 : decode b_M_seen 23 = .ok (.iload 5, 2) := by decide +kernel
theorem d_M_seen_25 : decode b_M_seen 25 = .ok (.laload, 1) := by decide +kernel
theorem d_M_seen_26 : decode b_M_seen 26 = .ok (.aload_n 0, 1) := by decide +kernel
theorem d_M_seen_27 : decode b_M_seen 27 = .ok (.getfield 9, 3) := by decide +kernel
theorem d_M_seen_30 : decode b_M_seen 30 = .ok (.bipush 18, 2) := by decide +kernel
theorem d_M_seen_32 : decode b_M_seen 32 = .ok (.iconst 4, 1) := by decide +kernel
theorem d_M_seen_33 : decode b_M_seen 33 = .ok (.iload 5, 2) := by decide +kernel
theorem d_M_seen_35 : decode b_M_seen 35 = .ok (.imul, 1) := by decide +kernel
theorem d_M_seen_36 : decode b_M_seen 36 = .ok (.iadd, 1) := by decide +kernel
theorem d_M_seen_37 : decode b_M_seen 37 = .ok (.iload_n 2, 1) := by decide +kernel
theorem d_M_seen_38 : decode b_M_seen 38 = .ok (.iadd, 1) := by decide +kernel
theorem d_M_seen_39 : decode b_M_seen 39 = .ok (.iaload, 1) := by decide +kernel
theorem d_M_seen_40 : decode b_M_seen 40 = .ok (.i2l, 1) := by decide +kernel
theorem d_M_seen_41 : decode b_M_seen 41 = .ok (.lmul, 1) := by decide +kernel
theorem d_M_seen_42 : decode b_M_seen 42 = .ok (.ladd, 1) := by decide +kernel
theorem d_M_seen_43 : decode b_M_seen 43 = .ok (.lstore_n 3, 1) := by decide +kernel
theorem d_M_seen_44 : decode b_M_seen 44 = .ok (.iinc 5 1, 3) := by decide +kernel
theorem d_M_seen_47 : decode b_M_seen 47 = .ok (.goto (-35), 3) := by decide +kernel
theorem d_M_seen_50 : decode b_M_seen 50 = .ok (.aload_n 0, 1) := by decide +kernel
theorem d_M_seen_51 : decode b_M_seen 51 = .ok (.getfield 32, 3) := by decide +kernel
theorem d_M_seen_54 : decode b_M_seen 54 = .ok (.iload_n 2, 1) := by decide +kernel
theorem d_M_seen_55 : decode b_M_seen 55 = .ok (.lload_n 3, 1) := by decide +kernel
theorem d_M_seen_56 : decode b_M_seen 56 = .ok (.aload_n 0, 1) := by decide +kernel
theorem d_M_seen_57 : decode b_M_seen 57 = .ok (.getfield 9, 3) := by decide +kernel
theorem d_M_seen_60 : decode b_M_seen 60 = .ok (.bipush 34, 2) := by decide +kernel
theorem d_M_seen_62 : decode b_M_seen 62 = .ok (.iconst 4, 1) := by decide +kernel
theorem d_M_seen_63 : decode b_M_seen 63 = .ok (.iload_n 2, 1) := by decide +kernel
theorem d_M_seen_64 : decode b_M_seen 64 = .ok (.imul, 1) := by decide +kernel
theorem d_M_seen_65 : decode b_M_seen 65 = .ok (.iadd, 1) := by decide +kernel
theorem d_M_seen_66 : decode b_M_seen 66 = .ok (.iload_n 1, 1) := by decide +kernel
theorem d_M_seen_67 : decode b_M_seen 67 = .ok (.iadd, 1) := by decide +kernel
theorem d_M_seen_68 : decode b_M_seen 68 = .ok (.iaload, 1) := by decide +kernel
theorem d_M_seen_69 : decode b_M_seen 69 = .ok (.i2l, 1) := by decide +kernel
theorem d_M_seen_70 : decode b_M_seen 70 = .ok (.lmul, 1) := by decide +kernel
theorem d_M_seen_71 : decode b_M_seen 71 = .ok (.lastore, 1) := by decide +kernel
theorem d_M_seen_72 : decode b_M_seen 72 = .ok (.iinc 2 1, 3) := by decide +kernel
theorem d_M_seen_75 : decode b_M_seen 75 = .ok (.goto (-73), 3) := by decide +kernel
theorem d_M_seen_78 : decode b_M_seen 78 = .ok (.iconst 0, 1) := by decide +kernel
theorem d_M_seen_79 : decode b_M_seen 79 = .ok (.istore_n 2, 1) := by decide +kernel
theorem d_M_seen_80 : decode b_M_seen 80 = .ok (.iload_n 2, 1) := by decide +kernel
theorem d_M_seen_81 : decode b_M_seen 81 = .ok (.iconst 4, 1) := by decide +kernel
theorem d_M_seen_82 : decode b_M_seen 82 = .ok (.if_icmp .ge 21, 3) := by decide +kernel
theorem d_M_seen_85 : decode b_M_seen 85 = .ok (.aload_n 0, 1) := by decide +kernel
theorem d_M_seen_86 : decode b_M_seen 86 = .ok (.getfield 28, 3) := by decide +kernel
theorem d_M_seen_89 : decode b_M_seen 89 = .ok (.iload_n 2, 1) := by decide +kernel
theorem d_M_seen_90 : decode b_M_seen 90 = .ok (.aload_n 0, 1) := by decide +kernel
theorem d_M_seen_91 : decode b_M_seen 91 = .ok (.getfield 32, 3) := by decide +kernel
theorem d_M_seen_94 : decode b_M_seen 94 = .ok (.iload_n 2, 1) := by decide +kernel
theorem d_M_seen_95 : decode b_M_seen 95 = .ok (.laload, 1) := by decide +kernel
theorem d_M_seen_96 : decode b_M_seen 96 = .ok (.lastore, 1) := by decide +kernel
theorem d_M_seen_97 : decode b_M_seen 97 = .ok (.iinc 2 1, 3) := by decide +kernel
theorem d_M_seen_100 : decode b_M_seen 100 = .ok (.goto (-20), 3) := by decide +kernel
theorem d_M_seen_103 : decode b_M_seen 103 = .ok (.return_, 1) := by decide +kernel
theorem d_M_all_0 : decode b_M_all 0 = .ok (.aload_n 0, 1) := by decide +kernel
theorem d_M_all_1 : decode b_M_all 1 = .ok (.getfield 28, 3) := by decide +kernel
theorem d_M_all_4 : decode b_M_all 4 = .ok (.iconst 0, 1) := by decide +kernel
theorem d_M_all_5 : decode b_M_all 5 = .ok (.laload, 1) := by decide +kernel
theorem d_M_all_6 : decode b_M_all 6 = .ok (.aload_n 0, 1) := by decide +kernel
theorem d_M_all_7 : decode b_M_all 7 = .ok (.getfield 28, 3) := by decide +kernel
theorem d_M_all_10 : decode b_M_all 10 = .ok (.iconst 1, 1) := by decide +kernel
theorem d_M_all_11 : decode b_M_all 11 = .ok (.laload, 1) := by decide +kernel
theorem d_M_all_12 : decode b_M_all 12 = .ok (.ladd, 1) := by decide +kernel
theorem d_M_all_13 : decode b_M_all 13 = .ok (.aload_n 0, 1) := by decide +kernel
theorem d_M_all_14 : decode b_M_all 14 = .ok (.getfield 28, 3) := by decide +kernel
theorem d_M_all_17 : decode b_M_all 17 = .ok (.iconst 2, 1) := by decide +kernel
theorem d_M_all_18 : decode b_M_all 18 = .ok (.laload, 1) := by decide +kernel
theorem d_M_all_19 : decode b_M_all 19 = .ok (.ladd, 1) := by decide +kernel
theorem d_M_all_20 : decode b_M_all 20 = .ok (.aload_n 0, 1) := by decide +kernel
theorem d_M_all_21 : decode b_M_all 21 = .ok (.getfield 28, 3) := by decide +kernel
theorem d_M_all_24 : decode b_M_all 24 = .ok (.iconst 3, 1) := by decide +kernel
theorem d_M_all_25 : decode b_M_all 25 = .ok (.laload, 1) := by decide +kernel
theorem d_M_all_26 : decode b_M_all 26 = .ok (.ladd, 1) := by decide +kernel
theorem d_M_all_27 : decode b_M_all 27 = .ok (.lreturn, 1) := by decide +kernel
theorem d_M_likeliest_0 : decode b_M_likeliest 0 = .ok (.aload_n 0, 1) := by decide +kernel
theorem d_M_likeliest_1 : decode b_M_likeliest 1 = .ok (.invokevirtual 165, 3) := by decide +kernel
theorem d_M_likeliest_4 : decode b_M_likeliest 4 = .ok (.lconst 0, 1) := by decide +kernel
theorem d_M_likeliest_5 : decode b_M_likeliest 5 = .ok (.lcmp, 1) := by decide +kernel
theorem d_M_likeliest_6 : decode b_M_likeliest 6 = .ok (.ifCond .ne 10, 3) := by decide +kernel
theorem d_M_likeliest_9 : decode b_M_likeliest 9 = .ok (.aload_n 0, 1) := by decide +kernel
theorem d_M_likeliest_10 : decode b_M_likeliest 10 = .ok (.ldc 168, 2) := by decide +kernel
theorem d_M_likeliest_12 : decode b_M_likeliest 12 = .ok (.invokevirtual 94, 3) := by decide +kernel
theorem d_M_likeliest_15 : decode b_M_likeliest 15 = .ok (.ireturn, 1) := by decide +kernel
theorem d_M_likeliest_16 : decode b_M_likeliest 16 = .ok (.iconst 0, 1) := by decide +kernel
theorem d_M_likeliest_17 : decode b_M_likeliest 17 = .ok (.istore_n 1, 1) := by decide +kernel
theorem d_M_likeliest_18 : decode b_M_likeliest 18 = .ok (.iconst 1, 1) := by decide +kernel
theorem d_M_likeliest_19 : decode b_M_likeliest 19 = .ok (.istore_n 2, 1) := by decide +kernel
theorem d_M_likeliest_20 : decode b_M_likeliest 20 = .ok (.iload_n 2, 1) := by decide +kernel
theorem d_M_likeliest_21 : decode b_M_likeliest 21 = .ok (.iconst 4, 1) := by decide +kernel
theorem d_M_likeliest_22 : decode b_M_likeliest 22 = .ok (.if_icmp .ge 31, 3) := by decide +kernel
theorem d_M_likeliest_25 : decode b_M_likeliest 25 = .ok (.aload_n 0, 1) := by decide +kernel
theorem d_M_likeliest_26 : decode b_M_likeliest 26 = .ok (.getfield 28, 3) := by decide +kernel
theorem d_M_likeliest_29 : decode b_M_likeliest 29 = .ok (.iload_n 2, 1) := by decide +kernel
theorem d_M_likeliest_30 : decode b_M_likeliest 30 = .ok (.laload, 1) := by decide +kernel
theorem d_M_likeliest_31 : decode b_M_likeliest 31 = .ok (.aload_n 0, 1) := by decide +kernel
theorem d_M_likeliest_32 : decode b_M_likeliest 32 = .ok (.getfield 28, 3) := by decide +kernel
theorem d_M_likeliest_35 : decode b_M_likeliest 35 = .ok (.iload_n 1, 1) := by decide +kernel
theorem d_M_likeliest_36 : decode b_M_likeliest 36 = .ok (.laload, 1) := by decide +kernel
theorem d_M_likeliest_37 : decode b_M_likeliest 37 = .ok (.lcmp, 1) := by decide +kernel
theorem d_M_likeliest_38 : decode b_M_likeliest 38 = .ok (.ifCond .le 7, 3) := by decide +kernel
theorem d_M_likeliest_41 : decode b_M_likeliest 41 = .ok (.iload_n 2, 1) := by decide +kernel
theorem d_M_likeliest_42 : decode b_M_likeliest 42 = .ok (.goto 4, 3) := by decide +kernel
theorem d_M_likeliest_45 : decode b_M_likeliest 45 = .ok (.iload_n 1, 1) := by decide +kernel
theorem d_M_likeliest_46 : decode b_M_likeliest 46 = .ok (.istore_n 1, 1) := by decide +kernel
theorem d_M_likeliest_47 : decode b_M_likeliest 47 = .ok (.iinc 2 1, 3) := by decide +kernel
theorem d_M_likeliest_50 : decode b_M_likeliest 50 = .ok (.goto (-30), 3) := by decide +kernel
theorem d_M_likeliest_53 : decode b_M_likeliest 53 = .ok (.iload_n 1, 1) := by decide +kernel
theorem d_M_likeliest_54 : decode b_M_likeliest 54 = .ok (.ireturn, 1) := by decide +kernel
theorem d_M_flee_0 : decode b_M_flee 0 = .ok (.iload_n 1, 1) := by decide +kernel
theorem d_M_flee_1 : decode b_M_flee 1 = .ok (.iconst 0, 1) := by decide +kernel
theorem d_M_flee_2 : decode b_M_flee 2 = .ok (.bipush 10, 2) := by decide +kernel
theorem d_M_flee_4 : decode b_M_flee 4 = .ok (.invokestatic 86, 3) := by decide +kernel
theorem d_M_flee_7 : decode b_M_flee 7 = .ok (.ifCond .ne 10, 3) := by decide +kernel
theorem d_M_flee_10 : decode b_M_flee 10 = .ok (.aload_n 0, 1) := by decide +kernel
theorem d_M_flee_11 : decode b_M_flee 11 = .ok (.ldc 81, 2) := by decide +kernel
theorem d_M_flee_13 : decode b_M_flee 13 = .ok (.invokevirtual 94, 3) := by decide +kernel
theorem d_M_flee_16 : decode b_M_flee 16 = .ok (.ireturn, 1) := by decide +kernel
theorem d_M_flee_17 : decode b_M_flee 17 = .ok (.aload_n 0, 1) := by decide +kernel
theorem d_M_flee_18 : decode b_M_flee 18 = .ok (.invokevirtual 165, 3) := by decide +kernel
theorem d_M_flee_21 : decode b_M_flee 21 = .ok (.lstore_n 2, 1) := by decide +kernel
theorem d_M_flee_22 : decode b_M_flee 22 = .ok (.lload_n 2, 1) := by decide +kernel
theorem d_M_flee_23 : decode b_M_flee 23 = .ok (.lconst 0, 1) := by decide +kernel
theorem d_M_flee_24 : decode b_M_flee 24 = .ok (.lcmp, 1) := by decide +kernel
theorem d_M_flee_25 : decode b_M_flee 25 = .ok (.ifCond .ne 10, 3) := by decide +kernel
theorem d_M_flee_28 : decode b_M_flee 28 = .ok (.aload_n 0, 1) := by decide +kernel
theorem d_M_flee_29 : decode b_M_flee 29 = .ok (.ldc 168, 2) := by decide +kernel
theorem d_M_flee_31 : decode b_M_flee 31 = .ok (.invokevirtual 94, 3) := by decide +kernel
theorem d_M_flee_34 : decode b_M_flee 34 = .ok (.ireturn, 1) := by decide +kernel
theorem d_M_flee_35 : decode b_M_flee 35 = .ok (.ldc2_w 155, 3) := by decide +kernel
theorem d_M_flee_38 : decode b_M_flee 38 = .ok (.aload_n 0, 1) := by decide +kernel
theorem d_M_flee_39 : decode b_M_flee 39 = .ok (.getfield 28, 3) := by decide +kernel
theorem d_M_flee_42 : decode b_M_flee 42 = .ok (.iconst 2, 1) := by decide +kernel
theorem d_M_flee_43 : decode b_M_flee 43 = .ok (.laload, 1) := by decide +kernel
theorem d_M_flee_44 : decode b_M_flee 44 = .ok (.aload_n 0, 1) := by decide +kernel
theorem d_M_flee_45 : decode b_M_flee 45 = .ok (.getfield 28, 3) := by decide +kernel
theorem d_M_flee_48 : decode b_M_flee 48 = .ok (.iconst 3, 1) := by decide +kernel
theorem d_M_flee_49 : decode b_M_flee 49 = .ok (.laload, 1) := by decide +kernel
theorem d_M_flee_50 : decode b_M_flee 50 = .ok (.ladd, 1) := by decide +kernel
theorem d_M_flee_51 : decode b_M_flee 51 = .ok (.lmul, 1) := by decide +kernel
theorem d_M_flee_52 : decode b_M_flee 52 = .ok (.iload_n 1, 1) := by decide +kernel
theorem d_M_flee_53 : decode b_M_flee 53 = .ok (.i2l, 1) := by decide +kernel
theorem d_M_flee_54 : decode b_M_flee 54 = .ok (.lload_n 2, 1) := by decide +kernel
theorem d_M_flee_55 : decode b_M_flee 55 = .ok (.lmul, 1) := by decide +kernel
theorem d_M_flee_56 : decode b_M_flee 56 = .ok (.lcmp, 1) := by decide +kernel
theorem d_M_flee_57 : decode b_M_flee 57 = .ok (.ifCond .lt 7, 3) := by decide +kernel
theorem d_M_flee_60 : decode b_M_flee 60 = .ok (.iconst 1, 1) := by decide +kernel
theorem d_M_flee_61 : decode b_M_flee 61 = .ok (.goto 4, 3) := by decide +kernel
theorem d_M_flee_64 : decode b_M_flee 64 = .ok (.iconst 0, 1) := by decide +kernel
theorem d_M_flee_65 : decode b_M_flee 65 = .ok (.ireturn, 1) := by decide +kernel
theorem d_M_dread_0 : decode b_M_dread 0 = .ok (.iconst (-1), 1) := by decide +kernel
theorem d_M_dread_1 : decode b_M_dread 1 = .ok (.istore_n 1, 1) := by decide +kernel
theorem d_M_dread_2 : decode b_M_dread 2 = .ok (.lconst 0, 1) := by decide +kernel
theorem d_M_dread_3 : decode b_M_dread 3 = .ok (.lstore_n 2, 1) := by decide +kernel
theorem d_M_dread_4 : decode b_M_dread 4 = .ok (.iconst 0, 1) := by decide +kernel
theorem d_M_dread_5 : decode b_M_dread 5 = .ok (.istore 4, 2) := by decide +kernel
theorem d_M_dread_7 : decode b_M_dread 7 = .ok (.iload 4, 2) := by decide +kernel
theorem d_M_dread_9 : decode b_M_dread 9 = .ok (.iconst 4, 1) := by decide +kernel
theorem d_M_dread_10 : decode b_M_dread 10 = .ok (.if_icmp .ge 90, 3) := by decide +kernel
theorem d_M_dread_13 : decode b_M_dread 13 = .ok (.aload_n 0, 1) := by decide +kernel
theorem d_M_dread_14 : decode b_M_dread 14 = .ok (.getfield 9, 3) := by decide +kernel
theorem d_M_dread_17 : decode b_M_dread 17 = .ok (.bipush 11, 2) := by decide +kernel
theorem d_M_dread_19 : decode b_M_dread 19 = .ok (.iaload, 1) := by decide +kernel
theorem d_M_dread_20 : decode b_M_dread 20 = .ok (.bipush 6, 2) := by decide +kernel
theorem d_M_dread_22 : decode b_M_dread 22 = .ok (.if_icmp .ge 78, 3) := by decide +kernel
theorem d_M_dread_25 : decode b_M_dread 25 = .ok (.aload_n 0, 1) := by decide +kernel
theorem d_M_dread_26 : decode b_M_dread 26 = .ok (.invokevirtual 165, 3) := by decide +kernel
theorem d_M_dread_29 : decode b_M_dread 29 = .ok (.pop2, 1) := by decide +kernel
theorem d_M_dread_30 : decode b_M_dread 30 = .ok (.aload_n 0, 1) := by decide +kernel
theorem d_M_dread_31 : decode b_M_dread 31 = .ok (.iload 4, 2) := by decide +kernel
theorem d_M_dread_33 : decode b_M_dread 33 = .ok (.invokevirtual 157, 3) := by decide +kernel
theorem d_M_dread_36 : decode b_M_dread 36 = .ok (.aload_n 0, 1) := by decide +kernel
theorem d_M_dread_37 : decode b_M_dread 37 = .ok (.invokevirtual 161, 3) := by decide +kernel
theorem d_M_dread_40 : decode b_M_dread 40 = .ok (.lstore 5, 2) := by decide +kernel
theorem d_M_dread_42 : decode b_M_dread 42 = .ok (.lload 5, 2) := by decide +kernel
theorem d_M_dread_44 : decode b_M_dread 44 = .ok (.lconst 0, 1) := by decide +kernel
theorem d_M_dread_45 : decode b_M_dread 45 = .ok (.lcmp, 1) := by decide +kernel
theorem d_M_dread_46 : decode b_M_dread 46 = .ok (.ifCond .ne 9, 3) := by decide +kernel
theorem d_M_dread_49 : decode b_M_dread 49 = .ok (.ldc2_w 169, 3) := by decide +kernel
theorem d_M_dread_52 : decode b_M_dread 52 = .ok (.goto 16, 3) := by decide +kernel
theorem d_M_dread_55 : decode b_M_dread 55 = .ok (.ldc2_w 171, 3) := by decide +kernel
theorem d_M_dread_58 : decode b_M_dread 58 = .ok (.aload_n 0, 1) := by decide +kernel
theorem d_M_dread_59 : decode b_M_dread 59 = .ok (.getfield 28, 3) := by decide +kernel
theorem d_M_dread_62 : decode b_M_dread 62 = .ok (.iconst 3, 1) := by decide +kernel
theorem d_M_dread_63 : decode b_M_dread 63 = .ok (.laload, 1) := by decide +kernel
theorem d_M_dread_64 : decode b_M_dread 64 = .ok (.lmul, 1) := by decide +kernel
theorem d_M_dread_65 : decode b_M_dread 65 = .ok (.lload 5, 2) := by decide +kernel
theorem d_M_dread_67 : decode b_M_dread 67 = .ok (.ldiv, 1) := by decide +kernel
theorem d_M_dread_68 : decode b_M_dread 68 = .ok (.lstore 7, 2) := by decide +kernel
theorem d_M_dread_70 : decode b_M_dread 70 = .ok (.lload 7, 2) := by decide +kernel
theorem d_M_dread_72 : decode b_M_dread 72 = .ok (.lconst 0, 1) := by decide +kernel
theorem d_M_dread_73 : decode b_M_dread 73 = .ok (.lcmp, 1) := by decide +kernel
theorem d_M_dread_74 : decode b_M_dread 74 = .ok (.ifCond .lt 20, 3) := by decide +kernel
theorem d_M_dread_77 : decode b_M_dread 77 = .ok (.iload_n 1, 1) := by decide +kernel
theorem d_M_dread_78 : decode b_M_dread 78 = .ok (.ifCond .lt 10, 3) := by decide +kernel
theorem d_M_dread_81 : decode b_M_dread 81 = .ok (.lload 7, 2) := by decide +kernel
theorem d_M_dread_83 : decode b_M_dread 83 = .ok (.lload_n 2, 1) := by decide +kernel
theorem d_M_dread_84 : decode b_M_dread 84 = .ok (.lcmp, 1) := by decide +kernel
theorem d_M_dread_85 : decode b_M_dread 85 = .ok (.ifCond .le 9, 3) := by decide +kernel
theorem d_M_dread_88 : decode b_M_dread 88 = .ok (.lload 7, 2) := by decide +kernel
theorem d_M_dread_90 : decode b_M_dread 90 = .ok (.lstore_n 2, 1) := by decide +kernel
theorem d_M_dread_91 : decode b_M_dread 91 = .ok (.iload 4, 2) := by decide +kernel
theorem d_M_dread_93 : decode b_M_dread 93 = .ok (.istore_n 1, 1) := by decide +kernel
theorem d_M_dread_94 : decode b_M_dread 94 = .ok (.iinc 4 1, 3) := by decide +kernel
theorem d_M_dread_97 : decode b_M_dread 97 = .ok (.goto (-90), 3) := by decide +kernel
theorem d_M_dread_100 : decode b_M_dread 100 = .ok (.iload_n 1, 1) := by decide +kernel
theorem d_M_dread_101 : decode b_M_dread 101 = .ok (.ifCond .ge 12, 3) := by decide +kernel
theorem d_M_dread_104 : decode b_M_dread 104 = .ok (.aload_n 0, 1) := by decide +kernel
theorem d_M_dread_105 : decode b_M_dread 105 = .ok (.ldc 168, 2) := by decide +kernel
theorem d_M_dread_107 : decode b_M_dread 107 = .ok (.invokevirtual 94, 3) := by decide +kernel
theorem d_M_dread_110 : decode b_M_dread 110 = .ok (.goto 4, 3) := by decide +kernel
theorem d_M_dread_113 : decode b_M_dread 113 = .ok (.iload_n 1, 1) := by decide +kernel
theorem d_M_dread_114 : decode b_M_dread 114 = .ok (.ireturn, 1) := by decide +kernel
theorem d_M_flow_0 : decode b_M_flow 0 = .ok (.iload_n 1, 1) := by decide +kernel
theorem d_M_flow_1 : decode b_M_flow 1 = .ok (.invokestatic 90, 3) := by decide +kernel
theorem d_M_flow_4 : decode b_M_flow 4 = .ok (.ifCond .eq 19, 3) := by decide +kernel
theorem d_M_flow_7 : decode b_M_flow 7 = .ok (.iload_n 2, 1) := by decide +kernel
theorem d_M_flow_8 : decode b_M_flow 8 = .ok (.invokestatic 180, 3) := by decide +kernel
theorem d_M_flow_11 : decode b_M_flow 11 = .ok (.ifCond .eq 12, 3) := by decide +kernel
theorem d_M_flow_14 : decode b_M_flow 14 = .ok (.aload_n 0, 1) := by decide +kernel
theorem d_M_flow_15 : decode b_M_flow 15 = .ok (.iload_n 1, 1) := by decide +kernel
theorem d_M_flow_16 : decode b_M_flow 16 = .ok (.iload_n 2, 1) := by decide +kernel
theorem d_M_flow_17 : decode b_M_flow 17 = .ok (.invokevirtual 183, 3) := by decide +kernel
theorem d_M_flow_20 : decode b_M_flow 20 = .ok (.goto 10, 3) := by decide +kernel
theorem d_M_flow_23 : decode b_M_flow 23 = .ok (.aload_n 0, 1) := by decide +kernel
theorem d_M_flow_24 : decode b_M_flow 24 = .ok (.ldc 81, 2) := by decide +kernel
theorem d_M_flow_26 : decode b_M_flow 26 = .ok (.invokevirtual 94, 3) := by decide +kernel
theorem d_M_flow_29 : decode b_M_flow 29 = .ok (.i2l, 1) := by decide +kernel
theorem d_M_flow_30 : decode b_M_flow 30 = .ok (.lreturn, 1) := by decide +kernel
theorem d_M_isVolume_0 : decode b_M_isVolume 0 = .ok (.iload_n 0, 1) := by decide +kernel
theorem d_M_isVolume_1 : decode b_M_isVolume 1 = .ok (.iconst 1, 1) := by decide +kernel
theorem d_M_isVolume_2 : decode b_M_isVolume 2 = .ok (.bipush 99, 2) := by decide +kernel
theorem d_M_isVolume_4 : decode b_M_isVolume 4 = .ok (.invokestatic 86, 3) := by decide +kernel
theorem d_M_isVolume_7 : decode b_M_isVolume 7 = .ok (.ireturn, 1) := by decide +kernel
theorem d_M_asked_0 : decode b_M_asked 0 = .ok (.aload_n 0, 1) := by decide +kernel
theorem d_M_asked_1 : decode b_M_asked 1 = .ok (.getfield 9, 3) := by decide +kernel
theorem d_M_asked_4 : decode b_M_asked 4 = .ok (.aload_n 0, 1) := by decide +kernel
theorem d_M_asked_5 : decode b_M_asked 5 = .ok (.getfield 16, 3) := by decide +kernel
theorem d_M_asked_8 : decode b_M_asked 8 = .ok (.invokestatic 82, 3) := by decide +kernel
theorem d_M_asked_11 : decode b_M_asked 11 = .ok (.aload_n 0, 1) := by decide +kernel
theorem d_M_asked_12 : decode b_M_asked 12 = .ok (.iload_n 1, 1) := by decide +kernel
theorem d_M_asked_13 : decode b_M_asked 13 = .ok (.iload_n 2, 1) := by decide +kernel
theorem d_M_asked_14 : decode b_M_asked 14 = .ok (.invokevirtual 176, 3) := by decide +kernel
theorem d_M_asked_17 : decode b_M_asked 17 = .ok (.lstore_n 3, 1) := by decide +kernel
theorem d_M_asked_18 : decode b_M_asked 18 = .ok (.aload_n 0, 1) := by decide +kernel
theorem d_M_asked_19 : decode b_M_asked 19 = .ok (.getfield 16, 3) := by decide +kernel
theorem d_M_asked_22 : decode b_M_asked 22 = .ok (.aload_n 0, 1) := by decide +kernel
theorem d_M_asked_23 : decode b_M_asked 23 = .ok (.getfield 9, 3) := by decide +kernel
theorem d_M_asked_26 : decode b_M_asked 26 = .ok (.invokestatic 82, 3) := by decide +kernel
theorem d_M_asked_29 : decode b_M_asked 29 = .ok (.lload_n 3, 1) := by decide +kernel
theorem d_M_asked_30 : decode b_M_asked 30 = .ok (.lreturn, 1) := by decide +kernel
theorem d_M_copyRow_0 : decode b_M_copyRow 0 = .ok (.iconst 0, 1) := by decide +kernel
theorem d_M_copyRow_1 : decode b_M_copyRow 1 = .ok (.istore_n 2, 1) := by decide +kernel
theorem d_M_copyRow_2 : decode b_M_copyRow 2 = .ok (.iload_n 2, 1) := by decide +kernel
theorem d_M_copyRow_3 : decode b_M_copyRow 3 = .ok (.sipush 218, 3) := by decide +kernel
theorem d_M_copyRow_6 : decode b_M_copyRow 6 = .ok (.if_icmp .ge 15, 3) := by decide +kernel
theorem d_M_copyRow_9 : decode b_M_copyRow 9 = .ok (.aload_n 1, 1) := by decide +kernel
theorem d_M_copyRow_10 : decode b_M_copyRow 10 = .ok (.iload_n 2, 1) := by decide +kernel
theorem d_M_copyRow_11 : decode b_M_copyRow 11 = .ok (.aload_n 0, 1) := by decide +kernel
theorem d_M_copyRow_12 : decode b_M_copyRow 12 = .ok (.iload_n 2, 1) := by decide +kernel
theorem d_M_copyRow_13 : decode b_M_copyRow 13 = .ok (.iaload, 1) := by decide +kernel
theorem d_M_copyRow_14 : decode b_M_copyRow 14 = .ok (.iastore, 1) := by decide +kernel
theorem d_M_copyRow_15 : decode b_M_copyRow 15 = .ok (.iinc 2 1, 3) := by decide +kernel
theorem d_M_copyRow_18 : decode b_M_copyRow 18 = .ok (.goto (-16), 3) := by decide +kernel
theorem d_M_copyRow_21 : decode b_M_copyRow 21 = .ok (.return_, 1) := by decide +kernel
theorem d_M_lava_0 : decode b_M_lava 0 = .ok (.iload_n 1, 1) := by decide +kernel
theorem d_M_lava_1 : decode b_M_lava 1 = .ok (.istore_n 3, 1) := by decide +kernel
theorem d_M_lava_2 : decode b_M_lava 2 = .ok (.lconst 1, 1) := by decide +kernel
theorem d_M_lava_3 : decode b_M_lava 3 = .ok (.iload_n 3, 1) := by decide +kernel
theorem d_M_lava_4 : decode b_M_lava 4 = .ok (.lshl, 1) := by decide +kernel
theorem d_M_lava_5 : decode b_M_lava 5 = .ok (.lstore 4, 2) := by decide +kernel
theorem d_M_lava_7 : decode b_M_lava 7 = .ok (.iconst 1, 1) := by decide +kernel
theorem d_M_lava_8 : decode b_M_lava 8 = .ok (.istore 6, 2) := by decide +kernel
theorem d_M_lava_10 : decode b_M_lava 10 = .ok (.iload 6, 2) := by decide +kernel
theorem d_M_lava_12 : decode b_M_lava 12 = .ok (.iload_n 2, 1) := by decide +kernel
theorem d_M_lava_13 : decode b_M_lava 13 = .ok (.if_icmp .ge 60, 3) := by decide +kernel
theorem d_M_lava_16 : decode b_M_lava 16 = .ok (.aload_n 0, 1) := by decide +kernel
theorem d_M_lava_17 : decode b_M_lava 17 = .ok (.iload_n 3, 1) := by decide +kernel
theorem d_M_lava_18 : decode b_M_lava 18 = .ok (.invokevirtual 173, 3) := by decide +kernel
theorem d_M_lava_21 : decode b_M_lava 21 = .ok (.istore 7, 2) := by decide +kernel
theorem d_M_lava_23 : decode b_M_lava 23 = .ok (.iload 7, 2) := by decide +kernel
theorem d_M_lava_25 : decode b_M_lava 25 = .ok (.ifCond .ge 31, 3) := by decide +kernel
theorem d_M_lava_28 : decode b_M_lava 28 = .ok (.aload_n 0, 1) := by decide +kernel
theorem d_M_lava_29 : decode b_M_lava 29 = .ok (.getfield 9, 3) := by decide +kernel
theorem d_M_lava_32 : decode b_M_lava 32 = .ok (.bipush 50, 2) := by decide +kernel
theorem d_M_lava_34 : decode b_M_lava 34 = .ok (.iload_n 3, 1) := by decide +kernel
theorem d_M_lava_35 : decode b_M_lava 35 = .ok (.iadd, 1) := by decide +kernel
theorem d_M_lava_36 : decode b_M_lava 36 = .ok (.bipush 99, 2) := by decide +kernel
theorem d_M_lava_38 : decode b_M_lava 38 = .ok (.aload_n 0, 1) := by decide +kernel
theorem d_M_lava_39 : decode b_M_lava 39 = .ok (.getfield 9, 3) := by decide +kernel
theorem d_M_lava_42 : decode b_M_lava 42 = .ok (.bipush 50, 2) := by decide +kernel
theorem d_M_lava_44 : decode b_M_lava 44 = .ok (.iload_n 3, 1) := by decide +kernel
theorem d_M_lava_45 : decode b_M_lava 45 = .ok (.iadd, 1) := by decide +kernel
theorem d_M_lava_46 : decode b_M_lava 46 = .ok (.iaload, 1) := by decide +kernel
theorem d_M_lava_47 : decode b_M_lava 47 = .ok (.iconst 3, 1) := by decide +kernel
theorem d_M_lava_48 : decode b_M_lava 48 = .ok (.iadd, 1) := by decide +kernel
theorem d_M_lava_49 : decode b_M_lava 49 = .ok (.invokestatic 129, 3) := by decide +kernel
theorem d_M_lava_52 : decode b_M_lava 52 = .ok (.iastore, 1) := by decide +kernel
theorem d_M_lava_53 : decode b_M_lava 53 = .ok (.goto 14, 3) := by decide +kernel
theorem d_M_lava_56 : decode b_M_lava 56 = .ok (.iload 7, 2) := by decide +kernel
theorem d_M_lava_58 : decode b_M_lava 58 = .ok (.istore_n 3, 1) := by decide +kernel
theorem d_M_lava_59 : decode b_M_lava 59 = .ok (.lload 4, 2) := by decide +kernel
theorem d_M_lava_61 : decode b_M_lava 61 = .ok (.lconst 1, 1) := by decide +kernel
theorem d_M_lava_62 : decode b_M_lava 62 = .ok (.iload_n 3, 1) := by decide +kernel
theorem d_M_lava_63 : decode b_M_lava 63 = .ok (.lshl, 1) := by decide +kernel
theorem d_M_lava_64 : decode b_M_lava 64 = .ok (.lor, 1) := by decide +kernel
theorem d_M_lava_65 : decode b_M_lava 65 = .ok (.lstore 4, 2) := by decide +kernel
theorem d_M_lava_67 : decode b_M_lava 67 = .ok (.iinc 6 1, 3) := by decide +kernel
theorem d_M_lava_70 : decode b_M_lava 70 = .ok (.goto (-60), 3) := by decide +kernel
theorem d_M_lava_73 : decode b_M_lava 73 = .ok (.lload 4, 2) := by decide +kernel
theorem d_M_lava_75 : decode b_M_lava 75 = .ok (.lreturn, 1) := by decide +kernel
theorem d_M_flowsTo_0 : decode b_M_flowsTo 0 = .ok (.iconst (-1), 1) := by decide +kernel
theorem d_M_flowsTo_1 : decode b_M_flowsTo 1 = .ok (.istore_n 2, 1) := by decide +kernel
theorem d_M_flowsTo_2 : decode b_M_flowsTo 2 = .ok (.iconst 0, 1) := by decide +kernel
theorem d_M_flowsTo_3 : decode b_M_flowsTo 3 = .ok (.istore_n 3, 1) := by decide +kernel
theorem d_M_flowsTo_4 : decode b_M_flowsTo 4 = .ok (.iload_n 3, 1) := by decide +kernel
theorem d_M_flowsTo_5 : decode b_M_flowsTo 5 = .ok (.iconst 4, 1) := by decide +kernel
theorem d_M_flowsTo_6 : decode b_M_flowsTo 6 = .ok (.if_icmp .ge 86, 3) := by decide +kernel
theorem d_M_flowsTo_9 : decode b_M_flowsTo 9 = .ok (.aload_n 0, 1) := by decide +kernel
theorem d_M_flowsTo_10 : decode b_M_flowsTo 10 = .ok (.iload_n 1, 1) := by decide +kernel
theorem d_M_flowsTo_11 : decode b_M_flowsTo 11 = .ok (.iload_n 3, 1) := by decide +kernel
theorem d_M_flowsTo_12 : decode b_M_flowsTo 12 = .ok (.invokevirtual 112, 3) := by decide +kernel
theorem d_M_flowsTo_15 : decode b_M_flowsTo 15 = .ok (.ifCond .eq 7, 3) := by decide +kernel
theorem d_M_flowsTo_18 : decode b_M_flowsTo 18 = .ok (.iconst (-1), 1) := by decide +kernel
theorem d_M_flowsTo_19 : decode b_M_flowsTo 19 = .ok (.goto 9, 3) := by decide +kernel
theorem d_M_flowsTo_22 : decode b_M_flowsTo 22 = .ok (.aload_n 0, 1) := by decide +kernel
theorem d_M_flowsTo_23 : decode b_M_flowsTo 23 = .ok (.iload_n 1, 1) := by decide +kernel
theorem d_M_flowsTo_24 : decode b_M_flowsTo 24 = .ok (.iload_n 3, 1) := by decide +kernel
theorem d_M_flowsTo_25 : decode b_M_flowsTo 25 = .ok (.invokevirtual 100, 3) := by decide +kernel
theorem d_M_flowsTo_28 : decode b_M_flowsTo 28 = .ok (.istore 4, 2) := by decide +kernel
theorem d_M_flowsTo_30 : decode b_M_flowsTo 30 = .ok (.iload 4, 2) := by decide +kernel
theorem d_M_flowsTo_32 : decode b_M_flowsTo 32 = .ok (.ifCond .lt 54, 3) := by decide +kernel
theorem d_M_flowsTo_35 : decode b_M_flowsTo 35 = .ok (.aload_n 0, 1) := by decide +kernel
theorem d_M_flowsTo_36 : decode b_M_flowsTo 36 = .ok (.getfield 9, 3) := by decide +kernel
theorem d_M_flowsTo_39 : decode b_M_flowsTo 39 = .ok (.bipush 50, 2) := by decide +kernel
theorem d_M_flowsTo_41 : decode b_M_flowsTo 41 = .ok (.iload 4, 2) := by decide +kernel
theorem d_M_flowsTo_43 : decode b_M_flowsTo 43 = .ok (.iadd, 1) := by decide +kernel
theorem d_M_flowsTo_44 : decode b_M_flowsTo 44 = .ok (.iaload, 1) := by decide +kernel
theorem d_M_flowsTo_45 : decode b_M_flowsTo 45 = .ok (.aload_n 0, 1) := by decide +kernel
theorem d_M_flowsTo_46 : decode b_M_flowsTo 46 = .ok (.getfield 9, 3) := by decide +kernel
theorem d_M_flowsTo_49 : decode b_M_flowsTo 49 = .ok (.bipush 50, 2) := by decide +kernel
theorem d_M_flowsTo_51 : decode b_M_flowsTo 51 = .ok (.iload_n 1, 1) := by decide +kernel
theorem d_M_flowsTo_52 : decode b_M_flowsTo 52 = .ok (.iadd, 1) := by decide +kernel
theorem d_M_flowsTo_53 : decode b_M_flowsTo 53 = .ok (.iaload, 1) := by decide +kernel
theorem d_M_flowsTo_54 : decode b_M_flowsTo 54 = .ok (.if_icmp .ge 32, 3) := by decide +kernel
theorem d_M_flowsTo_57 : decode b_M_flowsTo 57 = .ok (.iload_n 2, 1) := by decide +kernel
theorem d_M_flowsTo_58 : decode b_M_flowsTo 58 = .ok (.ifCond .lt 25, 3) := by decide +kernel
theorem d_M_flowsTo_61 : decode b_M_flowsTo 61 = .ok (.aload_n 0, 1) := by decide +kernel
theorem d_M_flowsTo_62 : decode b_M_flowsTo 62 = .ok (.getfield 9, 3) := by decide +kernel
theorem d_M_flowsTo_65 : decode b_M_flowsTo 65 = .ok (.bipush 50, 2) := by decide +kernel
theorem d_M_flowsTo_67 : decode b_M_flowsTo 67 = .ok (.iload 4, 2) := by decide +kernel
theorem d_M_flowsTo_69 : decode b_M_flowsTo 69 = .ok (.iadd, 1) := by decide +kernel
theorem d_M_flowsTo_70 : decode b_M_flowsTo 70 = .ok (.iaload, 1) := by decide +kernel
theorem d_M_flowsTo_71 : decode b_M_flowsTo 71 = .ok (.aload_n 0, 1) := by decide +kernel
theorem d_M_flowsTo_72 : decode b_M_flowsTo 72 = .ok (.getfield 9, 3) := by decide +kernel
theorem d_M_flowsTo_75 : decode b_M_flowsTo 75 = .ok (.bipush 50, 2) := by decide +kernel
theorem d_M_flowsTo_77 : decode b_M_flowsTo 77 = .ok (.iload_n 2, 1) := by decide +kernel
theorem d_M_flowsTo_78 : decode b_M_flowsTo 78 = .ok (.iadd, 1) := by decide +kernel
theorem d_M_flowsTo_79 : decode b_M_flowsTo 79 = .ok (.iaload, 1) := by decide +kernel
theorem d_M_flowsTo_80 : decode b_M_flowsTo 80 = .ok (.if_icmp .ge 6, 3) := by decide +kernel
theorem d_M_flowsTo_83 : decode b_M_flowsTo 83 = .ok (.iload 4, 2) := by decide +kernel
theorem d_M_flowsTo_85 : decode b_M_flowsTo 85 = .ok (.istore_n 2, 1) := by decide +kernel
theorem d_M_flowsTo_86 : decode b_M_flowsTo 86 = .ok (.iinc 3 1, 3) := by decide +kernel
theorem d_M_flowsTo_89 : decode b_M_flowsTo 89 = .ok (.goto (-85), 3) := by decide +kernel
theorem d_M_flowsTo_92 : decode b_M_flowsTo 92 = .ok (.iload_n 2, 1) := by decide +kernel
theorem d_M_flowsTo_93 : decode b_M_flowsTo 93 = .ok (.ireturn, 1) := by decide +kernel
theorem d_M_hit_0 : decode b_M_hit 0 = .ok (.iload_n 1, 1) := by decide +kernel
theorem d_M_hit_1 : decode b_M_hit 1 = .ok (.invokestatic 180, 3) := by decide +kernel
theorem d_M_hit_4 : decode b_M_hit 4 = .ok (.ifCond .eq 11, 3) := by decide +kernel
theorem d_M_hit_7 : decode b_M_hit 7 = .ok (.aload_n 0, 1) := by decide +kernel
theorem d_M_hit_8 : decode b_M_hit 8 = .ok (.iload_n 1, 1) := by decide +kernel
theorem d_M_hit_9 : decode b_M_hit 9 = .ok (.invokevirtual 186, 3) := by decide +kernel
theorem d_M_hit_12 : decode b_M_hit 12 = .ok (.goto 9, 3) := by decide +kernel
theorem d_M_hit_15 : decode b_M_hit 15 = .ok (.aload_n 0, 1) := by decide +kernel
theorem d_M_hit_16 : decode b_M_hit 16 = .ok (.ldc 81, 2) := by decide +kernel
theorem d_M_hit_18 : decode b_M_hit 18 = .ok (.invokevirtual 94, 3) := by decide +kernel
theorem d_M_hit_21 : decode b_M_hit 21 = .ok (.ireturn, 1) := by decide +kernel
theorem d_M_hits_0 : decode b_M_hits 0 = .ok (.aload_n 0, 1) := by decide +kernel
theorem d_M_hits_1 : decode b_M_hits 1 = .ok (.aload_n 0, 1) := by decide +kernel
theorem d_M_hits_2 : decode b_M_hits 2 = .ok (.getfield 9, 3) := by decide +kernel
theorem d_M_hits_5 : decode b_M_hits 5 = .ok (.iconst 3, 1) := by decide +kernel
theorem d_M_hits_6 : decode b_M_hits 6 = .ok (.iaload, 1) := by decide +kernel
theorem d_M_hits_7 : decode b_M_hits 7 = .ok (.iload_n 1, 1) := by decide +kernel
theorem d_M_hits_8 : decode b_M_hits 8 = .ok (.invokevirtual 183, 3) := by decide +kernel
theorem d_M_hits_11 : decode b_M_hits 11 = .ok (.lstore_n 2, 1) := by decide +kernel
theorem d_M_hits_12 : decode b_M_hits 12 = .ok (.iconst 0, 1) := by decide +kernel
theorem d_M_hits_13 : decode b_M_hits 13 = .ok (.istore 4, 2) := by decide +kernel
theorem d_M_hits_15 : decode b_M_hits 15 = .ok (.iconst 0, 1) := by decide +kernel
theorem d_M_hits_16 : decode b_M_hits 16 = .ok (.istore 5, 2) := by decide +kernel
theorem d_M_hits_18 : decode b_M_hits 18 = .ok (.iload 5, 2) := by decide +kernel
theorem d_M_hits_20 : decode b_M_hits 20 = .ok (.aload_n 0, 1) := by decide +kernel
theorem d_M_hits_21 : decode b_M_hits 21 = .ok (.getfield 9, 3) := by decide +kernel
theorem d_M_hits_24 : decode b_M_hits 24 = .ok (.bipush 10, 2) := by decide +kernel
theorem d_M_hits_26 : decode b_M_hits 26 = .ok (.iaload, 1) := by decide +kernel
theorem d_M_hits_27 : decode b_M_hits 27 = .ok (.if_icmp .ge 48, 3) := by decide +kernel
theorem d_M_hits_30 : decode b_M_hits 30 = .ok (.iload 4, 2) := by decide +kernel
theorem d_M_hits_32 : decode b_M_hits 32 = .ok (.aload_n 0, 1) := by decide +kernel
theorem d_M_hits_33 : decode b_M_hits 33 = .ok (.iload 5, 2) := by decide +kernel
theorem d_M_hits_35 : decode b_M_hits 35 = .ok (.iconst 4, 1) := by decide +kernel
theorem d_M_hits_36 : decode b_M_hits 36 = .ok (.invokevirtual 103, 3) := by decide +kernel
theorem d_M_hits_39 : decode b_M_hits 39 = .ok (.ifCond .ne 26, 3) := by decide +kernel
theorem d_M_hits_42 : decode b_M_hits 42 = .ok (.lload_n 2, 1) := by decide +kernel
theorem d_M_hits_43 : decode b_M_hits 43 = .ok (.aload_n 0, 1) := by decide +kernel
theorem d_M_hits_44 : decode b_M_hits 44 = .ok (.iload 5, 2) := by decide +kernel
theorem d_M_hits_46 : decode b_M_hits 46 = .ok (.iconst 1, 1) := by decide +kernel
theorem d_M_hits_47 : decode b_M_hits 47 = .ok (.invokevirtual 103, 3) := by decide +kernel
theorem d_M_hits_50 : decode b_M_hits 50 = .ok (.lshr, 1) := by decide +kernel
theorem d_M_hits_51 : decode b_M_hits 51 = .ok (.lconst 1, 1) := by decide +kernel
theorem d_M_hits_52 : decode b_M_hits 52 = .ok (.land, 1) := by decide +kernel
theorem d_M_hits_53 : decode b_M_hits 53 = .ok (.lconst 1, 1) := by decide +kernel
theorem d_M_hits_54 : decode b_M_hits 54 = .ok (.lcmp, 1) := by decide +kernel
theorem d_M_hits_55 : decode b_M_hits 55 = .ok (.ifCond .ne 10, 3) := by decide +kernel
theorem d_M_hits_58 : decode b_M_hits 58 = .ok (.iconst 1, 1) := by decide +kernel
theorem d_M_hits_59 : decode b_M_hits 59 = .ok (.iload 5, 2) := by decide +kernel
theorem d_M_hits_61 : decode b_M_hits 61 = .ok (.ishl, 1) := by decide +kernel
theorem d_M_hits_62 : decode b_M_hits 62 = .ok (.goto 4, 3) := by decide +kernel
theorem d_M_hits_65 : decode b_M_hits 65 = .ok (.iconst 0, 1) := by decide +kernel
theorem d_M_hits_66 : decode b_M_hits 66 = .ok (.ior, 1) := by decide +kernel
theorem d_M_hits_67 : decode b_M_hits 67 = .ok (.istore 4, 2) := by decide +kernel
theorem d_M_hits_69 : decode b_M_hits 69 = .ok (.iinc 5 1, 3) := by decide +kernel
theorem d_M_hits_72 : decode b_M_hits 72 = .ok (.goto (-54), 3) := by decide +kernel
theorem d_M_hits_75 : decode b_M_hits 75 = .ok (.iload 4, 2) := by decide +kernel
theorem d_M_hits_77 : decode b_M_hits 77 = .ok (.ireturn, 1) := by decide +kernel
theorem d_M_least_0 : decode b_M_least 0 = .ok (.aload_n 0, 1) := by decide +kernel
theorem d_M_least_1 : decode b_M_least 1 = .ok (.iload_n 1, 1) := by decide +kernel
theorem d_M_least_2 : decode b_M_least 2 = .ok (.invokevirtual 135, 3) := by decide +kernel
theorem d_M_least_5 : decode b_M_least 5 = .ok (.ifCond .ne 10, 3) := by decide +kernel
theorem d_M_least_8 : decode b_M_least 8 = .ok (.aload_n 0, 1) := by decide +kernel
theorem d_M_least_9 : decode b_M_least 9 = .ok (.ldc 81, 2) := by decide +kernel
theorem d_M_least_11 : decode b_M_least 11 = .ok (.invokevirtual 94, 3) := by decide +kernel
theorem d_M_least_14 : decode b_M_least 14 = .ok (.ireturn, 1) := by decide +kernel
theorem d_M_least_15 : decode b_M_least 15 = .ok (.aload_n 0, 1) := by decide +kernel
theorem d_M_least_16 : decode b_M_least 16 = .ok (.iload_n 1, 1) := by decide +kernel
theorem d_M_least_17 : decode b_M_least 17 = .ok (.iconst 4, 1) := by decide +kernel
theorem d_M_least_18 : decode b_M_least 18 = .ok (.invokevirtual 103, 3) := by decide +kernel
theorem d_M_least_21 : decode b_M_least 21 = .ok (.iconst 1, 1) := by decide +kernel
theorem d_M_least_22 : decode b_M_least 22 = .ok (.if_icmp .ne 10, 3) := by decide +kernel
theorem d_M_least_25 : decode b_M_least 25 = .ok (.aload_n 0, 1) := by decide +kernel
theorem d_M_least_26 : decode b_M_least 26 = .ok (.ldc 123, 2) := by decide +kernel
theorem d_M_least_28 : decode b_M_least 28 = .ok (.invokevirtual 94, 3) := by decide +kernel
theorem d_M_least_31 : decode b_M_least 31 = .ok (.ireturn, 1) := by decide +kernel
theorem d_M_least_32 : decode b_M_least 32 = .ok (.iconst 1, 1) := by decide +kernel
theorem d_M_least_33 : decode b_M_least 33 = .ok (.istore_n 2, 1) := by decide +kernel
theorem d_M_least_34 : decode b_M_least 34 = .ok (.iload_n 2, 1) := by decide +kernel
theorem d_M_least_35 : decode b_M_least 35 = .ok (.bipush 99, 2) := by decide +kernel
theorem d_M_least_37 : decode b_M_least 37 = .ok (.if_icmp .gt 24, 3) := by decide +kernel
theorem d_M_least_40 : decode b_M_least 40 = .ok (.aload_n 0, 1) := by decide +kernel
theorem d_M_least_41 : decode b_M_least 41 = .ok (.iload_n 2, 1) := by decide +kernel
theorem d_M_least_42 : decode b_M_least 42 = .ok (.invokevirtual 186, 3) := by decide +kernel
theorem d_M_least_45 : decode b_M_least 45 = .ok (.iload_n 1, 1) := by decide +kernel
theorem d_M_least_46 : decode b_M_least 46 = .ok (.ishr, 1) := by decide +kernel
theorem d_M_least_47 : decode b_M_least 47 = .ok (.iconst 1, 1) := by decide +kernel
theorem d_M_least_48 : decode b_M_least 48 = .ok (.iand, 1) := by decide +kernel
theorem d_M_least_49 : decode b_M_least 49 = .ok (.iconst 1, 1) := by decide +kernel
theorem d_M_least_50 : decode b_M_least 50 = .ok (.if_icmp .ne 5, 3) := by decide +kernel
theorem d_M_least_53 : decode b_M_least 53 = .ok (.iload_n 2, 1) := by decide +kernel
theorem d_M_least_54 : decode b_M_least 54 = .ok (.ireturn, 1) := by decide +kernel
theorem d_M_least_55 : decode b_M_least 55 = .ok (.iinc 2 1, 3) := by decide +kernel
theorem d_M_least_58 : decode b_M_least 58 = .ok (.goto (-24), 3) := by decide +kernel
theorem d_M_least_61 : decode b_M_least 61 = .ok (.aload_n 0, 1) := by decide +kernel
theorem d_M_least_62 : decode b_M_least 62 = .ok (.ldc 168, 2) := by decide +kernel
theorem d_M_least_64 : decode b_M_least 64 = .ok (.invokevirtual 94, 3) := by decide +kernel
theorem d_M_least_67 : decode b_M_least 67 = .ok (.ireturn, 1) := by decide +kernel
theorem d_M_turnsOn_0 : decode b_M_turnsOn 0 = .ok (.aload_n 0, 1) := by decide +kernel
theorem d_M_turnsOn_1 : decode b_M_turnsOn 1 = .ok (.iload_n 1, 1) := by decide +kernel
theorem d_M_turnsOn_2 : decode b_M_turnsOn 2 = .ok (.iload_n 2, 1) := by decide +kernel
theorem d_M_turnsOn_3 : decode b_M_turnsOn 3 = .ok (.invokevirtual 109, 3) := by decide +kernel
theorem d_M_turnsOn_6 : decode b_M_turnsOn 6 = .ok (.istore 4, 2) := by decide +kernel
theorem d_M_turnsOn_8 : decode b_M_turnsOn 8 = .ok (.iload 4, 2) := by decide +kernel
theorem d_M_turnsOn_10 : decode b_M_turnsOn 10 = .ok (.ifCond .lt 10, 3) := by decide +kernel
theorem d_M_turnsOn_13 : decode b_M_turnsOn 13 = .ok (.iload_n 3, 1) := by decide +kernel
theorem d_M_turnsOn_14 : decode b_M_turnsOn 14 = .ok (.invokestatic 180, 3) := by decide +kernel
theorem d_M_turnsOn_17 : decode b_M_turnsOn 17 = .ok (.ifCond .ne 10, 3) := by decide +kernel
theorem d_M_turnsOn_20 : decode b_M_turnsOn 20 = .ok (.aload_n 0, 1) := by decide +kernel
theorem d_M_turnsOn_21 : decode b_M_turnsOn 21 = .ok (.ldc 81, 2) := by decide +kernel
theorem d_M_turnsOn_23 : decode b_M_turnsOn 23 = .ok (.invokevirtual 94, 3) := by decide +kernel
theorem d_M_turnsOn_26 : decode b_M_turnsOn 26 = .ok (.ireturn, 1) := by decide +kernel
theorem d_M_turnsOn_27 : decode b_M_turnsOn 27 = .ok (.aload_n 0, 1) := by decide +kernel
theorem d_M_turnsOn_28 : decode b_M_turnsOn 28 = .ok (.iload_n 1, 1) := by decide +kernel
theorem d_M_turnsOn_29 : decode b_M_turnsOn 29 = .ok (.iload 4, 2) := by decide +kernel
theorem d_M_turnsOn_31 : decode b_M_turnsOn 31 = .ok (.invokevirtual 112, 3) := by decide +kernel
theorem d_M_turnsOn_34 : decode b_M_turnsOn 34 = .ok (.ifCond .eq 10, 3) := by decide +kernel
theorem d_M_turnsOn_37 : decode b_M_turnsOn 37 = .ok (.aload_n 0, 1) := by decide +kernel
theorem d_M_turnsOn_38 : decode b_M_turnsOn 38 = .ok (.ldc 123, 2) := by decide +kernel
theorem d_M_turnsOn_40 : decode b_M_turnsOn 40 = .ok (.invokevirtual 94, 3) := by decide +kernel
theorem d_M_turnsOn_43 : decode b_M_turnsOn 43 = .ok (.ireturn, 1) := by decide +kernel
theorem d_M_turnsOn_44 : decode b_M_turnsOn 44 = .ok (.aload_n 0, 1) := by decide +kernel
theorem d_M_turnsOn_45 : decode b_M_turnsOn 45 = .ok (.iload_n 3, 1) := by decide +kernel
theorem d_M_turnsOn_46 : decode b_M_turnsOn 46 = .ok (.invokevirtual 186, 3) := by decide +kernel
theorem d_M_turnsOn_49 : decode b_M_turnsOn 49 = .ok (.istore 5, 2) := by decide +kernel
theorem d_M_turnsOn_51 : decode b_M_turnsOn 51 = .ok (.aload_n 0, 1) := by decide +kernel
theorem d_M_turnsOn_52 : decode b_M_turnsOn 52 = .ok (.iload_n 1, 1) := by decide +kernel
theorem d_M_turnsOn_53 : decode b_M_turnsOn 53 = .ok (.iload 4, 2) := by decide +kernel
theorem d_M_turnsOn_55 : decode b_M_turnsOn 55 = .ok (.iload_n 3, 1) := by decide +kernel
theorem d_M_turnsOn_56 : decode b_M_turnsOn 56 = .ok (.invokevirtual 189, 3) := by decide +kernel
theorem d_M_turnsOn_59 : decode b_M_turnsOn 59 = .ok (.iload 5, 2) := by decide +kernel
theorem d_M_turnsOn_61 : decode b_M_turnsOn 61 = .ok (.iconst (-1), 1) := by decide +kernel
theorem d_M_turnsOn_62 : decode b_M_turnsOn 62 = .ok (.ixor, 1) := by decide +kernel
theorem d_M_turnsOn_63 : decode b_M_turnsOn 63 = .ok (.iand, 1) := by decide +kernel
theorem d_M_turnsOn_64 : decode b_M_turnsOn 64 = .ok (.ireturn, 1) := by decide +kernel
theorem d_M_hitsWith_0 : decode b_M_hitsWith 0 = .ok (.aload_n 0, 1) := by decide +kernel
theorem d_M_hitsWith_1 : decode b_M_hitsWith 1 = .ok (.iload_n 1, 1) := by decide +kernel
theorem d_M_hitsWith_2 : decode b_M_hitsWith 2 = .ok (.iload_n 2, 1) := by decide +kernel
theorem d_M_hitsWith_3 : decode b_M_hitsWith 3 = .ok (.iconst 1, 1) := by decide +kernel
theorem d_M_hitsWith_4 : decode b_M_hitsWith 4 = .ok (.invokevirtual 116, 3) := by decide +kernel
theorem d_M_hitsWith_7 : decode b_M_hitsWith 7 = .ok (.aload_n 0, 1) := by decide +kernel
theorem d_M_hitsWith_8 : decode b_M_hitsWith 8 = .ok (.iload_n 3, 1) := by decide +kernel
theorem d_M_hitsWith_9 : decode b_M_hitsWith 9 = .ok (.invokevirtual 186, 3) := by decide +kernel
theorem d_M_hitsWith_12 : decode b_M_hitsWith 12 = .ok (.istore 4, 2) := by decide +kernel
theorem d_M_hitsWith_14 : decode b_M_hitsWith 14 = .ok (.aload_n 0, 1) := by decide +kernel
theorem d_M_hitsWith_15 : decode b_M_hitsWith 15 = .ok (.iload_n 1, 1) := by decide +kernel
theorem d_M_hitsWith_16 : decode b_M_hitsWith 16 = .ok (.iload_n 2, 1) := by decide +kernel
theorem d_M_hitsWith_17 : decode b_M_hitsWith 17 = .ok (.iconst 0, 1) := by decide +kernel
theorem d_M_hitsWith_18 : decode b_M_hitsWith 18 = .ok (.invokevirtual 116, 3) := by decide +kernel
theorem d_M_hitsWith_21 : decode b_M_hitsWith 21 = .ok (.iload 4, 2) := by decide +kernel
theorem d_M_hitsWith_23 : decode b_M_hitsWith 23 = .ok (.ireturn, 1) := by decide +kernel
theorem d_M_save_0 : decode b_M_save 0 = .ok (.iload_n 1, 1) := by decide +kernel
theorem d_M_save_1 : decode b_M_save 1 = .ok (.invokestatic 180, 3) := by decide +kernel
theorem d_M_save_4 : decode b_M_save 4 = .ok (.ifCond .ne 10, 3) := by decide +kernel
theorem d_M_save_7 : decode b_M_save 7 = .ok (.aload_n 0, 1) := by decide +kernel
theorem d_M_save_8 : decode b_M_save 8 = .ok (.ldc 81, 2) := by decide +kernel
theorem d_M_save_10 : decode b_M_save 10 = .ok (.invokevirtual 94, 3) := by decide +kernel
theorem d_M_save_13 : decode b_M_save 13 = .ok (.ireturn, 1) := by decide +kernel
theorem d_M_save_14 : decode b_M_save 14 = .ok (.iconst (-1), 1) := by decide +kernel
theorem d_M_save_15 : decode b_M_save 15 = .ok (.istore_n 2, 1) := by decide +kernel
theorem d_M_save_16 : decode b_M_save 16 = .ok (.aload_n 0, 1) := by decide +kernel
theorem d_M_save_17 : decode b_M_save 17 = .ok (.iload_n 1, 1) := by decide +kernel
theorem d_M_save_18 : decode b_M_save 18 = .ok (.invokevirtual 186, 3) := by decide +kernel
theorem d_M_save_21 : decode b_M_save 21 = .ok (.invokestatic 192, 3) := by decide +kernel
theorem d_M_save_24 : decode b_M_save 24 = .ok (.istore_n 3, 1) := by decide +kernel
theorem d_M_save_25 : decode b_M_save 25 = .ok (.iconst 0, 1) := by decide +kernel
theorem d_M_save_26 : decode b_M_save 26 = .ok (.istore 4, 2) := by decide +kernel
theorem d_M_save_28 : decode b_M_save 28 = .ok (.iload 4, 2) := by decide +kernel
theorem d_M_save_30 : decode b_M_save 30 = .ok (.bipush 36, 2) := by decide +kernel
theorem d_M_save_32 : decode b_M_save 32 = .ok (.if_icmp .ge 90, 3) := by decide +kernel
theorem d_M_save_35 : decode b_M_save 35 = .ok (.iconst 1, 1) := by decide +kernel
theorem d_M_save_36 : decode b_M_save 36 = .ok (.istore 5, 2) := by decide +kernel
theorem d_M_save_38 : decode b_M_save 38 = .ok (.iload 5, 2) := by decide +kernel
theorem d_M_save_40 : decode b_M_save 40 = .ok (.iconst 3, 1) := by decide +kernel
theorem d_M_save_41 : decode b_M_save 41 = .ok (.if_icmp .ge 75, 3) := by decide +kernel
theorem d_M_save_44 : decode b_M_save 44 = .ok (.aload_n 0, 1) := by decide +kernel
theorem d_M_save_45 : decode b_M_save 45 = .ok (.iload 4, 2) := by decide +kernel
theorem d_M_save_47 : decode b_M_save 47 = .ok (.iload 5, 2) := by decide +kernel
theorem d_M_save_49 : decode b_M_save 49 = .ok (.invokevirtual 100, 3) := by decide +kernel
theorem d_M_save_52 : decode b_M_save 52 = .ok (.ifCond .lt 58, 3) := by decide +kernel
theorem d_M_save_55 : decode b_M_save 55 = .ok (.aload_n 0, 1) := by decide +kernel
theorem d_M_save_56 : decode b_M_save 56 = .ok (.iload 4, 2) := by decide +kernel
theorem d_M_save_58 : decode b_M_save 58 = .ok (.iload 5, 2) := by decide +kernel
theorem d_M_save_60 : decode b_M_save 60 = .ok (.invokevirtual 112, 3) := by decide +kernel
theorem d_M_save_63 : decode b_M_save 63 = .ok (.ifCond .ne 47, 3) := by decide +kernel
theorem d_M_save_66 : decode b_M_save 66 = .ok (.aload_n 0, 1) := by decide +kernel
theorem d_M_save_67 : decode b_M_save 67 = .ok (.iload 4, 2) := by decide +kernel
theorem d_M_save_69 : decode b_M_save 69 = .ok (.iload 5, 2) := by decide +kernel
theorem d_M_save_71 : decode b_M_save 71 = .ok (.iload_n 1, 1) := by decide +kernel
theorem d_M_save_72 : decode b_M_save 72 = .ok (.invokevirtual 189, 3) := by decide +kernel
theorem d_M_save_75 : decode b_M_save 75 = .ok (.invokestatic 192, 3) := by decide +kernel
theorem d_M_save_78 : decode b_M_save 78 = .ok (.iload_n 3, 1) := by decide +kernel
theorem d_M_save_79 : decode b_M_save 79 = .ok (.if_icmp .ge 31, 3) := by decide +kernel
theorem d_M_save_82 : decode b_M_save 82 = .ok (.aload_n 0, 1) := by decide +kernel
theorem d_M_save_83 : decode b_M_save 83 = .ok (.iload 4, 2) := by decide +kernel
theorem d_M_save_85 : decode b_M_save 85 = .ok (.iload 5, 2) := by decide +kernel
theorem d_M_save_87 : decode b_M_save 87 = .ok (.iload_n 1, 1) := by decide +kernel
theorem d_M_save_88 : decode b_M_save 88 = .ok (.invokevirtual 189, 3) := by decide +kernel
theorem d_M_save_91 : decode b_M_save 91 = .ok (.invokestatic 192, 3) := by decide +kernel
theorem d_M_save_94 : decode b_M_save 94 = .ok (.istore_n 3, 1) := by decide +kernel
theorem d_M_save_95 : decode b_M_save 95 = .ok (.bipush 100, 2) := by decide +kernel
theorem d_M_save_97 : decode b_M_save 97 = .ok (.iload 4, 2) := by decide +kernel
theorem d_M_save_99 : decode b_M_save 99 = .ok (.imul, 1) := by decide +kernel
theorem d_M_save_100 : decode b_M_save 100 = .ok (.aload_n 0, 1) := by decide +kernel
theorem d_M_save_101 : decode b_M_save 101 = .ok (.iload 4, 2) := by decide +kernel
theorem d_M_save_103 : decode b_M_save 103 = .ok (.iload 5, 2) := by decide +kernel
theorem d_M_save_105 : decode b_M_save 105 = .ok (.invokevirtual 100, 3) := by decide +kernel
theorem d_M_save_108 : decode b_M_save 108 = .ok (.iadd, 1) := by decide +kernel
theorem d_M_save_109 : decode b_M_save 109 = .ok (.istore_n 2, 1) := by decide +kernel
theorem d_M_save_110 : decode b_M_save 110 = .ok (.iinc 5 1, 3) := by decide +kernel
theorem d_M_save_113 : decode b_M_save 113 = .ok (.goto (-75), 3) := by decide +kernel
theorem d_M_save_116 : decode b_M_save 116 = .ok (.iinc 4 1, 3) := by decide +kernel
theorem d_M_save_119 : decode b_M_save 119 = .ok (.goto (-91), 3) := by decide +kernel
theorem d_M_save_122 : decode b_M_save 122 = .ok (.iload_n 2, 1) := by decide +kernel
theorem d_M_save_123 : decode b_M_save 123 = .ok (.ifCond .ge 12, 3) := by decide +kernel
theorem d_M_save_126 : decode b_M_save 126 = .ok (.aload_n 0, 1) := by decide +kernel
theorem d_M_save_127 : decode b_M_save 127 = .ok (.ldc 168, 2) := by decide +kernel
theorem d_M_save_129 : decode b_M_save 129 = .ok (.invokevirtual 94, 3) := by decide +kernel
theorem d_M_save_132 : decode b_M_save 132 = .ok (.goto 4, 3) := by decide +kernel
theorem d_M_save_135 : decode b_M_save 135 = .ok (.iload_n 2, 1) := by decide +kernel
theorem d_M_save_136 : decode b_M_save 136 = .ok (.ireturn, 1) := by decide +kernel
theorem d_M_bits_0 : decode b_M_bits 0 = .ok (.iconst 0, 1) := by decide +kernel
theorem d_M_bits_1 : decode b_M_bits 1 = .ok (.istore_n 1, 1) := by decide +kernel
theorem d_M_bits_2 : decode b_M_bits 2 = .ok (.iload_n 0, 1) := by decide +kernel
theorem d_M_bits_3 : decode b_M_bits 3 = .ok (.istore_n 2, 1) := by decide +kernel
theorem d_M_bits_4 : decode b_M_bits 4 = .ok (.iload_n 2, 1) := by decide +kernel
theorem d_M_bits_5 : decode b_M_bits 5 = .ok (.ifCond .eq 15, 3) := by decide +kernel
theorem d_M_bits_8 : decode b_M_bits 8 = .ok (.iinc 1 1, 3) := by decide +kernel
theorem d_M_bits_11 : decode b_M_bits 11 = .ok (.iload_n 2, 1) := by decide +kernel
theorem d_M_bits_12 : decode b_M_bits 12 = .ok (.iload_n 2, 1) := by decide +kernel
theorem d_M_bits_13 : decode b_M_bits 13 = .ok (.iconst 1, 1) := by decide +kernel
theorem d_M_bits_14 : decode b_M_bits 14 = .ok (.isub, 1) := by decide +kernel
theorem d_M_bits_15 : decode b_M_bits 15 = .ok (.iand, 1) := by decide +kernel
theorem d_M_bits_16 : decode b_M_bits 16 = .ok (.istore_n 2, 1) := by decide +kernel
theorem d_M_bits_17 : decode b_M_bits 17 = .ok (.goto (-13), 3) := by decide +kernel
theorem d_M_bits_20 : decode b_M_bits 20 = .ok (.iload_n 1, 1) := by decide +kernel
theorem d_M_bits_21 : decode b_M_bits 21 = .ok (.ireturn, 1) := by decide +kernel
theorem d_M_volume_0 : decode b_M_volume 0 = .ok (.iload_n 1, 1) := by decide +kernel
theorem d_M_volume_1 : decode b_M_volume 1 = .ok (.invokestatic 180, 3) := by decide +kernel
theorem d_M_volume_4 : decode b_M_volume 4 = .ok (.ifCond .eq 12, 3) := by decide +kernel
theorem d_M_volume_7 : decode b_M_volume 7 = .ok (.aload_n 0, 1) := by decide +kernel
theorem d_M_volume_8 : decode b_M_volume 8 = .ok (.iconst 5, 1) := by decide +kernel
theorem d_M_volume_9 : decode b_M_volume 9 = .ok (.iload_n 1, 1) := by decide +kernel
theorem d_M_volume_10 : decode b_M_volume 10 = .ok (.invokevirtual 97, 3) := by decide +kernel
theorem d_M_volume_13 : decode b_M_volume 13 = .ok (.goto 9, 3) := by decide +kernel
theorem d_M_volume_16 : decode b_M_volume 16 = .ok (.aload_n 0, 1) := by decide +kernel
theorem d_M_volume_17 : decode b_M_volume 17 = .ok (.ldc 81, 2) := by decide +kernel
theorem d_M_volume_19 : decode b_M_volume 19 = .ok (.invokevirtual 94, 3) := by decide +kernel
theorem d_M_volume_22 : decode b_M_volume 22 = .ok (.ireturn, 1) := by decide +kernel
theorem d_M_pigs_0 : decode b_M_pigs 0 = .ok (.iload_n 1, 1) := by decide +kernel
theorem d_M_pigs_1 : decode b_M_pigs 1 = .ok (.ifCond .eq 7, 3) := by decide +kernel
theorem d_M_pigs_4 : decode b_M_pigs 4 = .ok (.iconst 1, 1) := by decide +kernel
theorem d_M_pigs_5 : decode b_M_pigs 5 = .ok (.goto 4, 3) := by decide +kernel
theorem d_M_pigs_8 : decode b_M_pigs 8 = .ok (.iconst 0, 1) := by decide +kernel
theorem d_M_pigs_9 : decode b_M_pigs 9 = .ok (.istore_n 2, 1) := by decide +kernel
theorem d_M_pigs_10 : decode b_M_pigs 10 = .ok (.aload_n 0, 1) := by decide +kernel
theorem d_M_pigs_11 : decode b_M_pigs 11 = .ok (.bipush 9, 2) := by decide +kernel
theorem d_M_pigs_13 : decode b_M_pigs 13 = .ok (.iload_n 2, 1) := by decide +kernel
theorem d_M_pigs_14 : decode b_M_pigs 14 = .ok (.invokevirtual 97, 3) := by decide +kernel
theorem d_M_pigs_17 : decode b_M_pigs 17 = .ok (.iload_n 2, 1) := by decide +kernel
theorem d_M_pigs_18 : decode b_M_pigs 18 = .ok (.if_icmp .ne 7, 3) := by decide +kernel
theorem d_M_pigs_21 : decode b_M_pigs 21 = .ok (.iconst 0, 1) := by decide +kernel
theorem d_M_pigs_22 : decode b_M_pigs 22 = .ok (.goto 4, 3) := by decide +kernel
theorem d_M_pigs_25 : decode b_M_pigs 25 = .ok (.iconst 1, 1) := by decide +kernel
theorem d_M_pigs_26 : decode b_M_pigs 26 = .ok (.ireturn, 1) := by decide +kernel
theorem d_M_months_0 : decode b_M_months 0 = .ok (.iload_n 1, 1) := by decide +kernel
theorem d_M_months_1 : decode b_M_months 1 = .ok (.iconst 1, 1) := by decide +kernel
theorem d_M_months_2 : decode b_M_months 2 = .ok (.sipush 240, 3) := by decide +kernel
theorem d_M_months_5 : decode b_M_months 5 = .ok (.invokestatic 86, 3) := by decide +kernel
theorem d_M_months_8 : decode b_M_months 8 = .ok (.ifCond .ne 10, 3) := by decide +kernel
theorem d_M_months_11 : decode b_M_months 11 = .ok (.aload_n 0, 1) := by decide +kernel
theorem d_M_months_12 : decode b_M_months 12 = .ok (.ldc 81, 2) := by decide +kernel
theorem d_M_months_14 : decode b_M_months 14 = .ok (.invokevirtual 94, 3) := by decide +kernel
theorem d_M_months_17 : decode b_M_months 17 = .ok (.ireturn, 1) := by decide +kernel
theorem d_M_months_18 : decode b_M_months 18 = .ok (.aload_n 0, 1) := by decide +kernel
theorem d_M_months_19 : decode b_M_months 19 = .ok (.iload_n 1, 1) := by decide +kernel
theorem d_M_months_20 : decode b_M_months 20 = .ok (.invokevirtual 209, 3) := by decide +kernel
theorem d_M_months_23 : decode b_M_months 23 = .ok (.ifCond .eq 12, 3) := by decide +kernel
theorem d_M_months_26 : decode b_M_months 26 = .ok (.aload_n 0, 1) := by decide +kernel
theorem d_M_months_27 : decode b_M_months 27 = .ok (.ldc 123, 2) := by decide +kernel
theorem d_M_months_29 : decode b_M_months 29 = .ok (.invokevirtual 94, 3) := by decide +kernel
theorem d_M_months_32 : decode b_M_months 32 = .ok (.goto 8, 3) := by decide +kernel
theorem d_M_months_35 : decode b_M_months 35 = .ok (.aload_n 0, 1) := by decide +kernel
theorem d_M_months_36 : decode b_M_months 36 = .ok (.iload_n 1, 1) := by decide +kernel
theorem d_M_months_37 : decode b_M_months 37 = .ok (.invokevirtual 212, 3) := by decide +kernel
theorem d_M_months_40 : decode b_M_months 40 = .ok (.ireturn, 1) := by decide +kernel
theorem d_M_isTooLate_0 : decode b_M_isTooLate 0 = .ok (.aload_n 0, 1) := by decide +kernel
theorem d_M_isTooLate_1 : decode b_M_isTooLate 1 = .ok (.getfield 9, 3) := by decide +kernel
theorem d_M_isTooLate_4 : decode b_M_isTooLate 4 = .ok (.iconst 1, 1) := by decide +kernel
theorem d_M_isTooLate_5 : decode b_M_isTooLate 5 = .ok (.iaload, 1) := by decide +kernel
theorem d_M_isTooLate_6 : decode b_M_isTooLate 6 = .ok (.iload_n 1, 1) := by decide +kernel
theorem d_M_isTooLate_7 : decode b_M_isTooLate 7 = .ok (.iadd, 1) := by decide +kernel
theorem d_M_isTooLate_8 : decode b_M_isTooLate 8 = .ok (.sipush 9999, 3) := by decide +kernel
theorem d_M_isTooLate_11 : decode b_M_isTooLate 11 = .ok (.if_icmp .le 7, 3) := by decide +kernel
theorem d_M_isTooLate_14 : decode b_M_isTooLate 14 = .ok (.iconst 1, 1) := by decide +kernel
theorem d_M_isTooLate_15 : decode b_M_isTooLate 15 = .ok (.goto 4, 3) := by decide +kernel
theorem d_M_isTooLate_18 : decode b_M_isTooLate 18 = .ok (.iconst 0, 1) := by decide +kernel
theorem d_M_isTooLate_19 : decode b_M_isTooLate 19 = .ok (.ireturn, 1) := by decide +kernel
theorem d_M_monthsGo_0 : decode b_M_monthsGo 0 = .ok (.iconst 0, 1) := by decide +kernel
theorem d_M_monthsGo_1 : decode b_M_monthsGo 1 = .ok (.istore_n 2, 1) := by decide +kernel
theorem d_M_monthsGo_2 : decode b_M_monthsGo 2 = .ok (.iconst 0, 1) := by decide +kernel
theorem d_M_monthsGo_3 : decode b_M_monthsGo 3 = .ok (.istore_n 3, 1) := by decide +kernel
theorem d_M_monthsGo_4 : decode b_M_monthsGo 4 = .ok (.iload_n 3, 1) := by decide +kernel
theorem d_M_monthsGo_5 : decode b_M_monthsGo 5 = .ok (.iload_n 1, 1) := by decide +kernel
theorem d_M_monthsGo_6 : decode b_M_monthsGo 6 = .ok (.if_icmp .ge 16, 3) := by decide +kernel
theorem d_M_monthsGo_9 : decode b_M_monthsGo 9 = .ok (.iload_n 2, 1) := by decide +kernel
theorem d_M_monthsGo_10 : decode b_M_monthsGo 10 = .ok (.aload_n 0, 1) := by decide +kernel
theorem d_M_monthsGo_11 : decode b_M_monthsGo 11 = .ok (.invokevirtual 205, 3) := by decide +kernel
theorem d_M_monthsGo_14 : decode b_M_monthsGo 14 = .ok (.iadd, 1) := by decide +kernel
theorem d_M_monthsGo_15 : decode b_M_monthsGo 15 = .ok (.istore_n 2, 1) := by decide +kernel
theorem d_M_monthsGo_16 : decode b_M_monthsGo 16 = .ok (.iinc 3 1, 3) := by decide +kernel
theorem d_M_monthsGo_19 : decode b_M_monthsGo 19 = .ok (.goto (-15), 3) := by decide +kernel
theorem d_M_monthsGo_22 : decode b_M_monthsGo 22 = .ok (.iload_n 2, 1) := by decide +kernel
theorem d_M_monthsGo_23 : decode b_M_monthsGo 23 = .ok (.ireturn, 1) := by decide +kernel
theorem d_M_month_0 : decode b_M_month 0 = .ok (.aload_n 0, 1) := by decide +kernel
theorem d_M_month_1 : decode b_M_month 1 = .ok (.bipush 10, 2) := by decide +kernel
theorem d_M_month_3 : decode b_M_month 3 = .ok (.invokevirtual 196, 3) := by decide +kernel
theorem d_M_month_6 : decode b_M_month 6 = .ok (.istore_n 1, 1) := by decide +kernel
theorem d_M_month_7 : decode b_M_month 7 = .ok (.aload_n 0, 1) := by decide +kernel
theorem d_M_month_8 : decode b_M_month 8 = .ok (.getfield 9, 3) := by decide +kernel
theorem d_M_month_11 : decode b_M_month 11 = .ok (.iconst 2, 1) := by decide +kernel
theorem d_M_month_12 : decode b_M_month 12 = .ok (.iaload, 1) := by decide +kernel
theorem d_M_month_13 : decode b_M_month 13 = .ok (.istore_n 2, 1) := by decide +kernel
theorem d_M_month_14 : decode b_M_month 14 = .ok (.bipush 18, 2) := by decide +kernel
theorem d_M_month_16 : decode b_M_month 16 = .ok (.iconst 4, 1) := by decide +kernel
theorem d_M_month_17 : decode b_M_month 17 = .ok (.iload_n 2, 1) := by decide +kernel
theorem d_M_month_18 : decode b_M_month 18 = .ok (.imul, 1) := by decide +kernel
theorem d_M_month_19 : decode b_M_month 19 = .ok (.iadd, 1) := by decide +kernel
theorem d_M_month_20 : decode b_M_month 20 = .ok (.istore_n 3, 1) := by decide +kernel
theorem d_M_month_21 : decode b_M_month 21 = .ok (.iconst 0, 1) := by decide +kernel
theorem d_M_month_22 : decode b_M_month 22 = .ok (.istore 4, 2) := by decide +kernel
theorem d_M_month_24 : decode b_M_month 24 = .ok (.aload_n 0, 1) := by decide +kernel
theorem d_M_month_25 : decode b_M_month 25 = .ok (.getfield 9, 3) := by decide +kernel
theorem d_M_month_28 : decode b_M_month 28 = .ok (.iload_n 3, 1) := by decide +kernel
theorem d_M_month_29 : decode b_M_month 29 = .ok (.iaload, 1) := by decide +kernel
theorem d_M_month_30 : decode b_M_month 30 = .ok (.istore 5, 2) := by decide +kernel
theorem d_M_month_32 : decode b_M_month 32 = .ok (.iload_n 1, 1) := by decide +kernel
theorem d_M_month_33 : decode b_M_month 33 = .ok (.iload 5, 2) := by decide +kernel
theorem d_M_month_35 : decode b_M_month 35 = .ok (.if_icmp .lt 23, 3) := by decide +kernel
theorem d_M_month_38 : decode b_M_month 38 = .ok (.iinc 4 1, 3) := by decide +kernel
theorem d_M_month_41 : decode b_M_month 41 = .ok (.iload 5, 2) := by decide +kernel
theorem d_M_month_43 : decode b_M_month 43 = .ok (.aload_n 0, 1) := by decide +kernel
theorem d_M_month_44 : decode b_M_month 44 = .ok (.getfield 9, 3) := by decide +kernel
theorem d_M_month_47 : decode b_M_month 47 = .ok (.iload_n 3, 1) := by decide +kernel
theorem d_M_month_48 : decode b_M_month 48 = .ok (.iload 4, 2) := by decide +kernel
theorem d_M_month_50 : decode b_M_month 50 = .ok (.iadd, 1) := by decide +kernel
theorem d_M_month_51 : decode b_M_month 51 = .ok (.iaload, 1) := by decide +kernel
theorem d_M_month_52 : decode b_M_month 52 = .ok (.iadd, 1) := by decide +kernel
theorem d_M_month_53 : decode b_M_month 53 = .ok (.istore 5, 2) := by decide +kernel
theorem d_M_month_55 : decode b_M_month 55 = .ok (.goto (-23), 3) := by decide +kernel
theorem d_M_month_58 : decode b_M_month 58 = .ok (.aload_n 0, 1) := by decide +kernel
theorem d_M_month_59 : decode b_M_month 59 = .ok (.getfield 9, 3) := by decide +kernel
theorem d_M_month_62 : decode b_M_month 62 = .ok (.iconst 2, 1) := by decide +kernel
theorem d_M_month_63 : decode b_M_month 63 = .ok (.iload 4, 2) := by decide +kernel
theorem d_M_month_65 : decode b_M_month 65 = .ok (.iastore, 1) := by decide +kernel
theorem d_M_month_66 : decode b_M_month 66 = .ok (.iload 4, 2) := by decide +kernel
theorem d_M_month_68 : decode b_M_month 68 = .ok (.iconst 3, 1) := by decide +kernel
theorem d_M_month_69 : decode b_M_month 69 = .ok (.if_icmp .ne 12, 3) := by decide +kernel
theorem d_M_month_72 : decode b_M_month 72 = .ok (.iload_n 2, 1) := by decide +kernel
theorem d_M_month_73 : decode b_M_month 73 = .ok (.iconst 3, 1) := by decide +kernel
theorem d_M_month_74 : decode b_M_month 74 = .ok (.if_icmp .eq 7, 3) := by decide +kernel
theorem d_M_month_77 : decode b_M_month 77 = .ok (.iconst 1, 1) := by decide +kernel
theorem d_M_month_78 : decode b_M_month 78 = .ok (.goto 4, 3) := by decide +kernel
theorem d_M_month_81 : decode b_M_month 81 = .ok (.iconst 0, 1) := by decide +kernel
theorem d_M_month_82 : decode b_M_month 82 = .ok (.istore 6, 2) := by decide +kernel
theorem d_M_month_84 : decode b_M_month 84 = .ok (.iload 6, 2) := by decide +kernel
theorem d_M_month_86 : decode b_M_month 86 = .ok (.iconst 1, 1) := by decide +kernel
theorem d_M_month_87 : decode b_M_month 87 = .ok (.if_icmp .ne 7, 3) := by decide +kernel
theorem d_M_month_90 : decode b_M_month 90 = .ok (.aload_n 0, 1) := by decide +kernel
theorem d_M_month_91 : decode b_M_month 91 = .ok (.invokevirtual 199, 3) := by decide +kernel
theorem d_M_month_94 : decode b_M_month 94 = .ok (.aload_n 0, 1) := by decide +kernel
theorem d_M_month_95 : decode b_M_month 95 = .ok (.getfield 9, 3) := by decide +kernel
theorem d_M_month_98 : decode b_M_month 98 = .ok (.iconst 1, 1) := by decide +kernel
theorem d_M_month_99 : decode b_M_month 99 = .ok (.iaload, 1) := by decide +kernel
theorem d_M_month_100 : decode b_M_month 100 = .ok (.iconst 1, 1) := by decide +kernel
theorem d_M_month_101 : decode b_M_month 101 = .ok (.iadd, 1) := by decide +kernel
theorem d_M_month_102 : decode b_M_month 102 = .ok (.bipush 12, 2) := by decide +kernel
theorem d_M_month_104 : decode b_M_month 104 = .ok (.irem, 1) := by decide +kernel
theorem d_M_month_105 : decode b_M_month 105 = .ok (.ifCond .ne 7, 3) := by decide +kernel
theorem d_M_month_108 : decode b_M_month 108 = .ok (.aload_n 0, 1) := by decide +kernel
theorem d_M_month_109 : decode b_M_month 109 = .ok (.invokevirtual 202, 3) := by decide +kernel
theorem d_M_month_112 : decode b_M_month 112 = .ok (.aload_n 0, 1) := by decide +kernel
theorem d_M_month_113 : decode b_M_month 113 = .ok (.getfield 9, 3) := by decide +kernel
theorem d_M_month_116 : decode b_M_month 116 = .ok (.bipush 7, 2) := by decide +kernel
theorem d_M_month_118 : decode b_M_month 118 = .ok (.dup2, 1) := by decide +kernel
theorem d_M_month_119 : decode b_M_month 119 = .ok (.iaload, 1) := by decide +kernel
theorem d_M_month_120 : decode b_M_month 120 = .ok (.aload_n 0, 1) := by decide +kernel
theorem d_M_month_121 : decode b_M_month 121 = .ok (.getfield 9, 3) := by decide +kernel
theorem d_M_month_124 : decode b_M_month 124 = .ok (.bipush 9, 2) := by decide +kernel
theorem d_M_month_126 : decode b_M_month 126 = .ok (.iaload, 1) := by decide +kernel
theorem d_M_month_127 : decode b_M_month 127 = .ok (.iadd, 1) := by decide +kernel
theorem d_M_month_128 : decode b_M_month 128 = .ok (.iastore, 1) := by decide +kernel
theorem d_M_month_129 : decode b_M_month 129 = .ok (.aload_n 0, 1) := by decide +kernel
theorem d_M_month_130 : decode b_M_month 130 = .ok (.getfield 9, 3) := by decide +kernel
theorem d_M_month_133 : decode b_M_month 133 = .ok (.bipush 8, 2) := by decide +kernel
theorem d_M_month_135 : decode b_M_month 135 = .ok (.dup2, 1) := by decide +kernel
theorem d_M_month_136 : decode b_M_month 136 = .ok (.iaload, 1) := by decide +kernel
theorem d_M_month_137 : decode b_M_month 137 = .ok (.aload_n 0, 1) := by decide +kernel
theorem d_M_month_138 : decode b_M_month 138 = .ok (.getfield 9, 3) := by decide +kernel
theorem d_M_month_141 : decode b_M_month 141 = .ok (.bipush 9, 2) := by decide +kernel
theorem d_M_month_143 : decode b_M_month 143 = .ok (.iaload, 1) := by decide +kernel
theorem d_M_month_144 : decode b_M_month 144 = .ok (.iload 6, 2) := by decide +kernel
theorem d_M_month_146 : decode b_M_month 146 = .ok (.imul, 1) := by decide +kernel
theorem d_M_month_147 : decode b_M_month 147 = .ok (.iadd, 1) := by decide +kernel
theorem d_M_month_148 : decode b_M_month 148 = .ok (.iastore, 1) := by decide +kernel
theorem d_M_month_149 : decode b_M_month 149 = .ok (.aload_n 0, 1) := by decide +kernel
theorem d_M_month_150 : decode b_M_month 150 = .ok (.getfield 9, 3) := by decide +kernel
theorem d_M_month_153 : decode b_M_month 153 = .ok (.bipush 9, 2) := by decide +kernel
theorem d_M_month_155 : decode b_M_month 155 = .ok (.iconst 0, 1) := by decide +kernel
theorem d_M_month_156 : decode b_M_month 156 = .ok (.iastore, 1) := by decide +kernel
theorem d_M_month_157 : decode b_M_month 157 = .ok (.aload_n 0, 1) := by decide +kernel
theorem d_M_month_158 : decode b_M_month 158 = .ok (.getfield 9, 3) := by decide +kernel
theorem d_M_month_161 : decode b_M_month 161 = .ok (.iconst 1, 1) := by decide +kernel
theorem d_M_month_162 : decode b_M_month 162 = .ok (.dup2, 1) := by decide +kernel
theorem d_M_month_163 : decode b_M_month 163 = .ok (.iaload, 1) := by decide +kernel
theorem d_M_month_164 : decode b_M_month 164 = .ok (.iconst 1, 1) := by decide +kernel
theorem d_M_month_165 : decode b_M_month 165 = .ok (.iadd, 1) := by decide +kernel
theorem d_M_month_166 : decode b_M_month 166 = .ok (.iastore, 1) := by decide +kernel
theorem d_M_month_167 : decode b_M_month 167 = .ok (.iload 6, 2) := by decide +kernel
theorem d_M_month_169 : decode b_M_month 169 = .ok (.ireturn, 1) := by decide +kernel
theorem d_M_drawn_0 : decode b_M_drawn 0 = .ok (.aload_n 0, 1) := by decide +kernel
theorem d_M_drawn_1 : decode b_M_drawn 1 = .ok (.getfield 9, 3) := by decide +kernel
theorem d_M_drawn_4 : decode b_M_drawn 4 = .ok (.iconst 0, 1) := by decide +kernel
theorem d_M_drawn_5 : decode b_M_drawn 5 = .ok (.aload_n 0, 1) := by decide +kernel
theorem d_M_drawn_6 : decode b_M_drawn 6 = .ok (.getfield 9, 3) := by decide +kernel
theorem d_M_drawn_9 : decode b_M_drawn 9 = .ok (.iconst 0, 1) := by decide +kernel
theorem d_M_drawn_10 : decode b_M_drawn 10 = .ok (.iaload, 1) := by decide +kernel
theorem d_M_drawn_11 : decode b_M_drawn 11 = .ok (.ldc 195, 2) := by decide +kernel
theorem d_M_drawn_13 : decode b_M_drawn 13 = .ok (.imul, 1) := by decide +kernel
theorem d_M_drawn_14 : decode b_M_drawn 14 = .ok (.sipush 12345, 3) := by decide +kernel
theorem d_M_drawn_17 : decode b_M_drawn 17 = .ok (.iadd, 1) := by decide +kernel
theorem d_M_drawn_18 : decode b_M_drawn 18 = .ok (.iastore, 1) := by decide +kernel
theorem d_M_drawn_19 : decode b_M_drawn 19 = .ok (.aload_n 0, 1) := by decide +kernel
theorem d_M_drawn_20 : decode b_M_drawn 20 = .ok (.getfield 9, 3) := by decide +kernel
theorem d_M_drawn_23 : decode b_M_drawn 23 = .ok (.iconst 0, 1) := by decide +kernel
theorem d_M_drawn_24 : decode b_M_drawn 24 = .ok (.iaload, 1) := by decide +kernel
theorem d_M_drawn_25 : decode b_M_drawn 25 = .ok (.bipush 8, 2) := by decide +kernel
theorem d_M_drawn_27 : decode b_M_drawn 27 = .ok (.iushr, 1) := by decide +kernel
theorem d_M_drawn_28 : decode b_M_drawn 28 = .ok (.iload_n 1, 1) := by decide +kernel
theorem d_M_drawn_29 : decode b_M_drawn 29 = .ok (.irem, 1) := by decide +kernel
theorem d_M_drawn_30 : decode b_M_drawn 30 = .ok (.ireturn, 1) := by decide +kernel
theorem d_M_comesOut_0 : decode b_M_comesOut 0 = .ok (.aload_n 0, 1) := by decide +kernel
theorem d_M_comesOut_1 : decode b_M_comesOut 1 = .ok (.aload_n 0, 1) := by decide +kernel
theorem d_M_comesOut_2 : decode b_M_comesOut 2 = .ok (.getfield 9, 3) := by decide +kernel
theorem d_M_comesOut_5 : decode b_M_comesOut 5 = .ok (.iconst 3, 1) := by decide +kernel
theorem d_M_comesOut_6 : decode b_M_comesOut 6 = .ok (.iaload, 1) := by decide +kernel
theorem d_M_comesOut_7 : decode b_M_comesOut 7 = .ok (.aload_n 0, 1) := by decide +kernel
theorem d_M_comesOut_8 : decode b_M_comesOut 8 = .ok (.getfield 9, 3) := by decide +kernel
theorem d_M_comesOut_11 : decode b_M_comesOut 11 = .ok (.iconst 5, 1) := by decide +kernel
theorem d_M_comesOut_12 : decode b_M_comesOut 12 = .ok (.iaload, 1) := by decide +kernel
theorem d_M_comesOut_13 : decode b_M_comesOut 13 = .ok (.invokevirtual 176, 3) := by decide +kernel
theorem d_M_comesOut_16 : decode b_M_comesOut 16 = .ok (.lstore_n 1, 1) := by decide +kernel
theorem d_M_comesOut_17 : decode b_M_comesOut 17 = .ok (.iconst 0, 1) := by decide +kernel
theorem d_M_comesOut_18 : decode b_M_comesOut 18 = .ok (.istore_n 3, 1) := by decide +kernel
theorem d_M_comesOut_19 : decode b_M_comesOut 19 = .ok (.iload_n 3, 1) := by decide +kernel
theorem d_M_comesOut_20 : decode b_M_comesOut 20 = .ok (.bipush 36, 2) := by decide +kernel
theorem d_M_comesOut_22 : decode b_M_comesOut 22 = .ok (.if_icmp .ge 41, 3) := by decide +kernel
theorem d_M_comesOut_25 : decode b_M_comesOut 25 = .ok (.aload_n 0, 1) := by decide +kernel
theorem d_M_comesOut_26 : decode b_M_comesOut 26 = .ok (.getfield 9, 3) := by decide +kernel
theorem d_M_comesOut_29 : decode b_M_comesOut 29 = .ok (.bipush 86, 2) := by decide +kernel
theorem d_M_comesOut_31 : decode b_M_comesOut 31 = .ok (.iload_n 3, 1) := by decide +kernel
theorem d_M_comesOut_32 : decode b_M_comesOut 32 = .ok (.iadd, 1) := by decide +kernel
theorem d_M_comesOut_33 : decode b_M_comesOut 33 = .ok (.lload_n 1, 1) := by decide +kernel
theorem d_M_comesOut_34 : decode b_M_comesOut 34 = .ok (.iload_n 3, 1) := by decide +kernel
theorem d_M_comesOut_35 : decode b_M_comesOut 35 = .ok (.lshr, 1) := by decide +kernel
theorem d_M_comesOut_36 : decode b_M_comesOut 36 = .ok (.lconst 1, 1) := by decide +kernel
theorem d_M_comesOut_37 : decode b_M_comesOut 37 = .ok (.land, 1) := by decide +kernel
theorem d_M_comesOut_38 : decode b_M_comesOut 38 = .ok (.lconst 1, 1) := by decide +kernel
theorem d_M_comesOut_39 : decode b_M_comesOut 39 = .ok (.lcmp, 1) := by decide +kernel
theorem d_M_comesOut_40 : decode b_M_comesOut 40 = .ok (.ifCond .ne 7, 3) := by decide +kernel
theorem d_M_comesOut_43 : decode b_M_comesOut 43 = .ok (.iconst 0, 1) := by decide +kernel
theorem d_M_comesOut_44 : decode b_M_comesOut 44 = .ok (.goto 12, 3) := by decide +kernel
theorem d_M_comesOut_47 : decode b_M_comesOut 47 = .ok (.aload_n 0, 1) := by decide +kernel
theorem d_M_comesOut_48 : decode b_M_comesOut 48 = .ok (.getfield 9, 3) := by decide +kernel
theorem d_M_comesOut_51 : decode b_M_comesOut 51 = .ok (.bipush 86, 2) := by decide +kernel
theorem d_M_comesOut_53 : decode b_M_comesOut 53 = .ok (.iload_n 3, 1) := by decide +kernel
theorem d_M_comesOut_54 : decode b_M_comesOut 54 = .ok (.iadd, 1) := by decide +kernel
theorem d_M_comesOut_55 : decode b_M_comesOut 55 = .ok (.iaload, 1) := by decide +kernel
theorem d_M_comesOut_56 : decode b_M_comesOut 56 = .ok (.iastore, 1) := by decide +kernel
theorem d_M_comesOut_57 : decode b_M_comesOut 57 = .ok (.iinc 3 1, 3) := by decide +kernel
theorem d_M_comesOut_60 : decode b_M_comesOut 60 = .ok (.goto (-41), 3) := by decide +kernel
theorem d_M_comesOut_63 : decode b_M_comesOut 63 = .ok (.iconst 0, 1) := by decide +kernel
theorem d_M_comesOut_64 : decode b_M_comesOut 64 = .ok (.istore_n 3, 1) := by decide +kernel
theorem d_M_comesOut_65 : decode b_M_comesOut 65 = .ok (.iload_n 3, 1) := by decide +kernel
theorem d_M_comesOut_66 : decode b_M_comesOut 66 = .ok (.aload_n 0, 1) := by decide +kernel
theorem d_M_comesOut_67 : decode b_M_comesOut 67 = .ok (.getfield 9, 3) := by decide +kernel
theorem d_M_comesOut_70 : decode b_M_comesOut 70 = .ok (.bipush 10, 2) := by decide +kernel
theorem d_M_comesOut_72 : decode b_M_comesOut 72 = .ok (.iaload, 1) := by decide +kernel
theorem d_M_comesOut_73 : decode b_M_comesOut 73 = .ok (.if_icmp .ge 37, 3) := by decide +kernel
theorem d_M_comesOut_76 : decode b_M_comesOut 76 = .ok (.aload_n 0, 1) := by decide +kernel
theorem d_M_comesOut_77 : decode b_M_comesOut 77 = .ok (.getfield 9, 3) := by decide +kernel
theorem d_M_comesOut_80 : decode b_M_comesOut 80 = .ok (.sipush 158, 3) := by decide +kernel
theorem d_M_comesOut_83 : decode b_M_comesOut 83 = .ok (.iconst 5, 1) := by decide +kernel
theorem d_M_comesOut_84 : decode b_M_comesOut 84 = .ok (.iload_n 3, 1) := by decide +kernel
theorem d_M_comesOut_85 : decode b_M_comesOut 85 = .ok (.imul, 1) := by decide +kernel
theorem d_M_comesOut_86 : decode b_M_comesOut 86 = .ok (.iadd, 1) := by decide +kernel
theorem d_M_comesOut_87 : decode b_M_comesOut 87 = .ok (.iconst 4, 1) := by decide +kernel
theorem d_M_comesOut_88 : decode b_M_comesOut 88 = .ok (.iadd, 1) := by decide +kernel
theorem d_M_comesOut_89 : decode b_M_comesOut 89 = .ok (.dup2, 1) := by decide +kernel
theorem d_M_comesOut_90 : decode b_M_comesOut 90 = .ok (.iaload, 1) := by decide +kernel
theorem d_M_comesOut_91 : decode b_M_comesOut 91 = .ok (.lload_n 1, 1) := by decide +kernel
theorem d_M_comesOut_92 : decode b_M_comesOut 92 = .ok (.aload_n 0, 1) := by decide +kernel
theorem d_M_comesOut_93 : decode b_M_comesOut 93 = .ok (.iload_n 3, 1) := by decide +kernel
theorem d_M_comesOut_94 : decode b_M_comesOut 94 = .ok (.iconst 1, 1) := by decide +kernel
theorem d_M_comesOut_95 : decode b_M_comesOut 95 = .ok (.invokevirtual 103, 3) := by decide +kernel
theorem d_M_comesOut_98 : decode b_M_comesOut 98 = .ok (.lshr, 1) := by decide +kernel
theorem d_M_comesOut_99 : decode b_M_comesOut 99 = .ok (.lconst 1, 1) := by decide +kernel
theorem d_M_comesOut_100 : decode b_M_comesOut 100 = .ok (.land, 1) := by decide +kernel
theorem d_M_comesOut_101 : decode b_M_comesOut 101 = .ok (.l2i, 1) := by decide +kernel
theorem d_M_comesOut_102 : decode b_M_comesOut 102 = .ok (.ior, 1) := by decide +kernel
theorem d_M_comesOut_103 : decode b_M_comesOut 103 = .ok (.iastore, 1) := by decide +kernel
theorem d_M_comesOut_104 : decode b_M_comesOut 104 = .ok (.iinc 3 1, 3) := by decide +kernel
theorem d_M_comesOut_107 : decode b_M_comesOut 107 = .ok (.goto (-42), 3) := by decide +kernel
theorem d_M_comesOut_110 : decode b_M_comesOut 110 = .ok (.aload_n 0, 1) := by decide +kernel
theorem d_M_comesOut_111 : decode b_M_comesOut 111 = .ok (.getfield 9, 3) := by decide +kernel
theorem d_M_comesOut_114 : decode b_M_comesOut 114 = .ok (.iconst 4, 1) := by decide +kernel
theorem d_M_comesOut_115 : decode b_M_comesOut 115 = .ok (.iconst 0, 1) := by decide +kernel
theorem d_M_comesOut_116 : decode b_M_comesOut 116 = .ok (.iastore, 1) := by decide +kernel
theorem d_M_comesOut_117 : decode b_M_comesOut 117 = .ok (.aload_n 0, 1) := by decide +kernel
theorem d_M_comesOut_118 : decode b_M_comesOut 118 = .ok (.getfield 9, 3) := by decide +kernel
theorem d_M_comesOut_121 : decode b_M_comesOut 121 = .ok (.bipush 6, 2) := by decide +kernel
theorem d_M_comesOut_123 : decode b_M_comesOut 123 = .ok (.dup2, 1) := by decide +kernel
theorem d_M_comesOut_124 : decode b_M_comesOut 124 = .ok (.iaload, 1) := by decide +kernel
theorem d_M_comesOut_125 : decode b_M_comesOut 125 = .ok (.iconst 1, 1) := by decide +kernel
theorem d_M_comesOut_126 : decode b_M_comesOut 126 = .ok (.iadd, 1) := by decide +kernel
theorem d_M_comesOut_127 : decode b_M_comesOut 127 = .ok (.iastore, 1) := by decide +kernel
theorem d_M_comesOut_128 : decode b_M_comesOut 128 = .ok (.return_, 1) := by decide +kernel
theorem d_M_yearIsOver_0 : decode b_M_yearIsOver 0 = .ok (.iconst 0, 1) := by decide +kernel
theorem d_M_yearIsOver_1 : decode b_M_yearIsOver 1 = .ok (.istore_n 1, 1) := by decide +kernel
theorem d_M_yearIsOver_2 : decode b_M_yearIsOver 2 = .ok (.iload_n 1, 1) := by decide +kernel
theorem d_M_yearIsOver_3 : decode b_M_yearIsOver 3 = .ok (.aload_n 0, 1) := by decide +kernel
theorem d_M_yearIsOver_4 : decode b_M_yearIsOver 4 = .ok (.getfield 9, 3) := by decide +kernel
theorem d_M_yearIsOver_7 : decode b_M_yearIsOver 7 = .ok (.bipush 10, 2) := by decide +kernel
theorem d_M_yearIsOver_9 : decode b_M_yearIsOver 9 = .ok (.iaload, 1) := by decide +kernel
theorem d_M_yearIsOver_10 : decode b_M_yearIsOver 10 = .ok (.if_icmp .ge 31, 3) := by decide +kernel
theorem d_M_yearIsOver_13 : decode b_M_yearIsOver 13 = .ok (.aload_n 0, 1) := by decide +kernel
theorem d_M_yearIsOver_14 : decode b_M_yearIsOver 14 = .ok (.getfield 9, 3) := by decide +kernel
theorem d_M_yearIsOver_17 : decode b_M_yearIsOver 17 = .ok (.sipush 158, 3) := by decide +kernel
theorem d_M_yearIsOver_20 : decode b_M_yearIsOver 20 = .ok (.iconst 5, 1) := by decide +kernel
theorem d_M_yearIsOver_21 : decode b_M_yearIsOver 21 = .ok (.iload_n 1, 1) := by decide +kernel
theorem d_M_yearIsOver_22 : decode b_M_yearIsOver 22 = .ok (.imul, 1) := by decide +kernel
theorem d_M_yearIsOver_23 : decode b_M_yearIsOver 23 = .ok (.iadd, 1) := by decide +kernel
theorem d_M_yearIsOver_24 : decode b_M_yearIsOver 24 = .ok (.iconst 3, 1) := by decide +kernel
theorem d_M_yearIsOver_25 : decode b_M_yearIsOver 25 = .ok (.iadd, 1) := by decide +kernel
theorem d_M_yearIsOver_26 : decode b_M_yearIsOver 26 = .ok (.dup2, 1) := by decide +kernel
theorem d_M_yearIsOver_27 : decode b_M_yearIsOver 27 = .ok (.iaload, 1) := by decide +kernel
theorem d_M_yearIsOver_28 : decode b_M_yearIsOver 28 = .ok (.aload_n 0, 1) := by decide +kernel
theorem d_M_yearIsOver_29 : decode b_M_yearIsOver 29 = .ok (.iload_n 1, 1) := by decide +kernel
theorem d_M_yearIsOver_30 : decode b_M_yearIsOver 30 = .ok (.invokevirtual 138, 3) := by decide +kernel
theorem d_M_yearIsOver_33 : decode b_M_yearIsOver 33 = .ok (.iadd, 1) := by decide +kernel
theorem d_M_yearIsOver_34 : decode b_M_yearIsOver 34 = .ok (.iastore, 1) := by decide +kernel
theorem d_M_yearIsOver_35 : decode b_M_yearIsOver 35 = .ok (.iinc 1 1, 3) := by decide +kernel
theorem d_M_yearIsOver_38 : decode b_M_yearIsOver 38 = .ok (.goto (-36), 3) := by decide +kernel
theorem d_M_yearIsOver_41 : decode b_M_yearIsOver 41 = .ok (.iconst 0, 1) := by decide +kernel
theorem d_M_yearIsOver_42 : decode b_M_yearIsOver 42 = .ok (.istore_n 1, 1) := by decide +kernel
theorem d_M_yearIsOver_43 : decode b_M_yearIsOver 43 = .ok (.iload_n 1, 1) := by decide +kernel
theorem d_M_yearIsOver_44 : decode b_M_yearIsOver 44 = .ok (.bipush 36, 2) := by decide +kernel
theorem d_M_yearIsOver_46 : decode b_M_yearIsOver 46 = .ok (.if_icmp .ge 34, 3) := by decide +kernel
theorem d_M_yearIsOver_49 : decode b_M_yearIsOver 49 = .ok (.aload_n 0, 1) := by decide +kernel
theorem d_M_yearIsOver_50 : decode b_M_yearIsOver 50 = .ok (.getfield 9, 3) := by decide +kernel
theorem d_M_yearIsOver_53 : decode b_M_yearIsOver 53 = .ok (.bipush 86, 2) := by decide +kernel
theorem d_M_yearIsOver_55 : decode b_M_yearIsOver 55 = .ok (.iload_n 1, 1) := by decide +kernel
theorem d_M_yearIsOver_56 : decode b_M_yearIsOver 56 = .ok (.iadd, 1) := by decide +kernel
theorem d_M_yearIsOver_57 : decode b_M_yearIsOver 57 = .ok (.bipush 99, 2) := by decide +kernel
theorem d_M_yearIsOver_59 : decode b_M_yearIsOver 59 = .ok (.aload_n 0, 1) := by decide +kernel
theorem d_M_yearIsOver_60 : decode b_M_yearIsOver 60 = .ok (.getfield 9, 3) := by decide +kernel
theorem d_M_yearIsOver_63 : decode b_M_yearIsOver 63 = .ok (.bipush 86, 2) := by decide +kernel
theorem d_M_yearIsOver_65 : decode b_M_yearIsOver 65 = .ok (.iload_n 1, 1) := by decide +kernel
theorem d_M_yearIsOver_66 : decode b_M_yearIsOver 66 = .ok (.iadd, 1) := by decide +kernel
theorem d_M_yearIsOver_67 : decode b_M_yearIsOver 67 = .ok (.iaload, 1) := by decide +kernel
theorem d_M_yearIsOver_68 : decode b_M_yearIsOver 68 = .ok (.iconst 1, 1) := by decide +kernel
theorem d_M_yearIsOver_69 : decode b_M_yearIsOver 69 = .ok (.iadd, 1) := by decide +kernel
theorem d_M_yearIsOver_70 : decode b_M_yearIsOver 70 = .ok (.invokestatic 129, 3) := by decide +kernel
theorem d_M_yearIsOver_73 : decode b_M_yearIsOver 73 = .ok (.iastore, 1) := by decide +kernel
theorem d_M_yearIsOver_74 : decode b_M_yearIsOver 74 = .ok (.iinc 1 1, 3) := by decide +kernel
theorem d_M_yearIsOver_77 : decode b_M_yearIsOver 77 = .ok (.goto (-34), 3) := by decide +kernel
theorem d_M_yearIsOver_80 : decode b_M_yearIsOver 80 = .ok (.aload_n 0, 1) := by decide +kernel
theorem d_M_yearIsOver_81 : decode b_M_yearIsOver 81 = .ok (.getfield 9, 3) := by decide +kernel
theorem d_M_yearIsOver_84 : decode b_M_yearIsOver 84 = .ok (.iconst 4, 1) := by decide +kernel
theorem d_M_yearIsOver_85 : decode b_M_yearIsOver 85 = .ok (.bipush 99, 2) := by decide +kernel
theorem d_M_yearIsOver_87 : decode b_M_yearIsOver 87 = .ok (.aload_n 0, 1) := by decide +kernel
theorem d_M_yearIsOver_88 : decode b_M_yearIsOver 88 = .ok (.getfield 9, 3) := by decide +kernel
theorem d_M_yearIsOver_91 : decode b_M_yearIsOver 91 = .ok (.iconst 4, 1) := by decide +kernel
theorem d_M_yearIsOver_92 : decode b_M_yearIsOver 92 = .ok (.iaload, 1) := by decide +kernel
theorem d_M_yearIsOver_93 : decode b_M_yearIsOver 93 = .ok (.iconst 1, 1) := by decide +kernel
theorem d_M_yearIsOver_94 : decode b_M_yearIsOver 94 = .ok (.iadd, 1) := by decide +kernel
theorem d_M_yearIsOver_95 : decode b_M_yearIsOver 95 = .ok (.invokestatic 129, 3) := by decide +kernel
theorem d_M_yearIsOver_98 : decode b_M_yearIsOver 98 = .ok (.iastore, 1) := by decide +kernel
theorem d_M_yearIsOver_99 : decode b_M_yearIsOver 99 = .ok (.return_, 1) := by decide +kernel
theorem d_M_seed_0 : decode b_M_seed 0 = .ok (.aload_n 0, 1) := by decide +kernel
theorem d_M_seed_1 : decode b_M_seed 1 = .ok (.iconst 0, 1) := by decide +kernel
theorem d_M_seed_2 : decode b_M_seed 2 = .ok (.iload_n 1, 1) := by decide +kernel
theorem d_M_seed_3 : decode b_M_seed 3 = .ok (.invokevirtual 97, 3) := by decide +kernel
theorem d_M_seed_6 : decode b_M_seed 6 = .ok (.ireturn, 1) := by decide +kernel
theorem d_M_now_0 : decode b_M_now 0 = .ok (.iload_n 1, 1) := by decide +kernel
theorem d_M_now_1 : decode b_M_now 1 = .ok (.iconst 0, 1) := by decide +kernel
theorem d_M_now_2 : decode b_M_now 2 = .ok (.bipush 7, 2) := by decide +kernel
theorem d_M_now_4 : decode b_M_now 4 = .ok (.invokestatic 86, 3) := by decide +kernel
theorem d_M_now_7 : decode b_M_now 7 = .ok (.ifCond .eq 14, 3) := by decide +kernel
theorem d_M_now_10 : decode b_M_now 10 = .ok (.aload_n 0, 1) := by decide +kernel
theorem d_M_now_11 : decode b_M_now 11 = .ok (.getfield 9, 3) := by decide +kernel
theorem d_M_now_14 : decode b_M_now 14 = .ok (.iconst 1, 1) := by decide +kernel
theorem d_M_now_15 : decode b_M_now 15 = .ok (.iload_n 1, 1) := by decide +kernel
theorem d_M_now_16 : decode b_M_now 16 = .ok (.iadd, 1) := by decide +kernel
theorem d_M_now_17 : decode b_M_now 17 = .ok (.iaload, 1) := by decide +kernel
theorem d_M_now_18 : decode b_M_now 18 = .ok (.goto 9, 3) := by decide +kernel
theorem d_M_now_21 : decode b_M_now 21 = .ok (.aload_n 0, 1) := by decide +kernel
theorem d_M_now_22 : decode b_M_now 22 = .ok (.ldc 81, 2) := by decide +kernel
theorem d_M_now_24 : decode b_M_now 24 = .ok (.invokevirtual 94, 3) := by decide +kernel
theorem d_M_now_27 : decode b_M_now 27 = .ok (.ireturn, 1) := by decide +kernel
theorem d_M_doPigs_0 : decode b_M_doPigs 0 = .ok (.aload_n 0, 1) := by decide +kernel
theorem d_M_doPigs_1 : decode b_M_doPigs 1 = .ok (.getfield 9, 3) := by decide +kernel
theorem d_M_doPigs_4 : decode b_M_doPigs 4 = .ok (.iconst 1, 1) := by decide +kernel
theorem d_M_doPigs_5 : decode b_M_doPigs 5 = .ok (.iaload, 1) := by decide +kernel
theorem d_M_doPigs_6 : decode b_M_doPigs 6 = .ok (.aload_n 0, 1) := by decide +kernel
theorem d_M_doPigs_7 : decode b_M_doPigs 7 = .ok (.getfield 9, 3) := by decide +kernel
theorem d_M_doPigs_10 : decode b_M_doPigs 10 = .ok (.bipush 7, 2) := by decide +kernel
theorem d_M_doPigs_12 : decode b_M_doPigs 12 = .ok (.iaload, 1) := by decide +kernel
theorem d_M_doPigs_13 : decode b_M_doPigs 13 = .ok (.isub, 1) := by decide +kernel
theorem d_M_doPigs_14 : decode b_M_doPigs 14 = .ok (.istore_n 1, 1) := by decide +kernel
theorem d_M_doPigs_15 : decode b_M_doPigs 15 = .ok (.aload_n 0, 1) := by decide +kernel
theorem d_M_doPigs_16 : decode b_M_doPigs 16 = .ok (.getfield 9, 3) := by decide +kernel
theorem d_M_doPigs_19 : decode b_M_doPigs 19 = .ok (.bipush 7, 2) := by decide +kernel
theorem d_M_doPigs_21 : decode b_M_doPigs 21 = .ok (.iaload, 1) := by decide +kernel
theorem d_M_doPigs_22 : decode b_M_doPigs 22 = .ok (.ifCond .eq 7, 3) := by decide +kernel
theorem d_M_doPigs_25 : decode b_M_doPigs 25 = .ok (.iload_n 1, 1) := by decide +kernel
theorem d_M_doPigs_26 : decode b_M_doPigs 26 = .ok (.ifCond .ne 10, 3) := by decide +kernel
theorem d_M_doPigs_29 : decode b_M_doPigs 29 = .ok (.aload_n 0, 1) := by decide +kernel
theorem d_M_doPigs_30 : decode b_M_doPigs 30 = .ok (.ldc 168, 2) := by decide +kernel
theorem d_M_doPigs_32 : decode b_M_doPigs 32 = .ok (.invokevirtual 94, 3) := by decide +kernel
theorem d_M_doPigs_35 : decode b_M_doPigs 35 = .ok (.ireturn, 1) := by decide +kernel
theorem d_M_doPigs_36 : decode b_M_doPigs 36 = .ok (.aload_n 0, 1) := by decide +kernel
theorem d_M_doPigs_37 : decode b_M_doPigs 37 = .ok (.getfield 9, 3) := by decide +kernel
theorem d_M_doPigs_40 : decode b_M_doPigs 40 = .ok (.bipush 6, 2) := by decide +kernel
theorem d_M_doPigs_42 : decode b_M_doPigs 42 = .ok (.iaload, 1) := by decide +kernel
theorem d_M_doPigs_43 : decode b_M_doPigs 43 = .ok (.aload_n 0, 1) := by decide +kernel
theorem d_M_doPigs_44 : decode b_M_doPigs 44 = .ok (.getfield 9, 3) := by decide +kernel
theorem d_M_doPigs_47 : decode b_M_doPigs 47 = .ok (.bipush 8, 2) := by decide +kernel
theorem d_M_doPigs_49 : decode b_M_doPigs 49 = .ok (.iaload, 1) := by decide +kernel
theorem d_M_doPigs_50 : decode b_M_doPigs 50 = .ok (.isub, 1) := by decide +kernel
theorem d_M_doPigs_51 : decode b_M_doPigs 51 = .ok (.aload_n 0, 1) := by decide +kernel
theorem d_M_doPigs_52 : decode b_M_doPigs 52 = .ok (.getfield 9, 3) := by decide +kernel
theorem d_M_doPigs_55 : decode b_M_doPigs 55 = .ok (.bipush 7, 2) := by decide +kernel
theorem d_M_doPigs_57 : decode b_M_doPigs 57 = .ok (.iaload, 1) := by decide +kernel
theorem d_M_doPigs_58 : decode b_M_doPigs 58 = .ok (.imul, 1) := by decide +kernel
theorem d_M_doPigs_59 : decode b_M_doPigs 59 = .ok (.aload_n 0, 1) := by decide +kernel
theorem d_M_doPigs_60 : decode b_M_doPigs 60 = .ok (.getfield 9, 3) := by decide +kernel
theorem d_M_doPigs_63 : decode b_M_doPigs 63 = .ok (.bipush 8, 2) := by decide +kernel
theorem d_M_doPigs_65 : decode b_M_doPigs 65 = .ok (.iaload, 1) := by decide +kernel
theorem d_M_doPigs_66 : decode b_M_doPigs 66 = .ok (.iload_n 1, 1) := by decide +kernel
theorem d_M_doPigs_67 : decode b_M_doPigs 67 = .ok (.imul, 1) := by decide +kernel
theorem d_M_doPigs_68 : decode b_M_doPigs 68 = .ok (.invokestatic 215, 3) := by decide +kernel
theorem d_M_doPigs_71 : decode b_M_doPigs 71 = .ok (.ireturn, 1) := by decide +kernel
theorem d_In_compare_0 : decode b_In_compare 0 = .ok (.iload_n 0, 1) := by decide +kernel
theorem d_In_compare_1 : decode b_In_compare 1 = .ok (.iload_n 1, 1) := by decide +kernel
theorem d_In_compare_2 : decode b_In_compare 2 = .ok (.if_icmp .ge 7, 3) := by decide +kernel
theorem d_In_compare_5 : decode b_In_compare 5 = .ok (.iconst (-1), 1) := by decide +kernel
theorem d_In_compare_6 : decode b_In_compare 6 = .ok (.goto 13, 3) := by decide +kernel
theorem d_In_compare_9 : decode b_In_compare 9 = .ok (.iload_n 0, 1) := by decide +kernel
theorem d_In_compare_10 : decode b_In_compare 10 = .ok (.iload_n 1, 1) := by decide +kernel
theorem d_In_compare_11 : decode b_In_compare 11 = .ok (.if_icmp .ne 7, 3) := by decide +kernel
theorem d_In_compare_14 : decode b_In_compare 14 = .ok (.iconst 0, 1) := by decide +kernel
theorem d_In_compare_15 : decode b_In_compare 15 = .ok (.goto 4, 3) := by decide +kernel
theorem d_In_compare_18 : decode b_In_compare 18 = .ok (.iconst 1, 1) := by decide +kernel
theorem d_In_compare_19 : decode b_In_compare 19 = .ok (.ireturn, 1) := by decide +kernel
theorem d_M_out_0 : decode b_M_out 0 = .ok (.aload_n 0, 1) := by decide +kernel
theorem d_M_out_1 : decode b_M_out 1 = .ok (.sipush 240, 3) := by decide +kernel
theorem d_M_out_4 : decode b_M_out 4 = .ok (.invokevirtual 209, 3) := by decide +kernel
theorem d_M_out_7 : decode b_M_out 7 = .ok (.ifCond .eq 10, 3) := by decide +kernel
theorem d_M_out_10 : decode b_M_out 10 = .ok (.aload_n 0, 1) := by decide +kernel
theorem d_M_out_11 : decode b_M_out 11 = .ok (.ldc 123, 2) := by decide +kernel
theorem d_M_out_13 : decode b_M_out 13 = .ok (.invokevirtual 94, 3) := by decide +kernel
theorem d_M_out_16 : decode b_M_out 16 = .ok (.ireturn, 1) := by decide +kernel
theorem d_M_out_17 : decode b_M_out 17 = .ok (.aload_n 0, 1) := by decide +kernel
theorem d_M_out_18 : decode b_M_out 18 = .ok (.getfield 9, 3) := by decide +kernel
theorem d_M_out_21 : decode b_M_out 21 = .ok (.aload_n 0, 1) := by decide +kernel
theorem d_M_out_22 : decode b_M_out 22 = .ok (.getfield 16, 3) := by decide +kernel
theorem d_M_out_25 : decode b_M_out 25 = .ok (.invokestatic 82, 3) := by decide +kernel
theorem d_M_out_28 : decode b_M_out 28 = .ok (.iconst 1, 1) := by decide +kernel
theorem d_M_out_29 : decode b_M_out 29 = .ok (.istore_n 1, 1) := by decide +kernel
theorem d_M_out_30 : decode b_M_out 30 = .ok (.iload_n 1, 1) := by decide +kernel
theorem d_M_out_31 : decode b_M_out 31 = .ok (.sipush 240, 3) := by decide +kernel
theorem d_M_out_34 : decode b_M_out 34 = .ok (.if_icmp .gt 16, 3) := by decide +kernel
theorem d_M_out_37 : decode b_M_out 37 = .ok (.aload_n 0, 1) := by decide +kernel
theorem d_M_out_38 : decode b_M_out 38 = .ok (.invokevirtual 205, 3) := by decide +kernel
theorem d_M_out_41 : decode b_M_out 41 = .ok (.ifCond .ne 9, 3) := by decide +kernel
theorem d_M_out_44 : decode b_M_out 44 = .ok (.iinc 1 1, 3) := by decide +kernel
theorem d_M_out_47 : decode b_M_out 47 = .ok (.goto (-17), 3) := by decide +kernel
theorem d_M_out_50 : decode b_M_out 50 = .ok (.aload_n 0, 1) := by decide +kernel
theorem d_M_out_51 : decode b_M_out 51 = .ok (.iload_n 1, 1) := by decide +kernel
theorem d_M_out_52 : decode b_M_out 52 = .ok (.invokevirtual 220, 3) := by decide +kernel
theorem d_M_out_55 : decode b_M_out 55 = .ok (.sipush 240, 3) := by decide +kernel
theorem d_M_out_58 : decode b_M_out 58 = .ok (.if_icmp .le 12, 3) := by decide +kernel
theorem d_M_out_61 : decode b_M_out 61 = .ok (.aload_n 0, 1) := by decide +kernel
theorem d_M_out_62 : decode b_M_out 62 = .ok (.ldc 168, 2) := by decide +kernel
theorem d_M_out_64 : decode b_M_out 64 = .ok (.invokevirtual 94, 3) := by decide +kernel
theorem d_M_out_67 : decode b_M_out 67 = .ok (.goto 4, 3) := by decide +kernel
theorem d_M_out_70 : decode b_M_out 70 = .ok (.iload_n 1, 1) := by decide +kernel
theorem d_M_out_71 : decode b_M_out 71 = .ok (.ireturn, 1) := by decide +kernel
theorem d_M_putBack_0 : decode b_M_putBack 0 = .ok (.aload_n 0, 1) := by decide +kernel
theorem d_M_putBack_1 : decode b_M_putBack 1 = .ok (.getfield 16, 3) := by decide +kernel
theorem d_M_putBack_4 : decode b_M_putBack 4 = .ok (.aload_n 0, 1) := by decide +kernel
theorem d_M_putBack_5 : decode b_M_putBack 5 = .ok (.getfield 9, 3) := by decide +kernel
theorem d_M_putBack_8 : decode b_M_putBack 8 = .ok (.invokestatic 82, 3) := by decide +kernel
theorem d_M_putBack_11 : decode b_M_putBack 11 = .ok (.iload_n 1, 1) := by decide +kernel
theorem d_M_putBack_12 : decode b_M_putBack 12 = .ok (.ireturn, 1) := by decide +kernel
theorem d_M_on_0 : decode b_M_on 0 = .ok (.iload_n 1, 1) := by decide +kernel
theorem d_M_on_1 : decode b_M_on 1 = .ok (.iconst 0, 1) := by decide +kernel
theorem d_M_on_2 : decode b_M_on 2 = .ok (.sipush 240, 3) := by decide +kernel
theorem d_M_on_5 : decode b_M_on 5 = .ok (.invokestatic 86, 3) := by decide +kernel
theorem d_M_on_8 : decode b_M_on 8 = .ok (.ifCond .eq 12, 3) := by decide +kernel
theorem d_M_on_11 : decode b_M_on 11 = .ok (.iload_n 2, 1) := by decide +kernel
theorem d_M_on_12 : decode b_M_on 12 = .ok (.iconst 0, 1) := by decide +kernel
theorem d_M_on_13 : decode b_M_on 13 = .ok (.iconst 2, 1) := by decide +kernel
theorem d_M_on_14 : decode b_M_on 14 = .ok (.invokestatic 86, 3) := by decide +kernel
theorem d_M_on_17 : decode b_M_on 17 = .ok (.ifCond .ne 10, 3) := by decide +kernel
theorem d_M_on_20 : decode b_M_on 20 = .ok (.aload_n 0, 1) := by decide +kernel
theorem d_M_on_21 : decode b_M_on 21 = .ok (.ldc 81, 2) := by decide +kernel
theorem d_M_on_23 : decode b_M_on 23 = .ok (.invokevirtual 94, 3) := by decide +kernel
theorem d_M_on_26 : decode b_M_on 26 = .ok (.ireturn, 1) := by decide +kernel
theorem d_M_on_27 : decode b_M_on 27 = .ok (.aload_n 0, 1) := by decide +kernel
theorem d_M_on_28 : decode b_M_on 28 = .ok (.iload_n 1, 1) := by decide +kernel
theorem d_M_on_29 : decode b_M_on 29 = .ok (.invokevirtual 209, 3) := by decide +kernel
theorem d_M_on_32 : decode b_M_on 32 = .ok (.ifCond .eq 10, 3) := by decide +kernel
theorem d_M_on_35 : decode b_M_on 35 = .ok (.aload_n 0, 1) := by decide +kernel
theorem d_M_on_36 : decode b_M_on 36 = .ok (.ldc 123, 2) := by decide +kernel
theorem d_M_on_38 : decode b_M_on 38 = .ok (.invokevirtual 94, 3) := by decide +kernel
theorem d_M_on_41 : decode b_M_on 41 = .ok (.ireturn, 1) := by decide +kernel
theorem d_M_on_42 : decode b_M_on 42 = .ok (.aload_n 0, 1) := by decide +kernel
theorem d_M_on_43 : decode b_M_on 43 = .ok (.getfield 9, 3) := by decide +kernel
theorem d_M_on_46 : decode b_M_on 46 = .ok (.aload_n 0, 1) := by decide +kernel
theorem d_M_on_47 : decode b_M_on 47 = .ok (.getfield 16, 3) := by decide +kernel
theorem d_M_on_50 : decode b_M_on 50 = .ok (.invokestatic 82, 3) := by decide +kernel
theorem d_M_on_53 : decode b_M_on 53 = .ok (.aload_n 0, 1) := by decide +kernel
theorem d_M_on_54 : decode b_M_on 54 = .ok (.iload_n 1, 1) := by decide +kernel
theorem d_M_on_55 : decode b_M_on 55 = .ok (.invokevirtual 212, 3) := by decide +kernel
theorem d_M_on_58 : decode b_M_on 58 = .ok (.pop, 1) := by decide +kernel
theorem d_M_on_59 : decode b_M_on 59 = .ok (.iconst 0, 1) := by decide +kernel
theorem d_M_on_60 : decode b_M_on 60 = .ok (.istore_n 3, 1) := by decide +kernel
theorem d_M_on_61 : decode b_M_on 61 = .ok (.iconst 0, 1) := by decide +kernel
theorem d_M_on_62 : decode b_M_on 62 = .ok (.istore 4, 2) := by decide +kernel
theorem d_M_on_64 : decode b_M_on 64 = .ok (.iload 4, 2) := by decide +kernel
theorem d_M_on_66 : decode b_M_on 66 = .ok (.aload_n 0, 1) := by decide +kernel
theorem d_M_on_67 : decode b_M_on 67 = .ok (.getfield 9, 3) := by decide +kernel
theorem d_M_on_70 : decode b_M_on 70 = .ok (.bipush 10, 2) := by decide +kernel
theorem d_M_on_72 : decode b_M_on 72 = .ok (.iaload, 1) := by decide +kernel
theorem d_M_on_73 : decode b_M_on 73 = .ok (.if_icmp .ge 22, 3) := by decide +kernel
theorem d_M_on_76 : decode b_M_on 76 = .ok (.iload_n 3, 1) := by decide +kernel
theorem d_M_on_77 : decode b_M_on 77 = .ok (.aload_n 0, 1) := by decide +kernel
theorem d_M_on_78 : decode b_M_on 78 = .ok (.iload 4, 2) := by decide +kernel
theorem d_M_on_80 : decode b_M_on 80 = .ok (.iconst 4, 1) := by decide +kernel
theorem d_M_on_81 : decode b_M_on 81 = .ok (.invokevirtual 103, 3) := by decide +kernel
theorem d_M_on_84 : decode b_M_on 84 = .ok (.iload 4, 2) := by decide +kernel
theorem d_M_on_86 : decode b_M_on 86 = .ok (.ishl, 1) := by decide +kernel
theorem d_M_on_87 : decode b_M_on 87 = .ok (.ior, 1) := by decide +kernel
theorem d_M_on_88 : decode b_M_on 88 = .ok (.istore_n 3, 1) := by decide +kernel
theorem d_M_on_89 : decode b_M_on 89 = .ok (.iinc 4 1, 3) := by decide +kernel
theorem d_M_on_92 : decode b_M_on 92 = .ok (.goto (-28), 3) := by decide +kernel
theorem d_M_on_95 : decode b_M_on 95 = .ok (.aload_n 0, 1) := by decide +kernel
theorem d_M_on_96 : decode b_M_on 96 = .ok (.iload_n 2, 1) := by decide +kernel
theorem d_M_on_97 : decode b_M_on 97 = .ok (.ifCond .ne 7, 3) := by decide +kernel
theorem d_M_on_100 : decode b_M_on 100 = .ok (.iload_n 3, 1) := by decide +kernel
theorem d_M_on_101 : decode b_M_on 101 = .ok (.goto 22, 3) := by decide +kernel
theorem d_M_on_104 : decode b_M_on 104 = .ok (.iload_n 2, 1) := by decide +kernel
theorem d_M_on_105 : decode b_M_on 105 = .ok (.iconst 1, 1) := by decide +kernel
theorem d_M_on_106 : decode b_M_on 106 = .ok (.if_icmp .ne 11, 3) := by decide +kernel
theorem d_M_on_109 : decode b_M_on 109 = .ok (.aload_n 0, 1) := by decide +kernel
theorem d_M_on_110 : decode b_M_on 110 = .ok (.iconst (-1), 1) := by decide +kernel
theorem d_M_on_111 : decode b_M_on 111 = .ok (.invokevirtual 145, 3) := by decide +kernel
theorem d_M_on_114 : decode b_M_on 114 = .ok (.goto 9, 3) := by decide +kernel
theorem d_M_on_117 : decode b_M_on 117 = .ok (.aload_n 0, 1) := by decide +kernel
theorem d_M_on_118 : decode b_M_on 118 = .ok (.getfield 9, 3) := by decide +kernel
theorem d_M_on_121 : decode b_M_on 121 = .ok (.iconst 2, 1) := by decide +kernel
theorem d_M_on_122 : decode b_M_on 122 = .ok (.iaload, 1) := by decide +kernel
theorem d_M_on_123 : decode b_M_on 123 = .ok (.invokevirtual 220, 3) := by decide +kernel
theorem d_M_on_126 : decode b_M_on 126 = .ok (.ireturn, 1) := by decide +kernel
theorem d_M_crop_0 : decode b_M_crop 0 = .ok (.iload_n 1, 1) := by decide +kernel
theorem d_M_crop_1 : decode b_M_crop 1 = .ok (.iconst 1, 1) := by decide +kernel
theorem d_M_crop_2 : decode b_M_crop 2 = .ok (.sipush 240, 3) := by decide +kernel
theorem d_M_crop_5 : decode b_M_crop 5 = .ok (.invokestatic 86, 3) := by decide +kernel
theorem d_M_crop_8 : decode b_M_crop 8 = .ok (.ifCond .ne 10, 3) := by decide +kernel
theorem d_M_crop_11 : decode b_M_crop 11 = .ok (.aload_n 0, 1) := by decide +kernel
theorem d_M_crop_12 : decode b_M_crop 12 = .ok (.ldc 81, 2) := by decide +kernel
theorem d_M_crop_14 : decode b_M_crop 14 = .ok (.invokevirtual 94, 3) := by decide +kernel
theorem d_M_crop_17 : decode b_M_crop 17 = .ok (.ireturn, 1) := by decide +kernel
theorem d_M_crop_18 : decode b_M_crop 18 = .ok (.aload_n 0, 1) := by decide +kernel
theorem d_M_crop_19 : decode b_M_crop 19 = .ok (.iload_n 1, 1) := by decide +kernel
theorem d_M_crop_20 : decode b_M_crop 20 = .ok (.invokevirtual 209, 3) := by decide +kernel
theorem d_M_crop_23 : decode b_M_crop 23 = .ok (.ifCond .eq 10, 3) := by decide +kernel
theorem d_M_crop_26 : decode b_M_crop 26 = .ok (.aload_n 0, 1) := by decide +kernel
theorem d_M_crop_27 : decode b_M_crop 27 = .ok (.ldc 123, 2) := by decide +kernel
theorem d_M_crop_29 : decode b_M_crop 29 = .ok (.invokevirtual 94, 3) := by decide +kernel
theorem d_M_crop_32 : decode b_M_crop 32 = .ok (.ireturn, 1) := by decide +kernel
theorem d_M_crop_33 : decode b_M_crop 33 = .ok (.aload_n 0, 1) := by decide +kernel
theorem d_M_crop_34 : decode b_M_crop 34 = .ok (.getfield 9, 3) := by decide +kernel
theorem d_M_crop_37 : decode b_M_crop 37 = .ok (.aload_n 0, 1) := by decide +kernel
theorem d_M_crop_38 : decode b_M_crop 38 = .ok (.getfield 16, 3) := by decide +kernel
theorem d_M_crop_41 : decode b_M_crop 41 = .ok (.invokestatic 82, 3) := by decide +kernel
theorem d_M_crop_44 : decode b_M_crop 44 = .ok (.iconst (-1), 1) := by decide +kernel
theorem d_M_crop_45 : decode b_M_crop 45 = .ok (.istore_n 2, 1) := by decide +kernel
theorem d_M_crop_46 : decode b_M_crop 46 = .ok (.iconst 0, 1) := by decide +kernel
theorem d_M_crop_47 : decode b_M_crop 47 = .ok (.istore_n 3, 1) := by decide +kernel
theorem d_M_crop_48 : decode b_M_crop 48 = .ok (.iconst 0, 1) := by decide +kernel
theorem d_M_crop_49 : decode b_M_crop 49 = .ok (.istore 4, 2) := by decide +kernel
theorem d_M_crop_51 : decode b_M_crop 51 = .ok (.iload 4, 2) := by decide +kernel
theorem d_M_crop_53 : decode b_M_crop 53 = .ok (.iconst 5, 1) := by decide +kernel
theorem d_M_crop_54 : decode b_M_crop 54 = .ok (.if_icmp .gt 80, 3) := by decide +kernel
theorem d_M_crop_57 : decode b_M_crop 57 = .ok (.iconst 0, 1) := by decide +kernel
theorem d_M_crop_58 : decode b_M_crop 58 = .ok (.istore 5, 2) := by decide +kernel
theorem d_M_crop_60 : decode b_M_crop 60 = .ok (.iload 5, 2) := by decide +kernel
theorem d_M_crop_62 : decode b_M_crop 62 = .ok (.aload_n 0, 1) := by decide +kernel
theorem d_M_crop_63 : decode b_M_crop 63 = .ok (.getfield 9, 3) := by decide +kernel
theorem d_M_crop_66 : decode b_M_crop 66 = .ok (.bipush 10, 2) := by decide +kernel
theorem d_M_crop_68 : decode b_M_crop 68 = .ok (.iaload, 1) := by decide +kernel
theorem d_M_crop_69 : decode b_M_crop 69 = .ok (.if_icmp .ge 26, 3) := by decide +kernel
theorem d_M_crop_72 : decode b_M_crop 72 = .ok (.aload_n 0, 1) := by decide +kernel
theorem d_M_crop_73 : decode b_M_crop 73 = .ok (.getfield 9, 3) := by decide +kernel
theorem d_M_crop_76 : decode b_M_crop 76 = .ok (.sipush 158, 3) := by decide +kernel
theorem d_M_crop_79 : decode b_M_crop 79 = .ok (.iconst 5, 1) := by decide +kernel
theorem d_M_crop_80 : decode b_M_crop 80 = .ok (.iload 5, 2) := by decide +kernel
theorem d_M_crop_82 : decode b_M_crop 82 = .ok (.imul, 1) := by decide +kernel
theorem d_M_crop_83 : decode b_M_crop 83 = .ok (.iadd, 1) := by decide +kernel
theorem d_M_crop_84 : decode b_M_crop 84 = .ok (.iconst 0, 1) := by decide +kernel
theorem d_M_crop_85 : decode b_M_crop 85 = .ok (.iadd, 1) := by decide +kernel
theorem d_M_crop_86 : decode b_M_crop 86 = .ok (.iload 4, 2) := by decide +kernel
theorem d_M_crop_88 : decode b_M_crop 88 = .ok (.iastore, 1) := by decide +kernel
theorem d_M_crop_89 : decode b_M_crop 89 = .ok (.iinc 5 1, 3) := by decide +kernel
theorem d_M_crop_92 : decode b_M_crop 92 = .ok (.goto (-32), 3) := by decide +kernel
theorem d_M_crop_95 : decode b_M_crop 95 = .ok (.aload_n 0, 1) := by decide +kernel
theorem d_M_crop_96 : decode b_M_crop 96 = .ok (.iload_n 1, 1) := by decide +kernel
theorem d_M_crop_97 : decode b_M_crop 97 = .ok (.invokevirtual 212, 3) := by decide +kernel
theorem d_M_crop_100 : decode b_M_crop 100 = .ok (.pop, 1) := by decide +kernel
theorem d_M_crop_101 : decode b_M_crop 101 = .ok (.aload_n 0, 1) := by decide +kernel
theorem d_M_crop_102 : decode b_M_crop 102 = .ok (.aload_n 0, 1) := by decide +kernel
theorem d_M_crop_103 : decode b_M_crop 103 = .ok (.iconst (-1), 1) := by decide +kernel
theorem d_M_crop_104 : decode b_M_crop 104 = .ok (.invokevirtual 145, 3) := by decide +kernel
theorem d_M_crop_107 : decode b_M_crop 107 = .ok (.invokevirtual 220, 3) := by decide +kernel
theorem d_M_crop_110 : decode b_M_crop 110 = .ok (.istore 5, 2) := by decide +kernel
theorem d_M_crop_112 : decode b_M_crop 112 = .ok (.iload_n 2, 1) := by decide +kernel
theorem d_M_crop_113 : decode b_M_crop 113 = .ok (.ifCond .lt 9, 3) := by decide +kernel
theorem d_M_crop_116 : decode b_M_crop 116 = .ok (.iload 5, 2) := by decide +kernel
theorem d_M_crop_118 : decode b_M_crop 118 = .ok (.iload_n 3, 1) := by decide +kernel
theorem d_M_crop_119 : decode b_M_crop 119 = .ok (.if_icmp .le 9, 3) := by decide +kernel
theorem d_M_crop_122 : decode b_M_crop 122 = .ok (.iload 5, 2) := by decide +kernel
theorem d_M_crop_124 : decode b_M_crop 124 = .ok (.istore_n 3, 1) := by decide +kernel
theorem d_M_crop_125 : decode b_M_crop 125 = .ok (.iload 4, 2) := by decide +kernel
theorem d_M_crop_127 : decode b_M_crop 127 = .ok (.istore_n 2, 1) := by decide +kernel
theorem d_M_crop_128 : decode b_M_crop 128 = .ok (.iinc 4 1, 3) := by decide +kernel
theorem d_M_crop_131 : decode b_M_crop 131 = .ok (.goto (-80), 3) := by decide +kernel
theorem d_M_crop_134 : decode b_M_crop 134 = .ok (.iload_n 2, 1) := by decide +kernel
theorem d_M_crop_135 : decode b_M_crop 135 = .ok (.ireturn, 1) := by decide +kernel
theorem d_M_feed_0 : decode b_M_feed 0 = .ok (.iload_n 2, 1) := by decide +kernel
theorem d_M_feed_1 : decode b_M_feed 1 = .ok (.iconst 1, 1) := by decide +kernel
theorem d_M_feed_2 : decode b_M_feed 2 = .ok (.iconst 4, 1) := by decide +kernel
theorem d_M_feed_3 : decode b_M_feed 3 = .ok (.invokestatic 86, 3) := by decide +kernel
theorem d_M_feed_6 : decode b_M_feed 6 = .ok (.ifCond .ne 10, 3) := by decide +kernel
theorem d_M_feed_9 : decode b_M_feed 9 = .ok (.aload_n 0, 1) := by decide +kernel
theorem d_M_feed_10 : decode b_M_feed 10 = .ok (.ldc 81, 2) := by decide +kernel
theorem d_M_feed_12 : decode b_M_feed 12 = .ok (.invokevirtual 94, 3) := by decide +kernel
theorem d_M_feed_15 : decode b_M_feed 15 = .ok (.ireturn, 1) := by decide +kernel
theorem d_M_feed_16 : decode b_M_feed 16 = .ok (.aload_n 0, 1) := by decide +kernel
theorem d_M_feed_17 : decode b_M_feed 17 = .ok (.getfield 223, 3) := by decide +kernel
theorem d_M_feed_20 : decode b_M_feed 20 = .ok (.iload_n 2, 1) := by decide +kernel
theorem d_M_feed_21 : decode b_M_feed 21 = .ok (.iadd, 1) := by decide +kernel
theorem d_M_feed_22 : decode b_M_feed 22 = .ok (.bipush 120, 2) := by decide +kernel
theorem d_M_feed_24 : decode b_M_feed 24 = .ok (.if_icmp .le 10, 3) := by decide +kernel
theorem d_M_feed_27 : decode b_M_feed 27 = .ok (.aload_n 0, 1) := by decide +kernel
theorem d_M_feed_28 : decode b_M_feed 28 = .ok (.ldc 124, 2) := by decide +kernel
theorem d_M_feed_30 : decode b_M_feed 30 = .ok (.invokevirtual 94, 3) := by decide +kernel
theorem d_M_feed_33 : decode b_M_feed 33 = .ok (.ireturn, 1) := by decide +kernel
theorem d_M_feed_34 : decode b_M_feed 34 = .ok (.iload_n 2, 1) := by decide +kernel
theorem d_M_feed_35 : decode b_M_feed 35 = .ok (.iconst 1, 1) := by decide +kernel
theorem d_M_feed_36 : decode b_M_feed 36 = .ok (.isub, 1) := by decide +kernel
theorem d_M_feed_37 : decode b_M_feed 37 = .ok (.istore_n 3, 1) := by decide +kernel
theorem d_M_feed_38 : decode b_M_feed 38 = .ok (.iload_n 3, 1) := by decide +kernel
theorem d_M_feed_39 : decode b_M_feed 39 = .ok (.ifCond .lt 38, 3) := by decide +kernel
theorem d_M_feed_42 : decode b_M_feed 42 = .ok (.aload_n 0, 1) := by decide +kernel
theorem d_M_feed_43 : decode b_M_feed 43 = .ok (.getfield 35, 3) := by decide +kernel
theorem d_M_feed_46 : decode b_M_feed 46 = .ok (.aload_n 0, 1) := by decide +kernel
theorem d_M_feed_47 : decode b_M_feed 47 = .ok (.getfield 223, 3) := by decide +kernel
theorem d_M_feed_50 : decode b_M_feed 50 = .ok (.iload_n 1, 1) := by decide +kernel
theorem d_M_feed_51 : decode b_M_feed 51 = .ok (.bipush 8, 2) := by decide +kernel
theorem d_M_feed_53 : decode b_M_feed 53 = .ok (.iload_n 3, 1) := by decide +kernel
theorem d_M_feed_54 : decode b_M_feed 54 = .ok (.imul, 1) := by decide +kernel
theorem d_M_feed_55 : decode b_M_feed 55 = .ok (.ishr, 1) := by decide +kernel
theorem d_M_feed_56 : decode b_M_feed 56 = .ok (.sipush 255, 3) := by decide +kernel
theorem d_M_feed_59 : decode b_M_feed 59 = .ok (.iand, 1) := by decide +kernel
theorem d_M_feed_60 : decode b_M_feed 60 = .ok (.iastore, 1) := by decide +kernel
theorem d_M_feed_61 : decode b_M_feed 61 = .ok (.aload_n 0, 1) := by decide +kernel
theorem d_M_feed_62 : decode b_M_feed 62 = .ok (.dup, 1) := by decide +kernel
theorem d_M_feed_63 : decode b_M_feed 63 = .ok (.getfield 223, 3) := by decide +kernel
theorem d_M_feed_66 : decode b_M_feed 66 = .ok (.iconst 1, 1) := by decide +kernel
theorem d_M_feed_67 : decode b_M_feed 67 = .ok (.iadd, 1) := by decide +kernel
theorem d_M_feed_68 : decode b_M_feed 68 = .ok (.putfield 223, 3) := by decide +kernel
theorem d_M_feed_71 : decode b_M_feed 71 = .ok (.iinc 3 (-1), 3) := by decide +kernel
theorem d_M_feed_74 : decode b_M_feed 74 = .ok (.goto (-36), 3) := by decide +kernel
theorem d_M_feed_77 : decode b_M_feed 77 = .ok (.aload_n 0, 1) := by decide +kernel
theorem d_M_feed_78 : decode b_M_feed 78 = .ok (.getfield 223, 3) := by decide +kernel
theorem d_M_feed_81 : decode b_M_feed 81 = .ok (.ireturn, 1) := by decide +kernel
theorem d_M_wipe_0 : decode b_M_wipe 0 = .ok (.aload_n 0, 1) := by decide +kernel
theorem d_M_wipe_1 : decode b_M_wipe 1 = .ok (.getfield 223, 3) := by decide +kernel
theorem d_M_wipe_4 : decode b_M_wipe 4 = .ok (.istore_n 1, 1) := by decide +kernel
theorem d_M_wipe_5 : decode b_M_wipe 5 = .ok (.aload_n 0, 1) := by decide +kernel
theorem d_M_wipe_6 : decode b_M_wipe 6 = .ok (.iconst 0, 1) := by decide +kernel
theorem d_M_wipe_7 : decode b_M_wipe 7 = .ok (.putfield 223, 3) := by decide +kernel
theorem d_M_wipe_10 : decode b_M_wipe 10 = .ok (.iload_n 1, 1) := by decide +kernel
theorem d_M_wipe_11 : decode b_M_wipe 11 = .ok (.ireturn, 1) := by decide +kernel
theorem d_M_slope_0 : decode b_M_slope 0 = .ok (.aload_n 0, 1) := by decide +kernel
theorem d_M_slope_1 : decode b_M_slope 1 = .ok (.iconst 0, 1) := by decide +kernel
theorem d_M_slope_2 : decode b_M_slope 2 = .ok (.putfield 227, 3) := by decide +kernel
theorem d_M_slope_5 : decode b_M_slope 5 = .ok (.aload_n 0, 1) := by decide +kernel
theorem d_M_slope_6 : decode b_M_slope 6 = .ok (.iconst 0, 1) := by decide +kernel
theorem d_M_slope_7 : decode b_M_slope 7 = .ok (.putfield 249, 3) := by decide +kernel
theorem d_M_slope_10 : decode b_M_slope 10 = .ok (.aload_n 0, 1) := by decide +kernel
theorem d_M_slope_11 : decode b_M_slope 11 = .ok (.iconst 0, 1) := by decide +kernel
theorem d_M_slope_12 : decode b_M_slope 12 = .ok (.putfield 260, 3) := by decide +kernel
theorem d_M_slope_15 : decode b_M_slope 15 = .ok (.aload_n 0, 1) := by decide +kernel
theorem d_M_slope_16 : decode b_M_slope 16 = .ok (.aload_n 0, 1) := by decide +kernel
theorem d_M_slope_17 : decode b_M_slope 17 = .ok (.getfield 9, 3) := by decide +kernel
theorem d_M_slope_20 : decode b_M_slope 20 = .ok (.bipush 10, 2) := by decide +kernel
theorem d_M_slope_22 : decode b_M_slope 22 = .ok (.iaload, 1) := by decide +kernel
theorem d_M_slope_23 : decode b_M_slope 23 = .ok (.putfield 300, 3) := by decide +kernel
theorem d_M_slope_26 : decode b_M_slope 26 = .ok (.aload_n 0, 1) := by decide +kernel
theorem d_M_slope_27 : decode b_M_slope 27 = .ok (.lconst 0, 1) := by decide +kernel
theorem d_M_slope_28 : decode b_M_slope 28 = .ok (.putfield 305, 3) := by decide +kernel
theorem d_M_slope_31 : decode b_M_slope 31 = .ok (.iconst 0, 1) := by decide +kernel
theorem d_M_slope_32 : decode b_M_slope 32 = .ok (.istore_n 1, 1) := by decide +kernel
theorem d_M_slope_33 : decode b_M_slope 33 = .ok (.iload_n 1, 1) := by decide +kernel
theorem d_M_slope_34 : decode b_M_slope 34 = .ok (.aload_n 0, 1) := by decide +kernel
theorem d_M_slope_35 : decode b_M_slope 35 = .ok (.getfield 300, 3) := by decide +kernel
theorem d_M_slope_38 : decode b_M_slope 38 = .ok (.if_icmp .ge 26, 3) := by decide +kernel
theorem d_M_slope_41 : decode b_M_slope 41 = .ok (.aload_n 0, 1) := by decide +kernel
theorem d_M_slope_42 : decode b_M_slope 42 = .ok (.dup, 1) := by decide +kernel
theorem d_M_slope_43 : decode b_M_slope 43 = .ok (.getfield 305, 3) := by decide +kernel
theorem d_M_slope_46 : decode b_M_slope 46 = .ok (.lconst 1, 1) := by decide +kernel
theorem d_M_slope_47 : decode b_M_slope 47 = .ok (.aload_n 0, 1) := by decide +kernel
theorem d_M_slope_48 : decode b_M_slope 48 = .ok (.iload_n 1, 1) := by decide +kernel
theorem d_M_slope_49 : decode b_M_slope 49 = .ok (.iconst 1, 1) := by decide +kernel
theorem d_M_slope_50 : decode b_M_slope 50 = .ok (.invokevirtual 103, 3) := by decide +kernel
theorem d_M_slope_53 : decode b_M_slope 53 = .ok (.lshl, 1) := by decide +kernel
theorem d_M_slope_54 : decode b_M_slope 54 = .ok (.lor, 1) := by decide +kernel
theorem d_M_slope_55 : decode b_M_slope 55 = .ok (.putfield 305, 3) := by decide +kernel
theorem d_M_slope_58 : decode b_M_slope 58 = .ok (.iinc 1 1, 3) := by decide +kernel
theorem d_M_slope_61 : decode b_M_slope 61 = .ok (.goto (-28), 3) := by decide +kernel
theorem d_M_slope_64 : decode b_M_slope 64 = .ok (.aload_n 0, 1) := by decide +kernel
theorem d_M_slope_65 : decode b_M_slope 65 = .ok (.invokevirtual 253, 3) := by decide +kernel
theorem d_M_slope_68 : decode b_M_slope 68 = .ok (.aload_n 0, 1) := by decide +kernel
theorem d_M_slope_69 : decode b_M_slope 69 = .ok (.invokevirtual 311, 3) := by decide +kernel
theorem d_M_slope_72 : decode b_M_slope 72 = .ok (.aload_n 0, 1) := by decide +kernel
theorem d_M_slope_73 : decode b_M_slope 73 = .ok (.getfield 249, 3) := by decide +kernel
theorem d_M_slope_76 : decode b_M_slope 76 = .ok (.ifCond .ne 37, 3) := by decide +kernel
theorem d_M_slope_79 : decode b_M_slope 79 = .ok (.aload_n 0, 1) := by decide +kernel
theorem d_M_slope_80 : decode b_M_slope 80 = .ok (.getfield 239, 3) := by decide +kernel
theorem d_M_slope_83 : decode b_M_slope 83 = .ok (.iconst 3, 1) := by decide +kernel
theorem d_M_slope_84 : decode b_M_slope 84 = .ok (.if_icmp .ne 29, 3) := by decide +kernel
theorem d_M_slope_87 : decode b_M_slope 87 = .ok (.aload_n 0, 1) := by decide +kernel
theorem d_M_slope_88 : decode b_M_slope 88 = .ok (.getfield 35, 3) := by decide +kernel
theorem d_M_slope_91 : decode b_M_slope 91 = .ok (.aload_n 0, 1) := by decide +kernel
theorem d_M_slope_92 : decode b_M_slope 92 = .ok (.getfield 230, 3) := by decide +kernel
theorem d_M_slope_95 : decode b_M_slope 95 = .ok (.iaload, 1) := by decide +kernel
theorem d_M_slope_96 : decode b_M_slope 96 = .ok (.bipush 59, 2) := by decide +kernel
theorem d_M_slope_98 : decode b_M_slope 98 = .ok (.if_icmp .ne 15, 3) := by decide +kernel
theorem d_M_slope_101 : decode b_M_slope 101 = .ok (.aload_n 0, 1) := by decide +kernel
theorem d_M_slope_102 : decode b_M_slope 102 = .ok (.iconst 1, 1) := by decide +kernel
theorem d_M_slope_103 : decode b_M_slope 103 = .ok (.invokevirtual 256, 3) := by decide +kernel
theorem d_M_slope_106 : decode b_M_slope 106 = .ok (.aload_n 0, 1) := by decide +kernel
theorem d_M_slope_107 : decode b_M_slope 107 = .ok (.invokevirtual 311, 3) := by decide +kernel
theorem d_M_slope_110 : decode b_M_slope 110 = .ok (.goto (-38), 3) := by decide +kernel
theorem d_M_slope_113 : decode b_M_slope 113 = .ok (.aload_n 0, 1) := by decide +kernel
theorem d_M_slope_114 : decode b_M_slope 114 = .ok (.aload_n 0, 1) := by decide +kernel
theorem d_M_slope_115 : decode b_M_slope 115 = .ok (.getfield 239, 3) := by decide +kernel
theorem d_M_slope_118 : decode b_M_slope 118 = .ok (.ifCond .ne 7, 3) := by decide +kernel
theorem d_M_slope_121 : decode b_M_slope 121 = .ok (.iconst 1, 1) := by decide +kernel
theorem d_M_slope_122 : decode b_M_slope 122 = .ok (.goto 4, 3) := by decide +kernel
theorem d_M_slope_125 : decode b_M_slope 125 = .ok (.iconst 0, 1) := by decide +kernel
theorem d_M_slope_126 : decode b_M_slope 126 = .ok (.invokevirtual 256, 3) := by decide +kernel
theorem d_M_slope_129 : decode b_M_slope 129 = .ok (.aload_n 0, 1) := by decide +kernel
theorem d_M_slope_130 : decode b_M_slope 130 = .ok (.iconst 0, 1) := by decide +kernel
theorem d_M_slope_131 : decode b_M_slope 131 = .ok (.putfield 223, 3) := by decide +kernel
theorem d_M_slope_134 : decode b_M_slope 134 = .ok (.aload_n 0, 1) := by decide +kernel
theorem d_M_slope_135 : decode b_M_slope 135 = .ok (.getfield 249, 3) := by decide +kernel
theorem d_M_slope_138 : decode b_M_slope 138 = .ok (.ifCond .eq 10, 3) := by decide +kernel
theorem d_M_slope_141 : decode b_M_slope 141 = .ok (.iconst (-1), 1) := by decide +kernel
theorem d_M_slope_142 : decode b_M_slope 142 = .ok (.aload_n 0, 1) := by decide +kernel
theorem d_M_slope_143 : decode b_M_slope 143 = .ok (.getfield 230, 3) := by decide +kernel
theorem d_M_slope_146 : decode b_M_slope 146 = .ok (.isub, 1) := by decide +kernel
theorem d_M_slope_147 : decode b_M_slope 147 = .ok (.ireturn, 1) := by decide +kernel
theorem d_M_slope_148 : decode b_M_slope 148 = .ok (.iconst 0, 1) := by decide +kernel
theorem d_M_slope_149 : decode b_M_slope 149 = .ok (.istore_n 1, 1) := by decide +kernel
theorem d_M_slope_150 : decode b_M_slope 150 = .ok (.iload_n 1, 1) := by decide +kernel
theorem d_M_slope_151 : decode b_M_slope 151 = .ok (.aload_n 0, 1) := by decide +kernel
theorem d_M_slope_152 : decode b_M_slope 152 = .ok (.getfield 260, 3) := by decide +kernel
theorem d_M_slope_155 : decode b_M_slope 155 = .ok (.if_icmp .ge 17, 3) := by decide +kernel
theorem d_M_slope_158 : decode b_M_slope 158 = .ok (.aload_n 0, 1) := by decide +kernel
theorem d_M_slope_159 : decode b_M_slope 159 = .ok (.bipush 6, 2) := by decide +kernel
theorem d_M_slope_161 : decode b_M_slope 161 = .ok (.iload_n 1, 1) := by decide +kernel
theorem d_M_slope_162 : decode b_M_slope 162 = .ok (.imul, 1) := by decide +kernel
theorem d_M_slope_163 : decode b_M_slope 163 = .ok (.invokevirtual 314, 3) := by decide +kernel
theorem d_M_slope_166 : decode b_M_slope 166 = .ok (.iinc 1 1, 3) := by decide +kernel
theorem d_M_slope_169 : decode b_M_slope 169 = .ok (.goto (-19), 3) := by decide +kernel
theorem d_M_slope_172 : decode b_M_slope 172 = .ok (.aload_n 0, 1) := by decide +kernel
theorem d_M_slope_173 : decode b_M_slope 173 = .ok (.getfield 260, 3) := by decide +kernel
theorem d_M_slope_176 : decode b_M_slope 176 = .ok (.ireturn, 1) := by decide +kernel
theorem d_M_next_0 : decode b_M_next 0 = .ok (.aload_n 0, 1) := by decide +kernel
theorem d_M_next_1 : decode b_M_next 1 = .ok (.aload_n 0, 1) := by decide +kernel
theorem d_M_next_2 : decode b_M_next 2 = .ok (.getfield 227, 3) := by decide +kernel
theorem d_M_next_5 : decode b_M_next 5 = .ok (.putfield 230, 3) := by decide +kernel
theorem d_M_next_8 : decode b_M_next 8 = .ok (.aload_n 0, 1) := by decide +kernel
theorem d_M_next_9 : decode b_M_next 9 = .ok (.aload_n 0, 1) := by decide +kernel
theorem d_M_next_10 : decode b_M_next 10 = .ok (.getfield 230, 3) := by decide +kernel
theorem d_M_next_13 : decode b_M_next 13 = .ok (.invokevirtual 233, 3) := by decide +kernel
theorem d_M_next_16 : decode b_M_next 16 = .ok (.bipush 32, 2) := by decide +kernel
theorem d_M_next_18 : decode b_M_next 18 = .ok (.if_icmp .ne 16, 3) := by decide +kernel
theorem d_M_next_21 : decode b_M_next 21 = .ok (.aload_n 0, 1) := by decide +kernel
theorem d_M_next_22 : decode b_M_next 22 = .ok (.dup, 1) := by decide +kernel
theorem d_M_next_23 : decode b_M_next 23 = .ok (.getfield 230, 3) := by decide +kernel
theorem d_M_next_26 : decode b_M_next 26 = .ok (.iconst 1, 1) := by decide +kernel
theorem d_M_next_27 : decode b_M_next 27 = .ok (.iadd, 1) := by decide +kernel
theorem d_M_next_28 : decode b_M_next 28 = .ok (.putfield 230, 3) := by decide +kernel
theorem d_M_next_31 : decode b_M_next 31 = .ok (.goto (-23), 3) := by decide +kernel
theorem d_M_next_34 : decode b_M_next 34 = .ok (.aload_n 0, 1) := by decide +kernel
theorem d_M_next_35 : decode b_M_next 35 = .ok (.aload_n 0, 1) := by decide +kernel
theorem d_M_next_36 : decode b_M_next 36 = .ok (.getfield 230, 3) := by decide +kernel
theorem d_M_next_39 : decode b_M_next 39 = .ok (.invokevirtual 233, 3) := by decide +kernel
theorem d_M_next_42 : decode b_M_next 42 = .ok (.istore_n 1, 1) := by decide +kernel
theorem d_M_next_43 : decode b_M_next 43 = .ok (.aload_n 0, 1) := by decide +kernel
theorem d_M_next_44 : decode b_M_next 44 = .ok (.aload_n 0, 1) := by decide +kernel
theorem d_M_next_45 : decode b_M_next 45 = .ok (.getfield 230, 3) := by decide +kernel
theorem d_M_next_48 : decode b_M_next 48 = .ok (.putfield 227, 3) := by decide +kernel
theorem d_M_next_51 : decode b_M_next 51 = .ok (.aload_n 0, 1) := by decide +kernel
theorem d_M_next_52 : decode b_M_next 52 = .ok (.iconst 0, 1) := by decide +kernel
theorem d_M_next_53 : decode b_M_next 53 = .ok (.putfield 236, 3) := by decide +kernel
theorem d_M_next_56 : decode b_M_next 56 = .ok (.iload_n 1, 1) := by decide +kernel
theorem d_M_next_57 : decode b_M_next 57 = .ok (.ifCond .ge 11, 3) := by decide +kernel
theorem d_M_next_60 : decode b_M_next 60 = .ok (.aload_n 0, 1) := by decide +kernel
theorem d_M_next_61 : decode b_M_next 61 = .ok (.iconst 0, 1) := by decide +kernel
theorem d_M_next_62 : decode b_M_next 62 = .ok (.putfield 239, 3) := by decide +kernel
theorem d_M_next_65 : decode b_M_next 65 = .ok (.goto 141, 3) := by decide +kernel
theorem d_M_next_68 : decode b_M_next 68 = .ok (.iload_n 1, 1) := by decide +kernel
theorem d_M_next_69 : decode b_M_next 69 = .ok (.bipush 97, 2) := by decide +kernel
theorem d_M_next_71 : decode b_M_next 71 = .ok (.bipush 122, 2) := by decide +kernel
theorem d_M_next_73 : decode b_M_next 73 = .ok (.invokestatic 86, 3) := by decide +kernel
theorem d_M_next_76 : decode b_M_next 76 = .ok (.ifCond .eq 39, 3) := by decide +kernel
theorem d_M_next_79 : decode b_M_next 79 = .ok (.aload_n 0, 1) := by decide +kernel
theorem d_M_next_80 : decode b_M_next 80 = .ok (.iconst 1, 1) := by decide +kernel
theorem d_M_next_81 : decode b_M_next 81 = .ok (.putfield 239, 3) := by decide +kernel
theorem d_M_next_84 : decode b_M_next 84 = .ok (.aload_n 0, 1) := by decide +kernel
theorem d_M_next_85 : decode b_M_next 85 = .ok (.aload_n 0, 1) := by decide +kernel
theorem d_M_next_86 : decode b_M_next 86 = .ok (.getfield 227, 3) := by decide +kernel
theorem d_M_next_89 : decode b_M_next 89 = .ok (.invokevirtual 233, 3) := by decide +kernel
theorem d_M_next_92 : decode b_M_next 92 = .ok (.bipush 97, 2) := by decide +kernel
theorem d_M_next_94 : decode b_M_next 94 = .ok (.bipush 122, 2) := by decide +kernel
theorem d_M_next_96 : decode b_M_next 96 = .ok (.invokestatic 86, 3) := by decide +kernel
theorem d_M_next_99 : decode b_M_next 99 = .ok (.ifCond .eq 107, 3) := by decide +kernel
theorem d_M_next_102 : decode b_M_next 102 = .ok (.aload_n 0, 1) := by decide +kernel
theorem d_M_next_103 : decode b_M_next 103 = .ok (.dup, 1) := by decide +kernel
theorem d_M_next_104 : decode b_M_next 104 = .ok (.getfield 227, 3) := by decide +kernel
theorem d_M_next_107 : decode b_M_next 107 = .ok (.iconst 1, 1) := by decide +kernel
theorem d_M_next_108 : decode b_M_next 108 = .ok (.iadd, 1) := by decide +kernel
theorem d_M_next_109 : decode b_M_next 109 = .ok (.putfield 227, 3) := by decide +kernel
theorem d_M_next_112 : decode b_M_next 112 = .ok (.goto (-28), 3) := by decide +kernel
theorem d_M_next_115 : decode b_M_next 115 = .ok (.iload_n 1, 1) := by decide +kernel
theorem d_M_next_116 : decode b_M_next 116 = .ok (.bipush 48, 2) := by decide +kernel
theorem d_M_next_118 : decode b_M_next 118 = .ok (.bipush 57, 2) := by decide +kernel
theorem d_M_next_120 : decode b_M_next 120 = .ok (.invokestatic 86, 3) := by decide +kernel
theorem d_M_next_123 : decode b_M_next 123 = .ok (.ifCond .eq 68, 3) := by decide +kernel
theorem d_M_next_126 : decode b_M_next 126 = .ok (.aload_n 0, 1) := by decide +kernel
theorem d_M_next_127 : decode b_M_next 127 = .ok (.iconst 2, 1) := by decide +kernel
theorem d_M_next_128 : decode b_M_next 128 = .ok (.putfield 239, 3) := by decide +kernel
theorem d_M_next_131 : decode b_M_next 131 = .ok (.aload_n 0, 1) := by decide +kernel
theorem d_M_next_132 : decode b_M_next 132 = .ok (.aload_n 0, 1) := by decide +kernel
theorem d_M_next_133 : decode b_M_next 133 = .ok (.getfield 227, 3) := by decide +kernel
theorem d_M_next_136 : decode b_M_next 136 = .ok (.invokevirtual 233, 3) := by decide +kernel
theorem d_M_next_139 : decode b_M_next 139 = .ok (.bipush 48, 2) := by decide +kernel
theorem d_M_next_141 : decode b_M_next 141 = .ok (.bipush 57, 2) := by decide +kernel
theorem d_M_next_143 : decode b_M_next 143 = .ok (.invokestatic 86, 3) := by decide +kernel
theorem d_M_next_146 : decode b_M_next 146 = .ok (.ifCond .eq 60, 3) := by decide +kernel
theorem d_M_next_149 : decode b_M_next 149 = .ok (.aload_n 0, 1) := by decide +kernel
theorem d_M_next_150 : decode b_M_next 150 = .ok (.sipush 10000, 3) := by decide +kernel
theorem d_M_next_153 : decode b_M_next 153 = .ok (.bipush 10, 2) := by decide +kernel
theorem d_M_next_155 : decode b_M_next 155 = .ok (.aload_n 0, 1) := by decide +kernel
theorem d_M_next_156 : decode b_M_next 156 = .ok (.getfield 236, 3) := by decide +kernel
theorem d_M_next_159 : decode b_M_next 159 = .ok (.imul, 1) := by decide +kernel
theorem d_M_next_160 : decode b_M_next 160 = .ok (.aload_n 0, 1) := by decide +kernel
theorem d_M_next_161 : decode b_M_next 161 = .ok (.aload_n 0, 1) := by decide +kernel
theorem d_M_next_162 : decode b_M_next 162 = .ok (.getfield 227, 3) := by decide +kernel
theorem d_M_next_165 : decode b_M_next 165 = .ok (.invokevirtual 233, 3) := by decide +kernel
theorem d_M_next_168 : decode b_M_next 168 = .ok (.iadd, 1) := by decide +kernel
theorem d_M_next_169 : decode b_M_next 169 = .ok (.bipush 48, 2) := by decide +kernel
theorem d_M_next_171 : decode b_M_next 171 = .ok (.isub, 1) := by decide +kernel
theorem d_M_next_172 : decode b_M_next 172 = .ok (.invokestatic 129, 3) := by decide +kernel
theorem d_M_next_175 : decode b_M_next 175 = .ok (.putfield 236, 3) := by decide +kernel
theorem d_M_next_178 : decode b_M_next 178 = .ok (.aload_n 0, 1) := by decide +kernel
theorem d_M_next_179 : decode b_M_next 179 = .ok (.dup, 1) := by decide +kernel
theorem d_M_next_180 : decode b_M_next 180 = .ok (.getfield 227, 3) := by decide +kernel
theorem d_M_next_183 : decode b_M_next 183 = .ok (.iconst 1, 1) := by decide +kernel
theorem d_M_next_184 : decode b_M_next 184 = .ok (.iadd, 1) := by decide +kernel
theorem d_M_next_185 : decode b_M_next 185 = .ok (.putfield 227, 3) := by decide +kernel
theorem d_M_next_188 : decode b_M_next 188 = .ok (.goto (-57), 3) := by decide +kernel
theorem d_M_next_191 : decode b_M_next 191 = .ok (.aload_n 0, 1) := by decide +kernel
theorem d_M_next_192 : decode b_M_next 192 = .ok (.iconst 3, 1) := by decide +kernel
theorem d_M_next_193 : decode b_M_next 193 = .ok (.putfield 239, 3) := by decide +kernel
theorem d_M_next_196 : decode b_M_next 196 = .ok (.aload_n 0, 1) := by decide +kernel
theorem d_M_next_197 : decode b_M_next 197 = .ok (.dup, 1) := by decide +kernel
theorem d_M_next_198 : decode b_M_next 198 = .ok (.getfield 227, 3) := by decide +kernel
theorem d_M_next_201 : decode b_M_next 201 = .ok (.iconst 1, 1) := by decide +kernel
theorem d_M_next_202 : decode b_M_next 202 = .ok (.iadd, 1) := by decide +kernel
theorem d_M_next_203 : decode b_M_next 203 = .ok (.putfield 227, 3) := by decide +kernel
theorem d_M_next_206 : decode b_M_next 206 = .ok (.return_, 1) := by decide +kernel
theorem d_M_byteAt_0 : decode b_M_byteAt 0 = .ok (.iload_n 1, 1) := by decide +kernel
theorem d_M_byteAt_1 : decode b_M_byteAt 1 = .ok (.aload_n 0, 1) := by decide +kernel
theorem d_M_byteAt_2 : decode b_M_byteAt 2 = .ok (.getfield 223, 3) := by decide +kernel
theorem d_M_byteAt_5 : decode b_M_byteAt 5 = .ok (.if_icmp .ge 12, 3) := by decide +kernel
theorem d_M_byteAt_8 : decode b_M_byteAt 8 = .ok (.aload_n 0, 1) := by decide +kernel
theorem d_M_byteAt_9 : decode b_M_byteAt 9 = .ok (.getfield 35, 3) := by decide +kernel
theorem d_M_byteAt_12 : decode b_M_byteAt 12 = .ok (.iload_n 1, 1) := by decide +kernel
theorem d_M_byteAt_13 : decode b_M_byteAt 13 = .ok (.iaload, 1) := by decide +kernel
theorem d_M_byteAt_14 : decode b_M_byteAt 14 = .ok (.goto 4, 3) := by decide +kernel
theorem d_M_byteAt_17 : decode b_M_byteAt 17 = .ok (.iconst (-1), 1) := by decide +kernel
theorem d_M_byteAt_18 : decode b_M_byteAt 18 = .ok (.ireturn, 1) := by decide +kernel
theorem d_M_readItem_0 : decode b_M_readItem 0 = .ok (.aload_n 0, 1) := by decide +kernel
theorem d_M_readItem_1 : decode b_M_readItem 1 = .ok (.invokevirtual 267, 3) := by decide +kernel
theorem d_M_readItem_4 : decode b_M_readItem 4 = .ok (.istore_n 1, 1) := by decide +kernel
theorem d_M_readItem_5 : decode b_M_readItem 5 = .ok (.iload_n 1, 1) := by decide +kernel
theorem d_M_readItem_6 : decode b_M_readItem 6 = .ok (.ifCond .lt 11, 3) := by decide +kernel
theorem d_M_readItem_9 : decode b_M_readItem 9 = .ok (.aload_n 0, 1) := by decide +kernel
theorem d_M_readItem_10 : decode b_M_readItem 10 = .ok (.iload_n 1, 1) := by decide +kernel
theorem d_M_readItem_11 : decode b_M_readItem 11 = .ok (.invokevirtual 270, 3) := by decide +kernel
theorem d_M_readItem_14 : decode b_M_readItem 14 = .ok (.goto 235, 3) := by decide +kernel
theorem d_M_readItem_17 : decode b_M_readItem 17 = .ok (.aload_n 0, 1) := by decide +kernel
theorem d_M_readItem_18 : decode b_M_readItem 18 = .ok (.ldc_w 273, 3) := by decide +kernel
theorem d_M_readItem_21 : decode b_M_readItem 21 = .ok (.invokevirtual 263, 3) := by decide +kernel
theorem d_M_readItem_24 : decode b_M_readItem 24 = .ok (.ifCond .eq 61, 3) := by decide +kernel
theorem d_M_readItem_27 : decode b_M_readItem 27 = .ok (.aload_n 0, 1) := by decide +kernel
theorem d_M_readItem_28 : decode b_M_readItem 28 = .ok (.iconst 1, 1) := by decide +kernel
theorem d_M_readItem_29 : decode b_M_readItem 29 = .ok (.invokevirtual 256, 3) := by decide +kernel
theorem d_M_readItem_32 : decode b_M_readItem 32 = .ok (.aload_n 0, 1) := by decide +kernel
theorem d_M_readItem_33 : decode b_M_readItem 33 = .ok (.iconst 0, 1) := by decide +kernel
theorem d_M_readItem_34 : decode b_M_readItem 34 = .ok (.bipush 35, 2) := by decide +kernel
theorem d_M_readItem_36 : decode b_M_readItem 36 = .ok (.invokevirtual 275, 3) := by decide +kernel
theorem d_M_readItem_39 : decode b_M_readItem 39 = .ok (.istore_n 2, 1) := by decide +kernel
theorem d_M_readItem_40 : decode b_M_readItem 40 = .ok (.aload_n 0, 1) := by decide +kernel
theorem d_M_readItem_41 : decode b_M_readItem 41 = .ok (.getfield 236, 3) := by decide +kernel
theorem d_M_readItem_44 : decode b_M_readItem 44 = .ok (.istore_n 3, 1) := by decide +kernel
theorem d_M_readItem_45 : decode b_M_readItem 45 = .ok (.aload_n 0, 1) := by decide +kernel
theorem d_M_readItem_46 : decode b_M_readItem 46 = .ok (.aload_n 0, 1) := by decide +kernel
theorem d_M_readItem_47 : decode b_M_readItem 47 = .ok (.getfield 239, 3) := by decide +kernel
theorem d_M_readItem_50 : decode b_M_readItem 50 = .ok (.iconst 2, 1) := by decide +kernel
theorem d_M_readItem_51 : decode b_M_readItem 51 = .ok (.if_icmp .ne 16, 3) := by decide +kernel
theorem d_M_readItem_54 : decode b_M_readItem 54 = .ok (.aload_n 0, 1) := by decide +kernel
theorem d_M_readItem_55 : decode b_M_readItem 55 = .ok (.iload_n 2, 1) := by decide +kernel
theorem d_M_readItem_56 : decode b_M_readItem 56 = .ok (.iload_n 3, 1) := by decide +kernel
theorem d_M_readItem_57 : decode b_M_readItem 57 = .ok (.invokevirtual 109, 3) := by decide +kernel
theorem d_M_readItem_60 : decode b_M_readItem 60 = .ok (.ifCond .lt 7, 3) := by decide +kernel
theorem d_M_readItem_63 : decode b_M_readItem 63 = .ok (.iconst 1, 1) := by decide +kernel
theorem d_M_readItem_64 : decode b_M_readItem 64 = .ok (.goto 4, 3) := by decide +kernel
theorem d_M_readItem_67 : decode b_M_readItem 67 = .ok (.iconst 0, 1) := by decide +kernel
theorem d_M_readItem_68 : decode b_M_readItem 68 = .ok (.invokevirtual 256, 3) := by decide +kernel
theorem d_M_readItem_71 : decode b_M_readItem 71 = .ok (.aload_n 0, 1) := by decide +kernel
theorem d_M_readItem_72 : decode b_M_readItem 72 = .ok (.bipush 10, 2) := by decide +kernel
theorem d_M_readItem_74 : decode b_M_readItem 74 = .ok (.iload_n 2, 1) := by decide +kernel
theorem d_M_readItem_75 : decode b_M_readItem 75 = .ok (.iload_n 3, 1) := by decide +kernel
theorem d_M_readItem_76 : decode b_M_readItem 76 = .ok (.iconst 0, 1) := by decide +kernel
theorem d_M_readItem_77 : decode b_M_readItem 77 = .ok (.iconst 0, 1) := by decide +kernel
theorem d_M_readItem_78 : decode b_M_readItem 78 = .ok (.iconst 0, 1) := by decide +kernel
theorem d_M_readItem_79 : decode b_M_readItem 79 = .ok (.invokevirtual 278, 3) := by decide +kernel
theorem d_M_readItem_82 : decode b_M_readItem 82 = .ok (.goto 167, 3) := by decide +kernel
theorem d_M_readItem_85 : decode b_M_readItem 85 = .ok (.aload_n 0, 1) := by decide +kernel
theorem d_M_readItem_86 : decode b_M_readItem 86 = .ok (.ldc_w 282, 3) := by decide +kernel
theorem d_M_readItem_89 : decode b_M_readItem 89 = .ok (.invokevirtual 263, 3) := by decide +kernel
theorem d_M_readItem_92 : decode b_M_readItem 92 = .ok (.ifCond .ne 13, 3) := by decide +kernel
theorem d_M_readItem_95 : decode b_M_readItem 95 = .ok (.aload_n 0, 1) := by decide +kernel
theorem d_M_readItem_96 : decode b_M_readItem 96 = .ok (.ldc_w 284, 3) := by decide +kernel
theorem d_M_readItem_99 : decode b_M_readItem 99 = .ok (.invokevirtual 263, 3) := by decide +kernel
theorem d_M_readItem_102 : decode b_M_readItem 102 = .ok (.ifCond .eq 53, 3) := by decide +kernel
theorem d_M_readItem_105 : decode b_M_readItem 105 = .ok (.aload_n 0, 1) := by decide +kernel
theorem d_M_readItem_106 : decode b_M_readItem 106 = .ok (.ldc_w 284, 3) := by decide +kernel
theorem d_M_readItem_109 : decode b_M_readItem 109 = .ok (.invokevirtual 263, 3) := by decide +kernel
theorem d_M_readItem_112 : decode b_M_readItem 112 = .ok (.ifCond .eq 8, 3) := by decide +kernel
theorem d_M_readItem_115 : decode b_M_readItem 115 = .ok (.bipush 12, 2) := by decide +kernel
theorem d_M_readItem_117 : decode b_M_readItem 117 = .ok (.goto 5, 3) := by decide +kernel
theorem d_M_readItem_120 : decode b_M_readItem 120 = .ok (.bipush 11, 2) := by decide +kernel
theorem d_M_readItem_122 : decode b_M_readItem 122 = .ok (.istore_n 2, 1) := by decide +kernel
theorem d_M_readItem_123 : decode b_M_readItem 123 = .ok (.aload_n 0, 1) := by decide +kernel
theorem d_M_readItem_124 : decode b_M_readItem 124 = .ok (.iconst 1, 1) := by decide +kernel
theorem d_M_readItem_125 : decode b_M_readItem 125 = .ok (.invokevirtual 256, 3) := by decide +kernel
theorem d_M_readItem_128 : decode b_M_readItem 128 = .ok (.aload_n 0, 1) := by decide +kernel
theorem d_M_readItem_129 : decode b_M_readItem 129 = .ok (.iconst 0, 1) := by decide +kernel
theorem d_M_readItem_130 : decode b_M_readItem 130 = .ok (.bipush 35, 2) := by decide +kernel
theorem d_M_readItem_132 : decode b_M_readItem 132 = .ok (.invokevirtual 275, 3) := by decide +kernel
theorem d_M_readItem_135 : decode b_M_readItem 135 = .ok (.istore_n 3, 1) := by decide +kernel
theorem d_M_readItem_136 : decode b_M_readItem 136 = .ok (.aload_n 0, 1) := by decide +kernel
theorem d_M_readItem_137 : decode b_M_readItem 137 = .ok (.iload_n 2, 1) := by decide +kernel
theorem d_M_readItem_138 : decode b_M_readItem 138 = .ok (.iload_n 3, 1) := by decide +kernel
theorem d_M_readItem_139 : decode b_M_readItem 139 = .ok (.aload_n 0, 1) := by decide +kernel
theorem d_M_readItem_140 : decode b_M_readItem 140 = .ok (.iconst 0, 1) := by decide +kernel
theorem d_M_readItem_141 : decode b_M_readItem 141 = .ok (.bipush 99, 2) := by decide +kernel
theorem d_M_readItem_143 : decode b_M_readItem 143 = .ok (.invokevirtual 275, 3) := by decide +kernel
theorem d_M_readItem_146 : decode b_M_readItem 146 = .ok (.iconst 0, 1) := by decide +kernel
theorem d_M_readItem_147 : decode b_M_readItem 147 = .ok (.iconst 0, 1) := by decide +kernel
theorem d_M_readItem_148 : decode b_M_readItem 148 = .ok (.iconst 0, 1) := by decide +kernel
theorem d_M_readItem_149 : decode b_M_readItem 149 = .ok (.invokevirtual 278, 3) := by decide +kernel
theorem d_M_readItem_152 : decode b_M_readItem 152 = .ok (.goto 97, 3) := by decide +kernel
theorem d_M_readItem_155 : decode b_M_readItem 155 = .ok (.aload_n 0, 1) := by decide +kernel
theorem d_M_readItem_156 : decode b_M_readItem 156 = .ok (.ldc_w 286, 3) := by decide +kernel
theorem d_M_readItem_159 : decode b_M_readItem 159 = .ok (.invokevirtual 263, 3) := by decide +kernel
theorem d_M_readItem_162 : decode b_M_readItem 162 = .ok (.ifCond .eq 28, 3) := by decide +kernel
theorem d_M_readItem_165 : decode b_M_readItem 165 = .ok (.aload_n 0, 1) := by decide +kernel
theorem d_M_readItem_166 : decode b_M_readItem 166 = .ok (.iconst 1, 1) := by decide +kernel
theorem d_M_readItem_167 : decode b_M_readItem 167 = .ok (.invokevirtual 256, 3) := by decide +kernel
theorem d_M_readItem_170 : decode b_M_readItem 170 = .ok (.aload_n 0, 1) := by decide +kernel
theorem d_M_readItem_171 : decode b_M_readItem 171 = .ok (.bipush 13, 2) := by decide +kernel
theorem d_M_readItem_173 : decode b_M_readItem 173 = .ok (.aload_n 0, 1) := by decide +kernel
theorem d_M_readItem_174 : decode b_M_readItem 174 = .ok (.iconst 0, 1) := by decide +kernel
theorem d_M_readItem_175 : decode b_M_readItem 175 = .ok (.bipush 35, 2) := by decide +kernel
theorem d_M_readItem_177 : decode b_M_readItem 177 = .ok (.invokevirtual 275, 3) := by decide +kernel
theorem d_M_readItem_180 : decode b_M_readItem 180 = .ok (.iconst 0, 1) := by decide +kernel
theorem d_M_readItem_181 : decode b_M_readItem 181 = .ok (.iconst 0, 1) := by decide +kernel
theorem d_M_readItem_182 : decode b_M_readItem 182 = .ok (.iconst 0, 1) := by decide +kernel
theorem d_M_readItem_183 : decode b_M_readItem 183 = .ok (.iconst 0, 1) := by decide +kernel
theorem d_M_readItem_184 : decode b_M_readItem 184 = .ok (.invokevirtual 278, 3) := by decide +kernel
theorem d_M_readItem_187 : decode b_M_readItem 187 = .ok (.goto 62, 3) := by decide +kernel
theorem d_M_readItem_190 : decode b_M_readItem 190 = .ok (.aload_n 0, 1) := by decide +kernel
theorem d_M_readItem_191 : decode b_M_readItem 191 = .ok (.ldc_w 288, 3) := by decide +kernel
theorem d_M_readItem_194 : decode b_M_readItem 194 = .ok (.invokevirtual 263, 3) := by decide +kernel
theorem d_M_readItem_197 : decode b_M_readItem 197 = .ok (.ifCond .ne 13, 3) := by decide +kernel
theorem d_M_readItem_200 : decode b_M_readItem 200 = .ok (.aload_n 0, 1) := by decide +kernel
theorem d_M_readItem_201 : decode b_M_readItem 201 = .ok (.ldc_w 290, 3) := by decide +kernel
theorem d_M_readItem_204 : decode b_M_readItem 204 = .ok (.invokevirtual 263, 3) := by decide +kernel
theorem d_M_readItem_207 : decode b_M_readItem 207 = .ok (.ifCond .eq 27, 3) := by decide +kernel
theorem d_M_readItem_210 : decode b_M_readItem 210 = .ok (.aload_n 0, 1) := by decide +kernel
theorem d_M_readItem_211 : decode b_M_readItem 211 = .ok (.aload_n 0, 1) := by decide +kernel
theorem d_M_readItem_212 : decode b_M_readItem 212 = .ok (.ldc_w 290, 3) := by decide +kernel
theorem d_M_readItem_215 : decode b_M_readItem 215 = .ok (.invokevirtual 263, 3) := by decide +kernel
theorem d_M_readItem_218 : decode b_M_readItem 218 = .ok (.ifCond .eq 8, 3) := by decide +kernel
theorem d_M_readItem_221 : decode b_M_readItem 221 = .ok (.bipush 15, 2) := by decide +kernel
theorem d_M_readItem_223 : decode b_M_readItem 223 = .ok (.goto 5, 3) := by decide +kernel
theorem d_M_readItem_226 : decode b_M_readItem 226 = .ok (.bipush 14, 2) := by decide +kernel
theorem d_M_readItem_228 : decode b_M_readItem 228 = .ok (.invokevirtual 292, 3) := by decide +kernel
theorem d_M_readItem_231 : decode b_M_readItem 231 = .ok (.goto 18, 3) := by decide +kernel
theorem d_M_readItem_234 : decode b_M_readItem 234 = .ok (.aload_n 0, 1) := by decide +kernel
theorem d_M_readItem_235 : decode b_M_readItem 235 = .ok (.aload_n 0, 1) := by decide +kernel
theorem d_M_readItem_236 : decode b_M_readItem 236 = .ok (.ldc_w 295, 3) := by decide +kernel
theorem d_M_readItem_239 : decode b_M_readItem 239 = .ok (.invokevirtual 263, 3) := by decide +kernel
theorem d_M_readItem_242 : decode b_M_readItem 242 = .ok (.invokevirtual 256, 3) := by decide +kernel
theorem d_M_readItem_245 : decode b_M_readItem 245 = .ok (.aload_n 0, 1) := by decide +kernel
theorem d_M_readItem_246 : decode b_M_readItem 246 = .ok (.invokevirtual 297, 3) := by decide +kernel
theorem d_M_readItem_249 : decode b_M_readItem 249 = .ok (.return_, 1) := by decide +kernel
theorem d_M_kindTold_0 : decode b_M_kindTold 0 = .ok (.iconst (-1), 1) := by decide +kernel
theorem d_M_kindTold_1 : decode b_M_kindTold 1 = .ok (.istore_n 1, 1) := by decide +kernel
theorem d_M_kindTold_2 : decode b_M_kindTold 2 = .ok (.iconst 0, 1) := by decide +kernel
theorem d_M_kindTold_3 : decode b_M_kindTold 3 = .ok (.istore_n 2, 1) := by decide +kernel
theorem d_M_kindTold_4 : decode b_M_kindTold 4 = .ok (.iload_n 2, 1) := by decide +kernel
theorem d_M_kindTold_5 : decode b_M_kindTold 5 = .ok (.aload_n 0, 1) := by decide +kernel
theorem d_M_kindTold_6 : decode b_M_kindTold 6 = .ok (.getfield 52, 3) := by decide +kernel
theorem d_M_kindTold_9 : decode b_M_kindTold 9 = .ok (.arraylength, 1) := by decide +kernel
theorem d_M_kindTold_10 : decode b_M_kindTold 10 = .ok (.if_icmp .ge 28, 3) := by decide +kernel
theorem d_M_kindTold_13 : decode b_M_kindTold 13 = .ok (.aload_n 0, 1) := by decide +kernel
theorem d_M_kindTold_14 : decode b_M_kindTold 14 = .ok (.aload_n 0, 1) := by decide +kernel
theorem d_M_kindTold_15 : decode b_M_kindTold 15 = .ok (.getfield 52, 3) := by decide +kernel
theorem d_M_kindTold_18 : decode b_M_kindTold 18 = .ok (.iload_n 2, 1) := by decide +kernel
theorem d_M_kindTold_19 : decode b_M_kindTold 19 = .ok (.aaload, 1) := by decide +kernel
theorem d_M_kindTold_20 : decode b_M_kindTold 20 = .ok (.invokevirtual 263, 3) := by decide +kernel
theorem d_M_kindTold_23 : decode b_M_kindTold 23 = .ok (.ifCond .eq 7, 3) := by decide +kernel
theorem d_M_kindTold_26 : decode b_M_kindTold 26 = .ok (.iload_n 2, 1) := by decide +kernel
theorem d_M_kindTold_27 : decode b_M_kindTold 27 = .ok (.goto 4, 3) := by decide +kernel
theorem d_M_kindTold_30 : decode b_M_kindTold 30 = .ok (.iload_n 1, 1) := by decide +kernel
theorem d_M_kindTold_31 : decode b_M_kindTold 31 = .ok (.istore_n 1, 1) := by decide +kernel
theorem d_M_kindTold_32 : decode b_M_kindTold 32 = .ok (.iinc 2 1, 3) := by decide +kernel
theorem d_M_kindTold_35 : decode b_M_kindTold 35 = .ok (.goto (-31), 3) := by decide +kernel
theorem d_M_kindTold_38 : decode b_M_kindTold 38 = .ok (.iload_n 1, 1) := by decide +kernel
theorem d_M_kindTold_39 : decode b_M_kindTold 39 = .ok (.ireturn, 1) := by decide +kernel
theorem d_M_isWord_0 : decode b_M_isWord 0 = .ok (.aload_n 0, 1) := by decide +kernel
theorem d_M_isWord_1 : decode b_M_isWord 1 = .ok (.getfield 239, 3) := by decide +kernel
theorem d_M_isWord_4 : decode b_M_isWord 4 = .ok (.iconst 1, 1) := by decide +kernel
theorem d_M_isWord_5 : decode b_M_isWord 5 = .ok (.if_icmp .ne 23, 3) := by decide +kernel
theorem d_M_isWord_8 : decode b_M_isWord 8 = .ok (.aload_n 0, 1) := by decide +kernel
theorem d_M_isWord_9 : decode b_M_isWord 9 = .ok (.getfield 227, 3) := by decide +kernel
theorem d_M_isWord_12 : decode b_M_isWord 12 = .ok (.aload_n 0, 1) := by decide +kernel
theorem d_M_isWord_13 : decode b_M_isWord 13 = .ok (.getfield 230, 3) := by decide +kernel
theorem d_M_isWord_16 : decode b_M_isWord 16 = .ok (.isub, 1) := by decide +kernel
theorem d_M_isWord_17 : decode b_M_isWord 17 = .ok (.aload_n 1, 1) := by decide +kernel
theorem d_M_isWord_18 : decode b_M_isWord 18 = .ok (.invokevirtual 242, 3) := by decide +kernel
theorem d_M_isWord_21 : decode b_M_isWord 21 = .ok (.if_icmp .ne 7, 3) := by decide +kernel
theorem d_M_isWord_24 : decode b_M_isWord 24 = .ok (.iconst 1, 1) := by decide +kernel
theorem d_M_isWord_25 : decode b_M_isWord 25 = .ok (.goto 4, 3) := by decide +kernel
theorem d_M_isWord_28 : decode b_M_isWord 28 = .ok (.iconst 0, 1) := by decide +kernel
theorem d_M_isWord_29 : decode b_M_isWord 29 = .ok (.istore_n 2, 1) := by decide +kernel
theorem d_M_isWord_30 : decode b_M_isWord 30 = .ok (.iconst 0, 1) := by decide +kernel
theorem d_M_isWord_31 : decode b_M_isWord 31 = .ok (.istore_n 3, 1) := by decide +kernel
theorem d_M_isWord_32 : decode b_M_isWord 32 = .ok (.iload_n 3, 1) := by decide +kernel
theorem d_M_isWord_33 : decode b_M_isWord 33 = .ok (.aload_n 1, 1) := by decide +kernel
theorem d_M_isWord_34 : decode b_M_isWord 34 = .ok (.invokevirtual 242, 3) := by decide +kernel
theorem d_M_isWord_37 : decode b_M_isWord 37 = .ok (.if_icmp .ge 38, 3) := by decide +kernel
theorem d_M_isWord_40 : decode b_M_isWord 40 = .ok (.iload_n 2, 1) := by decide +kernel
theorem d_M_isWord_41 : decode b_M_isWord 41 = .ok (.ifCond .eq 34, 3) := by decide +kernel
theorem d_M_isWord_44 : decode b_M_isWord 44 = .ok (.aload_n 0, 1) := by decide +kernel
theorem d_M_isWord_45 : decode b_M_isWord 45 = .ok (.getfield 35, 3) := by decide +kernel
theorem d_M_isWord_48 : decode b_M_isWord 48 = .ok (.aload_n 0, 1) := by decide +kernel
theorem d_M_isWord_49 : decode b_M_isWord 49 = .ok (.getfield 230, 3) := by decide +kernel
theorem d_M_isWord_52 : decode b_M_isWord 52 = .ok (.iload_n 3, 1) := by decide +kernel
theorem d_M_isWord_53 : decode b_M_isWord 53 = .ok (.iadd, 1) := by decide +kernel
theorem d_M_isWord_54 : decode b_M_isWord 54 = .ok (.iaload, 1) := by decide +kernel
theorem d_M_isWord_55 : decode b_M_isWord 55 = .ok (.aload_n 1, 1) := by decide +kernel
theorem d_M_isWord_56 : decode b_M_isWord 56 = .ok (.iload_n 3, 1) := by decide +kernel
theorem d_M_isWord_57 : decode b_M_isWord 57 = .ok (.invokevirtual 245, 3) := by decide +kernel
theorem d_M_isWord_60 : decode b_M_isWord 60 = .ok (.if_icmp .ne 7, 3) := by decide +kernel
theorem d_M_isWord_63 : decode b_M_isWord 63 = .ok (.iconst 1, 1) := by decide +kernel
theorem d_M_isWord_64 : decode b_M_isWord 64 = .ok (.goto 4, 3) := by decide +kernel
theorem d_M_isWord_67 : decode b_M_isWord 67 = .ok (.iconst 0, 1) := by decide +kernel
theorem d_M_isWord_68 : decode b_M_isWord 68 = .ok (.istore_n 2, 1) := by decide +kernel
theorem d_M_isWord_69 : decode b_M_isWord 69 = .ok (.iinc 3 1, 3) := by decide +kernel
theorem d_M_isWord_72 : decode b_M_isWord 72 = .ok (.goto (-40), 3) := by decide +kernel
theorem d_M_isWord_75 : decode b_M_isWord 75 = .ok (.iload_n 2, 1) := by decide +kernel
theorem d_M_isWord_76 : decode b_M_isWord 76 = .ok (.ireturn, 1) := by decide +kernel
theorem d_M_readFarm_0 : decode b_M_readFarm 0 = .ok (.aload_n 0, 1) := by decide +kernel
theorem d_M_readFarm_1 : decode b_M_readFarm 1 = .ok (.aload_n 0, 1) := by decide +kernel
theorem d_M_readFarm_2 : decode b_M_readFarm 2 = .ok (.getfield 300, 3) := by decide +kernel
theorem d_M_readFarm_5 : decode b_M_readFarm 5 = .ok (.bipush 12, 2) := by decide +kernel
theorem d_M_readFarm_7 : decode b_M_readFarm 7 = .ok (.if_icmp .ge 7, 3) := by decide +kernel
theorem d_M_readFarm_10 : decode b_M_readFarm 10 = .ok (.iconst 1, 1) := by decide +kernel
theorem d_M_readFarm_11 : decode b_M_readFarm 11 = .ok (.goto 4, 3) := by decide +kernel
theorem d_M_readFarm_14 : decode b_M_readFarm 14 = .ok (.iconst 0, 1) := by decide +kernel
theorem d_M_readFarm_15 : decode b_M_readFarm 15 = .ok (.invokevirtual 256, 3) := by decide +kernel
theorem d_M_readFarm_18 : decode b_M_readFarm 18 = .ok (.aload_n 0, 1) := by decide +kernel
theorem d_M_readFarm_19 : decode b_M_readFarm 19 = .ok (.dup, 1) := by decide +kernel
theorem d_M_readFarm_20 : decode b_M_readFarm 20 = .ok (.getfield 300, 3) := by decide +kernel
theorem d_M_readFarm_23 : decode b_M_readFarm 23 = .ok (.iconst 1, 1) := by decide +kernel
theorem d_M_readFarm_24 : decode b_M_readFarm 24 = .ok (.iadd, 1) := by decide +kernel
theorem d_M_readFarm_25 : decode b_M_readFarm 25 = .ok (.putfield 300, 3) := by decide +kernel
theorem d_M_readFarm_28 : decode b_M_readFarm 28 = .ok (.aload_n 0, 1) := by decide +kernel
theorem d_M_readFarm_29 : decode b_M_readFarm 29 = .ok (.aload_n 0, 1) := by decide +kernel
theorem d_M_readFarm_30 : decode b_M_readFarm 30 = .ok (.ldc_w 303, 3) := by decide +kernel
theorem d_M_readFarm_33 : decode b_M_readFarm 33 = .ok (.invokevirtual 263, 3) := by decide +kernel
theorem d_M_readFarm_36 : decode b_M_readFarm 36 = .ok (.invokevirtual 256, 3) := by decide +kernel
theorem d_M_readFarm_39 : decode b_M_readFarm 39 = .ok (.aload_n 0, 1) := by decide +kernel
theorem d_M_readFarm_40 : decode b_M_readFarm 40 = .ok (.getfield 236, 3) := by decide +kernel
theorem d_M_readFarm_43 : decode b_M_readFarm 43 = .ok (.istore_n 2, 1) := by decide +kernel
theorem d_M_readFarm_44 : decode b_M_readFarm 44 = .ok (.aload_n 0, 1) := by decide +kernel
theorem d_M_readFarm_45 : decode b_M_readFarm 45 = .ok (.aload_n 0, 1) := by decide +kernel
theorem d_M_readFarm_46 : decode b_M_readFarm 46 = .ok (.getfield 239, 3) := by decide +kernel
theorem d_M_readFarm_49 : decode b_M_readFarm 49 = .ok (.iconst 2, 1) := by decide +kernel
theorem d_M_readFarm_50 : decode b_M_readFarm 50 = .ok (.if_icmp .ne 27, 3) := by decide +kernel
theorem d_M_readFarm_53 : decode b_M_readFarm 53 = .ok (.iload_n 2, 1) := by decide +kernel
theorem d_M_readFarm_54 : decode b_M_readFarm 54 = .ok (.invokestatic 90, 3) := by decide +kernel
theorem d_M_readFarm_57 : decode b_M_readFarm 57 = .ok (.ifCond .eq 20, 3) := by decide +kernel
theorem d_M_readFarm_60 : decode b_M_readFarm 60 = .ok (.aload_n 0, 1) := by decide +kernel
theorem d_M_readFarm_61 : decode b_M_readFarm 61 = .ok (.getfield 305, 3) := by decide +kernel
theorem d_M_readFarm_64 : decode b_M_readFarm 64 = .ok (.iload_n 2, 1) := by decide +kernel
theorem d_M_readFarm_65 : decode b_M_readFarm 65 = .ok (.lshr, 1) := by decide +kernel
theorem d_M_readFarm_66 : decode b_M_readFarm 66 = .ok (.lconst 1, 1) := by decide +kernel
theorem d_M_readFarm_67 : decode b_M_readFarm 67 = .ok (.land, 1) := by decide +kernel
theorem d_M_readFarm_68 : decode b_M_readFarm 68 = .ok (.lconst 0, 1) := by decide +kernel
theorem d_M_readFarm_69 : decode b_M_readFarm 69 = .ok (.lcmp, 1) := by decide +kernel
theorem d_M_readFarm_70 : decode b_M_readFarm 70 = .ok (.ifCond .ne 7, 3) := by decide +kernel
theorem d_M_readFarm_73 : decode b_M_readFarm 73 = .ok (.iconst 1, 1) := by decide +kernel
theorem d_M_readFarm_74 : decode b_M_readFarm 74 = .ok (.goto 4, 3) := by decide +kernel
theorem d_M_readFarm_77 : decode b_M_readFarm 77 = .ok (.iconst 0, 1) := by decide +kernel
theorem d_M_readFarm_78 : decode b_M_readFarm 78 = .ok (.invokevirtual 256, 3) := by decide +kernel
theorem d_M_readFarm_81 : decode b_M_readFarm 81 = .ok (.aload_n 0, 1) := by decide +kernel
theorem d_M_readFarm_82 : decode b_M_readFarm 82 = .ok (.dup, 1) := by decide +kernel
theorem d_M_readFarm_83 : decode b_M_readFarm 83 = .ok (.getfield 305, 3) := by decide +kernel
theorem d_M_readFarm_86 : decode b_M_readFarm 86 = .ok (.aload_n 0, 1) := by decide +kernel
theorem d_M_readFarm_87 : decode b_M_readFarm 87 = .ok (.getfield 249, 3) := by decide +kernel
theorem d_M_readFarm_90 : decode b_M_readFarm 90 = .ok (.ifCond .eq 7, 3) := by decide +kernel
theorem d_M_readFarm_93 : decode b_M_readFarm 93 = .ok (.lconst 0, 1) := by decide +kernel
theorem d_M_readFarm_94 : decode b_M_readFarm 94 = .ok (.goto 6, 3) := by decide +kernel
theorem d_M_readFarm_97 : decode b_M_readFarm 97 = .ok (.lconst 1, 1) := by decide +kernel
theorem d_M_readFarm_98 : decode b_M_readFarm 98 = .ok (.iload_n 2, 1) := by decide +kernel
theorem d_M_readFarm_99 : decode b_M_readFarm 99 = .ok (.lshl, 1) := by decide +kernel
theorem d_M_readFarm_100 : decode b_M_readFarm 100 = .ok (.lor, 1) := by decide +kernel
theorem d_M_readFarm_101 : decode b_M_readFarm 101 = .ok (.putfield 305, 3) := by decide +kernel
theorem d_M_readFarm_104 : decode b_M_readFarm 104 = .ok (.iconst 0, 1) := by decide +kernel
theorem d_M_readFarm_105 : decode b_M_readFarm 105 = .ok (.istore_n 3, 1) := by decide +kernel
theorem d_M_readFarm_106 : decode b_M_readFarm 106 = .ok (.aload_n 0, 1) := by decide +kernel
theorem d_M_readFarm_107 : decode b_M_readFarm 107 = .ok (.getfield 249, 3) := by decide +kernel
theorem d_M_readFarm_110 : decode b_M_readFarm 110 = .ok (.ifCond .ne 25, 3) := by decide +kernel
theorem d_M_readFarm_113 : decode b_M_readFarm 113 = .ok (.aload_n 0, 1) := by decide +kernel
theorem d_M_readFarm_114 : decode b_M_readFarm 114 = .ok (.ldc_w 309, 3) := by decide +kernel
theorem d_M_readFarm_117 : decode b_M_readFarm 117 = .ok (.invokevirtual 263, 3) := by decide +kernel
theorem d_M_readFarm_120 : decode b_M_readFarm 120 = .ok (.ifCond .eq 15, 3) := by decide +kernel
theorem d_M_readFarm_123 : decode b_M_readFarm 123 = .ok (.aload_n 0, 1) := by decide +kernel
theorem d_M_readFarm_124 : decode b_M_readFarm 124 = .ok (.iconst 1, 1) := by decide +kernel
theorem d_M_readFarm_125 : decode b_M_readFarm 125 = .ok (.invokevirtual 256, 3) := by decide +kernel
theorem d_M_readFarm_128 : decode b_M_readFarm 128 = .ok (.aload_n 0, 1) := by decide +kernel
theorem d_M_readFarm_129 : decode b_M_readFarm 129 = .ok (.iconst 0, 1) := by decide +kernel
theorem d_M_readFarm_130 : decode b_M_readFarm 130 = .ok (.iconst 5, 1) := by decide +kernel
theorem d_M_readFarm_131 : decode b_M_readFarm 131 = .ok (.invokevirtual 275, 3) := by decide +kernel
theorem d_M_readFarm_134 : decode b_M_readFarm 134 = .ok (.istore_n 3, 1) := by decide +kernel
theorem d_M_readFarm_135 : decode b_M_readFarm 135 = .ok (.aload_n 0, 1) := by decide +kernel
theorem d_M_readFarm_136 : decode b_M_readFarm 136 = .ok (.iload_n 1, 1) := by decide +kernel
theorem d_M_readFarm_137 : decode b_M_readFarm 137 = .ok (.iload_n 2, 1) := by decide +kernel
theorem d_M_readFarm_138 : decode b_M_readFarm 138 = .ok (.iload_n 3, 1) := by decide +kernel
theorem d_M_readFarm_139 : decode b_M_readFarm 139 = .ok (.iconst 0, 1) := by decide +kernel
theorem d_M_readFarm_140 : decode b_M_readFarm 140 = .ok (.iconst 0, 1) := by decide +kernel
theorem d_M_readFarm_141 : decode b_M_readFarm 141 = .ok (.iconst 0, 1) := by decide +kernel
theorem d_M_readFarm_142 : decode b_M_readFarm 142 = .ok (.invokevirtual 278, 3) := by decide +kernel
theorem d_M_readFarm_145 : decode b_M_readFarm 145 = .ok (.return_, 1) := by decide +kernel
theorem d_M_must_0 : decode b_M_must 0 = .ok (.aload_n 0, 1) := by decide +kernel
theorem d_M_must_1 : decode b_M_must 1 = .ok (.aload_n 0, 1) := by decide +kernel
theorem d_M_must_2 : decode b_M_must 2 = .ok (.getfield 249, 3) := by decide +kernel
theorem d_M_must_5 : decode b_M_must 5 = .ok (.ifCond .ne 7, 3) := by decide +kernel
theorem d_M_must_8 : decode b_M_must 8 = .ok (.iload_n 1, 1) := by decide +kernel
theorem d_M_must_9 : decode b_M_must 9 = .ok (.ifCond .ne 7, 3) := by decide +kernel
theorem d_M_must_12 : decode b_M_must 12 = .ok (.iconst 1, 1) := by decide +kernel
theorem d_M_must_13 : decode b_M_must 13 = .ok (.goto 4, 3) := by decide +kernel
theorem d_M_must_16 : decode b_M_must 16 = .ok (.iconst 0, 1) := by decide +kernel
theorem d_M_must_17 : decode b_M_must 17 = .ok (.putfield 249, 3) := by decide +kernel
theorem d_M_must_20 : decode b_M_must 20 = .ok (.aload_n 0, 1) := by decide +kernel
theorem d_M_must_21 : decode b_M_must 21 = .ok (.getfield 249, 3) := by decide +kernel
theorem d_M_must_24 : decode b_M_must 24 = .ok (.ifCond .ne 7, 3) := by decide +kernel
theorem d_M_must_27 : decode b_M_must 27 = .ok (.aload_n 0, 1) := by decide +kernel
theorem d_M_must_28 : decode b_M_must 28 = .ok (.invokevirtual 253, 3) := by decide +kernel
theorem d_M_must_31 : decode b_M_must 31 = .ok (.return_, 1) := by decide +kernel
theorem d_M_number_0 : decode b_M_number 0 = .ok (.aload_n 0, 1) := by decide +kernel
theorem d_M_number_1 : decode b_M_number 1 = .ok (.getfield 236, 3) := by decide +kernel
theorem d_M_number_4 : decode b_M_number 4 = .ok (.istore_n 3, 1) := by decide +kernel
theorem d_M_number_5 : decode b_M_number 5 = .ok (.aload_n 0, 1) := by decide +kernel
theorem d_M_number_6 : decode b_M_number 6 = .ok (.aload_n 0, 1) := by decide +kernel
theorem d_M_number_7 : decode b_M_number 7 = .ok (.getfield 239, 3) := by decide +kernel
theorem d_M_number_10 : decode b_M_number 10 = .ok (.iconst 2, 1) := by decide +kernel
theorem d_M_number_11 : decode b_M_number 11 = .ok (.if_icmp .ne 16, 3) := by decide +kernel
theorem d_M_number_14 : decode b_M_number 14 = .ok (.iload_n 3, 1) := by decide +kernel
theorem d_M_number_15 : decode b_M_number 15 = .ok (.iload_n 1, 1) := by decide +kernel
theorem d_M_number_16 : decode b_M_number 16 = .ok (.iload_n 2, 1) := by decide +kernel
theorem d_M_number_17 : decode b_M_number 17 = .ok (.invokestatic 86, 3) := by decide +kernel
theorem d_M_number_20 : decode b_M_number 20 = .ok (.ifCond .eq 7, 3) := by decide +kernel
theorem d_M_number_23 : decode b_M_number 23 = .ok (.iconst 1, 1) := by decide +kernel
theorem d_M_number_24 : decode b_M_number 24 = .ok (.goto 4, 3) := by decide +kernel
theorem d_M_number_27 : decode b_M_number 27 = .ok (.iconst 0, 1) := by decide +kernel
theorem d_M_number_28 : decode b_M_number 28 = .ok (.invokevirtual 256, 3) := by decide +kernel
theorem d_M_number_31 : decode b_M_number 31 = .ok (.iload_n 3, 1) := by decide +kernel
theorem d_M_number_32 : decode b_M_number 32 = .ok (.ireturn, 1) := by decide +kernel
theorem d_M_item_0 : decode b_M_item 0 = .ok (.bipush 6, 2) := by decide +kernel
theorem d_M_item_2 : decode b_M_item 2 = .ok (.aload_n 0, 1) := by decide +kernel
theorem d_M_item_3 : decode b_M_item 3 = .ok (.getfield 260, 3) := by decide +kernel
theorem d_M_item_6 : decode b_M_item 6 = .ok (.imul, 1) := by decide +kernel
theorem d_M_item_7 : decode b_M_item 7 = .ok (.istore 7, 2) := by decide +kernel
theorem d_M_item_9 : decode b_M_item 9 = .ok (.aload_n 0, 1) := by decide +kernel
theorem d_M_item_10 : decode b_M_item 10 = .ok (.getfield 56, 3) := by decide +kernel
theorem d_M_item_13 : decode b_M_item 13 = .ok (.iload 7, 2) := by decide +kernel
theorem d_M_item_15 : decode b_M_item 15 = .ok (.iload_n 1, 1) := by decide +kernel
theorem d_M_item_16 : decode b_M_item 16 = .ok (.iastore, 1) := by decide +kernel
theorem d_M_item_17 : decode b_M_item 17 = .ok (.aload_n 0, 1) := by decide +kernel
theorem d_M_item_18 : decode b_M_item 18 = .ok (.getfield 56, 3) := by decide +kernel
theorem d_M_item_21 : decode b_M_item 21 = .ok (.iload 7, 2) := by decide +kernel
theorem d_M_item_23 : decode b_M_item 23 = .ok (.iconst 1, 1) := by decide +kernel
theorem d_M_item_24 : decode b_M_item 24 = .ok (.iadd, 1) := by decide +kernel
theorem d_M_item_25 : decode b_M_item 25 = .ok (.iload_n 2, 1) := by decide +kernel
theorem d_M_item_26 : decode b_M_item 26 = .ok (.iastore, 1) := by decide +kernel
theorem d_M_item_27 : decode b_M_item 27 = .ok (.aload_n 0, 1) := by decide +kernel
theorem d_M_item_28 : decode b_M_item 28 = .ok (.getfield 56, 3) := by decide +kernel
theorem d_M_item_31 : decode b_M_item 31 = .ok (.iload 7, 2) := by decide +kernel
theorem d_M_item_33 : decode b_M_item 33 = .ok (.iconst 2, 1) := by decide +kernel
theorem d_M_item_34 : decode b_M_item 34 = .ok (.iadd, 1) := by decide +kernel
theorem d_M_item_35 : decode b_M_item 35 = .ok (.iload_n 3, 1) := by decide +kernel
theorem d_M_item_36 : decode b_M_item 36 = .ok (.iastore, 1) := by decide +kernel
theorem d_M_item_37 : decode b_M_item 37 = .ok (.aload_n 0, 1) := by decide +kernel
theorem d_M_item_38 : decode b_M_item 38 = .ok (.getfield 56, 3) := by decide +kernel
theorem d_M_item_41 : decode b_M_item 41 = .ok (.iload 7, 2) := by decide +kernel
theorem d_M_item_43 : decode b_M_item 43 = .ok (.iconst 3, 1) := by decide +kernel
theorem d_M_item_44 : decode b_M_item 44 = .ok (.iadd, 1) := by decide +kernel
theorem d_M_item_45 : decode b_M_item 45 = .ok (.iload 4, 2) := by decide +kernel
theorem d_M_item_47 : decode b_M_item 47 = .ok (.iastore, 1) := by decide +kernel
theorem d_M_item_48 : decode b_M_item 48 = .ok (.aload_n 0, 1) := by decide +kernel
theorem d_M_item_49 : decode b_M_item 49 = .ok (.getfield 56, 3) := by decide +kernel
theorem d_M_item_52 : decode b_M_item 52 = .ok (.iload 7, 2) := by decide +kernel
theorem d_M_item_54 : decode b_M_item 54 = .ok (.iconst 4, 1) := by decide +kernel
theorem d_M_item_55 : decode b_M_item 55 = .ok (.iadd, 1) := by decide +kernel
theorem d_M_item_56 : decode b_M_item 56 = .ok (.iload 5, 2) := by decide +kernel
theorem d_M_item_58 : decode b_M_item 58 = .ok (.iastore, 1) := by decide +kernel
theorem d_M_item_59 : decode b_M_item 59 = .ok (.aload_n 0, 1) := by decide +kernel
theorem d_M_item_60 : decode b_M_item 60 = .ok (.getfield 56, 3) := by decide +kernel
theorem d_M_item_63 : decode b_M_item 63 = .ok (.iload 7, 2) := by decide +kernel
theorem d_M_item_65 : decode b_M_item 65 = .ok (.iconst 5, 1) := by decide +kernel
theorem d_M_item_66 : decode b_M_item 66 = .ok (.iadd, 1) := by decide +kernel
theorem d_M_item_67 : decode b_M_item 67 = .ok (.iload 6, 2) := by decide +kernel
theorem d_M_item_69 : decode b_M_item 69 = .ok (.iastore, 1) := by decide +kernel
theorem d_M_item_70 : decode b_M_item 70 = .ok (.aload_n 0, 1) := by decide +kernel
theorem d_M_item_71 : decode b_M_item 71 = .ok (.dup, 1) := by decide +kernel
theorem d_M_item_72 : decode b_M_item 72 = .ok (.getfield 260, 3) := by decide +kernel
theorem d_M_item_75 : decode b_M_item 75 = .ok (.iconst 1, 1) := by decide +kernel
theorem d_M_item_76 : decode b_M_item 76 = .ok (.iadd, 1) := by decide +kernel
theorem d_M_item_77 : decode b_M_item 77 = .ok (.putfield 260, 3) := by decide +kernel
theorem d_M_item_80 : decode b_M_item 80 = .ok (.return_, 1) := by decide +kernel
theorem d_M_readTenths_0 : decode b_M_readTenths 0 = .ok (.aload_n 0, 1) := by decide +kernel
theorem d_M_readTenths_1 : decode b_M_readTenths 1 = .ok (.iconst 1, 1) := by decide +kernel
theorem d_M_readTenths_2 : decode b_M_readTenths 2 = .ok (.invokevirtual 256, 3) := by decide +kernel
theorem d_M_readTenths_5 : decode b_M_readTenths 5 = .ok (.aload_n 0, 1) := by decide +kernel
theorem d_M_readTenths_6 : decode b_M_readTenths 6 = .ok (.iconst 0, 1) := by decide +kernel
theorem d_M_readTenths_7 : decode b_M_readTenths 7 = .ok (.iconst 3, 1) := by decide +kernel
theorem d_M_readTenths_8 : decode b_M_readTenths 8 = .ok (.invokevirtual 275, 3) := by decide +kernel
theorem d_M_readTenths_11 : decode b_M_readTenths 11 = .ok (.istore_n 2, 1) := by decide +kernel
theorem d_M_readTenths_12 : decode b_M_readTenths 12 = .ok (.aload_n 0, 1) := by decide +kernel
theorem d_M_readTenths_13 : decode b_M_readTenths 13 = .ok (.iconst 0, 1) := by decide +kernel
theorem d_M_readTenths_14 : decode b_M_readTenths 14 = .ok (.bipush 10, 2) := by decide +kernel
theorem d_M_readTenths_16 : decode b_M_readTenths 16 = .ok (.invokevirtual 275, 3) := by decide +kernel
theorem d_M_readTenths_19 : decode b_M_readTenths 19 = .ok (.istore_n 3, 1) := by decide +kernel
theorem d_M_readTenths_20 : decode b_M_readTenths 20 = .ok (.aload_n 0, 1) := by decide +kernel
theorem d_M_readTenths_21 : decode b_M_readTenths 21 = .ok (.iconst 0, 1) := by decide +kernel
theorem d_M_readTenths_22 : decode b_M_readTenths 22 = .ok (.bipush 10, 2) := by decide +kernel
theorem d_M_readTenths_24 : decode b_M_readTenths 24 = .ok (.iload_n 3, 1) := by decide +kernel
theorem d_M_readTenths_25 : decode b_M_readTenths 25 = .ok (.isub, 1) := by decide +kernel
theorem d_M_readTenths_26 : decode b_M_readTenths 26 = .ok (.invokevirtual 275, 3) := by decide +kernel
theorem d_M_readTenths_29 : decode b_M_readTenths 29 = .ok (.istore 4, 2) := by decide +kernel
theorem d_M_readTenths_31 : decode b_M_readTenths 31 = .ok (.aload_n 0, 1) := by decide +kernel
theorem d_M_readTenths_32 : decode b_M_readTenths 32 = .ok (.iconst 0, 1) := by decide +kernel
theorem d_M_readTenths_33 : decode b_M_readTenths 33 = .ok (.bipush 10, 2) := by decide +kernel
theorem d_M_readTenths_35 : decode b_M_readTenths 35 = .ok (.iload_n 3, 1) := by decide +kernel
theorem d_M_readTenths_36 : decode b_M_readTenths 36 = .ok (.isub, 1) := by decide +kernel
theorem d_M_readTenths_37 : decode b_M_readTenths 37 = .ok (.iload 4, 2) := by decide +kernel
theorem d_M_readTenths_39 : decode b_M_readTenths 39 = .ok (.isub, 1) := by decide +kernel
theorem d_M_readTenths_40 : decode b_M_readTenths 40 = .ok (.invokevirtual 275, 3) := by decide +kernel
theorem d_M_readTenths_43 : decode b_M_readTenths 43 = .ok (.istore 5, 2) := by decide +kernel
theorem d_M_readTenths_45 : decode b_M_readTenths 45 = .ok (.aload_n 0, 1) := by decide +kernel
theorem d_M_readTenths_46 : decode b_M_readTenths 46 = .ok (.bipush 10, 2) := by decide +kernel
theorem d_M_readTenths_48 : decode b_M_readTenths 48 = .ok (.iload_n 3, 1) := by decide +kernel
theorem d_M_readTenths_49 : decode b_M_readTenths 49 = .ok (.isub, 1) := by decide +kernel
theorem d_M_readTenths_50 : decode b_M_readTenths 50 = .ok (.iload 4, 2) := by decide +kernel
theorem d_M_readTenths_52 : decode b_M_readTenths 52 = .ok (.isub, 1) := by decide +kernel
theorem d_M_readTenths_53 : decode b_M_readTenths 53 = .ok (.iload 5, 2) := by decide +kernel
theorem d_M_readTenths_55 : decode b_M_readTenths 55 = .ok (.isub, 1) := by decide +kernel
theorem d_M_readTenths_56 : decode b_M_readTenths 56 = .ok (.bipush 10, 2) := by decide +kernel
theorem d_M_readTenths_58 : decode b_M_readTenths 58 = .ok (.iload_n 3, 1) := by decide +kernel
theorem d_M_readTenths_59 : decode b_M_readTenths 59 = .ok (.isub, 1) := by decide +kernel
theorem d_M_readTenths_60 : decode b_M_readTenths 60 = .ok (.iload 4, 2) := by decide +kernel
theorem d_M_readTenths_62 : decode b_M_readTenths 62 = .ok (.isub, 1) := by decide +kernel
theorem d_M_readTenths_63 : decode b_M_readTenths 63 = .ok (.iload 5, 2) := by decide +kernel
theorem d_M_readTenths_65 : decode b_M_readTenths 65 = .ok (.isub, 1) := by decide +kernel
theorem d_M_readTenths_66 : decode b_M_readTenths 66 = .ok (.invokevirtual 275, 3) := by decide +kernel
theorem d_M_readTenths_69 : decode b_M_readTenths 69 = .ok (.istore 6, 2) := by decide +kernel
theorem d_M_readTenths_71 : decode b_M_readTenths 71 = .ok (.aload_n 0, 1) := by decide +kernel
theorem d_M_readTenths_72 : decode b_M_readTenths 72 = .ok (.iload_n 1, 1) := by decide +kernel
theorem d_M_readTenths_73 : decode b_M_readTenths 73 = .ok (.iload_n 2, 1) := by decide +kernel
theorem d_M_readTenths_74 : decode b_M_readTenths 74 = .ok (.iload_n 3, 1) := by decide +kernel
theorem d_M_readTenths_75 : decode b_M_readTenths 75 = .ok (.iload 4, 2) := by decide +kernel
theorem d_M_readTenths_77 : decode b_M_readTenths 77 = .ok (.iload 5, 2) := by decide +kernel
theorem d_M_readTenths_79 : decode b_M_readTenths 79 = .ok (.iload 6, 2) := by decide +kernel
theorem d_M_readTenths_81 : decode b_M_readTenths 81 = .ok (.invokevirtual 278, 3) := by decide +kernel
theorem d_M_readTenths_84 : decode b_M_readTenths 84 = .ok (.return_, 1) := by decide +kernel
theorem d_M_readSees_0 : decode b_M_readSees 0 = .ok (.iconst 1, 1) := by decide +kernel
theorem d_M_readSees_1 : decode b_M_readSees 1 = .ok (.istore_n 1, 1) := by decide +kernel
theorem d_M_readSees_2 : decode b_M_readSees 2 = .ok (.aload_n 0, 1) := by decide +kernel
theorem d_M_readSees_3 : decode b_M_readSees 3 = .ok (.iconst 0, 1) := by decide +kernel
theorem d_M_readSees_4 : decode b_M_readSees 4 = .ok (.iconst 3, 1) := by decide +kernel
theorem d_M_readSees_5 : decode b_M_readSees 5 = .ok (.invokevirtual 275, 3) := by decide +kernel
theorem d_M_readSees_8 : decode b_M_readSees 8 = .ok (.istore_n 2, 1) := by decide +kernel
theorem d_M_readSees_9 : decode b_M_readSees 9 = .ok (.aload_n 0, 1) := by decide +kernel
theorem d_M_readSees_10 : decode b_M_readSees 10 = .ok (.getfield 249, 3) := by decide +kernel
theorem d_M_readSees_13 : decode b_M_readSees 13 = .ok (.ifCond .ne 63, 3) := by decide +kernel
theorem d_M_readSees_16 : decode b_M_readSees 16 = .ok (.aload_n 0, 1) := by decide +kernel
theorem d_M_readSees_17 : decode b_M_readSees 17 = .ok (.getfield 239, 3) := by decide +kernel
theorem d_M_readSees_20 : decode b_M_readSees 20 = .ok (.iconst 2, 1) := by decide +kernel
theorem d_M_readSees_21 : decode b_M_readSees 21 = .ok (.if_icmp .ne 55, 3) := by decide +kernel
theorem d_M_readSees_24 : decode b_M_readSees 24 = .ok (.aload_n 0, 1) := by decide +kernel
theorem d_M_readSees_25 : decode b_M_readSees 25 = .ok (.getfield 236, 3) := by decide +kernel
theorem d_M_readSees_28 : decode b_M_readSees 28 = .ok (.istore_n 3, 1) := by decide +kernel
theorem d_M_readSees_29 : decode b_M_readSees 29 = .ok (.aload_n 0, 1) := by decide +kernel
theorem d_M_readSees_30 : decode b_M_readSees 30 = .ok (.iload_n 3, 1) := by decide +kernel
theorem d_M_readSees_31 : decode b_M_readSees 31 = .ok (.invokestatic 148, 3) := by decide +kernel
theorem d_M_readSees_34 : decode b_M_readSees 34 = .ok (.ifCond .eq 13, 3) := by decide +kernel
theorem d_M_readSees_37 : decode b_M_readSees 37 = .ok (.iload_n 1, 1) := by decide +kernel
theorem d_M_readSees_38 : decode b_M_readSees 38 = .ok (.bipush 6, 2) := by decide +kernel
theorem d_M_readSees_40 : decode b_M_readSees 40 = .ok (.if_icmp .ge 7, 3) := by decide +kernel
theorem d_M_readSees_43 : decode b_M_readSees 43 = .ok (.iconst 1, 1) := by decide +kernel
theorem d_M_readSees_44 : decode b_M_readSees 44 = .ok (.goto 4, 3) := by decide +kernel
theorem d_M_readSees_47 : decode b_M_readSees 47 = .ok (.iconst 0, 1) := by decide +kernel
theorem d_M_readSees_48 : decode b_M_readSees 48 = .ok (.invokevirtual 256, 3) := by decide +kernel
theorem d_M_readSees_51 : decode b_M_readSees 51 = .ok (.iload_n 2, 1) := by decide +kernel
theorem d_M_readSees_52 : decode b_M_readSees 52 = .ok (.aload_n 0, 1) := by decide +kernel
theorem d_M_readSees_53 : decode b_M_readSees 53 = .ok (.getfield 249, 3) := by decide +kernel
theorem d_M_readSees_56 : decode b_M_readSees 56 = .ok (.ifCond .eq 7, 3) := by decide +kernel
theorem d_M_readSees_59 : decode b_M_readSees 59 = .ok (.iconst 0, 1) := by decide +kernel
theorem d_M_readSees_60 : decode b_M_readSees 60 = .ok (.goto 8, 3) := by decide +kernel
theorem d_M_readSees_63 : decode b_M_readSees 63 = .ok (.iload_n 3, 1) := by decide +kernel
theorem d_M_readSees_64 : decode b_M_readSees 64 = .ok (.iconst 2, 1) := by decide +kernel
theorem d_M_readSees_65 : decode b_M_readSees 65 = .ok (.iload_n 1, 1) := by decide +kernel
theorem d_M_readSees_66 : decode b_M_readSees 66 = .ok (.imul, 1) := by decide +kernel
theorem d_M_readSees_67 : decode b_M_readSees 67 = .ok (.ishl, 1) := by decide +kernel
theorem d_M_readSees_68 : decode b_M_readSees 68 = .ok (.ior, 1) := by decide +kernel
theorem d_M_readSees_69 : decode b_M_readSees 69 = .ok (.istore_n 2, 1) := by decide +kernel
theorem d_M_readSees_70 : decode b_M_readSees 70 = .ok (.iinc 1 1, 3) := by decide +kernel
theorem d_M_readSees_73 : decode b_M_readSees 73 = .ok (.goto (-64), 3) := by decide +kernel
theorem d_M_readSees_76 : decode b_M_readSees 76 = .ok (.aload_n 0, 1) := by decide +kernel
theorem d_M_readSees_77 : decode b_M_readSees 77 = .ok (.bipush 16, 2) := by decide +kernel
theorem d_M_readSees_79 : decode b_M_readSees 79 = .ok (.iload_n 1, 1) := by decide +kernel
theorem d_M_readSees_80 : decode b_M_readSees 80 = .ok (.iload_n 2, 1) := by decide +kernel
theorem d_M_readSees_81 : decode b_M_readSees 81 = .ok (.iconst 0, 1) := by decide +kernel
theorem d_M_readSees_82 : decode b_M_readSees 82 = .ok (.iconst 0, 1) := by decide +kernel
theorem d_M_readSees_83 : decode b_M_readSees 83 = .ok (.iconst 0, 1) := by decide +kernel
theorem d_M_readSees_84 : decode b_M_readSees 84 = .ok (.invokevirtual 278, 3) := by decide +kernel
theorem d_M_readSees_87 : decode b_M_readSees 87 = .ok (.return_, 1) := by decide +kernel
theorem d_M_isSo_0 : decode b_M_isSo 0 = .ok (.aload_n 0, 1) := by decide +kernel
theorem d_M_isSo_1 : decode b_M_isSo 1 = .ok (.getfield 56, 3) := by decide +kernel
theorem d_M_isSo_4 : decode b_M_isSo 4 = .ok (.iload_n 1, 1) := by decide +kernel
theorem d_M_isSo_5 : decode b_M_isSo 5 = .ok (.iconst 1, 1) := by decide +kernel
theorem d_M_isSo_6 : decode b_M_isSo 6 = .ok (.iadd, 1) := by decide +kernel
theorem d_M_isSo_7 : decode b_M_isSo 7 = .ok (.iaload, 1) := by decide +kernel
theorem d_M_isSo_8 : decode b_M_isSo 8 = .ok (.istore_n 2, 1) := by decide +kernel
theorem d_M_isSo_9 : decode b_M_isSo 9 = .ok (.aload_n 0, 1) := by decide +kernel
theorem d_M_isSo_10 : decode b_M_isSo 10 = .ok (.getfield 56, 3) := by decide +kernel
theorem d_M_isSo_13 : decode b_M_isSo 13 = .ok (.iload_n 1, 1) := by decide +kernel
theorem d_M_isSo_14 : decode b_M_isSo 14 = .ok (.iconst 2, 1) := by decide +kernel
theorem d_M_isSo_15 : decode b_M_isSo 15 = .ok (.iadd, 1) := by decide +kernel
theorem d_M_isSo_16 : decode b_M_isSo 16 = .ok (.iaload, 1) := by decide +kernel
theorem d_M_isSo_17 : decode b_M_isSo 17 = .ok (.istore_n 3, 1) := by decide +kernel
theorem d_M_isSo_18 : decode b_M_isSo 18 = .ok (.aload_n 0, 1) := by decide +kernel
theorem d_M_isSo_19 : decode b_M_isSo 19 = .ok (.getfield 56, 3) := by decide +kernel
theorem d_M_isSo_22 : decode b_M_isSo 22 = .ok (.iload_n 1, 1) := by decide +kernel
theorem d_M_isSo_23 : decode b_M_isSo 23 = .ok (.iaload, 1) := by decide +kernel
theorem d_M_isSo_24 : decode b_M_isSo 24 = .ok (.tableswitch 199 10 16 #[44, 59, 72, 85, 95, 125, 155], 44) := by decide +kernel
theorem d_M_isSo_68 : decode b_M_isSo 68 = .ok (.aload_n 0, 1) := by decide +kernel
theorem d_M_isSo_69 : decode b_M_isSo 69 = .ok (.iload_n 2, 1) := by decide +kernel
theorem d_M_isSo_70 : decode b_M_isSo 70 = .ok (.aload_n 0, 1) := by decide +kernel
theorem d_M_isSo_71 : decode b_M_isSo 71 = .ok (.iload_n 2, 1) := by decide +kernel
theorem d_M_isSo_72 : decode b_M_isSo 72 = .ok (.iload_n 3, 1) := by decide +kernel
theorem d_M_isSo_73 : decode b_M_isSo 73 = .ok (.invokevirtual 109, 3) := by decide +kernel
theorem d_M_isSo_76 : decode b_M_isSo 76 = .ok (.iconst 1, 1) := by decide +kernel
theorem d_M_isSo_77 : decode b_M_isSo 77 = .ok (.invokevirtual 116, 3) := by decide +kernel
theorem d_M_isSo_80 : decode b_M_isSo 80 = .ok (.goto 157, 3) := by decide +kernel
theorem d_M_isSo_83 : decode b_M_isSo 83 = .ok (.aload_n 0, 1) := by decide +kernel
theorem d_M_isSo_84 : decode b_M_isSo 84 = .ok (.getfield 9, 3) := by decide +kernel
theorem d_M_isSo_87 : decode b_M_isSo 87 = .ok (.bipush 50, 2) := by decide +kernel
theorem d_M_isSo_89 : decode b_M_isSo 89 = .ok (.iload_n 2, 1) := by decide +kernel
theorem d_M_isSo_90 : decode b_M_isSo 90 = .ok (.iadd, 1) := by decide +kernel
theorem d_M_isSo_91 : decode b_M_isSo 91 = .ok (.iload_n 3, 1) := by decide +kernel
theorem d_M_isSo_92 : decode b_M_isSo 92 = .ok (.iastore, 1) := by decide +kernel
theorem d_M_isSo_93 : decode b_M_isSo 93 = .ok (.goto 144, 3) := by decide +kernel
theorem d_M_isSo_96 : decode b_M_isSo 96 = .ok (.aload_n 0, 1) := by decide +kernel
theorem d_M_isSo_97 : decode b_M_isSo 97 = .ok (.getfield 9, 3) := by decide +kernel
theorem d_M_isSo_100 : decode b_M_isSo 100 = .ok (.bipush 86, 2) := by decide +kernel
theorem d_M_isSo_102 : decode b_M_isSo 102 = .ok (.iload_n 2, 1) := by decide +kernel
theorem d_M_isSo_103 : decode b_M_isSo 103 = .ok (.iadd, 1) := by decide +kernel
theorem d_M_isSo_104 : decode b_M_isSo 104 = .ok (.iload_n 3, 1) := by decide +kernel
theorem d_M_isSo_105 : decode b_M_isSo 105 = .ok (.iastore, 1) := by decide +kernel
theorem d_M_isSo_106 : decode b_M_isSo 106 = .ok (.goto 131, 3) := by decide +kernel
theorem d_M_isSo_109 : decode b_M_isSo 109 = .ok (.aload_n 0, 1) := by decide +kernel
theorem d_M_isSo_110 : decode b_M_isSo 110 = .ok (.getfield 9, 3) := by decide +kernel
theorem d_M_isSo_113 : decode b_M_isSo 113 = .ok (.iconst 3, 1) := by decide +kernel
theorem d_M_isSo_114 : decode b_M_isSo 114 = .ok (.iload_n 2, 1) := by decide +kernel
theorem d_M_isSo_115 : decode b_M_isSo 115 = .ok (.iastore, 1) := by decide +kernel
theorem d_M_isSo_116 : decode b_M_isSo 116 = .ok (.goto 121, 3) := by decide +kernel
theorem d_M_isSo_119 : decode b_M_isSo 119 = .ok (.aload_n 0, 1) := by decide +kernel
theorem d_M_isSo_120 : decode b_M_isSo 120 = .ok (.bipush 18, 2) := by decide +kernel
theorem d_M_isSo_122 : decode b_M_isSo 122 = .ok (.iconst 4, 1) := by decide +kernel
theorem d_M_isSo_123 : decode b_M_isSo 123 = .ok (.iload_n 2, 1) := by decide +kernel
theorem d_M_isSo_124 : decode b_M_isSo 124 = .ok (.imul, 1) := by decide +kernel
theorem d_M_isSo_125 : decode b_M_isSo 125 = .ok (.iadd, 1) := by decide +kernel
theorem d_M_isSo_126 : decode b_M_isSo 126 = .ok (.iload_n 3, 1) := by decide +kernel
theorem d_M_isSo_127 : decode b_M_isSo 127 = .ok (.aload_n 0, 1) := by decide +kernel
theorem d_M_isSo_128 : decode b_M_isSo 128 = .ok (.getfield 56, 3) := by decide +kernel
theorem d_M_isSo_131 : decode b_M_isSo 131 = .ok (.iload_n 1, 1) := by decide +kernel
theorem d_M_isSo_132 : decode b_M_isSo 132 = .ok (.iconst 3, 1) := by decide +kernel
theorem d_M_isSo_133 : decode b_M_isSo 133 = .ok (.iadd, 1) := by decide +kernel
theorem d_M_isSo_134 : decode b_M_isSo 134 = .ok (.iaload, 1) := by decide +kernel
theorem d_M_isSo_135 : decode b_M_isSo 135 = .ok (.aload_n 0, 1) := by decide +kernel
theorem d_M_isSo_136 : decode b_M_isSo 136 = .ok (.getfield 56, 3) := by decide +kernel
theorem d_M_isSo_139 : decode b_M_isSo 139 = .ok (.iload_n 1, 1) := by decide +kernel
theorem d_M_isSo_140 : decode b_M_isSo 140 = .ok (.iconst 4, 1) := by decide +kernel
theorem d_M_isSo_141 : decode b_M_isSo 141 = .ok (.iadd, 1) := by decide +kernel
theorem d_M_isSo_142 : decode b_M_isSo 142 = .ok (.iaload, 1) := by decide +kernel
theorem d_M_isSo_143 : decode b_M_isSo 143 = .ok (.invokevirtual 151, 3) := by decide +kernel
theorem d_M_isSo_146 : decode b_M_isSo 146 = .ok (.goto 91, 3) := by decide +kernel
theorem d_M_isSo_149 : decode b_M_isSo 149 = .ok (.aload_n 0, 1) := by decide +kernel
theorem d_M_isSo_150 : decode b_M_isSo 150 = .ok (.bipush 34, 2) := by decide +kernel
theorem d_M_isSo_152 : decode b_M_isSo 152 = .ok (.iconst 4, 1) := by decide +kernel
theorem d_M_isSo_153 : decode b_M_isSo 153 = .ok (.iload_n 2, 1) := by decide +kernel
theorem d_M_isSo_154 : decode b_M_isSo 154 = .ok (.imul, 1) := by decide +kernel
theorem d_M_isSo_155 : decode b_M_isSo 155 = .ok (.iadd, 1) := by decide +kernel
theorem d_M_isSo_156 : decode b_M_isSo 156 = .ok (.iload_n 3, 1) := by decide +kernel
theorem d_M_isSo_157 : decode b_M_isSo 157 = .ok (.aload_n 0, 1) := by decide +kernel
theorem d_M_isSo_158 : decode b_M_isSo 158 = .ok (.getfield 56, 3) := by decide +kernel
theorem d_M_isSo_161 : decode b_M_isSo 161 = .ok (.iload_n 1, 1) := by decide +kernel
theorem d_M_isSo_162 : decode b_M_isSo 162 = .ok (.iconst 3, 1) := by decide +kernel
theorem d_M_isSo_163 : decode b_M_isSo 163 = .ok (.iadd, 1) := by decide +kernel
theorem d_M_isSo_164 : decode b_M_isSo 164 = .ok (.iaload, 1) := by decide +kernel
theorem d_M_isSo_165 : decode b_M_isSo 165 = .ok (.aload_n 0, 1) := by decide +kernel
theorem d_M_isSo_166 : decode b_M_isSo 166 = .ok (.getfield 56, 3) := by decide +kernel
theorem d_M_isSo_169 : decode b_M_isSo 169 = .ok (.iload_n 1, 1) := by decide +kernel
theorem d_M_isSo_170 : decode b_M_isSo 170 = .ok (.iconst 4, 1) := by decide +kernel
theorem d_M_isSo_171 : decode b_M_isSo 171 = .ok (.iadd, 1) := by decide +kernel
theorem d_M_isSo_172 : decode b_M_isSo 172 = .ok (.iaload, 1) := by decide +kernel
theorem d_M_isSo_173 : decode b_M_isSo 173 = .ok (.invokevirtual 151, 3) := by decide +kernel
theorem d_M_isSo_176 : decode b_M_isSo 176 = .ok (.goto 61, 3) := by decide +kernel
theorem d_M_isSo_179 : decode b_M_isSo 179 = .ok (.aload_n 0, 1) := by decide +kernel
theorem d_M_isSo_180 : decode b_M_isSo 180 = .ok (.getfield 9, 3) := by decide +kernel
theorem d_M_isSo_183 : decode b_M_isSo 183 = .ok (.bipush 11, 2) := by decide +kernel
theorem d_M_isSo_185 : decode b_M_isSo 185 = .ok (.iload_n 2, 1) := by decide +kernel
theorem d_M_isSo_186 : decode b_M_isSo 186 = .ok (.iastore, 1) := by decide +kernel
theorem d_M_isSo_187 : decode b_M_isSo 187 = .ok (.iconst 0, 1) := by decide +kernel
theorem d_M_isSo_188 : decode b_M_isSo 188 = .ok (.istore 5, 2) := by decide +kernel
theorem d_M_isSo_190 : decode b_M_isSo 190 = .ok (.iload 5, 2) := by decide +kernel
theorem d_M_isSo_192 : decode b_M_isSo 192 = .ok (.iload_n 2, 1) := by decide +kernel
theorem d_M_isSo_193 : decode b_M_isSo 193 = .ok (.if_icmp .ge 27, 3) := by decide +kernel
theorem d_M_isSo_196 : decode b_M_isSo 196 = .ok (.aload_n 0, 1) := by decide +kernel
theorem d_M_isSo_197 : decode b_M_isSo 197 = .ok (.getfield 9, 3) := by decide +kernel
theorem d_M_isSo_200 : decode b_M_isSo 200 = .ok (.bipush 12, 2) := by decide +kernel
theorem d_M_isSo_202 : decode b_M_isSo 202 = .ok (.iload 5, 2) := by decide +kernel
theorem d_M_isSo_204 : decode b_M_isSo 204 = .ok (.iadd, 1) := by decide +kernel
theorem d_M_isSo_205 : decode b_M_isSo 205 = .ok (.iload_n 3, 1) := by decide +kernel
theorem d_M_isSo_206 : decode b_M_isSo 206 = .ok (.iconst 2, 1) := by decide +kernel
theorem d_M_isSo_207 : decode b_M_isSo 207 = .ok (.iload 5, 2) := by decide +kernel
theorem d_M_isSo_209 : decode b_M_isSo 209 = .ok (.imul, 1) := by decide +kernel
theorem d_M_isSo_210 : decode b_M_isSo 210 = .ok (.ishr, 1) := by decide +kernel
theorem d_M_isSo_211 : decode b_M_isSo 211 = .ok (.iconst 3, 1) := by decide +kernel
theorem d_M_isSo_212 : decode b_M_isSo 212 = .ok (.iand, 1) := by decide +kernel
theorem d_M_isSo_213 : decode b_M_isSo 213 = .ok (.iastore, 1) := by decide +kernel
theorem d_M_isSo_214 : decode b_M_isSo 214 = .ok (.iinc 5 1, 3) := by decide +kernel
theorem d_M_isSo_217 : decode b_M_isSo 217 = .ok (.goto (-27), 3) := by decide +kernel
theorem d_M_isSo_220 : decode b_M_isSo 220 = .ok (.goto 17, 3) := by decide +kernel
theorem d_M_isSo_223 : decode b_M_isSo 223 = .ok (.aload_n 0, 1) := by decide +kernel
theorem d_M_isSo_224 : decode b_M_isSo 224 = .ok (.aload_n 0, 1) := by decide +kernel
theorem d_M_isSo_225 : decode b_M_isSo 225 = .ok (.getfield 56, 3) := by decide +kernel
theorem d_M_isSo_228 : decode b_M_isSo 228 = .ok (.iload_n 1, 1) := by decide +kernel
theorem d_M_isSo_229 : decode b_M_isSo 229 = .ok (.iaload, 1) := by decide +kernel
theorem d_M_isSo_230 : decode b_M_isSo 230 = .ok (.iload_n 2, 1) := by decide +kernel
theorem d_M_isSo_231 : decode b_M_isSo 231 = .ok (.iload_n 3, 1) := by decide +kernel
theorem d_M_isSo_232 : decode b_M_isSo 232 = .ok (.invokevirtual 125, 3) := by decide +kernel
theorem d_M_isSo_235 : decode b_M_isSo 235 = .ok (.istore 4, 2) := by decide +kernel
theorem d_M_isSo_237 : decode b_M_isSo 237 = .ok (.return_, 1) := by decide +kernel
theorem d_M_sheet_0 : decode b_M_sheet 0 = .ok (.iload_n 1, 1) := by decide +kernel
theorem d_M_sheet_1 : decode b_M_sheet 1 = .ok (.invokestatic 317, 3) := by decide +kernel
theorem d_M_sheet_4 : decode b_M_sheet 4 = .ok (.ifCond .eq 25, 3) := by decide +kernel
theorem d_M_sheet_7 : decode b_M_sheet 7 = .ok (.iload_n 2, 1) := by decide +kernel
theorem d_M_sheet_8 : decode b_M_sheet 8 = .ok (.ifCond .eq 28, 3) := by decide +kernel
theorem d_M_sheet_11 : decode b_M_sheet 11 = .ok (.iload_n 2, 1) := by decide +kernel
theorem d_M_sheet_12 : decode b_M_sheet 12 = .ok (.bipush 8, 2) := by decide +kernel
theorem d_M_sheet_14 : decode b_M_sheet 14 = .ok (.if_icmp .eq 22, 3) := by decide +kernel
theorem d_M_sheet_17 : decode b_M_sheet 17 = .ok (.iload_n 2, 1) := by decide +kernel
theorem d_M_sheet_18 : decode b_M_sheet 18 = .ok (.bipush 16, 2) := by decide +kernel
theorem d_M_sheet_20 : decode b_M_sheet 20 = .ok (.if_icmp .eq 16, 3) := by decide +kernel
theorem d_M_sheet_23 : decode b_M_sheet 23 = .ok (.iload_n 2, 1) := by decide +kernel
theorem d_M_sheet_24 : decode b_M_sheet 24 = .ok (.bipush 64, 2) := by decide +kernel
theorem d_M_sheet_26 : decode b_M_sheet 26 = .ok (.if_icmp .eq 10, 3) := by decide +kernel
theorem d_M_sheet_29 : decode b_M_sheet 29 = .ok (.aload_n 0, 1) := by decide +kernel
theorem d_M_sheet_30 : decode b_M_sheet 30 = .ok (.ldc 81, 2) := by decide +kernel
theorem d_M_sheet_32 : decode b_M_sheet 32 = .ok (.invokevirtual 94, 3) := by decide +kernel
theorem d_M_sheet_35 : decode b_M_sheet 35 = .ok (.ireturn, 1) := by decide +kernel
theorem d_M_sheet_36 : decode b_M_sheet 36 = .ok (.iload_n 3, 1) := by decide +kernel
theorem d_M_sheet_37 : decode b_M_sheet 37 = .ok (.ifCond .ge 11, 3) := by decide +kernel
theorem d_M_sheet_40 : decode b_M_sheet 40 = .ok (.aload_n 0, 1) := by decide +kernel
theorem d_M_sheet_41 : decode b_M_sheet 41 = .ok (.ldc_w 320, 3) := by decide +kernel
theorem d_M_sheet_44 : decode b_M_sheet 44 = .ok (.invokevirtual 94, 3) := by decide +kernel
theorem d_M_sheet_47 : decode b_M_sheet 47 = .ok (.ireturn, 1) := by decide +kernel
theorem d_M_sheet_48 : decode b_M_sheet 48 = .ok (.iload_n 3, 1) := by decide +kernel
theorem d_M_sheet_49 : decode b_M_sheet 49 = .ok (.bipush 40, 2) := by decide +kernel
theorem d_M_sheet_51 : decode b_M_sheet 51 = .ok (.if_icmp .le 10, 3) := by decide +kernel
theorem d_M_sheet_54 : decode b_M_sheet 54 = .ok (.aload_n 0, 1) := by decide +kernel
theorem d_M_sheet_55 : decode b_M_sheet 55 = .ok (.ldc 81, 2) := by decide +kernel
theorem d_M_sheet_57 : decode b_M_sheet 57 = .ok (.invokevirtual 94, 3) := by decide +kernel
theorem d_M_sheet_60 : decode b_M_sheet 60 = .ok (.ireturn, 1) := by decide +kernel
theorem d_M_sheet_61 : decode b_M_sheet 61 = .ok (.aload_n 0, 1) := by decide +kernel
theorem d_M_sheet_62 : decode b_M_sheet 62 = .ok (.getfield 59, 3) := by decide +kernel
theorem d_M_sheet_65 : decode b_M_sheet 65 = .ok (.iload_n 1, 1) := by decide +kernel
theorem d_M_sheet_66 : decode b_M_sheet 66 = .ok (.iload_n 2, 1) := by decide +kernel
theorem d_M_sheet_67 : decode b_M_sheet 67 = .ok (.iastore, 1) := by decide +kernel
theorem d_M_sheet_68 : decode b_M_sheet 68 = .ok (.aload_n 0, 1) := by decide +kernel
theorem d_M_sheet_69 : decode b_M_sheet 69 = .ok (.getfield 62, 3) := by decide +kernel
theorem d_M_sheet_72 : decode b_M_sheet 72 = .ok (.iload_n 1, 1) := by decide +kernel
theorem d_M_sheet_73 : decode b_M_sheet 73 = .ok (.iload_n 2, 1) := by decide +kernel
theorem d_M_sheet_74 : decode b_M_sheet 74 = .ok (.ifCond .ne 7, 3) := by decide +kernel
theorem d_M_sheet_77 : decode b_M_sheet 77 = .ok (.iconst 0, 1) := by decide +kernel
theorem d_M_sheet_78 : decode b_M_sheet 78 = .ok (.goto 4, 3) := by decide +kernel
theorem d_M_sheet_81 : decode b_M_sheet 81 = .ok (.iload_n 3, 1) := by decide +kernel
theorem d_M_sheet_82 : decode b_M_sheet 82 = .ok (.iastore, 1) := by decide +kernel
theorem d_M_sheet_83 : decode b_M_sheet 83 = .ok (.iconst 0, 1) := by decide +kernel
theorem d_M_sheet_84 : decode b_M_sheet 84 = .ok (.istore 4, 2) := by decide +kernel
theorem d_M_sheet_86 : decode b_M_sheet 86 = .ok (.iload 4, 2) := by decide +kernel
theorem d_M_sheet_88 : decode b_M_sheet 88 = .ok (.bipush 40, 2) := by decide +kernel
theorem d_M_sheet_90 : decode b_M_sheet 90 = .ok (.if_icmp .ge 22, 3) := by decide +kernel
theorem d_M_sheet_93 : decode b_M_sheet 93 = .ok (.aload_n 0, 1) := by decide +kernel
theorem d_M_sheet_94 : decode b_M_sheet 94 = .ok (.getfield 65, 3) := by decide +kernel
theorem d_M_sheet_97 : decode b_M_sheet 97 = .ok (.bipush 40, 2) := by decide +kernel
theorem d_M_sheet_99 : decode b_M_sheet 99 = .ok (.iload_n 1, 1) := by decide +kernel
theorem d_M_sheet_100 : decode b_M_sheet 100 = .ok (.imul, 1) := by decide +kernel
theorem d_M_sheet_101 : decode b_M_sheet 101 = .ok (.iload 4, 2) := by decide +kernel
theorem d_M_sheet_103 : decode b_M_sheet 103 = .ok (.iadd, 1) := by decide +kernel
theorem d_M_sheet_104 : decode b_M_sheet 104 = .ok (.lconst 0, 1) := by decide +kernel
theorem d_M_sheet_105 : decode b_M_sheet 105 = .ok (.lastore, 1) := by decide +kernel
theorem d_M_sheet_106 : decode b_M_sheet 106 = .ok (.iinc 4 1, 3) := by decide +kernel
theorem d_M_sheet_109 : decode b_M_sheet 109 = .ok (.goto (-23), 3) := by decide +kernel
theorem d_M_sheet_112 : decode b_M_sheet 112 = .ok (.aload_n 0, 1) := by decide +kernel
theorem d_M_sheet_113 : decode b_M_sheet 113 = .ok (.getfield 62, 3) := by decide +kernel
theorem d_M_sheet_116 : decode b_M_sheet 116 = .ok (.iload_n 1, 1) := by decide +kernel
theorem d_M_sheet_117 : decode b_M_sheet 117 = .ok (.iaload, 1) := by decide +kernel
theorem d_M_sheet_118 : decode b_M_sheet 118 = .ok (.ireturn, 1) := by decide +kernel
theorem d_M_isSheet_0 : decode b_M_isSheet 0 = .ok (.iload_n 0, 1) := by decide +kernel
theorem d_M_isSheet_1 : decode b_M_isSheet 1 = .ok (.iconst 0, 1) := by decide +kernel
theorem d_M_isSheet_2 : decode b_M_isSheet 2 = .ok (.iconst 3, 1) := by decide +kernel
theorem d_M_isSheet_3 : decode b_M_isSheet 3 = .ok (.invokestatic 86, 3) := by decide +kernel
theorem d_M_isSheet_6 : decode b_M_isSheet 6 = .ok (.ireturn, 1) := by decide +kernel
theorem d_M_write_0 : decode b_M_write 0 = .ok (.iload_n 1, 1) := by decide +kernel
theorem d_M_write_1 : decode b_M_write 1 = .ok (.invokestatic 317, 3) := by decide +kernel
theorem d_M_write_4 : decode b_M_write 4 = .ok (.ifCond .ne 11, 3) := by decide +kernel
theorem d_M_write_7 : decode b_M_write 7 = .ok (.aload_n 0, 1) := by decide +kernel
theorem d_M_write_8 : decode b_M_write 8 = .ok (.ldc 81, 2) := by decide +kernel
theorem d_M_write_10 : decode b_M_write 10 = .ok (.invokevirtual 94, 3) := by decide +kernel
theorem d_M_write_13 : decode b_M_write 13 = .ok (.i2l, 1) := by decide +kernel
theorem d_M_write_14 : decode b_M_write 14 = .ok (.lreturn, 1) := by decide +kernel
theorem d_M_write_15 : decode b_M_write 15 = .ok (.aload_n 0, 1) := by decide +kernel
theorem d_M_write_16 : decode b_M_write 16 = .ok (.getfield 59, 3) := by decide +kernel
theorem d_M_write_19 : decode b_M_write 19 = .ok (.iload_n 1, 1) := by decide +kernel
theorem d_M_write_20 : decode b_M_write 20 = .ok (.iaload, 1) := by decide +kernel
theorem d_M_write_21 : decode b_M_write 21 = .ok (.ifCond .ne 12, 3) := by decide +kernel
theorem d_M_write_24 : decode b_M_write 24 = .ok (.aload_n 0, 1) := by decide +kernel
theorem d_M_write_25 : decode b_M_write 25 = .ok (.ldc_w 321, 3) := by decide +kernel
theorem d_M_write_28 : decode b_M_write 28 = .ok (.invokevirtual 94, 3) := by decide +kernel
theorem d_M_write_31 : decode b_M_write 31 = .ok (.i2l, 1) := by decide +kernel
theorem d_M_write_32 : decode b_M_write 32 = .ok (.lreturn, 1) := by decide +kernel
theorem d_M_write_33 : decode b_M_write 33 = .ok (.iload_n 2, 1) := by decide +kernel
theorem d_M_write_34 : decode b_M_write 34 = .ok (.iconst 0, 1) := by decide +kernel
theorem d_M_write_35 : decode b_M_write 35 = .ok (.aload_n 0, 1) := by decide +kernel
theorem d_M_write_36 : decode b_M_write 36 = .ok (.getfield 62, 3) := by decide +kernel
theorem d_M_write_39 : decode b_M_write 39 = .ok (.iload_n 1, 1) := by decide +kernel
theorem d_M_write_40 : decode b_M_write 40 = .ok (.iaload, 1) := by decide +kernel
theorem d_M_write_41 : decode b_M_write 41 = .ok (.iconst 1, 1) := by decide +kernel
theorem d_M_write_42 : decode b_M_write 42 = .ok (.isub, 1) := by decide +kernel
theorem d_M_write_43 : decode b_M_write 43 = .ok (.invokestatic 86, 3) := by decide +kernel
theorem d_M_write_46 : decode b_M_write 46 = .ok (.ifCond .ne 11, 3) := by decide +kernel
theorem d_M_write_49 : decode b_M_write 49 = .ok (.aload_n 0, 1) := by decide +kernel
theorem d_M_write_50 : decode b_M_write 50 = .ok (.ldc 81, 2) := by decide +kernel
theorem d_M_write_52 : decode b_M_write 52 = .ok (.invokevirtual 94, 3) := by decide +kernel
theorem d_M_write_55 : decode b_M_write 55 = .ok (.i2l, 1) := by decide +kernel
theorem d_M_write_56 : decode b_M_write 56 = .ok (.lreturn, 1) := by decide +kernel
theorem d_M_write_57 : decode b_M_write 57 = .ok (.aload_n 0, 1) := by decide +kernel
theorem d_M_write_58 : decode b_M_write 58 = .ok (.getfield 65, 3) := by decide +kernel
theorem d_M_write_61 : decode b_M_write 61 = .ok (.bipush 40, 2) := by decide +kernel
theorem d_M_write_63 : decode b_M_write 63 = .ok (.iload_n 1, 1) := by decide +kernel
theorem d_M_write_64 : decode b_M_write 64 = .ok (.imul, 1) := by decide +kernel
theorem d_M_write_65 : decode b_M_write 65 = .ok (.iload_n 2, 1) := by decide +kernel
theorem d_M_write_66 : decode b_M_write 66 = .ok (.iadd, 1) := by decide +kernel
theorem d_M_write_67 : decode b_M_write 67 = .ok (.laload, 1) := by decide +kernel
theorem d_M_write_68 : decode b_M_write 68 = .ok (.lstore 5, 2) := by decide +kernel
theorem d_M_write_70 : decode b_M_write 70 = .ok (.aload_n 0, 1) := by decide +kernel
theorem d_M_write_71 : decode b_M_write 71 = .ok (.getfield 65, 3) := by decide +kernel
theorem d_M_write_74 : decode b_M_write 74 = .ok (.bipush 40, 2) := by decide +kernel
theorem d_M_write_76 : decode b_M_write 76 = .ok (.iload_n 1, 1) := by decide +kernel
theorem d_M_write_77 : decode b_M_write 77 = .ok (.imul, 1) := by decide +kernel
theorem d_M_write_78 : decode b_M_write 78 = .ok (.iload_n 2, 1) := by decide +kernel
theorem d_M_write_79 : decode b_M_write 79 = .ok (.iadd, 1) := by decide +kernel
theorem d_M_write_80 : decode b_M_write 80 = .ok (.lload_n 3, 1) := by decide +kernel
theorem d_M_write_81 : decode b_M_write 81 = .ok (.aload_n 0, 1) := by decide +kernel
theorem d_M_write_82 : decode b_M_write 82 = .ok (.getfield 59, 3) := by decide +kernel
theorem d_M_write_85 : decode b_M_write 85 = .ok (.iload_n 1, 1) := by decide +kernel
theorem d_M_write_86 : decode b_M_write 86 = .ok (.iaload, 1) := by decide +kernel
theorem d_M_write_87 : decode b_M_write 87 = .ok (.invokestatic 322, 3) := by decide +kernel
theorem d_M_write_90 : decode b_M_write 90 = .ok (.lastore, 1) := by decide +kernel
theorem d_M_write_91 : decode b_M_write 91 = .ok (.lload 5, 2) := by decide +kernel
theorem d_M_write_93 : decode b_M_write 93 = .ok (.lreturn, 1) := by decide +kernel
theorem d_M_cutTo_0 : decode b_M_cutTo 0 = .ok (.iload_n 2, 1) := by decide +kernel
theorem d_M_cutTo_1 : decode b_M_cutTo 1 = .ok (.bipush 8, 2) := by decide +kernel
theorem d_M_cutTo_3 : decode b_M_cutTo 3 = .ok (.if_icmp .ne 10, 3) := by decide +kernel
theorem d_M_cutTo_6 : decode b_M_cutTo 6 = .ok (.lload_n 0, 1) := by decide +kernel
theorem d_M_cutTo_7 : decode b_M_cutTo 7 = .ok (.l2i, 1) := by decide +kernel
theorem d_M_cutTo_8 : decode b_M_cutTo 8 = .ok (.i2b, 1) := by decide +kernel
theorem d_M_cutTo_9 : decode b_M_cutTo 9 = .ok (.i2l, 1) := by decide +kernel
theorem d_M_cutTo_10 : decode b_M_cutTo 10 = .ok (.goto 17, 3) := by decide +kernel
theorem d_M_cutTo_13 : decode b_M_cutTo 13 = .ok (.iload_n 2, 1) := by decide +kernel
theorem d_M_cutTo_14 : decode b_M_cutTo 14 = .ok (.bipush 16, 2) := by decide +kernel
theorem d_M_cutTo_16 : decode b_M_cutTo 16 = .ok (.if_icmp .ne 10, 3) := by decide +kernel
theorem d_M_cutTo_19 : decode b_M_cutTo 19 = .ok (.lload_n 0, 1) := by decide +kernel
theorem d_M_cutTo_20 : decode b_M_cutTo 20 = .ok (.l2i, 1) := by decide +kernel
theorem d_M_cutTo_21 : decode b_M_cutTo 21 = .ok (.i2s, 1) := by decide +kernel
theorem d_M_cutTo_22 : decode b_M_cutTo 22 = .ok (.i2l, 1) := by decide +kernel
theorem d_M_cutTo_23 : decode b_M_cutTo 23 = .ok (.goto 4, 3) := by decide +kernel
theorem d_M_cutTo_26 : decode b_M_cutTo 26 = .ok (.lload_n 0, 1) := by decide +kernel
theorem d_M_cutTo_27 : decode b_M_cutTo 27 = .ok (.lreturn, 1) := by decide +kernel
theorem d_M_copy_0 : decode b_M_copy 0 = .ok (.iload_n 1, 1) := by decide +kernel
theorem d_M_copy_1 : decode b_M_copy 1 = .ok (.invokestatic 317, 3) := by decide +kernel
theorem d_M_copy_4 : decode b_M_copy 4 = .ok (.ifCond .eq 10, 3) := by decide +kernel
theorem d_M_copy_7 : decode b_M_copy 7 = .ok (.iload_n 3, 1) := by decide +kernel
theorem d_M_copy_8 : decode b_M_copy 8 = .ok (.invokestatic 317, 3) := by decide +kernel
theorem d_M_copy_11 : decode b_M_copy 11 = .ok (.ifCond .ne 10, 3) := by decide +kernel
theorem d_M_copy_14 : decode b_M_copy 14 = .ok (.aload_n 0, 1) := by decide +kernel
theorem d_M_copy_15 : decode b_M_copy 15 = .ok (.ldc 81, 2) := by decide +kernel
theorem d_M_copy_17 : decode b_M_copy 17 = .ok (.invokevirtual 94, 3) := by decide +kernel
theorem d_M_copy_20 : decode b_M_copy 20 = .ok (.ireturn, 1) := by decide +kernel
theorem d_M_copy_21 : decode b_M_copy 21 = .ok (.aload_n 0, 1) := by decide +kernel
theorem d_M_copy_22 : decode b_M_copy 22 = .ok (.getfield 59, 3) := by decide +kernel
theorem d_M_copy_25 : decode b_M_copy 25 = .ok (.iload_n 1, 1) := by decide +kernel
theorem d_M_copy_26 : decode b_M_copy 26 = .ok (.iaload, 1) := by decide +kernel
theorem d_M_copy_27 : decode b_M_copy 27 = .ok (.ifCond .eq 12, 3) := by decide +kernel
theorem d_M_copy_30 : decode b_M_copy 30 = .ok (.aload_n 0, 1) := by decide +kernel
theorem d_M_copy_31 : decode b_M_copy 31 = .ok (.getfield 59, 3) := by decide +kernel
theorem d_M_copy_34 : decode b_M_copy 34 = .ok (.iload_n 3, 1) := by decide +kernel
theorem d_M_copy_35 : decode b_M_copy 35 = .ok (.iaload, 1) := by decide +kernel
theorem d_M_copy_36 : decode b_M_copy 36 = .ok (.ifCond .ne 11, 3) := by decide +kernel
theorem d_M_copy_39 : decode b_M_copy 39 = .ok (.aload_n 0, 1) := by decide +kernel
theorem d_M_copy_40 : decode b_M_copy 40 = .ok (.ldc_w 321, 3) := by decide +kernel
theorem d_M_copy_43 : decode b_M_copy 43 = .ok (.invokevirtual 94, 3) := by decide +kernel
theorem d_M_copy_46 : decode b_M_copy 46 = .ok (.ireturn, 1) := by decide +kernel
theorem d_M_copy_47 : decode b_M_copy 47 = .ok (.aload_n 0, 1) := by decide +kernel
theorem d_M_copy_48 : decode b_M_copy 48 = .ok (.getfield 59, 3) := by decide +kernel
theorem d_M_copy_51 : decode b_M_copy 51 = .ok (.iload_n 1, 1) := by decide +kernel
theorem d_M_copy_52 : decode b_M_copy 52 = .ok (.iaload, 1) := by decide +kernel
theorem d_M_copy_53 : decode b_M_copy 53 = .ok (.aload_n 0, 1) := by decide +kernel
theorem d_M_copy_54 : decode b_M_copy 54 = .ok (.getfield 59, 3) := by decide +kernel
theorem d_M_copy_57 : decode b_M_copy 57 = .ok (.iload_n 3, 1) := by decide +kernel
theorem d_M_copy_58 : decode b_M_copy 58 = .ok (.iaload, 1) := by decide +kernel
theorem d_M_copy_59 : decode b_M_copy 59 = .ok (.if_icmp .eq 10, 3) := by decide +kernel
theorem d_M_copy_62 : decode b_M_copy 62 = .ok (.aload_n 0, 1) := by decide +kernel
theorem d_M_copy_63 : decode b_M_copy 63 = .ok (.ldc 144, 2) := by decide +kernel
theorem d_M_copy_65 : decode b_M_copy 65 = .ok (.invokevirtual 94, 3) := by decide +kernel
theorem d_M_copy_68 : decode b_M_copy 68 = .ok (.ireturn, 1) := by decide +kernel
theorem d_M_copy_69 : decode b_M_copy 69 = .ok (.iload_n 2, 1) := by decide +kernel
theorem d_M_copy_70 : decode b_M_copy 70 = .ok (.ifCond .lt 48, 3) := by decide +kernel
theorem d_M_copy_73 : decode b_M_copy 73 = .ok (.iload 4, 2) := by decide +kernel
theorem d_M_copy_75 : decode b_M_copy 75 = .ok (.ifCond .lt 43, 3) := by decide +kernel
theorem d_M_copy_78 : decode b_M_copy 78 = .ok (.iload 5, 2) := by decide +kernel
theorem d_M_copy_80 : decode b_M_copy 80 = .ok (.ifCond .lt 38, 3) := by decide +kernel
theorem d_M_copy_83 : decode b_M_copy 83 = .ok (.iload_n 2, 1) := by decide +kernel
theorem d_M_copy_84 : decode b_M_copy 84 = .ok (.i2l, 1) := by decide +kernel
theorem d_M_copy_85 : decode b_M_copy 85 = .ok (.iload 5, 2) := by decide +kernel
theorem d_M_copy_87 : decode b_M_copy 87 = .ok (.i2l, 1) := by decide +kernel
theorem d_M_copy_88 : decode b_M_copy 88 = .ok (.ladd, 1) := by decide +kernel
theorem d_M_copy_89 : decode b_M_copy 89 = .ok (.aload_n 0, 1) := by decide +kernel
theorem d_M_copy_90 : decode b_M_copy 90 = .ok (.getfield 62, 3) := by decide +kernel
theorem d_M_copy_93 : decode b_M_copy 93 = .ok (.iload_n 1, 1) := by decide +kernel
theorem d_M_copy_94 : decode b_M_copy 94 = .ok (.iaload, 1) := by decide +kernel
theorem d_M_copy_95 : decode b_M_copy 95 = .ok (.i2l, 1) := by decide +kernel
theorem d_M_copy_96 : decode b_M_copy 96 = .ok (.lcmp, 1) := by decide +kernel
theorem d_M_copy_97 : decode b_M_copy 97 = .ok (.ifCond .gt 21, 3) := by decide +kernel
theorem d_M_copy_100 : decode b_M_copy 100 = .ok (.iload 4, 2) := by decide +kernel
theorem d_M_copy_102 : decode b_M_copy 102 = .ok (.i2l, 1) := by decide +kernel
theorem d_M_copy_103 : decode b_M_copy 103 = .ok (.iload 5, 2) := by decide +kernel
theorem d_M_copy_105 : decode b_M_copy 105 = .ok (.i2l, 1) := by decide +kernel
theorem d_M_copy_106 : decode b_M_copy 106 = .ok (.ladd, 1) := by decide +kernel
theorem d_M_copy_107 : decode b_M_copy 107 = .ok (.aload_n 0, 1) := by decide +kernel
theorem d_M_copy_108 : decode b_M_copy 108 = .ok (.getfield 62, 3) := by decide +kernel
theorem d_M_copy_111 : decode b_M_copy 111 = .ok (.iload_n 3, 1) := by decide +kernel
theorem d_M_copy_112 : decode b_M_copy 112 = .ok (.iaload, 1) := by decide +kernel
theorem d_M_copy_113 : decode b_M_copy 113 = .ok (.i2l, 1) := by decide +kernel
theorem d_M_copy_114 : decode b_M_copy 114 = .ok (.lcmp, 1) := by decide +kernel
theorem d_M_copy_115 : decode b_M_copy 115 = .ok (.ifCond .le 10, 3) := by decide +kernel
theorem d_M_copy_118 : decode b_M_copy 118 = .ok (.aload_n 0, 1) := by decide +kernel
theorem d_M_copy_119 : decode b_M_copy 119 = .ok (.ldc 81, 2) := by decide +kernel
theorem d_M_copy_121 : decode b_M_copy 121 = .ok (.invokevirtual 94, 3) := by decide +kernel
theorem d_M_copy_124 : decode b_M_copy 124 = .ok (.ireturn, 1) := by decide +kernel
theorem d_M_copy_125 : decode b_M_copy 125 = .ok (.iconst 0, 1) := by decide +kernel
theorem d_M_copy_126 : decode b_M_copy 126 = .ok (.istore 6, 2) := by decide +kernel
theorem d_M_copy_128 : decode b_M_copy 128 = .ok (.iload 6, 2) := by decide +kernel
theorem d_M_copy_130 : decode b_M_copy 130 = .ok (.iload 5, 2) := by decide +kernel
theorem d_M_copy_132 : decode b_M_copy 132 = .ok (.if_icmp .ge 30, 3) := by decide +kernel
theorem d_M_copy_135 : decode b_M_copy 135 = .ok (.aload_n 0, 1) := by decide +kernel
theorem d_M_copy_136 : decode b_M_copy 136 = .ok (.getfield 68, 3) := by decide +kernel
theorem d_M_copy_139 : decode b_M_copy 139 = .ok (.iload 6, 2) := by decide +kernel
theorem d_M_copy_141 : decode b_M_copy 141 = .ok (.aload_n 0, 1) := by decide +kernel
theorem d_M_copy_142 : decode b_M_copy 142 = .ok (.getfield 65, 3) := by decide +kernel
theorem d_M_copy_145 : decode b_M_copy 145 = .ok (.bipush 40, 2) := by decide +kernel
theorem d_M_copy_147 : decode b_M_copy 147 = .ok (.iload_n 1, 1) := by decide +kernel
theorem d_M_copy_148 : decode b_M_copy 148 = .ok (.imul, 1) := by decide +kernel
theorem d_M_copy_149 : decode b_M_copy 149 = .ok (.iload_n 2, 1) := by decide +kernel
theorem d_M_copy_150 : decode b_M_copy 150 = .ok (.iadd, 1) := by decide +kernel
theorem d_M_copy_151 : decode b_M_copy 151 = .ok (.iload 6, 2) := by decide +kernel
theorem d_M_copy_153 : decode b_M_copy 153 = .ok (.iadd, 1) := by decide +kernel
theorem d_M_copy_154 : decode b_M_copy 154 = .ok (.laload, 1) := by decide +kernel
theorem d_M_copy_155 : decode b_M_copy 155 = .ok (.lastore, 1) := by decide +kernel
theorem d_M_copy_156 : decode b_M_copy 156 = .ok (.iinc 6 1, 3) := by decide +kernel
theorem d_M_copy_159 : decode b_M_copy 159 = .ok (.goto (-31), 3) := by decide +kernel
theorem d_M_copy_162 : decode b_M_copy 162 = .ok (.iconst 0, 1) := by decide +kernel
theorem d_M_copy_163 : decode b_M_copy 163 = .ok (.istore 6, 2) := by decide +kernel
theorem d_M_copy_165 : decode b_M_copy 165 = .ok (.iload 6, 2) := by decide +kernel
theorem d_M_copy_167 : decode b_M_copy 167 = .ok (.iload 5, 2) := by decide +kernel
theorem d_M_copy_169 : decode b_M_copy 169 = .ok (.if_icmp .ge 31, 3) := by decide +kernel
theorem d_M_copy_172 : decode b_M_copy 172 = .ok (.aload_n 0, 1) := by decide +kernel
theorem d_M_copy_173 : decode b_M_copy 173 = .ok (.getfield 65, 3) := by decide +kernel
theorem d_M_copy_176 : decode b_M_copy 176 = .ok (.bipush 40, 2) := by decide +kernel
theorem d_M_copy_178 : decode b_M_copy 178 = .ok (.iload_n 3, 1) := by decide +kernel
theorem d_M_copy_179 : decode b_M_copy 179 = .ok (.imul, 1) := by decide +kernel
theorem d_M_copy_180 : decode b_M_copy 180 = .ok (.iload 4, 2) := by decide +kernel
theorem d_M_copy_182 : decode b_M_copy 182 = .ok (.iadd, 1) := by decide +kernel
theorem d_M_copy_183 : decode b_M_copy 183 = .ok (.iload 6, 2) := by decide +kernel
theorem d_M_copy_185 : decode b_M_copy 185 = .ok (.iadd, 1) := by decide +kernel
theorem d_M_copy_186 : decode b_M_copy 186 = .ok (.aload_n 0, 1) := by decide +kernel
theorem d_M_copy_187 : decode b_M_copy 187 = .ok (.getfield 68, 3) := by decide +kernel
theorem d_M_copy_190 : decode b_M_copy 190 = .ok (.iload 6, 2) := by decide +kernel
theorem d_M_copy_192 : decode b_M_copy 192 = .ok (.laload, 1) := by decide +kernel
theorem d_M_copy_193 : decode b_M_copy 193 = .ok (.lastore, 1) := by decide +kernel
theorem d_M_copy_194 : decode b_M_copy 194 = .ok (.iinc 6 1, 3) := by decide +kernel
theorem d_M_copy_197 : decode b_M_copy 197 = .ok (.goto (-32), 3) := by decide +kernel
theorem d_M_copy_200 : decode b_M_copy 200 = .ok (.iload 5, 2) := by decide +kernel
theorem d_M_copy_202 : decode b_M_copy 202 = .ok (.ireturn, 1) := by decide +kernel
theorem d_M_lays_0 : decode b_M_lays 0 = .ok (.iload_n 1, 1) := by decide +kernel
theorem d_M_lays_1 : decode b_M_lays 1 = .ok (.invokestatic 317, 3) := by decide +kernel
theorem d_M_lays_4 : decode b_M_lays 4 = .ok (.ifCond .ne 10, 3) := by decide +kernel
theorem d_M_lays_7 : decode b_M_lays 7 = .ok (.aload_n 0, 1) := by decide +kernel
theorem d_M_lays_8 : decode b_M_lays 8 = .ok (.ldc 81, 2) := by decide +kernel
theorem d_M_lays_10 : decode b_M_lays 10 = .ok (.invokevirtual 94, 3) := by decide +kernel
theorem d_M_lays_13 : decode b_M_lays 13 = .ok (.ireturn, 1) := by decide +kernel
theorem d_M_lays_14 : decode b_M_lays 14 = .ok (.aload_n 0, 1) := by decide +kernel
theorem d_M_lays_15 : decode b_M_lays 15 = .ok (.getfield 59, 3) := by decide +kernel
theorem d_M_lays_18 : decode b_M_lays 18 = .ok (.iload_n 1, 1) := by decide +kernel
theorem d_M_lays_19 : decode b_M_lays 19 = .ok (.iaload, 1) := by decide +kernel
theorem d_M_lays_20 : decode b_M_lays 20 = .ok (.ifCond .ne 11, 3) := by decide +kernel
theorem d_M_lays_23 : decode b_M_lays 23 = .ok (.aload_n 0, 1) := by decide +kernel
theorem d_M_lays_24 : decode b_M_lays 24 = .ok (.ldc_w 321, 3) := by decide +kernel
theorem d_M_lays_27 : decode b_M_lays 27 = .ok (.invokevirtual 94, 3) := by decide +kernel
theorem d_M_lays_30 : decode b_M_lays 30 = .ok (.ireturn, 1) := by decide +kernel
theorem d_M_lays_31 : decode b_M_lays 31 = .ok (.iconst 0, 1) := by decide +kernel
theorem d_M_lays_32 : decode b_M_lays 32 = .ok (.istore_n 2, 1) := by decide +kernel
theorem d_M_lays_33 : decode b_M_lays 33 = .ok (.iconst 0, 1) := by decide +kernel
theorem d_M_lays_34 : decode b_M_lays 34 = .ok (.istore_n 3, 1) := by decide +kernel
theorem d_M_lays_35 : decode b_M_lays 35 = .ok (.iload_n 3, 1) := by decide +kernel
theorem d_M_lays_36 : decode b_M_lays 36 = .ok (.aload_n 0, 1) := by decide +kernel
theorem d_M_lays_37 : decode b_M_lays 37 = .ok (.getfield 62, 3) := by decide +kernel
theorem d_M_lays_40 : decode b_M_lays 40 = .ok (.iload_n 1, 1) := by decide +kernel
theorem d_M_lays_41 : decode b_M_lays 41 = .ok (.iaload, 1) := by decide +kernel
theorem d_M_lays_42 : decode b_M_lays 42 = .ok (.if_icmp .ge 59, 3) := by decide +kernel
theorem d_M_lays_45 : decode b_M_lays 45 = .ok (.iload_n 3, 1) := by decide +kernel
theorem d_M_lays_46 : decode b_M_lays 46 = .ok (.bipush 36, 2) := by decide +kernel
theorem d_M_lays_48 : decode b_M_lays 48 = .ok (.if_icmp .ge 53, 3) := by decide +kernel
theorem d_M_lays_51 : decode b_M_lays 51 = .ok (.aload_n 0, 1) := by decide +kernel
theorem d_M_lays_52 : decode b_M_lays 52 = .ok (.getfield 65, 3) := by decide +kernel
theorem d_M_lays_55 : decode b_M_lays 55 = .ok (.bipush 40, 2) := by decide +kernel
theorem d_M_lays_57 : decode b_M_lays 57 = .ok (.iload_n 1, 1) := by decide +kernel
theorem d_M_lays_58 : decode b_M_lays 58 = .ok (.imul, 1) := by decide +kernel
theorem d_M_lays_59 : decode b_M_lays 59 = .ok (.iload_n 3, 1) := by decide +kernel
theorem d_M_lays_60 : decode b_M_lays 60 = .ok (.iadd, 1) := by decide +kernel
theorem d_M_lays_61 : decode b_M_lays 61 = .ok (.laload, 1) := by decide +kernel
theorem d_M_lays_62 : decode b_M_lays 62 = .ok (.lstore 4, 2) := by decide +kernel
theorem d_M_lays_64 : decode b_M_lays 64 = .ok (.lload 4, 2) := by decide +kernel
theorem d_M_lays_66 : decode b_M_lays 66 = .ok (.lconst 0, 1) := by decide +kernel
theorem d_M_lays_67 : decode b_M_lays 67 = .ok (.lcmp, 1) := by decide +kernel
theorem d_M_lays_68 : decode b_M_lays 68 = .ok (.ifCond .lt 27, 3) := by decide +kernel
theorem d_M_lays_71 : decode b_M_lays 71 = .ok (.lload 4, 2) := by decide +kernel
theorem d_M_lays_73 : decode b_M_lays 73 = .ok (.ldc2_w 326, 3) := by decide +kernel
theorem d_M_lays_76 : decode b_M_lays 76 = .ok (.lcmp, 1) := by decide +kernel
theorem d_M_lays_77 : decode b_M_lays 77 = .ok (.ifCond .gt 18, 3) := by decide +kernel
theorem d_M_lays_80 : decode b_M_lays 80 = .ok (.aload_n 0, 1) := by decide +kernel
theorem d_M_lays_81 : decode b_M_lays 81 = .ok (.getfield 9, 3) := by decide +kernel
theorem d_M_lays_84 : decode b_M_lays 84 = .ok (.bipush 50, 2) := by decide +kernel
theorem d_M_lays_86 : decode b_M_lays 86 = .ok (.iload_n 3, 1) := by decide +kernel
theorem d_M_lays_87 : decode b_M_lays 87 = .ok (.iadd, 1) := by decide +kernel
theorem d_M_lays_88 : decode b_M_lays 88 = .ok (.lload 4, 2) := by decide +kernel
theorem d_M_lays_90 : decode b_M_lays 90 = .ok (.l2i, 1) := by decide +kernel
theorem d_M_lays_91 : decode b_M_lays 91 = .ok (.iastore, 1) := by decide +kernel
theorem d_M_lays_92 : decode b_M_lays 92 = .ok (.iinc 2 1, 3) := by decide +kernel
theorem d_M_lays_95 : decode b_M_lays 95 = .ok (.iinc 3 1, 3) := by decide +kernel
theorem d_M_lays_98 : decode b_M_lays 98 = .ok (.goto (-63), 3) := by decide +kernel
theorem d_M_lays_101 : decode b_M_lays 101 = .ok (.iload_n 2, 1) := by decide +kernel
theorem d_M_lays_102 : decode b_M_lays 102 = .ok (.ireturn, 1) := by decide +kernel
theorem d_M_book_0 : decode b_M_book 0 = .ok (.iload_n 1, 1) := by decide +kernel
theorem d_M_book_1 : decode b_M_book 1 = .ok (.invokestatic 317, 3) := by decide +kernel
theorem d_M_book_4 : decode b_M_book 4 = .ok (.ifCond .ne 10, 3) := by decide +kernel
theorem d_M_book_7 : decode b_M_book 7 = .ok (.aload_n 0, 1) := by decide +kernel
theorem d_M_book_8 : decode b_M_book 8 = .ok (.ldc 81, 2) := by decide +kernel
theorem d_M_book_10 : decode b_M_book 10 = .ok (.invokevirtual 94, 3) := by decide +kernel
theorem d_M_book_13 : decode b_M_book 13 = .ok (.ireturn, 1) := by decide +kernel
theorem d_M_book_14 : decode b_M_book 14 = .ok (.aload_n 0, 1) := by decide +kernel
theorem d_M_book_15 : decode b_M_book 15 = .ok (.getfield 59, 3) := by decide +kernel
theorem d_M_book_18 : decode b_M_book 18 = .ok (.iload_n 1, 1) := by decide +kernel
theorem d_M_book_19 : decode b_M_book 19 = .ok (.iaload, 1) := by decide +kernel
theorem d_M_book_20 : decode b_M_book 20 = .ok (.ifCond .ne 11, 3) := by decide +kernel
theorem d_M_book_23 : decode b_M_book 23 = .ok (.aload_n 0, 1) := by decide +kernel
theorem d_M_book_24 : decode b_M_book 24 = .ok (.ldc_w 321, 3) := by decide +kernel
theorem d_M_book_27 : decode b_M_book 27 = .ok (.invokevirtual 94, 3) := by decide +kernel
theorem d_M_book_30 : decode b_M_book 30 = .ok (.ireturn, 1) := by decide +kernel
theorem d_M_book_31 : decode b_M_book 31 = .ok (.aload_n 0, 1) := by decide +kernel
theorem d_M_book_32 : decode b_M_book 32 = .ok (.getfield 62, 3) := by decide +kernel
theorem d_M_book_35 : decode b_M_book 35 = .ok (.iload_n 1, 1) := by decide +kernel
theorem d_M_book_36 : decode b_M_book 36 = .ok (.iaload, 1) := by decide +kernel
theorem d_M_book_37 : decode b_M_book 37 = .ok (.aload_n 0, 1) := by decide +kernel
theorem d_M_book_38 : decode b_M_book 38 = .ok (.getfield 9, 3) := by decide +kernel
theorem d_M_book_41 : decode b_M_book 41 = .ok (.bipush 10, 2) := by decide +kernel
theorem d_M_book_43 : decode b_M_book 43 = .ok (.iaload, 1) := by decide +kernel
theorem d_M_book_44 : decode b_M_book 44 = .ok (.invokestatic 129, 3) := by decide +kernel
theorem d_M_book_47 : decode b_M_book 47 = .ok (.istore_n 2, 1) := by decide +kernel
theorem d_M_book_48 : decode b_M_book 48 = .ok (.iconst 0, 1) := by decide +kernel
theorem d_M_book_49 : decode b_M_book 49 = .ok (.istore_n 3, 1) := by decide +kernel
theorem d_M_book_50 : decode b_M_book 50 = .ok (.iload_n 3, 1) := by decide +kernel
theorem d_M_book_51 : decode b_M_book 51 = .ok (.iload_n 2, 1) := by decide +kernel
theorem d_M_book_52 : decode b_M_book 52 = .ok (.if_icmp .ge 36, 3) := by decide +kernel
theorem d_M_book_55 : decode b_M_book 55 = .ok (.aload_n 0, 1) := by decide +kernel
theorem d_M_book_56 : decode b_M_book 56 = .ok (.getfield 65, 3) := by decide +kernel
theorem d_M_book_59 : decode b_M_book 59 = .ok (.bipush 40, 2) := by decide +kernel
theorem d_M_book_61 : decode b_M_book 61 = .ok (.iload_n 1, 1) := by decide +kernel
theorem d_M_book_62 : decode b_M_book 62 = .ok (.imul, 1) := by decide +kernel
theorem d_M_book_63 : decode b_M_book 63 = .ok (.iload_n 3, 1) := by decide +kernel
theorem d_M_book_64 : decode b_M_book 64 = .ok (.iadd, 1) := by decide +kernel
theorem d_M_book_65 : decode b_M_book 65 = .ok (.aload_n 0, 1) := by decide +kernel
theorem d_M_book_66 : decode b_M_book 66 = .ok (.iload_n 3, 1) := by decide +kernel
theorem d_M_book_67 : decode b_M_book 67 = .ok (.iconst 3, 1) := by decide +kernel
theorem d_M_book_68 : decode b_M_book 68 = .ok (.invokevirtual 103, 3) := by decide +kernel
theorem d_M_book_71 : decode b_M_book 71 = .ok (.i2l, 1) := by decide +kernel
theorem d_M_book_72 : decode b_M_book 72 = .ok (.aload_n 0, 1) := by decide +kernel
theorem d_M_book_73 : decode b_M_book 73 = .ok (.getfield 59, 3) := by decide +kernel
theorem d_M_book_76 : decode b_M_book 76 = .ok (.iload_n 1, 1) := by decide +kernel
theorem d_M_book_77 : decode b_M_book 77 = .ok (.iaload, 1) := by decide +kernel
theorem d_M_book_78 : decode b_M_book 78 = .ok (.invokestatic 322, 3) := by decide +kernel
theorem d_M_book_81 : decode b_M_book 81 = .ok (.lastore, 1) := by decide +kernel
theorem d_M_book_82 : decode b_M_book 82 = .ok (.iinc 3 1, 3) := by decide +kernel
theorem d_M_book_85 : decode b_M_book 85 = .ok (.goto (-35), 3) := by decide +kernel
theorem d_M_book_88 : decode b_M_book 88 = .ok (.iload_n 2, 1) := by decide +kernel
theorem d_M_book_89 : decode b_M_book 89 = .ok (.ireturn, 1) := by decide +kernel
theorem d_M_read_0 : decode b_M_read 0 = .ok (.iload_n 1, 1) := by decide +kernel
theorem d_M_read_1 : decode b_M_read 1 = .ok (.invokestatic 317, 3) := by decide +kernel
theorem d_M_read_4 : decode b_M_read 4 = .ok (.ifCond .ne 10, 3) := by decide +kernel
theorem d_M_read_7 : decode b_M_read 7 = .ok (.aload_n 0, 1) := by decide +kernel
theorem d_M_read_8 : decode b_M_read 8 = .ok (.ldc 81, 2) := by decide +kernel
theorem d_M_read_10 : decode b_M_read 10 = .ok (.invokevirtual 94, 3) := by decide +kernel
theorem d_M_read_13 : decode b_M_read 13 = .ok (.ireturn, 1) := by decide +kernel
theorem d_M_read_14 : decode b_M_read 14 = .ok (.aload_n 0, 1) := by decide +kernel
theorem d_M_read_15 : decode b_M_read 15 = .ok (.getfield 59, 3) := by decide +kernel
theorem d_M_read_18 : decode b_M_read 18 = .ok (.iload_n 1, 1) := by decide +kernel
theorem d_M_read_19 : decode b_M_read 19 = .ok (.iaload, 1) := by decide +kernel
theorem d_M_read_20 : decode b_M_read 20 = .ok (.ifCond .ne 11, 3) := by decide +kernel
theorem d_M_read_23 : decode b_M_read 23 = .ok (.aload_n 0, 1) := by decide +kernel
theorem d_M_read_24 : decode b_M_read 24 = .ok (.ldc_w 321, 3) := by decide +kernel
theorem d_M_read_27 : decode b_M_read 27 = .ok (.invokevirtual 94, 3) := by decide +kernel
theorem d_M_read_30 : decode b_M_read 30 = .ok (.ireturn, 1) := by decide +kernel
theorem d_M_read_31 : decode b_M_read 31 = .ok (.aload_n 0, 1) := by decide +kernel
theorem d_M_read_32 : decode b_M_read 32 = .ok (.bipush 40, 2) := by decide +kernel
theorem d_M_read_34 : decode b_M_read 34 = .ok (.invokevirtual 209, 3) := by decide +kernel
theorem d_M_read_37 : decode b_M_read 37 = .ok (.ifCond .eq 10, 3) := by decide +kernel
theorem d_M_read_40 : decode b_M_read 40 = .ok (.aload_n 0, 1) := by decide +kernel
theorem d_M_read_41 : decode b_M_read 41 = .ok (.ldc 123, 2) := by decide +kernel
theorem d_M_read_43 : decode b_M_read 43 = .ok (.invokevirtual 94, 3) := by decide +kernel
theorem d_M_read_46 : decode b_M_read 46 = .ok (.ireturn, 1) := by decide +kernel
theorem d_M_read_47 : decode b_M_read 47 = .ok (.aload_n 0, 1) := by decide +kernel
theorem d_M_read_48 : decode b_M_read 48 = .ok (.getfield 9, 3) := by decide +kernel
theorem d_M_read_51 : decode b_M_read 51 = .ok (.aload_n 0, 1) := by decide +kernel
theorem d_M_read_52 : decode b_M_read 52 = .ok (.getfield 16, 3) := by decide +kernel
theorem d_M_read_55 : decode b_M_read 55 = .ok (.invokestatic 82, 3) := by decide +kernel
theorem d_M_read_58 : decode b_M_read 58 = .ok (.iconst 0, 1) := by decide +kernel
theorem d_M_read_59 : decode b_M_read 59 = .ok (.istore_n 2, 1) := by decide +kernel
theorem d_M_read_60 : decode b_M_read 60 = .ok (.iconst 0, 1) := by decide +kernel
theorem d_M_read_61 : decode b_M_read 61 = .ok (.istore_n 3, 1) := by decide +kernel
theorem d_M_read_62 : decode b_M_read 62 = .ok (.iload_n 3, 1) := by decide +kernel
theorem d_M_read_63 : decode b_M_read 63 = .ok (.aload_n 0, 1) := by decide +kernel
theorem d_M_read_64 : decode b_M_read 64 = .ok (.getfield 62, 3) := by decide +kernel
theorem d_M_read_67 : decode b_M_read 67 = .ok (.iload_n 1, 1) := by decide +kernel
theorem d_M_read_68 : decode b_M_read 68 = .ok (.iaload, 1) := by decide +kernel
theorem d_M_read_69 : decode b_M_read 69 = .ok (.if_icmp .ge 49, 3) := by decide +kernel
theorem d_M_read_72 : decode b_M_read 72 = .ok (.iload_n 2, 1) := by decide +kernel
theorem d_M_read_73 : decode b_M_read 73 = .ok (.ifCond .ne 45, 3) := by decide +kernel
theorem d_M_read_76 : decode b_M_read 76 = .ok (.aload_n 0, 1) := by decide +kernel
theorem d_M_read_77 : decode b_M_read 77 = .ok (.getfield 65, 3) := by decide +kernel
theorem d_M_read_80 : decode b_M_read 80 = .ok (.bipush 40, 2) := by decide +kernel
theorem d_M_read_82 : decode b_M_read 82 = .ok (.iload_n 1, 1) := by decide +kernel
theorem d_M_read_83 : decode b_M_read 83 = .ok (.imul, 1) := by decide +kernel
theorem d_M_read_84 : decode b_M_read 84 = .ok (.iload_n 3, 1) := by decide +kernel
theorem d_M_read_85 : decode b_M_read 85 = .ok (.iadd, 1) := by decide +kernel
theorem d_M_read_86 : decode b_M_read 86 = .ok (.laload, 1) := by decide +kernel
theorem d_M_read_87 : decode b_M_read 87 = .ok (.aload_n 0, 1) := by decide +kernel
theorem d_M_read_88 : decode b_M_read 88 = .ok (.getfield 9, 3) := by decide +kernel
theorem d_M_read_91 : decode b_M_read 91 = .ok (.iconst 2, 1) := by decide +kernel
theorem d_M_read_92 : decode b_M_read 92 = .ok (.iaload, 1) := by decide +kernel
theorem d_M_read_93 : decode b_M_read 93 = .ok (.i2l, 1) := by decide +kernel
theorem d_M_read_94 : decode b_M_read 94 = .ok (.lcmp, 1) := by decide +kernel
theorem d_M_read_95 : decode b_M_read 95 = .ok (.ifCond .ne 7, 3) := by decide +kernel
theorem d_M_read_98 : decode b_M_read 98 = .ok (.iconst 0, 1) := by decide +kernel
theorem d_M_read_99 : decode b_M_read 99 = .ok (.goto 6, 3) := by decide +kernel
theorem d_M_read_102 : decode b_M_read 102 = .ok (.iconst 1, 1) := by decide +kernel
theorem d_M_read_103 : decode b_M_read 103 = .ok (.iload_n 3, 1) := by decide +kernel
theorem d_M_read_104 : decode b_M_read 104 = .ok (.iadd, 1) := by decide +kernel
theorem d_M_read_105 : decode b_M_read 105 = .ok (.istore_n 2, 1) := by decide +kernel
theorem d_M_read_106 : decode b_M_read 106 = .ok (.aload_n 0, 1) := by decide +kernel
theorem d_M_read_107 : decode b_M_read 107 = .ok (.iconst 1, 1) := by decide +kernel
theorem d_M_read_108 : decode b_M_read 108 = .ok (.invokevirtual 212, 3) := by decide +kernel
theorem d_M_read_111 : decode b_M_read 111 = .ok (.pop, 1) := by decide +kernel
theorem d_M_read_112 : decode b_M_read 112 = .ok (.iinc 3 1, 3) := by decide +kernel
theorem d_M_read_115 : decode b_M_read 115 = .ok (.goto (-53), 3) := by decide +kernel
theorem d_M_read_118 : decode b_M_read 118 = .ok (.aload_n 0, 1) := by decide +kernel
theorem d_M_read_119 : decode b_M_read 119 = .ok (.iload_n 2, 1) := by decide +kernel
theorem d_M_read_120 : decode b_M_read 120 = .ok (.invokevirtual 220, 3) := by decide +kernel
theorem d_M_read_123 : decode b_M_read 123 = .ok (.ireturn, 1) := by decide +kernel
theorem d_M_image_0 : decode b_M_image 0 = .ok (.aload_n 0, 1) := by decide +kernel
theorem d_M_image_1 : decode b_M_image 1 = .ok (.getfield 9, 3) := by decide +kernel
theorem d_M_image_4 : decode b_M_image 4 = .ok (.aload_n 0, 1) := by decide +kernel
theorem d_M_image_5 : decode b_M_image 5 = .ok (.getfield 13, 3) := by decide +kernel
theorem d_M_image_8 : decode b_M_image 8 = .ok (.invokestatic 82, 3) := by decide +kernel
theorem d_M_image_11 : decode b_M_image 11 = .ok (.aload_n 0, 1) := by decide +kernel
theorem d_M_image_12 : decode b_M_image 12 = .ok (.iconst 1, 1) := by decide +kernel
theorem d_M_image_13 : decode b_M_image 13 = .ok (.putfield 328, 3) := by decide +kernel
theorem d_M_image_16 : decode b_M_image 16 = .ok (.iconst 1, 1) := by decide +kernel
theorem d_M_image_17 : decode b_M_image 17 = .ok (.ireturn, 1) := by decide +kernel
theorem d_M_undo_0 : decode b_M_undo 0 = .ok (.aload_n 0, 1) := by decide +kernel
theorem d_M_undo_1 : decode b_M_undo 1 = .ok (.getfield 328, 3) := by decide +kernel
theorem d_M_undo_4 : decode b_M_undo 4 = .ok (.ifCond .ne 10, 3) := by decide +kernel
theorem d_M_undo_7 : decode b_M_undo 7 = .ok (.aload_n 0, 1) := by decide +kernel
theorem d_M_undo_8 : decode b_M_undo 8 = .ok (.ldc 168, 2) := by decide +kernel
theorem d_M_undo_10 : decode b_M_undo 10 = .ok (.invokevirtual 94, 3) := by decide +kernel
theorem d_M_undo_13 : decode b_M_undo 13 = .ok (.ireturn, 1) := by decide +kernel
theorem d_M_undo_14 : decode b_M_undo 14 = .ok (.aload_n 0, 1) := by decide +kernel
theorem d_M_undo_15 : decode b_M_undo 15 = .ok (.getfield 13, 3) := by decide +kernel
theorem d_M_undo_18 : decode b_M_undo 18 = .ok (.aload_n 0, 1) := by decide +kernel
theorem d_M_undo_19 : decode b_M_undo 19 = .ok (.getfield 9, 3) := by decide +kernel
theorem d_M_undo_22 : decode b_M_undo 22 = .ok (.invokestatic 82, 3) := by decide +kernel
theorem d_M_undo_25 : decode b_M_undo 25 = .ok (.aload_n 0, 1) := by decide +kernel
theorem d_M_undo_26 : decode b_M_undo 26 = .ok (.getfield 9, 3) := by decide +kernel
theorem d_M_undo_29 : decode b_M_undo 29 = .ok (.bipush 10, 2) := by decide +kernel
theorem d_M_undo_31 : decode b_M_undo 31 = .ok (.iaload, 1) := by decide +kernel
theorem d_M_undo_32 : decode b_M_undo 32 = .ok (.ireturn, 1) := by decide +kernel
theorem d_M_tear_0 : decode b_M_tear 0 = .ok (.aload_n 0, 1) := by decide +kernel
theorem d_M_tear_1 : decode b_M_tear 1 = .ok (.getfield 328, 3) := by decide +kernel
theorem d_M_tear_4 : decode b_M_tear 4 = .ok (.ifCond .eq 7, 3) := by decide +kernel
theorem d_M_tear_7 : decode b_M_tear 7 = .ok (.iconst 1, 1) := by decide +kernel
theorem d_M_tear_8 : decode b_M_tear 8 = .ok (.goto 4, 3) := by decide +kernel
theorem d_M_tear_11 : decode b_M_tear 11 = .ok (.iconst 0, 1) := by decide +kernel
theorem d_M_tear_12 : decode b_M_tear 12 = .ok (.istore_n 1, 1) := by decide +kernel
theorem d_M_tear_13 : decode b_M_tear 13 = .ok (.aload_n 0, 1) := by decide +kernel
theorem d_M_tear_14 : decode b_M_tear 14 = .ok (.iconst 0, 1) := by decide +kernel
theorem d_M_tear_15 : decode b_M_tear 15 = .ok (.putfield 328, 3) := by decide +kernel
theorem d_M_tear_18 : decode b_M_tear 18 = .ok (.iload_n 1, 1) := by decide +kernel
theorem d_M_tear_19 : decode b_M_tear 19 = .ok (.ireturn, 1) := by decide +kernel
theorem d_M_count_0 : decode b_M_count 0 = .ok (.iconst 0, 1) := by decide +kernel
theorem d_M_count_1 : decode b_M_count 1 = .ok (.istore_n 2, 1) := by decide +kernel
theorem d_M_count_2 : decode b_M_count 2 = .ok (.iload_n 1, 1) := by decide +kernel
theorem d_M_count_3 : decode b_M_count 3 = .ok (.tableswitch 128 0 5 #[37, 45, 75, 108, 113, 121], 37) := by decide +kernel
theorem d_M_count_40 : decode b_M_count 40 = .ok (.aload_n 0, 1) := by decide +kernel
theorem d_M_count_41 : decode b_M_count 41 = .ok (.getfield 9, 3) := by decide +kernel
theorem d_M_count_44 : decode b_M_count 44 = .ok (.bipush 10, 2) := by decide +kernel
theorem d_M_count_46 : decode b_M_count 46 = .ok (.iaload, 1) := by decide +kernel
theorem d_M_count_47 : decode b_M_count 47 = .ok (.ireturn, 1) := by decide +kernel
theorem d_M_count_48 : decode b_M_count 48 = .ok (.iconst 0, 1) := by decide +kernel
theorem d_M_count_49 : decode b_M_count 49 = .ok (.istore_n 3, 1) := by decide +kernel
theorem d_M_count_50 : decode b_M_count 50 = .ok (.iload_n 3, 1) := by decide +kernel
theorem d_M_count_51 : decode b_M_count 51 = .ok (.aload_n 0, 1) := by decide +kernel
theorem d_M_count_52 : decode b_M_count 52 = .ok (.getfield 9, 3) := by decide +kernel
theorem d_M_count_55 : decode b_M_count 55 = .ok (.bipush 10, 2) := by decide +kernel
theorem d_M_count_57 : decode b_M_count 57 = .ok (.iaload, 1) := by decide +kernel
theorem d_M_count_58 : decode b_M_count 58 = .ok (.if_icmp .ge 18, 3) := by decide +kernel
theorem d_M_count_61 : decode b_M_count 61 = .ok (.iload_n 2, 1) := by decide +kernel
theorem d_M_count_62 : decode b_M_count 62 = .ok (.aload_n 0, 1) := by decide +kernel
theorem d_M_count_63 : decode b_M_count 63 = .ok (.iload_n 3, 1) := by decide +kernel
theorem d_M_count_64 : decode b_M_count 64 = .ok (.iconst 4, 1) := by decide +kernel
theorem d_M_count_65 : decode b_M_count 65 = .ok (.invokevirtual 103, 3) := by decide +kernel
theorem d_M_count_68 : decode b_M_count 68 = .ok (.iadd, 1) := by decide +kernel
theorem d_M_count_69 : decode b_M_count 69 = .ok (.istore_n 2, 1) := by decide +kernel
theorem d_M_count_70 : decode b_M_count 70 = .ok (.iinc 3 1, 3) := by decide +kernel
theorem d_M_count_73 : decode b_M_count 73 = .ok (.goto (-23), 3) := by decide +kernel
theorem d_M_count_76 : decode b_M_count 76 = .ok (.iload_n 2, 1) := by decide +kernel
theorem d_M_count_77 : decode b_M_count 77 = .ok (.ireturn, 1) := by decide +kernel
theorem d_M_count_78 : decode b_M_count 78 = .ok (.iconst 0, 1) := by decide +kernel
theorem d_M_count_79 : decode b_M_count 79 = .ok (.istore_n 3, 1) := by decide +kernel
theorem d_M_count_80 : decode b_M_count 80 = .ok (.iload_n 3, 1) := by decide +kernel
theorem d_M_count_81 : decode b_M_count 81 = .ok (.bipush 36, 2) := by decide +kernel
theorem d_M_count_83 : decode b_M_count 83 = .ok (.if_icmp .ge 24, 3) := by decide +kernel
theorem d_M_count_86 : decode b_M_count 86 = .ok (.iload_n 2, 1) := by decide +kernel
theorem d_M_count_87 : decode b_M_count 87 = .ok (.aload_n 0, 1) := by decide +kernel
theorem d_M_count_88 : decode b_M_count 88 = .ok (.getfield 9, 3) := by decide +kernel
theorem d_M_count_91 : decode b_M_count 91 = .ok (.bipush 122, 2) := by decide +kernel
theorem d_M_count_93 : decode b_M_count 93 = .ok (.iload_n 3, 1) := by decide +kernel
theorem d_M_count_94 : decode b_M_count 94 = .ok (.iadd, 1) := by decide +kernel
theorem d_M_count_95 : decode b_M_count 95 = .ok (.iaload, 1) := by decide +kernel
theorem d_M_count_96 : decode b_M_count 96 = .ok (.invokestatic 192, 3) := by decide +kernel
theorem d_M_count_99 : decode b_M_count 99 = .ok (.iadd, 1) := by decide +kernel
theorem d_M_count_100 : decode b_M_count 100 = .ok (.istore_n 2, 1) := by decide +kernel
theorem d_M_count_101 : decode b_M_count 101 = .ok (.iinc 3 1, 3) := by decide +kernel
theorem d_M_count_104 : decode b_M_count 104 = .ok (.goto (-24), 3) := by decide +kernel
theorem d_M_count_107 : decode b_M_count 107 = .ok (.iload_n 2, 1) := by decide +kernel
theorem d_M_count_108 : decode b_M_count 108 = .ok (.iconst 2, 1) := by decide +kernel
theorem d_M_count_109 : decode b_M_count 109 = .ok (.idiv, 1) := by decide +kernel
theorem d_M_count_110 : decode b_M_count 110 = .ok (.ireturn, 1) := by decide +kernel
theorem d_M_count_111 : decode b_M_count 111 = .ok (.aload_n 0, 1) := by decide +kernel
theorem d_M_count_112 : decode b_M_count 112 = .ok (.getfield 223, 3) := by decide +kernel
theorem d_M_count_115 : decode b_M_count 115 = .ok (.ireturn, 1) := by decide +kernel
theorem d_M_count_116 : decode b_M_count 116 = .ok (.aload_n 0, 1) := by decide +kernel
theorem d_M_count_117 : decode b_M_count 117 = .ok (.getfield 9, 3) := by decide +kernel
theorem d_M_count_120 : decode b_M_count 120 = .ok (.bipush 11, 2) := by decide +kernel
theorem d_M_count_122 : decode b_M_count 122 = .ok (.iaload, 1) := by decide +kernel
theorem d_M_count_123 : decode b_M_count 123 = .ok (.ireturn, 1) := by decide +kernel
theorem d_M_count_124 : decode b_M_count 124 = .ok (.aload_n 0, 1) := by decide +kernel
theorem d_M_count_125 : decode b_M_count 125 = .ok (.getfield 9, 3) := by decide +kernel
theorem d_M_count_128 : decode b_M_count 128 = .ok (.iconst 0, 1) := by decide +kernel
theorem d_M_count_129 : decode b_M_count 129 = .ok (.iaload, 1) := by decide +kernel
theorem d_M_count_130 : decode b_M_count 130 = .ok (.ireturn, 1) := by decide +kernel
theorem d_M_count_131 : decode b_M_count 131 = .ok (.aload_n 0, 1) := by decide +kernel
theorem d_M_count_132 : decode b_M_count 132 = .ok (.ldc 81, 2) := by decide +kernel
theorem d_M_count_134 : decode b_M_count 134 = .ok (.invokevirtual 94, 3) := by decide +kernel
theorem d_M_count_137 : decode b_M_count 137 = .ok (.ireturn, 1) := by decide +kernel
theorem d_M_status_0 : decode b_M_status 0 = .ok (.iload_n 1, 1) := by decide +kernel
theorem d_M_status_1 : decode b_M_status 1 = .ok (.iconst (-1), 1) := by decide +kernel
theorem d_M_status_2 : decode b_M_status 2 = .ok (.bipush 6, 2) := by decide +kernel
theorem d_M_status_4 : decode b_M_status 4 = .ok (.invokestatic 86, 3) := by decide +kernel
theorem d_M_status_7 : decode b_M_status 7 = .ok (.ifCond .eq 14, 3) := by decide +kernel
theorem d_M_status_10 : decode b_M_status 10 = .ok (.aload_n 0, 1) := by decide +kernel
theorem d_M_status_11 : decode b_M_status 11 = .ok (.getfield 19, 3) := by decide +kernel
theorem d_M_status_14 : decode b_M_status 14 = .ok (.iload_n 1, 1) := by decide +kernel
theorem d_M_status_15 : decode b_M_status 15 = .ok (.iconst 1, 1) := by decide +kernel
theorem d_M_status_16 : decode b_M_status 16 = .ok (.iadd, 1) := by decide +kernel
theorem d_M_status_17 : decode b_M_status 17 = .ok (.iaload, 1) := by decide +kernel
theorem d_M_status_18 : decode b_M_status 18 = .ok (.goto 9, 3) := by decide +kernel
theorem d_M_status_21 : decode b_M_status 21 = .ok (.aload_n 0, 1) := by decide +kernel
theorem d_M_status_22 : decode b_M_status 22 = .ok (.ldc 81, 2) := by decide +kernel
theorem d_M_status_24 : decode b_M_status 24 = .ok (.invokevirtual 94, 3) := by decide +kernel
theorem d_M_status_27 : decode b_M_status 27 = .ok (.ireturn, 1) := by decide +kernel
theorem d_law_0 : decode code 0 = .ok (.new 7, 3) := by decide +kernel
theorem d_law_3 : decode code 3 = .ok (.dup, 1) := by decide +kernel
theorem d_law_4 : decode code 4 = .ok (.invokespecial 9, 3) := by decide +kernel
theorem d_law_7 : decode code 7 = .ok (.astore_n 1, 1) := by decide +kernel
theorem d_law_8 : decode code 8 = .ok (.new 10, 3) := by decide +kernel
theorem d_law_11 : decode code 11 = .ok (.dup, 1) := by decide +kernel
theorem d_law_12 : decode code 12 = .ok (.invokespecial 12, 3) := by decide +kernel
theorem d_law_15 : decode code 15 = .ok (.astore_n 2, 1) := by decide +kernel
theorem d_law_16 : decode code 16 = .ok (.iconst 0, 1) := by decide +kernel
theorem d_law_17 : decode code 17 = .ok (.istore_n 3, 1) := by decide +kernel
theorem d_law_18 : decode code 18 = .ok (.iload_n 3, 1) := by decide +kernel
theorem d_law_19 : decode code 19 = .ok (.aload_n 0, 1) := by decide +kernel
theorem d_law_20 : decode code 20 = .ok (.arraylength, 1) := by decide +kernel
theorem d_law_21 : decode code 21 = .ok (.bipush 6, 2) := by decide +kernel
theorem d_law_23 : decode code 23 = .ok (.isub, 1) := by decide +kernel
theorem d_law_24 : decode code 24 = .ok (.if_icmp .gt 1601, 3) := by decide +kernel
theorem d_law_27 : decode code 27 = .ok (.aload_n 0, 1) := by decide +kernel
theorem d_law_28 : decode code 28 = .ok (.iload_n 3, 1) := by decide +kernel
theorem d_law_29 : decode code 29 = .ok (.iaload, 1) := by decide +kernel
theorem d_law_30 : decode code 30 = .ok (.bipush 63, 2) := by decide +kernel
theorem d_law_32 : decode code 32 = .ok (.iand, 1) := by decide +kernel
theorem d_law_33 : decode code 33 = .ok (.tableswitch 1586 0 47 #[207, 250, 283, 306, 365, 408, 441, 474, 507, 530, 553, 576, 619, 682, 725, 748, 761, 785, 798, 821, 834, 868, 891, 914, 957, 980, 1003, 1042, 1065, 1088, 1111, 1124, 1137, 1170, 1193, 1226, 1239, 1252, 1295, 1369, 1432, 1455, 1478, 1501, 1514, 1527, 1540, 1563], 207) := by decide +kernel
theorem d_law_240 : decode code 240 = .ok (.aload_n 1, 1) := by decide +kernel
theorem d_law_241 : decode code 241 = .ok (.aload_n 0, 1) := by decide +kernel
theorem d_law_242 : decode code 242 = .ok (.iload_n 3, 1) := by decide +kernel
theorem d_law_243 : decode code 243 = .ok (.iconst 1, 1) := by decide +kernel
theorem d_law_244 : decode code 244 = .ok (.iadd, 1) := by decide +kernel
theorem d_law_245 : decode code 245 = .ok (.iaload, 1) := by decide +kernel
theorem d_law_246 : decode code 246 = .ok (.aload_n 0, 1) := by decide +kernel
theorem d_law_247 : decode code 247 = .ok (.iload_n 3, 1) := by decide +kernel
theorem d_law_248 : decode code 248 = .ok (.iconst 2, 1) := by decide +kernel
theorem d_law_249 : decode code 249 = .ok (.iadd, 1) := by decide +kernel
theorem d_law_250 : decode code 250 = .ok (.iaload, 1) := by decide +kernel
theorem d_law_251 : decode code 251 = .ok (.aload_n 0, 1) := by decide +kernel
theorem d_law_252 : decode code 252 = .ok (.iload_n 3, 1) := by decide +kernel
theorem d_law_253 : decode code 253 = .ok (.iconst 3, 1) := by decide +kernel
theorem d_law_254 : decode code 254 = .ok (.iadd, 1) := by decide +kernel
theorem d_law_255 : decode code 255 = .ok (.iaload, 1) := by decide +kernel
theorem d_law_256 : decode code 256 = .ok (.invokevirtual 13, 3) := by decide +kernel
theorem d_law_259 : decode code 259 = .ok (.aload_n 2, 1) := by decide +kernel
theorem d_law_260 : decode code 260 = .ok (.aload_n 0, 1) := by decide +kernel
theorem d_law_261 : decode code 261 = .ok (.iload_n 3, 1) := by decide +kernel
theorem d_law_262 : decode code 262 = .ok (.iconst 1, 1) := by decide +kernel
theorem d_law_263 : decode code 263 = .ok (.iadd, 1) := by decide +kernel
theorem d_law_264 : decode code 264 = .ok (.iaload, 1) := by decide +kernel
theorem d_law_265 : decode code 265 = .ok (.aload_n 0, 1) := by decide +kernel
theorem d_law_266 : decode code 266 = .ok (.iload_n 3, 1) := by decide +kernel
theorem d_law_267 : decode code 267 = .ok (.iconst 2, 1) := by decide +kernel
theorem d_law_268 : decode code 268 = .ok (.iadd, 1) := by decide +kernel
theorem d_law_269 : decode code 269 = .ok (.iaload, 1) := by decide +kernel
theorem d_law_270 : decode code 270 = .ok (.aload_n 0, 1) := by decide +kernel
theorem d_law_271 : decode code 271 = .ok (.iload_n 3, 1) := by decide +kernel
theorem d_law_272 : decode code 272 = .ok (.iconst 3, 1) := by decide +kernel
theorem d_law_273 : decode code 273 = .ok (.iadd, 1) := by decide +kernel
theorem d_law_274 : decode code 274 = .ok (.iaload, 1) := by decide +kernel
theorem d_law_275 : decode code 275 = .ok (.invokevirtual 17, 3) := by decide +kernel
theorem d_law_278 : decode code 278 = .ok (.if_icmp .eq 1341, 3) := by decide +kernel
theorem d_law_281 : decode code 281 = .ok (.iconst 0, 1) := by decide +kernel
theorem d_law_282 : decode code 282 = .ok (.ireturn, 1) := by decide +kernel
theorem d_law_283 : decode code 283 = .ok (.aload_n 1, 1) := by decide +kernel
theorem d_law_284 : decode code 284 = .ok (.aload_n 0, 1) := by decide +kernel
theorem d_law_285 : decode code 285 = .ok (.iload_n 3, 1) := by decide +kernel
theorem d_law_286 : decode code 286 = .ok (.iconst 1, 1) := by decide +kernel
theorem d_law_287 : decode code 287 = .ok (.iadd, 1) := by decide +kernel
theorem d_law_288 : decode code 288 = .ok (.iaload, 1) := by decide +kernel
theorem d_law_289 : decode code 289 = .ok (.aload_n 0, 1) := by decide +kernel
theorem d_law_290 : decode code 290 = .ok (.iload_n 3, 1) := by decide +kernel
theorem d_law_291 : decode code 291 = .ok (.iconst 2, 1) := by decide +kernel
theorem d_law_292 : decode code 292 = .ok (.iadd, 1) := by decide +kernel
theorem d_law_293 : decode code 293 = .ok (.iaload, 1) := by decide +kernel
theorem d_law_294 : decode code 294 = .ok (.invokevirtual 18, 3) := by decide +kernel
theorem d_law_297 : decode code 297 = .ok (.aload_n 2, 1) := by decide +kernel
theorem d_law_298 : decode code 298 = .ok (.aload_n 0, 1) := by decide +kernel
theorem d_law_299 : decode code 299 = .ok (.iload_n 3, 1) := by decide +kernel
theorem d_law_300 : decode code 300 = .ok (.iconst 1, 1) := by decide +kernel
theorem d_law_301 : decode code 301 = .ok (.iadd, 1) := by decide +kernel
theorem d_law_302 : decode code 302 = .ok (.iaload, 1) := by decide +kernel
theorem d_law_303 : decode code 303 = .ok (.aload_n 0, 1) := by decide +kernel
theorem d_law_304 : decode code 304 = .ok (.iload_n 3, 1) := by decide +kernel
theorem d_law_305 : decode code 305 = .ok (.iconst 2, 1) := by decide +kernel
theorem d_law_306 : decode code 306 = .ok (.iadd, 1) := by decide +kernel
theorem d_law_307 : decode code 307 = .ok (.iaload, 1) := by decide +kernel
theorem d_law_308 : decode code 308 = .ok (.invokevirtual 22, 3) := by decide +kernel
theorem d_law_311 : decode code 311 = .ok (.if_icmp .eq 1308, 3) := by decide +kernel
theorem d_law_314 : decode code 314 = .ok (.iconst 0, 1) := by decide +kernel
theorem d_law_315 : decode code 315 = .ok (.ireturn, 1) := by decide +kernel
theorem d_law_316 : decode code 316 = .ok (.aload_n 1, 1) := by decide +kernel
theorem d_law_317 : decode code 317 = .ok (.aload_n 0, 1) := by decide +kernel
theorem d_law_318 : decode code 318 = .ok (.iload_n 3, 1) := by decide +kernel
theorem d_law_319 : decode code 319 = .ok (.iconst 1, 1) := by decide +kernel
theorem d_law_320 : decode code 320 = .ok (.iadd, 1) := by decide +kernel
theorem d_law_321 : decode code 321 = .ok (.iaload, 1) := by decide +kernel
theorem d_law_322 : decode code 322 = .ok (.invokevirtual 23, 3) := by decide +kernel
theorem d_law_325 : decode code 325 = .ok (.aload_n 2, 1) := by decide +kernel
theorem d_law_326 : decode code 326 = .ok (.aload_n 0, 1) := by decide +kernel
theorem d_law_327 : decode code 327 = .ok (.iload_n 3, 1) := by decide +kernel
theorem d_law_328 : decode code 328 = .ok (.iconst 1, 1) := by decide +kernel
theorem d_law_329 : decode code 329 = .ok (.iadd, 1) := by decide +kernel
theorem d_law_330 : decode code 330 = .ok (.iaload, 1) := by decide +kernel
theorem d_law_331 : decode code 331 = .ok (.invokevirtual 27, 3) := by decide +kernel
theorem d_law_334 : decode code 334 = .ok (.if_icmp .eq 1285, 3) := by decide +kernel
theorem d_law_337 : decode code 337 = .ok (.iconst 0, 1) := by decide +kernel
theorem d_law_338 : decode code 338 = .ok (.ireturn, 1) := by decide +kernel
theorem d_law_339 : decode code 339 = .ok (.aload_n 1, 1) := by decide +kernel
theorem d_law_340 : decode code 340 = .ok (.aload_n 0, 1) := by decide +kernel
theorem d_law_341 : decode code 341 = .ok (.iload_n 3, 1) := by decide +kernel
theorem d_law_342 : decode code 342 = .ok (.iconst 1, 1) := by decide +kernel
theorem d_law_343 : decode code 343 = .ok (.iadd, 1) := by decide +kernel
theorem d_law_344 : decode code 344 = .ok (.iaload, 1) := by decide +kernel
theorem d_law_345 : decode code 345 = .ok (.aload_n 0, 1) := by decide +kernel
theorem d_law_346 : decode code 346 = .ok (.iload_n 3, 1) := by decide +kernel
theorem d_law_347 : decode code 347 = .ok (.iconst 2, 1) := by decide +kernel
theorem d_law_348 : decode code 348 = .ok (.iadd, 1) := by decide +kernel
theorem d_law_349 : decode code 349 = .ok (.iaload, 1) := by decide +kernel
theorem d_law_350 : decode code 350 = .ok (.aload_n 0, 1) := by decide +kernel
theorem d_law_351 : decode code 351 = .ok (.iload_n 3, 1) := by decide +kernel
theorem d_law_352 : decode code 352 = .ok (.iconst 3, 1) := by decide +kernel
theorem d_law_353 : decode code 353 = .ok (.iadd, 1) := by decide +kernel
theorem d_law_354 : decode code 354 = .ok (.iaload, 1) := by decide +kernel
theorem d_law_355 : decode code 355 = .ok (.ifCond .eq 7, 3) := by decide +kernel
theorem d_law_358 : decode code 358 = .ok (.iconst 1, 1) := by decide +kernel
theorem d_law_359 : decode code 359 = .ok (.goto 4, 3) := by decide +kernel
theorem d_law_362 : decode code 362 = .ok (.iconst 0, 1) := by decide +kernel
theorem d_law_363 : decode code 363 = .ok (.invokevirtual 28, 3) := by decide +kernel
theorem d_law_366 : decode code 366 = .ok (.aload_n 2, 1) := by decide +kernel
theorem d_law_367 : decode code 367 = .ok (.aload_n 0, 1) := by decide +kernel
theorem d_law_368 : decode code 368 = .ok (.iload_n 3, 1) := by decide +kernel
theorem d_law_369 : decode code 369 = .ok (.iconst 1, 1) := by decide +kernel
theorem d_law_370 : decode code 370 = .ok (.iadd, 1) := by decide +kernel
theorem d_law_371 : decode code 371 = .ok (.iaload, 1) := by decide +kernel
theorem d_law_372 : decode code 372 = .ok (.aload_n 0, 1) := by decide +kernel
theorem d_law_373 : decode code 373 = .ok (.iload_n 3, 1) := by decide +kernel
theorem d_law_374 : decode code 374 = .ok (.iconst 2, 1) := by decide +kernel
theorem d_law_375 : decode code 375 = .ok (.iadd, 1) := by decide +kernel
theorem d_law_376 : decode code 376 = .ok (.iaload, 1) := by decide +kernel
theorem d_law_377 : decode code 377 = .ok (.aload_n 0, 1) := by decide +kernel
theorem d_law_378 : decode code 378 = .ok (.iload_n 3, 1) := by decide +kernel
theorem d_law_379 : decode code 379 = .ok (.iconst 3, 1) := by decide +kernel
theorem d_law_380 : decode code 380 = .ok (.iadd, 1) := by decide +kernel
theorem d_law_381 : decode code 381 = .ok (.iaload, 1) := by decide +kernel
theorem d_law_382 : decode code 382 = .ok (.ifCond .eq 7, 3) := by decide +kernel
theorem d_law_385 : decode code 385 = .ok (.iconst 1, 1) := by decide +kernel
theorem d_law_386 : decode code 386 = .ok (.goto 4, 3) := by decide +kernel
theorem d_law_389 : decode code 389 = .ok (.iconst 0, 1) := by decide +kernel
theorem d_law_390 : decode code 390 = .ok (.invokevirtual 32, 3) := by decide +kernel
theorem d_law_393 : decode code 393 = .ok (.if_icmp .eq 1226, 3) := by decide +kernel
theorem d_law_396 : decode code 396 = .ok (.iconst 0, 1) := by decide +kernel
theorem d_law_397 : decode code 397 = .ok (.ireturn, 1) := by decide +kernel
theorem d_law_398 : decode code 398 = .ok (.aload_n 1, 1) := by decide +kernel
theorem d_law_399 : decode code 399 = .ok (.aload_n 0, 1) := by decide +kernel
theorem d_law_400 : decode code 400 = .ok (.iload_n 3, 1) := by decide +kernel
theorem d_law_401 : decode code 401 = .ok (.iconst 1, 1) := by decide +kernel
theorem d_law_402 : decode code 402 = .ok (.iadd, 1) := by decide +kernel
theorem d_law_403 : decode code 403 = .ok (.iaload, 1) := by decide +kernel
theorem d_law_404 : decode code 404 = .ok (.aload_n 0, 1) := by decide +kernel
theorem d_law_405 : decode code 405 = .ok (.iload_n 3, 1) := by decide +kernel
theorem d_law_406 : decode code 406 = .ok (.iconst 2, 1) := by decide +kernel
theorem d_law_407 : decode code 407 = .ok (.iadd, 1) := by decide +kernel
theorem d_law_408 : decode code 408 = .ok (.iaload, 1) := by decide +kernel
theorem d_law_409 : decode code 409 = .ok (.aload_n 0, 1) := by decide +kernel
theorem d_law_410 : decode code 410 = .ok (.iload_n 3, 1) := by decide +kernel
theorem d_law_411 : decode code 411 = .ok (.iconst 3, 1) := by decide +kernel
theorem d_law_412 : decode code 412 = .ok (.iadd, 1) := by decide +kernel
theorem d_law_413 : decode code 413 = .ok (.iaload, 1) := by decide +kernel
theorem d_law_414 : decode code 414 = .ok (.invokevirtual 33, 3) := by decide +kernel
theorem d_law_417 : decode code 417 = .ok (.aload_n 2, 1) := by decide +kernel
theorem d_law_418 : decode code 418 = .ok (.aload_n 0, 1) := by decide +kernel
theorem d_law_419 : decode code 419 = .ok (.iload_n 3, 1) := by decide +kernel
theorem d_law_420 : decode code 420 = .ok (.iconst 1, 1) := by decide +kernel
theorem d_law_421 : decode code 421 = .ok (.iadd, 1) := by decide +kernel
theorem d_law_422 : decode code 422 = .ok (.iaload, 1) := by decide +kernel
theorem d_law_423 : decode code 423 = .ok (.aload_n 0, 1) := by decide +kernel
theorem d_law_424 : decode code 424 = .ok (.iload_n 3, 1) := by decide +kernel
theorem d_law_425 : decode code 425 = .ok (.iconst 2, 1) := by decide +kernel
theorem d_law_426 : decode code 426 = .ok (.iadd, 1) := by decide +kernel
theorem d_law_427 : decode code 427 = .ok (.iaload, 1) := by decide +kernel
theorem d_law_428 : decode code 428 = .ok (.aload_n 0, 1) := by decide +kernel
theorem d_law_429 : decode code 429 = .ok (.iload_n 3, 1) := by decide +kernel
theorem d_law_430 : decode code 430 = .ok (.iconst 3, 1) := by decide +kernel
theorem d_law_431 : decode code 431 = .ok (.iadd, 1) := by decide +kernel
theorem d_law_432 : decode code 432 = .ok (.iaload, 1) := by decide +kernel
theorem d_law_433 : decode code 433 = .ok (.invokevirtual 36, 3) := by decide +kernel
theorem d_law_436 : decode code 436 = .ok (.if_icmp .eq 1183, 3) := by decide +kernel
theorem d_law_439 : decode code 439 = .ok (.iconst 0, 1) := by decide +kernel
theorem d_law_440 : decode code 440 = .ok (.ireturn, 1) := by decide +kernel
theorem d_law_441 : decode code 441 = .ok (.aload_n 1, 1) := by decide +kernel
theorem d_law_442 : decode code 442 = .ok (.aload_n 0, 1) := by decide +kernel
theorem d_law_443 : decode code 443 = .ok (.iload_n 3, 1) := by decide +kernel
theorem d_law_444 : decode code 444 = .ok (.iconst 1, 1) := by decide +kernel
theorem d_law_445 : decode code 445 = .ok (.iadd, 1) := by decide +kernel
theorem d_law_446 : decode code 446 = .ok (.iaload, 1) := by decide +kernel
theorem d_law_447 : decode code 447 = .ok (.aload_n 0, 1) := by decide +kernel
theorem d_law_448 : decode code 448 = .ok (.iload_n 3, 1) := by decide +kernel
theorem d_law_449 : decode code 449 = .ok (.iconst 2, 1) := by decide +kernel
theorem d_law_450 : decode code 450 = .ok (.iadd, 1) := by decide +kernel
theorem d_law_451 : decode code 451 = .ok (.iaload, 1) := by decide +kernel
theorem d_law_452 : decode code 452 = .ok (.invokevirtual 37, 3) := by decide +kernel
theorem d_law_455 : decode code 455 = .ok (.aload_n 2, 1) := by decide +kernel
theorem d_law_456 : decode code 456 = .ok (.aload_n 0, 1) := by decide +kernel
theorem d_law_457 : decode code 457 = .ok (.iload_n 3, 1) := by decide +kernel
theorem d_law_458 : decode code 458 = .ok (.iconst 1, 1) := by decide +kernel
theorem d_law_459 : decode code 459 = .ok (.iadd, 1) := by decide +kernel
theorem d_law_460 : decode code 460 = .ok (.iaload, 1) := by decide +kernel
theorem d_law_461 : decode code 461 = .ok (.aload_n 0, 1) := by decide +kernel
theorem d_law_462 : decode code 462 = .ok (.iload_n 3, 1) := by decide +kernel
theorem d_law_463 : decode code 463 = .ok (.iconst 2, 1) := by decide +kernel
theorem d_law_464 : decode code 464 = .ok (.iadd, 1) := by decide +kernel
theorem d_law_465 : decode code 465 = .ok (.iaload, 1) := by decide +kernel
theorem d_law_466 : decode code 466 = .ok (.invokevirtual 40, 3) := by decide +kernel
theorem d_law_469 : decode code 469 = .ok (.if_icmp .eq 1150, 3) := by decide +kernel
theorem d_law_472 : decode code 472 = .ok (.iconst 0, 1) := by decide +kernel
theorem d_law_473 : decode code 473 = .ok (.ireturn, 1) := by decide +kernel
theorem d_law_474 : decode code 474 = .ok (.aload_n 1, 1) := by decide +kernel
theorem d_law_475 : decode code 475 = .ok (.aload_n 0, 1) := by decide +kernel
theorem d_law_476 : decode code 476 = .ok (.iload_n 3, 1) := by decide +kernel
theorem d_law_477 : decode code 477 = .ok (.iconst 1, 1) := by decide +kernel
theorem d_law_478 : decode code 478 = .ok (.iadd, 1) := by decide +kernel
theorem d_law_479 : decode code 479 = .ok (.iaload, 1) := by decide +kernel
theorem d_law_480 : decode code 480 = .ok (.aload_n 0, 1) := by decide +kernel
theorem d_law_481 : decode code 481 = .ok (.iload_n 3, 1) := by decide +kernel
theorem d_law_482 : decode code 482 = .ok (.iconst 2, 1) := by decide +kernel
theorem d_law_483 : decode code 483 = .ok (.iadd, 1) := by decide +kernel
theorem d_law_484 : decode code 484 = .ok (.iaload, 1) := by decide +kernel
theorem d_law_485 : decode code 485 = .ok (.invokevirtual 41, 3) := by decide +kernel
theorem d_law_488 : decode code 488 = .ok (.aload_n 2, 1) := by decide +kernel
theorem d_law_489 : decode code 489 = .ok (.aload_n 0, 1) := by decide +kernel
theorem d_law_490 : decode code 490 = .ok (.iload_n 3, 1) := by decide +kernel
theorem d_law_491 : decode code 491 = .ok (.iconst 1, 1) := by decide +kernel
theorem d_law_492 : decode code 492 = .ok (.iadd, 1) := by decide +kernel
theorem d_law_493 : decode code 493 = .ok (.iaload, 1) := by decide +kernel
theorem d_law_494 : decode code 494 = .ok (.aload_n 0, 1) := by decide +kernel
theorem d_law_495 : decode code 495 = .ok (.iload_n 3, 1) := by decide +kernel
theorem d_law_496 : decode code 496 = .ok (.iconst 2, 1) := by decide +kernel
theorem d_law_497 : decode code 497 = .ok (.iadd, 1) := by decide +kernel
theorem d_law_498 : decode code 498 = .ok (.iaload, 1) := by decide +kernel
theorem d_law_499 : decode code 499 = .ok (.invokevirtual 44, 3) := by decide +kernel
theorem d_law_502 : decode code 502 = .ok (.if_icmp .eq 1117, 3) := by decide +kernel
theorem d_law_505 : decode code 505 = .ok (.iconst 0, 1) := by decide +kernel
theorem d_law_506 : decode code 506 = .ok (.ireturn, 1) := by decide +kernel
theorem d_law_507 : decode code 507 = .ok (.aload_n 1, 1) := by decide +kernel
theorem d_law_508 : decode code 508 = .ok (.aload_n 0, 1) := by decide +kernel
theorem d_law_509 : decode code 509 = .ok (.iload_n 3, 1) := by decide +kernel
theorem d_law_510 : decode code 510 = .ok (.iconst 1, 1) := by decide +kernel
theorem d_law_511 : decode code 511 = .ok (.iadd, 1) := by decide +kernel
theorem d_law_512 : decode code 512 = .ok (.iaload, 1) := by decide +kernel
theorem d_law_513 : decode code 513 = .ok (.aload_n 0, 1) := by decide +kernel
theorem d_law_514 : decode code 514 = .ok (.iload_n 3, 1) := by decide +kernel
theorem d_law_515 : decode code 515 = .ok (.iconst 2, 1) := by decide +kernel
theorem d_law_516 : decode code 516 = .ok (.iadd, 1) := by decide +kernel
theorem d_law_517 : decode code 517 = .ok (.iaload, 1) := by decide +kernel
theorem d_law_518 : decode code 518 = .ok (.invokevirtual 45, 3) := by decide +kernel
theorem d_law_521 : decode code 521 = .ok (.aload_n 2, 1) := by decide +kernel
theorem d_law_522 : decode code 522 = .ok (.aload_n 0, 1) := by decide +kernel
theorem d_law_523 : decode code 523 = .ok (.iload_n 3, 1) := by decide +kernel
theorem d_law_524 : decode code 524 = .ok (.iconst 1, 1) := by decide +kernel
theorem d_law_525 : decode code 525 = .ok (.iadd, 1) := by decide +kernel
theorem d_law_526 : decode code 526 = .ok (.iaload, 1) := by decide +kernel
theorem d_law_527 : decode code 527 = .ok (.aload_n 0, 1) := by decide +kernel
theorem d_law_528 : decode code 528 = .ok (.iload_n 3, 1) := by decide +kernel
theorem d_law_529 : decode code 529 = .ok (.iconst 2, 1) := by decide +kernel
theorem d_law_530 : decode code 530 = .ok (.iadd, 1) := by decide +kernel
theorem d_law_531 : decode code 531 = .ok (.iaload, 1) := by decide +kernel
theorem d_law_532 : decode code 532 = .ok (.invokevirtual 48, 3) := by decide +kernel
theorem d_law_535 : decode code 535 = .ok (.if_icmp .eq 1084, 3) := by decide +kernel
theorem d_law_538 : decode code 538 = .ok (.iconst 0, 1) := by decide +kernel
theorem d_law_539 : decode code 539 = .ok (.ireturn, 1) := by decide +kernel
theorem d_law_540 : decode code 540 = .ok (.aload_n 1, 1) := by decide +kernel
theorem d_law_541 : decode code 541 = .ok (.aload_n 0, 1) := by decide +kernel
theorem d_law_542 : decode code 542 = .ok (.iload_n 3, 1) := by decide +kernel
theorem d_law_543 : decode code 543 = .ok (.iconst 1, 1) := by decide +kernel
theorem d_law_544 : decode code 544 = .ok (.iadd, 1) := by decide +kernel
theorem d_law_545 : decode code 545 = .ok (.iaload, 1) := by decide +kernel
theorem d_law_546 : decode code 546 = .ok (.invokevirtual 49, 3) := by decide +kernel
theorem d_law_549 : decode code 549 = .ok (.aload_n 2, 1) := by decide +kernel
theorem d_law_550 : decode code 550 = .ok (.aload_n 0, 1) := by decide +kernel
theorem d_law_551 : decode code 551 = .ok (.iload_n 3, 1) := by decide +kernel
theorem d_law_552 : decode code 552 = .ok (.iconst 1, 1) := by decide +kernel
theorem d_law_553 : decode code 553 = .ok (.iadd, 1) := by decide +kernel
theorem d_law_554 : decode code 554 = .ok (.iaload, 1) := by decide +kernel
theorem d_law_555 : decode code 555 = .ok (.invokevirtual 52, 3) := by decide +kernel
theorem d_law_558 : decode code 558 = .ok (.if_icmp .eq 1061, 3) := by decide +kernel
theorem d_law_561 : decode code 561 = .ok (.iconst 0, 1) := by decide +kernel
theorem d_law_562 : decode code 562 = .ok (.ireturn, 1) := by decide +kernel
theorem d_law_563 : decode code 563 = .ok (.aload_n 1, 1) := by decide +kernel
theorem d_law_564 : decode code 564 = .ok (.aload_n 0, 1) := by decide +kernel
theorem d_law_565 : decode code 565 = .ok (.iload_n 3, 1) := by decide +kernel
theorem d_law_566 : decode code 566 = .ok (.iconst 1, 1) := by decide +kernel
theorem d_law_567 : decode code 567 = .ok (.iadd, 1) := by decide +kernel
theorem d_law_568 : decode code 568 = .ok (.iaload, 1) := by decide +kernel
theorem d_law_569 : decode code 569 = .ok (.invokevirtual 53, 3) := by decide +kernel
theorem d_law_572 : decode code 572 = .ok (.aload_n 2, 1) := by decide +kernel
theorem d_law_573 : decode code 573 = .ok (.aload_n 0, 1) := by decide +kernel
theorem d_law_574 : decode code 574 = .ok (.iload_n 3, 1) := by decide +kernel
theorem d_law_575 : decode code 575 = .ok (.iconst 1, 1) := by decide +kernel
theorem d_law_576 : decode code 576 = .ok (.iadd, 1) := by decide +kernel
theorem d_law_577 : decode code 577 = .ok (.iaload, 1) := by decide +kernel
theorem d_law_578 : decode code 578 = .ok (.invokevirtual 56, 3) := by decide +kernel
theorem d_law_581 : decode code 581 = .ok (.if_icmp .eq 1038, 3) := by decide +kernel
theorem d_law_584 : decode code 584 = .ok (.iconst 0, 1) := by decide +kernel
theorem d_law_585 : decode code 585 = .ok (.ireturn, 1) := by decide +kernel
theorem d_law_586 : decode code 586 = .ok (.aload_n 1, 1) := by decide +kernel
theorem d_law_587 : decode code 587 = .ok (.aload_n 0, 1) := by decide +kernel
theorem d_law_588 : decode code 588 = .ok (.iload_n 3, 1) := by decide +kernel
theorem d_law_589 : decode code 589 = .ok (.iconst 1, 1) := by decide +kernel
theorem d_law_590 : decode code 590 = .ok (.iadd, 1) := by decide +kernel
theorem d_law_591 : decode code 591 = .ok (.iaload, 1) := by decide +kernel
theorem d_law_592 : decode code 592 = .ok (.invokevirtual 57, 3) := by decide +kernel
theorem d_law_595 : decode code 595 = .ok (.aload_n 2, 1) := by decide +kernel
theorem d_law_596 : decode code 596 = .ok (.aload_n 0, 1) := by decide +kernel
theorem d_law_597 : decode code 597 = .ok (.iload_n 3, 1) := by decide +kernel
theorem d_law_598 : decode code 598 = .ok (.iconst 1, 1) := by decide +kernel
theorem d_law_599 : decode code 599 = .ok (.iadd, 1) := by decide +kernel
theorem d_law_600 : decode code 600 = .ok (.iaload, 1) := by decide +kernel
theorem d_law_601 : decode code 601 = .ok (.invokevirtual 60, 3) := by decide +kernel
theorem d_law_604 : decode code 604 = .ok (.if_icmp .eq 1015, 3) := by decide +kernel
theorem d_law_607 : decode code 607 = .ok (.iconst 0, 1) := by decide +kernel
theorem d_law_608 : decode code 608 = .ok (.ireturn, 1) := by decide +kernel
theorem d_law_609 : decode code 609 = .ok (.aload_n 1, 1) := by decide +kernel
theorem d_law_610 : decode code 610 = .ok (.aload_n 0, 1) := by decide +kernel
theorem d_law_611 : decode code 611 = .ok (.iload_n 3, 1) := by decide +kernel
theorem d_law_612 : decode code 612 = .ok (.iconst 1, 1) := by decide +kernel
theorem d_law_613 : decode code 613 = .ok (.iadd, 1) := by decide +kernel
theorem d_law_614 : decode code 614 = .ok (.iaload, 1) := by decide +kernel
theorem d_law_615 : decode code 615 = .ok (.aload_n 0, 1) := by decide +kernel
theorem d_law_616 : decode code 616 = .ok (.iload_n 3, 1) := by decide +kernel
theorem d_law_617 : decode code 617 = .ok (.iconst 2, 1) := by decide +kernel
theorem d_law_618 : decode code 618 = .ok (.iadd, 1) := by decide +kernel
theorem d_law_619 : decode code 619 = .ok (.iaload, 1) := by decide +kernel
theorem d_law_620 : decode code 620 = .ok (.aload_n 0, 1) := by decide +kernel
theorem d_law_621 : decode code 621 = .ok (.iload_n 3, 1) := by decide +kernel
theorem d_law_622 : decode code 622 = .ok (.iconst 3, 1) := by decide +kernel
theorem d_law_623 : decode code 623 = .ok (.iadd, 1) := by decide +kernel
theorem d_law_624 : decode code 624 = .ok (.iaload, 1) := by decide +kernel
theorem d_law_625 : decode code 625 = .ok (.invokevirtual 61, 3) := by decide +kernel
theorem d_law_628 : decode code 628 = .ok (.aload_n 2, 1) := by decide +kernel
theorem d_law_629 : decode code 629 = .ok (.aload_n 0, 1) := by decide +kernel
theorem d_law_630 : decode code 630 = .ok (.iload_n 3, 1) := by decide +kernel
theorem d_law_631 : decode code 631 = .ok (.iconst 1, 1) := by decide +kernel
theorem d_law_632 : decode code 632 = .ok (.iadd, 1) := by decide +kernel
theorem d_law_633 : decode code 633 = .ok (.iaload, 1) := by decide +kernel
theorem d_law_634 : decode code 634 = .ok (.aload_n 0, 1) := by decide +kernel
theorem d_law_635 : decode code 635 = .ok (.iload_n 3, 1) := by decide +kernel
theorem d_law_636 : decode code 636 = .ok (.iconst 2, 1) := by decide +kernel
theorem d_law_637 : decode code 637 = .ok (.iadd, 1) := by decide +kernel
theorem d_law_638 : decode code 638 = .ok (.iaload, 1) := by decide +kernel
theorem d_law_639 : decode code 639 = .ok (.aload_n 0, 1) := by decide +kernel
theorem d_law_640 : decode code 640 = .ok (.iload_n 3, 1) := by decide +kernel
theorem d_law_641 : decode code 641 = .ok (.iconst 3, 1) := by decide +kernel
theorem d_law_642 : decode code 642 = .ok (.iadd, 1) := by decide +kernel
theorem d_law_643 : decode code 643 = .ok (.iaload, 1) := by decide +kernel
theorem d_law_644 : decode code 644 = .ok (.invokevirtual 64, 3) := by decide +kernel
theorem d_law_647 : decode code 647 = .ok (.if_icmp .eq 972, 3) := by decide +kernel
theorem d_law_650 : decode code 650 = .ok (.iconst 0, 1) := by decide +kernel
theorem d_law_651 : decode code 651 = .ok (.ireturn, 1) := by decide +kernel
theorem d_law_652 : decode code 652 = .ok (.aload_n 1, 1) := by decide +kernel
theorem d_law_653 : decode code 653 = .ok (.aload_n 0, 1) := by decide +kernel
theorem d_law_654 : decode code 654 = .ok (.iload_n 3, 1) := by decide +kernel
theorem d_law_655 : decode code 655 = .ok (.iconst 1, 1) := by decide +kernel
theorem d_law_656 : decode code 656 = .ok (.iadd, 1) := by decide +kernel
theorem d_law_657 : decode code 657 = .ok (.iaload, 1) := by decide +kernel
theorem d_law_658 : decode code 658 = .ok (.aload_n 0, 1) := by decide +kernel
theorem d_law_659 : decode code 659 = .ok (.iload_n 3, 1) := by decide +kernel
theorem d_law_660 : decode code 660 = .ok (.iconst 2, 1) := by decide +kernel
theorem d_law_661 : decode code 661 = .ok (.iadd, 1) := by decide +kernel
theorem d_law_662 : decode code 662 = .ok (.iaload, 1) := by decide +kernel
theorem d_law_663 : decode code 663 = .ok (.aload_n 0, 1) := by decide +kernel
theorem d_law_664 : decode code 664 = .ok (.iload_n 3, 1) := by decide +kernel
theorem d_law_665 : decode code 665 = .ok (.iconst 3, 1) := by decide +kernel
theorem d_law_666 : decode code 666 = .ok (.iadd, 1) := by decide +kernel
theorem d_law_667 : decode code 667 = .ok (.iaload, 1) := by decide +kernel
theorem d_law_668 : decode code 668 = .ok (.aload_n 0, 1) := by decide +kernel
theorem d_law_669 : decode code 669 = .ok (.iload_n 3, 1) := by decide +kernel
theorem d_law_670 : decode code 670 = .ok (.iconst 4, 1) := by decide +kernel
theorem d_law_671 : decode code 671 = .ok (.iadd, 1) := by decide +kernel
theorem d_law_672 : decode code 672 = .ok (.iaload, 1) := by decide +kernel
theorem d_law_673 : decode code 673 = .ok (.aload_n 0, 1) := by decide +kernel
theorem d_law_674 : decode code 674 = .ok (.iload_n 3, 1) := by decide +kernel
theorem d_law_675 : decode code 675 = .ok (.iconst 5, 1) := by decide +kernel
theorem d_law_676 : decode code 676 = .ok (.iadd, 1) := by decide +kernel
theorem d_law_677 : decode code 677 = .ok (.iaload, 1) := by decide +kernel
theorem d_law_678 : decode code 678 = .ok (.invokevirtual 65, 3) := by decide +kernel
theorem d_law_681 : decode code 681 = .ok (.aload_n 2, 1) := by decide +kernel
theorem d_law_682 : decode code 682 = .ok (.aload_n 0, 1) := by decide +kernel
theorem d_law_683 : decode code 683 = .ok (.iload_n 3, 1) := by decide +kernel
theorem d_law_684 : decode code 684 = .ok (.iconst 1, 1) := by decide +kernel
theorem d_law_685 : decode code 685 = .ok (.iadd, 1) := by decide +kernel
theorem d_law_686 : decode code 686 = .ok (.iaload, 1) := by decide +kernel
theorem d_law_687 : decode code 687 = .ok (.aload_n 0, 1) := by decide +kernel
theorem d_law_688 : decode code 688 = .ok (.iload_n 3, 1) := by decide +kernel
theorem d_law_689 : decode code 689 = .ok (.iconst 2, 1) := by decide +kernel
theorem d_law_690 : decode code 690 = .ok (.iadd, 1) := by decide +kernel
theorem d_law_691 : decode code 691 = .ok (.iaload, 1) := by decide +kernel
theorem d_law_692 : decode code 692 = .ok (.aload_n 0, 1) := by decide +kernel
theorem d_law_693 : decode code 693 = .ok (.iload_n 3, 1) := by decide +kernel
theorem d_law_694 : decode code 694 = .ok (.iconst 3, 1) := by decide +kernel
theorem d_law_695 : decode code 695 = .ok (.iadd, 1) := by decide +kernel
theorem d_law_696 : decode code 696 = .ok (.iaload, 1) := by decide +kernel
theorem d_law_697 : decode code 697 = .ok (.aload_n 0, 1) := by decide +kernel
theorem d_law_698 : decode code 698 = .ok (.iload_n 3, 1) := by decide +kernel
theorem d_law_699 : decode code 699 = .ok (.iconst 4, 1) := by decide +kernel
theorem d_law_700 : decode code 700 = .ok (.iadd, 1) := by decide +kernel
theorem d_law_701 : decode code 701 = .ok (.iaload, 1) := by decide +kernel
theorem d_law_702 : decode code 702 = .ok (.aload_n 0, 1) := by decide +kernel
theorem d_law_703 : decode code 703 = .ok (.iload_n 3, 1) := by decide +kernel
theorem d_law_704 : decode code 704 = .ok (.iconst 5, 1) := by decide +kernel
theorem d_law_705 : decode code 705 = .ok (.iadd, 1) := by decide +kernel
theorem d_law_706 : decode code 706 = .ok (.iaload, 1) := by decide +kernel
theorem d_law_707 : decode code 707 = .ok (.invokevirtual 69, 3) := by decide +kernel
theorem d_law_710 : decode code 710 = .ok (.if_icmp .eq 909, 3) := by decide +kernel
theorem d_law_713 : decode code 713 = .ok (.iconst 0, 1) := by decide +kernel
theorem d_law_714 : decode code 714 = .ok (.ireturn, 1) := by decide +kernel
theorem d_law_715 : decode code 715 = .ok (.aload_n 1, 1) := by decide +kernel
theorem d_law_716 : decode code 716 = .ok (.aload_n 0, 1) := by decide +kernel
theorem d_law_717 : decode code 717 = .ok (.iload_n 3, 1) := by decide +kernel
theorem d_law_718 : decode code 718 = .ok (.iconst 1, 1) := by decide +kernel
theorem d_law_719 : decode code 719 = .ok (.iadd, 1) := by decide +kernel
theorem d_law_720 : decode code 720 = .ok (.iaload, 1) := by decide +kernel
theorem d_law_721 : decode code 721 = .ok (.aload_n 0, 1) := by decide +kernel
theorem d_law_722 : decode code 722 = .ok (.iload_n 3, 1) := by decide +kernel
theorem d_law_723 : decode code 723 = .ok (.iconst 2, 1) := by decide +kernel
theorem d_law_724 : decode code 724 = .ok (.iadd, 1) := by decide +kernel
theorem d_law_725 : decode code 725 = .ok (.iaload, 1) := by decide +kernel
theorem d_law_726 : decode code 726 = .ok (.aload_n 0, 1) := by decide +kernel
theorem d_law_727 : decode code 727 = .ok (.iload_n 3, 1) := by decide +kernel
theorem d_law_728 : decode code 728 = .ok (.iconst 3, 1) := by decide +kernel
theorem d_law_729 : decode code 729 = .ok (.iadd, 1) := by decide +kernel
theorem d_law_730 : decode code 730 = .ok (.iaload, 1) := by decide +kernel
theorem d_law_731 : decode code 731 = .ok (.invokevirtual 70, 3) := by decide +kernel
theorem d_law_734 : decode code 734 = .ok (.aload_n 2, 1) := by decide +kernel
theorem d_law_735 : decode code 735 = .ok (.aload_n 0, 1) := by decide +kernel
theorem d_law_736 : decode code 736 = .ok (.iload_n 3, 1) := by decide +kernel
theorem d_law_737 : decode code 737 = .ok (.iconst 1, 1) := by decide +kernel
theorem d_law_738 : decode code 738 = .ok (.iadd, 1) := by decide +kernel
theorem d_law_739 : decode code 739 = .ok (.iaload, 1) := by decide +kernel
theorem d_law_740 : decode code 740 = .ok (.aload_n 0, 1) := by decide +kernel
theorem d_law_741 : decode code 741 = .ok (.iload_n 3, 1) := by decide +kernel
theorem d_law_742 : decode code 742 = .ok (.iconst 2, 1) := by decide +kernel
theorem d_law_743 : decode code 743 = .ok (.iadd, 1) := by decide +kernel
theorem d_law_744 : decode code 744 = .ok (.iaload, 1) := by decide +kernel
theorem d_law_745 : decode code 745 = .ok (.aload_n 0, 1) := by decide +kernel
theorem d_law_746 : decode code 746 = .ok (.iload_n 3, 1) := by decide +kernel
theorem d_law_747 : decode code 747 = .ok (.iconst 3, 1) := by decide +kernel
theorem d_law_748 : decode code 748 = .ok (.iadd, 1) := by decide +kernel
theorem d_law_749 : decode code 749 = .ok (.iaload, 1) := by decide +kernel
theorem d_law_750 : decode code 750 = .ok (.invokevirtual 73, 3) := by decide +kernel
theorem d_law_753 : decode code 753 = .ok (.if_icmp .eq 866, 3) := by decide +kernel
theorem d_law_756 : decode code 756 = .ok (.iconst 0, 1) := by decide +kernel
theorem d_law_757 : decode code 757 = .ok (.ireturn, 1) := by decide +kernel
theorem d_law_758 : decode code 758 = .ok (.aload_n 1, 1) := by decide +kernel
theorem d_law_759 : decode code 759 = .ok (.aload_n 0, 1) := by decide +kernel
theorem d_law_760 : decode code 760 = .ok (.iload_n 3, 1) := by decide +kernel
theorem d_law_761 : decode code 761 = .ok (.iconst 1, 1) := by decide +kernel
theorem d_law_762 : decode code 762 = .ok (.iadd, 1) := by decide +kernel
theorem d_law_763 : decode code 763 = .ok (.iaload, 1) := by decide +kernel
theorem d_law_764 : decode code 764 = .ok (.invokevirtual 74, 3) := by decide +kernel
theorem d_law_767 : decode code 767 = .ok (.aload_n 2, 1) := by decide +kernel
theorem d_law_768 : decode code 768 = .ok (.aload_n 0, 1) := by decide +kernel
theorem d_law_769 : decode code 769 = .ok (.iload_n 3, 1) := by decide +kernel
theorem d_law_770 : decode code 770 = .ok (.iconst 1, 1) := by decide +kernel
theorem d_law_771 : decode code 771 = .ok (.iadd, 1) := by decide +kernel
theorem d_law_772 : decode code 772 = .ok (.iaload, 1) := by decide +kernel
theorem d_law_773 : decode code 773 = .ok (.invokevirtual 77, 3) := by decide +kernel
theorem d_law_776 : decode code 776 = .ok (.if_icmp .eq 843, 3) := by decide +kernel
theorem d_law_779 : decode code 779 = .ok (.iconst 0, 1) := by decide +kernel
theorem d_law_780 : decode code 780 = .ok (.ireturn, 1) := by decide +kernel
theorem d_law_781 : decode code 781 = .ok (.aload_n 1, 1) := by decide +kernel
theorem d_law_782 : decode code 782 = .ok (.invokevirtual 78, 3) := by decide +kernel
theorem d_law_785 : decode code 785 = .ok (.aload_n 2, 1) := by decide +kernel
theorem d_law_786 : decode code 786 = .ok (.invokevirtual 82, 3) := by decide +kernel
theorem d_law_789 : decode code 789 = .ok (.if_icmp .eq 830, 3) := by decide +kernel
theorem d_law_792 : decode code 792 = .ok (.iconst 0, 1) := by decide +kernel
theorem d_law_793 : decode code 793 = .ok (.ireturn, 1) := by decide +kernel
theorem d_law_794 : decode code 794 = .ok (.aload_n 1, 1) := by decide +kernel
theorem d_law_795 : decode code 795 = .ok (.aload_n 0, 1) := by decide +kernel
theorem d_law_796 : decode code 796 = .ok (.iload_n 3, 1) := by decide +kernel
theorem d_law_797 : decode code 797 = .ok (.iconst 1, 1) := by decide +kernel
theorem d_law_798 : decode code 798 = .ok (.iadd, 1) := by decide +kernel
theorem d_law_799 : decode code 799 = .ok (.iaload, 1) := by decide +kernel
theorem d_law_800 : decode code 800 = .ok (.invokevirtual 83, 3) := by decide +kernel
theorem d_law_803 : decode code 803 = .ok (.aload_n 2, 1) := by decide +kernel
theorem d_law_804 : decode code 804 = .ok (.aload_n 0, 1) := by decide +kernel
theorem d_law_805 : decode code 805 = .ok (.iload_n 3, 1) := by decide +kernel
theorem d_law_806 : decode code 806 = .ok (.iconst 1, 1) := by decide +kernel
theorem d_law_807 : decode code 807 = .ok (.iadd, 1) := by decide +kernel
theorem d_law_808 : decode code 808 = .ok (.iaload, 1) := by decide +kernel
theorem d_law_809 : decode code 809 = .ok (.invokevirtual 87, 3) := by decide +kernel
theorem d_law_812 : decode code 812 = .ok (.lcmp, 1) := by decide +kernel
theorem d_law_813 : decode code 813 = .ok (.ifCond .eq 806, 3) := by decide +kernel
theorem d_law_816 : decode code 816 = .ok (.iconst 0, 1) := by decide +kernel
theorem d_law_817 : decode code 817 = .ok (.ireturn, 1) := by decide +kernel
theorem d_law_818 : decode code 818 = .ok (.aload_n 1, 1) := by decide +kernel
theorem d_law_819 : decode code 819 = .ok (.invokevirtual 88, 3) := by decide +kernel
theorem d_law_822 : decode code 822 = .ok (.aload_n 2, 1) := by decide +kernel
theorem d_law_823 : decode code 823 = .ok (.invokevirtual 91, 3) := by decide +kernel
theorem d_law_826 : decode code 826 = .ok (.if_icmp .eq 793, 3) := by decide +kernel
theorem d_law_829 : decode code 829 = .ok (.iconst 0, 1) := by decide +kernel
theorem d_law_830 : decode code 830 = .ok (.ireturn, 1) := by decide +kernel
theorem d_law_831 : decode code 831 = .ok (.aload_n 1, 1) := by decide +kernel
theorem d_law_832 : decode code 832 = .ok (.aload_n 0, 1) := by decide +kernel
theorem d_law_833 : decode code 833 = .ok (.iload_n 3, 1) := by decide +kernel
theorem d_law_834 : decode code 834 = .ok (.iconst 1, 1) := by decide +kernel
theorem d_law_835 : decode code 835 = .ok (.iadd, 1) := by decide +kernel
theorem d_law_836 : decode code 836 = .ok (.iaload, 1) := by decide +kernel
theorem d_law_837 : decode code 837 = .ok (.invokevirtual 92, 3) := by decide +kernel
theorem d_law_840 : decode code 840 = .ok (.aload_n 2, 1) := by decide +kernel
theorem d_law_841 : decode code 841 = .ok (.aload_n 0, 1) := by decide +kernel
theorem d_law_842 : decode code 842 = .ok (.iload_n 3, 1) := by decide +kernel
theorem d_law_843 : decode code 843 = .ok (.iconst 1, 1) := by decide +kernel
theorem d_law_844 : decode code 844 = .ok (.iadd, 1) := by decide +kernel
theorem d_law_845 : decode code 845 = .ok (.iaload, 1) := by decide +kernel
theorem d_law_846 : decode code 846 = .ok (.invokevirtual 95, 3) := by decide +kernel
theorem d_law_849 : decode code 849 = .ok (.if_icmp .eq 770, 3) := by decide +kernel
theorem d_law_852 : decode code 852 = .ok (.iconst 0, 1) := by decide +kernel
theorem d_law_853 : decode code 853 = .ok (.ireturn, 1) := by decide +kernel
theorem d_law_854 : decode code 854 = .ok (.aload_n 1, 1) := by decide +kernel
theorem d_law_855 : decode code 855 = .ok (.invokevirtual 96, 3) := by decide +kernel
theorem d_law_858 : decode code 858 = .ok (.aload_n 2, 1) := by decide +kernel
theorem d_law_859 : decode code 859 = .ok (.invokevirtual 99, 3) := by decide +kernel
theorem d_law_862 : decode code 862 = .ok (.if_icmp .eq 757, 3) := by decide +kernel
theorem d_law_865 : decode code 865 = .ok (.iconst 0, 1) := by decide +kernel
theorem d_law_866 : decode code 866 = .ok (.ireturn, 1) := by decide +kernel
theorem d_law_867 : decode code 867 = .ok (.aload_n 1, 1) := by decide +kernel
theorem d_law_868 : decode code 868 = .ok (.aload_n 0, 1) := by decide +kernel
theorem d_law_869 : decode code 869 = .ok (.iload_n 3, 1) := by decide +kernel
theorem d_law_870 : decode code 870 = .ok (.iconst 1, 1) := by decide +kernel
theorem d_law_871 : decode code 871 = .ok (.iadd, 1) := by decide +kernel
theorem d_law_872 : decode code 872 = .ok (.iaload, 1) := by decide +kernel
theorem d_law_873 : decode code 873 = .ok (.aload_n 0, 1) := by decide +kernel
theorem d_law_874 : decode code 874 = .ok (.iload_n 3, 1) := by decide +kernel
theorem d_law_875 : decode code 875 = .ok (.iconst 2, 1) := by decide +kernel
theorem d_law_876 : decode code 876 = .ok (.iadd, 1) := by decide +kernel
theorem d_law_877 : decode code 877 = .ok (.iaload, 1) := by decide +kernel
theorem d_law_878 : decode code 878 = .ok (.invokevirtual 100, 3) := by decide +kernel
theorem d_law_881 : decode code 881 = .ok (.aload_n 2, 1) := by decide +kernel
theorem d_law_882 : decode code 882 = .ok (.aload_n 0, 1) := by decide +kernel
theorem d_law_883 : decode code 883 = .ok (.iload_n 3, 1) := by decide +kernel
theorem d_law_884 : decode code 884 = .ok (.iconst 1, 1) := by decide +kernel
theorem d_law_885 : decode code 885 = .ok (.iadd, 1) := by decide +kernel
theorem d_law_886 : decode code 886 = .ok (.iaload, 1) := by decide +kernel
theorem d_law_887 : decode code 887 = .ok (.aload_n 0, 1) := by decide +kernel
theorem d_law_888 : decode code 888 = .ok (.iload_n 3, 1) := by decide +kernel
theorem d_law_889 : decode code 889 = .ok (.iconst 2, 1) := by decide +kernel
theorem d_law_890 : decode code 890 = .ok (.iadd, 1) := by decide +kernel
theorem d_law_891 : decode code 891 = .ok (.iaload, 1) := by decide +kernel
theorem d_law_892 : decode code 892 = .ok (.invokevirtual 104, 3) := by decide +kernel
theorem d_law_895 : decode code 895 = .ok (.lcmp, 1) := by decide +kernel
theorem d_law_896 : decode code 896 = .ok (.ifCond .eq 723, 3) := by decide +kernel
theorem d_law_899 : decode code 899 = .ok (.iconst 0, 1) := by decide +kernel
theorem d_law_900 : decode code 900 = .ok (.ireturn, 1) := by decide +kernel
theorem d_law_901 : decode code 901 = .ok (.aload_n 1, 1) := by decide +kernel
theorem d_law_902 : decode code 902 = .ok (.aload_n 0, 1) := by decide +kernel
theorem d_law_903 : decode code 903 = .ok (.iload_n 3, 1) := by decide +kernel
theorem d_law_904 : decode code 904 = .ok (.iconst 1, 1) := by decide +kernel
theorem d_law_905 : decode code 905 = .ok (.iadd, 1) := by decide +kernel
theorem d_law_906 : decode code 906 = .ok (.iaload, 1) := by decide +kernel
theorem d_law_907 : decode code 907 = .ok (.invokevirtual 105, 3) := by decide +kernel
theorem d_law_910 : decode code 910 = .ok (.aload_n 2, 1) := by decide +kernel
theorem d_law_911 : decode code 911 = .ok (.aload_n 0, 1) := by decide +kernel
theorem d_law_912 : decode code 912 = .ok (.iload_n 3, 1) := by decide +kernel
theorem d_law_913 : decode code 913 = .ok (.iconst 1, 1) := by decide +kernel
theorem d_law_914 : decode code 914 = .ok (.iadd, 1) := by decide +kernel
theorem d_law_915 : decode code 915 = .ok (.iaload, 1) := by decide +kernel
theorem d_law_916 : decode code 916 = .ok (.invokevirtual 108, 3) := by decide +kernel
theorem d_law_919 : decode code 919 = .ok (.if_icmp .eq 700, 3) := by decide +kernel
theorem d_law_922 : decode code 922 = .ok (.iconst 0, 1) := by decide +kernel
theorem d_law_923 : decode code 923 = .ok (.ireturn, 1) := by decide +kernel
theorem d_law_924 : decode code 924 = .ok (.aload_n 1, 1) := by decide +kernel
theorem d_law_925 : decode code 925 = .ok (.aload_n 0, 1) := by decide +kernel
theorem d_law_926 : decode code 926 = .ok (.iload_n 3, 1) := by decide +kernel
theorem d_law_927 : decode code 927 = .ok (.iconst 1, 1) := by decide +kernel
theorem d_law_928 : decode code 928 = .ok (.iadd, 1) := by decide +kernel
theorem d_law_929 : decode code 929 = .ok (.iaload, 1) := by decide +kernel
theorem d_law_930 : decode code 930 = .ok (.invokevirtual 109, 3) := by decide +kernel
theorem d_law_933 : decode code 933 = .ok (.aload_n 2, 1) := by decide +kernel
theorem d_law_934 : decode code 934 = .ok (.aload_n 0, 1) := by decide +kernel
theorem d_law_935 : decode code 935 = .ok (.iload_n 3, 1) := by decide +kernel
theorem d_law_936 : decode code 936 = .ok (.iconst 1, 1) := by decide +kernel
theorem d_law_937 : decode code 937 = .ok (.iadd, 1) := by decide +kernel
theorem d_law_938 : decode code 938 = .ok (.iaload, 1) := by decide +kernel
theorem d_law_939 : decode code 939 = .ok (.invokevirtual 112, 3) := by decide +kernel
theorem d_law_942 : decode code 942 = .ok (.if_icmp .eq 677, 3) := by decide +kernel
theorem d_law_945 : decode code 945 = .ok (.iconst 0, 1) := by decide +kernel
theorem d_law_946 : decode code 946 = .ok (.ireturn, 1) := by decide +kernel
theorem d_law_947 : decode code 947 = .ok (.aload_n 1, 1) := by decide +kernel
theorem d_law_948 : decode code 948 = .ok (.aload_n 0, 1) := by decide +kernel
theorem d_law_949 : decode code 949 = .ok (.iload_n 3, 1) := by decide +kernel
theorem d_law_950 : decode code 950 = .ok (.iconst 1, 1) := by decide +kernel
theorem d_law_951 : decode code 951 = .ok (.iadd, 1) := by decide +kernel
theorem d_law_952 : decode code 952 = .ok (.iaload, 1) := by decide +kernel
theorem d_law_953 : decode code 953 = .ok (.aload_n 0, 1) := by decide +kernel
theorem d_law_954 : decode code 954 = .ok (.iload_n 3, 1) := by decide +kernel
theorem d_law_955 : decode code 955 = .ok (.iconst 2, 1) := by decide +kernel
theorem d_law_956 : decode code 956 = .ok (.iadd, 1) := by decide +kernel
theorem d_law_957 : decode code 957 = .ok (.iaload, 1) := by decide +kernel
theorem d_law_958 : decode code 958 = .ok (.aload_n 0, 1) := by decide +kernel
theorem d_law_959 : decode code 959 = .ok (.iload_n 3, 1) := by decide +kernel
theorem d_law_960 : decode code 960 = .ok (.iconst 3, 1) := by decide +kernel
theorem d_law_961 : decode code 961 = .ok (.iadd, 1) := by decide +kernel
theorem d_law_962 : decode code 962 = .ok (.iaload, 1) := by decide +kernel
theorem d_law_963 : decode code 963 = .ok (.invokevirtual 113, 3) := by decide +kernel
theorem d_law_966 : decode code 966 = .ok (.aload_n 2, 1) := by decide +kernel
theorem d_law_967 : decode code 967 = .ok (.aload_n 0, 1) := by decide +kernel
theorem d_law_968 : decode code 968 = .ok (.iload_n 3, 1) := by decide +kernel
theorem d_law_969 : decode code 969 = .ok (.iconst 1, 1) := by decide +kernel
theorem d_law_970 : decode code 970 = .ok (.iadd, 1) := by decide +kernel
theorem d_law_971 : decode code 971 = .ok (.iaload, 1) := by decide +kernel
theorem d_law_972 : decode code 972 = .ok (.aload_n 0, 1) := by decide +kernel
theorem d_law_973 : decode code 973 = .ok (.iload_n 3, 1) := by decide +kernel
theorem d_law_974 : decode code 974 = .ok (.iconst 2, 1) := by decide +kernel
theorem d_law_975 : decode code 975 = .ok (.iadd, 1) := by decide +kernel
theorem d_law_976 : decode code 976 = .ok (.iaload, 1) := by decide +kernel
theorem d_law_977 : decode code 977 = .ok (.aload_n 0, 1) := by decide +kernel
theorem d_law_978 : decode code 978 = .ok (.iload_n 3, 1) := by decide +kernel
theorem d_law_979 : decode code 979 = .ok (.iconst 3, 1) := by decide +kernel
theorem d_law_980 : decode code 980 = .ok (.iadd, 1) := by decide +kernel
theorem d_law_981 : decode code 981 = .ok (.iaload, 1) := by decide +kernel
theorem d_law_982 : decode code 982 = .ok (.invokevirtual 116, 3) := by decide +kernel
theorem d_law_985 : decode code 985 = .ok (.if_icmp .eq 634, 3) := by decide +kernel
theorem d_law_988 : decode code 988 = .ok (.iconst 0, 1) := by decide +kernel
theorem d_law_989 : decode code 989 = .ok (.ireturn, 1) := by decide +kernel
theorem d_law_990 : decode code 990 = .ok (.aload_n 1, 1) := by decide +kernel
theorem d_law_991 : decode code 991 = .ok (.aload_n 0, 1) := by decide +kernel
theorem d_law_992 : decode code 992 = .ok (.iload_n 3, 1) := by decide +kernel
theorem d_law_993 : decode code 993 = .ok (.iconst 1, 1) := by decide +kernel
theorem d_law_994 : decode code 994 = .ok (.iadd, 1) := by decide +kernel
theorem d_law_995 : decode code 995 = .ok (.iaload, 1) := by decide +kernel
theorem d_law_996 : decode code 996 = .ok (.invokevirtual 117, 3) := by decide +kernel
theorem d_law_999 : decode code 999 = .ok (.aload_n 2, 1) := by decide +kernel
theorem d_law_1000 : decode code 1000 = .ok (.aload_n 0, 1) := by decide +kernel
theorem d_law_1001 : decode code 1001 = .ok (.iload_n 3, 1) := by decide +kernel
theorem d_law_1002 : decode code 1002 = .ok (.iconst 1, 1) := by decide +kernel
theorem d_law_1003 : decode code 1003 = .ok (.iadd, 1) := by decide +kernel
theorem d_law_1004 : decode code 1004 = .ok (.iaload, 1) := by decide +kernel
theorem d_law_1005 : decode code 1005 = .ok (.invokevirtual 120, 3) := by decide +kernel
theorem d_law_1008 : decode code 1008 = .ok (.if_icmp .eq 611, 3) := by decide +kernel
theorem d_law_1011 : decode code 1011 = .ok (.iconst 0, 1) := by decide +kernel
theorem d_law_1012 : decode code 1012 = .ok (.ireturn, 1) := by decide +kernel
theorem d_law_1013 : decode code 1013 = .ok (.aload_n 1, 1) := by decide +kernel
theorem d_law_1014 : decode code 1014 = .ok (.aload_n 0, 1) := by decide +kernel
theorem d_law_1015 : decode code 1015 = .ok (.iload_n 3, 1) := by decide +kernel
theorem d_law_1016 : decode code 1016 = .ok (.iconst 1, 1) := by decide +kernel
theorem d_law_1017 : decode code 1017 = .ok (.iadd, 1) := by decide +kernel
theorem d_law_1018 : decode code 1018 = .ok (.iaload, 1) := by decide +kernel
theorem d_law_1019 : decode code 1019 = .ok (.invokevirtual 121, 3) := by decide +kernel
theorem d_law_1022 : decode code 1022 = .ok (.aload_n 2, 1) := by decide +kernel
theorem d_law_1023 : decode code 1023 = .ok (.aload_n 0, 1) := by decide +kernel
theorem d_law_1024 : decode code 1024 = .ok (.iload_n 3, 1) := by decide +kernel
theorem d_law_1025 : decode code 1025 = .ok (.iconst 1, 1) := by decide +kernel
theorem d_law_1026 : decode code 1026 = .ok (.iadd, 1) := by decide +kernel
theorem d_law_1027 : decode code 1027 = .ok (.iaload, 1) := by decide +kernel
theorem d_law_1028 : decode code 1028 = .ok (.invokevirtual 124, 3) := by decide +kernel
theorem d_law_1031 : decode code 1031 = .ok (.if_icmp .eq 588, 3) := by decide +kernel
theorem d_law_1034 : decode code 1034 = .ok (.iconst 0, 1) := by decide +kernel
theorem d_law_1035 : decode code 1035 = .ok (.ireturn, 1) := by decide +kernel
theorem d_law_1036 : decode code 1036 = .ok (.aload_n 1, 1) := by decide +kernel
theorem d_law_1037 : decode code 1037 = .ok (.aload_n 0, 1) := by decide +kernel
theorem d_law_1038 : decode code 1038 = .ok (.iload_n 3, 1) := by decide +kernel
theorem d_law_1039 : decode code 1039 = .ok (.iconst 1, 1) := by decide +kernel
theorem d_law_1040 : decode code 1040 = .ok (.iadd, 1) := by decide +kernel
theorem d_law_1041 : decode code 1041 = .ok (.iaload, 1) := by decide +kernel
theorem d_law_1042 : decode code 1042 = .ok (.ifCond .eq 7, 3) := by decide +kernel
theorem d_law_1045 : decode code 1045 = .ok (.iconst 1, 1) := by decide +kernel
theorem d_law_1046 : decode code 1046 = .ok (.goto 4, 3) := by decide +kernel
theorem d_law_1049 : decode code 1049 = .ok (.iconst 0, 1) := by decide +kernel
theorem d_law_1050 : decode code 1050 = .ok (.invokevirtual 125, 3) := by decide +kernel
theorem d_law_1053 : decode code 1053 = .ok (.aload_n 2, 1) := by decide +kernel
theorem d_law_1054 : decode code 1054 = .ok (.aload_n 0, 1) := by decide +kernel
theorem d_law_1055 : decode code 1055 = .ok (.iload_n 3, 1) := by decide +kernel
theorem d_law_1056 : decode code 1056 = .ok (.iconst 1, 1) := by decide +kernel
theorem d_law_1057 : decode code 1057 = .ok (.iadd, 1) := by decide +kernel
theorem d_law_1058 : decode code 1058 = .ok (.iaload, 1) := by decide +kernel
theorem d_law_1059 : decode code 1059 = .ok (.ifCond .eq 7, 3) := by decide +kernel
theorem d_law_1062 : decode code 1062 = .ok (.iconst 1, 1) := by decide +kernel
theorem d_law_1063 : decode code 1063 = .ok (.goto 4, 3) := by decide +kernel
theorem d_law_1066 : decode code 1066 = .ok (.iconst 0, 1) := by decide +kernel
theorem d_law_1067 : decode code 1067 = .ok (.invokevirtual 129, 3) := by decide +kernel
theorem d_law_1070 : decode code 1070 = .ok (.if_icmp .eq 549, 3) := by decide +kernel
theorem d_law_1073 : decode code 1073 = .ok (.iconst 0, 1) := by decide +kernel
theorem d_law_1074 : decode code 1074 = .ok (.ireturn, 1) := by decide +kernel
theorem d_law_1075 : decode code 1075 = .ok (.aload_n 1, 1) := by decide +kernel
theorem d_law_1076 : decode code 1076 = .ok (.aload_n 0, 1) := by decide +kernel
theorem d_law_1077 : decode code 1077 = .ok (.iload_n 3, 1) := by decide +kernel
theorem d_law_1078 : decode code 1078 = .ok (.iconst 1, 1) := by decide +kernel
theorem d_law_1079 : decode code 1079 = .ok (.iadd, 1) := by decide +kernel
theorem d_law_1080 : decode code 1080 = .ok (.iaload, 1) := by decide +kernel
theorem d_law_1081 : decode code 1081 = .ok (.invokevirtual 130, 3) := by decide +kernel
theorem d_law_1084 : decode code 1084 = .ok (.aload_n 2, 1) := by decide +kernel
theorem d_law_1085 : decode code 1085 = .ok (.aload_n 0, 1) := by decide +kernel
theorem d_law_1086 : decode code 1086 = .ok (.iload_n 3, 1) := by decide +kernel
theorem d_law_1087 : decode code 1087 = .ok (.iconst 1, 1) := by decide +kernel
theorem d_law_1088 : decode code 1088 = .ok (.iadd, 1) := by decide +kernel
theorem d_law_1089 : decode code 1089 = .ok (.iaload, 1) := by decide +kernel
theorem d_law_1090 : decode code 1090 = .ok (.invokevirtual 133, 3) := by decide +kernel
theorem d_law_1093 : decode code 1093 = .ok (.if_icmp .eq 526, 3) := by decide +kernel
theorem d_law_1096 : decode code 1096 = .ok (.iconst 0, 1) := by decide +kernel
theorem d_law_1097 : decode code 1097 = .ok (.ireturn, 1) := by decide +kernel
theorem d_law_1098 : decode code 1098 = .ok (.aload_n 1, 1) := by decide +kernel
theorem d_law_1099 : decode code 1099 = .ok (.aload_n 0, 1) := by decide +kernel
theorem d_law_1100 : decode code 1100 = .ok (.iload_n 3, 1) := by decide +kernel
theorem d_law_1101 : decode code 1101 = .ok (.iconst 1, 1) := by decide +kernel
theorem d_law_1102 : decode code 1102 = .ok (.iadd, 1) := by decide +kernel
theorem d_law_1103 : decode code 1103 = .ok (.iaload, 1) := by decide +kernel
theorem d_law_1104 : decode code 1104 = .ok (.invokevirtual 134, 3) := by decide +kernel
theorem d_law_1107 : decode code 1107 = .ok (.aload_n 2, 1) := by decide +kernel
theorem d_law_1108 : decode code 1108 = .ok (.aload_n 0, 1) := by decide +kernel
theorem d_law_1109 : decode code 1109 = .ok (.iload_n 3, 1) := by decide +kernel
theorem d_law_1110 : decode code 1110 = .ok (.iconst 1, 1) := by decide +kernel
theorem d_law_1111 : decode code 1111 = .ok (.iadd, 1) := by decide +kernel
theorem d_law_1112 : decode code 1112 = .ok (.iaload, 1) := by decide +kernel
theorem d_law_1113 : decode code 1113 = .ok (.invokevirtual 137, 3) := by decide +kernel
theorem d_law_1116 : decode code 1116 = .ok (.if_icmp .eq 503, 3) := by decide +kernel
theorem d_law_1119 : decode code 1119 = .ok (.iconst 0, 1) := by decide +kernel
theorem d_law_1120 : decode code 1120 = .ok (.ireturn, 1) := by decide +kernel
theorem d_law_1121 : decode code 1121 = .ok (.aload_n 1, 1) := by decide +kernel
theorem d_law_1122 : decode code 1122 = .ok (.aload_n 0, 1) := by decide +kernel
theorem d_law_1123 : decode code 1123 = .ok (.iload_n 3, 1) := by decide +kernel
theorem d_law_1124 : decode code 1124 = .ok (.iconst 1, 1) := by decide +kernel
theorem d_law_1125 : decode code 1125 = .ok (.iadd, 1) := by decide +kernel
theorem d_law_1126 : decode code 1126 = .ok (.iaload, 1) := by decide +kernel
theorem d_law_1127 : decode code 1127 = .ok (.invokevirtual 138, 3) := by decide +kernel
theorem d_law_1130 : decode code 1130 = .ok (.aload_n 2, 1) := by decide +kernel
theorem d_law_1131 : decode code 1131 = .ok (.aload_n 0, 1) := by decide +kernel
theorem d_law_1132 : decode code 1132 = .ok (.iload_n 3, 1) := by decide +kernel
theorem d_law_1133 : decode code 1133 = .ok (.iconst 1, 1) := by decide +kernel
theorem d_law_1134 : decode code 1134 = .ok (.iadd, 1) := by decide +kernel
theorem d_law_1135 : decode code 1135 = .ok (.iaload, 1) := by decide +kernel
theorem d_law_1136 : decode code 1136 = .ok (.invokevirtual 141, 3) := by decide +kernel
theorem d_law_1139 : decode code 1139 = .ok (.if_icmp .eq 480, 3) := by decide +kernel
theorem d_law_1142 : decode code 1142 = .ok (.iconst 0, 1) := by decide +kernel
theorem d_law_1143 : decode code 1143 = .ok (.ireturn, 1) := by decide +kernel
theorem d_law_1144 : decode code 1144 = .ok (.aload_n 1, 1) := by decide +kernel
theorem d_law_1145 : decode code 1145 = .ok (.invokevirtual 142, 3) := by decide +kernel
theorem d_law_1148 : decode code 1148 = .ok (.aload_n 2, 1) := by decide +kernel
theorem d_law_1149 : decode code 1149 = .ok (.invokevirtual 145, 3) := by decide +kernel
theorem d_law_1152 : decode code 1152 = .ok (.if_icmp .eq 467, 3) := by decide +kernel
theorem d_law_1155 : decode code 1155 = .ok (.iconst 0, 1) := by decide +kernel
theorem d_law_1156 : decode code 1156 = .ok (.ireturn, 1) := by decide +kernel
theorem d_law_1157 : decode code 1157 = .ok (.aload_n 1, 1) := by decide +kernel
theorem d_law_1158 : decode code 1158 = .ok (.invokevirtual 146, 3) := by decide +kernel
theorem d_law_1161 : decode code 1161 = .ok (.aload_n 2, 1) := by decide +kernel
theorem d_law_1162 : decode code 1162 = .ok (.invokevirtual 149, 3) := by decide +kernel
theorem d_law_1165 : decode code 1165 = .ok (.if_icmp .eq 454, 3) := by decide +kernel
theorem d_law_1168 : decode code 1168 = .ok (.iconst 0, 1) := by decide +kernel
theorem d_law_1169 : decode code 1169 = .ok (.ireturn, 1) := by decide +kernel
theorem d_law_1170 : decode code 1170 = .ok (.aload_n 1, 1) := by decide +kernel
theorem d_law_1171 : decode code 1171 = .ok (.aload_n 0, 1) := by decide +kernel
theorem d_law_1172 : decode code 1172 = .ok (.iload_n 3, 1) := by decide +kernel
theorem d_law_1173 : decode code 1173 = .ok (.iconst 1, 1) := by decide +kernel
theorem d_law_1174 : decode code 1174 = .ok (.iadd, 1) := by decide +kernel
theorem d_law_1175 : decode code 1175 = .ok (.iaload, 1) := by decide +kernel
theorem d_law_1176 : decode code 1176 = .ok (.aload_n 0, 1) := by decide +kernel
theorem d_law_1177 : decode code 1177 = .ok (.iload_n 3, 1) := by decide +kernel
theorem d_law_1178 : decode code 1178 = .ok (.iconst 2, 1) := by decide +kernel
theorem d_law_1179 : decode code 1179 = .ok (.iadd, 1) := by decide +kernel
theorem d_law_1180 : decode code 1180 = .ok (.iaload, 1) := by decide +kernel
theorem d_law_1181 : decode code 1181 = .ok (.invokevirtual 150, 3) := by decide +kernel
theorem d_law_1184 : decode code 1184 = .ok (.aload_n 2, 1) := by decide +kernel
theorem d_law_1185 : decode code 1185 = .ok (.aload_n 0, 1) := by decide +kernel
theorem d_law_1186 : decode code 1186 = .ok (.iload_n 3, 1) := by decide +kernel
theorem d_law_1187 : decode code 1187 = .ok (.iconst 1, 1) := by decide +kernel
theorem d_law_1188 : decode code 1188 = .ok (.iadd, 1) := by decide +kernel
theorem d_law_1189 : decode code 1189 = .ok (.iaload, 1) := by decide +kernel
theorem d_law_1190 : decode code 1190 = .ok (.aload_n 0, 1) := by decide +kernel
theorem d_law_1191 : decode code 1191 = .ok (.iload_n 3, 1) := by decide +kernel
theorem d_law_1192 : decode code 1192 = .ok (.iconst 2, 1) := by decide +kernel
theorem d_law_1193 : decode code 1193 = .ok (.iadd, 1) := by decide +kernel
theorem d_law_1194 : decode code 1194 = .ok (.iaload, 1) := by decide +kernel
theorem d_law_1195 : decode code 1195 = .ok (.invokevirtual 153, 3) := by decide +kernel
theorem d_law_1198 : decode code 1198 = .ok (.if_icmp .eq 421, 3) := by decide +kernel
theorem d_law_1201 : decode code 1201 = .ok (.iconst 0, 1) := by decide +kernel
theorem d_law_1202 : decode code 1202 = .ok (.ireturn, 1) := by decide +kernel
theorem d_law_1203 : decode code 1203 = .ok (.aload_n 1, 1) := by decide +kernel
theorem d_law_1204 : decode code 1204 = .ok (.aload_n 0, 1) := by decide +kernel
theorem d_law_1205 : decode code 1205 = .ok (.iload_n 3, 1) := by decide +kernel
theorem d_law_1206 : decode code 1206 = .ok (.iconst 1, 1) := by decide +kernel
theorem d_law_1207 : decode code 1207 = .ok (.iadd, 1) := by decide +kernel
theorem d_law_1208 : decode code 1208 = .ok (.iaload, 1) := by decide +kernel
theorem d_law_1209 : decode code 1209 = .ok (.invokevirtual 154, 3) := by decide +kernel
theorem d_law_1212 : decode code 1212 = .ok (.aload_n 2, 1) := by decide +kernel
theorem d_law_1213 : decode code 1213 = .ok (.aload_n 0, 1) := by decide +kernel
theorem d_law_1214 : decode code 1214 = .ok (.iload_n 3, 1) := by decide +kernel
theorem d_law_1215 : decode code 1215 = .ok (.iconst 1, 1) := by decide +kernel
theorem d_law_1216 : decode code 1216 = .ok (.iadd, 1) := by decide +kernel
theorem d_law_1217 : decode code 1217 = .ok (.iaload, 1) := by decide +kernel
theorem d_law_1218 : decode code 1218 = .ok (.invokevirtual 157, 3) := by decide +kernel
theorem d_law_1221 : decode code 1221 = .ok (.if_icmp .eq 398, 3) := by decide +kernel
theorem d_law_1224 : decode code 1224 = .ok (.iconst 0, 1) := by decide +kernel
theorem d_law_1225 : decode code 1225 = .ok (.ireturn, 1) := by decide +kernel
theorem d_law_1226 : decode code 1226 = .ok (.aload_n 1, 1) := by decide +kernel
theorem d_law_1227 : decode code 1227 = .ok (.aload_n 0, 1) := by decide +kernel
theorem d_law_1228 : decode code 1228 = .ok (.iload_n 3, 1) := by decide +kernel
theorem d_law_1229 : decode code 1229 = .ok (.iconst 1, 1) := by decide +kernel
theorem d_law_1230 : decode code 1230 = .ok (.iadd, 1) := by decide +kernel
theorem d_law_1231 : decode code 1231 = .ok (.iaload, 1) := by decide +kernel
theorem d_law_1232 : decode code 1232 = .ok (.aload_n 0, 1) := by decide +kernel
theorem d_law_1233 : decode code 1233 = .ok (.iload_n 3, 1) := by decide +kernel
theorem d_law_1234 : decode code 1234 = .ok (.iconst 2, 1) := by decide +kernel
theorem d_law_1235 : decode code 1235 = .ok (.iadd, 1) := by decide +kernel
theorem d_law_1236 : decode code 1236 = .ok (.iaload, 1) := by decide +kernel
theorem d_law_1237 : decode code 1237 = .ok (.invokevirtual 158, 3) := by decide +kernel
theorem d_law_1240 : decode code 1240 = .ok (.aload_n 2, 1) := by decide +kernel
theorem d_law_1241 : decode code 1241 = .ok (.aload_n 0, 1) := by decide +kernel
theorem d_law_1242 : decode code 1242 = .ok (.iload_n 3, 1) := by decide +kernel
theorem d_law_1243 : decode code 1243 = .ok (.iconst 1, 1) := by decide +kernel
theorem d_law_1244 : decode code 1244 = .ok (.iadd, 1) := by decide +kernel
theorem d_law_1245 : decode code 1245 = .ok (.iaload, 1) := by decide +kernel
theorem d_law_1246 : decode code 1246 = .ok (.aload_n 0, 1) := by decide +kernel
theorem d_law_1247 : decode code 1247 = .ok (.iload_n 3, 1) := by decide +kernel
theorem d_law_1248 : decode code 1248 = .ok (.iconst 2, 1) := by decide +kernel
theorem d_law_1249 : decode code 1249 = .ok (.iadd, 1) := by decide +kernel
theorem d_law_1250 : decode code 1250 = .ok (.iaload, 1) := by decide +kernel
theorem d_law_1251 : decode code 1251 = .ok (.invokevirtual 161, 3) := by decide +kernel
theorem d_law_1254 : decode code 1254 = .ok (.if_icmp .eq 365, 3) := by decide +kernel
theorem d_law_1257 : decode code 1257 = .ok (.iconst 0, 1) := by decide +kernel
theorem d_law_1258 : decode code 1258 = .ok (.ireturn, 1) := by decide +kernel
theorem d_law_1259 : decode code 1259 = .ok (.aload_n 1, 1) := by decide +kernel
theorem d_law_1260 : decode code 1260 = .ok (.invokevirtual 162, 3) := by decide +kernel
theorem d_law_1263 : decode code 1263 = .ok (.aload_n 2, 1) := by decide +kernel
theorem d_law_1264 : decode code 1264 = .ok (.invokevirtual 165, 3) := by decide +kernel
theorem d_law_1267 : decode code 1267 = .ok (.if_icmp .eq 352, 3) := by decide +kernel
theorem d_law_1270 : decode code 1270 = .ok (.iconst 0, 1) := by decide +kernel
theorem d_law_1271 : decode code 1271 = .ok (.ireturn, 1) := by decide +kernel
theorem d_law_1272 : decode code 1272 = .ok (.aload_n 1, 1) := by decide +kernel
theorem d_law_1273 : decode code 1273 = .ok (.invokevirtual 166, 3) := by decide +kernel
theorem d_law_1276 : decode code 1276 = .ok (.aload_n 2, 1) := by decide +kernel
theorem d_law_1277 : decode code 1277 = .ok (.invokevirtual 169, 3) := by decide +kernel
theorem d_law_1280 : decode code 1280 = .ok (.if_icmp .eq 339, 3) := by decide +kernel
theorem d_law_1283 : decode code 1283 = .ok (.iconst 0, 1) := by decide +kernel
theorem d_law_1284 : decode code 1284 = .ok (.ireturn, 1) := by decide +kernel
theorem d_law_1285 : decode code 1285 = .ok (.aload_n 1, 1) := by decide +kernel
theorem d_law_1286 : decode code 1286 = .ok (.aload_n 0, 1) := by decide +kernel
theorem d_law_1287 : decode code 1287 = .ok (.iload_n 3, 1) := by decide +kernel
theorem d_law_1288 : decode code 1288 = .ok (.iconst 1, 1) := by decide +kernel
theorem d_law_1289 : decode code 1289 = .ok (.iadd, 1) := by decide +kernel
theorem d_law_1290 : decode code 1290 = .ok (.iaload, 1) := by decide +kernel
theorem d_law_1291 : decode code 1291 = .ok (.aload_n 0, 1) := by decide +kernel
theorem d_law_1292 : decode code 1292 = .ok (.iload_n 3, 1) := by decide +kernel
theorem d_law_1293 : decode code 1293 = .ok (.iconst 2, 1) := by decide +kernel
theorem d_law_1294 : decode code 1294 = .ok (.iadd, 1) := by decide +kernel
theorem d_law_1295 : decode code 1295 = .ok (.iaload, 1) := by decide +kernel
theorem d_law_1296 : decode code 1296 = .ok (.aload_n 0, 1) := by decide +kernel
theorem d_law_1297 : decode code 1297 = .ok (.iload_n 3, 1) := by decide +kernel
theorem d_law_1298 : decode code 1298 = .ok (.iconst 3, 1) := by decide +kernel
theorem d_law_1299 : decode code 1299 = .ok (.iadd, 1) := by decide +kernel
theorem d_law_1300 : decode code 1300 = .ok (.iaload, 1) := by decide +kernel
theorem d_law_1301 : decode code 1301 = .ok (.invokevirtual 170, 3) := by decide +kernel
theorem d_law_1304 : decode code 1304 = .ok (.aload_n 2, 1) := by decide +kernel
theorem d_law_1305 : decode code 1305 = .ok (.aload_n 0, 1) := by decide +kernel
theorem d_law_1306 : decode code 1306 = .ok (.iload_n 3, 1) := by decide +kernel
theorem d_law_1307 : decode code 1307 = .ok (.iconst 1, 1) := by decide +kernel
theorem d_law_1308 : decode code 1308 = .ok (.iadd, 1) := by decide +kernel
theorem d_law_1309 : decode code 1309 = .ok (.iaload, 1) := by decide +kernel
theorem d_law_1310 : decode code 1310 = .ok (.aload_n 0, 1) := by decide +kernel
theorem d_law_1311 : decode code 1311 = .ok (.iload_n 3, 1) := by decide +kernel
theorem d_law_1312 : decode code 1312 = .ok (.iconst 2, 1) := by decide +kernel
theorem d_law_1313 : decode code 1313 = .ok (.iadd, 1) := by decide +kernel
theorem d_law_1314 : decode code 1314 = .ok (.iaload, 1) := by decide +kernel
theorem d_law_1315 : decode code 1315 = .ok (.aload_n 0, 1) := by decide +kernel
theorem d_law_1316 : decode code 1316 = .ok (.iload_n 3, 1) := by decide +kernel
theorem d_law_1317 : decode code 1317 = .ok (.iconst 3, 1) := by decide +kernel
theorem d_law_1318 : decode code 1318 = .ok (.iadd, 1) := by decide +kernel
theorem d_law_1319 : decode code 1319 = .ok (.iaload, 1) := by decide +kernel
theorem d_law_1320 : decode code 1320 = .ok (.invokevirtual 173, 3) := by decide +kernel
theorem d_law_1323 : decode code 1323 = .ok (.if_icmp .eq 296, 3) := by decide +kernel
theorem d_law_1326 : decode code 1326 = .ok (.iconst 0, 1) := by decide +kernel
theorem d_law_1327 : decode code 1327 = .ok (.ireturn, 1) := by decide +kernel
theorem d_law_1328 : decode code 1328 = .ok (.aload_n 1, 1) := by decide +kernel
theorem d_law_1329 : decode code 1329 = .ok (.aload_n 0, 1) := by decide +kernel
theorem d_law_1330 : decode code 1330 = .ok (.iload_n 3, 1) := by decide +kernel
theorem d_law_1331 : decode code 1331 = .ok (.iconst 1, 1) := by decide +kernel
theorem d_law_1332 : decode code 1332 = .ok (.iadd, 1) := by decide +kernel
theorem d_law_1333 : decode code 1333 = .ok (.iaload, 1) := by decide +kernel
theorem d_law_1334 : decode code 1334 = .ok (.aload_n 0, 1) := by decide +kernel
theorem d_law_1335 : decode code 1335 = .ok (.iload_n 3, 1) := by decide +kernel
theorem d_law_1336 : decode code 1336 = .ok (.iconst 2, 1) := by decide +kernel
theorem d_law_1337 : decode code 1337 = .ok (.iadd, 1) := by decide +kernel
theorem d_law_1338 : decode code 1338 = .ok (.iaload, 1) := by decide +kernel
theorem d_law_1339 : decode code 1339 = .ok (.aload_n 0, 1) := by decide +kernel
theorem d_law_1340 : decode code 1340 = .ok (.iload_n 3, 1) := by decide +kernel
theorem d_law_1341 : decode code 1341 = .ok (.iconst 3, 1) := by decide +kernel
theorem d_law_1342 : decode code 1342 = .ok (.iadd, 1) := by decide +kernel
theorem d_law_1343 : decode code 1343 = .ok (.iaload, 1) := by decide +kernel
theorem d_law_1344 : decode code 1344 = .ok (.i2l, 1) := by decide +kernel
theorem d_law_1345 : decode code 1345 = .ok (.bipush 32, 2) := by decide +kernel
theorem d_law_1347 : decode code 1347 = .ok (.lshl, 1) := by decide +kernel
theorem d_law_1348 : decode code 1348 = .ok (.aload_n 0, 1) := by decide +kernel
theorem d_law_1349 : decode code 1349 = .ok (.iload_n 3, 1) := by decide +kernel
theorem d_law_1350 : decode code 1350 = .ok (.iconst 4, 1) := by decide +kernel
theorem d_law_1351 : decode code 1351 = .ok (.iadd, 1) := by decide +kernel
theorem d_law_1352 : decode code 1352 = .ok (.iaload, 1) := by decide +kernel
theorem d_law_1353 : decode code 1353 = .ok (.i2l, 1) := by decide +kernel
theorem d_law_1354 : decode code 1354 = .ok (.ldc2_w 174, 3) := by decide +kernel
theorem d_law_1357 : decode code 1357 = .ok (.land, 1) := by decide +kernel
theorem d_law_1358 : decode code 1358 = .ok (.lor, 1) := by decide +kernel
theorem d_law_1359 : decode code 1359 = .ok (.invokevirtual 176, 3) := by decide +kernel
theorem d_law_1362 : decode code 1362 = .ok (.aload_n 2, 1) := by decide +kernel
theorem d_law_1363 : decode code 1363 = .ok (.aload_n 0, 1) := by decide +kernel
theorem d_law_1364 : decode code 1364 = .ok (.iload_n 3, 1) := by decide +kernel
theorem d_law_1365 : decode code 1365 = .ok (.iconst 1, 1) := by decide +kernel
theorem d_law_1366 : decode code 1366 = .ok (.iadd, 1) := by decide +kernel
theorem d_law_1367 : decode code 1367 = .ok (.iaload, 1) := by decide +kernel
theorem d_law_1368 : decode code 1368 = .ok (.aload_n 0, 1) := by decide +kernel
theorem d_law_1369 : decode code 1369 = .ok (.iload_n 3, 1) := by decide +kernel
theorem d_law_1370 : decode code 1370 = .ok (.iconst 2, 1) := by decide +kernel
theorem d_law_1371 : decode code 1371 = .ok (.iadd, 1) := by decide +kernel
theorem d_law_1372 : decode code 1372 = .ok (.iaload, 1) := by decide +kernel
theorem d_law_1373 : decode code 1373 = .ok (.aload_n 0, 1) := by decide +kernel
theorem d_law_1374 : decode code 1374 = .ok (.iload_n 3, 1) := by decide +kernel
theorem d_law_1375 : decode code 1375 = .ok (.iconst 3, 1) := by decide +kernel
theorem d_law_1376 : decode code 1376 = .ok (.iadd, 1) := by decide +kernel
theorem d_law_1377 : decode code 1377 = .ok (.iaload, 1) := by decide +kernel
theorem d_law_1378 : decode code 1378 = .ok (.i2l, 1) := by decide +kernel
theorem d_law_1379 : decode code 1379 = .ok (.bipush 32, 2) := by decide +kernel
theorem d_law_1381 : decode code 1381 = .ok (.lshl, 1) := by decide +kernel
theorem d_law_1382 : decode code 1382 = .ok (.aload_n 0, 1) := by decide +kernel
theorem d_law_1383 : decode code 1383 = .ok (.iload_n 3, 1) := by decide +kernel
theorem d_law_1384 : decode code 1384 = .ok (.iconst 4, 1) := by decide +kernel
theorem d_law_1385 : decode code 1385 = .ok (.iadd, 1) := by decide +kernel
theorem d_law_1386 : decode code 1386 = .ok (.iaload, 1) := by decide +kernel
theorem d_law_1387 : decode code 1387 = .ok (.i2l, 1) := by decide +kernel
theorem d_law_1388 : decode code 1388 = .ok (.ldc2_w 174, 3) := by decide +kernel
theorem d_law_1391 : decode code 1391 = .ok (.land, 1) := by decide +kernel
theorem d_law_1392 : decode code 1392 = .ok (.lor, 1) := by decide +kernel
theorem d_law_1393 : decode code 1393 = .ok (.invokevirtual 180, 3) := by decide +kernel
theorem d_law_1396 : decode code 1396 = .ok (.lcmp, 1) := by decide +kernel
theorem d_law_1397 : decode code 1397 = .ok (.ifCond .eq 222, 3) := by decide +kernel
theorem d_law_1400 : decode code 1400 = .ok (.iconst 0, 1) := by decide +kernel
theorem d_law_1401 : decode code 1401 = .ok (.ireturn, 1) := by decide +kernel
theorem d_law_1402 : decode code 1402 = .ok (.aload_n 1, 1) := by decide +kernel
theorem d_law_1403 : decode code 1403 = .ok (.aload_n 0, 1) := by decide +kernel
theorem d_law_1404 : decode code 1404 = .ok (.iload_n 3, 1) := by decide +kernel
theorem d_law_1405 : decode code 1405 = .ok (.iconst 1, 1) := by decide +kernel
theorem d_law_1406 : decode code 1406 = .ok (.iadd, 1) := by decide +kernel
theorem d_law_1407 : decode code 1407 = .ok (.iaload, 1) := by decide +kernel
theorem d_law_1408 : decode code 1408 = .ok (.aload_n 0, 1) := by decide +kernel
theorem d_law_1409 : decode code 1409 = .ok (.iload_n 3, 1) := by decide +kernel
theorem d_law_1410 : decode code 1410 = .ok (.iconst 2, 1) := by decide +kernel
theorem d_law_1411 : decode code 1411 = .ok (.iadd, 1) := by decide +kernel
theorem d_law_1412 : decode code 1412 = .ok (.iaload, 1) := by decide +kernel
theorem d_law_1413 : decode code 1413 = .ok (.aload_n 0, 1) := by decide +kernel
theorem d_law_1414 : decode code 1414 = .ok (.iload_n 3, 1) := by decide +kernel
theorem d_law_1415 : decode code 1415 = .ok (.iconst 3, 1) := by decide +kernel
theorem d_law_1416 : decode code 1416 = .ok (.iadd, 1) := by decide +kernel
theorem d_law_1417 : decode code 1417 = .ok (.iaload, 1) := by decide +kernel
theorem d_law_1418 : decode code 1418 = .ok (.aload_n 0, 1) := by decide +kernel
theorem d_law_1419 : decode code 1419 = .ok (.iload_n 3, 1) := by decide +kernel
theorem d_law_1420 : decode code 1420 = .ok (.iconst 4, 1) := by decide +kernel
theorem d_law_1421 : decode code 1421 = .ok (.iadd, 1) := by decide +kernel
theorem d_law_1422 : decode code 1422 = .ok (.iaload, 1) := by decide +kernel
theorem d_law_1423 : decode code 1423 = .ok (.aload_n 0, 1) := by decide +kernel
theorem d_law_1424 : decode code 1424 = .ok (.iload_n 3, 1) := by decide +kernel
theorem d_law_1425 : decode code 1425 = .ok (.iconst 5, 1) := by decide +kernel
theorem d_law_1426 : decode code 1426 = .ok (.iadd, 1) := by decide +kernel
theorem d_law_1427 : decode code 1427 = .ok (.iaload, 1) := by decide +kernel
theorem d_law_1428 : decode code 1428 = .ok (.invokevirtual 181, 3) := by decide +kernel
theorem d_law_1431 : decode code 1431 = .ok (.aload_n 2, 1) := by decide +kernel
theorem d_law_1432 : decode code 1432 = .ok (.aload_n 0, 1) := by decide +kernel
theorem d_law_1433 : decode code 1433 = .ok (.iload_n 3, 1) := by decide +kernel
theorem d_law_1434 : decode code 1434 = .ok (.iconst 1, 1) := by decide +kernel
theorem d_law_1435 : decode code 1435 = .ok (.iadd, 1) := by decide +kernel
theorem d_law_1436 : decode code 1436 = .ok (.iaload, 1) := by decide +kernel
theorem d_law_1437 : decode code 1437 = .ok (.aload_n 0, 1) := by decide +kernel
theorem d_law_1438 : decode code 1438 = .ok (.iload_n 3, 1) := by decide +kernel
theorem d_law_1439 : decode code 1439 = .ok (.iconst 2, 1) := by decide +kernel
theorem d_law_1440 : decode code 1440 = .ok (.iadd, 1) := by decide +kernel
theorem d_law_1441 : decode code 1441 = .ok (.iaload, 1) := by decide +kernel
theorem d_law_1442 : decode code 1442 = .ok (.aload_n 0, 1) := by decide +kernel
theorem d_law_1443 : decode code 1443 = .ok (.iload_n 3, 1) := by decide +kernel
theorem d_law_1444 : decode code 1444 = .ok (.iconst 3, 1) := by decide +kernel
theorem d_law_1445 : decode code 1445 = .ok (.iadd, 1) := by decide +kernel
theorem d_law_1446 : decode code 1446 = .ok (.iaload, 1) := by decide +kernel
theorem d_law_1447 : decode code 1447 = .ok (.aload_n 0, 1) := by decide +kernel
theorem d_law_1448 : decode code 1448 = .ok (.iload_n 3, 1) := by decide +kernel
theorem d_law_1449 : decode code 1449 = .ok (.iconst 4, 1) := by decide +kernel
theorem d_law_1450 : decode code 1450 = .ok (.iadd, 1) := by decide +kernel
theorem d_law_1451 : decode code 1451 = .ok (.iaload, 1) := by decide +kernel
theorem d_law_1452 : decode code 1452 = .ok (.aload_n 0, 1) := by decide +kernel
theorem d_law_1453 : decode code 1453 = .ok (.iload_n 3, 1) := by decide +kernel
theorem d_law_1454 : decode code 1454 = .ok (.iconst 5, 1) := by decide +kernel
theorem d_law_1455 : decode code 1455 = .ok (.iadd, 1) := by decide +kernel
theorem d_law_1456 : decode code 1456 = .ok (.iaload, 1) := by decide +kernel
theorem d_law_1457 : decode code 1457 = .ok (.invokevirtual 184, 3) := by decide +kernel
theorem d_law_1460 : decode code 1460 = .ok (.if_icmp .eq 159, 3) := by decide +kernel
theorem d_law_1463 : decode code 1463 = .ok (.iconst 0, 1) := by decide +kernel
theorem d_law_1464 : decode code 1464 = .ok (.ireturn, 1) := by decide +kernel
theorem d_law_1465 : decode code 1465 = .ok (.aload_n 1, 1) := by decide +kernel
theorem d_law_1466 : decode code 1466 = .ok (.aload_n 0, 1) := by decide +kernel
theorem d_law_1467 : decode code 1467 = .ok (.iload_n 3, 1) := by decide +kernel
theorem d_law_1468 : decode code 1468 = .ok (.iconst 1, 1) := by decide +kernel
theorem d_law_1469 : decode code 1469 = .ok (.iadd, 1) := by decide +kernel
theorem d_law_1470 : decode code 1470 = .ok (.iaload, 1) := by decide +kernel
theorem d_law_1471 : decode code 1471 = .ok (.invokevirtual 185, 3) := by decide +kernel
theorem d_law_1474 : decode code 1474 = .ok (.aload_n 2, 1) := by decide +kernel
theorem d_law_1475 : decode code 1475 = .ok (.aload_n 0, 1) := by decide +kernel
theorem d_law_1476 : decode code 1476 = .ok (.iload_n 3, 1) := by decide +kernel
theorem d_law_1477 : decode code 1477 = .ok (.iconst 1, 1) := by decide +kernel
theorem d_law_1478 : decode code 1478 = .ok (.iadd, 1) := by decide +kernel
theorem d_law_1479 : decode code 1479 = .ok (.iaload, 1) := by decide +kernel
theorem d_law_1480 : decode code 1480 = .ok (.invokevirtual 188, 3) := by decide +kernel
theorem d_law_1483 : decode code 1483 = .ok (.if_icmp .eq 136, 3) := by decide +kernel
theorem d_law_1486 : decode code 1486 = .ok (.iconst 0, 1) := by decide +kernel
theorem d_law_1487 : decode code 1487 = .ok (.ireturn, 1) := by decide +kernel
theorem d_law_1488 : decode code 1488 = .ok (.aload_n 1, 1) := by decide +kernel
theorem d_law_1489 : decode code 1489 = .ok (.aload_n 0, 1) := by decide +kernel
theorem d_law_1490 : decode code 1490 = .ok (.iload_n 3, 1) := by decide +kernel
theorem d_law_1491 : decode code 1491 = .ok (.iconst 1, 1) := by decide +kernel
theorem d_law_1492 : decode code 1492 = .ok (.iadd, 1) := by decide +kernel
theorem d_law_1493 : decode code 1493 = .ok (.iaload, 1) := by decide +kernel
theorem d_law_1494 : decode code 1494 = .ok (.invokevirtual 189, 3) := by decide +kernel
theorem d_law_1497 : decode code 1497 = .ok (.aload_n 2, 1) := by decide +kernel
theorem d_law_1498 : decode code 1498 = .ok (.aload_n 0, 1) := by decide +kernel
theorem d_law_1499 : decode code 1499 = .ok (.iload_n 3, 1) := by decide +kernel
theorem d_law_1500 : decode code 1500 = .ok (.iconst 1, 1) := by decide +kernel
theorem d_law_1501 : decode code 1501 = .ok (.iadd, 1) := by decide +kernel
theorem d_law_1502 : decode code 1502 = .ok (.iaload, 1) := by decide +kernel
theorem d_law_1503 : decode code 1503 = .ok (.invokevirtual 192, 3) := by decide +kernel
theorem d_law_1506 : decode code 1506 = .ok (.if_icmp .eq 113, 3) := by decide +kernel
theorem d_law_1509 : decode code 1509 = .ok (.iconst 0, 1) := by decide +kernel
theorem d_law_1510 : decode code 1510 = .ok (.ireturn, 1) := by decide +kernel
theorem d_law_1511 : decode code 1511 = .ok (.aload_n 1, 1) := by decide +kernel
theorem d_law_1512 : decode code 1512 = .ok (.aload_n 0, 1) := by decide +kernel
theorem d_law_1513 : decode code 1513 = .ok (.iload_n 3, 1) := by decide +kernel
theorem d_law_1514 : decode code 1514 = .ok (.iconst 1, 1) := by decide +kernel
theorem d_law_1515 : decode code 1515 = .ok (.iadd, 1) := by decide +kernel
theorem d_law_1516 : decode code 1516 = .ok (.iaload, 1) := by decide +kernel
theorem d_law_1517 : decode code 1517 = .ok (.invokevirtual 193, 3) := by decide +kernel
theorem d_law_1520 : decode code 1520 = .ok (.aload_n 2, 1) := by decide +kernel
theorem d_law_1521 : decode code 1521 = .ok (.aload_n 0, 1) := by decide +kernel
theorem d_law_1522 : decode code 1522 = .ok (.iload_n 3, 1) := by decide +kernel
theorem d_law_1523 : decode code 1523 = .ok (.iconst 1, 1) := by decide +kernel
theorem d_law_1524 : decode code 1524 = .ok (.iadd, 1) := by decide +kernel
theorem d_law_1525 : decode code 1525 = .ok (.iaload, 1) := by decide +kernel
theorem d_law_1526 : decode code 1526 = .ok (.invokevirtual 196, 3) := by decide +kernel
theorem d_law_1529 : decode code 1529 = .ok (.if_icmp .eq 90, 3) := by decide +kernel
theorem d_law_1532 : decode code 1532 = .ok (.iconst 0, 1) := by decide +kernel
theorem d_law_1533 : decode code 1533 = .ok (.ireturn, 1) := by decide +kernel
theorem d_law_1534 : decode code 1534 = .ok (.aload_n 1, 1) := by decide +kernel
theorem d_law_1535 : decode code 1535 = .ok (.invokevirtual 197, 3) := by decide +kernel
theorem d_law_1538 : decode code 1538 = .ok (.aload_n 2, 1) := by decide +kernel
theorem d_law_1539 : decode code 1539 = .ok (.invokevirtual 200, 3) := by decide +kernel
theorem d_law_1542 : decode code 1542 = .ok (.if_icmp .eq 77, 3) := by decide +kernel
theorem d_law_1545 : decode code 1545 = .ok (.iconst 0, 1) := by decide +kernel
theorem d_law_1546 : decode code 1546 = .ok (.ireturn, 1) := by decide +kernel
theorem d_law_1547 : decode code 1547 = .ok (.aload_n 1, 1) := by decide +kernel
theorem d_law_1548 : decode code 1548 = .ok (.invokevirtual 201, 3) := by decide +kernel
theorem d_law_1551 : decode code 1551 = .ok (.aload_n 2, 1) := by decide +kernel
theorem d_law_1552 : decode code 1552 = .ok (.invokevirtual 204, 3) := by decide +kernel
theorem d_law_1555 : decode code 1555 = .ok (.if_icmp .eq 64, 3) := by decide +kernel
theorem d_law_1558 : decode code 1558 = .ok (.iconst 0, 1) := by decide +kernel
theorem d_law_1559 : decode code 1559 = .ok (.ireturn, 1) := by decide +kernel
theorem d_law_1560 : decode code 1560 = .ok (.aload_n 1, 1) := by decide +kernel
theorem d_law_1561 : decode code 1561 = .ok (.invokevirtual 205, 3) := by decide +kernel
theorem d_law_1564 : decode code 1564 = .ok (.aload_n 2, 1) := by decide +kernel
theorem d_law_1565 : decode code 1565 = .ok (.invokevirtual 208, 3) := by decide +kernel
theorem d_law_1568 : decode code 1568 = .ok (.if_icmp .eq 51, 3) := by decide +kernel
theorem d_law_1571 : decode code 1571 = .ok (.iconst 0, 1) := by decide +kernel
theorem d_law_1572 : decode code 1572 = .ok (.ireturn, 1) := by decide +kernel
theorem d_law_1573 : decode code 1573 = .ok (.aload_n 1, 1) := by decide +kernel
theorem d_law_1574 : decode code 1574 = .ok (.aload_n 0, 1) := by decide +kernel
theorem d_law_1575 : decode code 1575 = .ok (.iload_n 3, 1) := by decide +kernel
theorem d_law_1576 : decode code 1576 = .ok (.iconst 1, 1) := by decide +kernel
theorem d_law_1577 : decode code 1577 = .ok (.iadd, 1) := by decide +kernel
theorem d_law_1578 : decode code 1578 = .ok (.iaload, 1) := by decide +kernel
theorem d_law_1579 : decode code 1579 = .ok (.invokevirtual 209, 3) := by decide +kernel
theorem d_law_1582 : decode code 1582 = .ok (.aload_n 2, 1) := by decide +kernel
theorem d_law_1583 : decode code 1583 = .ok (.aload_n 0, 1) := by decide +kernel
theorem d_law_1584 : decode code 1584 = .ok (.iload_n 3, 1) := by decide +kernel
theorem d_law_1585 : decode code 1585 = .ok (.iconst 1, 1) := by decide +kernel
theorem d_law_1586 : decode code 1586 = .ok (.iadd, 1) := by decide +kernel
theorem d_law_1587 : decode code 1587 = .ok (.iaload, 1) := by decide +kernel
theorem d_law_1588 : decode code 1588 = .ok (.invokevirtual 212, 3) := by decide +kernel
theorem d_law_1591 : decode code 1591 = .ok (.if_icmp .eq 28, 3) := by decide +kernel
theorem d_law_1594 : decode code 1594 = .ok (.iconst 0, 1) := by decide +kernel
theorem d_law_1595 : decode code 1595 = .ok (.ireturn, 1) := by decide +kernel
theorem d_law_1596 : decode code 1596 = .ok (.aload_n 1, 1) := by decide +kernel
theorem d_law_1597 : decode code 1597 = .ok (.aload_n 0, 1) := by decide +kernel
theorem d_law_1598 : decode code 1598 = .ok (.iload_n 3, 1) := by decide +kernel
theorem d_law_1599 : decode code 1599 = .ok (.iconst 1, 1) := by decide +kernel
theorem d_law_1600 : decode code 1600 = .ok (.iadd, 1) := by decide +kernel
theorem d_law_1601 : decode code 1601 = .ok (.iaload, 1) := by decide +kernel
theorem d_law_1602 : decode code 1602 = .ok (.invokevirtual 213, 3) := by decide +kernel
theorem d_law_1605 : decode code 1605 = .ok (.aload_n 2, 1) := by decide +kernel
theorem d_law_1606 : decode code 1606 = .ok (.aload_n 0, 1) := by decide +kernel
theorem d_law_1607 : decode code 1607 = .ok (.iload_n 3, 1) := by decide +kernel
theorem d_law_1608 : decode code 1608 = .ok (.iconst 1, 1) := by decide +kernel
theorem d_law_1609 : decode code 1609 = .ok (.iadd, 1) := by decide +kernel
theorem d_law_1610 : decode code 1610 = .ok (.iaload, 1) := by decide +kernel
theorem d_law_1611 : decode code 1611 = .ok (.invokevirtual 216, 3) := by decide +kernel
theorem d_law_1614 : decode code 1614 = .ok (.if_icmp .eq 5, 3) := by decide +kernel
theorem d_law_1617 : decode code 1617 = .ok (.iconst 0, 1) := by decide +kernel
theorem d_law_1618 : decode code 1618 = .ok (.ireturn, 1) := by decide +kernel
theorem d_law_1619 : decode code 1619 = .ok (.iinc 3 6, 3) := by decide +kernel
theorem d_law_1622 : decode code 1622 = .ok (.goto (-1604), 3) := by decide +kernel
theorem d_law_1625 : decode code 1625 = .ok (.iconst 1, 1) := by decide +kernel
theorem d_law_1626 : decode code 1626 = .ok (.ireturn, 1) := by decide +kernel
