/-! ===== the constructors: tables and making objects (printed by wip/gen/ctor.py) ===== -/
theorem dX9_init_0 : decode cX9_init 0 = .ok (.aload_n 0, 1) := by decide +kernel
theorem dX9_init_1 : decode cX9_init 1 = .ok (.invokespecial 3, 3) := by decide +kernel
theorem dX9_init_4 : decode cX9_init 4 = .ok (.aload_n 0, 1) := by decide +kernel
theorem dX9_init_5 : decode cX9_init 5 = .ok (.bipush 20, 2) := by decide +kernel
theorem dX9_init_7 : decode cX9_init 7 = .ok (.newarray .int, 2) := by decide +kernel
theorem dX9_init_9 : decode cX9_init 9 = .ok (.putfield 9, 3) := by decide +kernel
theorem dX9_init_12 : decode cX9_init 12 = .ok (.aload_n 0, 1) := by decide +kernel
theorem dX9_init_13 : decode cX9_init 13 = .ok (.bipush 20, 2) := by decide +kernel
theorem dX9_init_15 : decode cX9_init 15 = .ok (.newarray .int, 2) := by decide +kernel
theorem dX9_init_17 : decode cX9_init 17 = .ok (.putfield 15, 3) := by decide +kernel
theorem dX9_init_20 : decode cX9_init 20 = .ok (.aload_n 0, 1) := by decide +kernel
theorem dX9_init_21 : decode cX9_init 21 = .ok (.bipush 20, 2) := by decide +kernel
theorem dX9_init_23 : decode cX9_init 23 = .ok (.newarray .int, 2) := by decide +kernel
theorem dX9_init_25 : decode cX9_init 25 = .ok (.putfield 18, 3) := by decide +kernel
theorem dX9_init_28 : decode cX9_init 28 = .ok (.aload_n 0, 1) := by decide +kernel
theorem dX9_init_29 : decode cX9_init 29 = .ok (.bipush 20, 2) := by decide +kernel
theorem dX9_init_31 : decode cX9_init 31 = .ok (.newarray .int, 2) := by decide +kernel
theorem dX9_init_33 : decode cX9_init 33 = .ok (.putfield 21, 3) := by decide +kernel
theorem dX9_init_36 : decode cX9_init 36 = .ok (.aload_n 0, 1) := by decide +kernel
theorem dX9_init_37 : decode cX9_init 37 = .ok (.bipush 20, 2) := by decide +kernel
theorem dX9_init_39 : decode cX9_init 39 = .ok (.newarray .int, 2) := by decide +kernel
theorem dX9_init_41 : decode cX9_init 41 = .ok (.putfield 24, 3) := by decide +kernel
theorem dX9_init_44 : decode cX9_init 44 = .ok (.aload_n 0, 1) := by decide +kernel
theorem dX9_init_45 : decode cX9_init 45 = .ok (.getstatic 27, 3) := by decide +kernel
theorem dX9_init_48 : decode cX9_init 48 = .ok (.invokevirtual 30, 3) := by decide +kernel
theorem dX9_init_51 : decode cX9_init 51 = .ok (.checkcast 31, 3) := by decide +kernel
theorem dX9_init_54 : decode cX9_init 54 = .ok (.putfield 35, 3) := by decide +kernel
theorem dX9_init_57 : decode cX9_init 57 = .ok (.aload_n 0, 1) := by decide +kernel
theorem dX9_init_58 : decode cX9_init 58 = .ok (.bipush 6, 2) := by decide +kernel
theorem dX9_init_60 : decode cX9_init 60 = .ok (.anewarray 38, 3) := by decide +kernel
theorem dX9_init_63 : decode cX9_init 63 = .ok (.putfield 40, 3) := by decide +kernel
theorem dX9_init_66 : decode cX9_init 66 = .ok (.aload_n 0, 1) := by decide +kernel
theorem dX9_init_67 : decode cX9_init 67 = .ok (.iconst (-1), 1) := by decide +kernel
theorem dX9_init_68 : decode cX9_init 68 = .ok (.putfield 44, 3) := by decide +kernel
theorem dX9_init_71 : decode cX9_init 71 = .ok (.aload_n 0, 1) := by decide +kernel
theorem dX9_init_72 : decode cX9_init 72 = .ok (.bipush 120, 2) := by decide +kernel
theorem dX9_init_74 : decode cX9_init 74 = .ok (.newarray .int, 2) := by decide +kernel
theorem dX9_init_76 : decode cX9_init 76 = .ok (.putfield 48, 3) := by decide +kernel
theorem dX9_init_79 : decode cX9_init 79 = .ok (.aload_n 0, 1) := by decide +kernel
theorem dX9_init_80 : decode cX9_init 80 = .ok (.bipush 120, 2) := by decide +kernel
theorem dX9_init_82 : decode cX9_init 82 = .ok (.newarray .int, 2) := by decide +kernel
theorem dX9_init_84 : decode cX9_init 84 = .ok (.putfield 51, 3) := by decide +kernel
theorem dX9_init_87 : decode cX9_init 87 = .ok (.aload_n 0, 1) := by decide +kernel
theorem dX9_init_88 : decode cX9_init 88 = .ok (.iconst 3, 1) := by decide +kernel
theorem dX9_init_89 : decode cX9_init 89 = .ok (.newarray .int, 2) := by decide +kernel
theorem dX9_init_91 : decode cX9_init 91 = .ok (.putfield 54, 3) := by decide +kernel
theorem dX9_init_94 : decode cX9_init 94 = .ok (.aload_n 0, 1) := by decide +kernel
theorem dX9_init_95 : decode cX9_init 95 = .ok (.bipush 40, 2) := by decide +kernel
theorem dX9_init_97 : decode cX9_init 97 = .ok (.newarray .int, 2) := by decide +kernel
theorem dX9_init_99 : decode cX9_init 99 = .ok (.putfield 57, 3) := by decide +kernel
theorem dX9_init_102 : decode cX9_init 102 = .ok (.return_, 1) := by decide +kernel
abbrev YX9_init : zY := (yX9_init, cX9_init, 1, none, [])
theorem dX6_init_0 : decode cX6_init 0 = .ok (.aload_n 0, 1) := by decide +kernel
theorem dX6_init_1 : decode cX6_init 1 = .ok (.invokespecial 3, 3) := by decide +kernel
theorem dX6_init_4 : decode cX6_init 4 = .ok (.aload_n 0, 1) := by decide +kernel
theorem dX6_init_5 : decode cX6_init 5 = .ok (.sipush 401, 3) := by decide +kernel
theorem dX6_init_8 : decode cX6_init 8 = .ok (.newarray .int, 2) := by decide +kernel
theorem dX6_init_10 : decode cX6_init 10 = .ok (.putfield 9, 3) := by decide +kernel
theorem dX6_init_13 : decode cX6_init 13 = .ok (.aload_n 0, 1) := by decide +kernel
theorem dX6_init_14 : decode cX6_init 14 = .ok (.sipush 401, 3) := by decide +kernel
theorem dX6_init_17 : decode cX6_init 17 = .ok (.newarray .int, 2) := by decide +kernel
theorem dX6_init_19 : decode cX6_init 19 = .ok (.putfield 15, 3) := by decide +kernel
theorem dX6_init_22 : decode cX6_init 22 = .ok (.aload_n 0, 1) := by decide +kernel
theorem dX6_init_23 : decode cX6_init 23 = .ok (.sipush 401, 3) := by decide +kernel
theorem dX6_init_26 : decode cX6_init 26 = .ok (.newarray .int, 2) := by decide +kernel
theorem dX6_init_28 : decode cX6_init 28 = .ok (.putfield 18, 3) := by decide +kernel
theorem dX6_init_31 : decode cX6_init 31 = .ok (.aload_n 0, 1) := by decide +kernel
theorem dX6_init_32 : decode cX6_init 32 = .ok (.bipush 12, 2) := by decide +kernel
theorem dX6_init_34 : decode cX6_init 34 = .ok (.newarray .int, 2) := by decide +kernel
theorem dX6_init_36 : decode cX6_init 36 = .ok (.putfield 23, 3) := by decide +kernel
theorem dX6_init_39 : decode cX6_init 39 = .ok (.aload_n 0, 1) := by decide +kernel
theorem dX6_init_40 : decode cX6_init 40 = .ok (.bipush 13, 2) := by decide +kernel
theorem dX6_init_42 : decode cX6_init 42 = .ok (.newarray .int, 2) := by decide +kernel
theorem dX6_init_44 : decode cX6_init 44 = .ok (.putfield 26, 3) := by decide +kernel
theorem dX6_init_47 : decode cX6_init 47 = .ok (.aload_n 0, 1) := by decide +kernel
theorem dX6_init_48 : decode cX6_init 48 = .ok (.sipush 412, 3) := by decide +kernel
theorem dX6_init_51 : decode cX6_init 51 = .ok (.newarray .int, 2) := by decide +kernel
theorem dX6_init_53 : decode cX6_init 53 = .ok (.putfield 29, 3) := by decide +kernel
theorem dX6_init_56 : decode cX6_init 56 = .ok (.aload_n 0, 1) := by decide +kernel
theorem dX6_init_57 : decode cX6_init 57 = .ok (.iconst (-1), 1) := by decide +kernel
theorem dX6_init_58 : decode cX6_init 58 = .ok (.putfield 32, 3) := by decide +kernel
theorem dX6_init_61 : decode cX6_init 61 = .ok (.return_, 1) := by decide +kernel
abbrev YX6_init : zY := (yX6_init, cX6_init, 1, none, [])
theorem dX5_init_0 : decode cX5_init 0 = .ok (.aload_n 0, 1) := by decide +kernel
theorem dX5_init_1 : decode cX5_init 1 = .ok (.invokespecial 5, 3) := by decide +kernel
theorem dX5_init_4 : decode cX5_init 4 = .ok (.aload_n 0, 1) := by decide +kernel
theorem dX5_init_5 : decode cX5_init 5 = .ok (.bipush 9, 2) := by decide +kernel
theorem dX5_init_7 : decode cX5_init 7 = .ok (.newarray .long, 2) := by decide +kernel
theorem dX5_init_9 : decode cX5_init 9 = .ok (.putfield 11, 3) := by decide +kernel
theorem dX5_init_12 : decode cX5_init 12 = .ok (.aload_n 0, 1) := by decide +kernel
theorem dX5_init_13 : decode cX5_init 13 = .ok (.bipush 9, 2) := by decide +kernel
theorem dX5_init_15 : decode cX5_init 15 = .ok (.newarray .long, 2) := by decide +kernel
theorem dX5_init_17 : decode cX5_init 17 = .ok (.putfield 15, 3) := by decide +kernel
theorem dX5_init_20 : decode cX5_init 20 = .ok (.return_, 1) := by decide +kernel
abbrev YX5_init : zY := (yX5_init, cX5_init, 1, none, [])
theorem dX10_init_0 : decode cX10_init 0 = .ok (.aload_n 0, 1) := by decide +kernel
theorem dX10_init_1 : decode cX10_init 1 = .ok (.invokespecial 3, 3) := by decide +kernel
theorem dX10_init_4 : decode cX10_init 4 = .ok (.aload_n 0, 1) := by decide +kernel
theorem dX10_init_5 : decode cX10_init 5 = .ok (.bipush 7, 2) := by decide +kernel
theorem dX10_init_7 : decode cX10_init 7 = .ok (.newarray .int, 2) := by decide +kernel
theorem dX10_init_9 : decode cX10_init 9 = .ok (.putfield 11, 3) := by decide +kernel
theorem dX10_init_12 : decode cX10_init 12 = .ok (.aload_n 0, 1) := by decide +kernel
theorem dX10_init_13 : decode cX10_init 13 = .ok (.bipush 52, 2) := by decide +kernel
theorem dX10_init_15 : decode cX10_init 15 = .ok (.newarray .long, 2) := by decide +kernel
theorem dX10_init_17 : decode cX10_init 17 = .ok (.putfield 17, 3) := by decide +kernel
theorem dX10_init_20 : decode cX10_init 20 = .ok (.aload_n 0, 1) := by decide +kernel
theorem dX10_init_21 : decode cX10_init 21 = .ok (.aload_n 1, 1) := by decide +kernel
theorem dX10_init_22 : decode cX10_init 22 = .ok (.putfield 21, 3) := by decide +kernel
theorem dX10_init_25 : decode cX10_init 25 = .ok (.return_, 1) := by decide +kernel
abbrev YX10_init : zY := (yX10_init, cX10_init, 2, none, [])
theorem dX2_init_0 : decode cX2_init 0 = .ok (.aload_n 0, 1) := by decide +kernel
theorem dX2_init_1 : decode cX2_init 1 = .ok (.invokespecial 3, 3) := by decide +kernel
theorem dX2_init_4 : decode cX2_init 4 = .ok (.aload_n 0, 1) := by decide +kernel
theorem dX2_init_5 : decode cX2_init 5 = .ok (.sipush 441, 3) := by decide +kernel
theorem dX2_init_8 : decode cX2_init 8 = .ok (.newarray .int, 2) := by decide +kernel
theorem dX2_init_10 : decode cX2_init 10 = .ok (.putfield 11, 3) := by decide +kernel
theorem dX2_init_13 : decode cX2_init 13 = .ok (.aload_n 0, 1) := by decide +kernel
theorem dX2_init_14 : decode cX2_init 14 = .ok (.iconst 3, 1) := by decide +kernel
theorem dX2_init_15 : decode cX2_init 15 = .ok (.newarray .int, 2) := by decide +kernel
theorem dX2_init_17 : decode cX2_init 17 = .ok (.putfield 15, 3) := by decide +kernel
theorem dX2_init_20 : decode cX2_init 20 = .ok (.aload_n 0, 1) := by decide +kernel
theorem dX2_init_21 : decode cX2_init 21 = .ok (.iconst 3, 1) := by decide +kernel
theorem dX2_init_22 : decode cX2_init 22 = .ok (.newarray .int, 2) := by decide +kernel
theorem dX2_init_24 : decode cX2_init 24 = .ok (.putfield 18, 3) := by decide +kernel
theorem dX2_init_27 : decode cX2_init 27 = .ok (.aload_n 0, 1) := by decide +kernel
theorem dX2_init_28 : decode cX2_init 28 = .ok (.iconst 3, 1) := by decide +kernel
theorem dX2_init_29 : decode cX2_init 29 = .ok (.newarray .int, 2) := by decide +kernel
theorem dX2_init_31 : decode cX2_init 31 = .ok (.putfield 21, 3) := by decide +kernel
theorem dX2_init_34 : decode cX2_init 34 = .ok (.aload_n 0, 1) := by decide +kernel
theorem dX2_init_35 : decode cX2_init 35 = .ok (.iconst 3, 1) := by decide +kernel
theorem dX2_init_36 : decode cX2_init 36 = .ok (.newarray .int, 2) := by decide +kernel
theorem dX2_init_38 : decode cX2_init 38 = .ok (.putfield 24, 3) := by decide +kernel
theorem dX2_init_41 : decode cX2_init 41 = .ok (.aload_n 0, 1) := by decide +kernel
theorem dX2_init_42 : decode cX2_init 42 = .ok (.iconst 4, 1) := by decide +kernel
theorem dX2_init_43 : decode cX2_init 43 = .ok (.newarray .long, 2) := by decide +kernel
theorem dX2_init_45 : decode cX2_init 45 = .ok (.putfield 27, 3) := by decide +kernel
theorem dX2_init_48 : decode cX2_init 48 = .ok (.aload_n 0, 1) := by decide +kernel
theorem dX2_init_49 : decode cX2_init 49 = .ok (.iconst 4, 1) := by decide +kernel
theorem dX2_init_50 : decode cX2_init 50 = .ok (.newarray .long, 2) := by decide +kernel
theorem dX2_init_52 : decode cX2_init 52 = .ok (.putfield 31, 3) := by decide +kernel
theorem dX2_init_55 : decode cX2_init 55 = .ok (.aload_n 0, 1) := by decide +kernel
theorem dX2_init_56 : decode cX2_init 56 = .ok (.lconst 1, 1) := by decide +kernel
theorem dX2_init_57 : decode cX2_init 57 = .ok (.putfield 34, 3) := by decide +kernel
theorem dX2_init_60 : decode cX2_init 60 = .ok (.iconst 0, 1) := by decide +kernel
theorem dX2_init_61 : decode cX2_init 61 = .ok (.istore_n 1, 1) := by decide +kernel
theorem dX2_init_62 : decode cX2_init 62 = .ok (.iload_n 1, 1) := by decide +kernel
theorem dX2_init_63 : decode cX2_init 63 = .ok (.bipush 21, 2) := by decide +kernel
theorem dX2_init_65 : decode cX2_init 65 = .ok (.if_icmp .ge 72, 3) := by decide +kernel
theorem dX2_init_68 : decode cX2_init 68 = .ok (.aload_n 0, 1) := by decide +kernel
theorem dX2_init_69 : decode cX2_init 69 = .ok (.getfield 11, 3) := by decide +kernel
theorem dX2_init_72 : decode cX2_init 72 = .ok (.iload_n 1, 1) := by decide +kernel
theorem dX2_init_73 : decode cX2_init 73 = .ok (.bipush 21, 2) := by decide +kernel
theorem dX2_init_75 : decode cX2_init 75 = .ok (.imul, 1) := by decide +kernel
theorem dX2_init_76 : decode cX2_init 76 = .ok (.iconst 1, 1) := by decide +kernel
theorem dX2_init_77 : decode cX2_init 77 = .ok (.iastore, 1) := by decide +kernel
theorem dX2_init_78 : decode cX2_init 78 = .ok (.iconst 1, 1) := by decide +kernel
theorem dX2_init_79 : decode cX2_init 79 = .ok (.istore_n 2, 1) := by decide +kernel
theorem dX2_init_80 : decode cX2_init 80 = .ok (.iload_n 2, 1) := by decide +kernel
theorem dX2_init_81 : decode cX2_init 81 = .ok (.iload_n 1, 1) := by decide +kernel
theorem dX2_init_82 : decode cX2_init 82 = .ok (.if_icmp .gt 49, 3) := by decide +kernel
theorem dX2_init_85 : decode cX2_init 85 = .ok (.aload_n 0, 1) := by decide +kernel
theorem dX2_init_86 : decode cX2_init 86 = .ok (.getfield 11, 3) := by decide +kernel
theorem dX2_init_89 : decode cX2_init 89 = .ok (.iload_n 1, 1) := by decide +kernel
theorem dX2_init_90 : decode cX2_init 90 = .ok (.bipush 21, 2) := by decide +kernel
theorem dX2_init_92 : decode cX2_init 92 = .ok (.imul, 1) := by decide +kernel
theorem dX2_init_93 : decode cX2_init 93 = .ok (.iload_n 2, 1) := by decide +kernel
theorem dX2_init_94 : decode cX2_init 94 = .ok (.iadd, 1) := by decide +kernel
theorem dX2_init_95 : decode cX2_init 95 = .ok (.aload_n 0, 1) := by decide +kernel
theorem dX2_init_96 : decode cX2_init 96 = .ok (.getfield 11, 3) := by decide +kernel
theorem dX2_init_99 : decode cX2_init 99 = .ok (.iload_n 1, 1) := by decide +kernel
theorem dX2_init_100 : decode cX2_init 100 = .ok (.iconst 1, 1) := by decide +kernel
theorem dX2_init_101 : decode cX2_init 101 = .ok (.isub, 1) := by decide +kernel
theorem dX2_init_102 : decode cX2_init 102 = .ok (.bipush 21, 2) := by decide +kernel
theorem dX2_init_104 : decode cX2_init 104 = .ok (.imul, 1) := by decide +kernel
theorem dX2_init_105 : decode cX2_init 105 = .ok (.iload_n 2, 1) := by decide +kernel
theorem dX2_init_106 : decode cX2_init 106 = .ok (.iadd, 1) := by decide +kernel
theorem dX2_init_107 : decode cX2_init 107 = .ok (.iconst 1, 1) := by decide +kernel
theorem dX2_init_108 : decode cX2_init 108 = .ok (.isub, 1) := by decide +kernel
theorem dX2_init_109 : decode cX2_init 109 = .ok (.iaload, 1) := by decide +kernel
theorem dX2_init_110 : decode cX2_init 110 = .ok (.aload_n 0, 1) := by decide +kernel
theorem dX2_init_111 : decode cX2_init 111 = .ok (.getfield 11, 3) := by decide +kernel
theorem dX2_init_114 : decode cX2_init 114 = .ok (.iload_n 1, 1) := by decide +kernel
theorem dX2_init_115 : decode cX2_init 115 = .ok (.iconst 1, 1) := by decide +kernel
theorem dX2_init_116 : decode cX2_init 116 = .ok (.isub, 1) := by decide +kernel
theorem dX2_init_117 : decode cX2_init 117 = .ok (.bipush 21, 2) := by decide +kernel
theorem dX2_init_119 : decode cX2_init 119 = .ok (.imul, 1) := by decide +kernel
theorem dX2_init_120 : decode cX2_init 120 = .ok (.iload_n 2, 1) := by decide +kernel
theorem dX2_init_121 : decode cX2_init 121 = .ok (.iadd, 1) := by decide +kernel
theorem dX2_init_122 : decode cX2_init 122 = .ok (.iaload, 1) := by decide +kernel
theorem dX2_init_123 : decode cX2_init 123 = .ok (.iadd, 1) := by decide +kernel
theorem dX2_init_124 : decode cX2_init 124 = .ok (.iastore, 1) := by decide +kernel
theorem dX2_init_125 : decode cX2_init 125 = .ok (.iinc 2 1, 3) := by decide +kernel
theorem dX2_init_128 : decode cX2_init 128 = .ok (.goto (-48), 3) := by decide +kernel
theorem dX2_init_131 : decode cX2_init 131 = .ok (.iinc 1 1, 3) := by decide +kernel
theorem dX2_init_134 : decode cX2_init 134 = .ok (.goto (-72), 3) := by decide +kernel
theorem dX2_init_137 : decode cX2_init 137 = .ok (.return_, 1) := by decide +kernel
abbrev YX2_init : zY := (yX2_init, cX2_init, 3, none, [])
theorem dX4_init_0 : decode cX4_init 0 = .ok (.aload_n 0, 1) := by decide +kernel
theorem dX4_init_1 : decode cX4_init 1 = .ok (.invokespecial 3, 3) := by decide +kernel
theorem dX4_init_4 : decode cX4_init 4 = .ok (.aload_n 0, 1) := by decide +kernel
theorem dX4_init_5 : decode cX4_init 5 = .ok (.iconst (-1), 1) := by decide +kernel
theorem dX4_init_6 : decode cX4_init 6 = .ok (.putfield 9, 3) := by decide +kernel
theorem dX4_init_9 : decode cX4_init 9 = .ok (.aload_n 0, 1) := by decide +kernel
theorem dX4_init_10 : decode cX4_init 10 = .ok (.iconst (-1), 1) := by decide +kernel
theorem dX4_init_11 : decode cX4_init 11 = .ok (.putfield 15, 3) := by decide +kernel
theorem dX4_init_14 : decode cX4_init 14 = .ok (.aload_n 0, 1) := by decide +kernel
theorem dX4_init_15 : decode cX4_init 15 = .ok (.bipush 20, 2) := by decide +kernel
theorem dX4_init_17 : decode cX4_init 17 = .ok (.newarray .int, 2) := by decide +kernel
theorem dX4_init_19 : decode cX4_init 19 = .ok (.putfield 18, 3) := by decide +kernel
theorem dX4_init_22 : decode cX4_init 22 = .ok (.aload_n 0, 1) := by decide +kernel
theorem dX4_init_23 : decode cX4_init 23 = .ok (.bipush 120, 2) := by decide +kernel
theorem dX4_init_25 : decode cX4_init 25 = .ok (.newarray .int, 2) := by decide +kernel
theorem dX4_init_27 : decode cX4_init 27 = .ok (.putfield 22, 3) := by decide +kernel
theorem dX4_init_30 : decode cX4_init 30 = .ok (.aload_n 0, 1) := by decide +kernel
theorem dX4_init_31 : decode cX4_init 31 = .ok (.bipush 20, 2) := by decide +kernel
theorem dX4_init_33 : decode cX4_init 33 = .ok (.newarray .int, 2) := by decide +kernel
theorem dX4_init_35 : decode cX4_init 35 = .ok (.putfield 25, 3) := by decide +kernel
theorem dX4_init_38 : decode cX4_init 38 = .ok (.aload_n 0, 1) := by decide +kernel
theorem dX4_init_39 : decode cX4_init 39 = .ok (.bipush 21, 2) := by decide +kernel
theorem dX4_init_41 : decode cX4_init 41 = .ok (.newarray .int, 2) := by decide +kernel
theorem dX4_init_43 : decode cX4_init 43 = .ok (.putfield 28, 3) := by decide +kernel
theorem dX4_init_46 : decode cX4_init 46 = .ok (.aload_n 0, 1) := by decide +kernel
theorem dX4_init_47 : decode cX4_init 47 = .ok (.bipush 21, 2) := by decide +kernel
theorem dX4_init_49 : decode cX4_init 49 = .ok (.newarray .int, 2) := by decide +kernel
theorem dX4_init_51 : decode cX4_init 51 = .ok (.putfield 31, 3) := by decide +kernel
theorem dX4_init_54 : decode cX4_init 54 = .ok (.aload_n 0, 1) := by decide +kernel
theorem dX4_init_55 : decode cX4_init 55 = .ok (.sipush 231, 3) := by decide +kernel
theorem dX4_init_58 : decode cX4_init 58 = .ok (.newarray .int, 2) := by decide +kernel
theorem dX4_init_60 : decode cX4_init 60 = .ok (.putfield 34, 3) := by decide +kernel
theorem dX4_init_63 : decode cX4_init 63 = .ok (.aload_n 0, 1) := by decide +kernel
theorem dX4_init_64 : decode cX4_init 64 = .ok (.sipush 231, 3) := by decide +kernel
theorem dX4_init_67 : decode cX4_init 67 = .ok (.newarray .long, 2) := by decide +kernel
theorem dX4_init_69 : decode cX4_init 69 = .ok (.putfield 37, 3) := by decide +kernel
theorem dX4_init_72 : decode cX4_init 72 = .ok (.aload_n 0, 1) := by decide +kernel
theorem dX4_init_73 : decode cX4_init 73 = .ok (.bipush 121, 2) := by decide +kernel
theorem dX4_init_75 : decode cX4_init 75 = .ok (.newarray .long, 2) := by decide +kernel
theorem dX4_init_77 : decode cX4_init 77 = .ok (.putfield 41, 3) := by decide +kernel
theorem dX4_init_80 : decode cX4_init 80 = .ok (.aload_n 0, 1) := by decide +kernel
theorem dX4_init_81 : decode cX4_init 81 = .ok (.iconst (-1), 1) := by decide +kernel
theorem dX4_init_82 : decode cX4_init 82 = .ok (.putfield 44, 3) := by decide +kernel
theorem dX4_init_85 : decode cX4_init 85 = .ok (.aload_n 0, 1) := by decide +kernel
theorem dX4_init_86 : decode cX4_init 86 = .ok (.bipush 20, 2) := by decide +kernel
theorem dX4_init_88 : decode cX4_init 88 = .ok (.newarray .int, 2) := by decide +kernel
theorem dX4_init_90 : decode cX4_init 90 = .ok (.putfield 47, 3) := by decide +kernel
theorem dX4_init_93 : decode cX4_init 93 = .ok (.aload_n 0, 1) := by decide +kernel
theorem dX4_init_94 : decode cX4_init 94 = .ok (.bipush 20, 2) := by decide +kernel
theorem dX4_init_96 : decode cX4_init 96 = .ok (.newarray .int, 2) := by decide +kernel
theorem dX4_init_98 : decode cX4_init 98 = .ok (.putfield 50, 3) := by decide +kernel
theorem dX4_init_101 : decode cX4_init 101 = .ok (.aload_n 0, 1) := by decide +kernel
theorem dX4_init_102 : decode cX4_init 102 = .ok (.lconst 1, 1) := by decide +kernel
theorem dX4_init_103 : decode cX4_init 103 = .ok (.putfield 53, 3) := by decide +kernel
theorem dX4_init_106 : decode cX4_init 106 = .ok (.aload_n 0, 1) := by decide +kernel
theorem dX4_init_107 : decode cX4_init 107 = .ok (.aload_n 1, 1) := by decide +kernel
theorem dX4_init_108 : decode cX4_init 108 = .ok (.putfield 57, 3) := by decide +kernel
theorem dX4_init_111 : decode cX4_init 111 = .ok (.aload_n 0, 1) := by decide +kernel
theorem dX4_init_112 : decode cX4_init 112 = .ok (.aload_n 2, 1) := by decide +kernel
theorem dX4_init_113 : decode cX4_init 113 = .ok (.putfield 61, 3) := by decide +kernel
theorem dX4_init_116 : decode cX4_init 116 = .ok (.aload_n 0, 1) := by decide +kernel
theorem dX4_init_117 : decode cX4_init 117 = .ok (.aload_n 3, 1) := by decide +kernel
theorem dX4_init_118 : decode cX4_init 118 = .ok (.putfield 65, 3) := by decide +kernel
theorem dX4_init_121 : decode cX4_init 121 = .ok (.return_, 1) := by decide +kernel
abbrev YX4_init : zY := (yX4_init, cX4_init, 4, none, [])
theorem dX0_init_0 : decode cX0_init 0 = .ok (.aload_n 0, 1) := by decide +kernel
theorem dX0_init_1 : decode cX0_init 1 = .ok (.invokespecial 3, 3) := by decide +kernel
theorem dX0_init_4 : decode cX0_init 4 = .ok (.aload_n 0, 1) := by decide +kernel
theorem dX0_init_5 : decode cX0_init 5 = .ok (.bipush 60, 2) := by decide +kernel
theorem dX0_init_7 : decode cX0_init 7 = .ok (.newarray .int, 2) := by decide +kernel
theorem dX0_init_9 : decode cX0_init 9 = .ok (.putfield 9, 3) := by decide +kernel
theorem dX0_init_12 : decode cX0_init 12 = .ok (.aload_n 0, 1) := by decide +kernel
theorem dX0_init_13 : decode cX0_init 13 = .ok (.iconst (-1), 1) := by decide +kernel
theorem dX0_init_14 : decode cX0_init 14 = .ok (.putfield 15, 3) := by decide +kernel
theorem dX0_init_17 : decode cX0_init 17 = .ok (.aload_n 0, 1) := by decide +kernel
theorem dX0_init_18 : decode cX0_init 18 = .ok (.aload_n 1, 1) := by decide +kernel
theorem dX0_init_19 : decode cX0_init 19 = .ok (.putfield 19, 3) := by decide +kernel
theorem dX0_init_22 : decode cX0_init 22 = .ok (.return_, 1) := by decide +kernel
abbrev YX0_init : zY := (yX0_init, cX0_init, 2, none, [])
theorem dX1_init_0 : decode cX1_init 0 = .ok (.aload_n 0, 1) := by decide +kernel
theorem dX1_init_1 : decode cX1_init 1 = .ok (.invokespecial 3, 3) := by decide +kernel
theorem dX1_init_4 : decode cX1_init 4 = .ok (.aload_n 0, 1) := by decide +kernel
theorem dX1_init_5 : decode cX1_init 5 = .ok (.iconst (-1), 1) := by decide +kernel
theorem dX1_init_6 : decode cX1_init 6 = .ok (.putfield 9, 3) := by decide +kernel
theorem dX1_init_9 : decode cX1_init 9 = .ok (.aload_n 0, 1) := by decide +kernel
theorem dX1_init_10 : decode cX1_init 10 = .ok (.bipush 20, 2) := by decide +kernel
theorem dX1_init_12 : decode cX1_init 12 = .ok (.newarray .int, 2) := by decide +kernel
theorem dX1_init_14 : decode cX1_init 14 = .ok (.putfield 15, 3) := by decide +kernel
theorem dX1_init_17 : decode cX1_init 17 = .ok (.aload_n 0, 1) := by decide +kernel
theorem dX1_init_18 : decode cX1_init 18 = .ok (.bipush 20, 2) := by decide +kernel
theorem dX1_init_20 : decode cX1_init 20 = .ok (.newarray .int, 2) := by decide +kernel
theorem dX1_init_22 : decode cX1_init 22 = .ok (.putfield 19, 3) := by decide +kernel
theorem dX1_init_25 : decode cX1_init 25 = .ok (.aload_n 0, 1) := by decide +kernel
theorem dX1_init_26 : decode cX1_init 26 = .ok (.sipush 400, 3) := by decide +kernel
theorem dX1_init_29 : decode cX1_init 29 = .ok (.newarray .int, 2) := by decide +kernel
theorem dX1_init_31 : decode cX1_init 31 = .ok (.putfield 22, 3) := by decide +kernel
theorem dX1_init_34 : decode cX1_init 34 = .ok (.aload_n 0, 1) := by decide +kernel
theorem dX1_init_35 : decode cX1_init 35 = .ok (.bipush 20, 2) := by decide +kernel
theorem dX1_init_37 : decode cX1_init 37 = .ok (.newarray .int, 2) := by decide +kernel
theorem dX1_init_39 : decode cX1_init 39 = .ok (.putfield 25, 3) := by decide +kernel
theorem dX1_init_42 : decode cX1_init 42 = .ok (.aload_n 0, 1) := by decide +kernel
theorem dX1_init_43 : decode cX1_init 43 = .ok (.iconst (-1), 1) := by decide +kernel
theorem dX1_init_44 : decode cX1_init 44 = .ok (.putfield 28, 3) := by decide +kernel
theorem dX1_init_47 : decode cX1_init 47 = .ok (.aload_n 0, 1) := by decide +kernel
theorem dX1_init_48 : decode cX1_init 48 = .ok (.aload_n 1, 1) := by decide +kernel
theorem dX1_init_49 : decode cX1_init 49 = .ok (.putfield 31, 3) := by decide +kernel
theorem dX1_init_52 : decode cX1_init 52 = .ok (.aload_n 0, 1) := by decide +kernel
theorem dX1_init_53 : decode cX1_init 53 = .ok (.aload_n 2, 1) := by decide +kernel
theorem dX1_init_54 : decode cX1_init 54 = .ok (.putfield 35, 3) := by decide +kernel
theorem dX1_init_57 : decode cX1_init 57 = .ok (.return_, 1) := by decide +kernel
abbrev YX1_init : zY := (yX1_init, cX1_init, 3, none, [])
theorem dX7_init_0 : decode cX7_init 0 = .ok (.aload_n 0, 1) := by decide +kernel
theorem dX7_init_1 : decode cX7_init 1 = .ok (.invokespecial 3, 3) := by decide +kernel
theorem dX7_init_4 : decode cX7_init 4 = .ok (.aload_n 0, 1) := by decide +kernel
theorem dX7_init_5 : decode cX7_init 5 = .ok (.iconst (-1), 1) := by decide +kernel
theorem dX7_init_6 : decode cX7_init 6 = .ok (.putfield 9, 3) := by decide +kernel
theorem dX7_init_9 : decode cX7_init 9 = .ok (.aload_n 0, 1) := by decide +kernel
theorem dX7_init_10 : decode cX7_init 10 = .ok (.iconst 3, 1) := by decide +kernel
theorem dX7_init_11 : decode cX7_init 11 = .ok (.newarray .int, 2) := by decide +kernel
theorem dX7_init_13 : decode cX7_init 13 = .ok (.putfield 15, 3) := by decide +kernel
theorem dX7_init_16 : decode cX7_init 16 = .ok (.aload_n 0, 1) := by decide +kernel
theorem dX7_init_17 : decode cX7_init 17 = .ok (.bipush 12, 2) := by decide +kernel
theorem dX7_init_19 : decode cX7_init 19 = .ok (.newarray .int, 2) := by decide +kernel
theorem dX7_init_21 : decode cX7_init 21 = .ok (.putfield 19, 3) := by decide +kernel
theorem dX7_init_24 : decode cX7_init 24 = .ok (.aload_n 0, 1) := by decide +kernel
theorem dX7_init_25 : decode cX7_init 25 = .ok (.bipush 12, 2) := by decide +kernel
theorem dX7_init_27 : decode cX7_init 27 = .ok (.newarray .int, 2) := by decide +kernel
theorem dX7_init_29 : decode cX7_init 29 = .ok (.putfield 22, 3) := by decide +kernel
theorem dX7_init_32 : decode cX7_init 32 = .ok (.aload_n 0, 1) := by decide +kernel
theorem dX7_init_33 : decode cX7_init 33 = .ok (.iconst 3, 1) := by decide +kernel
theorem dX7_init_34 : decode cX7_init 34 = .ok (.newarray .int, 2) := by decide +kernel
theorem dX7_init_36 : decode cX7_init 36 = .ok (.putfield 25, 3) := by decide +kernel
theorem dX7_init_39 : decode cX7_init 39 = .ok (.aload_n 0, 1) := by decide +kernel
theorem dX7_init_40 : decode cX7_init 40 = .ok (.bipush 12, 2) := by decide +kernel
theorem dX7_init_42 : decode cX7_init 42 = .ok (.newarray .int, 2) := by decide +kernel
theorem dX7_init_44 : decode cX7_init 44 = .ok (.putfield 28, 3) := by decide +kernel
theorem dX7_init_47 : decode cX7_init 47 = .ok (.aload_n 0, 1) := by decide +kernel
theorem dX7_init_48 : decode cX7_init 48 = .ok (.iconst 1, 1) := by decide +kernel
theorem dX7_init_49 : decode cX7_init 49 = .ok (.newarray .int, 2) := by decide +kernel
theorem dX7_init_51 : decode cX7_init 51 = .ok (.putfield 31, 3) := by decide +kernel
theorem dX7_init_54 : decode cX7_init 54 = .ok (.aload_n 0, 1) := by decide +kernel
theorem dX7_init_55 : decode cX7_init 55 = .ok (.bipush 12, 2) := by decide +kernel
theorem dX7_init_57 : decode cX7_init 57 = .ok (.newarray .int, 2) := by decide +kernel
theorem dX7_init_59 : decode cX7_init 59 = .ok (.putfield 34, 3) := by decide +kernel
theorem dX7_init_62 : decode cX7_init 62 = .ok (.aload_n 0, 1) := by decide +kernel
theorem dX7_init_63 : decode cX7_init 63 = .ok (.aload_n 1, 1) := by decide +kernel
theorem dX7_init_64 : decode cX7_init 64 = .ok (.putfield 37, 3) := by decide +kernel
theorem dX7_init_67 : decode cX7_init 67 = .ok (.aload_n 0, 1) := by decide +kernel
theorem dX7_init_68 : decode cX7_init 68 = .ok (.aload_n 2, 1) := by decide +kernel
theorem dX7_init_69 : decode cX7_init 69 = .ok (.putfield 41, 3) := by decide +kernel
theorem dX7_init_72 : decode cX7_init 72 = .ok (.return_, 1) := by decide +kernel
abbrev YX7_init : zY := (yX7_init, cX7_init, 3, none, [])
theorem dX8_init_0 : decode cX8_init 0 = .ok (.aload_n 0, 1) := by decide +kernel
theorem dX8_init_1 : decode cX8_init 1 = .ok (.invokespecial 3, 3) := by decide +kernel
theorem dX8_init_4 : decode cX8_init 4 = .ok (.aload_n 0, 1) := by decide +kernel
theorem dX8_init_5 : decode cX8_init 5 = .ok (.iconst 3, 1) := by decide +kernel
theorem dX8_init_6 : decode cX8_init 6 = .ok (.newarray .int, 2) := by decide +kernel
theorem dX8_init_8 : decode cX8_init 8 = .ok (.putfield 9, 3) := by decide +kernel
theorem dX8_init_11 : decode cX8_init 11 = .ok (.aload_n 0, 1) := by decide +kernel
theorem dX8_init_12 : decode cX8_init 12 = .ok (.aload_n 1, 1) := by decide +kernel
theorem dX8_init_13 : decode cX8_init 13 = .ok (.putfield 15, 3) := by decide +kernel
theorem dX8_init_16 : decode cX8_init 16 = .ok (.aload_n 0, 1) := by decide +kernel
theorem dX8_init_17 : decode cX8_init 17 = .ok (.aload_n 2, 1) := by decide +kernel
theorem dX8_init_18 : decode cX8_init 18 = .ok (.putfield 19, 3) := by decide +kernel
theorem dX8_init_21 : decode cX8_init 21 = .ok (.return_, 1) := by decide +kernel
abbrev YX8_init : zY := (yX8_init, cX8_init, 3, none, [])
theorem dX11_init_0 : decode cX11_init 0 = .ok (.aload_n 0, 1) := by decide +kernel
theorem dX11_init_1 : decode cX11_init 1 = .ok (.invokespecial 1, 3) := by decide +kernel
theorem dX11_init_4 : decode cX11_init 4 = .ok (.aload_n 0, 1) := by decide +kernel
theorem dX11_init_5 : decode cX11_init 5 = .ok (.new 7, 3) := by decide +kernel
theorem dX11_init_8 : decode cX11_init 8 = .ok (.dup, 1) := by decide +kernel
theorem dX11_init_9 : decode cX11_init 9 = .ok (.invokespecial 9, 3) := by decide +kernel
theorem dX11_init_12 : decode cX11_init 12 = .ok (.putfield 10, 3) := by decide +kernel
theorem dX11_init_15 : decode cX11_init 15 = .ok (.aload_n 0, 1) := by decide +kernel
theorem dX11_init_16 : decode cX11_init 16 = .ok (.iconst 2, 1) := by decide +kernel
theorem dX11_init_17 : decode cX11_init 17 = .ok (.anewarray 7, 3) := by decide +kernel
theorem dX11_init_20 : decode cX11_init 20 = .ok (.dup, 1) := by decide +kernel
theorem dX11_init_21 : decode cX11_init 21 = .ok (.iconst 0, 1) := by decide +kernel
theorem dX11_init_22 : decode cX11_init 22 = .ok (.new 7, 3) := by decide +kernel
theorem dX11_init_25 : decode cX11_init 25 = .ok (.dup, 1) := by decide +kernel
theorem dX11_init_26 : decode cX11_init 26 = .ok (.invokespecial 9, 3) := by decide +kernel
theorem dX11_init_29 : decode cX11_init 29 = .ok (.aastore, 1) := by decide +kernel
theorem dX11_init_30 : decode cX11_init 30 = .ok (.dup, 1) := by decide +kernel
theorem dX11_init_31 : decode cX11_init 31 = .ok (.iconst 1, 1) := by decide +kernel
theorem dX11_init_32 : decode cX11_init 32 = .ok (.new 7, 3) := by decide +kernel
theorem dX11_init_35 : decode cX11_init 35 = .ok (.dup, 1) := by decide +kernel
theorem dX11_init_36 : decode cX11_init 36 = .ok (.invokespecial 9, 3) := by decide +kernel
theorem dX11_init_39 : decode cX11_init 39 = .ok (.aastore, 1) := by decide +kernel
theorem dX11_init_40 : decode cX11_init 40 = .ok (.putfield 16, 3) := by decide +kernel
theorem dX11_init_43 : decode cX11_init 43 = .ok (.aload_n 0, 1) := by decide +kernel
theorem dX11_init_44 : decode cX11_init 44 = .ok (.iconst 2, 1) := by decide +kernel
theorem dX11_init_45 : decode cX11_init 45 = .ok (.newarray .boolean, 2) := by decide +kernel
theorem dX11_init_47 : decode cX11_init 47 = .ok (.putfield 20, 3) := by decide +kernel
theorem dX11_init_50 : decode cX11_init 50 = .ok (.aload_n 0, 1) := by decide +kernel
theorem dX11_init_51 : decode cX11_init 51 = .ok (.sipush 400, 3) := by decide +kernel
theorem dX11_init_54 : decode cX11_init 54 = .ok (.newarray .int, 2) := by decide +kernel
theorem dX11_init_56 : decode cX11_init 56 = .ok (.putfield 24, 3) := by decide +kernel
theorem dX11_init_59 : decode cX11_init 59 = .ok (.aload_n 0, 1) := by decide +kernel
theorem dX11_init_60 : decode cX11_init 60 = .ok (.iconst (-1), 1) := by decide +kernel
theorem dX11_init_61 : decode cX11_init 61 = .ok (.putfield 28, 3) := by decide +kernel
theorem dX11_init_64 : decode cX11_init 64 = .ok (.aload_n 0, 1) := by decide +kernel
theorem dX11_init_65 : decode cX11_init 65 = .ok (.iconst 3, 1) := by decide +kernel
theorem dX11_init_66 : decode cX11_init 66 = .ok (.newarray .int, 2) := by decide +kernel
theorem dX11_init_68 : decode cX11_init 68 = .ok (.dup, 1) := by decide +kernel
theorem dX11_init_69 : decode cX11_init 69 = .ok (.iconst 0, 1) := by decide +kernel
theorem dX11_init_70 : decode cX11_init 70 = .ok (.iconst (-1), 1) := by decide +kernel
theorem dX11_init_71 : decode cX11_init 71 = .ok (.iastore, 1) := by decide +kernel
theorem dX11_init_72 : decode cX11_init 72 = .ok (.dup, 1) := by decide +kernel
theorem dX11_init_73 : decode cX11_init 73 = .ok (.iconst 1, 1) := by decide +kernel
theorem dX11_init_74 : decode cX11_init 74 = .ok (.iconst (-1), 1) := by decide +kernel
theorem dX11_init_75 : decode cX11_init 75 = .ok (.iastore, 1) := by decide +kernel
theorem dX11_init_76 : decode cX11_init 76 = .ok (.dup, 1) := by decide +kernel
theorem dX11_init_77 : decode cX11_init 77 = .ok (.iconst 2, 1) := by decide +kernel
theorem dX11_init_78 : decode cX11_init 78 = .ok (.iconst (-1), 1) := by decide +kernel
theorem dX11_init_79 : decode cX11_init 79 = .ok (.iastore, 1) := by decide +kernel
theorem dX11_init_80 : decode cX11_init 80 = .ok (.putfield 32, 3) := by decide +kernel
theorem dX11_init_83 : decode cX11_init 83 = .ok (.aload_n 0, 1) := by decide +kernel
theorem dX11_init_84 : decode cX11_init 84 = .ok (.bipush 7, 2) := by decide +kernel
theorem dX11_init_86 : decode cX11_init 86 = .ok (.newarray .int, 2) := by decide +kernel
theorem dX11_init_88 : decode cX11_init 88 = .ok (.putfield 35, 3) := by decide +kernel
theorem dX11_init_91 : decode cX11_init 91 = .ok (.aload_n 0, 1) := by decide +kernel
theorem dX11_init_92 : decode cX11_init 92 = .ok (.iconst 0, 1) := by decide +kernel
theorem dX11_init_93 : decode cX11_init 93 = .ok (.putfield 38, 3) := by decide +kernel
theorem dX11_init_96 : decode cX11_init 96 = .ok (.aload_n 0, 1) := by decide +kernel
theorem dX11_init_97 : decode cX11_init 97 = .ok (.new 41, 3) := by decide +kernel
theorem dX11_init_100 : decode cX11_init 100 = .ok (.dup, 1) := by decide +kernel
theorem dX11_init_101 : decode cX11_init 101 = .ok (.invokespecial 43, 3) := by decide +kernel
theorem dX11_init_104 : decode cX11_init 104 = .ok (.putfield 44, 3) := by decide +kernel
theorem dX11_init_107 : decode cX11_init 107 = .ok (.aload_n 0, 1) := by decide +kernel
theorem dX11_init_108 : decode cX11_init 108 = .ok (.new 48, 3) := by decide +kernel
theorem dX11_init_111 : decode cX11_init 111 = .ok (.dup, 1) := by decide +kernel
theorem dX11_init_112 : decode cX11_init 112 = .ok (.aload_n 0, 1) := by decide +kernel
theorem dX11_init_113 : decode cX11_init 113 = .ok (.getfield 10, 3) := by decide +kernel
theorem dX11_init_116 : decode cX11_init 116 = .ok (.invokespecial 50, 3) := by decide +kernel
theorem dX11_init_119 : decode cX11_init 119 = .ok (.putfield 53, 3) := by decide +kernel
theorem dX11_init_122 : decode cX11_init 122 = .ok (.aload_n 0, 1) := by decide +kernel
theorem dX11_init_123 : decode cX11_init 123 = .ok (.new 57, 3) := by decide +kernel
theorem dX11_init_126 : decode cX11_init 126 = .ok (.dup, 1) := by decide +kernel
theorem dX11_init_127 : decode cX11_init 127 = .ok (.invokespecial 59, 3) := by decide +kernel
theorem dX11_init_130 : decode cX11_init 130 = .ok (.putfield 60, 3) := by decide +kernel
theorem dX11_init_133 : decode cX11_init 133 = .ok (.aload_n 0, 1) := by decide +kernel
theorem dX11_init_134 : decode cX11_init 134 = .ok (.new 64, 3) := by decide +kernel
theorem dX11_init_137 : decode cX11_init 137 = .ok (.dup, 1) := by decide +kernel
theorem dX11_init_138 : decode cX11_init 138 = .ok (.aload_n 0, 1) := by decide +kernel
theorem dX11_init_139 : decode cX11_init 139 = .ok (.getfield 10, 3) := by decide +kernel
theorem dX11_init_142 : decode cX11_init 142 = .ok (.aload_n 0, 1) := by decide +kernel
theorem dX11_init_143 : decode cX11_init 143 = .ok (.getfield 53, 3) := by decide +kernel
theorem dX11_init_146 : decode cX11_init 146 = .ok (.aload_n 0, 1) := by decide +kernel
theorem dX11_init_147 : decode cX11_init 147 = .ok (.getfield 60, 3) := by decide +kernel
theorem dX11_init_150 : decode cX11_init 150 = .ok (.invokespecial 66, 3) := by decide +kernel
theorem dX11_init_153 : decode cX11_init 153 = .ok (.putfield 69, 3) := by decide +kernel
theorem dX11_init_156 : decode cX11_init 156 = .ok (.aload_n 0, 1) := by decide +kernel
theorem dX11_init_157 : decode cX11_init 157 = .ok (.new 73, 3) := by decide +kernel
theorem dX11_init_160 : decode cX11_init 160 = .ok (.dup, 1) := by decide +kernel
theorem dX11_init_161 : decode cX11_init 161 = .ok (.aload_n 0, 1) := by decide +kernel
theorem dX11_init_162 : decode cX11_init 162 = .ok (.getfield 69, 3) := by decide +kernel
theorem dX11_init_165 : decode cX11_init 165 = .ok (.invokespecial 75, 3) := by decide +kernel
theorem dX11_init_168 : decode cX11_init 168 = .ok (.putfield 78, 3) := by decide +kernel
theorem dX11_init_171 : decode cX11_init 171 = .ok (.aload_n 0, 1) := by decide +kernel
theorem dX11_init_172 : decode cX11_init 172 = .ok (.new 82, 3) := by decide +kernel
theorem dX11_init_175 : decode cX11_init 175 = .ok (.dup, 1) := by decide +kernel
theorem dX11_init_176 : decode cX11_init 176 = .ok (.aload_n 0, 1) := by decide +kernel
theorem dX11_init_177 : decode cX11_init 177 = .ok (.getfield 10, 3) := by decide +kernel
theorem dX11_init_180 : decode cX11_init 180 = .ok (.aload_n 0, 1) := by decide +kernel
theorem dX11_init_181 : decode cX11_init 181 = .ok (.getfield 53, 3) := by decide +kernel
theorem dX11_init_184 : decode cX11_init 184 = .ok (.invokespecial 84, 3) := by decide +kernel
theorem dX11_init_187 : decode cX11_init 187 = .ok (.putfield 87, 3) := by decide +kernel
theorem dX11_init_190 : decode cX11_init 190 = .ok (.aload_n 0, 1) := by decide +kernel
theorem dX11_init_191 : decode cX11_init 191 = .ok (.new 91, 3) := by decide +kernel
theorem dX11_init_194 : decode cX11_init 194 = .ok (.dup, 1) := by decide +kernel
theorem dX11_init_195 : decode cX11_init 195 = .ok (.aload_n 0, 1) := by decide +kernel
theorem dX11_init_196 : decode cX11_init 196 = .ok (.getfield 10, 3) := by decide +kernel
theorem dX11_init_199 : decode cX11_init 199 = .ok (.aload_n 0, 1) := by decide +kernel
theorem dX11_init_200 : decode cX11_init 200 = .ok (.getfield 53, 3) := by decide +kernel
theorem dX11_init_203 : decode cX11_init 203 = .ok (.invokespecial 93, 3) := by decide +kernel
theorem dX11_init_206 : decode cX11_init 206 = .ok (.putfield 94, 3) := by decide +kernel
theorem dX11_init_209 : decode cX11_init 209 = .ok (.aload_n 0, 1) := by decide +kernel
theorem dX11_init_210 : decode cX11_init 210 = .ok (.new 98, 3) := by decide +kernel
theorem dX11_init_213 : decode cX11_init 213 = .ok (.dup, 1) := by decide +kernel
theorem dX11_init_214 : decode cX11_init 214 = .ok (.invokespecial 100, 3) := by decide +kernel
theorem dX11_init_217 : decode cX11_init 217 = .ok (.putfield 101, 3) := by decide +kernel
theorem dX11_init_220 : decode cX11_init 220 = .ok (.aload_n 0, 1) := by decide +kernel
theorem dX11_init_221 : decode cX11_init 221 = .ok (.new 105, 3) := by decide +kernel
theorem dX11_init_224 : decode cX11_init 224 = .ok (.dup, 1) := by decide +kernel
theorem dX11_init_225 : decode cX11_init 225 = .ok (.aload_n 0, 1) := by decide +kernel
theorem dX11_init_226 : decode cX11_init 226 = .ok (.getfield 10, 3) := by decide +kernel
theorem dX11_init_229 : decode cX11_init 229 = .ok (.aload_n 0, 1) := by decide +kernel
theorem dX11_init_230 : decode cX11_init 230 = .ok (.getfield 53, 3) := by decide +kernel
theorem dX11_init_233 : decode cX11_init 233 = .ok (.invokespecial 107, 3) := by decide +kernel
theorem dX11_init_236 : decode cX11_init 236 = .ok (.putfield 108, 3) := by decide +kernel
theorem dX11_init_239 : decode cX11_init 239 = .ok (.return_, 1) := by decide +kernel
abbrev YX11_init : zY := (yX11_init, cX11_init, 1, none, [])
theorem dX12_init_0 : decode cX12_init 0 = .ok (.aload_n 0, 1) := by decide +kernel
theorem dX12_init_1 : decode cX12_init 1 = .ok (.invokespecial 14, 3) := by decide +kernel
theorem dX12_init_4 : decode cX12_init 4 = .ok (.aload_n 0, 1) := by decide +kernel
theorem dX12_init_5 : decode cX12_init 5 = .ok (.bipush 7, 2) := by decide +kernel
theorem dX12_init_7 : decode cX12_init 7 = .ok (.newarray .int, 2) := by decide +kernel
theorem dX12_init_9 : decode cX12_init 9 = .ok (.putfield 7, 3) := by decide +kernel
theorem dX12_init_12 : decode cX12_init 12 = .ok (.aload_n 0, 1) := by decide +kernel
theorem dX12_init_13 : decode cX12_init 13 = .ok (.sipush 5201, 3) := by decide +kernel
theorem dX12_init_16 : decode cX12_init 16 = .ok (.newarray .int, 2) := by decide +kernel
theorem dX12_init_18 : decode cX12_init 18 = .ok (.putfield 20, 3) := by decide +kernel
theorem dX12_init_21 : decode cX12_init 21 = .ok (.aload_n 0, 1) := by decide +kernel
theorem dX12_init_22 : decode cX12_init 22 = .ok (.sipush 10402, 3) := by decide +kernel
theorem dX12_init_25 : decode cX12_init 25 = .ok (.newarray .int, 2) := by decide +kernel
theorem dX12_init_27 : decode cX12_init 27 = .ok (.putfield 23, 3) := by decide +kernel
theorem dX12_init_30 : decode cX12_init 30 = .ok (.aload_n 0, 1) := by decide +kernel
theorem dX12_init_31 : decode cX12_init 31 = .ok (.iconst 2, 1) := by decide +kernel
theorem dX12_init_32 : decode cX12_init 32 = .ok (.newarray .boolean, 2) := by decide +kernel
theorem dX12_init_34 : decode cX12_init 34 = .ok (.putfield 26, 3) := by decide +kernel
theorem dX12_init_37 : decode cX12_init 37 = .ok (.aload_n 0, 1) := by decide +kernel
theorem dX12_init_38 : decode cX12_init 38 = .ok (.bipush 76, 2) := by decide +kernel
theorem dX12_init_40 : decode cX12_init 40 = .ok (.newarray .byte, 2) := by decide +kernel
theorem dX12_init_42 : decode cX12_init 42 = .ok (.dup, 1) := by decide +kernel
theorem dX12_init_43 : decode cX12_init 43 = .ok (.iconst 0, 1) := by decide +kernel
theorem dX12_init_44 : decode cX12_init 44 = .ok (.bipush 104, 2) := by decide +kernel
theorem dX12_init_46 : decode cX12_init 46 = .ok (.bastore, 1) := by decide +kernel
theorem dX12_init_47 : decode cX12_init 47 = .ok (.dup, 1) := by decide +kernel
theorem dX12_init_48 : decode cX12_init 48 = .ok (.iconst 1, 1) := by decide +kernel
theorem dX12_init_49 : decode cX12_init 49 = .ok (.bipush 111, 2) := by decide +kernel
theorem dX12_init_51 : decode cX12_init 51 = .ok (.bastore, 1) := by decide +kernel
theorem dX12_init_52 : decode cX12_init 52 = .ok (.dup, 1) := by decide +kernel
theorem dX12_init_53 : decode cX12_init 53 = .ok (.iconst 2, 1) := by decide +kernel
theorem dX12_init_54 : decode cX12_init 54 = .ok (.bipush 117, 2) := by decide +kernel
theorem dX12_init_56 : decode cX12_init 56 = .ok (.bastore, 1) := by decide +kernel
theorem dX12_init_57 : decode cX12_init 57 = .ok (.dup, 1) := by decide +kernel
theorem dX12_init_58 : decode cX12_init 58 = .ok (.iconst 3, 1) := by decide +kernel
theorem dX12_init_59 : decode cX12_init 59 = .ok (.bipush 114, 2) := by decide +kernel
theorem dX12_init_61 : decode cX12_init 61 = .ok (.bastore, 1) := by decide +kernel
theorem dX12_init_62 : decode cX12_init 62 = .ok (.dup, 1) := by decide +kernel
theorem dX12_init_63 : decode cX12_init 63 = .ok (.iconst 4, 1) := by decide +kernel
theorem dX12_init_64 : decode cX12_init 64 = .ok (.bipush 115, 2) := by decide +kernel
theorem dX12_init_66 : decode cX12_init 66 = .ok (.bastore, 1) := by decide +kernel
theorem dX12_init_67 : decode cX12_init 67 = .ok (.dup, 1) := by decide +kernel
theorem dX12_init_68 : decode cX12_init 68 = .ok (.iconst 5, 1) := by decide +kernel
theorem dX12_init_69 : decode cX12_init 69 = .ok (.bipush 32, 2) := by decide +kernel
theorem dX12_init_71 : decode cX12_init 71 = .ok (.bastore, 1) := by decide +kernel
theorem dX12_init_72 : decode cX12_init 72 = .ok (.dup, 1) := by decide +kernel
theorem dX12_init_73 : decode cX12_init 73 = .ok (.bipush 6, 2) := by decide +kernel
theorem dX12_init_75 : decode cX12_init 75 = .ok (.bipush 107, 2) := by decide +kernel
theorem dX12_init_77 : decode cX12_init 77 = .ok (.bastore, 1) := by decide +kernel
theorem dX12_init_78 : decode cX12_init 78 = .ok (.dup, 1) := by decide +kernel
theorem dX12_init_79 : decode cX12_init 79 = .ok (.bipush 7, 2) := by decide +kernel
theorem dX12_init_81 : decode cX12_init 81 = .ok (.bipush 101, 2) := by decide +kernel
theorem dX12_init_83 : decode cX12_init 83 = .ok (.bastore, 1) := by decide +kernel
theorem dX12_init_84 : decode cX12_init 84 = .ok (.dup, 1) := by decide +kernel
theorem dX12_init_85 : decode cX12_init 85 = .ok (.bipush 8, 2) := by decide +kernel
theorem dX12_init_87 : decode cX12_init 87 = .ok (.bipush 101, 2) := by decide +kernel
theorem dX12_init_89 : decode cX12_init 89 = .ok (.bastore, 1) := by decide +kernel
theorem dX12_init_90 : decode cX12_init 90 = .ok (.dup, 1) := by decide +kernel
theorem dX12_init_91 : decode cX12_init 91 = .ok (.bipush 9, 2) := by decide +kernel
theorem dX12_init_93 : decode cX12_init 93 = .ok (.bipush 112, 2) := by decide +kernel
theorem dX12_init_95 : decode cX12_init 95 = .ok (.bastore, 1) := by decide +kernel
theorem dX12_init_96 : decode cX12_init 96 = .ok (.dup, 1) := by decide +kernel
theorem dX12_init_97 : decode cX12_init 97 = .ok (.bipush 10, 2) := by decide +kernel
theorem dX12_init_99 : decode cX12_init 99 = .ok (.bipush 115, 2) := by decide +kernel
theorem dX12_init_101 : decode cX12_init 101 = .ok (.bastore, 1) := by decide +kernel
theorem dX12_init_102 : decode cX12_init 102 = .ok (.dup, 1) := by decide +kernel
theorem dX12_init_103 : decode cX12_init 103 = .ok (.bipush 11, 2) := by decide +kernel
theorem dX12_init_105 : decode cX12_init 105 = .ok (.bipush 32, 2) := by decide +kernel
theorem dX12_init_107 : decode cX12_init 107 = .ok (.bastore, 1) := by decide +kernel
theorem dX12_init_108 : decode cX12_init 108 = .ok (.dup, 1) := by decide +kernel
theorem dX12_init_109 : decode cX12_init 109 = .ok (.bipush 12, 2) := by decide +kernel
theorem dX12_init_111 : decode cX12_init 111 = .ok (.bipush 99, 2) := by decide +kernel
theorem dX12_init_113 : decode cX12_init 113 = .ok (.bastore, 1) := by decide +kernel
theorem dX12_init_114 : decode cX12_init 114 = .ok (.dup, 1) := by decide +kernel
theorem dX12_init_115 : decode cX12_init 115 = .ok (.bipush 13, 2) := by decide +kernel
theorem dX12_init_117 : decode cX12_init 117 = .ok (.bipush 104, 2) := by decide +kernel
theorem dX12_init_119 : decode cX12_init 119 = .ok (.bastore, 1) := by decide +kernel
theorem dX12_init_120 : decode cX12_init 120 = .ok (.dup, 1) := by decide +kernel
theorem dX12_init_121 : decode cX12_init 121 = .ok (.bipush 14, 2) := by decide +kernel
theorem dX12_init_123 : decode cX12_init 123 = .ok (.bipush 97, 2) := by decide +kernel
theorem dX12_init_125 : decode cX12_init 125 = .ok (.bastore, 1) := by decide +kernel
theorem dX12_init_126 : decode cX12_init 126 = .ok (.dup, 1) := by decide +kernel
theorem dX12_init_127 : decode cX12_init 127 = .ok (.bipush 15, 2) := by decide +kernel
theorem dX12_init_129 : decode cX12_init 129 = .ok (.bipush 110, 2) := by decide +kernel
theorem dX12_init_131 : decode cX12_init 131 = .ok (.bastore, 1) := by decide +kernel
theorem dX12_init_132 : decode cX12_init 132 = .ok (.dup, 1) := by decide +kernel
theorem dX12_init_133 : decode cX12_init 133 = .ok (.bipush 16, 2) := by decide +kernel
theorem dX12_init_135 : decode cX12_init 135 = .ok (.bipush 99, 2) := by decide +kernel
theorem dX12_init_137 : decode cX12_init 137 = .ok (.bastore, 1) := by decide +kernel
theorem dX12_init_138 : decode cX12_init 138 = .ok (.dup, 1) := by decide +kernel
theorem dX12_init_139 : decode cX12_init 139 = .ok (.bipush 17, 2) := by decide +kernel
theorem dX12_init_141 : decode cX12_init 141 = .ok (.bipush 101, 2) := by decide +kernel
theorem dX12_init_143 : decode cX12_init 143 = .ok (.bastore, 1) := by decide +kernel
theorem dX12_init_144 : decode cX12_init 144 = .ok (.dup, 1) := by decide +kernel
theorem dX12_init_145 : decode cX12_init 145 = .ok (.bipush 18, 2) := by decide +kernel
theorem dX12_init_147 : decode cX12_init 147 = .ok (.bipush 32, 2) := by decide +kernel
theorem dX12_init_149 : decode cX12_init 149 = .ok (.bastore, 1) := by decide +kernel
theorem dX12_init_150 : decode cX12_init 150 = .ok (.dup, 1) := by decide +kernel
theorem dX12_init_151 : decode cX12_init 151 = .ok (.bipush 19, 2) := by decide +kernel
theorem dX12_init_153 : decode cX12_init 153 = .ok (.bipush 105, 2) := by decide +kernel
theorem dX12_init_155 : decode cX12_init 155 = .ok (.bastore, 1) := by decide +kernel
theorem dX12_init_156 : decode cX12_init 156 = .ok (.dup, 1) := by decide +kernel
theorem dX12_init_157 : decode cX12_init 157 = .ok (.bipush 20, 2) := by decide +kernel
theorem dX12_init_159 : decode cX12_init 159 = .ok (.bipush 102, 2) := by decide +kernel
theorem dX12_init_161 : decode cX12_init 161 = .ok (.bastore, 1) := by decide +kernel
theorem dX12_init_162 : decode cX12_init 162 = .ok (.dup, 1) := by decide +kernel
theorem dX12_init_163 : decode cX12_init 163 = .ok (.bipush 21, 2) := by decide +kernel
theorem dX12_init_165 : decode cX12_init 165 = .ok (.bipush 32, 2) := by decide +kernel
theorem dX12_init_167 : decode cX12_init 167 = .ok (.bastore, 1) := by decide +kernel
theorem dX12_init_168 : decode cX12_init 168 = .ok (.dup, 1) := by decide +kernel
theorem dX12_init_169 : decode cX12_init 169 = .ok (.bipush 22, 2) := by decide +kernel
theorem dX12_init_171 : decode cX12_init 171 = .ok (.bipush 111, 2) := by decide +kernel
theorem dX12_init_173 : decode cX12_init 173 = .ok (.bastore, 1) := by decide +kernel
theorem dX12_init_174 : decode cX12_init 174 = .ok (.dup, 1) := by decide +kernel
theorem dX12_init_175 : decode cX12_init 175 = .ok (.bipush 23, 2) := by decide +kernel
theorem dX12_init_177 : decode cX12_init 177 = .ok (.bipush 114, 2) := by decide +kernel
theorem dX12_init_179 : decode cX12_init 179 = .ok (.bastore, 1) := by decide +kernel
theorem dX12_init_180 : decode cX12_init 180 = .ok (.dup, 1) := by decide +kernel
theorem dX12_init_181 : decode cX12_init 181 = .ok (.bipush 24, 2) := by decide +kernel
theorem dX12_init_183 : decode cX12_init 183 = .ok (.bipush 32, 2) := by decide +kernel
theorem dX12_init_185 : decode cX12_init 185 = .ok (.bastore, 1) := by decide +kernel
theorem dX12_init_186 : decode cX12_init 186 = .ok (.dup, 1) := by decide +kernel
theorem dX12_init_187 : decode cX12_init 187 = .ok (.bipush 25, 2) := by decide +kernel
theorem dX12_init_189 : decode cX12_init 189 = .ok (.bipush 97, 2) := by decide +kernel
theorem dX12_init_191 : decode cX12_init 191 = .ok (.bastore, 1) := by decide +kernel
theorem dX12_init_192 : decode cX12_init 192 = .ok (.dup, 1) := by decide +kernel
theorem dX12_init_193 : decode cX12_init 193 = .ok (.bipush 26, 2) := by decide +kernel
theorem dX12_init_195 : decode cX12_init 195 = .ok (.bipush 110, 2) := by decide +kernel
theorem dX12_init_197 : decode cX12_init 197 = .ok (.bastore, 1) := by decide +kernel
theorem dX12_init_198 : decode cX12_init 198 = .ok (.dup, 1) := by decide +kernel
theorem dX12_init_199 : decode cX12_init 199 = .ok (.bipush 27, 2) := by decide +kernel
theorem dX12_init_201 : decode cX12_init 201 = .ok (.bipush 100, 2) := by decide +kernel
theorem dX12_init_203 : decode cX12_init 203 = .ok (.bastore, 1) := by decide +kernel
theorem dX12_init_204 : decode cX12_init 204 = .ok (.dup, 1) := by decide +kernel
theorem dX12_init_205 : decode cX12_init 205 = .ok (.bipush 28, 2) := by decide +kernel
theorem dX12_init_207 : decode cX12_init 207 = .ok (.bipush 32, 2) := by decide +kernel
theorem dX12_init_209 : decode cX12_init 209 = .ok (.bastore, 1) := by decide +kernel
theorem dX12_init_210 : decode cX12_init 210 = .ok (.dup, 1) := by decide +kernel
theorem dX12_init_211 : decode cX12_init 211 = .ok (.bipush 29, 2) := by decide +kernel
theorem dX12_init_213 : decode cX12_init 213 = .ok (.bipush 110, 2) := by decide +kernel
theorem dX12_init_215 : decode cX12_init 215 = .ok (.bastore, 1) := by decide +kernel
theorem dX12_init_216 : decode cX12_init 216 = .ok (.dup, 1) := by decide +kernel
theorem dX12_init_217 : decode cX12_init 217 = .ok (.bipush 30, 2) := by decide +kernel
theorem dX12_init_219 : decode cX12_init 219 = .ok (.bipush 111, 2) := by decide +kernel
theorem dX12_init_221 : decode cX12_init 221 = .ok (.bastore, 1) := by decide +kernel
theorem dX12_init_222 : decode cX12_init 222 = .ok (.dup, 1) := by decide +kernel
theorem dX12_init_223 : decode cX12_init 223 = .ok (.bipush 31, 2) := by decide +kernel
theorem dX12_init_225 : decode cX12_init 225 = .ok (.bipush 116, 2) := by decide +kernel
theorem dX12_init_227 : decode cX12_init 227 = .ok (.bastore, 1) := by decide +kernel
theorem dX12_init_228 : decode cX12_init 228 = .ok (.dup, 1) := by decide +kernel
theorem dX12_init_229 : decode cX12_init 229 = .ok (.bipush 32, 2) := by decide +kernel
theorem dX12_init_231 : decode cX12_init 231 = .ok (.bipush 32, 2) := by decide +kernel
theorem dX12_init_233 : decode cX12_init 233 = .ok (.bastore, 1) := by decide +kernel
theorem dX12_init_234 : decode cX12_init 234 = .ok (.dup, 1) := by decide +kernel
theorem dX12_init_235 : decode cX12_init 235 = .ok (.bipush 33, 2) := by decide +kernel
theorem dX12_init_237 : decode cX12_init 237 = .ok (.bipush 107, 2) := by decide +kernel
theorem dX12_init_239 : decode cX12_init 239 = .ok (.bastore, 1) := by decide +kernel
theorem dX12_init_240 : decode cX12_init 240 = .ok (.dup, 1) := by decide +kernel
theorem dX12_init_241 : decode cX12_init 241 = .ok (.bipush 34, 2) := by decide +kernel
theorem dX12_init_243 : decode cX12_init 243 = .ok (.bipush 105, 2) := by decide +kernel
theorem dX12_init_245 : decode cX12_init 245 = .ok (.bastore, 1) := by decide +kernel
theorem dX12_init_246 : decode cX12_init 246 = .ok (.dup, 1) := by decide +kernel
theorem dX12_init_247 : decode cX12_init 247 = .ok (.bipush 35, 2) := by decide +kernel
theorem dX12_init_249 : decode cX12_init 249 = .ok (.bipush 110, 2) := by decide +kernel
theorem dX12_init_251 : decode cX12_init 251 = .ok (.bastore, 1) := by decide +kernel
theorem dX12_init_252 : decode cX12_init 252 = .ok (.dup, 1) := by decide +kernel
theorem dX12_init_253 : decode cX12_init 253 = .ok (.bipush 36, 2) := by decide +kernel
theorem dX12_init_255 : decode cX12_init 255 = .ok (.bipush 103, 2) := by decide +kernel
theorem dX12_init_257 : decode cX12_init 257 = .ok (.bastore, 1) := by decide +kernel
theorem dX12_init_258 : decode cX12_init 258 = .ok (.dup, 1) := by decide +kernel
theorem dX12_init_259 : decode cX12_init 259 = .ok (.bipush 37, 2) := by decide +kernel
theorem dX12_init_261 : decode cX12_init 261 = .ok (.bipush 32, 2) := by decide +kernel
theorem dX12_init_263 : decode cX12_init 263 = .ok (.bastore, 1) := by decide +kernel
theorem dX12_init_264 : decode cX12_init 264 = .ok (.dup, 1) := by decide +kernel
theorem dX12_init_265 : decode cX12_init 265 = .ok (.bipush 38, 2) := by decide +kernel
theorem dX12_init_267 : decode cX12_init 267 = .ok (.bipush 112, 2) := by decide +kernel
theorem dX12_init_269 : decode cX12_init 269 = .ok (.bastore, 1) := by decide +kernel
theorem dX12_init_270 : decode cX12_init 270 = .ok (.dup, 1) := by decide +kernel
theorem dX12_init_271 : decode cX12_init 271 = .ok (.bipush 39, 2) := by decide +kernel
theorem dX12_init_273 : decode cX12_init 273 = .ok (.bipush 97, 2) := by decide +kernel
theorem dX12_init_275 : decode cX12_init 275 = .ok (.bastore, 1) := by decide +kernel
theorem dX12_init_276 : decode cX12_init 276 = .ok (.dup, 1) := by decide +kernel
theorem dX12_init_277 : decode cX12_init 277 = .ok (.bipush 40, 2) := by decide +kernel
theorem dX12_init_279 : decode cX12_init 279 = .ok (.bipush 103, 2) := by decide +kernel
theorem dX12_init_281 : decode cX12_init 281 = .ok (.bastore, 1) := by decide +kernel
theorem dX12_init_282 : decode cX12_init 282 = .ok (.dup, 1) := by decide +kernel
theorem dX12_init_283 : decode cX12_init 283 = .ok (.bipush 41, 2) := by decide +kernel
theorem dX12_init_285 : decode cX12_init 285 = .ok (.bipush 101, 2) := by decide +kernel
theorem dX12_init_287 : decode cX12_init 287 = .ok (.bastore, 1) := by decide +kernel
theorem dX12_init_288 : decode cX12_init 288 = .ok (.dup, 1) := by decide +kernel
theorem dX12_init_289 : decode cX12_init 289 = .ok (.bipush 42, 2) := by decide +kernel
theorem dX12_init_291 : decode cX12_init 291 = .ok (.bipush 115, 2) := by decide +kernel
theorem dX12_init_293 : decode cX12_init 293 = .ok (.bastore, 1) := by decide +kernel
theorem dX12_init_294 : decode cX12_init 294 = .ok (.dup, 1) := by decide +kernel
theorem dX12_init_295 : decode cX12_init 295 = .ok (.bipush 43, 2) := by decide +kernel
theorem dX12_init_297 : decode cX12_init 297 = .ok (.bipush 32, 2) := by decide +kernel
theorem dX12_init_299 : decode cX12_init 299 = .ok (.bastore, 1) := by decide +kernel
theorem dX12_init_300 : decode cX12_init 300 = .ok (.dup, 1) := by decide +kernel
theorem dX12_init_301 : decode cX12_init 301 = .ok (.bipush 44, 2) := by decide +kernel
theorem dX12_init_303 : decode cX12_init 303 = .ok (.bipush 108, 2) := by decide +kernel
theorem dX12_init_305 : decode cX12_init 305 = .ok (.bastore, 1) := by decide +kernel
theorem dX12_init_306 : decode cX12_init 306 = .ok (.dup, 1) := by decide +kernel
theorem dX12_init_307 : decode cX12_init 307 = .ok (.bipush 45, 2) := by decide +kernel
theorem dX12_init_309 : decode cX12_init 309 = .ok (.bipush 101, 2) := by decide +kernel
theorem dX12_init_311 : decode cX12_init 311 = .ok (.bastore, 1) := by decide +kernel
theorem dX12_init_312 : decode cX12_init 312 = .ok (.dup, 1) := by decide +kernel
theorem dX12_init_313 : decode cX12_init 313 = .ok (.bipush 46, 2) := by decide +kernel
theorem dX12_init_315 : decode cX12_init 315 = .ok (.bipush 118, 2) := by decide +kernel
theorem dX12_init_317 : decode cX12_init 317 = .ok (.bastore, 1) := by decide +kernel
theorem dX12_init_318 : decode cX12_init 318 = .ok (.dup, 1) := by decide +kernel
theorem dX12_init_319 : decode cX12_init 319 = .ok (.bipush 47, 2) := by decide +kernel
theorem dX12_init_321 : decode cX12_init 321 = .ok (.bipush 101, 2) := by decide +kernel
theorem dX12_init_323 : decode cX12_init 323 = .ok (.bastore, 1) := by decide +kernel
theorem dX12_init_324 : decode cX12_init 324 = .ok (.dup, 1) := by decide +kernel
theorem dX12_init_325 : decode cX12_init 325 = .ok (.bipush 48, 2) := by decide +kernel
theorem dX12_init_327 : decode cX12_init 327 = .ok (.bipush 108, 2) := by decide +kernel
theorem dX12_init_329 : decode cX12_init 329 = .ok (.bastore, 1) := by decide +kernel
theorem dX12_init_330 : decode cX12_init 330 = .ok (.dup, 1) := by decide +kernel
theorem dX12_init_331 : decode cX12_init 331 = .ok (.bipush 49, 2) := by decide +kernel
theorem dX12_init_333 : decode cX12_init 333 = .ok (.bipush 32, 2) := by decide +kernel
theorem dX12_init_335 : decode cX12_init 335 = .ok (.bastore, 1) := by decide +kernel
theorem dX12_init_336 : decode cX12_init 336 = .ok (.dup, 1) := by decide +kernel
theorem dX12_init_337 : decode cX12_init 337 = .ok (.bipush 50, 2) := by decide +kernel
theorem dX12_init_339 : decode cX12_init 339 = .ok (.bipush 104, 2) := by decide +kernel
theorem dX12_init_341 : decode cX12_init 341 = .ok (.bastore, 1) := by decide +kernel
theorem dX12_init_342 : decode cX12_init 342 = .ok (.dup, 1) := by decide +kernel
theorem dX12_init_343 : decode cX12_init 343 = .ok (.bipush 51, 2) := by decide +kernel
theorem dX12_init_345 : decode cX12_init 345 = .ok (.bipush 101, 2) := by decide +kernel
theorem dX12_init_347 : decode cX12_init 347 = .ok (.bastore, 1) := by decide +kernel
theorem dX12_init_348 : decode cX12_init 348 = .ok (.dup, 1) := by decide +kernel
theorem dX12_init_349 : decode cX12_init 349 = .ok (.bipush 52, 2) := by decide +kernel
theorem dX12_init_351 : decode cX12_init 351 = .ok (.bipush 108, 2) := by decide +kernel
theorem dX12_init_353 : decode cX12_init 353 = .ok (.bastore, 1) := by decide +kernel
theorem dX12_init_354 : decode cX12_init 354 = .ok (.dup, 1) := by decide +kernel
theorem dX12_init_355 : decode cX12_init 355 = .ok (.bipush 53, 2) := by decide +kernel
theorem dX12_init_357 : decode cX12_init 357 = .ok (.bipush 112, 2) := by decide +kernel
theorem dX12_init_359 : decode cX12_init 359 = .ok (.bastore, 1) := by decide +kernel
theorem dX12_init_360 : decode cX12_init 360 = .ok (.dup, 1) := by decide +kernel
theorem dX12_init_361 : decode cX12_init 361 = .ok (.bipush 54, 2) := by decide +kernel
theorem dX12_init_363 : decode cX12_init 363 = .ok (.bipush 101, 2) := by decide +kernel
theorem dX12_init_365 : decode cX12_init 365 = .ok (.bastore, 1) := by decide +kernel
theorem dX12_init_366 : decode cX12_init 366 = .ok (.dup, 1) := by decide +kernel
theorem dX12_init_367 : decode cX12_init 367 = .ok (.bipush 55, 2) := by decide +kernel
theorem dX12_init_369 : decode cX12_init 369 = .ok (.bipush 100, 2) := by decide +kernel
theorem dX12_init_371 : decode cX12_init 371 = .ok (.bastore, 1) := by decide +kernel
theorem dX12_init_372 : decode cX12_init 372 = .ok (.dup, 1) := by decide +kernel
theorem dX12_init_373 : decode cX12_init 373 = .ok (.bipush 56, 2) := by decide +kernel
theorem dX12_init_375 : decode cX12_init 375 = .ok (.bipush 32, 2) := by decide +kernel
theorem dX12_init_377 : decode cX12_init 377 = .ok (.bastore, 1) := by decide +kernel
theorem dX12_init_378 : decode cX12_init 378 = .ok (.dup, 1) := by decide +kernel
theorem dX12_init_379 : decode cX12_init 379 = .ok (.bipush 57, 2) := by decide +kernel
theorem dX12_init_381 : decode cX12_init 381 = .ok (.bipush 108, 2) := by decide +kernel
theorem dX12_init_383 : decode cX12_init 383 = .ok (.bastore, 1) := by decide +kernel
theorem dX12_init_384 : decode cX12_init 384 = .ok (.dup, 1) := by decide +kernel
theorem dX12_init_385 : decode cX12_init 385 = .ok (.bipush 58, 2) := by decide +kernel
theorem dX12_init_387 : decode cX12_init 387 = .ok (.bipush 105, 2) := by decide +kernel
theorem dX12_init_389 : decode cX12_init 389 = .ok (.bastore, 1) := by decide +kernel
theorem dX12_init_390 : decode cX12_init 390 = .ok (.dup, 1) := by decide +kernel
theorem dX12_init_391 : decode cX12_init 391 = .ok (.bipush 59, 2) := by decide +kernel
theorem dX12_init_393 : decode cX12_init 393 = .ok (.bipush 107, 2) := by decide +kernel
theorem dX12_init_395 : decode cX12_init 395 = .ok (.bastore, 1) := by decide +kernel
theorem dX12_init_396 : decode cX12_init 396 = .ok (.dup, 1) := by decide +kernel
theorem dX12_init_397 : decode cX12_init 397 = .ok (.bipush 60, 2) := by decide +kernel
theorem dX12_init_399 : decode cX12_init 399 = .ok (.bipush 101, 2) := by decide +kernel
theorem dX12_init_401 : decode cX12_init 401 = .ok (.bastore, 1) := by decide +kernel
theorem dX12_init_402 : decode cX12_init 402 = .ok (.dup, 1) := by decide +kernel
theorem dX12_init_403 : decode cX12_init 403 = .ok (.bipush 61, 2) := by decide +kernel
theorem dX12_init_405 : decode cX12_init 405 = .ok (.bipush 100, 2) := by decide +kernel
theorem dX12_init_407 : decode cX12_init 407 = .ok (.bastore, 1) := by decide +kernel
theorem dX12_init_408 : decode cX12_init 408 = .ok (.dup, 1) := by decide +kernel
theorem dX12_init_409 : decode cX12_init 409 = .ok (.bipush 62, 2) := by decide +kernel
theorem dX12_init_411 : decode cX12_init 411 = .ok (.bipush 32, 2) := by decide +kernel
theorem dX12_init_413 : decode cX12_init 413 = .ok (.bastore, 1) := by decide +kernel
theorem dX12_init_414 : decode cX12_init 414 = .ok (.dup, 1) := by decide +kernel
theorem dX12_init_415 : decode cX12_init 415 = .ok (.bipush 63, 2) := by decide +kernel
theorem dX12_init_417 : decode cX12_init 417 = .ok (.bipush 100, 2) := by decide +kernel
theorem dX12_init_419 : decode cX12_init 419 = .ok (.bastore, 1) := by decide +kernel
theorem dX12_init_420 : decode cX12_init 420 = .ok (.dup, 1) := by decide +kernel
theorem dX12_init_421 : decode cX12_init 421 = .ok (.bipush 64, 2) := by decide +kernel
theorem dX12_init_423 : decode cX12_init 423 = .ok (.bipush 97, 2) := by decide +kernel
theorem dX12_init_425 : decode cX12_init 425 = .ok (.bastore, 1) := by decide +kernel
theorem dX12_init_426 : decode cX12_init 426 = .ok (.dup, 1) := by decide +kernel
theorem dX12_init_427 : decode cX12_init 427 = .ok (.bipush 65, 2) := by decide +kernel
theorem dX12_init_429 : decode cX12_init 429 = .ok (.bipush 121, 2) := by decide +kernel
theorem dX12_init_431 : decode cX12_init 431 = .ok (.bastore, 1) := by decide +kernel
theorem dX12_init_432 : decode cX12_init 432 = .ok (.dup, 1) := by decide +kernel
theorem dX12_init_433 : decode cX12_init 433 = .ok (.bipush 66, 2) := by decide +kernel
theorem dX12_init_435 : decode cX12_init 435 = .ok (.bipush 32, 2) := by decide +kernel
theorem dX12_init_437 : decode cX12_init 437 = .ok (.bastore, 1) := by decide +kernel
theorem dX12_init_438 : decode cX12_init 438 = .ok (.dup, 1) := by decide +kernel
theorem dX12_init_439 : decode cX12_init 439 = .ok (.bipush 67, 2) := by decide +kernel
theorem dX12_init_441 : decode cX12_init 441 = .ok (.bipush 113, 2) := by decide +kernel
theorem dX12_init_443 : decode cX12_init 443 = .ok (.bastore, 1) := by decide +kernel
theorem dX12_init_444 : decode cX12_init 444 = .ok (.dup, 1) := by decide +kernel
theorem dX12_init_445 : decode cX12_init 445 = .ok (.bipush 68, 2) := by decide +kernel
theorem dX12_init_447 : decode cX12_init 447 = .ok (.bipush 117, 2) := by decide +kernel
theorem dX12_init_449 : decode cX12_init 449 = .ok (.bastore, 1) := by decide +kernel
theorem dX12_init_450 : decode cX12_init 450 = .ok (.dup, 1) := by decide +kernel
theorem dX12_init_451 : decode cX12_init 451 = .ok (.bipush 69, 2) := by decide +kernel
theorem dX12_init_453 : decode cX12_init 453 = .ok (.bipush 101, 2) := by decide +kernel
theorem dX12_init_455 : decode cX12_init 455 = .ok (.bastore, 1) := by decide +kernel
theorem dX12_init_456 : decode cX12_init 456 = .ok (.dup, 1) := by decide +kernel
theorem dX12_init_457 : decode cX12_init 457 = .ok (.bipush 70, 2) := by decide +kernel
theorem dX12_init_459 : decode cX12_init 459 = .ok (.bipush 115, 2) := by decide +kernel
theorem dX12_init_461 : decode cX12_init 461 = .ok (.bastore, 1) := by decide +kernel
theorem dX12_init_462 : decode cX12_init 462 = .ok (.dup, 1) := by decide +kernel
theorem dX12_init_463 : decode cX12_init 463 = .ok (.bipush 71, 2) := by decide +kernel
theorem dX12_init_465 : decode cX12_init 465 = .ok (.bipush 116, 2) := by decide +kernel
theorem dX12_init_467 : decode cX12_init 467 = .ok (.bastore, 1) := by decide +kernel
theorem dX12_init_468 : decode cX12_init 468 = .ok (.dup, 1) := by decide +kernel
theorem dX12_init_469 : decode cX12_init 469 = .ok (.bipush 72, 2) := by decide +kernel
theorem dX12_init_471 : decode cX12_init 471 = .ok (.bipush 105, 2) := by decide +kernel
theorem dX12_init_473 : decode cX12_init 473 = .ok (.bastore, 1) := by decide +kernel
theorem dX12_init_474 : decode cX12_init 474 = .ok (.dup, 1) := by decide +kernel
theorem dX12_init_475 : decode cX12_init 475 = .ok (.bipush 73, 2) := by decide +kernel
theorem dX12_init_477 : decode cX12_init 477 = .ok (.bipush 111, 2) := by decide +kernel
theorem dX12_init_479 : decode cX12_init 479 = .ok (.bastore, 1) := by decide +kernel
theorem dX12_init_480 : decode cX12_init 480 = .ok (.dup, 1) := by decide +kernel
theorem dX12_init_481 : decode cX12_init 481 = .ok (.bipush 74, 2) := by decide +kernel
theorem dX12_init_483 : decode cX12_init 483 = .ok (.bipush 110, 2) := by decide +kernel
theorem dX12_init_485 : decode cX12_init 485 = .ok (.bastore, 1) := by decide +kernel
theorem dX12_init_486 : decode cX12_init 486 = .ok (.dup, 1) := by decide +kernel
theorem dX12_init_487 : decode cX12_init 487 = .ok (.bipush 75, 2) := by decide +kernel
theorem dX12_init_489 : decode cX12_init 489 = .ok (.bipush 32, 2) := by decide +kernel
theorem dX12_init_491 : decode cX12_init 491 = .ok (.bastore, 1) := by decide +kernel
theorem dX12_init_492 : decode cX12_init 492 = .ok (.putfield 30, 3) := by decide +kernel
theorem dX12_init_495 : decode cX12_init 495 = .ok (.aload_n 0, 1) := by decide +kernel
theorem dX12_init_496 : decode cX12_init 496 = .ok (.sipush 400, 3) := by decide +kernel
theorem dX12_init_499 : decode cX12_init 499 = .ok (.newarray .byte, 2) := by decide +kernel
theorem dX12_init_501 : decode cX12_init 501 = .ok (.putfield 34, 3) := by decide +kernel
theorem dX12_init_504 : decode cX12_init 504 = .ok (.aload_n 0, 1) := by decide +kernel
theorem dX12_init_505 : decode cX12_init 505 = .ok (.iconst 5, 1) := by decide +kernel
theorem dX12_init_506 : decode cX12_init 506 = .ok (.newarray .int, 2) := by decide +kernel
theorem dX12_init_508 : decode cX12_init 508 = .ok (.putfield 37, 3) := by decide +kernel
theorem dX12_init_511 : decode cX12_init 511 = .ok (.aload_n 0, 1) := by decide +kernel
theorem dX12_init_512 : decode cX12_init 512 = .ok (.iconst (-1), 1) := by decide +kernel
theorem dX12_init_513 : decode cX12_init 513 = .ok (.putfield 40, 3) := by decide +kernel
theorem dX12_init_516 : decode cX12_init 516 = .ok (.aload_n 0, 1) := by decide +kernel
theorem dX12_init_517 : decode cX12_init 517 = .ok (.sipush 401, 3) := by decide +kernel
theorem dX12_init_520 : decode cX12_init 520 = .ok (.newarray .int, 2) := by decide +kernel
theorem dX12_init_522 : decode cX12_init 522 = .ok (.putfield 43, 3) := by decide +kernel
theorem dX12_init_525 : decode cX12_init 525 = .ok (.aload_n 0, 1) := by decide +kernel
theorem dX12_init_526 : decode cX12_init 526 = .ok (.sipush 401, 3) := by decide +kernel
theorem dX12_init_529 : decode cX12_init 529 = .ok (.newarray .int, 2) := by decide +kernel
theorem dX12_init_531 : decode cX12_init 531 = .ok (.putfield 46, 3) := by decide +kernel
theorem dX12_init_534 : decode cX12_init 534 = .ok (.aload_n 0, 1) := by decide +kernel
theorem dX12_init_535 : decode cX12_init 535 = .ok (.sipush 401, 3) := by decide +kernel
theorem dX12_init_538 : decode cX12_init 538 = .ok (.newarray .int, 2) := by decide +kernel
theorem dX12_init_540 : decode cX12_init 540 = .ok (.putfield 49, 3) := by decide +kernel
theorem dX12_init_543 : decode cX12_init 543 = .ok (.aload_n 0, 1) := by decide +kernel
theorem dX12_init_544 : decode cX12_init 544 = .ok (.bipush 7, 2) := by decide +kernel
theorem dX12_init_546 : decode cX12_init 546 = .ok (.newarray .int, 2) := by decide +kernel
theorem dX12_init_548 : decode cX12_init 548 = .ok (.putfield 52, 3) := by decide +kernel
theorem dX12_init_551 : decode cX12_init 551 = .ok (.aload_n 0, 1) := by decide +kernel
theorem dX12_init_552 : decode cX12_init 552 = .ok (.iconst 3, 1) := by decide +kernel
theorem dX12_init_553 : decode cX12_init 553 = .ok (.newarray .int, 2) := by decide +kernel
theorem dX12_init_555 : decode cX12_init 555 = .ok (.putfield 55, 3) := by decide +kernel
theorem dX12_init_558 : decode cX12_init 558 = .ok (.aload_n 0, 1) := by decide +kernel
theorem dX12_init_559 : decode cX12_init 559 = .ok (.iconst 3, 1) := by decide +kernel
theorem dX12_init_560 : decode cX12_init 560 = .ok (.newarray .int, 2) := by decide +kernel
theorem dX12_init_562 : decode cX12_init 562 = .ok (.putfield 58, 3) := by decide +kernel
theorem dX12_init_565 : decode cX12_init 565 = .ok (.aload_n 0, 1) := by decide +kernel
theorem dX12_init_566 : decode cX12_init 566 = .ok (.iconst 3, 1) := by decide +kernel
theorem dX12_init_567 : decode cX12_init 567 = .ok (.newarray .int, 2) := by decide +kernel
theorem dX12_init_569 : decode cX12_init 569 = .ok (.putfield 61, 3) := by decide +kernel
theorem dX12_init_572 : decode cX12_init 572 = .ok (.aload_n 0, 1) := by decide +kernel
theorem dX12_init_573 : decode cX12_init 573 = .ok (.iconst 3, 1) := by decide +kernel
theorem dX12_init_574 : decode cX12_init 574 = .ok (.newarray .int, 2) := by decide +kernel
theorem dX12_init_576 : decode cX12_init 576 = .ok (.putfield 64, 3) := by decide +kernel
theorem dX12_init_579 : decode cX12_init 579 = .ok (.aload_n 0, 1) := by decide +kernel
theorem dX12_init_580 : decode cX12_init 580 = .ok (.iconst 4, 1) := by decide +kernel
theorem dX12_init_581 : decode cX12_init 581 = .ok (.newarray .long, 2) := by decide +kernel
theorem dX12_init_583 : decode cX12_init 583 = .ok (.putfield 67, 3) := by decide +kernel
theorem dX12_init_586 : decode cX12_init 586 = .ok (.aload_n 0, 1) := by decide +kernel
theorem dX12_init_587 : decode cX12_init 587 = .ok (.iconst 4, 1) := by decide +kernel
theorem dX12_init_588 : decode cX12_init 588 = .ok (.newarray .long, 2) := by decide +kernel
theorem dX12_init_590 : decode cX12_init 590 = .ok (.putfield 71, 3) := by decide +kernel
theorem dX12_init_593 : decode cX12_init 593 = .ok (.aload_n 0, 1) := by decide +kernel
theorem dX12_init_594 : decode cX12_init 594 = .ok (.ldc 74, 2) := by decide +kernel
theorem dX12_init_596 : decode cX12_init 596 = .ok (.newarray .int, 2) := by decide +kernel
theorem dX12_init_598 : decode cX12_init 598 = .ok (.putfield 75, 3) := by decide +kernel
theorem dX12_init_601 : decode cX12_init 601 = .ok (.aload_n 0, 1) := by decide +kernel
theorem dX12_init_602 : decode cX12_init 602 = .ok (.sipush 441, 3) := by decide +kernel
theorem dX12_init_605 : decode cX12_init 605 = .ok (.newarray .long, 2) := by decide +kernel
theorem dX12_init_607 : decode cX12_init 607 = .ok (.putfield 78, 3) := by decide +kernel
theorem dX12_init_610 : decode cX12_init 610 = .ok (.aload_n 0, 1) := by decide +kernel
theorem dX12_init_611 : decode cX12_init 611 = .ok (.bipush 80, 2) := by decide +kernel
theorem dX12_init_613 : decode cX12_init 613 = .ok (.newarray .int, 2) := by decide +kernel
theorem dX12_init_615 : decode cX12_init 615 = .ok (.putfield 81, 3) := by decide +kernel
theorem dX12_init_618 : decode cX12_init 618 = .ok (.aload_n 0, 1) := by decide +kernel
theorem dX12_init_619 : decode cX12_init 619 = .ok (.iconst (-1), 1) := by decide +kernel
theorem dX12_init_620 : decode cX12_init 620 = .ok (.putfield 84, 3) := by decide +kernel
theorem dX12_init_623 : decode cX12_init 623 = .ok (.aload_n 0, 1) := by decide +kernel
theorem dX12_init_624 : decode cX12_init 624 = .ok (.bipush 20, 2) := by decide +kernel
theorem dX12_init_626 : decode cX12_init 626 = .ok (.newarray .int, 2) := by decide +kernel
theorem dX12_init_628 : decode cX12_init 628 = .ok (.putfield 87, 3) := by decide +kernel
theorem dX12_init_631 : decode cX12_init 631 = .ok (.aload_n 0, 1) := by decide +kernel
theorem dX12_init_632 : decode cX12_init 632 = .ok (.sipush 400, 3) := by decide +kernel
theorem dX12_init_635 : decode cX12_init 635 = .ok (.newarray .int, 2) := by decide +kernel
theorem dX12_init_637 : decode cX12_init 637 = .ok (.putfield 90, 3) := by decide +kernel
theorem dX12_init_640 : decode cX12_init 640 = .ok (.aload_n 0, 1) := by decide +kernel
theorem dX12_init_641 : decode cX12_init 641 = .ok (.bipush 20, 2) := by decide +kernel
theorem dX12_init_643 : decode cX12_init 643 = .ok (.newarray .int, 2) := by decide +kernel
theorem dX12_init_645 : decode cX12_init 645 = .ok (.putfield 93, 3) := by decide +kernel
theorem dX12_init_648 : decode cX12_init 648 = .ok (.aload_n 0, 1) := by decide +kernel
theorem dX12_init_649 : decode cX12_init 649 = .ok (.bipush 20, 2) := by decide +kernel
theorem dX12_init_651 : decode cX12_init 651 = .ok (.newarray .int, 2) := by decide +kernel
theorem dX12_init_653 : decode cX12_init 653 = .ok (.putfield 96, 3) := by decide +kernel
theorem dX12_init_656 : decode cX12_init 656 = .ok (.aload_n 0, 1) := by decide +kernel
theorem dX12_init_657 : decode cX12_init 657 = .ok (.bipush 20, 2) := by decide +kernel
theorem dX12_init_659 : decode cX12_init 659 = .ok (.newarray .int, 2) := by decide +kernel
theorem dX12_init_661 : decode cX12_init 661 = .ok (.putfield 99, 3) := by decide +kernel
theorem dX12_init_664 : decode cX12_init 664 = .ok (.aload_n 0, 1) := by decide +kernel
theorem dX12_init_665 : decode cX12_init 665 = .ok (.bipush 40, 2) := by decide +kernel
theorem dX12_init_667 : decode cX12_init 667 = .ok (.newarray .int, 2) := by decide +kernel
theorem dX12_init_669 : decode cX12_init 669 = .ok (.putfield 102, 3) := by decide +kernel
theorem dX12_init_672 : decode cX12_init 672 = .ok (.aload_n 0, 1) := by decide +kernel
theorem dX12_init_673 : decode cX12_init 673 = .ok (.bipush 20, 2) := by decide +kernel
theorem dX12_init_675 : decode cX12_init 675 = .ok (.newarray .int, 2) := by decide +kernel
theorem dX12_init_677 : decode cX12_init 677 = .ok (.putfield 105, 3) := by decide +kernel
theorem dX12_init_680 : decode cX12_init 680 = .ok (.aload_n 0, 1) := by decide +kernel
theorem dX12_init_681 : decode cX12_init 681 = .ok (.iconst 3, 1) := by decide +kernel
theorem dX12_init_682 : decode cX12_init 682 = .ok (.newarray .int, 2) := by decide +kernel
theorem dX12_init_684 : decode cX12_init 684 = .ok (.putfield 108, 3) := by decide +kernel
theorem dX12_init_687 : decode cX12_init 687 = .ok (.aload_n 0, 1) := by decide +kernel
theorem dX12_init_688 : decode cX12_init 688 = .ok (.bipush 12, 2) := by decide +kernel
theorem dX12_init_690 : decode cX12_init 690 = .ok (.newarray .int, 2) := by decide +kernel
theorem dX12_init_692 : decode cX12_init 692 = .ok (.putfield 111, 3) := by decide +kernel
theorem dX12_init_695 : decode cX12_init 695 = .ok (.aload_n 0, 1) := by decide +kernel
theorem dX12_init_696 : decode cX12_init 696 = .ok (.bipush 12, 2) := by decide +kernel
theorem dX12_init_698 : decode cX12_init 698 = .ok (.newarray .int, 2) := by decide +kernel
theorem dX12_init_700 : decode cX12_init 700 = .ok (.putfield 114, 3) := by decide +kernel
theorem dX12_init_703 : decode cX12_init 703 = .ok (.aload_n 0, 1) := by decide +kernel
theorem dX12_init_704 : decode cX12_init 704 = .ok (.bipush 12, 2) := by decide +kernel
theorem dX12_init_706 : decode cX12_init 706 = .ok (.newarray .int, 2) := by decide +kernel
theorem dX12_init_708 : decode cX12_init 708 = .ok (.putfield 117, 3) := by decide +kernel
theorem dX12_init_711 : decode cX12_init 711 = .ok (.aload_n 0, 1) := by decide +kernel
theorem dX12_init_712 : decode cX12_init 712 = .ok (.iconst (-1), 1) := by decide +kernel
theorem dX12_init_713 : decode cX12_init 713 = .ok (.putfield 120, 3) := by decide +kernel
theorem dX12_init_716 : decode cX12_init 716 = .ok (.aload_n 0, 1) := by decide +kernel
theorem dX12_init_717 : decode cX12_init 717 = .ok (.bipush 12, 2) := by decide +kernel
theorem dX12_init_719 : decode cX12_init 719 = .ok (.newarray .long, 2) := by decide +kernel
theorem dX12_init_721 : decode cX12_init 721 = .ok (.putfield 123, 3) := by decide +kernel
theorem dX12_init_724 : decode cX12_init 724 = .ok (.aload_n 0, 1) := by decide +kernel
theorem dX12_init_725 : decode cX12_init 725 = .ok (.bipush 12, 2) := by decide +kernel
theorem dX12_init_727 : decode cX12_init 727 = .ok (.newarray .long, 2) := by decide +kernel
theorem dX12_init_729 : decode cX12_init 729 = .ok (.putfield 126, 3) := by decide +kernel
theorem dX12_init_732 : decode cX12_init 732 = .ok (.aload_n 0, 1) := by decide +kernel
theorem dX12_init_733 : decode cX12_init 733 = .ok (.bipush 12, 2) := by decide +kernel
theorem dX12_init_735 : decode cX12_init 735 = .ok (.newarray .long, 2) := by decide +kernel
theorem dX12_init_737 : decode cX12_init 737 = .ok (.putfield 129, 3) := by decide +kernel
theorem dX12_init_740 : decode cX12_init 740 = .ok (.aload_n 0, 1) := by decide +kernel
theorem dX12_init_741 : decode cX12_init 741 = .ok (.iconst (-1), 1) := by decide +kernel
theorem dX12_init_742 : decode cX12_init 742 = .ok (.putfield 132, 3) := by decide +kernel
theorem dX12_init_745 : decode cX12_init 745 = .ok (.aload_n 0, 1) := by decide +kernel
theorem dX12_init_746 : decode cX12_init 746 = .ok (.getfield 20, 3) := by decide +kernel
theorem dX12_init_749 : decode cX12_init 749 = .ok (.bipush 100, 2) := by decide +kernel
theorem dX12_init_751 : decode cX12_init 751 = .ok (.bipush 8, 2) := by decide +kernel
theorem dX12_init_753 : decode cX12_init 753 = .ok (.iastore, 1) := by decide +kernel
theorem dX12_init_754 : decode cX12_init 754 = .ok (.aload_n 0, 1) := by decide +kernel
theorem dX12_init_755 : decode cX12_init 755 = .ok (.getfield 20, 3) := by decide +kernel
theorem dX12_init_758 : decode cX12_init 758 = .ok (.bipush 101, 2) := by decide +kernel
theorem dX12_init_760 : decode cX12_init 760 = .ok (.iconst 3, 1) := by decide +kernel
theorem dX12_init_761 : decode cX12_init 761 = .ok (.iastore, 1) := by decide +kernel
theorem dX12_init_762 : decode cX12_init 762 = .ok (.aload_n 0, 1) := by decide +kernel
theorem dX12_init_763 : decode cX12_init 763 = .ok (.getfield 20, 3) := by decide +kernel
theorem dX12_init_766 : decode cX12_init 766 = .ok (.bipush 102, 2) := by decide +kernel
theorem dX12_init_768 : decode cX12_init 768 = .ok (.iconst 2, 1) := by decide +kernel
theorem dX12_init_769 : decode cX12_init 769 = .ok (.iastore, 1) := by decide +kernel
theorem dX12_init_770 : decode cX12_init 770 = .ok (.aload_n 0, 1) := by decide +kernel
theorem dX12_init_771 : decode cX12_init 771 = .ok (.getfield 20, 3) := by decide +kernel
theorem dX12_init_774 : decode cX12_init 774 = .ok (.bipush 104, 2) := by decide +kernel
theorem dX12_init_776 : decode cX12_init 776 = .ok (.bipush 10, 2) := by decide +kernel
theorem dX12_init_778 : decode cX12_init 778 = .ok (.iastore, 1) := by decide +kernel
theorem dX12_init_779 : decode cX12_init 779 = .ok (.aload_n 0, 1) := by decide +kernel
theorem dX12_init_780 : decode cX12_init 780 = .ok (.getfield 20, 3) := by decide +kernel
theorem dX12_init_783 : decode cX12_init 783 = .ok (.bipush 105, 2) := by decide +kernel
theorem dX12_init_785 : decode cX12_init 785 = .ok (.bipush 19, 2) := by decide +kernel
theorem dX12_init_787 : decode cX12_init 787 = .ok (.iastore, 1) := by decide +kernel
theorem dX12_init_788 : decode cX12_init 788 = .ok (.aload_n 0, 1) := by decide +kernel
theorem dX12_init_789 : decode cX12_init 789 = .ok (.getfield 20, 3) := by decide +kernel
theorem dX12_init_792 : decode cX12_init 792 = .ok (.bipush 106, 2) := by decide +kernel
theorem dX12_init_794 : decode cX12_init 794 = .ok (.bipush 6, 2) := by decide +kernel
theorem dX12_init_796 : decode cX12_init 796 = .ok (.iastore, 1) := by decide +kernel
theorem dX12_init_797 : decode cX12_init 797 = .ok (.aload_n 0, 1) := by decide +kernel
theorem dX12_init_798 : decode cX12_init 798 = .ok (.getfield 20, 3) := by decide +kernel
theorem dX12_init_801 : decode cX12_init 801 = .ok (.sipush 394, 3) := by decide +kernel
theorem dX12_init_804 : decode cX12_init 804 = .ok (.iconst (-1), 1) := by decide +kernel
theorem dX12_init_805 : decode cX12_init 805 = .ok (.iastore, 1) := by decide +kernel
theorem dX12_init_806 : decode cX12_init 806 = .ok (.return_, 1) := by decide +kernel
abbrev YX12_init : zY := (yX12_init, cX12_init, 1, none, [])
def cKd (t : FieldType) : Bool := match t with | .int => true | .boolean => true | .byte => true | .long => true | .object _ => true | .array _ => true | _ => false
theorem cKd_of {t : FieldType} (h : cKd t = true) : t = .int ∨ t = .boolean ∨ t = .byte ∨ t = .long ∨ (∃ u, t = .object u) ∨ ∃ u, t = .array u := by
  cases t <;> first | (exact absurd h (by decide)) | simp
theorem ckd0 : ∀ k, k < 7 → zty 0 k = .int ∨ zty 0 k = .boolean ∨ zty 0 k = .byte ∨ zty 0 k = .long ∨ (∃ t, zty 0 k = .object t) ∨ ∃ t, zty 0 k = .array t := by
  intro k hk
  exact (show ∀ k, k < 7 → cKd (zty 0 k) = true from by decide +kernel) k hk |> cKd_of
theorem ckd1 : ∀ k, k < 10 → zty 1 k = .int ∨ zty 1 k = .boolean ∨ zty 1 k = .byte ∨ zty 1 k = .long ∨ (∃ t, zty 1 k = .object t) ∨ ∃ t, zty 1 k = .array t := by
  intro k hk
  exact (show ∀ k, k < 10 → cKd (zty 1 k) = true from by decide +kernel) k hk |> cKd_of
theorem ckd2 : ∀ k, k < 8 → zty 2 k = .int ∨ zty 2 k = .boolean ∨ zty 2 k = .byte ∨ zty 2 k = .long ∨ (∃ t, zty 2 k = .object t) ∨ ∃ t, zty 2 k = .array t := by
  intro k hk
  exact (show ∀ k, k < 8 → cKd (zty 2 k) = true from by decide +kernel) k hk |> cKd_of
theorem ckd4 : ∀ k, k < 20 → zty 4 k = .int ∨ zty 4 k = .boolean ∨ zty 4 k = .byte ∨ zty 4 k = .long ∨ (∃ t, zty 4 k = .object t) ∨ ∃ t, zty 4 k = .array t := by
  intro k hk
  exact (show ∀ k, k < 20 → cKd (zty 4 k) = true from by decide +kernel) k hk |> cKd_of
theorem ckd5 : ∀ k, k < 2 → zty 5 k = .int ∨ zty 5 k = .boolean ∨ zty 5 k = .byte ∨ zty 5 k = .long ∨ (∃ t, zty 5 k = .object t) ∨ ∃ t, zty 5 k = .array t := by
  intro k hk
  exact (show ∀ k, k < 2 → cKd (zty 5 k) = true from by decide +kernel) k hk |> cKd_of
theorem ckd6 : ∀ k, k < 11 → zty 6 k = .int ∨ zty 6 k = .boolean ∨ zty 6 k = .byte ∨ zty 6 k = .long ∨ (∃ t, zty 6 k = .object t) ∨ ∃ t, zty 6 k = .array t := by
  intro k hk
  exact (show ∀ k, k < 11 → cKd (zty 6 k) = true from by decide +kernel) k hk |> cKd_of
theorem ckd7 : ∀ k, k < 12 → zty 7 k = .int ∨ zty 7 k = .boolean ∨ zty 7 k = .byte ∨ zty 7 k = .long ∨ (∃ t, zty 7 k = .object t) ∨ ∃ t, zty 7 k = .array t := by
  intro k hk
  exact (show ∀ k, k < 12 → cKd (zty 7 k) = true from by decide +kernel) k hk |> cKd_of
theorem ckd8 : ∀ k, k < 9 → zty 8 k = .int ∨ zty 8 k = .boolean ∨ zty 8 k = .byte ∨ zty 8 k = .long ∨ (∃ t, zty 8 k = .object t) ∨ ∃ t, zty 8 k = .array t := by
  intro k hk
  exact (show ∀ k, k < 9 → cKd (zty 8 k) = true from by decide +kernel) k hk |> cKd_of
theorem ckd9 : ∀ k, k < 18 → zty 9 k = .int ∨ zty 9 k = .boolean ∨ zty 9 k = .byte ∨ zty 9 k = .long ∨ (∃ t, zty 9 k = .object t) ∨ ∃ t, zty 9 k = .array t := by
  intro k hk
  exact (show ∀ k, k < 18 → cKd (zty 9 k) = true from by decide +kernel) k hk |> cKd_of
theorem ckd10 : ∀ k, k < 4 → zty 10 k = .int ∨ zty 10 k = .boolean ∨ zty 10 k = .byte ∨ zty 10 k = .long ∨ (∃ t, zty 10 k = .object t) ∨ ∃ t, zty 10 k = .array t := by
  intro k hk
  exact (show ∀ k, k < 4 → cKd (zty 10 k) = true from by decide +kernel) k hk |> cKd_of
theorem ckd11 : ∀ k, k < 19 → zty 11 k = .int ∨ zty 11 k = .boolean ∨ zty 11 k = .byte ∨ zty 11 k = .long ∨ (∃ t, zty 11 k = .object t) ∨ ∃ t, zty 11 k = .array t := by
  intro k hk
  exact (show ∀ k, k < 19 → cKd (zty 11 k) = true from by decide +kernel) k hk |> cKd_of
theorem ckd12 : ∀ k, k < 70 → zty 12 k = .int ∨ zty 12 k = .boolean ∨ zty 12 k = .byte ∨ zty 12 k = .long ∨ (∃ t, zty 12 k = .object t) ∨ ∃ t, zty 12 k = .array t := by
  intro k hk
  exact (show ∀ k, k < 70 → cKd (zty 12 k) = true from by decide +kernel) k hk |> cKd_of
section ZCn
variable {α : Type} {l : Launch} {E : zE} {d : Nat} {Y : zY} {pc : Nat} {ls : zLs} {st : List zV} {F : zFs} {D : zDa} {n sl : Nat} {cv : α → zRes} {x : Option α}
theorem cnw0 {j : Nat} (hi : decode Y.2.1 pc = .ok (.new j, 3)) (hw : Cond.classLink Y.1.cls j "ExamSlips$Backward" ∈ zgood) (hn9 : n < 900000) (k : zO l E d Y (pc + 3) ls (zR n :: st) (znew F n (1, 0, zdf 0), zrow D n (zdf 0), n + 1, sl + 7) cv x) : zO l E d Y pc ls st (F, D, n, sl) cv x := zO_newo (c := 0) (C := RX0) hi hw wT_X0 wN_X0 rfl inX0 tyX0_ok (by decide) (ckd0) hn9 k
theorem cnw1 {j : Nat} (hi : decode Y.2.1 pc = .ok (.new j, 3)) (hw : Cond.classLink Y.1.cls j "ExamSlips$Diary" ∈ zgood) (hn9 : n < 900000) (k : zO l E d Y (pc + 3) ls (zR n :: st) (znew F n (2, 0, zdf 1), zrow D n (zdf 1), n + 1, sl + 10) cv x) : zO l E d Y pc ls st (F, D, n, sl) cv x := zO_newo (c := 1) (C := RX1) hi hw wT_X1 wN_X1 rfl inX1 tyX1_ok (by decide) (ckd1) hn9 k
theorem cnw2 {j : Nat} (hi : decode Y.2.1 pc = .ok (.new j, 3)) (hw : Cond.classLink Y.1.cls j "ExamSlips$Lot" ∈ zgood) (hn9 : n < 900000) (k : zO l E d Y (pc + 3) ls (zR n :: st) (znew F n (3, 0, zdf 2), zrow D n (zdf 2), n + 1, sl + 8) cv x) : zO l E d Y pc ls st (F, D, n, sl) cv x := zO_newo (c := 2) (C := RX2) hi hw wT_X2 wN_X2 rfl inX2 tyX2_ok (by decide) (ckd2) hn9 k
theorem cnw4 {j : Nat} (hi : decode Y.2.1 pc = .ok (.new j, 3)) (hw : Cond.classLink Y.1.cls j "ExamSlips$Planner" ∈ zgood) (hn9 : n < 900000) (k : zO l E d Y (pc + 3) ls (zR n :: st) (znew F n (5, 0, zdf 4), zrow D n (zdf 4), n + 1, sl + 20) cv x) : zO l E d Y pc ls st (F, D, n, sl) cv x := zO_newo (c := 4) (C := RX4) hi hw wT_X4 wN_X4 rfl inX4 tyX4_ok (by decide) (ckd4) hn9 k
theorem cnw5 {j : Nat} (hi : decode Y.2.1 pc = .ok (.new j, 3)) (hw : Cond.classLink Y.1.cls j "ExamSlips$Rarity" ∈ zgood) (hn9 : n < 900000) (k : zO l E d Y (pc + 3) ls (zR n :: st) (znew F n (6, 0, zdf 5), zrow D n (zdf 5), n + 1, sl + 2) cv x) : zO l E d Y pc ls st (F, D, n, sl) cv x := zO_newo (c := 5) (C := RX5) hi hw wT_X5 wN_X5 rfl inX5 tyX5_ok (by decide) (ckd5) hn9 k
theorem cnw6 {j : Nat} (hi : decode Y.2.1 pc = .ok (.new j, 3)) (hw : Cond.classLink Y.1.cls j "ExamSlips$Reader" ∈ zgood) (hn9 : n < 900000) (k : zO l E d Y (pc + 3) ls (zR n :: st) (znew F n (7, 0, zdf 6), zrow D n (zdf 6), n + 1, sl + 11) cv x) : zO l E d Y pc ls st (F, D, n, sl) cv x := zO_newo (c := 6) (C := RX6) hi hw wT_X6 wN_X6 rfl inX6 tyX6_ok (by decide) (ckd6) hn9 k
theorem cnw7 {j : Nat} (hi : decode Y.2.1 pc = .ok (.new j, 3)) (hw : Cond.classLink Y.1.cls j "ExamSlips$Sharing" ∈ zgood) (hn9 : n < 900000) (k : zO l E d Y (pc + 3) ls (zR n :: st) (znew F n (8, 0, zdf 7), zrow D n (zdf 7), n + 1, sl + 12) cv x) : zO l E d Y pc ls st (F, D, n, sl) cv x := zO_newo (c := 7) (C := RX7) hi hw wT_X7 wN_X7 rfl inX7 tyX7_ok (by decide) (ckd7) hn9 k
theorem cnw8 {j : Nat} (hi : decode Y.2.1 pc = .ok (.new j, 3)) (hw : Cond.classLink Y.1.cls j "ExamSlips$Sitting" ∈ zgood) (hn9 : n < 900000) (k : zO l E d Y (pc + 3) ls (zR n :: st) (znew F n (9, 0, zdf 8), zrow D n (zdf 8), n + 1, sl + 9) cv x) : zO l E d Y pc ls st (F, D, n, sl) cv x := zO_newo (c := 8) (C := RX8) hi hw wT_X8 wN_X8 rfl inX8 tyX8_ok (by decide) (ckd8) hn9 k
theorem cnw9 {j : Nat} (hi : decode Y.2.1 pc = .ok (.new j, 3)) (hw : Cond.classLink Y.1.cls j "ExamSlips$State" ∈ zgood) (hn9 : n < 900000) (k : zO l E d Y (pc + 3) ls (zR n :: st) (znew F n (10, 0, zdf 9), zrow D n (zdf 9), n + 1, sl + 18) cv x) : zO l E d Y pc ls st (F, D, n, sl) cv x := zO_newo (c := 9) (C := RX9) hi hw wT_X9 wN_X9 rfl inX9 tyX9_ok (by decide) (ckd9) hn9 k
theorem cnw10 {j : Nat} (hi : decode Y.2.1 pc = .ok (.new j, 3)) (hw : Cond.classLink Y.1.cls j "ExamSlips$Teller" ∈ zgood) (hn9 : n < 900000) (k : zO l E d Y (pc + 3) ls (zR n :: st) (znew F n (11, 0, zdf 10), zrow D n (zdf 10), n + 1, sl + 4) cv x) : zO l E d Y pc ls st (F, D, n, sl) cv x := zO_newo (c := 10) (C := RX10) hi hw wT_X10 wN_X10 rfl inX10 tyX10_ok (by decide) (ckd10) hn9 k
theorem cnw11 {j : Nat} (hi : decode Y.2.1 pc = .ok (.new j, 3)) (hw : Cond.classLink Y.1.cls j "ExamSlips" ∈ zgood) (hn9 : n < 900000) (k : zO l E d Y (pc + 3) ls (zR n :: st) (znew F n (12, 0, zdf 11), zrow D n (zdf 11), n + 1, sl + 19) cv x) : zO l E d Y pc ls st (F, D, n, sl) cv x := zO_newo (c := 11) (C := RX11) hi hw wT_X11 wN_X11 rfl inX11 tyX11_ok (by decide) (ckd11) hn9 k
theorem cnw12 {j : Nat} (hi : decode Y.2.1 pc = .ok (.new j, 3)) (hw : Cond.classLink Y.1.cls j "ExamSlipsModel" ∈ zgood) (hn9 : n < 900000) (k : zO l E d Y (pc + 3) ls (zR n :: st) (znew F n (13, 0, zdf 12), zrow D n (zdf 12), n + 1, sl + 70) cv x) : zO l E d Y pc ls st (F, D, n, sl) cv x := zO_newo (c := 12) (C := RX12) hi hw wT_X12 wN_X12 rfl inX12 tyX12_ok (by decide) (ckd12) hn9 k
end ZCn
