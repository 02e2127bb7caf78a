-- decode rows, by wip/tools/decodes.py
theorem d_BF_countParts_0 : decode b_BF_countParts 0 = .ok (.iconst 0, 1) := by decide +kernel
theorem d_BF_countParts_1 : decode b_BF_countParts 1 = .ok (.istore_n 3, 1) := by decide +kernel
theorem d_BF_countParts_2 : decode b_BF_countParts 2 = .ok (.iload_n 3, 1) := by decide +kernel
theorem d_BF_countParts_3 : decode b_BF_countParts 3 = .ok (.aload_n 0, 1) := by decide +kernel
theorem d_BF_countParts_4 : decode b_BF_countParts 4 = .ok (.getfield 55, 3) := by decide +kernel
theorem d_BF_countParts_7 : decode b_BF_countParts 7 = .ok (.if_icmp .ge 22, 3) := by decide +kernel
theorem d_BF_countParts_10 : decode b_BF_countParts 10 = .ok (.aload_n 0, 1) := by decide +kernel
theorem d_BF_countParts_11 : decode b_BF_countParts 11 = .ok (.getfield 48, 3) := by decide +kernel
theorem d_BF_countParts_14 : decode b_BF_countParts 14 = .ok (.iload_n 3, 1) := by decide +kernel
theorem d_BF_countParts_15 : decode b_BF_countParts 15 = .ok (.aload_n 1, 1) := by decide +kernel
theorem d_BF_countParts_16 : decode b_BF_countParts 16 = .ok (.iload_n 3, 1) := by decide +kernel
theorem d_BF_countParts_17 : decode b_BF_countParts 17 = .ok (.aload_n 2, 1) := by decide +kernel
theorem d_BF_countParts_18 : decode b_BF_countParts 18 = .ok (.invokevirtual 93, 3) := by decide +kernel
theorem d_BF_countParts_21 : decode b_BF_countParts 21 = .ok (.l2i, 1) := by decide +kernel
theorem d_BF_countParts_22 : decode b_BF_countParts 22 = .ok (.iastore, 1) := by decide +kernel
theorem d_BF_countParts_23 : decode b_BF_countParts 23 = .ok (.iinc 3 1, 3) := by decide +kernel
theorem d_BF_countParts_26 : decode b_BF_countParts 26 = .ok (.goto (-24), 3) := by decide +kernel
theorem d_BF_countParts_29 : decode b_BF_countParts 29 = .ok (.iconst 0, 1) := by decide +kernel
theorem d_BF_countParts_30 : decode b_BF_countParts 30 = .ok (.istore_n 3, 1) := by decide +kernel
theorem d_BF_countParts_31 : decode b_BF_countParts 31 = .ok (.aload_n 0, 1) := by decide +kernel
theorem d_BF_countParts_32 : decode b_BF_countParts 32 = .ok (.getfield 14, 3) := by decide +kernel
theorem d_BF_countParts_35 : decode b_BF_countParts 35 = .ok (.getfield 51, 3) := by decide +kernel
theorem d_BF_countParts_38 : decode b_BF_countParts 38 = .ok (.iconst 1, 1) := by decide +kernel
theorem d_BF_countParts_39 : decode b_BF_countParts 39 = .ok (.isub, 1) := by decide +kernel
theorem d_BF_countParts_40 : decode b_BF_countParts 40 = .ok (.istore 4, 2) := by decide +kernel
theorem d_BF_countParts_42 : decode b_BF_countParts 42 = .ok (.iload 4, 2) := by decide +kernel
theorem d_BF_countParts_44 : decode b_BF_countParts 44 = .ok (.ifCond .lt 66, 3) := by decide +kernel
theorem d_BF_countParts_47 : decode b_BF_countParts 47 = .ok (.aload_n 0, 1) := by decide +kernel
theorem d_BF_countParts_48 : decode b_BF_countParts 48 = .ok (.iload 4, 2) := by decide +kernel
theorem d_BF_countParts_50 : decode b_BF_countParts 50 = .ok (.invokevirtual 103, 3) := by decide +kernel
theorem d_BF_countParts_53 : decode b_BF_countParts 53 = .ok (.istore 5, 2) := by decide +kernel
theorem d_BF_countParts_55 : decode b_BF_countParts 55 = .ok (.iconst 0, 1) := by decide +kernel
theorem d_BF_countParts_56 : decode b_BF_countParts 56 = .ok (.istore 6, 2) := by decide +kernel
theorem d_BF_countParts_58 : decode b_BF_countParts 58 = .ok (.iload 6, 2) := by decide +kernel
theorem d_BF_countParts_60 : decode b_BF_countParts 60 = .ok (.aload_n 0, 1) := by decide +kernel
theorem d_BF_countParts_61 : decode b_BF_countParts 61 = .ok (.getfield 55, 3) := by decide +kernel
theorem d_BF_countParts_64 : decode b_BF_countParts 64 = .ok (.if_icmp .ge 35, 3) := by decide +kernel
theorem d_BF_countParts_67 : decode b_BF_countParts 67 = .ok (.aload_n 0, 1) := by decide +kernel
theorem d_BF_countParts_68 : decode b_BF_countParts 68 = .ok (.getfield 48, 3) := by decide +kernel
theorem d_BF_countParts_71 : decode b_BF_countParts 71 = .ok (.iload 6, 2) := by decide +kernel
theorem d_BF_countParts_73 : decode b_BF_countParts 73 = .ok (.dup2, 1) := by decide +kernel
theorem d_BF_countParts_74 : decode b_BF_countParts 74 = .ok (.iaload, 1) := by decide +kernel
theorem d_BF_countParts_75 : decode b_BF_countParts 75 = .ok (.iload 5, 2) := by decide +kernel
theorem d_BF_countParts_77 : decode b_BF_countParts 77 = .ok (.aload_n 0, 1) := by decide +kernel
theorem d_BF_countParts_78 : decode b_BF_countParts 78 = .ok (.getfield 45, 3) := by decide +kernel
theorem d_BF_countParts_81 : decode b_BF_countParts 81 = .ok (.iload 4, 2) := by decide +kernel
theorem d_BF_countParts_83 : decode b_BF_countParts 83 = .ok (.bipush 8, 2) := by decide +kernel
theorem d_BF_countParts_85 : decode b_BF_countParts 85 = .ok (.imul, 1) := by decide +kernel
theorem d_BF_countParts_86 : decode b_BF_countParts 86 = .ok (.iload 6, 2) := by decide +kernel
theorem d_BF_countParts_88 : decode b_BF_countParts 88 = .ok (.iadd, 1) := by decide +kernel
theorem d_BF_countParts_89 : decode b_BF_countParts 89 = .ok (.iaload, 1) := by decide +kernel
theorem d_BF_countParts_90 : decode b_BF_countParts 90 = .ok (.imul, 1) := by decide +kernel
theorem d_BF_countParts_91 : decode b_BF_countParts 91 = .ok (.isub, 1) := by decide +kernel
theorem d_BF_countParts_92 : decode b_BF_countParts 92 = .ok (.iastore, 1) := by decide +kernel
theorem d_BF_countParts_93 : decode b_BF_countParts 93 = .ok (.iinc 6 1, 3) := by decide +kernel
theorem d_BF_countParts_96 : decode b_BF_countParts 96 = .ok (.goto (-38), 3) := by decide +kernel
theorem d_BF_countParts_99 : decode b_BF_countParts 99 = .ok (.iload_n 3, 1) := by decide +kernel
theorem d_BF_countParts_100 : decode b_BF_countParts 100 = .ok (.iload 5, 2) := by decide +kernel
theorem d_BF_countParts_102 : decode b_BF_countParts 102 = .ok (.iadd, 1) := by decide +kernel
theorem d_BF_countParts_103 : decode b_BF_countParts 103 = .ok (.istore_n 3, 1) := by decide +kernel
theorem d_BF_countParts_104 : decode b_BF_countParts 104 = .ok (.iinc 4 (-1), 3) := by decide +kernel
theorem d_BF_countParts_107 : decode b_BF_countParts 107 = .ok (.goto (-65), 3) := by decide +kernel
theorem d_BF_countParts_110 : decode b_BF_countParts 110 = .ok (.iload_n 3, 1) := by decide +kernel
theorem d_BF_countParts_111 : decode b_BF_countParts 111 = .ok (.ireturn, 1) := by decide +kernel
theorem d_BF_find_0 : decode b_BF_find 0 = .ok (.aload_n 0, 1) := by decide +kernel
theorem d_BF_find_1 : decode b_BF_find 1 = .ok (.aload_n 1, 1) := by decide +kernel
theorem d_BF_find_2 : decode b_BF_find 2 = .ok (.getfield 51, 3) := by decide +kernel
theorem d_BF_find_5 : decode b_BF_find 5 = .ok (.putfield 55, 3) := by decide +kernel
theorem d_BF_find_8 : decode b_BF_find 8 = .ok (.aload_n 0, 1) := by decide +kernel
theorem d_BF_find_9 : decode b_BF_find 9 = .ok (.getfield 14, 3) := by decide +kernel
theorem d_BF_find_12 : decode b_BF_find 12 = .ok (.iconst 0, 1) := by decide +kernel
theorem d_BF_find_13 : decode b_BF_find 13 = .ok (.putfield 51, 3) := by decide +kernel
theorem d_BF_find_16 : decode b_BF_find 16 = .ok (.aload_n 0, 1) := by decide +kernel
theorem d_BF_find_17 : decode b_BF_find 17 = .ok (.aload_n 0, 1) := by decide +kernel
theorem d_BF_find_18 : decode b_BF_find 18 = .ok (.aload_n 2, 1) := by decide +kernel
theorem d_BF_find_19 : decode b_BF_find 19 = .ok (.iload 4, 2) := by decide +kernel
theorem d_BF_find_21 : decode b_BF_find 21 = .ok (.invokevirtual 58, 3) := by decide +kernel
theorem d_BF_find_24 : decode b_BF_find 24 = .ok (.putfield 62, 3) := by decide +kernel
theorem d_BF_find_27 : decode b_BF_find 27 = .ok (.aload_n 0, 1) := by decide +kernel
theorem d_BF_find_28 : decode b_BF_find 28 = .ok (.getfield 62, 3) := by decide +kernel
theorem d_BF_find_31 : decode b_BF_find 31 = .ok (.ifCond .eq 4, 3) := by decide +kernel
theorem d_BF_find_34 : decode b_BF_find 34 = .ok (.return_, 1) := by decide +kernel
theorem d_BF_find_35 : decode b_BF_find 35 = .ok (.aload_n 0, 1) := by decide +kernel
theorem d_BF_find_36 : decode b_BF_find 36 = .ok (.getfield 30, 3) := by decide +kernel
theorem d_BF_find_39 : decode b_BF_find 39 = .ok (.aload_n 3, 1) := by decide +kernel
theorem d_BF_find_40 : decode b_BF_find 40 = .ok (.invokevirtual 66, 3) := by decide +kernel
theorem d_BF_find_43 : decode b_BF_find 43 = .ok (.iconst 0, 1) := by decide +kernel
theorem d_BF_find_44 : decode b_BF_find 44 = .ok (.istore 5, 2) := by decide +kernel
theorem d_BF_find_46 : decode b_BF_find 46 = .ok (.iload 5, 2) := by decide +kernel
theorem d_BF_find_48 : decode b_BF_find 48 = .ok (.aload_n 2, 1) := by decide +kernel
theorem d_BF_find_49 : decode b_BF_find 49 = .ok (.getfield 51, 3) := by decide +kernel
theorem d_BF_find_52 : decode b_BF_find 52 = .ok (.if_icmp .ge 30, 3) := by decide +kernel
theorem d_BF_find_55 : decode b_BF_find 55 = .ok (.aload_n 2, 1) := by decide +kernel
theorem d_BF_find_56 : decode b_BF_find 56 = .ok (.iload 5, 2) := by decide +kernel
theorem d_BF_find_58 : decode b_BF_find 58 = .ok (.aload_n 0, 1) := by decide +kernel
theorem d_BF_find_59 : decode b_BF_find 59 = .ok (.getfield 41, 3) := by decide +kernel
theorem d_BF_find_62 : decode b_BF_find 62 = .ok (.invokevirtual 70, 3) := by decide +kernel
theorem d_BF_find_65 : decode b_BF_find 65 = .ok (.aload_n 0, 1) := by decide +kernel
theorem d_BF_find_66 : decode b_BF_find 66 = .ok (.getfield 14, 3) := by decide +kernel
theorem d_BF_find_69 : decode b_BF_find 69 = .ok (.aload_n 0, 1) := by decide +kernel
theorem d_BF_find_70 : decode b_BF_find 70 = .ok (.getfield 41, 3) := by decide +kernel
theorem d_BF_find_73 : decode b_BF_find 73 = .ok (.invokevirtual 74, 3) := by decide +kernel
theorem d_BF_find_76 : decode b_BF_find 76 = .ok (.iinc 5 1, 3) := by decide +kernel
theorem d_BF_find_79 : decode b_BF_find 79 = .ok (.goto (-33), 3) := by decide +kernel
theorem d_BF_find_82 : decode b_BF_find 82 = .ok (.iconst 0, 1) := by decide +kernel
theorem d_BF_find_83 : decode b_BF_find 83 = .ok (.istore 5, 2) := by decide +kernel
theorem d_BF_find_85 : decode b_BF_find 85 = .ok (.iload 5, 2) := by decide +kernel
theorem d_BF_find_87 : decode b_BF_find 87 = .ok (.aload_n 0, 1) := by decide +kernel
theorem d_BF_find_88 : decode b_BF_find 88 = .ok (.getfield 30, 3) := by decide +kernel
theorem d_BF_find_91 : decode b_BF_find 91 = .ok (.getfield 78, 3) := by decide +kernel
theorem d_BF_find_94 : decode b_BF_find 94 = .ok (.if_icmp .ge 31, 3) := by decide +kernel
theorem d_BF_find_97 : decode b_BF_find 97 = .ok (.aload_n 0, 1) := by decide +kernel
theorem d_BF_find_98 : decode b_BF_find 98 = .ok (.getfield 37, 3) := by decide +kernel
theorem d_BF_find_101 : decode b_BF_find 101 = .ok (.aload_n 0, 1) := by decide +kernel
theorem d_BF_find_102 : decode b_BF_find 102 = .ok (.getfield 14, 3) := by decide +kernel
theorem d_BF_find_105 : decode b_BF_find 105 = .ok (.aload_n 2, 1) := by decide +kernel
theorem d_BF_find_106 : decode b_BF_find 106 = .ok (.aload_n 0, 1) := by decide +kernel
theorem d_BF_find_107 : decode b_BF_find 107 = .ok (.getfield 30, 3) := by decide +kernel
theorem d_BF_find_110 : decode b_BF_find 110 = .ok (.getfield 79, 3) := by decide +kernel
theorem d_BF_find_113 : decode b_BF_find 113 = .ok (.iload 5, 2) := by decide +kernel
theorem d_BF_find_115 : decode b_BF_find 115 = .ok (.iaload, 1) := by decide +kernel
theorem d_BF_find_116 : decode b_BF_find 116 = .ok (.invokevirtual 82, 3) := by decide +kernel
theorem d_BF_find_119 : decode b_BF_find 119 = .ok (.iinc 5 1, 3) := by decide +kernel
theorem d_BF_find_122 : decode b_BF_find 122 = .ok (.goto (-37), 3) := by decide +kernel
theorem d_BF_find_125 : decode b_BF_find 125 = .ok (.aload_n 0, 1) := by decide +kernel
theorem d_BF_find_126 : decode b_BF_find 126 = .ok (.aload_n 1, 1) := by decide +kernel
theorem d_BF_find_127 : decode b_BF_find 127 = .ok (.invokevirtual 86, 3) := by decide +kernel
theorem d_BF_find_130 : decode b_BF_find 130 = .ok (.aload_n 0, 1) := by decide +kernel
theorem d_BF_find_131 : decode b_BF_find 131 = .ok (.invokevirtual 90, 3) := by decide +kernel
theorem d_BF_find_134 : decode b_BF_find 134 = .ok (.return_, 1) := by decide +kernel
theorem d_BF_init_0 : decode b_BF_init 0 = .ok (.aload_n 0, 1) := by decide +kernel
theorem d_BF_init_1 : decode b_BF_init 1 = .ok (.invokespecial 3, 3) := by decide +kernel
theorem d_BF_init_4 : decode b_BF_init 4 = .ok (.aload_n 0, 1) := by decide +kernel
theorem d_BF_init_5 : decode b_BF_init 5 = .ok (.new 9, 3) := by decide +kernel
theorem d_BF_init_8 : decode b_BF_init 8 = .ok (.dup, 1) := by decide +kernel
theorem d_BF_init_9 : decode b_BF_init 9 = .ok (.bipush 107, 2) := by decide +kernel
theorem d_BF_init_11 : decode b_BF_init 11 = .ok (.invokespecial 11, 3) := by decide +kernel
theorem d_BF_init_14 : decode b_BF_init 14 = .ok (.putfield 14, 3) := by decide +kernel
theorem d_BF_init_17 : decode b_BF_init 17 = .ok (.aload_n 0, 1) := by decide +kernel
theorem d_BF_init_18 : decode b_BF_init 18 = .ok (.new 20, 3) := by decide +kernel
theorem d_BF_init_21 : decode b_BF_init 21 = .ok (.dup, 1) := by decide +kernel
theorem d_BF_init_22 : decode b_BF_init 22 = .ok (.invokespecial 22, 3) := by decide +kernel
theorem d_BF_init_25 : decode b_BF_init 25 = .ok (.putfield 23, 3) := by decide +kernel
theorem d_BF_init_28 : decode b_BF_init 28 = .ok (.aload_n 0, 1) := by decide +kernel
theorem d_BF_init_29 : decode b_BF_init 29 = .ok (.new 27, 3) := by decide +kernel
theorem d_BF_init_32 : decode b_BF_init 32 = .ok (.dup, 1) := by decide +kernel
theorem d_BF_init_33 : decode b_BF_init 33 = .ok (.invokespecial 29, 3) := by decide +kernel
theorem d_BF_init_36 : decode b_BF_init 36 = .ok (.putfield 30, 3) := by decide +kernel
theorem d_BF_init_39 : decode b_BF_init 39 = .ok (.aload_n 0, 1) := by decide +kernel
theorem d_BF_init_40 : decode b_BF_init 40 = .ok (.new 34, 3) := by decide +kernel
theorem d_BF_init_43 : decode b_BF_init 43 = .ok (.dup, 1) := by decide +kernel
theorem d_BF_init_44 : decode b_BF_init 44 = .ok (.invokespecial 36, 3) := by decide +kernel
theorem d_BF_init_47 : decode b_BF_init 47 = .ok (.putfield 37, 3) := by decide +kernel
theorem d_BF_init_50 : decode b_BF_init 50 = .ok (.aload_n 0, 1) := by decide +kernel
theorem d_BF_init_51 : decode b_BF_init 51 = .ok (.iconst 4, 1) := by decide +kernel
theorem d_BF_init_52 : decode b_BF_init 52 = .ok (.newarray .int, 2) := by decide +kernel
theorem d_BF_init_54 : decode b_BF_init 54 = .ok (.putfield 41, 3) := by decide +kernel
theorem d_BF_init_57 : decode b_BF_init 57 = .ok (.aload_n 0, 1) := by decide +kernel
theorem d_BF_init_58 : decode b_BF_init 58 = .ok (.sipush 856, 3) := by decide +kernel
theorem d_BF_init_61 : decode b_BF_init 61 = .ok (.newarray .int, 2) := by decide +kernel
theorem d_BF_init_63 : decode b_BF_init 63 = .ok (.putfield 45, 3) := by decide +kernel
theorem d_BF_init_66 : decode b_BF_init 66 = .ok (.aload_n 0, 1) := by decide +kernel
theorem d_BF_init_67 : decode b_BF_init 67 = .ok (.bipush 8, 2) := by decide +kernel
theorem d_BF_init_69 : decode b_BF_init 69 = .ok (.newarray .int, 2) := by decide +kernel
theorem d_BF_init_71 : decode b_BF_init 71 = .ok (.putfield 48, 3) := by decide +kernel
theorem d_BF_init_74 : decode b_BF_init 74 = .ok (.return_, 1) := by decide +kernel
theorem d_BF_isBelow_0 : decode b_BF_isBelow 0 = .ok (.iconst 0, 1) := by decide +kernel
theorem d_BF_isBelow_1 : decode b_BF_isBelow 1 = .ok (.istore_n 3, 1) := by decide +kernel
theorem d_BF_isBelow_2 : decode b_BF_isBelow 2 = .ok (.iload_n 3, 1) := by decide +kernel
theorem d_BF_isBelow_3 : decode b_BF_isBelow 3 = .ok (.aload_n 0, 1) := by decide +kernel
theorem d_BF_isBelow_4 : decode b_BF_isBelow 4 = .ok (.getfield 55, 3) := by decide +kernel
theorem d_BF_isBelow_7 : decode b_BF_isBelow 7 = .ok (.if_icmp .ge 36, 3) := by decide +kernel
theorem d_BF_isBelow_10 : decode b_BF_isBelow 10 = .ok (.aload_n 0, 1) := by decide +kernel
theorem d_BF_isBelow_11 : decode b_BF_isBelow 11 = .ok (.getfield 45, 3) := by decide +kernel
theorem d_BF_isBelow_14 : decode b_BF_isBelow 14 = .ok (.iload_n 1, 1) := by decide +kernel
theorem d_BF_isBelow_15 : decode b_BF_isBelow 15 = .ok (.bipush 8, 2) := by decide +kernel
theorem d_BF_isBelow_17 : decode b_BF_isBelow 17 = .ok (.imul, 1) := by decide +kernel
theorem d_BF_isBelow_18 : decode b_BF_isBelow 18 = .ok (.iload_n 3, 1) := by decide +kernel
theorem d_BF_isBelow_19 : decode b_BF_isBelow 19 = .ok (.iadd, 1) := by decide +kernel
theorem d_BF_isBelow_20 : decode b_BF_isBelow 20 = .ok (.iaload, 1) := by decide +kernel
theorem d_BF_isBelow_21 : decode b_BF_isBelow 21 = .ok (.aload_n 0, 1) := by decide +kernel
theorem d_BF_isBelow_22 : decode b_BF_isBelow 22 = .ok (.getfield 45, 3) := by decide +kernel
theorem d_BF_isBelow_25 : decode b_BF_isBelow 25 = .ok (.iload_n 2, 1) := by decide +kernel
theorem d_BF_isBelow_26 : decode b_BF_isBelow 26 = .ok (.bipush 8, 2) := by decide +kernel
theorem d_BF_isBelow_28 : decode b_BF_isBelow 28 = .ok (.imul, 1) := by decide +kernel
theorem d_BF_isBelow_29 : decode b_BF_isBelow 29 = .ok (.iload_n 3, 1) := by decide +kernel
theorem d_BF_isBelow_30 : decode b_BF_isBelow 30 = .ok (.iadd, 1) := by decide +kernel
theorem d_BF_isBelow_31 : decode b_BF_isBelow 31 = .ok (.iaload, 1) := by decide +kernel
theorem d_BF_isBelow_32 : decode b_BF_isBelow 32 = .ok (.if_icmp .le 5, 3) := by decide +kernel
theorem d_BF_isBelow_35 : decode b_BF_isBelow 35 = .ok (.iconst 0, 1) := by decide +kernel
theorem d_BF_isBelow_36 : decode b_BF_isBelow 36 = .ok (.ireturn, 1) := by decide +kernel
theorem d_BF_isBelow_37 : decode b_BF_isBelow 37 = .ok (.iinc 3 1, 3) := by decide +kernel
theorem d_BF_isBelow_40 : decode b_BF_isBelow 40 = .ok (.goto (-38), 3) := by decide +kernel
theorem d_BF_isBelow_43 : decode b_BF_isBelow 43 = .ok (.iconst 1, 1) := by decide +kernel
theorem d_BF_isBelow_44 : decode b_BF_isBelow 44 = .ok (.ireturn, 1) := by decide +kernel
theorem d_BF_isLarge_0 : decode b_BF_isLarge 0 = .ok (.aload_n 1, 1) := by decide +kernel
theorem d_BF_isLarge_1 : decode b_BF_isLarge 1 = .ok (.getfield 51, 3) := by decide +kernel
theorem d_BF_isLarge_4 : decode b_BF_isLarge 4 = .ok (.bipush 8, 2) := by decide +kernel
theorem d_BF_isLarge_6 : decode b_BF_isLarge 6 = .ok (.if_icmp .le 5, 3) := by decide +kernel
theorem d_BF_isLarge_9 : decode b_BF_isLarge 9 = .ok (.iconst 1, 1) := by decide +kernel
theorem d_BF_isLarge_10 : decode b_BF_isLarge 10 = .ok (.ireturn, 1) := by decide +kernel
theorem d_BF_isLarge_11 : decode b_BF_isLarge 11 = .ok (.iconst 1, 1) := by decide +kernel
theorem d_BF_isLarge_12 : decode b_BF_isLarge 12 = .ok (.aload_n 1, 1) := by decide +kernel
theorem d_BF_isLarge_13 : decode b_BF_isLarge 13 = .ok (.getfield 51, 3) := by decide +kernel
theorem d_BF_isLarge_16 : decode b_BF_isLarge 16 = .ok (.ishl, 1) := by decide +kernel
theorem d_BF_isLarge_17 : decode b_BF_isLarge 17 = .ok (.istore_n 3, 1) := by decide +kernel
theorem d_BF_isLarge_18 : decode b_BF_isLarge 18 = .ok (.iconst 0, 1) := by decide +kernel
theorem d_BF_isLarge_19 : decode b_BF_isLarge 19 = .ok (.istore 4, 2) := by decide +kernel
theorem d_BF_isLarge_21 : decode b_BF_isLarge 21 = .ok (.iload 4, 2) := by decide +kernel
theorem d_BF_isLarge_23 : decode b_BF_isLarge 23 = .ok (.iload_n 3, 1) := by decide +kernel
theorem d_BF_isLarge_24 : decode b_BF_isLarge 24 = .ok (.if_icmp .ge 48, 3) := by decide +kernel
theorem d_BF_isLarge_27 : decode b_BF_isLarge 27 = .ok (.iload 4, 2) := by decide +kernel
theorem d_BF_isLarge_29 : decode b_BF_isLarge 29 = .ok (.invokestatic 113, 3) := by decide +kernel
theorem d_BF_isLarge_32 : decode b_BF_isLarge 32 = .ok (.iload_n 2, 1) := by decide +kernel
theorem d_BF_isLarge_33 : decode b_BF_isLarge 33 = .ok (.if_icmp .ne 33, 3) := by decide +kernel
theorem d_BF_isLarge_36 : decode b_BF_isLarge 36 = .ok (.aload_n 0, 1) := by decide +kernel
theorem d_BF_isLarge_37 : decode b_BF_isLarge 37 = .ok (.getfield 23, 3) := by decide +kernel
theorem d_BF_isLarge_40 : decode b_BF_isLarge 40 = .ok (.aload_n 1, 1) := by decide +kernel
theorem d_BF_isLarge_41 : decode b_BF_isLarge 41 = .ok (.iload 4, 2) := by decide +kernel
theorem d_BF_isLarge_43 : decode b_BF_isLarge 43 = .ok (.invokevirtual 118, 3) := by decide +kernel
theorem d_BF_isLarge_46 : decode b_BF_isLarge 46 = .ok (.iload_n 2, 1) := by decide +kernel
theorem d_BF_isLarge_47 : decode b_BF_isLarge 47 = .ok (.if_icmp .ne 19, 3) := by decide +kernel
theorem d_BF_isLarge_50 : decode b_BF_isLarge 50 = .ok (.aload_n 0, 1) := by decide +kernel
theorem d_BF_isLarge_51 : decode b_BF_isLarge 51 = .ok (.getfield 23, 3) := by decide +kernel
theorem d_BF_isLarge_54 : decode b_BF_isLarge 54 = .ok (.invokevirtual 122, 3) := by decide +kernel
theorem d_BF_isLarge_57 : decode b_BF_isLarge 57 = .ok (.ldc2_w 126, 3) := by decide +kernel
theorem d_BF_isLarge_60 : decode b_BF_isLarge 60 = .ok (.lcmp, 1) := by decide +kernel
theorem d_BF_isLarge_61 : decode b_BF_isLarge 61 = .ok (.ifCond .le 5, 3) := by decide +kernel
theorem d_BF_isLarge_64 : decode b_BF_isLarge 64 = .ok (.iconst 1, 1) := by decide +kernel
theorem d_BF_isLarge_65 : decode b_BF_isLarge 65 = .ok (.ireturn, 1) := by decide +kernel
theorem d_BF_isLarge_66 : decode b_BF_isLarge 66 = .ok (.iinc 4 1, 3) := by decide +kernel
theorem d_BF_isLarge_69 : decode b_BF_isLarge 69 = .ok (.goto (-48), 3) := by decide +kernel
theorem d_BF_isLarge_72 : decode b_BF_isLarge 72 = .ok (.iconst 0, 1) := by decide +kernel
theorem d_BF_isLarge_73 : decode b_BF_isLarge 73 = .ok (.ireturn, 1) := by decide +kernel
theorem d_BF_isSum_0 : decode b_BF_isSum 0 = .ok (.iconst 0, 1) := by decide +kernel
theorem d_BF_isSum_1 : decode b_BF_isSum 1 = .ok (.istore_n 3, 1) := by decide +kernel
theorem d_BF_isSum_2 : decode b_BF_isSum 2 = .ok (.iload_n 3, 1) := by decide +kernel
theorem d_BF_isSum_3 : decode b_BF_isSum 3 = .ok (.aload_n 0, 1) := by decide +kernel
theorem d_BF_isSum_4 : decode b_BF_isSum 4 = .ok (.getfield 14, 3) := by decide +kernel
theorem d_BF_isSum_7 : decode b_BF_isSum 7 = .ok (.getfield 51, 3) := by decide +kernel
theorem d_BF_isSum_10 : decode b_BF_isSum 10 = .ok (.if_icmp .ge 30, 3) := by decide +kernel
theorem d_BF_isSum_13 : decode b_BF_isSum 13 = .ok (.iload_n 3, 1) := by decide +kernel
theorem d_BF_isSum_14 : decode b_BF_isSum 14 = .ok (.iload_n 2, 1) := by decide +kernel
theorem d_BF_isSum_15 : decode b_BF_isSum 15 = .ok (.if_icmp .lt 8, 3) := by decide +kernel
theorem d_BF_isSum_18 : decode b_BF_isSum 18 = .ok (.iload_n 3, 1) := by decide +kernel
theorem d_BF_isSum_19 : decode b_BF_isSum 19 = .ok (.iload_n 1, 1) := by decide +kernel
theorem d_BF_isSum_20 : decode b_BF_isSum 20 = .ok (.if_icmp .le 14, 3) := by decide +kernel
theorem d_BF_isSum_23 : decode b_BF_isSum 23 = .ok (.aload_n 0, 1) := by decide +kernel
theorem d_BF_isSum_24 : decode b_BF_isSum 24 = .ok (.iload_n 3, 1) := by decide +kernel
theorem d_BF_isSum_25 : decode b_BF_isSum 25 = .ok (.iload_n 1, 1) := by decide +kernel
theorem d_BF_isSum_26 : decode b_BF_isSum 26 = .ok (.invokevirtual 142, 3) := by decide +kernel
theorem d_BF_isSum_29 : decode b_BF_isSum 29 = .ok (.ifCond .eq 5, 3) := by decide +kernel
theorem d_BF_isSum_32 : decode b_BF_isSum 32 = .ok (.iconst 1, 1) := by decide +kernel
theorem d_BF_isSum_33 : decode b_BF_isSum 33 = .ok (.ireturn, 1) := by decide +kernel
theorem d_BF_isSum_34 : decode b_BF_isSum 34 = .ok (.iinc 3 1, 3) := by decide +kernel
theorem d_BF_isSum_37 : decode b_BF_isSum 37 = .ok (.goto (-35), 3) := by decide +kernel
theorem d_BF_isSum_40 : decode b_BF_isSum 40 = .ok (.iconst 0, 1) := by decide +kernel
theorem d_BF_isSum_41 : decode b_BF_isSum 41 = .ok (.ireturn, 1) := by decide +kernel
theorem d_BF_leastProduct_0 : decode b_BF_leastProduct 0 = .ok (.lconst 0, 1) := by decide +kernel
theorem d_BF_leastProduct_1 : decode b_BF_leastProduct 1 = .ok (.lstore_n 2, 1) := by decide +kernel
theorem d_BF_leastProduct_2 : decode b_BF_leastProduct 2 = .ok (.iconst 0, 1) := by decide +kernel
theorem d_BF_leastProduct_3 : decode b_BF_leastProduct 3 = .ok (.istore 4, 2) := by decide +kernel
theorem d_BF_leastProduct_5 : decode b_BF_leastProduct 5 = .ok (.iload 4, 2) := by decide +kernel
theorem d_BF_leastProduct_7 : decode b_BF_leastProduct 7 = .ok (.aload_n 0, 1) := by decide +kernel
theorem d_BF_leastProduct_8 : decode b_BF_leastProduct 8 = .ok (.getfield 14, 3) := by decide +kernel
theorem d_BF_leastProduct_11 : decode b_BF_leastProduct 11 = .ok (.getfield 51, 3) := by decide +kernel
theorem d_BF_leastProduct_14 : decode b_BF_leastProduct 14 = .ok (.if_icmp .ge 38, 3) := by decide +kernel
theorem d_BF_leastProduct_17 : decode b_BF_leastProduct 17 = .ok (.aload_n 0, 1) := by decide +kernel
theorem d_BF_leastProduct_18 : decode b_BF_leastProduct 18 = .ok (.getfield 14, 3) := by decide +kernel
theorem d_BF_leastProduct_21 : decode b_BF_leastProduct 21 = .ok (.iload 4, 2) := by decide +kernel
theorem d_BF_leastProduct_23 : decode b_BF_leastProduct 23 = .ok (.aload_n 1, 1) := by decide +kernel
theorem d_BF_leastProduct_24 : decode b_BF_leastProduct 24 = .ok (.invokevirtual 93, 3) := by decide +kernel
theorem d_BF_leastProduct_27 : decode b_BF_leastProduct 27 = .ok (.lstore 5, 2) := by decide +kernel
theorem d_BF_leastProduct_29 : decode b_BF_leastProduct 29 = .ok (.iload 4, 2) := by decide +kernel
theorem d_BF_leastProduct_31 : decode b_BF_leastProduct 31 = .ok (.ifCond .ne 8, 3) := by decide +kernel
theorem d_BF_leastProduct_34 : decode b_BF_leastProduct 34 = .ok (.lload 5, 2) := by decide +kernel
theorem d_BF_leastProduct_36 : decode b_BF_leastProduct 36 = .ok (.goto 9, 3) := by decide +kernel
theorem d_BF_leastProduct_39 : decode b_BF_leastProduct 39 = .ok (.lload_n 2, 1) := by decide +kernel
theorem d_BF_leastProduct_40 : decode b_BF_leastProduct 40 = .ok (.lload 5, 2) := by decide +kernel
theorem d_BF_leastProduct_42 : decode b_BF_leastProduct 42 = .ok (.invokestatic 97, 3) := by decide +kernel
theorem d_BF_leastProduct_45 : decode b_BF_leastProduct 45 = .ok (.lstore_n 2, 1) := by decide +kernel
theorem d_BF_leastProduct_46 : decode b_BF_leastProduct 46 = .ok (.iinc 4 1, 3) := by decide +kernel
theorem d_BF_leastProduct_49 : decode b_BF_leastProduct 49 = .ok (.goto (-44), 3) := by decide +kernel
theorem d_BF_leastProduct_52 : decode b_BF_leastProduct 52 = .ok (.lload_n 2, 1) := by decide +kernel
theorem d_BF_leastProduct_53 : decode b_BF_leastProduct 53 = .ok (.l2i, 1) := by decide +kernel
theorem d_BF_leastProduct_54 : decode b_BF_leastProduct 54 = .ok (.ireturn, 1) := by decide +kernel
theorem d_BF_measure_0 : decode b_BF_measure 0 = .ok (.iconst 0, 1) := by decide +kernel
theorem d_BF_measure_1 : decode b_BF_measure 1 = .ok (.istore_n 2, 1) := by decide +kernel
theorem d_BF_measure_2 : decode b_BF_measure 2 = .ok (.iload_n 2, 1) := by decide +kernel
theorem d_BF_measure_3 : decode b_BF_measure 3 = .ok (.aload_n 0, 1) := by decide +kernel
theorem d_BF_measure_4 : decode b_BF_measure 4 = .ok (.getfield 14, 3) := by decide +kernel
theorem d_BF_measure_7 : decode b_BF_measure 7 = .ok (.getfield 51, 3) := by decide +kernel
theorem d_BF_measure_10 : decode b_BF_measure 10 = .ok (.if_icmp .ge 58, 3) := by decide +kernel
theorem d_BF_measure_13 : decode b_BF_measure 13 = .ok (.aload_n 0, 1) := by decide +kernel
theorem d_BF_measure_14 : decode b_BF_measure 14 = .ok (.getfield 14, 3) := by decide +kernel
theorem d_BF_measure_17 : decode b_BF_measure 17 = .ok (.iload_n 2, 1) := by decide +kernel
theorem d_BF_measure_18 : decode b_BF_measure 18 = .ok (.aload_n 0, 1) := by decide +kernel
theorem d_BF_measure_19 : decode b_BF_measure 19 = .ok (.getfield 41, 3) := by decide +kernel
theorem d_BF_measure_22 : decode b_BF_measure 22 = .ok (.invokevirtual 70, 3) := by decide +kernel
theorem d_BF_measure_25 : decode b_BF_measure 25 = .ok (.iconst 0, 1) := by decide +kernel
theorem d_BF_measure_26 : decode b_BF_measure 26 = .ok (.istore_n 3, 1) := by decide +kernel
theorem d_BF_measure_27 : decode b_BF_measure 27 = .ok (.iload_n 3, 1) := by decide +kernel
theorem d_BF_measure_28 : decode b_BF_measure 28 = .ok (.aload_n 0, 1) := by decide +kernel
theorem d_BF_measure_29 : decode b_BF_measure 29 = .ok (.getfield 55, 3) := by decide +kernel
theorem d_BF_measure_32 : decode b_BF_measure 32 = .ok (.if_icmp .ge 30, 3) := by decide +kernel
theorem d_BF_measure_35 : decode b_BF_measure 35 = .ok (.aload_n 0, 1) := by decide +kernel
theorem d_BF_measure_36 : decode b_BF_measure 36 = .ok (.getfield 45, 3) := by decide +kernel
theorem d_BF_measure_39 : decode b_BF_measure 39 = .ok (.iload_n 2, 1) := by decide +kernel
theorem d_BF_measure_40 : decode b_BF_measure 40 = .ok (.bipush 8, 2) := by decide +kernel
theorem d_BF_measure_42 : decode b_BF_measure 42 = .ok (.imul, 1) := by decide +kernel
theorem d_BF_measure_43 : decode b_BF_measure 43 = .ok (.iload_n 3, 1) := by decide +kernel
theorem d_BF_measure_44 : decode b_BF_measure 44 = .ok (.iadd, 1) := by decide +kernel
theorem d_BF_measure_45 : decode b_BF_measure 45 = .ok (.aload_n 1, 1) := by decide +kernel
theorem d_BF_measure_46 : decode b_BF_measure 46 = .ok (.iload_n 3, 1) := by decide +kernel
theorem d_BF_measure_47 : decode b_BF_measure 47 = .ok (.aload_n 0, 1) := by decide +kernel
theorem d_BF_measure_48 : decode b_BF_measure 48 = .ok (.getfield 41, 3) := by decide +kernel
theorem d_BF_measure_51 : decode b_BF_measure 51 = .ok (.invokevirtual 93, 3) := by decide +kernel
theorem d_BF_measure_54 : decode b_BF_measure 54 = .ok (.l2i, 1) := by decide +kernel
theorem d_BF_measure_55 : decode b_BF_measure 55 = .ok (.iastore, 1) := by decide +kernel
theorem d_BF_measure_56 : decode b_BF_measure 56 = .ok (.iinc 3 1, 3) := by decide +kernel
theorem d_BF_measure_59 : decode b_BF_measure 59 = .ok (.goto (-32), 3) := by decide +kernel
theorem d_BF_measure_62 : decode b_BF_measure 62 = .ok (.iinc 2 1, 3) := by decide +kernel
theorem d_BF_measure_65 : decode b_BF_measure 65 = .ok (.goto (-63), 3) := by decide +kernel
theorem d_BF_measure_68 : decode b_BF_measure 68 = .ok (.return_, 1) := by decide +kernel
theorem d_BF_siftOutSums_0 : decode b_BF_siftOutSums 0 = .ok (.iconst 0, 1) := by decide +kernel
theorem d_BF_siftOutSums_1 : decode b_BF_siftOutSums 1 = .ok (.istore_n 1, 1) := by decide +kernel
theorem d_BF_siftOutSums_2 : decode b_BF_siftOutSums 2 = .ok (.iconst 0, 1) := by decide +kernel
theorem d_BF_siftOutSums_3 : decode b_BF_siftOutSums 3 = .ok (.istore_n 2, 1) := by decide +kernel
theorem d_BF_siftOutSums_4 : decode b_BF_siftOutSums 4 = .ok (.iload_n 2, 1) := by decide +kernel
theorem d_BF_siftOutSums_5 : decode b_BF_siftOutSums 5 = .ok (.aload_n 0, 1) := by decide +kernel
theorem d_BF_siftOutSums_6 : decode b_BF_siftOutSums 6 = .ok (.getfield 14, 3) := by decide +kernel
theorem d_BF_siftOutSums_9 : decode b_BF_siftOutSums 9 = .ok (.getfield 51, 3) := by decide +kernel
theorem d_BF_siftOutSums_12 : decode b_BF_siftOutSums 12 = .ok (.if_icmp .ge 51, 3) := by decide +kernel
theorem d_BF_siftOutSums_15 : decode b_BF_siftOutSums 15 = .ok (.aload_n 0, 1) := by decide +kernel
theorem d_BF_siftOutSums_16 : decode b_BF_siftOutSums 16 = .ok (.iload_n 2, 1) := by decide +kernel
theorem d_BF_siftOutSums_17 : decode b_BF_siftOutSums 17 = .ok (.iload_n 1, 1) := by decide +kernel
theorem d_BF_siftOutSums_18 : decode b_BF_siftOutSums 18 = .ok (.invokevirtual 128, 3) := by decide +kernel
theorem d_BF_siftOutSums_21 : decode b_BF_siftOutSums 21 = .ok (.ifCond .ne 36, 3) := by decide +kernel
theorem d_BF_siftOutSums_24 : decode b_BF_siftOutSums 24 = .ok (.aload_n 0, 1) := by decide +kernel
theorem d_BF_siftOutSums_25 : decode b_BF_siftOutSums 25 = .ok (.getfield 14, 3) := by decide +kernel
theorem d_BF_siftOutSums_28 : decode b_BF_siftOutSums 28 = .ok (.iload_n 2, 1) := by decide +kernel
theorem d_BF_siftOutSums_29 : decode b_BF_siftOutSums 29 = .ok (.iload_n 1, 1) := by decide +kernel
theorem d_BF_siftOutSums_30 : decode b_BF_siftOutSums 30 = .ok (.invokevirtual 132, 3) := by decide +kernel
theorem d_BF_siftOutSums_33 : decode b_BF_siftOutSums 33 = .ok (.aload_n 0, 1) := by decide +kernel
theorem d_BF_siftOutSums_34 : decode b_BF_siftOutSums 34 = .ok (.getfield 45, 3) := by decide +kernel
theorem d_BF_siftOutSums_37 : decode b_BF_siftOutSums 37 = .ok (.iload_n 2, 1) := by decide +kernel
theorem d_BF_siftOutSums_38 : decode b_BF_siftOutSums 38 = .ok (.bipush 8, 2) := by decide +kernel
theorem d_BF_siftOutSums_40 : decode b_BF_siftOutSums 40 = .ok (.imul, 1) := by decide +kernel
theorem d_BF_siftOutSums_41 : decode b_BF_siftOutSums 41 = .ok (.aload_n 0, 1) := by decide +kernel
theorem d_BF_siftOutSums_42 : decode b_BF_siftOutSums 42 = .ok (.getfield 45, 3) := by decide +kernel
theorem d_BF_siftOutSums_45 : decode b_BF_siftOutSums 45 = .ok (.iload_n 1, 1) := by decide +kernel
theorem d_BF_siftOutSums_46 : decode b_BF_siftOutSums 46 = .ok (.bipush 8, 2) := by decide +kernel
theorem d_BF_siftOutSums_48 : decode b_BF_siftOutSums 48 = .ok (.imul, 1) := by decide +kernel
theorem d_BF_siftOutSums_49 : decode b_BF_siftOutSums 49 = .ok (.bipush 8, 2) := by decide +kernel
theorem d_BF_siftOutSums_51 : decode b_BF_siftOutSums 51 = .ok (.invokestatic 136, 3) := by decide +kernel
theorem d_BF_siftOutSums_54 : decode b_BF_siftOutSums 54 = .ok (.iinc 1 1, 3) := by decide +kernel
theorem d_BF_siftOutSums_57 : decode b_BF_siftOutSums 57 = .ok (.iinc 2 1, 3) := by decide +kernel
theorem d_BF_siftOutSums_60 : decode b_BF_siftOutSums 60 = .ok (.goto (-56), 3) := by decide +kernel
theorem d_BF_siftOutSums_63 : decode b_BF_siftOutSums 63 = .ok (.aload_n 0, 1) := by decide +kernel
theorem d_BF_siftOutSums_64 : decode b_BF_siftOutSums 64 = .ok (.getfield 14, 3) := by decide +kernel
theorem d_BF_siftOutSums_67 : decode b_BF_siftOutSums 67 = .ok (.iload_n 1, 1) := by decide +kernel
theorem d_BF_siftOutSums_68 : decode b_BF_siftOutSums 68 = .ok (.putfield 51, 3) := by decide +kernel
theorem d_BF_siftOutSums_71 : decode b_BF_siftOutSums 71 = .ok (.return_, 1) := by decide +kernel
theorem d_BF_timesInRest_0 : decode b_BF_timesInRest 0 = .ok (.iconst (-1), 1) := by decide +kernel
theorem d_BF_timesInRest_1 : decode b_BF_timesInRest 1 = .ok (.istore_n 2, 1) := by decide +kernel
theorem d_BF_timesInRest_2 : decode b_BF_timesInRest 2 = .ok (.iconst 0, 1) := by decide +kernel
theorem d_BF_timesInRest_3 : decode b_BF_timesInRest 3 = .ok (.istore_n 3, 1) := by decide +kernel
theorem d_BF_timesInRest_4 : decode b_BF_timesInRest 4 = .ok (.iload_n 3, 1) := by decide +kernel
theorem d_BF_timesInRest_5 : decode b_BF_timesInRest 5 = .ok (.aload_n 0, 1) := by decide +kernel
theorem d_BF_timesInRest_6 : decode b_BF_timesInRest 6 = .ok (.getfield 55, 3) := by decide +kernel
theorem d_BF_timesInRest_9 : decode b_BF_timesInRest 9 = .ok (.if_icmp .ge 54, 3) := by decide +kernel
theorem d_BF_timesInRest_12 : decode b_BF_timesInRest 12 = .ok (.aload_n 0, 1) := by decide +kernel
theorem d_BF_timesInRest_13 : decode b_BF_timesInRest 13 = .ok (.getfield 45, 3) := by decide +kernel
theorem d_BF_timesInRest_16 : decode b_BF_timesInRest 16 = .ok (.iload_n 1, 1) := by decide +kernel
theorem d_BF_timesInRest_17 : decode b_BF_timesInRest 17 = .ok (.bipush 8, 2) := by decide +kernel
theorem d_BF_timesInRest_19 : decode b_BF_timesInRest 19 = .ok (.imul, 1) := by decide +kernel
theorem d_BF_timesInRest_20 : decode b_BF_timesInRest 20 = .ok (.iload_n 3, 1) := by decide +kernel
theorem d_BF_timesInRest_21 : decode b_BF_timesInRest 21 = .ok (.iadd, 1) := by decide +kernel
theorem d_BF_timesInRest_22 : decode b_BF_timesInRest 22 = .ok (.iaload, 1) := by decide +kernel
theorem d_BF_timesInRest_23 : decode b_BF_timesInRest 23 = .ok (.istore 4, 2) := by decide +kernel
theorem d_BF_timesInRest_25 : decode b_BF_timesInRest 25 = .ok (.iload 4, 2) := by decide +kernel
theorem d_BF_timesInRest_27 : decode b_BF_timesInRest 27 = .ok (.ifCond .le 30, 3) := by decide +kernel
theorem d_BF_timesInRest_30 : decode b_BF_timesInRest 30 = .ok (.aload_n 0, 1) := by decide +kernel
theorem d_BF_timesInRest_31 : decode b_BF_timesInRest 31 = .ok (.getfield 48, 3) := by decide +kernel
theorem d_BF_timesInRest_34 : decode b_BF_timesInRest 34 = .ok (.iload_n 3, 1) := by decide +kernel
theorem d_BF_timesInRest_35 : decode b_BF_timesInRest 35 = .ok (.iaload, 1) := by decide +kernel
theorem d_BF_timesInRest_36 : decode b_BF_timesInRest 36 = .ok (.iload 4, 2) := by decide +kernel
theorem d_BF_timesInRest_38 : decode b_BF_timesInRest 38 = .ok (.idiv, 1) := by decide +kernel
theorem d_BF_timesInRest_39 : decode b_BF_timesInRest 39 = .ok (.istore 5, 2) := by decide +kernel
theorem d_BF_timesInRest_41 : decode b_BF_timesInRest 41 = .ok (.iload_n 2, 1) := by decide +kernel
theorem d_BF_timesInRest_42 : decode b_BF_timesInRest 42 = .ok (.ifCond .ge 8, 3) := by decide +kernel
theorem d_BF_timesInRest_45 : decode b_BF_timesInRest 45 = .ok (.iload 5, 2) := by decide +kernel
theorem d_BF_timesInRest_47 : decode b_BF_timesInRest 47 = .ok (.goto 9, 3) := by decide +kernel
theorem d_BF_timesInRest_50 : decode b_BF_timesInRest 50 = .ok (.iload_n 2, 1) := by decide +kernel
theorem d_BF_timesInRest_51 : decode b_BF_timesInRest 51 = .ok (.iload 5, 2) := by decide +kernel
theorem d_BF_timesInRest_53 : decode b_BF_timesInRest 53 = .ok (.invokestatic 107, 3) := by decide +kernel
theorem d_BF_timesInRest_56 : decode b_BF_timesInRest 56 = .ok (.istore_n 2, 1) := by decide +kernel
theorem d_BF_timesInRest_57 : decode b_BF_timesInRest 57 = .ok (.iinc 3 1, 3) := by decide +kernel
theorem d_BF_timesInRest_60 : decode b_BF_timesInRest 60 = .ok (.goto (-56), 3) := by decide +kernel
theorem d_BF_timesInRest_63 : decode b_BF_timesInRest 63 = .ok (.iload_n 2, 1) := by decide +kernel
theorem d_BF_timesInRest_64 : decode b_BF_timesInRest 64 = .ok (.iconst 0, 1) := by decide +kernel
theorem d_BF_timesInRest_65 : decode b_BF_timesInRest 65 = .ok (.invokestatic 110, 3) := by decide +kernel
theorem d_BF_timesInRest_68 : decode b_BF_timesInRest 68 = .ok (.ireturn, 1) := by decide +kernel
theorem d_FL_countOf_0 : decode b_FL_countOf 0 = .ok (.iconst 0, 1) := by decide +kernel
theorem d_FL_countOf_1 : decode b_FL_countOf 1 = .ok (.istore_n 2, 1) := by decide +kernel
theorem d_FL_countOf_2 : decode b_FL_countOf 2 = .ok (.iconst 0, 1) := by decide +kernel
theorem d_FL_countOf_3 : decode b_FL_countOf 3 = .ok (.istore_n 3, 1) := by decide +kernel
theorem d_FL_countOf_4 : decode b_FL_countOf 4 = .ok (.iload_n 3, 1) := by decide +kernel
theorem d_FL_countOf_5 : decode b_FL_countOf 5 = .ok (.aload_n 0, 1) := by decide +kernel
theorem d_FL_countOf_6 : decode b_FL_countOf 6 = .ok (.getfield 24, 3) := by decide +kernel
theorem d_FL_countOf_9 : decode b_FL_countOf 9 = .ok (.if_icmp .ge 22, 3) := by decide +kernel
theorem d_FL_countOf_12 : decode b_FL_countOf 12 = .ok (.aload_n 0, 1) := by decide +kernel
theorem d_FL_countOf_13 : decode b_FL_countOf 13 = .ok (.getfield 15, 3) := by decide +kernel
theorem d_FL_countOf_16 : decode b_FL_countOf 16 = .ok (.iload_n 3, 1) := by decide +kernel
theorem d_FL_countOf_17 : decode b_FL_countOf 17 = .ok (.iaload, 1) := by decide +kernel
theorem d_FL_countOf_18 : decode b_FL_countOf 18 = .ok (.iload_n 1, 1) := by decide +kernel
theorem d_FL_countOf_19 : decode b_FL_countOf 19 = .ok (.if_icmp .ne 6, 3) := by decide +kernel
theorem d_FL_countOf_22 : decode b_FL_countOf 22 = .ok (.iinc 2 1, 3) := by decide +kernel
theorem d_FL_countOf_25 : decode b_FL_countOf 25 = .ok (.iinc 3 1, 3) := by decide +kernel
theorem d_FL_countOf_28 : decode b_FL_countOf 28 = .ok (.goto (-24), 3) := by decide +kernel
theorem d_FL_countOf_31 : decode b_FL_countOf 31 = .ok (.iload_n 2, 1) := by decide +kernel
theorem d_FL_countOf_32 : decode b_FL_countOf 32 = .ok (.ireturn, 1) := by decide +kernel
theorem d_FL_dimensionAt_0 : decode b_FL_dimensionAt 0 = .ok (.aload_n 0, 1) := by decide +kernel
theorem d_FL_dimensionAt_1 : decode b_FL_dimensionAt 1 = .ok (.aload_n 0, 1) := by decide +kernel
theorem d_FL_dimensionAt_2 : decode b_FL_dimensionAt 2 = .ok (.getfield 18, 3) := by decide +kernel
theorem d_FL_dimensionAt_5 : decode b_FL_dimensionAt 5 = .ok (.iload_n 1, 1) := by decide +kernel
theorem d_FL_dimensionAt_6 : decode b_FL_dimensionAt 6 = .ok (.iaload, 1) := by decide +kernel
theorem d_FL_dimensionAt_7 : decode b_FL_dimensionAt 7 = .ok (.invokevirtual 49, 3) := by decide +kernel
theorem d_FL_dimensionAt_10 : decode b_FL_dimensionAt 10 = .ok (.istore_n 2, 1) := by decide +kernel
theorem d_FL_dimensionAt_11 : decode b_FL_dimensionAt 11 = .ok (.iload_n 2, 1) := by decide +kernel
theorem d_FL_dimensionAt_12 : decode b_FL_dimensionAt 12 = .ok (.aload_n 0, 1) := by decide +kernel
theorem d_FL_dimensionAt_13 : decode b_FL_dimensionAt 13 = .ok (.getfield 24, 3) := by decide +kernel
theorem d_FL_dimensionAt_16 : decode b_FL_dimensionAt 16 = .ok (.if_icmp .ge 12, 3) := by decide +kernel
theorem d_FL_dimensionAt_19 : decode b_FL_dimensionAt 19 = .ok (.aload_n 0, 1) := by decide +kernel
theorem d_FL_dimensionAt_20 : decode b_FL_dimensionAt 20 = .ok (.getfield 15, 3) := by decide +kernel
theorem d_FL_dimensionAt_23 : decode b_FL_dimensionAt 23 = .ok (.iload_n 2, 1) := by decide +kernel
theorem d_FL_dimensionAt_24 : decode b_FL_dimensionAt 24 = .ok (.iaload, 1) := by decide +kernel
theorem d_FL_dimensionAt_25 : decode b_FL_dimensionAt 25 = .ok (.goto 4, 3) := by decide +kernel
theorem d_FL_dimensionAt_28 : decode b_FL_dimensionAt 28 = .ok (.iconst (-1), 1) := by decide +kernel
theorem d_FL_dimensionAt_29 : decode b_FL_dimensionAt 29 = .ok (.ireturn, 1) := by decide +kernel
theorem d_FL_find_0 : decode b_FL_find 0 = .ok (.aload_n 0, 1) := by decide +kernel
theorem d_FL_find_1 : decode b_FL_find 1 = .ok (.iconst 0, 1) := by decide +kernel
theorem d_FL_find_2 : decode b_FL_find 2 = .ok (.putfield 24, 3) := by decide +kernel
theorem d_FL_find_5 : decode b_FL_find 5 = .ok (.aload_n 0, 1) := by decide +kernel
theorem d_FL_find_6 : decode b_FL_find 6 = .ok (.aload_n 2, 1) := by decide +kernel
theorem d_FL_find_7 : decode b_FL_find 7 = .ok (.getfield 28, 3) := by decide +kernel
theorem d_FL_find_10 : decode b_FL_find 10 = .ok (.invokestatic 31, 3) := by decide +kernel
theorem d_FL_find_13 : decode b_FL_find 13 = .ok (.invokevirtual 35, 3) := by decide +kernel
theorem d_FL_find_16 : decode b_FL_find 16 = .ok (.aload_n 0, 1) := by decide +kernel
theorem d_FL_find_17 : decode b_FL_find 17 = .ok (.aload_n 1, 1) := by decide +kernel
theorem d_FL_find_18 : decode b_FL_find 18 = .ok (.aload_n 2, 1) := by decide +kernel
theorem d_FL_find_19 : decode b_FL_find 19 = .ok (.invokevirtual 39, 3) := by decide +kernel
theorem d_FL_find_22 : decode b_FL_find 22 = .ok (.iconst 0, 1) := by decide +kernel
theorem d_FL_find_23 : decode b_FL_find 23 = .ok (.istore 4, 2) := by decide +kernel
theorem d_FL_find_25 : decode b_FL_find 25 = .ok (.iload 4, 2) := by decide +kernel
theorem d_FL_find_27 : decode b_FL_find 27 = .ok (.aload_n 1, 1) := by decide +kernel
theorem d_FL_find_28 : decode b_FL_find 28 = .ok (.getfield 28, 3) := by decide +kernel
theorem d_FL_find_31 : decode b_FL_find 31 = .ok (.if_icmp .ge 50, 3) := by decide +kernel
theorem d_FL_find_34 : decode b_FL_find 34 = .ok (.aload_n 0, 1) := by decide +kernel
theorem d_FL_find_35 : decode b_FL_find 35 = .ok (.getfield 24, 3) := by decide +kernel
theorem d_FL_find_38 : decode b_FL_find 38 = .ok (.istore 5, 2) := by decide +kernel
theorem d_FL_find_40 : decode b_FL_find 40 = .ok (.iconst 0, 1) := by decide +kernel
theorem d_FL_find_41 : decode b_FL_find 41 = .ok (.istore 6, 2) := by decide +kernel
theorem d_FL_find_43 : decode b_FL_find 43 = .ok (.iload 6, 2) := by decide +kernel
theorem d_FL_find_45 : decode b_FL_find 45 = .ok (.iload 5, 2) := by decide +kernel
theorem d_FL_find_47 : decode b_FL_find 47 = .ok (.if_icmp .ge 28, 3) := by decide +kernel
theorem d_FL_find_50 : decode b_FL_find 50 = .ok (.aload_n 0, 1) := by decide +kernel
theorem d_FL_find_51 : decode b_FL_find 51 = .ok (.aload_n 0, 1) := by decide +kernel
theorem d_FL_find_52 : decode b_FL_find 52 = .ok (.getfield 9, 3) := by decide +kernel
theorem d_FL_find_55 : decode b_FL_find 55 = .ok (.iload 6, 2) := by decide +kernel
theorem d_FL_find_57 : decode b_FL_find 57 = .ok (.iaload, 1) := by decide +kernel
theorem d_FL_find_58 : decode b_FL_find 58 = .ok (.aload_n 0, 1) := by decide +kernel
theorem d_FL_find_59 : decode b_FL_find 59 = .ok (.getfield 18, 3) := by decide +kernel
theorem d_FL_find_62 : decode b_FL_find 62 = .ok (.iload 4, 2) := by decide +kernel
theorem d_FL_find_64 : decode b_FL_find 64 = .ok (.iaload, 1) := by decide +kernel
theorem d_FL_find_65 : decode b_FL_find 65 = .ok (.iand, 1) := by decide +kernel
theorem d_FL_find_66 : decode b_FL_find 66 = .ok (.invokevirtual 35, 3) := by decide +kernel
theorem d_FL_find_69 : decode b_FL_find 69 = .ok (.iinc 6 1, 3) := by decide +kernel
theorem d_FL_find_72 : decode b_FL_find 72 = .ok (.goto (-29), 3) := by decide +kernel
theorem d_FL_find_75 : decode b_FL_find 75 = .ok (.iinc 4 1, 3) := by decide +kernel
theorem d_FL_find_78 : decode b_FL_find 78 = .ok (.goto (-53), 3) := by decide +kernel
theorem d_FL_find_81 : decode b_FL_find 81 = .ok (.iconst 0, 1) := by decide +kernel
theorem d_FL_find_82 : decode b_FL_find 82 = .ok (.istore 4, 2) := by decide +kernel
theorem d_FL_find_84 : decode b_FL_find 84 = .ok (.iload 4, 2) := by decide +kernel
theorem d_FL_find_86 : decode b_FL_find 86 = .ok (.aload_n 0, 1) := by decide +kernel
theorem d_FL_find_87 : decode b_FL_find 87 = .ok (.getfield 24, 3) := by decide +kernel
theorem d_FL_find_90 : decode b_FL_find 90 = .ok (.if_icmp .ge 28, 3) := by decide +kernel
theorem d_FL_find_93 : decode b_FL_find 93 = .ok (.aload_n 0, 1) := by decide +kernel
theorem d_FL_find_94 : decode b_FL_find 94 = .ok (.getfield 15, 3) := by decide +kernel
theorem d_FL_find_97 : decode b_FL_find 97 = .ok (.iload 4, 2) := by decide +kernel
theorem d_FL_find_99 : decode b_FL_find 99 = .ok (.aload_n 3, 1) := by decide +kernel
theorem d_FL_find_100 : decode b_FL_find 100 = .ok (.aload_n 2, 1) := by decide +kernel
theorem d_FL_find_101 : decode b_FL_find 101 = .ok (.aload_n 0, 1) := by decide +kernel
theorem d_FL_find_102 : decode b_FL_find 102 = .ok (.getfield 9, 3) := by decide +kernel
theorem d_FL_find_105 : decode b_FL_find 105 = .ok (.iload 4, 2) := by decide +kernel
theorem d_FL_find_107 : decode b_FL_find 107 = .ok (.iaload, 1) := by decide +kernel
theorem d_FL_find_108 : decode b_FL_find 108 = .ok (.invokevirtual 43, 3) := by decide +kernel
theorem d_FL_find_111 : decode b_FL_find 111 = .ok (.iastore, 1) := by decide +kernel
theorem d_FL_find_112 : decode b_FL_find 112 = .ok (.iinc 4 1, 3) := by decide +kernel
theorem d_FL_find_115 : decode b_FL_find 115 = .ok (.goto (-31), 3) := by decide +kernel
theorem d_FL_find_118 : decode b_FL_find 118 = .ok (.return_, 1) := by decide +kernel
theorem d_FL_findTight_0 : decode b_FL_findTight 0 = .ok (.aload_n 0, 1) := by decide +kernel
theorem d_FL_findTight_1 : decode b_FL_findTight 1 = .ok (.getfield 18, 3) := by decide +kernel
theorem d_FL_findTight_4 : decode b_FL_findTight 4 = .ok (.iconst 0, 1) := by decide +kernel
theorem d_FL_findTight_5 : decode b_FL_findTight 5 = .ok (.invokestatic 52, 3) := by decide +kernel
theorem d_FL_findTight_8 : decode b_FL_findTight 8 = .ok (.iconst 0, 1) := by decide +kernel
theorem d_FL_findTight_9 : decode b_FL_findTight 9 = .ok (.istore_n 3, 1) := by decide +kernel
theorem d_FL_findTight_10 : decode b_FL_findTight 10 = .ok (.iload_n 3, 1) := by decide +kernel
theorem d_FL_findTight_11 : decode b_FL_findTight 11 = .ok (.aload_n 2, 1) := by decide +kernel
theorem d_FL_findTight_12 : decode b_FL_findTight 12 = .ok (.getfield 28, 3) := by decide +kernel
theorem d_FL_findTight_15 : decode b_FL_findTight 15 = .ok (.if_icmp .ge 64, 3) := by decide +kernel
theorem d_FL_findTight_18 : decode b_FL_findTight 18 = .ok (.aload_n 2, 1) := by decide +kernel
theorem d_FL_findTight_19 : decode b_FL_findTight 19 = .ok (.iload_n 3, 1) := by decide +kernel
theorem d_FL_findTight_20 : decode b_FL_findTight 20 = .ok (.aload_n 0, 1) := by decide +kernel
theorem d_FL_findTight_21 : decode b_FL_findTight 21 = .ok (.getfield 21, 3) := by decide +kernel
theorem d_FL_findTight_24 : decode b_FL_findTight 24 = .ok (.invokevirtual 58, 3) := by decide +kernel
theorem d_FL_findTight_27 : decode b_FL_findTight 27 = .ok (.iconst 0, 1) := by decide +kernel
theorem d_FL_findTight_28 : decode b_FL_findTight 28 = .ok (.istore 4, 2) := by decide +kernel
theorem d_FL_findTight_30 : decode b_FL_findTight 30 = .ok (.iload 4, 2) := by decide +kernel
theorem d_FL_findTight_32 : decode b_FL_findTight 32 = .ok (.aload_n 1, 1) := by decide +kernel
theorem d_FL_findTight_33 : decode b_FL_findTight 33 = .ok (.getfield 28, 3) := by decide +kernel
theorem d_FL_findTight_36 : decode b_FL_findTight 36 = .ok (.if_icmp .ge 37, 3) := by decide +kernel
theorem d_FL_findTight_39 : decode b_FL_findTight 39 = .ok (.aload_n 1, 1) := by decide +kernel
theorem d_FL_findTight_40 : decode b_FL_findTight 40 = .ok (.iload 4, 2) := by decide +kernel
theorem d_FL_findTight_42 : decode b_FL_findTight 42 = .ok (.aload_n 0, 1) := by decide +kernel
theorem d_FL_findTight_43 : decode b_FL_findTight 43 = .ok (.getfield 21, 3) := by decide +kernel
theorem d_FL_findTight_46 : decode b_FL_findTight 46 = .ok (.invokevirtual 62, 3) := by decide +kernel
theorem d_FL_findTight_49 : decode b_FL_findTight 49 = .ok (.lconst 0, 1) := by decide +kernel
theorem d_FL_findTight_50 : decode b_FL_findTight 50 = .ok (.lcmp, 1) := by decide +kernel
theorem d_FL_findTight_51 : decode b_FL_findTight 51 = .ok (.ifCond .ne 16, 3) := by decide +kernel
theorem d_FL_findTight_54 : decode b_FL_findTight 54 = .ok (.aload_n 0, 1) := by decide +kernel
theorem d_FL_findTight_55 : decode b_FL_findTight 55 = .ok (.getfield 18, 3) := by decide +kernel
theorem d_FL_findTight_58 : decode b_FL_findTight 58 = .ok (.iload 4, 2) := by decide +kernel
theorem d_FL_findTight_60 : decode b_FL_findTight 60 = .ok (.dup2, 1) := by decide +kernel
theorem d_FL_findTight_61 : decode b_FL_findTight 61 = .ok (.iaload, 1) := by decide +kernel
theorem d_FL_findTight_62 : decode b_FL_findTight 62 = .ok (.iconst 1, 1) := by decide +kernel
theorem d_FL_findTight_63 : decode b_FL_findTight 63 = .ok (.iload_n 3, 1) := by decide +kernel
theorem d_FL_findTight_64 : decode b_FL_findTight 64 = .ok (.ishl, 1) := by decide +kernel
theorem d_FL_findTight_65 : decode b_FL_findTight 65 = .ok (.ior, 1) := by decide +kernel
theorem d_FL_findTight_66 : decode b_FL_findTight 66 = .ok (.iastore, 1) := by decide +kernel
theorem d_FL_findTight_67 : decode b_FL_findTight 67 = .ok (.iinc 4 1, 3) := by decide +kernel
theorem d_FL_findTight_70 : decode b_FL_findTight 70 = .ok (.goto (-40), 3) := by decide +kernel
theorem d_FL_findTight_73 : decode b_FL_findTight 73 = .ok (.iinc 3 1, 3) := by decide +kernel
theorem d_FL_findTight_76 : decode b_FL_findTight 76 = .ok (.goto (-66), 3) := by decide +kernel
theorem d_FL_findTight_79 : decode b_FL_findTight 79 = .ok (.return_, 1) := by decide +kernel
theorem d_FL_include_0 : decode b_FL_include 0 = .ok (.aload_n 0, 1) := by decide +kernel
theorem d_FL_include_1 : decode b_FL_include 1 = .ok (.getfield 24, 3) := by decide +kernel
theorem d_FL_include_4 : decode b_FL_include 4 = .ok (.bipush 40, 2) := by decide +kernel
theorem d_FL_include_6 : decode b_FL_include 6 = .ok (.if_icmp .ge 35, 3) := by decide +kernel
theorem d_FL_include_9 : decode b_FL_include 9 = .ok (.aload_n 0, 1) := by decide +kernel
theorem d_FL_include_10 : decode b_FL_include 10 = .ok (.iload_n 1, 1) := by decide +kernel
theorem d_FL_include_11 : decode b_FL_include 11 = .ok (.invokevirtual 49, 3) := by decide +kernel
theorem d_FL_include_14 : decode b_FL_include 14 = .ok (.aload_n 0, 1) := by decide +kernel
theorem d_FL_include_15 : decode b_FL_include 15 = .ok (.getfield 24, 3) := by decide +kernel
theorem d_FL_include_18 : decode b_FL_include 18 = .ok (.if_icmp .ne 23, 3) := by decide +kernel
theorem d_FL_include_21 : decode b_FL_include 21 = .ok (.aload_n 0, 1) := by decide +kernel
theorem d_FL_include_22 : decode b_FL_include 22 = .ok (.getfield 9, 3) := by decide +kernel
theorem d_FL_include_25 : decode b_FL_include 25 = .ok (.aload_n 0, 1) := by decide +kernel
theorem d_FL_include_26 : decode b_FL_include 26 = .ok (.getfield 24, 3) := by decide +kernel
theorem d_FL_include_29 : decode b_FL_include 29 = .ok (.iload_n 1, 1) := by decide +kernel
theorem d_FL_include_30 : decode b_FL_include 30 = .ok (.iastore, 1) := by decide +kernel
theorem d_FL_include_31 : decode b_FL_include 31 = .ok (.aload_n 0, 1) := by decide +kernel
theorem d_FL_include_32 : decode b_FL_include 32 = .ok (.dup, 1) := by decide +kernel
theorem d_FL_include_33 : decode b_FL_include 33 = .ok (.getfield 24, 3) := by decide +kernel
theorem d_FL_include_36 : decode b_FL_include 36 = .ok (.iconst 1, 1) := by decide +kernel
theorem d_FL_include_37 : decode b_FL_include 37 = .ok (.iadd, 1) := by decide +kernel
theorem d_FL_include_38 : decode b_FL_include 38 = .ok (.putfield 24, 3) := by decide +kernel
theorem d_FL_include_41 : decode b_FL_include 41 = .ok (.return_, 1) := by decide +kernel
theorem d_FL_indexOf_0 : decode b_FL_indexOf 0 = .ok (.iconst 0, 1) := by decide +kernel
theorem d_FL_indexOf_1 : decode b_FL_indexOf 1 = .ok (.istore_n 2, 1) := by decide +kernel
theorem d_FL_indexOf_2 : decode b_FL_indexOf 2 = .ok (.iload_n 2, 1) := by decide +kernel
theorem d_FL_indexOf_3 : decode b_FL_indexOf 3 = .ok (.aload_n 0, 1) := by decide +kernel
theorem d_FL_indexOf_4 : decode b_FL_indexOf 4 = .ok (.getfield 24, 3) := by decide +kernel
theorem d_FL_indexOf_7 : decode b_FL_indexOf 7 = .ok (.if_icmp .ge 19, 3) := by decide +kernel
theorem d_FL_indexOf_10 : decode b_FL_indexOf 10 = .ok (.aload_n 0, 1) := by decide +kernel
theorem d_FL_indexOf_11 : decode b_FL_indexOf 11 = .ok (.getfield 9, 3) := by decide +kernel
theorem d_FL_indexOf_14 : decode b_FL_indexOf 14 = .ok (.iload_n 2, 1) := by decide +kernel
theorem d_FL_indexOf_15 : decode b_FL_indexOf 15 = .ok (.iaload, 1) := by decide +kernel
theorem d_FL_indexOf_16 : decode b_FL_indexOf 16 = .ok (.iload_n 1, 1) := by decide +kernel
theorem d_FL_indexOf_17 : decode b_FL_indexOf 17 = .ok (.if_icmp .eq 9, 3) := by decide +kernel
theorem d_FL_indexOf_20 : decode b_FL_indexOf 20 = .ok (.iinc 2 1, 3) := by decide +kernel
theorem d_FL_indexOf_23 : decode b_FL_indexOf 23 = .ok (.goto (-21), 3) := by decide +kernel
theorem d_FL_indexOf_26 : decode b_FL_indexOf 26 = .ok (.iload_n 2, 1) := by decide +kernel
theorem d_FL_indexOf_27 : decode b_FL_indexOf 27 = .ok (.ireturn, 1) := by decide +kernel
theorem d_FL_init_0 : decode b_FL_init 0 = .ok (.aload_n 0, 1) := by decide +kernel
theorem d_FL_init_1 : decode b_FL_init 1 = .ok (.invokespecial 3, 3) := by decide +kernel
theorem d_FL_init_4 : decode b_FL_init 4 = .ok (.aload_n 0, 1) := by decide +kernel
theorem d_FL_init_5 : decode b_FL_init 5 = .ok (.bipush 40, 2) := by decide +kernel
theorem d_FL_init_7 : decode b_FL_init 7 = .ok (.newarray .int, 2) := by decide +kernel
theorem d_FL_init_9 : decode b_FL_init 9 = .ok (.putfield 9, 3) := by decide +kernel
theorem d_FL_init_12 : decode b_FL_init 12 = .ok (.aload_n 0, 1) := by decide +kernel
theorem d_FL_init_13 : decode b_FL_init 13 = .ok (.bipush 40, 2) := by decide +kernel
theorem d_FL_init_15 : decode b_FL_init 15 = .ok (.newarray .int, 2) := by decide +kernel
theorem d_FL_init_17 : decode b_FL_init 17 = .ok (.putfield 15, 3) := by decide +kernel
theorem d_FL_init_20 : decode b_FL_init 20 = .ok (.aload_n 0, 1) := by decide +kernel
theorem d_FL_init_21 : decode b_FL_init 21 = .ok (.bipush 8, 2) := by decide +kernel
theorem d_FL_init_23 : decode b_FL_init 23 = .ok (.newarray .int, 2) := by decide +kernel
theorem d_FL_init_25 : decode b_FL_init 25 = .ok (.putfield 18, 3) := by decide +kernel
theorem d_FL_init_28 : decode b_FL_init 28 = .ok (.aload_n 0, 1) := by decide +kernel
theorem d_FL_init_29 : decode b_FL_init 29 = .ok (.iconst 4, 1) := by decide +kernel
theorem d_FL_init_30 : decode b_FL_init 30 = .ok (.newarray .int, 2) := by decide +kernel
theorem d_FL_init_32 : decode b_FL_init 32 = .ok (.putfield 21, 3) := by decide +kernel
theorem d_FL_init_35 : decode b_FL_init 35 = .ok (.return_, 1) := by decide +kernel
theorem d_FL_isFirstAtItsFace_0 : decode b_FL_isFirstAtItsFace 0 = .ok (.iconst 0, 1) := by decide +kernel
theorem d_FL_isFirstAtItsFace_1 : decode b_FL_isFirstAtItsFace 1 = .ok (.istore_n 2, 1) := by decide +kernel
theorem d_FL_isFirstAtItsFace_2 : decode b_FL_isFirstAtItsFace 2 = .ok (.iload_n 2, 1) := by decide +kernel
theorem d_FL_isFirstAtItsFace_3 : decode b_FL_isFirstAtItsFace 3 = .ok (.iload_n 1, 1) := by decide +kernel
theorem d_FL_isFirstAtItsFace_4 : decode b_FL_isFirstAtItsFace 4 = .ok (.if_icmp .ge 26, 3) := by decide +kernel
theorem d_FL_isFirstAtItsFace_7 : decode b_FL_isFirstAtItsFace 7 = .ok (.aload_n 0, 1) := by decide +kernel
theorem d_FL_isFirstAtItsFace_8 : decode b_FL_isFirstAtItsFace 8 = .ok (.getfield 18, 3) := by decide +kernel
theorem d_FL_isFirstAtItsFace_11 : decode b_FL_isFirstAtItsFace 11 = .ok (.iload_n 2, 1) := by decide +kernel
theorem d_FL_isFirstAtItsFace_12 : decode b_FL_isFirstAtItsFace 12 = .ok (.iaload, 1) := by decide +kernel
theorem d_FL_isFirstAtItsFace_13 : decode b_FL_isFirstAtItsFace 13 = .ok (.aload_n 0, 1) := by decide +kernel
theorem d_FL_isFirstAtItsFace_14 : decode b_FL_isFirstAtItsFace 14 = .ok (.getfield 18, 3) := by decide +kernel
theorem d_FL_isFirstAtItsFace_17 : decode b_FL_isFirstAtItsFace 17 = .ok (.iload_n 1, 1) := by decide +kernel
theorem d_FL_isFirstAtItsFace_18 : decode b_FL_isFirstAtItsFace 18 = .ok (.iaload, 1) := by decide +kernel
theorem d_FL_isFirstAtItsFace_19 : decode b_FL_isFirstAtItsFace 19 = .ok (.if_icmp .ne 5, 3) := by decide +kernel
theorem d_FL_isFirstAtItsFace_22 : decode b_FL_isFirstAtItsFace 22 = .ok (.iconst 0, 1) := by decide +kernel
theorem d_FL_isFirstAtItsFace_23 : decode b_FL_isFirstAtItsFace 23 = .ok (.ireturn, 1) := by decide +kernel
theorem d_FL_isFirstAtItsFace_24 : decode b_FL_isFirstAtItsFace 24 = .ok (.iinc 2 1, 3) := by decide +kernel
theorem d_FL_isFirstAtItsFace_27 : decode b_FL_isFirstAtItsFace 27 = .ok (.goto (-25), 3) := by decide +kernel
theorem d_FL_isFirstAtItsFace_30 : decode b_FL_isFirstAtItsFace 30 = .ok (.iconst 1, 1) := by decide +kernel
theorem d_FL_isFirstAtItsFace_31 : decode b_FL_isFirstAtItsFace 31 = .ok (.ireturn, 1) := by decide +kernel
theorem d_FL_isSideWithout_0 : decode b_FL_isSideWithout 0 = .ok (.aload_n 0, 1) := by decide +kernel
theorem d_FL_isSideWithout_1 : decode b_FL_isSideWithout 1 = .ok (.getfield 15, 3) := by decide +kernel
theorem d_FL_isSideWithout_4 : decode b_FL_isSideWithout 4 = .ok (.iload_n 1, 1) := by decide +kernel
theorem d_FL_isSideWithout_5 : decode b_FL_isSideWithout 5 = .ok (.iaload, 1) := by decide +kernel
theorem d_FL_isSideWithout_6 : decode b_FL_isSideWithout 6 = .ok (.aload_n 0, 1) := by decide +kernel
theorem d_FL_isSideWithout_7 : decode b_FL_isSideWithout 7 = .ok (.getfield 15, 3) := by decide +kernel
theorem d_FL_isSideWithout_10 : decode b_FL_isSideWithout 10 = .ok (.iload_n 2, 1) := by decide +kernel
theorem d_FL_isSideWithout_11 : decode b_FL_isSideWithout 11 = .ok (.iaload, 1) := by decide +kernel
theorem d_FL_isSideWithout_12 : decode b_FL_isSideWithout 12 = .ok (.iconst 1, 1) := by decide +kernel
theorem d_FL_isSideWithout_13 : decode b_FL_isSideWithout 13 = .ok (.isub, 1) := by decide +kernel
theorem d_FL_isSideWithout_14 : decode b_FL_isSideWithout 14 = .ok (.if_icmp .ne 36, 3) := by decide +kernel
theorem d_FL_isSideWithout_17 : decode b_FL_isSideWithout 17 = .ok (.aload_n 0, 1) := by decide +kernel
theorem d_FL_isSideWithout_18 : decode b_FL_isSideWithout 18 = .ok (.getfield 9, 3) := by decide +kernel
theorem d_FL_isSideWithout_21 : decode b_FL_isSideWithout 21 = .ok (.iload_n 1, 1) := by decide +kernel
theorem d_FL_isSideWithout_22 : decode b_FL_isSideWithout 22 = .ok (.iaload, 1) := by decide +kernel
theorem d_FL_isSideWithout_23 : decode b_FL_isSideWithout 23 = .ok (.aload_n 0, 1) := by decide +kernel
theorem d_FL_isSideWithout_24 : decode b_FL_isSideWithout 24 = .ok (.getfield 9, 3) := by decide +kernel
theorem d_FL_isSideWithout_27 : decode b_FL_isSideWithout 27 = .ok (.iload_n 2, 1) := by decide +kernel
theorem d_FL_isSideWithout_28 : decode b_FL_isSideWithout 28 = .ok (.iaload, 1) := by decide +kernel
theorem d_FL_isSideWithout_29 : decode b_FL_isSideWithout 29 = .ok (.iconst (-1), 1) := by decide +kernel
theorem d_FL_isSideWithout_30 : decode b_FL_isSideWithout 30 = .ok (.ixor, 1) := by decide +kernel
theorem d_FL_isSideWithout_31 : decode b_FL_isSideWithout 31 = .ok (.iand, 1) := by decide +kernel
theorem d_FL_isSideWithout_32 : decode b_FL_isSideWithout 32 = .ok (.ifCond .ne 18, 3) := by decide +kernel
theorem d_FL_isSideWithout_35 : decode b_FL_isSideWithout 35 = .ok (.aload_n 0, 1) := by decide +kernel
theorem d_FL_isSideWithout_36 : decode b_FL_isSideWithout 36 = .ok (.getfield 9, 3) := by decide +kernel
theorem d_FL_isSideWithout_39 : decode b_FL_isSideWithout 39 = .ok (.iload_n 1, 1) := by decide +kernel
theorem d_FL_isSideWithout_40 : decode b_FL_isSideWithout 40 = .ok (.iaload, 1) := by decide +kernel
theorem d_FL_isSideWithout_41 : decode b_FL_isSideWithout 41 = .ok (.iload_n 3, 1) := by decide +kernel
theorem d_FL_isSideWithout_42 : decode b_FL_isSideWithout 42 = .ok (.iand, 1) := by decide +kernel
theorem d_FL_isSideWithout_43 : decode b_FL_isSideWithout 43 = .ok (.ifCond .ne 7, 3) := by decide +kernel
theorem d_FL_isSideWithout_46 : decode b_FL_isSideWithout 46 = .ok (.iconst 1, 1) := by decide +kernel
theorem d_FL_isSideWithout_47 : decode b_FL_isSideWithout 47 = .ok (.goto 4, 3) := by decide +kernel
theorem d_FL_isSideWithout_50 : decode b_FL_isSideWithout 50 = .ok (.iconst 0, 1) := by decide +kernel
theorem d_FL_isSideWithout_51 : decode b_FL_isSideWithout 51 = .ok (.ireturn, 1) := by decide +kernel
theorem d_IP_addTo_0 : decode b_IP_addTo 0 = .ok (.aload_n 0, 1) := by decide +kernel
theorem d_IP_addTo_1 : decode b_IP_addTo 1 = .ok (.getfield 12, 3) := by decide +kernel
theorem d_IP_addTo_4 : decode b_IP_addTo 4 = .ok (.aload_n 2, 1) := by decide +kernel
theorem d_IP_addTo_5 : decode b_IP_addTo 5 = .ok (.iload_n 3, 1) := by decide +kernel
theorem d_IP_addTo_6 : decode b_IP_addTo 6 = .ok (.invokevirtual 34, 3) := by decide +kernel
theorem d_IP_addTo_9 : decode b_IP_addTo 9 = .ok (.pop, 1) := by decide +kernel
theorem d_IP_addTo_10 : decode b_IP_addTo 10 = .ok (.aload_n 0, 1) := by decide +kernel
theorem d_IP_addTo_11 : decode b_IP_addTo 11 = .ok (.aload_n 0, 1) := by decide +kernel
theorem d_IP_addTo_12 : decode b_IP_addTo 12 = .ok (.getfield 12, 3) := by decide +kernel
theorem d_IP_addTo_15 : decode b_IP_addTo 15 = .ok (.invokevirtual 38, 3) := by decide +kernel
theorem d_IP_addTo_18 : decode b_IP_addTo 18 = .ok (.l2i, 1) := by decide +kernel
theorem d_IP_addTo_19 : decode b_IP_addTo 19 = .ok (.putfield 42, 3) := by decide +kernel
theorem d_IP_addTo_22 : decode b_IP_addTo 22 = .ok (.aload_n 0, 1) := by decide +kernel
theorem d_IP_addTo_23 : decode b_IP_addTo 23 = .ok (.getfield 42, 3) := by decide +kernel
theorem d_IP_addTo_26 : decode b_IP_addTo 26 = .ok (.iconst 1, 1) := by decide +kernel
theorem d_IP_addTo_27 : decode b_IP_addTo 27 = .ok (.if_icmp .le 12, 3) := by decide +kernel
theorem d_IP_addTo_30 : decode b_IP_addTo 30 = .ok (.aload_n 0, 1) := by decide +kernel
theorem d_IP_addTo_31 : decode b_IP_addTo 31 = .ok (.getfield 42, 3) := by decide +kernel
theorem d_IP_addTo_34 : decode b_IP_addTo 34 = .ok (.bipush 12, 2) := by decide +kernel
theorem d_IP_addTo_36 : decode b_IP_addTo 36 = .ok (.if_icmp .le 4, 3) := by decide +kernel
theorem d_IP_addTo_39 : decode b_IP_addTo 39 = .ok (.return_, 1) := by decide +kernel
theorem d_IP_addTo_40 : decode b_IP_addTo 40 = .ok (.aload_n 0, 1) := by decide +kernel
theorem d_IP_addTo_41 : decode b_IP_addTo 41 = .ok (.aload_n 2, 1) := by decide +kernel
theorem d_IP_addTo_42 : decode b_IP_addTo 42 = .ok (.iload_n 3, 1) := by decide +kernel
theorem d_IP_addTo_43 : decode b_IP_addTo 43 = .ok (.invokevirtual 46, 3) := by decide +kernel
theorem d_IP_addTo_46 : decode b_IP_addTo 46 = .ok (.aload_n 0, 1) := by decide +kernel
theorem d_IP_addTo_47 : decode b_IP_addTo 47 = .ok (.aload_n 2, 1) := by decide +kernel
theorem d_IP_addTo_48 : decode b_IP_addTo 48 = .ok (.iload_n 3, 1) := by decide +kernel
theorem d_IP_addTo_49 : decode b_IP_addTo 49 = .ok (.invokevirtual 50, 3) := by decide +kernel
theorem d_IP_addTo_52 : decode b_IP_addTo 52 = .ok (.aload_n 0, 1) := by decide +kernel
theorem d_IP_addTo_53 : decode b_IP_addTo 53 = .ok (.invokevirtual 53, 3) := by decide +kernel
theorem d_IP_addTo_56 : decode b_IP_addTo 56 = .ok (.iconst 1, 1) := by decide +kernel
theorem d_IP_addTo_57 : decode b_IP_addTo 57 = .ok (.istore 4, 2) := by decide +kernel
theorem d_IP_addTo_59 : decode b_IP_addTo 59 = .ok (.iload 4, 2) := by decide +kernel
theorem d_IP_addTo_61 : decode b_IP_addTo 61 = .ok (.aload_n 0, 1) := by decide +kernel
theorem d_IP_addTo_62 : decode b_IP_addTo 62 = .ok (.getfield 56, 3) := by decide +kernel
theorem d_IP_addTo_65 : decode b_IP_addTo 65 = .ok (.if_icmp .ge 29, 3) := by decide +kernel
theorem d_IP_addTo_68 : decode b_IP_addTo 68 = .ok (.aload_n 0, 1) := by decide +kernel
theorem d_IP_addTo_69 : decode b_IP_addTo 69 = .ok (.aload_n 2, 1) := by decide +kernel
theorem d_IP_addTo_70 : decode b_IP_addTo 70 = .ok (.aload_n 0, 1) := by decide +kernel
theorem d_IP_addTo_71 : decode b_IP_addTo 71 = .ok (.getfield 28, 3) := by decide +kernel
theorem d_IP_addTo_74 : decode b_IP_addTo 74 = .ok (.iload 4, 2) := by decide +kernel
theorem d_IP_addTo_76 : decode b_IP_addTo 76 = .ok (.iaload, 1) := by decide +kernel
theorem d_IP_addTo_77 : decode b_IP_addTo 77 = .ok (.invokevirtual 59, 3) := by decide +kernel
theorem d_IP_addTo_80 : decode b_IP_addTo 80 = .ok (.aload_n 1, 1) := by decide +kernel
theorem d_IP_addTo_81 : decode b_IP_addTo 81 = .ok (.aload_n 0, 1) := by decide +kernel
theorem d_IP_addTo_82 : decode b_IP_addTo 82 = .ok (.getfield 31, 3) := by decide +kernel
theorem d_IP_addTo_85 : decode b_IP_addTo 85 = .ok (.invokevirtual 62, 3) := by decide +kernel
theorem d_IP_addTo_88 : decode b_IP_addTo 88 = .ok (.iinc 4 1, 3) := by decide +kernel
theorem d_IP_addTo_91 : decode b_IP_addTo 91 = .ok (.goto (-32), 3) := by decide +kernel
theorem d_IP_addTo_94 : decode b_IP_addTo 94 = .ok (.return_, 1) := by decide +kernel
theorem d_IP_fillInner_0 : decode b_IP_fillInner 0 = .ok (.aload_n 0, 1) := by decide +kernel
theorem d_IP_fillInner_1 : decode b_IP_fillInner 1 = .ok (.getfield 42, 3) := by decide +kernel
theorem d_IP_fillInner_4 : decode b_IP_fillInner 4 = .ok (.ifCond .ne 4, 3) := by decide +kernel
theorem d_IP_fillInner_7 : decode b_IP_fillInner 7 = .ok (.return_, 1) := by decide +kernel
theorem d_IP_fillInner_8 : decode b_IP_fillInner 8 = .ok (.iconst 0, 1) := by decide +kernel
theorem d_IP_fillInner_9 : decode b_IP_fillInner 9 = .ok (.istore_n 3, 1) := by decide +kernel
theorem d_IP_fillInner_10 : decode b_IP_fillInner 10 = .ok (.iload_n 3, 1) := by decide +kernel
theorem d_IP_fillInner_11 : decode b_IP_fillInner 11 = .ok (.iconst 4, 1) := by decide +kernel
theorem d_IP_fillInner_12 : decode b_IP_fillInner 12 = .ok (.if_icmp .ge 70, 3) := by decide +kernel
theorem d_IP_fillInner_15 : decode b_IP_fillInner 15 = .ok (.iconst 0, 1) := by decide +kernel
theorem d_IP_fillInner_16 : decode b_IP_fillInner 16 = .ok (.istore 4, 2) := by decide +kernel
theorem d_IP_fillInner_18 : decode b_IP_fillInner 18 = .ok (.iconst 0, 1) := by decide +kernel
theorem d_IP_fillInner_19 : decode b_IP_fillInner 19 = .ok (.istore 5, 2) := by decide +kernel
theorem d_IP_fillInner_21 : decode b_IP_fillInner 21 = .ok (.iload 5, 2) := by decide +kernel
theorem d_IP_fillInner_23 : decode b_IP_fillInner 23 = .ok (.aload_n 0, 1) := by decide +kernel
theorem d_IP_fillInner_24 : decode b_IP_fillInner 24 = .ok (.getfield 68, 3) := by decide +kernel
theorem d_IP_fillInner_27 : decode b_IP_fillInner 27 = .ok (.if_icmp .ge 36, 3) := by decide +kernel
theorem d_IP_fillInner_30 : decode b_IP_fillInner 30 = .ok (.iload 4, 2) := by decide +kernel
theorem d_IP_fillInner_32 : decode b_IP_fillInner 32 = .ok (.iload_n 2, 1) := by decide +kernel
theorem d_IP_fillInner_33 : decode b_IP_fillInner 33 = .ok (.iload 5, 2) := by decide +kernel
theorem d_IP_fillInner_35 : decode b_IP_fillInner 35 = .ok (.iconst 4, 1) := by decide +kernel
theorem d_IP_fillInner_36 : decode b_IP_fillInner 36 = .ok (.imul, 1) := by decide +kernel
theorem d_IP_fillInner_37 : decode b_IP_fillInner 37 = .ok (.ishr, 1) := by decide +kernel
theorem d_IP_fillInner_38 : decode b_IP_fillInner 38 = .ok (.bipush 15, 2) := by decide +kernel
theorem d_IP_fillInner_40 : decode b_IP_fillInner 40 = .ok (.iand, 1) := by decide +kernel
theorem d_IP_fillInner_41 : decode b_IP_fillInner 41 = .ok (.aload_n 1, 1) := by decide +kernel
theorem d_IP_fillInner_42 : decode b_IP_fillInner 42 = .ok (.aload_n 0, 1) := by decide +kernel
theorem d_IP_fillInner_43 : decode b_IP_fillInner 43 = .ok (.getfield 18, 3) := by decide +kernel
theorem d_IP_fillInner_46 : decode b_IP_fillInner 46 = .ok (.iload 5, 2) := by decide +kernel
theorem d_IP_fillInner_48 : decode b_IP_fillInner 48 = .ok (.iaload, 1) := by decide +kernel
theorem d_IP_fillInner_49 : decode b_IP_fillInner 49 = .ok (.iload_n 3, 1) := by decide +kernel
theorem d_IP_fillInner_50 : decode b_IP_fillInner 50 = .ok (.invokevirtual 107, 3) := by decide +kernel
theorem d_IP_fillInner_53 : decode b_IP_fillInner 53 = .ok (.imul, 1) := by decide +kernel
theorem d_IP_fillInner_54 : decode b_IP_fillInner 54 = .ok (.iadd, 1) := by decide +kernel
theorem d_IP_fillInner_55 : decode b_IP_fillInner 55 = .ok (.istore 4, 2) := by decide +kernel
theorem d_IP_fillInner_57 : decode b_IP_fillInner 57 = .ok (.iinc 5 1, 3) := by decide +kernel
theorem d_IP_fillInner_60 : decode b_IP_fillInner 60 = .ok (.goto (-39), 3) := by decide +kernel
theorem d_IP_fillInner_63 : decode b_IP_fillInner 63 = .ok (.aload_n 0, 1) := by decide +kernel
theorem d_IP_fillInner_64 : decode b_IP_fillInner 64 = .ok (.getfield 31, 3) := by decide +kernel
theorem d_IP_fillInner_67 : decode b_IP_fillInner 67 = .ok (.iload_n 3, 1) := by decide +kernel
theorem d_IP_fillInner_68 : decode b_IP_fillInner 68 = .ok (.iload 4, 2) := by decide +kernel
theorem d_IP_fillInner_70 : decode b_IP_fillInner 70 = .ok (.aload_n 0, 1) := by decide +kernel
theorem d_IP_fillInner_71 : decode b_IP_fillInner 71 = .ok (.getfield 42, 3) := by decide +kernel
theorem d_IP_fillInner_74 : decode b_IP_fillInner 74 = .ok (.idiv, 1) := by decide +kernel
theorem d_IP_fillInner_75 : decode b_IP_fillInner 75 = .ok (.iastore, 1) := by decide +kernel
theorem d_IP_fillInner_76 : decode b_IP_fillInner 76 = .ok (.iinc 3 1, 3) := by decide +kernel
theorem d_IP_fillInner_79 : decode b_IP_fillInner 79 = .ok (.goto (-69), 3) := by decide +kernel
theorem d_IP_fillInner_82 : decode b_IP_fillInner 82 = .ok (.return_, 1) := by decide +kernel
theorem d_IP_findMembers_0 : decode b_IP_findMembers 0 = .ok (.aload_n 0, 1) := by decide +kernel
theorem d_IP_findMembers_1 : decode b_IP_findMembers 1 = .ok (.iconst 0, 1) := by decide +kernel
theorem d_IP_findMembers_2 : decode b_IP_findMembers 2 = .ok (.putfield 68, 3) := by decide +kernel
theorem d_IP_findMembers_5 : decode b_IP_findMembers 5 = .ok (.iconst 0, 1) := by decide +kernel
theorem d_IP_findMembers_6 : decode b_IP_findMembers 6 = .ok (.istore_n 3, 1) := by decide +kernel
theorem d_IP_findMembers_7 : decode b_IP_findMembers 7 = .ok (.iload_n 3, 1) := by decide +kernel
theorem d_IP_findMembers_8 : decode b_IP_findMembers 8 = .ok (.aload_n 1, 1) := by decide +kernel
theorem d_IP_findMembers_9 : decode b_IP_findMembers 9 = .ok (.getfield 71, 3) := by decide +kernel
theorem d_IP_findMembers_12 : decode b_IP_findMembers 12 = .ok (.if_icmp .ge 45, 3) := by decide +kernel
theorem d_IP_findMembers_15 : decode b_IP_findMembers 15 = .ok (.iload_n 2, 1) := by decide +kernel
theorem d_IP_findMembers_16 : decode b_IP_findMembers 16 = .ok (.iload_n 3, 1) := by decide +kernel
theorem d_IP_findMembers_17 : decode b_IP_findMembers 17 = .ok (.invokestatic 74, 3) := by decide +kernel
theorem d_IP_findMembers_20 : decode b_IP_findMembers 20 = .ok (.ifCond .eq 31, 3) := by decide +kernel
theorem d_IP_findMembers_23 : decode b_IP_findMembers 23 = .ok (.aload_n 0, 1) := by decide +kernel
theorem d_IP_findMembers_24 : decode b_IP_findMembers 24 = .ok (.getfield 68, 3) := by decide +kernel
theorem d_IP_findMembers_27 : decode b_IP_findMembers 27 = .ok (.iconst 4, 1) := by decide +kernel
theorem d_IP_findMembers_28 : decode b_IP_findMembers 28 = .ok (.if_icmp .ge 23, 3) := by decide +kernel
theorem d_IP_findMembers_31 : decode b_IP_findMembers 31 = .ok (.aload_n 0, 1) := by decide +kernel
theorem d_IP_findMembers_32 : decode b_IP_findMembers 32 = .ok (.getfield 18, 3) := by decide +kernel
theorem d_IP_findMembers_35 : decode b_IP_findMembers 35 = .ok (.aload_n 0, 1) := by decide +kernel
theorem d_IP_findMembers_36 : decode b_IP_findMembers 36 = .ok (.getfield 68, 3) := by decide +kernel
theorem d_IP_findMembers_39 : decode b_IP_findMembers 39 = .ok (.iload_n 3, 1) := by decide +kernel
theorem d_IP_findMembers_40 : decode b_IP_findMembers 40 = .ok (.iastore, 1) := by decide +kernel
theorem d_IP_findMembers_41 : decode b_IP_findMembers 41 = .ok (.aload_n 0, 1) := by decide +kernel
theorem d_IP_findMembers_42 : decode b_IP_findMembers 42 = .ok (.dup, 1) := by decide +kernel
theorem d_IP_findMembers_43 : decode b_IP_findMembers 43 = .ok (.getfield 68, 3) := by decide +kernel
theorem d_IP_findMembers_46 : decode b_IP_findMembers 46 = .ok (.iconst 1, 1) := by decide +kernel
theorem d_IP_findMembers_47 : decode b_IP_findMembers 47 = .ok (.iadd, 1) := by decide +kernel
theorem d_IP_findMembers_48 : decode b_IP_findMembers 48 = .ok (.putfield 68, 3) := by decide +kernel
theorem d_IP_findMembers_51 : decode b_IP_findMembers 51 = .ok (.iinc 3 1, 3) := by decide +kernel
theorem d_IP_findMembers_54 : decode b_IP_findMembers 54 = .ok (.goto (-47), 3) := by decide +kernel
theorem d_IP_findMembers_57 : decode b_IP_findMembers 57 = .ok (.return_, 1) := by decide +kernel
theorem d_IP_findMixes_0 : decode b_IP_findMixes 0 = .ok (.aload_n 0, 1) := by decide +kernel
theorem d_IP_findMixes_1 : decode b_IP_findMixes 1 = .ok (.getfield 28, 3) := by decide +kernel
theorem d_IP_findMixes_4 : decode b_IP_findMixes 4 = .ok (.iconst 0, 1) := by decide +kernel
theorem d_IP_findMixes_5 : decode b_IP_findMixes 5 = .ok (.iconst 0, 1) := by decide +kernel
theorem d_IP_findMixes_6 : decode b_IP_findMixes 6 = .ok (.iastore, 1) := by decide +kernel
theorem d_IP_findMixes_7 : decode b_IP_findMixes 7 = .ok (.aload_n 0, 1) := by decide +kernel
theorem d_IP_findMixes_8 : decode b_IP_findMixes 8 = .ok (.iconst 1, 1) := by decide +kernel
theorem d_IP_findMixes_9 : decode b_IP_findMixes 9 = .ok (.putfield 56, 3) := by decide +kernel
theorem d_IP_findMixes_12 : decode b_IP_findMixes 12 = .ok (.iconst 0, 1) := by decide +kernel
theorem d_IP_findMixes_13 : decode b_IP_findMixes 13 = .ok (.istore_n 1, 1) := by decide +kernel
theorem d_IP_findMixes_14 : decode b_IP_findMixes 14 = .ok (.iload_n 1, 1) := by decide +kernel
theorem d_IP_findMixes_15 : decode b_IP_findMixes 15 = .ok (.aload_n 0, 1) := by decide +kernel
theorem d_IP_findMixes_16 : decode b_IP_findMixes 16 = .ok (.getfield 56, 3) := by decide +kernel
theorem d_IP_findMixes_19 : decode b_IP_findMixes 19 = .ok (.if_icmp .ge 61, 3) := by decide +kernel
theorem d_IP_findMixes_22 : decode b_IP_findMixes 22 = .ok (.iload_n 1, 1) := by decide +kernel
theorem d_IP_findMixes_23 : decode b_IP_findMixes 23 = .ok (.bipush 12, 2) := by decide +kernel
theorem d_IP_findMixes_25 : decode b_IP_findMixes 25 = .ok (.if_icmp .ge 55, 3) := by decide +kernel
theorem d_IP_findMixes_28 : decode b_IP_findMixes 28 = .ok (.iconst 0, 1) := by decide +kernel
theorem d_IP_findMixes_29 : decode b_IP_findMixes 29 = .ok (.istore_n 2, 1) := by decide +kernel
theorem d_IP_findMixes_30 : decode b_IP_findMixes 30 = .ok (.iload_n 2, 1) := by decide +kernel
theorem d_IP_findMixes_31 : decode b_IP_findMixes 31 = .ok (.aload_n 0, 1) := by decide +kernel
theorem d_IP_findMixes_32 : decode b_IP_findMixes 32 = .ok (.getfield 25, 3) := by decide +kernel
theorem d_IP_findMixes_35 : decode b_IP_findMixes 35 = .ok (.arraylength, 1) := by decide +kernel
theorem d_IP_findMixes_36 : decode b_IP_findMixes 36 = .ok (.if_icmp .ge 38, 3) := by decide +kernel
theorem d_IP_findMixes_39 : decode b_IP_findMixes 39 = .ok (.aload_n 0, 1) := by decide +kernel
theorem d_IP_findMixes_40 : decode b_IP_findMixes 40 = .ok (.getfield 25, 3) := by decide +kernel
theorem d_IP_findMixes_43 : decode b_IP_findMixes 43 = .ok (.iload_n 2, 1) := by decide +kernel
theorem d_IP_findMixes_44 : decode b_IP_findMixes 44 = .ok (.iaload, 1) := by decide +kernel
theorem d_IP_findMixes_45 : decode b_IP_findMixes 45 = .ok (.ifCond .eq 23, 3) := by decide +kernel
theorem d_IP_findMixes_48 : decode b_IP_findMixes 48 = .ok (.aload_n 0, 1) := by decide +kernel
theorem d_IP_findMixes_49 : decode b_IP_findMixes 49 = .ok (.aload_n 0, 1) := by decide +kernel
theorem d_IP_findMixes_50 : decode b_IP_findMixes 50 = .ok (.aload_n 0, 1) := by decide +kernel
theorem d_IP_findMixes_51 : decode b_IP_findMixes 51 = .ok (.getfield 28, 3) := by decide +kernel
theorem d_IP_findMixes_54 : decode b_IP_findMixes 54 = .ok (.iload_n 1, 1) := by decide +kernel
theorem d_IP_findMixes_55 : decode b_IP_findMixes 55 = .ok (.iaload, 1) := by decide +kernel
theorem d_IP_findMixes_56 : decode b_IP_findMixes 56 = .ok (.aload_n 0, 1) := by decide +kernel
theorem d_IP_findMixes_57 : decode b_IP_findMixes 57 = .ok (.getfield 25, 3) := by decide +kernel
theorem d_IP_findMixes_60 : decode b_IP_findMixes 60 = .ok (.iload_n 2, 1) := by decide +kernel
theorem d_IP_findMixes_61 : decode b_IP_findMixes 61 = .ok (.iaload, 1) := by decide +kernel
theorem d_IP_findMixes_62 : decode b_IP_findMixes 62 = .ok (.invokevirtual 99, 3) := by decide +kernel
theorem d_IP_findMixes_65 : decode b_IP_findMixes 65 = .ok (.invokevirtual 103, 3) := by decide +kernel
theorem d_IP_findMixes_68 : decode b_IP_findMixes 68 = .ok (.iinc 2 1, 3) := by decide +kernel
theorem d_IP_findMixes_71 : decode b_IP_findMixes 71 = .ok (.goto (-41), 3) := by decide +kernel
theorem d_IP_findMixes_74 : decode b_IP_findMixes 74 = .ok (.iinc 1 1, 3) := by decide +kernel
theorem d_IP_findMixes_77 : decode b_IP_findMixes 77 = .ok (.goto (-63), 3) := by decide +kernel
theorem d_IP_findMixes_80 : decode b_IP_findMixes 80 = .ok (.return_, 1) := by decide +kernel
theorem d_IP_findSteps_0 : decode b_IP_findSteps 0 = .ok (.aload_n 0, 1) := by decide +kernel
theorem d_IP_findSteps_1 : decode b_IP_findSteps 1 = .ok (.getfield 25, 3) := by decide +kernel
theorem d_IP_findSteps_4 : decode b_IP_findSteps 4 = .ok (.iconst 0, 1) := by decide +kernel
theorem d_IP_findSteps_5 : decode b_IP_findSteps 5 = .ok (.invokestatic 78, 3) := by decide +kernel
theorem d_IP_findSteps_8 : decode b_IP_findSteps 8 = .ok (.iconst 0, 1) := by decide +kernel
theorem d_IP_findSteps_9 : decode b_IP_findSteps 9 = .ok (.istore_n 3, 1) := by decide +kernel
theorem d_IP_findSteps_10 : decode b_IP_findSteps 10 = .ok (.iload_n 3, 1) := by decide +kernel
theorem d_IP_findSteps_11 : decode b_IP_findSteps 11 = .ok (.aload_n 0, 1) := by decide +kernel
theorem d_IP_findSteps_12 : decode b_IP_findSteps 12 = .ok (.getfield 68, 3) := by decide +kernel
theorem d_IP_findSteps_15 : decode b_IP_findSteps 15 = .ok (.if_icmp .ge 108, 3) := by decide +kernel
theorem d_IP_findSteps_18 : decode b_IP_findSteps 18 = .ok (.aload_n 0, 1) := by decide +kernel
theorem d_IP_findSteps_19 : decode b_IP_findSteps 19 = .ok (.getfield 12, 3) := by decide +kernel
theorem d_IP_findSteps_22 : decode b_IP_findSteps 22 = .ok (.aload_n 1, 1) := by decide +kernel
theorem d_IP_findSteps_23 : decode b_IP_findSteps 23 = .ok (.iload_n 2, 1) := by decide +kernel
theorem d_IP_findSteps_24 : decode b_IP_findSteps 24 = .ok (.iconst 1, 1) := by decide +kernel
theorem d_IP_findSteps_25 : decode b_IP_findSteps 25 = .ok (.aload_n 0, 1) := by decide +kernel
theorem d_IP_findSteps_26 : decode b_IP_findSteps 26 = .ok (.getfield 18, 3) := by decide +kernel
theorem d_IP_findSteps_29 : decode b_IP_findSteps 29 = .ok (.iload_n 3, 1) := by decide +kernel
theorem d_IP_findSteps_30 : decode b_IP_findSteps 30 = .ok (.iaload, 1) := by decide +kernel
theorem d_IP_findSteps_31 : decode b_IP_findSteps 31 = .ok (.ishl, 1) := by decide +kernel
theorem d_IP_findSteps_32 : decode b_IP_findSteps 32 = .ok (.iconst (-1), 1) := by decide +kernel
theorem d_IP_findSteps_33 : decode b_IP_findSteps 33 = .ok (.ixor, 1) := by decide +kernel
theorem d_IP_findSteps_34 : decode b_IP_findSteps 34 = .ok (.iand, 1) := by decide +kernel
theorem d_IP_findSteps_35 : decode b_IP_findSteps 35 = .ok (.invokevirtual 34, 3) := by decide +kernel
theorem d_IP_findSteps_38 : decode b_IP_findSteps 38 = .ok (.pop, 1) := by decide +kernel
theorem d_IP_findSteps_39 : decode b_IP_findSteps 39 = .ok (.aload_n 0, 1) := by decide +kernel
theorem d_IP_findSteps_40 : decode b_IP_findSteps 40 = .ok (.getfield 12, 3) := by decide +kernel
theorem d_IP_findSteps_43 : decode b_IP_findSteps 43 = .ok (.invokevirtual 84, 3) := by decide +kernel
theorem d_IP_findSteps_46 : decode b_IP_findSteps 46 = .ok (.istore 4, 2) := by decide +kernel
theorem d_IP_findSteps_48 : decode b_IP_findSteps 48 = .ok (.aload_n 0, 1) := by decide +kernel
theorem d_IP_findSteps_49 : decode b_IP_findSteps 49 = .ok (.getfield 12, 3) := by decide +kernel
theorem d_IP_findSteps_52 : decode b_IP_findSteps 52 = .ok (.invokevirtual 88, 3) := by decide +kernel
theorem d_IP_findSteps_55 : decode b_IP_findSteps 55 = .ok (.istore 5, 2) := by decide +kernel
theorem d_IP_findSteps_57 : decode b_IP_findSteps 57 = .ok (.iload 5, 2) := by decide +kernel
theorem d_IP_findSteps_59 : decode b_IP_findSteps 59 = .ok (.iload 4, 2) := by decide +kernel
theorem d_IP_findSteps_61 : decode b_IP_findSteps 61 = .ok (.if_icmp .ge 56, 3) := by decide +kernel
theorem d_IP_findSteps_64 : decode b_IP_findSteps 64 = .ok (.aload_n 0, 1) := by decide +kernel
theorem d_IP_findSteps_65 : decode b_IP_findSteps 65 = .ok (.getfield 12, 3) := by decide +kernel
theorem d_IP_findSteps_68 : decode b_IP_findSteps 68 = .ok (.getstatic 22, 3) := by decide +kernel
theorem d_IP_findSteps_71 : decode b_IP_findSteps 71 = .ok (.iload 5, 2) := by decide +kernel
theorem d_IP_findSteps_73 : decode b_IP_findSteps 73 = .ok (.iaload, 1) := by decide +kernel
theorem d_IP_findSteps_74 : decode b_IP_findSteps 74 = .ok (.invokevirtual 91, 3) := by decide +kernel
theorem d_IP_findSteps_77 : decode b_IP_findSteps 77 = .ok (.lstore 6, 2) := by decide +kernel
theorem d_IP_findSteps_79 : decode b_IP_findSteps 79 = .ok (.aload_n 0, 1) := by decide +kernel
theorem d_IP_findSteps_80 : decode b_IP_findSteps 80 = .ok (.getfield 25, 3) := by decide +kernel
theorem d_IP_findSteps_83 : decode b_IP_findSteps 83 = .ok (.iload 5, 2) := by decide +kernel
theorem d_IP_findSteps_85 : decode b_IP_findSteps 85 = .ok (.dup2, 1) := by decide +kernel
theorem d_IP_findSteps_86 : decode b_IP_findSteps 86 = .ok (.iaload, 1) := by decide +kernel
theorem d_IP_findSteps_87 : decode b_IP_findSteps 87 = .ok (.aload_n 0, 1) := by decide +kernel
theorem d_IP_findSteps_88 : decode b_IP_findSteps 88 = .ok (.iload_n 3, 1) := by decide +kernel
theorem d_IP_findSteps_89 : decode b_IP_findSteps 89 = .ok (.iconst 2, 1) := by decide +kernel
theorem d_IP_findSteps_90 : decode b_IP_findSteps 90 = .ok (.irem, 1) := by decide +kernel
theorem d_IP_findSteps_91 : decode b_IP_findSteps 91 = .ok (.ifCond .ne 8, 3) := by decide +kernel
theorem d_IP_findSteps_94 : decode b_IP_findSteps 94 = .ok (.lload 6, 2) := by decide +kernel
theorem d_IP_findSteps_96 : decode b_IP_findSteps 96 = .ok (.goto 6, 3) := by decide +kernel
theorem d_IP_findSteps_99 : decode b_IP_findSteps 99 = .ok (.lload 6, 2) := by decide +kernel
theorem d_IP_findSteps_101 : decode b_IP_findSteps 101 = .ok (.lneg, 1) := by decide +kernel
theorem d_IP_findSteps_102 : decode b_IP_findSteps 102 = .ok (.invokevirtual 95, 3) := by decide +kernel
theorem d_IP_findSteps_105 : decode b_IP_findSteps 105 = .ok (.iload_n 3, 1) := by decide +kernel
theorem d_IP_findSteps_106 : decode b_IP_findSteps 106 = .ok (.iconst 4, 1) := by decide +kernel
theorem d_IP_findSteps_107 : decode b_IP_findSteps 107 = .ok (.imul, 1) := by decide +kernel
theorem d_IP_findSteps_108 : decode b_IP_findSteps 108 = .ok (.ishl, 1) := by decide +kernel
theorem d_IP_findSteps_109 : decode b_IP_findSteps 109 = .ok (.ior, 1) := by decide +kernel
theorem d_IP_findSteps_110 : decode b_IP_findSteps 110 = .ok (.iastore, 1) := by decide +kernel
theorem d_IP_findSteps_111 : decode b_IP_findSteps 111 = .ok (.iinc 5 1, 3) := by decide +kernel
theorem d_IP_findSteps_114 : decode b_IP_findSteps 114 = .ok (.goto (-57), 3) := by decide +kernel
theorem d_IP_findSteps_117 : decode b_IP_findSteps 117 = .ok (.iinc 3 1, 3) := by decide +kernel
theorem d_IP_findSteps_120 : decode b_IP_findSteps 120 = .ok (.goto (-110), 3) := by decide +kernel
theorem d_IP_findSteps_123 : decode b_IP_findSteps 123 = .ok (.return_, 1) := by decide +kernel
theorem d_IP_includeMix_0 : decode b_IP_includeMix 0 = .ok (.iconst 0, 1) := by decide +kernel
theorem d_IP_includeMix_1 : decode b_IP_includeMix 1 = .ok (.istore_n 2, 1) := by decide +kernel
theorem d_IP_includeMix_2 : decode b_IP_includeMix 2 = .ok (.iload_n 2, 1) := by decide +kernel
theorem d_IP_includeMix_3 : decode b_IP_includeMix 3 = .ok (.aload_n 0, 1) := by decide +kernel
theorem d_IP_includeMix_4 : decode b_IP_includeMix 4 = .ok (.getfield 56, 3) := by decide +kernel
theorem d_IP_includeMix_7 : decode b_IP_includeMix 7 = .ok (.if_icmp .ge 20, 3) := by decide +kernel
theorem d_IP_includeMix_10 : decode b_IP_includeMix 10 = .ok (.aload_n 0, 1) := by decide +kernel
theorem d_IP_includeMix_11 : decode b_IP_includeMix 11 = .ok (.getfield 28, 3) := by decide +kernel
theorem d_IP_includeMix_14 : decode b_IP_includeMix 14 = .ok (.iload_n 2, 1) := by decide +kernel
theorem d_IP_includeMix_15 : decode b_IP_includeMix 15 = .ok (.iaload, 1) := by decide +kernel
theorem d_IP_includeMix_16 : decode b_IP_includeMix 16 = .ok (.iload_n 1, 1) := by decide +kernel
theorem d_IP_includeMix_17 : decode b_IP_includeMix 17 = .ok (.if_icmp .ne 4, 3) := by decide +kernel
theorem d_IP_includeMix_20 : decode b_IP_includeMix 20 = .ok (.return_, 1) := by decide +kernel
theorem d_IP_includeMix_21 : decode b_IP_includeMix 21 = .ok (.iinc 2 1, 3) := by decide +kernel
theorem d_IP_includeMix_24 : decode b_IP_includeMix 24 = .ok (.goto (-22), 3) := by decide +kernel
theorem d_IP_includeMix_27 : decode b_IP_includeMix 27 = .ok (.aload_n 0, 1) := by decide +kernel
theorem d_IP_includeMix_28 : decode b_IP_includeMix 28 = .ok (.getfield 56, 3) := by decide +kernel
theorem d_IP_includeMix_31 : decode b_IP_includeMix 31 = .ok (.bipush 12, 2) := by decide +kernel
theorem d_IP_includeMix_33 : decode b_IP_includeMix 33 = .ok (.if_icmp .ge 23, 3) := by decide +kernel
theorem d_IP_includeMix_36 : decode b_IP_includeMix 36 = .ok (.aload_n 0, 1) := by decide +kernel
theorem d_IP_includeMix_37 : decode b_IP_includeMix 37 = .ok (.getfield 28, 3) := by decide +kernel
theorem d_IP_includeMix_40 : decode b_IP_includeMix 40 = .ok (.aload_n 0, 1) := by decide +kernel
theorem d_IP_includeMix_41 : decode b_IP_includeMix 41 = .ok (.getfield 56, 3) := by decide +kernel
theorem d_IP_includeMix_44 : decode b_IP_includeMix 44 = .ok (.iload_n 1, 1) := by decide +kernel
theorem d_IP_includeMix_45 : decode b_IP_includeMix 45 = .ok (.iastore, 1) := by decide +kernel
theorem d_IP_includeMix_46 : decode b_IP_includeMix 46 = .ok (.aload_n 0, 1) := by decide +kernel
theorem d_IP_includeMix_47 : decode b_IP_includeMix 47 = .ok (.dup, 1) := by decide +kernel
theorem d_IP_includeMix_48 : decode b_IP_includeMix 48 = .ok (.getfield 56, 3) := by decide +kernel
theorem d_IP_includeMix_51 : decode b_IP_includeMix 51 = .ok (.iconst 1, 1) := by decide +kernel
theorem d_IP_includeMix_52 : decode b_IP_includeMix 52 = .ok (.iadd, 1) := by decide +kernel
theorem d_IP_includeMix_53 : decode b_IP_includeMix 53 = .ok (.putfield 56, 3) := by decide +kernel
theorem d_IP_includeMix_56 : decode b_IP_includeMix 56 = .ok (.return_, 1) := by decide +kernel
theorem d_IP_init_0 : decode b_IP_init 0 = .ok (.aload_n 0, 1) := by decide +kernel
theorem d_IP_init_1 : decode b_IP_init 1 = .ok (.invokespecial 3, 3) := by decide +kernel
theorem d_IP_init_4 : decode b_IP_init 4 = .ok (.aload_n 0, 1) := by decide +kernel
theorem d_IP_init_5 : decode b_IP_init 5 = .ok (.new 9, 3) := by decide +kernel
theorem d_IP_init_8 : decode b_IP_init 8 = .ok (.dup, 1) := by decide +kernel
theorem d_IP_init_9 : decode b_IP_init 9 = .ok (.invokespecial 11, 3) := by decide +kernel
theorem d_IP_init_12 : decode b_IP_init 12 = .ok (.putfield 12, 3) := by decide +kernel
theorem d_IP_init_15 : decode b_IP_init 15 = .ok (.aload_n 0, 1) := by decide +kernel
theorem d_IP_init_16 : decode b_IP_init 16 = .ok (.iconst 4, 1) := by decide +kernel
theorem d_IP_init_17 : decode b_IP_init 17 = .ok (.newarray .int, 2) := by decide +kernel
theorem d_IP_init_19 : decode b_IP_init 19 = .ok (.putfield 18, 3) := by decide +kernel
theorem d_IP_init_22 : decode b_IP_init 22 = .ok (.aload_n 0, 1) := by decide +kernel
theorem d_IP_init_23 : decode b_IP_init 23 = .ok (.getstatic 22, 3) := by decide +kernel
theorem d_IP_init_26 : decode b_IP_init 26 = .ok (.arraylength, 1) := by decide +kernel
theorem d_IP_init_27 : decode b_IP_init 27 = .ok (.newarray .int, 2) := by decide +kernel
theorem d_IP_init_29 : decode b_IP_init 29 = .ok (.putfield 25, 3) := by decide +kernel
theorem d_IP_init_32 : decode b_IP_init 32 = .ok (.aload_n 0, 1) := by decide +kernel
theorem d_IP_init_33 : decode b_IP_init 33 = .ok (.bipush 12, 2) := by decide +kernel
theorem d_IP_init_35 : decode b_IP_init 35 = .ok (.newarray .int, 2) := by decide +kernel
theorem d_IP_init_37 : decode b_IP_init 37 = .ok (.putfield 28, 3) := by decide +kernel
theorem d_IP_init_40 : decode b_IP_init 40 = .ok (.aload_n 0, 1) := by decide +kernel
theorem d_IP_init_41 : decode b_IP_init 41 = .ok (.iconst 4, 1) := by decide +kernel
theorem d_IP_init_42 : decode b_IP_init 42 = .ok (.newarray .int, 2) := by decide +kernel
theorem d_IP_init_44 : decode b_IP_init 44 = .ok (.putfield 31, 3) := by decide +kernel
theorem d_IP_init_47 : decode b_IP_init 47 = .ok (.return_, 1) := by decide +kernel
theorem d_IP_restOf_0 : decode b_IP_restOf 0 = .ok (.aload_n 0, 1) := by decide +kernel
theorem d_IP_restOf_1 : decode b_IP_restOf 1 = .ok (.getfield 42, 3) := by decide +kernel
theorem d_IP_restOf_4 : decode b_IP_restOf 4 = .ok (.ifCond .ne 7, 3) := by decide +kernel
theorem d_IP_restOf_7 : decode b_IP_restOf 7 = .ok (.iconst 0, 1) := by decide +kernel
theorem d_IP_restOf_8 : decode b_IP_restOf 8 = .ok (.goto 11, 3) := by decide +kernel
theorem d_IP_restOf_11 : decode b_IP_restOf 11 = .ok (.lload_n 1, 1) := by decide +kernel
theorem d_IP_restOf_12 : decode b_IP_restOf 12 = .ok (.aload_n 0, 1) := by decide +kernel
theorem d_IP_restOf_13 : decode b_IP_restOf 13 = .ok (.getfield 42, 3) := by decide +kernel
theorem d_IP_restOf_16 : decode b_IP_restOf 16 = .ok (.i2l, 1) := by decide +kernel
theorem d_IP_restOf_17 : decode b_IP_restOf 17 = .ok (.lrem, 1) := by decide +kernel
theorem d_IP_restOf_18 : decode b_IP_restOf 18 = .ok (.l2i, 1) := by decide +kernel
theorem d_IP_restOf_19 : decode b_IP_restOf 19 = .ok (.istore_n 3, 1) := by decide +kernel
theorem d_IP_restOf_20 : decode b_IP_restOf 20 = .ok (.iload_n 3, 1) := by decide +kernel
theorem d_IP_restOf_21 : decode b_IP_restOf 21 = .ok (.ifCond .ge 12, 3) := by decide +kernel
theorem d_IP_restOf_24 : decode b_IP_restOf 24 = .ok (.iload_n 3, 1) := by decide +kernel
theorem d_IP_restOf_25 : decode b_IP_restOf 25 = .ok (.aload_n 0, 1) := by decide +kernel
theorem d_IP_restOf_26 : decode b_IP_restOf 26 = .ok (.getfield 42, 3) := by decide +kernel
theorem d_IP_restOf_29 : decode b_IP_restOf 29 = .ok (.iadd, 1) := by decide +kernel
theorem d_IP_restOf_30 : decode b_IP_restOf 30 = .ok (.goto 4, 3) := by decide +kernel
theorem d_IP_restOf_33 : decode b_IP_restOf 33 = .ok (.iload_n 3, 1) := by decide +kernel
theorem d_IP_restOf_34 : decode b_IP_restOf 34 = .ok (.ireturn, 1) := by decide +kernel
theorem d_IP_sumOf_0 : decode b_IP_sumOf 0 = .ok (.iconst 0, 1) := by decide +kernel
theorem d_IP_sumOf_1 : decode b_IP_sumOf 1 = .ok (.istore_n 3, 1) := by decide +kernel
theorem d_IP_sumOf_2 : decode b_IP_sumOf 2 = .ok (.iconst 0, 1) := by decide +kernel
theorem d_IP_sumOf_3 : decode b_IP_sumOf 3 = .ok (.istore 4, 2) := by decide +kernel
theorem d_IP_sumOf_5 : decode b_IP_sumOf 5 = .ok (.iload 4, 2) := by decide +kernel
theorem d_IP_sumOf_7 : decode b_IP_sumOf 7 = .ok (.aload_n 0, 1) := by decide +kernel
theorem d_IP_sumOf_8 : decode b_IP_sumOf 8 = .ok (.getfield 68, 3) := by decide +kernel
theorem d_IP_sumOf_11 : decode b_IP_sumOf 11 = .ok (.iconst 4, 1) := by decide +kernel
theorem d_IP_sumOf_12 : decode b_IP_sumOf 12 = .ok (.imul, 1) := by decide +kernel
theorem d_IP_sumOf_13 : decode b_IP_sumOf 13 = .ok (.if_icmp .ge 53, 3) := by decide +kernel
theorem d_IP_sumOf_16 : decode b_IP_sumOf 16 = .ok (.iload_n 1, 1) := by decide +kernel
theorem d_IP_sumOf_17 : decode b_IP_sumOf 17 = .ok (.iload 4, 2) := by decide +kernel
theorem d_IP_sumOf_19 : decode b_IP_sumOf 19 = .ok (.ishr, 1) := by decide +kernel
theorem d_IP_sumOf_20 : decode b_IP_sumOf 20 = .ok (.bipush 15, 2) := by decide +kernel
theorem d_IP_sumOf_22 : decode b_IP_sumOf 22 = .ok (.iand, 1) := by decide +kernel
theorem d_IP_sumOf_23 : decode b_IP_sumOf 23 = .ok (.iload_n 2, 1) := by decide +kernel
theorem d_IP_sumOf_24 : decode b_IP_sumOf 24 = .ok (.iload 4, 2) := by decide +kernel
theorem d_IP_sumOf_26 : decode b_IP_sumOf 26 = .ok (.ishr, 1) := by decide +kernel
theorem d_IP_sumOf_27 : decode b_IP_sumOf 27 = .ok (.bipush 15, 2) := by decide +kernel
theorem d_IP_sumOf_29 : decode b_IP_sumOf 29 = .ok (.iand, 1) := by decide +kernel
theorem d_IP_sumOf_30 : decode b_IP_sumOf 30 = .ok (.iadd, 1) := by decide +kernel
theorem d_IP_sumOf_31 : decode b_IP_sumOf 31 = .ok (.istore 5, 2) := by decide +kernel
theorem d_IP_sumOf_33 : decode b_IP_sumOf 33 = .ok (.iload_n 3, 1) := by decide +kernel
theorem d_IP_sumOf_34 : decode b_IP_sumOf 34 = .ok (.iload 5, 2) := by decide +kernel
theorem d_IP_sumOf_36 : decode b_IP_sumOf 36 = .ok (.aload_n 0, 1) := by decide +kernel
theorem d_IP_sumOf_37 : decode b_IP_sumOf 37 = .ok (.getfield 42, 3) := by decide +kernel
theorem d_IP_sumOf_40 : decode b_IP_sumOf 40 = .ok (.if_icmp .lt 13, 3) := by decide +kernel
theorem d_IP_sumOf_43 : decode b_IP_sumOf 43 = .ok (.iload 5, 2) := by decide +kernel
theorem d_IP_sumOf_45 : decode b_IP_sumOf 45 = .ok (.aload_n 0, 1) := by decide +kernel
theorem d_IP_sumOf_46 : decode b_IP_sumOf 46 = .ok (.getfield 42, 3) := by decide +kernel
theorem d_IP_sumOf_49 : decode b_IP_sumOf 49 = .ok (.isub, 1) := by decide +kernel
theorem d_IP_sumOf_50 : decode b_IP_sumOf 50 = .ok (.goto 5, 3) := by decide +kernel
theorem d_IP_sumOf_53 : decode b_IP_sumOf 53 = .ok (.iload 5, 2) := by decide +kernel
theorem d_IP_sumOf_55 : decode b_IP_sumOf 55 = .ok (.iload 4, 2) := by decide +kernel
theorem d_IP_sumOf_57 : decode b_IP_sumOf 57 = .ok (.ishl, 1) := by decide +kernel
theorem d_IP_sumOf_58 : decode b_IP_sumOf 58 = .ok (.ior, 1) := by decide +kernel
theorem d_IP_sumOf_59 : decode b_IP_sumOf 59 = .ok (.istore_n 3, 1) := by decide +kernel
theorem d_IP_sumOf_60 : decode b_IP_sumOf 60 = .ok (.iinc 4 4, 3) := by decide +kernel
theorem d_IP_sumOf_63 : decode b_IP_sumOf 63 = .ok (.goto (-58), 3) := by decide +kernel
theorem d_IP_sumOf_66 : decode b_IP_sumOf 66 = .ok (.iload_n 3, 1) := by decide +kernel
theorem d_IP_sumOf_67 : decode b_IP_sumOf 67 = .ok (.ireturn, 1) := by decide +kernel
theorem d_MI_commonDivisor_0 : decode b_MI_commonDivisor 0 = .ok (.lconst 0, 1) := by decide +kernel
theorem d_MI_commonDivisor_1 : decode b_MI_commonDivisor 1 = .ok (.lstore_n 1, 1) := by decide +kernel
theorem d_MI_commonDivisor_2 : decode b_MI_commonDivisor 2 = .ok (.aload_n 0, 1) := by decide +kernel
theorem d_MI_commonDivisor_3 : decode b_MI_commonDivisor 3 = .ok (.invokevirtual 42, 3) := by decide +kernel
theorem d_MI_commonDivisor_6 : decode b_MI_commonDivisor 6 = .ok (.istore_n 3, 1) := by decide +kernel
theorem d_MI_commonDivisor_7 : decode b_MI_commonDivisor 7 = .ok (.aload_n 0, 1) := by decide +kernel
theorem d_MI_commonDivisor_8 : decode b_MI_commonDivisor 8 = .ok (.invokevirtual 46, 3) := by decide +kernel
theorem d_MI_commonDivisor_11 : decode b_MI_commonDivisor 11 = .ok (.istore 4, 2) := by decide +kernel
theorem d_MI_commonDivisor_13 : decode b_MI_commonDivisor 13 = .ok (.iload 4, 2) := by decide +kernel
theorem d_MI_commonDivisor_15 : decode b_MI_commonDivisor 15 = .ok (.iload_n 3, 1) := by decide +kernel
theorem d_MI_commonDivisor_16 : decode b_MI_commonDivisor 16 = .ok (.if_icmp .ge 28, 3) := by decide +kernel
theorem d_MI_commonDivisor_19 : decode b_MI_commonDivisor 19 = .ok (.lload_n 1, 1) := by decide +kernel
theorem d_MI_commonDivisor_20 : decode b_MI_commonDivisor 20 = .ok (.aload_n 0, 1) := by decide +kernel
theorem d_MI_commonDivisor_21 : decode b_MI_commonDivisor 21 = .ok (.getfield 13, 3) := by decide +kernel
theorem d_MI_commonDivisor_24 : decode b_MI_commonDivisor 24 = .ok (.getstatic 9, 3) := by decide +kernel
theorem d_MI_commonDivisor_27 : decode b_MI_commonDivisor 27 = .ok (.iload 4, 2) := by decide +kernel
theorem d_MI_commonDivisor_29 : decode b_MI_commonDivisor 29 = .ok (.iaload, 1) := by decide +kernel
theorem d_MI_commonDivisor_30 : decode b_MI_commonDivisor 30 = .ok (.laload, 1) := by decide +kernel
theorem d_MI_commonDivisor_31 : decode b_MI_commonDivisor 31 = .ok (.invokestatic 49, 3) := by decide +kernel
theorem d_MI_commonDivisor_34 : decode b_MI_commonDivisor 34 = .ok (.invokestatic 55, 3) := by decide +kernel
theorem d_MI_commonDivisor_37 : decode b_MI_commonDivisor 37 = .ok (.lstore_n 1, 1) := by decide +kernel
theorem d_MI_commonDivisor_38 : decode b_MI_commonDivisor 38 = .ok (.iinc 4 1, 3) := by decide +kernel
theorem d_MI_commonDivisor_41 : decode b_MI_commonDivisor 41 = .ok (.goto (-28), 3) := by decide +kernel
theorem d_MI_commonDivisor_44 : decode b_MI_commonDivisor 44 = .ok (.lload_n 1, 1) := by decide +kernel
theorem d_MI_commonDivisor_45 : decode b_MI_commonDivisor 45 = .ok (.lreturn, 1) := by decide +kernel
theorem d_MI_commonDivisorOf_0 : decode b_MI_commonDivisorOf 0 = .ok (.lload_n 0, 1) := by decide +kernel
theorem d_MI_commonDivisorOf_1 : decode b_MI_commonDivisorOf 1 = .ok (.lstore 4, 2) := by decide +kernel
theorem d_MI_commonDivisorOf_3 : decode b_MI_commonDivisorOf 3 = .ok (.lload_n 2, 1) := by decide +kernel
theorem d_MI_commonDivisorOf_4 : decode b_MI_commonDivisorOf 4 = .ok (.lstore 6, 2) := by decide +kernel
theorem d_MI_commonDivisorOf_6 : decode b_MI_commonDivisorOf 6 = .ok (.iconst 0, 1) := by decide +kernel
theorem d_MI_commonDivisorOf_7 : decode b_MI_commonDivisorOf 7 = .ok (.istore 8, 2) := by decide +kernel
theorem d_MI_commonDivisorOf_9 : decode b_MI_commonDivisorOf 9 = .ok (.iload 8, 2) := by decide +kernel
theorem d_MI_commonDivisorOf_11 : decode b_MI_commonDivisorOf 11 = .ok (.bipush 100, 2) := by decide +kernel
theorem d_MI_commonDivisorOf_13 : decode b_MI_commonDivisorOf 13 = .ok (.if_icmp .ge 31, 3) := by decide +kernel
theorem d_MI_commonDivisorOf_16 : decode b_MI_commonDivisorOf 16 = .ok (.lload 6, 2) := by decide +kernel
theorem d_MI_commonDivisorOf_18 : decode b_MI_commonDivisorOf 18 = .ok (.lconst 0, 1) := by decide +kernel
theorem d_MI_commonDivisorOf_19 : decode b_MI_commonDivisorOf 19 = .ok (.lcmp, 1) := by decide +kernel
theorem d_MI_commonDivisorOf_20 : decode b_MI_commonDivisorOf 20 = .ok (.ifCond .eq 24, 3) := by decide +kernel
theorem d_MI_commonDivisorOf_23 : decode b_MI_commonDivisorOf 23 = .ok (.lload 4, 2) := by decide +kernel
theorem d_MI_commonDivisorOf_25 : decode b_MI_commonDivisorOf 25 = .ok (.lload 6, 2) := by decide +kernel
theorem d_MI_commonDivisorOf_27 : decode b_MI_commonDivisorOf 27 = .ok (.lrem, 1) := by decide +kernel
theorem d_MI_commonDivisorOf_28 : decode b_MI_commonDivisorOf 28 = .ok (.lstore 9, 2) := by decide +kernel
theorem d_MI_commonDivisorOf_30 : decode b_MI_commonDivisorOf 30 = .ok (.lload 6, 2) := by decide +kernel
theorem d_MI_commonDivisorOf_32 : decode b_MI_commonDivisorOf 32 = .ok (.lstore 4, 2) := by decide +kernel
theorem d_MI_commonDivisorOf_34 : decode b_MI_commonDivisorOf 34 = .ok (.lload 9, 2) := by decide +kernel
theorem d_MI_commonDivisorOf_36 : decode b_MI_commonDivisorOf 36 = .ok (.lstore 6, 2) := by decide +kernel
theorem d_MI_commonDivisorOf_38 : decode b_MI_commonDivisorOf 38 = .ok (.iinc 8 1, 3) := by decide +kernel
theorem d_MI_commonDivisorOf_41 : decode b_MI_commonDivisorOf 41 = .ok (.goto (-32), 3) := by decide +kernel
theorem d_MI_commonDivisorOf_44 : decode b_MI_commonDivisorOf 44 = .ok (.lload 4, 2) := by decide +kernel
theorem d_MI_commonDivisorOf_46 : decode b_MI_commonDivisorOf 46 = .ok (.lreturn, 1) := by decide +kernel
theorem d_MI_endOfChoices_0 : decode b_MI_endOfChoices 0 = .ok (.getstatic 39, 3) := by decide +kernel
theorem d_MI_endOfChoices_3 : decode b_MI_endOfChoices 3 = .ok (.aload_n 0, 1) := by decide +kernel
theorem d_MI_endOfChoices_4 : decode b_MI_endOfChoices 4 = .ok (.getfield 22, 3) := by decide +kernel
theorem d_MI_endOfChoices_7 : decode b_MI_endOfChoices 7 = .ok (.iconst 1, 1) := by decide +kernel
theorem d_MI_endOfChoices_8 : decode b_MI_endOfChoices 8 = .ok (.iadd, 1) := by decide +kernel
theorem d_MI_endOfChoices_9 : decode b_MI_endOfChoices 9 = .ok (.iaload, 1) := by decide +kernel
theorem d_MI_endOfChoices_10 : decode b_MI_endOfChoices 10 = .ok (.ireturn, 1) := by decide +kernel
theorem d_MI_fillDirection_0 : decode b_MI_fillDirection 0 = .ok (.aload_n 0, 1) := by decide +kernel
theorem d_MI_fillDirection_1 : decode b_MI_fillDirection 1 = .ok (.invokevirtual 59, 3) := by decide +kernel
theorem d_MI_fillDirection_4 : decode b_MI_fillDirection 4 = .ok (.lstore 4, 2) := by decide +kernel
theorem d_MI_fillDirection_6 : decode b_MI_fillDirection 6 = .ok (.lload 4, 2) := by decide +kernel
theorem d_MI_fillDirection_8 : decode b_MI_fillDirection 8 = .ok (.lconst 0, 1) := by decide +kernel
theorem d_MI_fillDirection_9 : decode b_MI_fillDirection 9 = .ok (.lcmp, 1) := by decide +kernel
theorem d_MI_fillDirection_10 : decode b_MI_fillDirection 10 = .ok (.ifCond .ne 4, 3) := by decide +kernel
theorem d_MI_fillDirection_13 : decode b_MI_fillDirection 13 = .ok (.return_, 1) := by decide +kernel
theorem d_MI_fillDirection_14 : decode b_MI_fillDirection 14 = .ok (.aload_n 1, 1) := by decide +kernel
theorem d_MI_fillDirection_15 : decode b_MI_fillDirection 15 = .ok (.iconst 0, 1) := by decide +kernel
theorem d_MI_fillDirection_16 : decode b_MI_fillDirection 16 = .ok (.invokestatic 63, 3) := by decide +kernel
theorem d_MI_fillDirection_19 : decode b_MI_fillDirection 19 = .ok (.iconst 0, 1) := by decide +kernel
theorem d_MI_fillDirection_20 : decode b_MI_fillDirection 20 = .ok (.istore 6, 2) := by decide +kernel
theorem d_MI_fillDirection_22 : decode b_MI_fillDirection 22 = .ok (.iload 6, 2) := by decide +kernel
theorem d_MI_fillDirection_24 : decode b_MI_fillDirection 24 = .ok (.iload_n 2, 1) := by decide +kernel
theorem d_MI_fillDirection_25 : decode b_MI_fillDirection 25 = .ok (.if_icmp .ge 50, 3) := by decide +kernel
theorem d_MI_fillDirection_28 : decode b_MI_fillDirection 28 = .ok (.aload_n 0, 1) := by decide +kernel
theorem d_MI_fillDirection_29 : decode b_MI_fillDirection 29 = .ok (.getfield 13, 3) := by decide +kernel
theorem d_MI_fillDirection_32 : decode b_MI_fillDirection 32 = .ok (.iload_n 2, 1) := by decide +kernel
theorem d_MI_fillDirection_33 : decode b_MI_fillDirection 33 = .ok (.invokestatic 69, 3) := by decide +kernel
theorem d_MI_fillDirection_36 : decode b_MI_fillDirection 36 = .ok (.iconst 1, 1) := by decide +kernel
theorem d_MI_fillDirection_37 : decode b_MI_fillDirection 37 = .ok (.iload 6, 2) := by decide +kernel
theorem d_MI_fillDirection_39 : decode b_MI_fillDirection 39 = .ok (.ishl, 1) := by decide +kernel
theorem d_MI_fillDirection_40 : decode b_MI_fillDirection 40 = .ok (.ixor, 1) := by decide +kernel
theorem d_MI_fillDirection_41 : decode b_MI_fillDirection 41 = .ok (.laload, 1) := by decide +kernel
theorem d_MI_fillDirection_42 : decode b_MI_fillDirection 42 = .ok (.lload 4, 2) := by decide +kernel
theorem d_MI_fillDirection_44 : decode b_MI_fillDirection 44 = .ok (.ldiv, 1) := by decide +kernel
theorem d_MI_fillDirection_45 : decode b_MI_fillDirection 45 = .ok (.lstore 7, 2) := by decide +kernel
theorem d_MI_fillDirection_47 : decode b_MI_fillDirection 47 = .ok (.aload_n 1, 1) := by decide +kernel
theorem d_MI_fillDirection_48 : decode b_MI_fillDirection 48 = .ok (.iload 6, 2) := by decide +kernel
theorem d_MI_fillDirection_50 : decode b_MI_fillDirection 50 = .ok (.iload 6, 2) := by decide +kernel
theorem d_MI_fillDirection_52 : decode b_MI_fillDirection 52 = .ok (.iconst 2, 1) := by decide +kernel
theorem d_MI_fillDirection_53 : decode b_MI_fillDirection 53 = .ok (.irem, 1) := by decide +kernel
theorem d_MI_fillDirection_54 : decode b_MI_fillDirection 54 = .ok (.ifCond .ne 8, 3) := by decide +kernel
theorem d_MI_fillDirection_57 : decode b_MI_fillDirection 57 = .ok (.lload 7, 2) := by decide +kernel
theorem d_MI_fillDirection_59 : decode b_MI_fillDirection 59 = .ok (.goto 6, 3) := by decide +kernel
theorem d_MI_fillDirection_62 : decode b_MI_fillDirection 62 = .ok (.lload 7, 2) := by decide +kernel
theorem d_MI_fillDirection_64 : decode b_MI_fillDirection 64 = .ok (.lneg, 1) := by decide +kernel
theorem d_MI_fillDirection_65 : decode b_MI_fillDirection 65 = .ok (.l2i, 1) := by decide +kernel
theorem d_MI_fillDirection_66 : decode b_MI_fillDirection 66 = .ok (.iload_n 3, 1) := by decide +kernel
theorem d_MI_fillDirection_67 : decode b_MI_fillDirection 67 = .ok (.imul, 1) := by decide +kernel
theorem d_MI_fillDirection_68 : decode b_MI_fillDirection 68 = .ok (.iastore, 1) := by decide +kernel
theorem d_MI_fillDirection_69 : decode b_MI_fillDirection 69 = .ok (.iinc 6 1, 3) := by decide +kernel
theorem d_MI_fillDirection_72 : decode b_MI_fillDirection 72 = .ok (.goto (-50), 3) := by decide +kernel
theorem d_MI_fillDirection_75 : decode b_MI_fillDirection 75 = .ok (.return_, 1) := by decide +kernel
theorem d_MI_firstChoice_0 : decode b_MI_firstChoice 0 = .ok (.getstatic 39, 3) := by decide +kernel
theorem d_MI_firstChoice_3 : decode b_MI_firstChoice 3 = .ok (.aload_n 0, 1) := by decide +kernel
theorem d_MI_firstChoice_4 : decode b_MI_firstChoice 4 = .ok (.getfield 22, 3) := by decide +kernel
theorem d_MI_firstChoice_7 : decode b_MI_firstChoice 7 = .ok (.iaload, 1) := by decide +kernel
theorem d_MI_firstChoice_8 : decode b_MI_firstChoice 8 = .ok (.ireturn, 1) := by decide +kernel
theorem d_MI_init_0 : decode b_MI_init 0 = .ok (.aload_n 0, 1) := by decide +kernel
theorem d_MI_init_1 : decode b_MI_init 1 = .ok (.invokespecial 3, 3) := by decide +kernel
theorem d_MI_init_4 : decode b_MI_init 4 = .ok (.aload_n 0, 1) := by decide +kernel
theorem d_MI_init_5 : decode b_MI_init 5 = .ok (.getstatic 9, 3) := by decide +kernel
theorem d_MI_init_8 : decode b_MI_init 8 = .ok (.arraylength, 1) := by decide +kernel
theorem d_MI_init_9 : decode b_MI_init 9 = .ok (.newarray .long, 2) := by decide +kernel
theorem d_MI_init_11 : decode b_MI_init 11 = .ok (.putfield 13, 3) := by decide +kernel
theorem d_MI_init_14 : decode b_MI_init 14 = .ok (.aload_n 0, 1) := by decide +kernel
theorem d_MI_init_15 : decode b_MI_init 15 = .ok (.getstatic 9, 3) := by decide +kernel
theorem d_MI_init_18 : decode b_MI_init 18 = .ok (.arraylength, 1) := by decide +kernel
theorem d_MI_init_19 : decode b_MI_init 19 = .ok (.newarray .long, 2) := by decide +kernel
theorem d_MI_init_21 : decode b_MI_init 21 = .ok (.putfield 19, 3) := by decide +kernel
theorem d_MI_init_24 : decode b_MI_init 24 = .ok (.return_, 1) := by decide +kernel
theorem d_MI_join_0 : decode b_MI_join 0 = .ok (.iconst 0, 1) := by decide +kernel
theorem d_MI_join_1 : decode b_MI_join 1 = .ok (.istore_n 3, 1) := by decide +kernel
theorem d_MI_join_2 : decode b_MI_join 2 = .ok (.getstatic 39, 3) := by decide +kernel
theorem d_MI_join_5 : decode b_MI_join 5 = .ok (.aload_n 0, 1) := by decide +kernel
theorem d_MI_join_6 : decode b_MI_join 6 = .ok (.getfield 22, 3) := by decide +kernel
theorem d_MI_join_9 : decode b_MI_join 9 = .ok (.iconst 2, 1) := by decide +kernel
theorem d_MI_join_10 : decode b_MI_join 10 = .ok (.iadd, 1) := by decide +kernel
theorem d_MI_join_11 : decode b_MI_join 11 = .ok (.iaload, 1) := by decide +kernel
theorem d_MI_join_12 : decode b_MI_join 12 = .ok (.istore 4, 2) := by decide +kernel
theorem d_MI_join_14 : decode b_MI_join 14 = .ok (.getstatic 39, 3) := by decide +kernel
theorem d_MI_join_17 : decode b_MI_join 17 = .ok (.aload_n 0, 1) := by decide +kernel
theorem d_MI_join_18 : decode b_MI_join 18 = .ok (.getfield 22, 3) := by decide +kernel
theorem d_MI_join_21 : decode b_MI_join 21 = .ok (.iconst 1, 1) := by decide +kernel
theorem d_MI_join_22 : decode b_MI_join 22 = .ok (.iadd, 1) := by decide +kernel
theorem d_MI_join_23 : decode b_MI_join 23 = .ok (.iaload, 1) := by decide +kernel
theorem d_MI_join_24 : decode b_MI_join 24 = .ok (.istore 5, 2) := by decide +kernel
theorem d_MI_join_26 : decode b_MI_join 26 = .ok (.iload 5, 2) := by decide +kernel
theorem d_MI_join_28 : decode b_MI_join 28 = .ok (.iload 4, 2) := by decide +kernel
theorem d_MI_join_30 : decode b_MI_join 30 = .ok (.if_icmp .ge 112, 3) := by decide +kernel
theorem d_MI_join_33 : decode b_MI_join 33 = .ok (.getstatic 9, 3) := by decide +kernel
theorem d_MI_join_36 : decode b_MI_join 36 = .ok (.iload 5, 2) := by decide +kernel
theorem d_MI_join_38 : decode b_MI_join 38 = .ok (.iaload, 1) := by decide +kernel
theorem d_MI_join_39 : decode b_MI_join 39 = .ok (.istore 6, 2) := by decide +kernel
theorem d_MI_join_41 : decode b_MI_join 41 = .ok (.lconst 0, 1) := by decide +kernel
theorem d_MI_join_42 : decode b_MI_join 42 = .ok (.lstore 7, 2) := by decide +kernel
theorem d_MI_join_44 : decode b_MI_join 44 = .ok (.iconst 1, 1) := by decide +kernel
theorem d_MI_join_45 : decode b_MI_join 45 = .ok (.istore 9, 2) := by decide +kernel
theorem d_MI_join_47 : decode b_MI_join 47 = .ok (.iconst 3, 1) := by decide +kernel
theorem d_MI_join_48 : decode b_MI_join 48 = .ok (.istore 10, 2) := by decide +kernel
theorem d_MI_join_50 : decode b_MI_join 50 = .ok (.iload 10, 2) := by decide +kernel
theorem d_MI_join_52 : decode b_MI_join 52 = .ok (.ifCond .lt 58, 3) := by decide +kernel
theorem d_MI_join_55 : decode b_MI_join 55 = .ok (.iload 6, 2) := by decide +kernel
theorem d_MI_join_57 : decode b_MI_join 57 = .ok (.iload 10, 2) := by decide +kernel
theorem d_MI_join_59 : decode b_MI_join 59 = .ok (.ishr, 1) := by decide +kernel
theorem d_MI_join_60 : decode b_MI_join 60 = .ok (.iconst 1, 1) := by decide +kernel
theorem d_MI_join_61 : decode b_MI_join 61 = .ok (.iand, 1) := by decide +kernel
theorem d_MI_join_62 : decode b_MI_join 62 = .ok (.ifCond .eq 42, 3) := by decide +kernel
theorem d_MI_join_65 : decode b_MI_join 65 = .ok (.lload 7, 2) := by decide +kernel
theorem d_MI_join_67 : decode b_MI_join 67 = .ok (.iload 9, 2) := by decide +kernel
theorem d_MI_join_69 : decode b_MI_join 69 = .ok (.i2l, 1) := by decide +kernel
theorem d_MI_join_70 : decode b_MI_join 70 = .ok (.aload_n 0, 1) := by decide +kernel
theorem d_MI_join_71 : decode b_MI_join 71 = .ok (.getfield 13, 3) := by decide +kernel
theorem d_MI_join_74 : decode b_MI_join 74 = .ok (.iload 6, 2) := by decide +kernel
theorem d_MI_join_76 : decode b_MI_join 76 = .ok (.iconst 1, 1) := by decide +kernel
theorem d_MI_join_77 : decode b_MI_join 77 = .ok (.iload 10, 2) := by decide +kernel
theorem d_MI_join_79 : decode b_MI_join 79 = .ok (.ishl, 1) := by decide +kernel
theorem d_MI_join_80 : decode b_MI_join 80 = .ok (.ixor, 1) := by decide +kernel
theorem d_MI_join_81 : decode b_MI_join 81 = .ok (.laload, 1) := by decide +kernel
theorem d_MI_join_82 : decode b_MI_join 82 = .ok (.lmul, 1) := by decide +kernel
theorem d_MI_join_83 : decode b_MI_join 83 = .ok (.aload_n 1, 1) := by decide +kernel
theorem d_MI_join_84 : decode b_MI_join 84 = .ok (.getfield 73, 3) := by decide +kernel
theorem d_MI_join_87 : decode b_MI_join 87 = .ok (.iload_n 2, 1) := by decide +kernel
theorem d_MI_join_88 : decode b_MI_join 88 = .ok (.iconst 4, 1) := by decide +kernel
theorem d_MI_join_89 : decode b_MI_join 89 = .ok (.imul, 1) := by decide +kernel
theorem d_MI_join_90 : decode b_MI_join 90 = .ok (.iload 10, 2) := by decide +kernel
theorem d_MI_join_92 : decode b_MI_join 92 = .ok (.iadd, 1) := by decide +kernel
theorem d_MI_join_93 : decode b_MI_join 93 = .ok (.iaload, 1) := by decide +kernel
theorem d_MI_join_94 : decode b_MI_join 94 = .ok (.i2l, 1) := by decide +kernel
theorem d_MI_join_95 : decode b_MI_join 95 = .ok (.lmul, 1) := by decide +kernel
theorem d_MI_join_96 : decode b_MI_join 96 = .ok (.ladd, 1) := by decide +kernel
theorem d_MI_join_97 : decode b_MI_join 97 = .ok (.lstore 7, 2) := by decide +kernel
theorem d_MI_join_99 : decode b_MI_join 99 = .ok (.iload 9, 2) := by decide +kernel
theorem d_MI_join_101 : decode b_MI_join 101 = .ok (.ineg, 1) := by decide +kernel
theorem d_MI_join_102 : decode b_MI_join 102 = .ok (.istore 9, 2) := by decide +kernel
theorem d_MI_join_104 : decode b_MI_join 104 = .ok (.iinc 10 (-1), 3) := by decide +kernel
theorem d_MI_join_107 : decode b_MI_join 107 = .ok (.goto (-57), 3) := by decide +kernel
theorem d_MI_join_110 : decode b_MI_join 110 = .ok (.aload_n 0, 1) := by decide +kernel
theorem d_MI_join_111 : decode b_MI_join 111 = .ok (.getfield 19, 3) := by decide +kernel
theorem d_MI_join_114 : decode b_MI_join 114 = .ok (.iload 6, 2) := by decide +kernel
theorem d_MI_join_116 : decode b_MI_join 116 = .ok (.lload 7, 2) := by decide +kernel
theorem d_MI_join_118 : decode b_MI_join 118 = .ok (.lastore, 1) := by decide +kernel
theorem d_MI_join_119 : decode b_MI_join 119 = .ok (.iload_n 3, 1) := by decide +kernel
theorem d_MI_join_120 : decode b_MI_join 120 = .ok (.ifCond .ne 10, 3) := by decide +kernel
theorem d_MI_join_123 : decode b_MI_join 123 = .ok (.lload 7, 2) := by decide +kernel
theorem d_MI_join_125 : decode b_MI_join 125 = .ok (.lconst 0, 1) := by decide +kernel
theorem d_MI_join_126 : decode b_MI_join 126 = .ok (.lcmp, 1) := by decide +kernel
theorem d_MI_join_127 : decode b_MI_join 127 = .ok (.ifCond .eq 7, 3) := by decide +kernel
theorem d_MI_join_130 : decode b_MI_join 130 = .ok (.iconst 1, 1) := by decide +kernel
theorem d_MI_join_131 : decode b_MI_join 131 = .ok (.goto 4, 3) := by decide +kernel
theorem d_MI_join_134 : decode b_MI_join 134 = .ok (.iconst 0, 1) := by decide +kernel
theorem d_MI_join_135 : decode b_MI_join 135 = .ok (.istore_n 3, 1) := by decide +kernel
theorem d_MI_join_136 : decode b_MI_join 136 = .ok (.iinc 5 1, 3) := by decide +kernel
theorem d_MI_join_139 : decode b_MI_join 139 = .ok (.goto (-113), 3) := by decide +kernel
theorem d_MI_join_142 : decode b_MI_join 142 = .ok (.iload_n 3, 1) := by decide +kernel
theorem d_MI_join_143 : decode b_MI_join 143 = .ok (.ifCond .eq 33, 3) := by decide +kernel
theorem d_MI_join_146 : decode b_MI_join 146 = .ok (.aload_n 0, 1) := by decide +kernel
theorem d_MI_join_147 : decode b_MI_join 147 = .ok (.getfield 13, 3) := by decide +kernel
theorem d_MI_join_150 : decode b_MI_join 150 = .ok (.astore 5, 2) := by decide +kernel
theorem d_MI_join_152 : decode b_MI_join 152 = .ok (.aload_n 0, 1) := by decide +kernel
theorem d_MI_join_153 : decode b_MI_join 153 = .ok (.aload_n 0, 1) := by decide +kernel
theorem d_MI_join_154 : decode b_MI_join 154 = .ok (.getfield 19, 3) := by decide +kernel
theorem d_MI_join_157 : decode b_MI_join 157 = .ok (.putfield 13, 3) := by decide +kernel
theorem d_MI_join_160 : decode b_MI_join 160 = .ok (.aload_n 0, 1) := by decide +kernel
theorem d_MI_join_161 : decode b_MI_join 161 = .ok (.aload 5, 2) := by decide +kernel
theorem d_MI_join_163 : decode b_MI_join 163 = .ok (.putfield 19, 3) := by decide +kernel
theorem d_MI_join_166 : decode b_MI_join 166 = .ok (.aload_n 0, 1) := by decide +kernel
theorem d_MI_join_167 : decode b_MI_join 167 = .ok (.dup, 1) := by decide +kernel
theorem d_MI_join_168 : decode b_MI_join 168 = .ok (.getfield 22, 3) := by decide +kernel
theorem d_MI_join_171 : decode b_MI_join 171 = .ok (.iconst 1, 1) := by decide +kernel
theorem d_MI_join_172 : decode b_MI_join 172 = .ok (.iadd, 1) := by decide +kernel
theorem d_MI_join_173 : decode b_MI_join 173 = .ok (.putfield 22, 3) := by decide +kernel
theorem d_MI_join_176 : decode b_MI_join 176 = .ok (.return_, 1) := by decide +kernel
theorem d_MI_load_0 : decode b_MI_load 0 = .ok (.aload_n 0, 1) := by decide +kernel
theorem d_MI_load_1 : decode b_MI_load 1 = .ok (.iconst 0, 1) := by decide +kernel
theorem d_MI_load_2 : decode b_MI_load 2 = .ok (.putfield 22, 3) := by decide +kernel
theorem d_MI_load_5 : decode b_MI_load 5 = .ok (.aload_n 0, 1) := by decide +kernel
theorem d_MI_load_6 : decode b_MI_load 6 = .ok (.getfield 13, 3) := by decide +kernel
theorem d_MI_load_9 : decode b_MI_load 9 = .ok (.iconst 0, 1) := by decide +kernel
theorem d_MI_load_10 : decode b_MI_load 10 = .ok (.lconst 1, 1) := by decide +kernel
theorem d_MI_load_11 : decode b_MI_load 11 = .ok (.lastore, 1) := by decide +kernel
theorem d_MI_load_12 : decode b_MI_load 12 = .ok (.iconst 0, 1) := by decide +kernel
theorem d_MI_load_13 : decode b_MI_load 13 = .ok (.istore_n 3, 1) := by decide +kernel
theorem d_MI_load_14 : decode b_MI_load 14 = .ok (.iload_n 3, 1) := by decide +kernel
theorem d_MI_load_15 : decode b_MI_load 15 = .ok (.aload_n 1, 1) := by decide +kernel
theorem d_MI_load_16 : decode b_MI_load 16 = .ok (.getfield 26, 3) := by decide +kernel
theorem d_MI_load_19 : decode b_MI_load 19 = .ok (.if_icmp .ge 31, 3) := by decide +kernel
theorem d_MI_load_22 : decode b_MI_load 22 = .ok (.aload_n 0, 1) := by decide +kernel
theorem d_MI_load_23 : decode b_MI_load 23 = .ok (.getfield 22, 3) := by decide +kernel
theorem d_MI_load_26 : decode b_MI_load 26 = .ok (.iconst 4, 1) := by decide +kernel
theorem d_MI_load_27 : decode b_MI_load 27 = .ok (.if_icmp .ge 23, 3) := by decide +kernel
theorem d_MI_load_30 : decode b_MI_load 30 = .ok (.iload_n 2, 1) := by decide +kernel
theorem d_MI_load_31 : decode b_MI_load 31 = .ok (.iload_n 3, 1) := by decide +kernel
theorem d_MI_load_32 : decode b_MI_load 32 = .ok (.invokestatic 31, 3) := by decide +kernel
theorem d_MI_load_35 : decode b_MI_load 35 = .ok (.ifCond .eq 9, 3) := by decide +kernel
theorem d_MI_load_38 : decode b_MI_load 38 = .ok (.aload_n 0, 1) := by decide +kernel
theorem d_MI_load_39 : decode b_MI_load 39 = .ok (.aload_n 1, 1) := by decide +kernel
theorem d_MI_load_40 : decode b_MI_load 40 = .ok (.iload_n 3, 1) := by decide +kernel
theorem d_MI_load_41 : decode b_MI_load 41 = .ok (.invokevirtual 35, 3) := by decide +kernel
theorem d_MI_load_44 : decode b_MI_load 44 = .ok (.iinc 3 1, 3) := by decide +kernel
theorem d_MI_load_47 : decode b_MI_load 47 = .ok (.goto (-33), 3) := by decide +kernel
theorem d_MI_load_50 : decode b_MI_load 50 = .ok (.aload_n 0, 1) := by decide +kernel
theorem d_MI_load_51 : decode b_MI_load 51 = .ok (.getfield 22, 3) := by decide +kernel
theorem d_MI_load_54 : decode b_MI_load 54 = .ok (.ireturn, 1) := by decide +kernel
theorem d_MI_minor_0 : decode b_MI_minor 0 = .ok (.aload_n 0, 1) := by decide +kernel
theorem d_MI_minor_1 : decode b_MI_minor 1 = .ok (.getfield 13, 3) := by decide +kernel
theorem d_MI_minor_4 : decode b_MI_minor 4 = .ok (.iload_n 1, 1) := by decide +kernel
theorem d_MI_minor_5 : decode b_MI_minor 5 = .ok (.laload, 1) := by decide +kernel
theorem d_MI_minor_6 : decode b_MI_minor 6 = .ok (.lreturn, 1) := by decide +kernel
theorem d_SI_addSimplex_0 : decode b_SI_addSimplex 0 = .ok (.aload_n 0, 1) := by decide +kernel
theorem d_SI_addSimplex_1 : decode b_SI_addSimplex 1 = .ok (.getfield 18, 3) := by decide +kernel
theorem d_SI_addSimplex_4 : decode b_SI_addSimplex 4 = .ok (.bipush 9, 2) := by decide +kernel
theorem d_SI_addSimplex_6 : decode b_SI_addSimplex 6 = .ok (.if_icmp .ge 23, 3) := by decide +kernel
theorem d_SI_addSimplex_9 : decode b_SI_addSimplex 9 = .ok (.aload_n 0, 1) := by decide +kernel
theorem d_SI_addSimplex_10 : decode b_SI_addSimplex 10 = .ok (.getfield 9, 3) := by decide +kernel
theorem d_SI_addSimplex_13 : decode b_SI_addSimplex 13 = .ok (.aload_n 0, 1) := by decide +kernel
theorem d_SI_addSimplex_14 : decode b_SI_addSimplex 14 = .ok (.getfield 18, 3) := by decide +kernel
theorem d_SI_addSimplex_17 : decode b_SI_addSimplex 17 = .ok (.iload_n 1, 1) := by decide +kernel
theorem d_SI_addSimplex_18 : decode b_SI_addSimplex 18 = .ok (.iastore, 1) := by decide +kernel
theorem d_SI_addSimplex_19 : decode b_SI_addSimplex 19 = .ok (.aload_n 0, 1) := by decide +kernel
theorem d_SI_addSimplex_20 : decode b_SI_addSimplex 20 = .ok (.dup, 1) := by decide +kernel
theorem d_SI_addSimplex_21 : decode b_SI_addSimplex 21 = .ok (.getfield 18, 3) := by decide +kernel
theorem d_SI_addSimplex_24 : decode b_SI_addSimplex 24 = .ok (.iconst 1, 1) := by decide +kernel
theorem d_SI_addSimplex_25 : decode b_SI_addSimplex 25 = .ok (.iadd, 1) := by decide +kernel
theorem d_SI_addSimplex_26 : decode b_SI_addSimplex 26 = .ok (.putfield 18, 3) := by decide +kernel
theorem d_SI_addSimplex_29 : decode b_SI_addSimplex 29 = .ok (.return_, 1) := by decide +kernel
theorem d_SI_find_0 : decode b_SI_find 0 = .ok (.aload_n 0, 1) := by decide +kernel
theorem d_SI_find_1 : decode b_SI_find 1 = .ok (.iconst 0, 1) := by decide +kernel
theorem d_SI_find_2 : decode b_SI_find 2 = .ok (.putfield 18, 3) := by decide +kernel
theorem d_SI_find_5 : decode b_SI_find 5 = .ok (.aload_n 0, 1) := by decide +kernel
theorem d_SI_find_6 : decode b_SI_find 6 = .ok (.iconst 0, 1) := by decide +kernel
theorem d_SI_find_7 : decode b_SI_find 7 = .ok (.putfield 22, 3) := by decide +kernel
theorem d_SI_find_10 : decode b_SI_find 10 = .ok (.aload_n 0, 1) := by decide +kernel
theorem d_SI_find_11 : decode b_SI_find 11 = .ok (.iconst 0, 1) := by decide +kernel
theorem d_SI_find_12 : decode b_SI_find 12 = .ok (.iconst 0, 1) := by decide +kernel
theorem d_SI_find_13 : decode b_SI_find 13 = .ok (.invokevirtual 25, 3) := by decide +kernel
theorem d_SI_find_16 : decode b_SI_find 16 = .ok (.iconst 0, 1) := by decide +kernel
theorem d_SI_find_17 : decode b_SI_find 17 = .ok (.istore_n 2, 1) := by decide +kernel
theorem d_SI_find_18 : decode b_SI_find 18 = .ok (.iload_n 2, 1) := by decide +kernel
theorem d_SI_find_19 : decode b_SI_find 19 = .ok (.aload_n 0, 1) := by decide +kernel
theorem d_SI_find_20 : decode b_SI_find 20 = .ok (.getfield 22, 3) := by decide +kernel
theorem d_SI_find_23 : decode b_SI_find 23 = .ok (.if_icmp .ge 65, 3) := by decide +kernel
theorem d_SI_find_26 : decode b_SI_find 26 = .ok (.iload_n 2, 1) := by decide +kernel
theorem d_SI_find_27 : decode b_SI_find 27 = .ok (.bipush 37, 2) := by decide +kernel
theorem d_SI_find_29 : decode b_SI_find 29 = .ok (.if_icmp .ge 59, 3) := by decide +kernel
theorem d_SI_find_32 : decode b_SI_find 32 = .ok (.aload_n 0, 1) := by decide +kernel
theorem d_SI_find_33 : decode b_SI_find 33 = .ok (.getfield 15, 3) := by decide +kernel
theorem d_SI_find_36 : decode b_SI_find 36 = .ok (.iload_n 2, 1) := by decide +kernel
theorem d_SI_find_37 : decode b_SI_find 37 = .ok (.iaload, 1) := by decide +kernel
theorem d_SI_find_38 : decode b_SI_find 38 = .ok (.bipush 8, 2) := by decide +kernel
theorem d_SI_find_40 : decode b_SI_find 40 = .ok (.ishr, 1) := by decide +kernel
theorem d_SI_find_41 : decode b_SI_find 41 = .ok (.istore_n 3, 1) := by decide +kernel
theorem d_SI_find_42 : decode b_SI_find 42 = .ok (.aload_n 0, 1) := by decide +kernel
theorem d_SI_find_43 : decode b_SI_find 43 = .ok (.getfield 15, 3) := by decide +kernel
theorem d_SI_find_46 : decode b_SI_find 46 = .ok (.iload_n 2, 1) := by decide +kernel
theorem d_SI_find_47 : decode b_SI_find 47 = .ok (.iaload, 1) := by decide +kernel
theorem d_SI_find_48 : decode b_SI_find 48 = .ok (.bipush 8, 2) := by decide +kernel
theorem d_SI_find_50 : decode b_SI_find 50 = .ok (.invokestatic 29, 3) := by decide +kernel
theorem d_SI_find_53 : decode b_SI_find 53 = .ok (.iand, 1) := by decide +kernel
theorem d_SI_find_54 : decode b_SI_find 54 = .ok (.istore 4, 2) := by decide +kernel
theorem d_SI_find_56 : decode b_SI_find 56 = .ok (.aload_n 1, 1) := by decide +kernel
theorem d_SI_find_57 : decode b_SI_find 57 = .ok (.getfield 33, 3) := by decide +kernel
theorem d_SI_find_60 : decode b_SI_find 60 = .ok (.iload_n 3, 1) := by decide +kernel
theorem d_SI_find_61 : decode b_SI_find 61 = .ok (.iaload, 1) := by decide +kernel
theorem d_SI_find_62 : decode b_SI_find 62 = .ok (.ifCond .ne 12, 3) := by decide +kernel
theorem d_SI_find_65 : decode b_SI_find 65 = .ok (.aload_n 0, 1) := by decide +kernel
theorem d_SI_find_66 : decode b_SI_find 66 = .ok (.iload 4, 2) := by decide +kernel
theorem d_SI_find_68 : decode b_SI_find 68 = .ok (.invokevirtual 36, 3) := by decide +kernel
theorem d_SI_find_71 : decode b_SI_find 71 = .ok (.goto 11, 3) := by decide +kernel
theorem d_SI_find_74 : decode b_SI_find 74 = .ok (.aload_n 0, 1) := by decide +kernel
theorem d_SI_find_75 : decode b_SI_find 75 = .ok (.aload_n 1, 1) := by decide +kernel
theorem d_SI_find_76 : decode b_SI_find 76 = .ok (.iload_n 3, 1) := by decide +kernel
theorem d_SI_find_77 : decode b_SI_find 77 = .ok (.iload 4, 2) := by decide +kernel
theorem d_SI_find_79 : decode b_SI_find 79 = .ok (.invokevirtual 40, 3) := by decide +kernel
theorem d_SI_find_82 : decode b_SI_find 82 = .ok (.iinc 2 1, 3) := by decide +kernel
theorem d_SI_find_85 : decode b_SI_find 85 = .ok (.goto (-67), 3) := by decide +kernel
theorem d_SI_find_88 : decode b_SI_find 88 = .ok (.return_, 1) := by decide +kernel
theorem d_SI_init_0 : decode b_SI_init 0 = .ok (.aload_n 0, 1) := by decide +kernel
theorem d_SI_init_1 : decode b_SI_init 1 = .ok (.invokespecial 3, 3) := by decide +kernel
theorem d_SI_init_4 : decode b_SI_init 4 = .ok (.aload_n 0, 1) := by decide +kernel
theorem d_SI_init_5 : decode b_SI_init 5 = .ok (.bipush 9, 2) := by decide +kernel
theorem d_SI_init_7 : decode b_SI_init 7 = .ok (.newarray .int, 2) := by decide +kernel
theorem d_SI_init_9 : decode b_SI_init 9 = .ok (.putfield 9, 3) := by decide +kernel
theorem d_SI_init_12 : decode b_SI_init 12 = .ok (.aload_n 0, 1) := by decide +kernel
theorem d_SI_init_13 : decode b_SI_init 13 = .ok (.bipush 37, 2) := by decide +kernel
theorem d_SI_init_15 : decode b_SI_init 15 = .ok (.newarray .int, 2) := by decide +kernel
theorem d_SI_init_17 : decode b_SI_init 17 = .ok (.putfield 15, 3) := by decide +kernel
theorem d_SI_init_20 : decode b_SI_init 20 = .ok (.return_, 1) := by decide +kernel
theorem d_SI_pushCut_0 : decode b_SI_pushCut 0 = .ok (.aload_n 0, 1) := by decide +kernel
theorem d_SI_pushCut_1 : decode b_SI_pushCut 1 = .ok (.getfield 22, 3) := by decide +kernel
theorem d_SI_pushCut_4 : decode b_SI_pushCut 4 = .ok (.bipush 37, 2) := by decide +kernel
theorem d_SI_pushCut_6 : decode b_SI_pushCut 6 = .ok (.if_icmp .ge 28, 3) := by decide +kernel
theorem d_SI_pushCut_9 : decode b_SI_pushCut 9 = .ok (.aload_n 0, 1) := by decide +kernel
theorem d_SI_pushCut_10 : decode b_SI_pushCut 10 = .ok (.getfield 15, 3) := by decide +kernel
theorem d_SI_pushCut_13 : decode b_SI_pushCut 13 = .ok (.aload_n 0, 1) := by decide +kernel
theorem d_SI_pushCut_14 : decode b_SI_pushCut 14 = .ok (.getfield 22, 3) := by decide +kernel
theorem d_SI_pushCut_17 : decode b_SI_pushCut 17 = .ok (.iload_n 1, 1) := by decide +kernel
theorem d_SI_pushCut_18 : decode b_SI_pushCut 18 = .ok (.bipush 8, 2) := by decide +kernel
theorem d_SI_pushCut_20 : decode b_SI_pushCut 20 = .ok (.ishl, 1) := by decide +kernel
theorem d_SI_pushCut_21 : decode b_SI_pushCut 21 = .ok (.iload_n 2, 1) := by decide +kernel
theorem d_SI_pushCut_22 : decode b_SI_pushCut 22 = .ok (.ior, 1) := by decide +kernel
theorem d_SI_pushCut_23 : decode b_SI_pushCut 23 = .ok (.iastore, 1) := by decide +kernel
theorem d_SI_pushCut_24 : decode b_SI_pushCut 24 = .ok (.aload_n 0, 1) := by decide +kernel
theorem d_SI_pushCut_25 : decode b_SI_pushCut 25 = .ok (.dup, 1) := by decide +kernel
theorem d_SI_pushCut_26 : decode b_SI_pushCut 26 = .ok (.getfield 22, 3) := by decide +kernel
theorem d_SI_pushCut_29 : decode b_SI_pushCut 29 = .ok (.iconst 1, 1) := by decide +kernel
theorem d_SI_pushCut_30 : decode b_SI_pushCut 30 = .ok (.iadd, 1) := by decide +kernel
theorem d_SI_pushCut_31 : decode b_SI_pushCut 31 = .ok (.putfield 22, 3) := by decide +kernel
theorem d_SI_pushCut_34 : decode b_SI_pushCut 34 = .ok (.return_, 1) := by decide +kernel
theorem d_SI_pushSides_0 : decode b_SI_pushSides 0 = .ok (.aload_n 1, 1) := by decide +kernel
theorem d_SI_pushSides_1 : decode b_SI_pushSides 1 = .ok (.getfield 33, 3) := by decide +kernel
theorem d_SI_pushSides_4 : decode b_SI_pushSides 4 = .ok (.iload_n 2, 1) := by decide +kernel
theorem d_SI_pushSides_5 : decode b_SI_pushSides 5 = .ok (.iaload, 1) := by decide +kernel
theorem d_SI_pushSides_6 : decode b_SI_pushSides 6 = .ok (.aload_n 1, 1) := by decide +kernel
theorem d_SI_pushSides_7 : decode b_SI_pushSides 7 = .ok (.getfield 33, 3) := by decide +kernel
theorem d_SI_pushSides_10 : decode b_SI_pushSides 10 = .ok (.iload_n 2, 1) := by decide +kernel
theorem d_SI_pushSides_11 : decode b_SI_pushSides 11 = .ok (.iaload, 1) := by decide +kernel
theorem d_SI_pushSides_12 : decode b_SI_pushSides 12 = .ok (.ineg, 1) := by decide +kernel
theorem d_SI_pushSides_13 : decode b_SI_pushSides 13 = .ok (.iand, 1) := by decide +kernel
theorem d_SI_pushSides_14 : decode b_SI_pushSides 14 = .ok (.istore 4, 2) := by decide +kernel
theorem d_SI_pushSides_16 : decode b_SI_pushSides 16 = .ok (.iconst 0, 1) := by decide +kernel
theorem d_SI_pushSides_17 : decode b_SI_pushSides 17 = .ok (.istore 5, 2) := by decide +kernel
theorem d_SI_pushSides_19 : decode b_SI_pushSides 19 = .ok (.iload 5, 2) := by decide +kernel
theorem d_SI_pushSides_21 : decode b_SI_pushSides 21 = .ok (.aload_n 1, 1) := by decide +kernel
theorem d_SI_pushSides_22 : decode b_SI_pushSides 22 = .ok (.getfield 44, 3) := by decide +kernel
theorem d_SI_pushSides_25 : decode b_SI_pushSides 25 = .ok (.if_icmp .ge 31, 3) := by decide +kernel
theorem d_SI_pushSides_28 : decode b_SI_pushSides 28 = .ok (.aload_n 1, 1) := by decide +kernel
theorem d_SI_pushSides_29 : decode b_SI_pushSides 29 = .ok (.iload 5, 2) := by decide +kernel
theorem d_SI_pushSides_31 : decode b_SI_pushSides 31 = .ok (.iload_n 2, 1) := by decide +kernel
theorem d_SI_pushSides_32 : decode b_SI_pushSides 32 = .ok (.iload 4, 2) := by decide +kernel
theorem d_SI_pushSides_34 : decode b_SI_pushSides 34 = .ok (.invokevirtual 45, 3) := by decide +kernel
theorem d_SI_pushSides_37 : decode b_SI_pushSides 37 = .ok (.ifCond .eq 13, 3) := by decide +kernel
theorem d_SI_pushSides_40 : decode b_SI_pushSides 40 = .ok (.aload_n 0, 1) := by decide +kernel
theorem d_SI_pushSides_41 : decode b_SI_pushSides 41 = .ok (.iload 5, 2) := by decide +kernel
theorem d_SI_pushSides_43 : decode b_SI_pushSides 43 = .ok (.iload_n 3, 1) := by decide +kernel
theorem d_SI_pushSides_44 : decode b_SI_pushSides 44 = .ok (.iload 4, 2) := by decide +kernel
theorem d_SI_pushSides_46 : decode b_SI_pushSides 46 = .ok (.ior, 1) := by decide +kernel
theorem d_SI_pushSides_47 : decode b_SI_pushSides 47 = .ok (.invokevirtual 25, 3) := by decide +kernel
theorem d_SI_pushSides_50 : decode b_SI_pushSides 50 = .ok (.iinc 5 1, 3) := by decide +kernel
theorem d_SI_pushSides_53 : decode b_SI_pushSides 53 = .ok (.goto (-34), 3) := by decide +kernel
theorem d_SI_pushSides_56 : decode b_SI_pushSides 56 = .ok (.return_, 1) := by decide +kernel
