-- decode rows, by wip/tools/decodes.py
theorem d_M_across_0 : decode b_M_across 0 = .ok (.lconst 0, 1) := by decide +kernel
theorem d_M_across_1 : decode b_M_across 1 = .ok (.lstore_n 2, 1) := by decide +kernel
theorem d_M_across_2 : decode b_M_across 2 = .ok (.aload_n 0, 1) := by decide +kernel
theorem d_M_across_3 : decode b_M_across 3 = .ok (.iload_n 1, 1) := by decide +kernel
theorem d_M_across_4 : decode b_M_across 4 = .ok (.iconst 0, 1) := by decide +kernel
theorem d_M_across_5 : decode b_M_across 5 = .ok (.invokevirtual 120, 3) := by decide +kernel
theorem d_M_across_8 : decode b_M_across 8 = .ok (.lstore 4, 2) := by decide +kernel
theorem d_M_across_10 : decode b_M_across 10 = .ok (.aload_n 0, 1) := by decide +kernel
theorem d_M_across_11 : decode b_M_across 11 = .ok (.iload_n 1, 1) := by decide +kernel
theorem d_M_across_12 : decode b_M_across 12 = .ok (.iconst 1, 1) := by decide +kernel
theorem d_M_across_13 : decode b_M_across 13 = .ok (.invokevirtual 120, 3) := by decide +kernel
theorem d_M_across_16 : decode b_M_across 16 = .ok (.lstore 6, 2) := by decide +kernel
theorem d_M_across_18 : decode b_M_across 18 = .ok (.aload_n 0, 1) := by decide +kernel
theorem d_M_across_19 : decode b_M_across 19 = .ok (.getfield 39, 3) := by decide +kernel
theorem d_M_across_22 : decode b_M_across 22 = .ok (.iconst 2, 1) := by decide +kernel
theorem d_M_across_23 : decode b_M_across 23 = .ok (.if_icmp .le 12, 3) := by decide +kernel
theorem d_M_across_26 : decode b_M_across 26 = .ok (.aload_n 0, 1) := by decide +kernel
theorem d_M_across_27 : decode b_M_across 27 = .ok (.iload_n 1, 1) := by decide +kernel
theorem d_M_across_28 : decode b_M_across 28 = .ok (.iconst 2, 1) := by decide +kernel
theorem d_M_across_29 : decode b_M_across 29 = .ok (.invokevirtual 120, 3) := by decide +kernel
theorem d_M_across_32 : decode b_M_across 32 = .ok (.goto 4, 3) := by decide +kernel
theorem d_M_across_35 : decode b_M_across 35 = .ok (.lconst 0, 1) := by decide +kernel
theorem d_M_across_36 : decode b_M_across 36 = .ok (.lstore 8, 2) := by decide +kernel
theorem d_M_across_38 : decode b_M_across 38 = .ok (.aload_n 0, 1) := by decide +kernel
theorem d_M_across_39 : decode b_M_across 39 = .ok (.getfield 39, 3) := by decide +kernel
theorem d_M_across_42 : decode b_M_across 42 = .ok (.iconst 3, 1) := by decide +kernel
theorem d_M_across_43 : decode b_M_across 43 = .ok (.if_icmp .le 12, 3) := by decide +kernel
theorem d_M_across_46 : decode b_M_across 46 = .ok (.aload_n 0, 1) := by decide +kernel
theorem d_M_across_47 : decode b_M_across 47 = .ok (.iload_n 1, 1) := by decide +kernel
theorem d_M_across_48 : decode b_M_across 48 = .ok (.iconst 3, 1) := by decide +kernel
theorem d_M_across_49 : decode b_M_across 49 = .ok (.invokevirtual 120, 3) := by decide +kernel
theorem d_M_across_52 : decode b_M_across 52 = .ok (.goto 4, 3) := by decide +kernel
theorem d_M_across_55 : decode b_M_across 55 = .ok (.lconst 0, 1) := by decide +kernel
theorem d_M_across_56 : decode b_M_across 56 = .ok (.lstore 10, 2) := by decide +kernel
theorem d_M_across_58 : decode b_M_across 58 = .ok (.lload 4, 2) := by decide +kernel
theorem d_M_across_60 : decode b_M_across 60 = .ok (.lload 6, 2) := by decide +kernel
theorem d_M_across_62 : decode b_M_across 62 = .ok (.invokestatic 73, 3) := by decide +kernel
theorem d_M_across_65 : decode b_M_across 65 = .ok (.lload 8, 2) := by decide +kernel
theorem d_M_across_67 : decode b_M_across 67 = .ok (.lload 10, 2) := by decide +kernel
theorem d_M_across_69 : decode b_M_across 69 = .ok (.invokestatic 73, 3) := by decide +kernel
theorem d_M_across_72 : decode b_M_across 72 = .ok (.invokestatic 73, 3) := by decide +kernel
theorem d_M_across_75 : decode b_M_across 75 = .ok (.lstore_n 2, 1) := by decide +kernel
theorem d_M_across_76 : decode b_M_across 76 = .ok (.iconst (-1), 1) := by decide +kernel
theorem d_M_across_77 : decode b_M_across 77 = .ok (.istore 12, 2) := by decide +kernel
theorem d_M_across_79 : decode b_M_across 79 = .ok (.iload 12, 2) := by decide +kernel
theorem d_M_across_81 : decode b_M_across 81 = .ok (.iconst 2, 1) := by decide +kernel
theorem d_M_across_82 : decode b_M_across 82 = .ok (.if_icmp .ge 71, 3) := by decide +kernel
theorem d_M_across_85 : decode b_M_across 85 = .ok (.lload_n 2, 1) := by decide +kernel
theorem d_M_across_86 : decode b_M_across 86 = .ok (.lconst 0, 1) := by decide +kernel
theorem d_M_across_87 : decode b_M_across 87 = .ok (.lcmp, 1) := by decide +kernel
theorem d_M_across_88 : decode b_M_across 88 = .ok (.ifCond .le 65, 3) := by decide +kernel
theorem d_M_across_91 : decode b_M_across 91 = .ok (.aload_n 0, 1) := by decide +kernel
theorem d_M_across_92 : decode b_M_across 92 = .ok (.iload 12, 2) := by decide +kernel
theorem d_M_across_94 : decode b_M_across 94 = .ok (.i2l, 1) := by decide +kernel
theorem d_M_across_95 : decode b_M_across 95 = .ok (.lload 4, 2) := by decide +kernel
theorem d_M_across_97 : decode b_M_across 97 = .ok (.lmul, 1) := by decide +kernel
theorem d_M_across_98 : decode b_M_across 98 = .ok (.lload_n 2, 1) := by decide +kernel
theorem d_M_across_99 : decode b_M_across 99 = .ok (.ldiv, 1) := by decide +kernel
theorem d_M_across_100 : decode b_M_across 100 = .ok (.l2i, 1) := by decide +kernel
theorem d_M_across_101 : decode b_M_across 101 = .ok (.iload 12, 2) := by decide +kernel
theorem d_M_across_103 : decode b_M_across 103 = .ok (.i2l, 1) := by decide +kernel
theorem d_M_across_104 : decode b_M_across 104 = .ok (.lload 6, 2) := by decide +kernel
theorem d_M_across_106 : decode b_M_across 106 = .ok (.lmul, 1) := by decide +kernel
theorem d_M_across_107 : decode b_M_across 107 = .ok (.lload_n 2, 1) := by decide +kernel
theorem d_M_across_108 : decode b_M_across 108 = .ok (.ldiv, 1) := by decide +kernel
theorem d_M_across_109 : decode b_M_across 109 = .ok (.l2i, 1) := by decide +kernel
theorem d_M_across_110 : decode b_M_across 110 = .ok (.iload 12, 2) := by decide +kernel
theorem d_M_across_112 : decode b_M_across 112 = .ok (.i2l, 1) := by decide +kernel
theorem d_M_across_113 : decode b_M_across 113 = .ok (.lload 8, 2) := by decide +kernel
theorem d_M_across_115 : decode b_M_across 115 = .ok (.lmul, 1) := by decide +kernel
theorem d_M_across_116 : decode b_M_across 116 = .ok (.lload_n 2, 1) := by decide +kernel
theorem d_M_across_117 : decode b_M_across 117 = .ok (.ldiv, 1) := by decide +kernel
theorem d_M_across_118 : decode b_M_across 118 = .ok (.l2i, 1) := by decide +kernel
theorem d_M_across_119 : decode b_M_across 119 = .ok (.iload 12, 2) := by decide +kernel
theorem d_M_across_121 : decode b_M_across 121 = .ok (.i2l, 1) := by decide +kernel
theorem d_M_across_122 : decode b_M_across 122 = .ok (.lload 10, 2) := by decide +kernel
theorem d_M_across_124 : decode b_M_across 124 = .ok (.lmul, 1) := by decide +kernel
theorem d_M_across_125 : decode b_M_across 125 = .ok (.lload_n 2, 1) := by decide +kernel
theorem d_M_across_126 : decode b_M_across 126 = .ok (.ldiv, 1) := by decide +kernel
theorem d_M_across_127 : decode b_M_across 127 = .ok (.l2i, 1) := by decide +kernel
theorem d_M_across_128 : decode b_M_across 128 = .ok (.invokevirtual 50, 3) := by decide +kernel
theorem d_M_across_131 : decode b_M_across 131 = .ok (.aload_n 0, 1) := by decide +kernel
theorem d_M_across_132 : decode b_M_across 132 = .ok (.aload_n 0, 1) := by decide +kernel
theorem d_M_across_133 : decode b_M_across 133 = .ok (.getfield 33, 3) := by decide +kernel
theorem d_M_across_136 : decode b_M_across 136 = .ok (.iconst 0, 1) := by decide +kernel
theorem d_M_across_137 : decode b_M_across 137 = .ok (.invokevirtual 124, 3) := by decide +kernel
theorem d_M_across_140 : decode b_M_across 140 = .ok (.ifCond .eq 7, 3) := by decide +kernel
theorem d_M_across_143 : decode b_M_across 143 = .ok (.aload_n 0, 1) := by decide +kernel
theorem d_M_across_144 : decode b_M_across 144 = .ok (.invokevirtual 128, 3) := by decide +kernel
theorem d_M_across_147 : decode b_M_across 147 = .ok (.iinc 12 2, 3) := by decide +kernel
theorem d_M_across_150 : decode b_M_across 150 = .ok (.goto (-71), 3) := by decide +kernel
theorem d_M_across_153 : decode b_M_across 153 = .ok (.return_, 1) := by decide +kernel
theorem d_M_add_0 : decode b_M_add 0 = .ok (.aload_n 0, 1) := by decide +kernel
theorem d_M_add_1 : decode b_M_add 1 = .ok (.iload_n 1, 1) := by decide +kernel
theorem d_M_add_2 : decode b_M_add 2 = .ok (.iload_n 2, 1) := by decide +kernel
theorem d_M_add_3 : decode b_M_add 3 = .ok (.iload_n 3, 1) := by decide +kernel
theorem d_M_add_4 : decode b_M_add 4 = .ok (.iload 4, 2) := by decide +kernel
theorem d_M_add_6 : decode b_M_add 6 = .ok (.invokevirtual 50, 3) := by decide +kernel
theorem d_M_add_9 : decode b_M_add 9 = .ok (.aload_n 0, 1) := by decide +kernel
theorem d_M_add_10 : decode b_M_add 10 = .ok (.aload_n 0, 1) := by decide +kernel
theorem d_M_add_11 : decode b_M_add 11 = .ok (.iconst 5, 1) := by decide +kernel
theorem d_M_add_12 : decode b_M_add 12 = .ok (.invokevirtual 54, 3) := by decide +kernel
theorem d_M_add_15 : decode b_M_add 15 = .ok (.ifCond .eq 10, 3) := by decide +kernel
theorem d_M_add_18 : decode b_M_add 18 = .ok (.aload_n 0, 1) := by decide +kernel
theorem d_M_add_19 : decode b_M_add 19 = .ok (.invokevirtual 58, 3) := by decide +kernel
theorem d_M_add_22 : decode b_M_add 22 = .ok (.ifCond .eq 7, 3) := by decide +kernel
theorem d_M_add_25 : decode b_M_add 25 = .ok (.iconst 1, 1) := by decide +kernel
theorem d_M_add_26 : decode b_M_add 26 = .ok (.goto 17, 3) := by decide +kernel
theorem d_M_add_29 : decode b_M_add 29 = .ok (.aload_n 0, 1) := by decide +kernel
theorem d_M_add_30 : decode b_M_add 30 = .ok (.getfield 62, 3) := by decide +kernel
theorem d_M_add_33 : decode b_M_add 33 = .ok (.bipush 8, 2) := by decide +kernel
theorem d_M_add_35 : decode b_M_add 35 = .ok (.if_icmp .ne 7, 3) := by decide +kernel
theorem d_M_add_38 : decode b_M_add 38 = .ok (.iconst 2, 1) := by decide +kernel
theorem d_M_add_39 : decode b_M_add 39 = .ok (.goto 4, 3) := by decide +kernel
theorem d_M_add_42 : decode b_M_add 42 = .ok (.iconst 0, 1) := by decide +kernel
theorem d_M_add_43 : decode b_M_add 43 = .ok (.putfield 43, 3) := by decide +kernel
theorem d_M_add_46 : decode b_M_add 46 = .ok (.aload_n 0, 1) := by decide +kernel
theorem d_M_add_47 : decode b_M_add 47 = .ok (.getfield 43, 3) := by decide +kernel
theorem d_M_add_50 : decode b_M_add 50 = .ok (.ifCond .le 5, 3) := by decide +kernel
theorem d_M_add_53 : decode b_M_add 53 = .ok (.iconst 0, 1) := by decide +kernel
theorem d_M_add_54 : decode b_M_add 54 = .ok (.ireturn, 1) := by decide +kernel
theorem d_M_add_55 : decode b_M_add 55 = .ok (.iconst 0, 1) := by decide +kernel
theorem d_M_add_56 : decode b_M_add 56 = .ok (.istore 5, 2) := by decide +kernel
theorem d_M_add_58 : decode b_M_add 58 = .ok (.iload 5, 2) := by decide +kernel
theorem d_M_add_60 : decode b_M_add 60 = .ok (.iconst 4, 1) := by decide +kernel
theorem d_M_add_61 : decode b_M_add 61 = .ok (.if_icmp .ge 30, 3) := by decide +kernel
theorem d_M_add_64 : decode b_M_add 64 = .ok (.aload_n 0, 1) := by decide +kernel
theorem d_M_add_65 : decode b_M_add 65 = .ok (.getfield 7, 3) := by decide +kernel
theorem d_M_add_68 : decode b_M_add 68 = .ok (.iconst 4, 1) := by decide +kernel
theorem d_M_add_69 : decode b_M_add 69 = .ok (.aload_n 0, 1) := by decide +kernel
theorem d_M_add_70 : decode b_M_add 70 = .ok (.getfield 62, 3) := by decide +kernel
theorem d_M_add_73 : decode b_M_add 73 = .ok (.imul, 1) := by decide +kernel
theorem d_M_add_74 : decode b_M_add 74 = .ok (.iload 5, 2) := by decide +kernel
theorem d_M_add_76 : decode b_M_add 76 = .ok (.iadd, 1) := by decide +kernel
theorem d_M_add_77 : decode b_M_add 77 = .ok (.aload_n 0, 1) := by decide +kernel
theorem d_M_add_78 : decode b_M_add 78 = .ok (.getfield 33, 3) := by decide +kernel
theorem d_M_add_81 : decode b_M_add 81 = .ok (.iload 5, 2) := by decide +kernel
theorem d_M_add_83 : decode b_M_add 83 = .ok (.iaload, 1) := by decide +kernel
theorem d_M_add_84 : decode b_M_add 84 = .ok (.iastore, 1) := by decide +kernel
theorem d_M_add_85 : decode b_M_add 85 = .ok (.iinc 5 1, 3) := by decide +kernel
theorem d_M_add_88 : decode b_M_add 88 = .ok (.goto (-30), 3) := by decide +kernel
theorem d_M_add_91 : decode b_M_add 91 = .ok (.aload_n 0, 1) := by decide +kernel
theorem d_M_add_92 : decode b_M_add 92 = .ok (.dup, 1) := by decide +kernel
theorem d_M_add_93 : decode b_M_add 93 = .ok (.getfield 62, 3) := by decide +kernel
theorem d_M_add_96 : decode b_M_add 96 = .ok (.iconst 1, 1) := by decide +kernel
theorem d_M_add_97 : decode b_M_add 97 = .ok (.iadd, 1) := by decide +kernel
theorem d_M_add_98 : decode b_M_add 98 = .ok (.putfield 62, 3) := by decide +kernel
theorem d_M_add_101 : decode b_M_add 101 = .ok (.aload_n 0, 1) := by decide +kernel
theorem d_M_add_102 : decode b_M_add 102 = .ok (.iconst 0, 1) := by decide +kernel
theorem d_M_add_103 : decode b_M_add 103 = .ok (.putfield 65, 3) := by decide +kernel
theorem d_M_add_106 : decode b_M_add 106 = .ok (.aload_n 0, 1) := by decide +kernel
theorem d_M_add_107 : decode b_M_add 107 = .ok (.getfield 62, 3) := by decide +kernel
theorem d_M_add_110 : decode b_M_add 110 = .ok (.iconst 1, 1) := by decide +kernel
theorem d_M_add_111 : decode b_M_add 111 = .ok (.isub, 1) := by decide +kernel
theorem d_M_add_112 : decode b_M_add 112 = .ok (.ireturn, 1) := by decide +kernel
theorem d_M_based_0 : decode b_M_based 0 = .ok (.aload_n 0, 1) := by decide +kernel
theorem d_M_based_1 : decode b_M_based 1 = .ok (.iload_n 1, 1) := by decide +kernel
theorem d_M_based_2 : decode b_M_based 2 = .ok (.invokevirtual 160, 3) := by decide +kernel
theorem d_M_based_5 : decode b_M_based 5 = .ok (.ifCond .ne 5, 3) := by decide +kernel
theorem d_M_based_8 : decode b_M_based 8 = .ok (.iconst 0, 1) := by decide +kernel
theorem d_M_based_9 : decode b_M_based 9 = .ok (.ireturn, 1) := by decide +kernel
theorem d_M_based_10 : decode b_M_based 10 = .ok (.aload_n 0, 1) := by decide +kernel
theorem d_M_based_11 : decode b_M_based 11 = .ok (.aload_n 0, 1) := by decide +kernel
theorem d_M_based_12 : decode b_M_based 12 = .ok (.getfield 98, 3) := by decide +kernel
theorem d_M_based_15 : decode b_M_based 15 = .ok (.ifCond .eq 7, 3) := by decide +kernel
theorem d_M_based_18 : decode b_M_based 18 = .ok (.iload_n 1, 1) := by decide +kernel
theorem d_M_based_19 : decode b_M_based 19 = .ok (.goto 4, 3) := by decide +kernel
theorem d_M_based_22 : decode b_M_based 22 = .ok (.iconst 0, 1) := by decide +kernel
theorem d_M_based_23 : decode b_M_based 23 = .ok (.putfield 43, 3) := by decide +kernel
theorem d_M_based_26 : decode b_M_based 26 = .ok (.aload_n 0, 1) := by decide +kernel
theorem d_M_based_27 : decode b_M_based 27 = .ok (.getfield 98, 3) := by decide +kernel
theorem d_M_based_30 : decode b_M_based 30 = .ok (.ifCond .ne 7, 3) := by decide +kernel
theorem d_M_based_33 : decode b_M_based 33 = .ok (.aload_n 0, 1) := by decide +kernel
theorem d_M_based_34 : decode b_M_based 34 = .ok (.invokevirtual 163, 3) := by decide +kernel
theorem d_M_based_37 : decode b_M_based 37 = .ok (.aload_n 0, 1) := by decide +kernel
theorem d_M_based_38 : decode b_M_based 38 = .ok (.getfield 98, 3) := by decide +kernel
theorem d_M_based_41 : decode b_M_based 41 = .ok (.ifCond .ne 7, 3) := by decide +kernel
theorem d_M_based_44 : decode b_M_based 44 = .ok (.iconst 1, 1) := by decide +kernel
theorem d_M_based_45 : decode b_M_based 45 = .ok (.goto 4, 3) := by decide +kernel
theorem d_M_based_48 : decode b_M_based 48 = .ok (.iconst 0, 1) := by decide +kernel
theorem d_M_based_49 : decode b_M_based 49 = .ok (.ireturn, 1) := by decide +kernel
theorem d_M_basis_0 : decode b_M_basis 0 = .ok (.aload_n 0, 1) := by decide +kernel
theorem d_M_basis_1 : decode b_M_basis 1 = .ok (.iconst 1, 1) := by decide +kernel
theorem d_M_basis_2 : decode b_M_basis 2 = .ok (.invokevirtual 160, 3) := by decide +kernel
theorem d_M_basis_5 : decode b_M_basis 5 = .ok (.ifCond .ne 5, 3) := by decide +kernel
theorem d_M_basis_8 : decode b_M_basis 8 = .ok (.iconst 0, 1) := by decide +kernel
theorem d_M_basis_9 : decode b_M_basis 9 = .ok (.ireturn, 1) := by decide +kernel
theorem d_M_basis_10 : decode b_M_basis 10 = .ok (.aload_n 0, 1) := by decide +kernel
theorem d_M_basis_11 : decode b_M_basis 11 = .ok (.getfield 98, 3) := by decide +kernel
theorem d_M_basis_14 : decode b_M_basis 14 = .ok (.ifCond .eq 5, 3) := by decide +kernel
theorem d_M_basis_17 : decode b_M_basis 17 = .ok (.iconst (-1), 1) := by decide +kernel
theorem d_M_basis_18 : decode b_M_basis 18 = .ok (.ireturn, 1) := by decide +kernel
theorem d_M_basis_19 : decode b_M_basis 19 = .ok (.aload_n 0, 1) := by decide +kernel
theorem d_M_basis_20 : decode b_M_basis 20 = .ok (.invokevirtual 163, 3) := by decide +kernel
theorem d_M_basis_23 : decode b_M_basis 23 = .ok (.aload_n 0, 1) := by decide +kernel
theorem d_M_basis_24 : decode b_M_basis 24 = .ok (.getfield 147, 3) := by decide +kernel
theorem d_M_basis_27 : decode b_M_basis 27 = .ok (.ireturn, 1) := by decide +kernel
theorem d_M_bounds_0 : decode b_M_bounds 0 = .ok (.aload_n 0, 1) := by decide +kernel
theorem d_M_bounds_1 : decode b_M_bounds 1 = .ok (.iconst 1, 1) := by decide +kernel
theorem d_M_bounds_2 : decode b_M_bounds 2 = .ok (.invokevirtual 160, 3) := by decide +kernel
theorem d_M_bounds_5 : decode b_M_bounds 5 = .ok (.ifCond .ne 5, 3) := by decide +kernel
theorem d_M_bounds_8 : decode b_M_bounds 8 = .ok (.iconst 0, 1) := by decide +kernel
theorem d_M_bounds_9 : decode b_M_bounds 9 = .ok (.ireturn, 1) := by decide +kernel
theorem d_M_bounds_10 : decode b_M_bounds 10 = .ok (.aload_n 0, 1) := by decide +kernel
theorem d_M_bounds_11 : decode b_M_bounds 11 = .ok (.iload_n 1, 1) := by decide +kernel
theorem d_M_bounds_12 : decode b_M_bounds 12 = .ok (.ifCond .lt 11, 3) := by decide +kernel
theorem d_M_bounds_15 : decode b_M_bounds 15 = .ok (.iload_n 1, 1) := by decide +kernel
theorem d_M_bounds_16 : decode b_M_bounds 16 = .ok (.aload_n 0, 1) := by decide +kernel
theorem d_M_bounds_17 : decode b_M_bounds 17 = .ok (.getfield 62, 3) := by decide +kernel
theorem d_M_bounds_20 : decode b_M_bounds 20 = .ok (.if_icmp .lt 7, 3) := by decide +kernel
theorem d_M_bounds_23 : decode b_M_bounds 23 = .ok (.iconst 2, 1) := by decide +kernel
theorem d_M_bounds_24 : decode b_M_bounds 24 = .ok (.goto 4, 3) := by decide +kernel
theorem d_M_bounds_27 : decode b_M_bounds 27 = .ok (.iconst 0, 1) := by decide +kernel
theorem d_M_bounds_28 : decode b_M_bounds 28 = .ok (.putfield 43, 3) := by decide +kernel
theorem d_M_bounds_31 : decode b_M_bounds 31 = .ok (.aload_n 0, 1) := by decide +kernel
theorem d_M_bounds_32 : decode b_M_bounds 32 = .ok (.getfield 43, 3) := by decide +kernel
theorem d_M_bounds_35 : decode b_M_bounds 35 = .ok (.ifCond .gt 22, 3) := by decide +kernel
theorem d_M_bounds_38 : decode b_M_bounds 38 = .ok (.aload_n 0, 1) := by decide +kernel
theorem d_M_bounds_39 : decode b_M_bounds 39 = .ok (.aload_n 0, 1) := by decide +kernel
theorem d_M_bounds_40 : decode b_M_bounds 40 = .ok (.getfield 16, 3) := by decide +kernel
theorem d_M_bounds_43 : decode b_M_bounds 43 = .ok (.iload_n 1, 1) := by decide +kernel
theorem d_M_bounds_44 : decode b_M_bounds 44 = .ok (.iaload, 1) := by decide +kernel
theorem d_M_bounds_45 : decode b_M_bounds 45 = .ok (.invokevirtual 111, 3) := by decide +kernel
theorem d_M_bounds_48 : decode b_M_bounds 48 = .ok (.aload_n 0, 1) := by decide +kernel
theorem d_M_bounds_49 : decode b_M_bounds 49 = .ok (.getfield 101, 3) := by decide +kernel
theorem d_M_bounds_52 : decode b_M_bounds 52 = .ok (.iconst 1, 1) := by decide +kernel
theorem d_M_bounds_53 : decode b_M_bounds 53 = .ok (.isub, 1) := by decide +kernel
theorem d_M_bounds_54 : decode b_M_bounds 54 = .ok (.if_icmp .eq 5, 3) := by decide +kernel
theorem d_M_bounds_57 : decode b_M_bounds 57 = .ok (.iconst 0, 1) := by decide +kernel
theorem d_M_bounds_58 : decode b_M_bounds 58 = .ok (.ireturn, 1) := by decide +kernel
theorem d_M_bounds_59 : decode b_M_bounds 59 = .ok (.iconst 1, 1) := by decide +kernel
theorem d_M_bounds_60 : decode b_M_bounds 60 = .ok (.istore_n 2, 1) := by decide +kernel
theorem d_M_bounds_61 : decode b_M_bounds 61 = .ok (.iconst 0, 1) := by decide +kernel
theorem d_M_bounds_62 : decode b_M_bounds 62 = .ok (.istore_n 3, 1) := by decide +kernel
theorem d_M_bounds_63 : decode b_M_bounds 63 = .ok (.iload_n 3, 1) := by decide +kernel
theorem d_M_bounds_64 : decode b_M_bounds 64 = .ok (.iload_n 1, 1) := by decide +kernel
theorem d_M_bounds_65 : decode b_M_bounds 65 = .ok (.if_icmp .ge 34, 3) := by decide +kernel
theorem d_M_bounds_68 : decode b_M_bounds 68 = .ok (.iload_n 2, 1) := by decide +kernel
theorem d_M_bounds_69 : decode b_M_bounds 69 = .ok (.ifCond .eq 22, 3) := by decide +kernel
theorem d_M_bounds_72 : decode b_M_bounds 72 = .ok (.aload_n 0, 1) := by decide +kernel
theorem d_M_bounds_73 : decode b_M_bounds 73 = .ok (.getfield 16, 3) := by decide +kernel
theorem d_M_bounds_76 : decode b_M_bounds 76 = .ok (.iload_n 3, 1) := by decide +kernel
theorem d_M_bounds_77 : decode b_M_bounds 77 = .ok (.iaload, 1) := by decide +kernel
theorem d_M_bounds_78 : decode b_M_bounds 78 = .ok (.aload_n 0, 1) := by decide +kernel
theorem d_M_bounds_79 : decode b_M_bounds 79 = .ok (.getfield 16, 3) := by decide +kernel
theorem d_M_bounds_82 : decode b_M_bounds 82 = .ok (.iload_n 1, 1) := by decide +kernel
theorem d_M_bounds_83 : decode b_M_bounds 83 = .ok (.iaload, 1) := by decide +kernel
theorem d_M_bounds_84 : decode b_M_bounds 84 = .ok (.if_icmp .eq 7, 3) := by decide +kernel
theorem d_M_bounds_87 : decode b_M_bounds 87 = .ok (.iconst 1, 1) := by decide +kernel
theorem d_M_bounds_88 : decode b_M_bounds 88 = .ok (.goto 4, 3) := by decide +kernel
theorem d_M_bounds_91 : decode b_M_bounds 91 = .ok (.iconst 0, 1) := by decide +kernel
theorem d_M_bounds_92 : decode b_M_bounds 92 = .ok (.istore_n 2, 1) := by decide +kernel
theorem d_M_bounds_93 : decode b_M_bounds 93 = .ok (.iinc 3 1, 3) := by decide +kernel
theorem d_M_bounds_96 : decode b_M_bounds 96 = .ok (.goto (-33), 3) := by decide +kernel
theorem d_M_bounds_99 : decode b_M_bounds 99 = .ok (.iload_n 2, 1) := by decide +kernel
theorem d_M_bounds_100 : decode b_M_bounds 100 = .ok (.ireturn, 1) := by decide +kernel
theorem d_M_box_0 : decode b_M_box 0 = .ok (.lload_n 1, 1) := by decide +kernel
theorem d_M_box_1 : decode b_M_box 1 = .ok (.l2i, 1) := by decide +kernel
theorem d_M_box_2 : decode b_M_box 2 = .ok (.istore_n 3, 1) := by decide +kernel
theorem d_M_box_3 : decode b_M_box 3 = .ok (.iload_n 3, 1) := by decide +kernel
theorem d_M_box_4 : decode b_M_box 4 = .ok (.ifCond .ne 7, 3) := by decide +kernel
theorem d_M_box_7 : decode b_M_box 7 = .ok (.iconst 0, 1) := by decide +kernel
theorem d_M_box_8 : decode b_M_box 8 = .ok (.goto 4, 3) := by decide +kernel
theorem d_M_box_11 : decode b_M_box 11 = .ok (.iconst 1, 1) := by decide +kernel
theorem d_M_box_12 : decode b_M_box 12 = .ok (.istore 4, 2) := by decide +kernel
theorem d_M_box_14 : decode b_M_box 14 = .ok (.iconst 0, 1) := by decide +kernel
theorem d_M_box_15 : decode b_M_box 15 = .ok (.istore 5, 2) := by decide +kernel
theorem d_M_box_17 : decode b_M_box 17 = .ok (.iload 5, 2) := by decide +kernel
theorem d_M_box_19 : decode b_M_box 19 = .ok (.aload_n 0, 1) := by decide +kernel
theorem d_M_box_20 : decode b_M_box 20 = .ok (.getfield 101, 3) := by decide +kernel
theorem d_M_box_23 : decode b_M_box 23 = .ok (.if_icmp .ge 15, 3) := by decide +kernel
theorem d_M_box_26 : decode b_M_box 26 = .ok (.iload 4, 2) := by decide +kernel
theorem d_M_box_28 : decode b_M_box 28 = .ok (.iload_n 3, 1) := by decide +kernel
theorem d_M_box_29 : decode b_M_box 29 = .ok (.imul, 1) := by decide +kernel
theorem d_M_box_30 : decode b_M_box 30 = .ok (.istore 4, 2) := by decide +kernel
theorem d_M_box_32 : decode b_M_box 32 = .ok (.iinc 5 1, 3) := by decide +kernel
theorem d_M_box_35 : decode b_M_box 35 = .ok (.goto (-18), 3) := by decide +kernel
theorem d_M_box_38 : decode b_M_box 38 = .ok (.iconst 1, 1) := by decide +kernel
theorem d_M_box_39 : decode b_M_box 39 = .ok (.istore 5, 2) := by decide +kernel
theorem d_M_box_41 : decode b_M_box 41 = .ok (.iload 5, 2) := by decide +kernel
theorem d_M_box_43 : decode b_M_box 43 = .ok (.iload 4, 2) := by decide +kernel
theorem d_M_box_45 : decode b_M_box 45 = .ok (.if_icmp .ge 156, 3) := by decide +kernel
theorem d_M_box_48 : decode b_M_box 48 = .ok (.iload 5, 2) := by decide +kernel
theorem d_M_box_50 : decode b_M_box 50 = .ok (.istore 6, 2) := by decide +kernel
theorem d_M_box_52 : decode b_M_box 52 = .ok (.iconst 0, 1) := by decide +kernel
theorem d_M_box_53 : decode b_M_box 53 = .ok (.istore 7, 2) := by decide +kernel
theorem d_M_box_55 : decode b_M_box 55 = .ok (.iload 7, 2) := by decide +kernel
theorem d_M_box_57 : decode b_M_box 57 = .ok (.aload_n 0, 1) := by decide +kernel
theorem d_M_box_58 : decode b_M_box 58 = .ok (.getfield 101, 3) := by decide +kernel
theorem d_M_box_61 : decode b_M_box 61 = .ok (.if_icmp .ge 26, 3) := by decide +kernel
theorem d_M_box_64 : decode b_M_box 64 = .ok (.aload_n 0, 1) := by decide +kernel
theorem d_M_box_65 : decode b_M_box 65 = .ok (.getfield 36, 3) := by decide +kernel
theorem d_M_box_68 : decode b_M_box 68 = .ok (.iload 7, 2) := by decide +kernel
theorem d_M_box_70 : decode b_M_box 70 = .ok (.iload 6, 2) := by decide +kernel
theorem d_M_box_72 : decode b_M_box 72 = .ok (.iload_n 3, 1) := by decide +kernel
theorem d_M_box_73 : decode b_M_box 73 = .ok (.irem, 1) := by decide +kernel
theorem d_M_box_74 : decode b_M_box 74 = .ok (.iastore, 1) := by decide +kernel
theorem d_M_box_75 : decode b_M_box 75 = .ok (.iload 6, 2) := by decide +kernel
theorem d_M_box_77 : decode b_M_box 77 = .ok (.iload_n 3, 1) := by decide +kernel
theorem d_M_box_78 : decode b_M_box 78 = .ok (.idiv, 1) := by decide +kernel
theorem d_M_box_79 : decode b_M_box 79 = .ok (.istore 6, 2) := by decide +kernel
theorem d_M_box_81 : decode b_M_box 81 = .ok (.iinc 7 1, 3) := by decide +kernel
theorem d_M_box_84 : decode b_M_box 84 = .ok (.goto (-29), 3) := by decide +kernel
theorem d_M_box_87 : decode b_M_box 87 = .ok (.iconst 1, 1) := by decide +kernel
theorem d_M_box_88 : decode b_M_box 88 = .ok (.istore 7, 2) := by decide +kernel
theorem d_M_box_90 : decode b_M_box 90 = .ok (.iconst 0, 1) := by decide +kernel
theorem d_M_box_91 : decode b_M_box 91 = .ok (.istore 8, 2) := by decide +kernel
theorem d_M_box_93 : decode b_M_box 93 = .ok (.iload 8, 2) := by decide +kernel
theorem d_M_box_95 : decode b_M_box 95 = .ok (.iconst 4, 1) := by decide +kernel
theorem d_M_box_96 : decode b_M_box 96 = .ok (.if_icmp .ge 90, 3) := by decide +kernel
theorem d_M_box_99 : decode b_M_box 99 = .ok (.iconst 0, 1) := by decide +kernel
theorem d_M_box_100 : decode b_M_box 100 = .ok (.istore 9, 2) := by decide +kernel
theorem d_M_box_102 : decode b_M_box 102 = .ok (.iconst 0, 1) := by decide +kernel
theorem d_M_box_103 : decode b_M_box 103 = .ok (.istore 10, 2) := by decide +kernel
theorem d_M_box_105 : decode b_M_box 105 = .ok (.iload 10, 2) := by decide +kernel
theorem d_M_box_107 : decode b_M_box 107 = .ok (.aload_n 0, 1) := by decide +kernel
theorem d_M_box_108 : decode b_M_box 108 = .ok (.getfield 101, 3) := by decide +kernel
theorem d_M_box_111 : decode b_M_box 111 = .ok (.if_icmp .ge 39, 3) := by decide +kernel
theorem d_M_box_114 : decode b_M_box 114 = .ok (.iload 9, 2) := by decide +kernel
theorem d_M_box_116 : decode b_M_box 116 = .ok (.aload_n 0, 1) := by decide +kernel
theorem d_M_box_117 : decode b_M_box 117 = .ok (.getfield 36, 3) := by decide +kernel
theorem d_M_box_120 : decode b_M_box 120 = .ok (.iload 10, 2) := by decide +kernel
theorem d_M_box_122 : decode b_M_box 122 = .ok (.iaload, 1) := by decide +kernel
theorem d_M_box_123 : decode b_M_box 123 = .ok (.aload_n 0, 1) := by decide +kernel
theorem d_M_box_124 : decode b_M_box 124 = .ok (.getfield 13, 3) := by decide +kernel
theorem d_M_box_127 : decode b_M_box 127 = .ok (.iconst 4, 1) := by decide +kernel
theorem d_M_box_128 : decode b_M_box 128 = .ok (.aload_n 0, 1) := by decide +kernel
theorem d_M_box_129 : decode b_M_box 129 = .ok (.getfield 30, 3) := by decide +kernel
theorem d_M_box_132 : decode b_M_box 132 = .ok (.iload 10, 2) := by decide +kernel
theorem d_M_box_134 : decode b_M_box 134 = .ok (.iaload, 1) := by decide +kernel
theorem d_M_box_135 : decode b_M_box 135 = .ok (.imul, 1) := by decide +kernel
theorem d_M_box_136 : decode b_M_box 136 = .ok (.iload 8, 2) := by decide +kernel
theorem d_M_box_138 : decode b_M_box 138 = .ok (.iadd, 1) := by decide +kernel
theorem d_M_box_139 : decode b_M_box 139 = .ok (.iaload, 1) := by decide +kernel
theorem d_M_box_140 : decode b_M_box 140 = .ok (.imul, 1) := by decide +kernel
theorem d_M_box_141 : decode b_M_box 141 = .ok (.iadd, 1) := by decide +kernel
theorem d_M_box_142 : decode b_M_box 142 = .ok (.istore 9, 2) := by decide +kernel
theorem d_M_box_144 : decode b_M_box 144 = .ok (.iinc 10 1, 3) := by decide +kernel
theorem d_M_box_147 : decode b_M_box 147 = .ok (.goto (-42), 3) := by decide +kernel
theorem d_M_box_150 : decode b_M_box 150 = .ok (.iload 7, 2) := by decide +kernel
theorem d_M_box_152 : decode b_M_box 152 = .ok (.ifCond .eq 14, 3) := by decide +kernel
theorem d_M_box_155 : decode b_M_box 155 = .ok (.iload 9, 2) := by decide +kernel
theorem d_M_box_157 : decode b_M_box 157 = .ok (.iload_n 3, 1) := by decide +kernel
theorem d_M_box_158 : decode b_M_box 158 = .ok (.irem, 1) := by decide +kernel
theorem d_M_box_159 : decode b_M_box 159 = .ok (.ifCond .ne 7, 3) := by decide +kernel
theorem d_M_box_162 : decode b_M_box 162 = .ok (.iconst 1, 1) := by decide +kernel
theorem d_M_box_163 : decode b_M_box 163 = .ok (.goto 4, 3) := by decide +kernel
theorem d_M_box_166 : decode b_M_box 166 = .ok (.iconst 0, 1) := by decide +kernel
theorem d_M_box_167 : decode b_M_box 167 = .ok (.istore 7, 2) := by decide +kernel
theorem d_M_box_169 : decode b_M_box 169 = .ok (.aload_n 0, 1) := by decide +kernel
theorem d_M_box_170 : decode b_M_box 170 = .ok (.getfield 33, 3) := by decide +kernel
theorem d_M_box_173 : decode b_M_box 173 = .ok (.iload 8, 2) := by decide +kernel
theorem d_M_box_175 : decode b_M_box 175 = .ok (.iload 9, 2) := by decide +kernel
theorem d_M_box_177 : decode b_M_box 177 = .ok (.iload_n 3, 1) := by decide +kernel
theorem d_M_box_178 : decode b_M_box 178 = .ok (.idiv, 1) := by decide +kernel
theorem d_M_box_179 : decode b_M_box 179 = .ok (.iastore, 1) := by decide +kernel
theorem d_M_box_180 : decode b_M_box 180 = .ok (.iinc 8 1, 3) := by decide +kernel
theorem d_M_box_183 : decode b_M_box 183 = .ok (.goto (-90), 3) := by decide +kernel
theorem d_M_box_186 : decode b_M_box 186 = .ok (.iload 7, 2) := by decide +kernel
theorem d_M_box_188 : decode b_M_box 188 = .ok (.ifCond .eq 7, 3) := by decide +kernel
theorem d_M_box_191 : decode b_M_box 191 = .ok (.aload_n 0, 1) := by decide +kernel
theorem d_M_box_192 : decode b_M_box 192 = .ok (.invokevirtual 150, 3) := by decide +kernel
theorem d_M_box_195 : decode b_M_box 195 = .ok (.iinc 5 1, 3) := by decide +kernel
theorem d_M_box_198 : decode b_M_box 198 = .ok (.goto (-157), 3) := by decide +kernel
theorem d_M_box_201 : decode b_M_box 201 = .ok (.return_, 1) := by decide +kernel
theorem d_M_choose_0 : decode b_M_choose 0 = .ok (.iconst 0, 1) := by decide +kernel
theorem d_M_choose_1 : decode b_M_choose 1 = .ok (.istore_n 2, 1) := by decide +kernel
theorem d_M_choose_2 : decode b_M_choose 2 = .ok (.iconst 0, 1) := by decide +kernel
theorem d_M_choose_3 : decode b_M_choose 3 = .ok (.istore_n 3, 1) := by decide +kernel
theorem d_M_choose_4 : decode b_M_choose 4 = .ok (.iload_n 3, 1) := by decide +kernel
theorem d_M_choose_5 : decode b_M_choose 5 = .ok (.aload_n 0, 1) := by decide +kernel
theorem d_M_choose_6 : decode b_M_choose 6 = .ok (.getfield 95, 3) := by decide +kernel
theorem d_M_choose_9 : decode b_M_choose 9 = .ok (.if_icmp .ge 28, 3) := by decide +kernel
theorem d_M_choose_12 : decode b_M_choose 12 = .ok (.iload_n 1, 1) := by decide +kernel
theorem d_M_choose_13 : decode b_M_choose 13 = .ok (.iload_n 3, 1) := by decide +kernel
theorem d_M_choose_14 : decode b_M_choose 14 = .ok (.ishr, 1) := by decide +kernel
theorem d_M_choose_15 : decode b_M_choose 15 = .ok (.iconst 1, 1) := by decide +kernel
theorem d_M_choose_16 : decode b_M_choose 16 = .ok (.iand, 1) := by decide +kernel
theorem d_M_choose_17 : decode b_M_choose 17 = .ok (.iconst 1, 1) := by decide +kernel
theorem d_M_choose_18 : decode b_M_choose 18 = .ok (.if_icmp .ne 13, 3) := by decide +kernel
theorem d_M_choose_21 : decode b_M_choose 21 = .ok (.aload_n 0, 1) := by decide +kernel
theorem d_M_choose_22 : decode b_M_choose 22 = .ok (.getfield 30, 3) := by decide +kernel
theorem d_M_choose_25 : decode b_M_choose 25 = .ok (.iload_n 2, 1) := by decide +kernel
theorem d_M_choose_26 : decode b_M_choose 26 = .ok (.iload_n 3, 1) := by decide +kernel
theorem d_M_choose_27 : decode b_M_choose 27 = .ok (.iastore, 1) := by decide +kernel
theorem d_M_choose_28 : decode b_M_choose 28 = .ok (.iinc 2 1, 3) := by decide +kernel
theorem d_M_choose_31 : decode b_M_choose 31 = .ok (.iinc 3 1, 3) := by decide +kernel
theorem d_M_choose_34 : decode b_M_choose 34 = .ok (.goto (-30), 3) := by decide +kernel
theorem d_M_choose_37 : decode b_M_choose 37 = .ok (.return_, 1) := by decide +kernel
theorem d_M_compare_0 : decode b_M_compare 0 = .ok (.iconst 0, 1) := by decide +kernel
theorem d_M_compare_1 : decode b_M_compare 1 = .ok (.istore_n 3, 1) := by decide +kernel
theorem d_M_compare_2 : decode b_M_compare 2 = .ok (.iload_n 3, 1) := by decide +kernel
theorem d_M_compare_3 : decode b_M_compare 3 = .ok (.iconst 4, 1) := by decide +kernel
theorem d_M_compare_4 : decode b_M_compare 4 = .ok (.if_icmp .ge 43, 3) := by decide +kernel
theorem d_M_compare_7 : decode b_M_compare 7 = .ok (.aload_n 1, 1) := by decide +kernel
theorem d_M_compare_8 : decode b_M_compare 8 = .ok (.iload_n 2, 1) := by decide +kernel
theorem d_M_compare_9 : decode b_M_compare 9 = .ok (.iload_n 3, 1) := by decide +kernel
theorem d_M_compare_10 : decode b_M_compare 10 = .ok (.iadd, 1) := by decide +kernel
theorem d_M_compare_11 : decode b_M_compare 11 = .ok (.iaload, 1) := by decide +kernel
theorem d_M_compare_12 : decode b_M_compare 12 = .ok (.aload_n 0, 1) := by decide +kernel
theorem d_M_compare_13 : decode b_M_compare 13 = .ok (.getfield 33, 3) := by decide +kernel
theorem d_M_compare_16 : decode b_M_compare 16 = .ok (.iload_n 3, 1) := by decide +kernel
theorem d_M_compare_17 : decode b_M_compare 17 = .ok (.iaload, 1) := by decide +kernel
theorem d_M_compare_18 : decode b_M_compare 18 = .ok (.if_icmp .eq 23, 3) := by decide +kernel
theorem d_M_compare_21 : decode b_M_compare 21 = .ok (.aload_n 1, 1) := by decide +kernel
theorem d_M_compare_22 : decode b_M_compare 22 = .ok (.iload_n 2, 1) := by decide +kernel
theorem d_M_compare_23 : decode b_M_compare 23 = .ok (.iload_n 3, 1) := by decide +kernel
theorem d_M_compare_24 : decode b_M_compare 24 = .ok (.iadd, 1) := by decide +kernel
theorem d_M_compare_25 : decode b_M_compare 25 = .ok (.iaload, 1) := by decide +kernel
theorem d_M_compare_26 : decode b_M_compare 26 = .ok (.aload_n 0, 1) := by decide +kernel
theorem d_M_compare_27 : decode b_M_compare 27 = .ok (.getfield 33, 3) := by decide +kernel
theorem d_M_compare_30 : decode b_M_compare 30 = .ok (.iload_n 3, 1) := by decide +kernel
theorem d_M_compare_31 : decode b_M_compare 31 = .ok (.iaload, 1) := by decide +kernel
theorem d_M_compare_32 : decode b_M_compare 32 = .ok (.if_icmp .ge 7, 3) := by decide +kernel
theorem d_M_compare_35 : decode b_M_compare 35 = .ok (.iconst (-1), 1) := by decide +kernel
theorem d_M_compare_36 : decode b_M_compare 36 = .ok (.goto 4, 3) := by decide +kernel
theorem d_M_compare_39 : decode b_M_compare 39 = .ok (.iconst 1, 1) := by decide +kernel
theorem d_M_compare_40 : decode b_M_compare 40 = .ok (.ireturn, 1) := by decide +kernel
theorem d_M_compare_41 : decode b_M_compare 41 = .ok (.iinc 3 1, 3) := by decide +kernel
theorem d_M_compare_44 : decode b_M_compare 44 = .ok (.goto (-42), 3) := by decide +kernel
theorem d_M_compare_47 : decode b_M_compare 47 = .ok (.iconst 0, 1) := by decide +kernel
theorem d_M_compare_48 : decode b_M_compare 48 = .ok (.ireturn, 1) := by decide +kernel
theorem d_M_determinant_0 : decode b_M_determinant 0 = .ok (.iconst 0, 1) := by decide +kernel
theorem d_M_determinant_1 : decode b_M_determinant 1 = .ok (.istore_n 3, 1) := by decide +kernel
theorem d_M_determinant_2 : decode b_M_determinant 2 = .ok (.iconst 0, 1) := by decide +kernel
theorem d_M_determinant_3 : decode b_M_determinant 3 = .ok (.istore 4, 2) := by decide +kernel
theorem d_M_determinant_5 : decode b_M_determinant 5 = .ok (.iload 4, 2) := by decide +kernel
theorem d_M_determinant_7 : decode b_M_determinant 7 = .ok (.iload_n 1, 1) := by decide +kernel
theorem d_M_determinant_8 : decode b_M_determinant 8 = .ok (.if_icmp .ge 61, 3) := by decide +kernel
theorem d_M_determinant_11 : decode b_M_determinant 11 = .ok (.iconst 0, 1) := by decide +kernel
theorem d_M_determinant_12 : decode b_M_determinant 12 = .ok (.istore 5, 2) := by decide +kernel
theorem d_M_determinant_14 : decode b_M_determinant 14 = .ok (.iload 5, 2) := by decide +kernel
theorem d_M_determinant_16 : decode b_M_determinant 16 = .ok (.iconst 4, 1) := by decide +kernel
theorem d_M_determinant_17 : decode b_M_determinant 17 = .ok (.if_icmp .ge 46, 3) := by decide +kernel
theorem d_M_determinant_20 : decode b_M_determinant 20 = .ok (.iload_n 2, 1) := by decide +kernel
theorem d_M_determinant_21 : decode b_M_determinant 21 = .ok (.iload 5, 2) := by decide +kernel
theorem d_M_determinant_23 : decode b_M_determinant 23 = .ok (.ishr, 1) := by decide +kernel
theorem d_M_determinant_24 : decode b_M_determinant 24 = .ok (.iconst 1, 1) := by decide +kernel
theorem d_M_determinant_25 : decode b_M_determinant 25 = .ok (.iand, 1) := by decide +kernel
theorem d_M_determinant_26 : decode b_M_determinant 26 = .ok (.iconst 1, 1) := by decide +kernel
theorem d_M_determinant_27 : decode b_M_determinant 27 = .ok (.if_icmp .ne 30, 3) := by decide +kernel
theorem d_M_determinant_30 : decode b_M_determinant 30 = .ok (.aload_n 0, 1) := by decide +kernel
theorem d_M_determinant_31 : decode b_M_determinant 31 = .ok (.getfield 26, 3) := by decide +kernel
theorem d_M_determinant_34 : decode b_M_determinant 34 = .ok (.iload_n 3, 1) := by decide +kernel
theorem d_M_determinant_35 : decode b_M_determinant 35 = .ok (.aload_n 0, 1) := by decide +kernel
theorem d_M_determinant_36 : decode b_M_determinant 36 = .ok (.getfield 13, 3) := by decide +kernel
theorem d_M_determinant_39 : decode b_M_determinant 39 = .ok (.iconst 4, 1) := by decide +kernel
theorem d_M_determinant_40 : decode b_M_determinant 40 = .ok (.aload_n 0, 1) := by decide +kernel
theorem d_M_determinant_41 : decode b_M_determinant 41 = .ok (.getfield 30, 3) := by decide +kernel
theorem d_M_determinant_44 : decode b_M_determinant 44 = .ok (.iload 4, 2) := by decide +kernel
theorem d_M_determinant_46 : decode b_M_determinant 46 = .ok (.iaload, 1) := by decide +kernel
theorem d_M_determinant_47 : decode b_M_determinant 47 = .ok (.imul, 1) := by decide +kernel
theorem d_M_determinant_48 : decode b_M_determinant 48 = .ok (.iload 5, 2) := by decide +kernel
theorem d_M_determinant_50 : decode b_M_determinant 50 = .ok (.iadd, 1) := by decide +kernel
theorem d_M_determinant_51 : decode b_M_determinant 51 = .ok (.iaload, 1) := by decide +kernel
theorem d_M_determinant_52 : decode b_M_determinant 52 = .ok (.i2l, 1) := by decide +kernel
theorem d_M_determinant_53 : decode b_M_determinant 53 = .ok (.lastore, 1) := by decide +kernel
theorem d_M_determinant_54 : decode b_M_determinant 54 = .ok (.iinc 3 1, 3) := by decide +kernel
theorem d_M_determinant_57 : decode b_M_determinant 57 = .ok (.iinc 5 1, 3) := by decide +kernel
theorem d_M_determinant_60 : decode b_M_determinant 60 = .ok (.goto (-46), 3) := by decide +kernel
theorem d_M_determinant_63 : decode b_M_determinant 63 = .ok (.iinc 4 1, 3) := by decide +kernel
theorem d_M_determinant_66 : decode b_M_determinant 66 = .ok (.goto (-61), 3) := by decide +kernel
theorem d_M_determinant_69 : decode b_M_determinant 69 = .ok (.aload_n 0, 1) := by decide +kernel
theorem d_M_determinant_70 : decode b_M_determinant 70 = .ok (.iload_n 1, 1) := by decide +kernel
theorem d_M_determinant_71 : decode b_M_determinant 71 = .ok (.invokevirtual 77, 3) := by decide +kernel
theorem d_M_determinant_74 : decode b_M_determinant 74 = .ok (.lreturn, 1) := by decide +kernel
theorem d_M_dimensionOf_0 : decode b_M_dimensionOf 0 = .ok (.iconst 0, 1) := by decide +kernel
theorem d_M_dimensionOf_1 : decode b_M_dimensionOf 1 = .ok (.istore_n 2, 1) := by decide +kernel
theorem d_M_dimensionOf_2 : decode b_M_dimensionOf 2 = .ok (.iconst 0, 1) := by decide +kernel
theorem d_M_dimensionOf_3 : decode b_M_dimensionOf 3 = .ok (.istore_n 3, 1) := by decide +kernel
theorem d_M_dimensionOf_4 : decode b_M_dimensionOf 4 = .ok (.iload_n 3, 1) := by decide +kernel
theorem d_M_dimensionOf_5 : decode b_M_dimensionOf 5 = .ok (.aload_n 0, 1) := by decide +kernel
theorem d_M_dimensionOf_6 : decode b_M_dimensionOf 6 = .ok (.getfield 95, 3) := by decide +kernel
theorem d_M_dimensionOf_9 : decode b_M_dimensionOf 9 = .ok (.if_icmp .ge 59, 3) := by decide +kernel
theorem d_M_dimensionOf_12 : decode b_M_dimensionOf 12 = .ok (.iload_n 1, 1) := by decide +kernel
theorem d_M_dimensionOf_13 : decode b_M_dimensionOf 13 = .ok (.iload_n 3, 1) := by decide +kernel
theorem d_M_dimensionOf_14 : decode b_M_dimensionOf 14 = .ok (.ishr, 1) := by decide +kernel
theorem d_M_dimensionOf_15 : decode b_M_dimensionOf 15 = .ok (.iconst 1, 1) := by decide +kernel
theorem d_M_dimensionOf_16 : decode b_M_dimensionOf 16 = .ok (.iand, 1) := by decide +kernel
theorem d_M_dimensionOf_17 : decode b_M_dimensionOf 17 = .ok (.iconst 1, 1) := by decide +kernel
theorem d_M_dimensionOf_18 : decode b_M_dimensionOf 18 = .ok (.if_icmp .ne 44, 3) := by decide +kernel
theorem d_M_dimensionOf_21 : decode b_M_dimensionOf 21 = .ok (.iconst 0, 1) := by decide +kernel
theorem d_M_dimensionOf_22 : decode b_M_dimensionOf 22 = .ok (.istore 4, 2) := by decide +kernel
theorem d_M_dimensionOf_24 : decode b_M_dimensionOf 24 = .ok (.iload 4, 2) := by decide +kernel
theorem d_M_dimensionOf_26 : decode b_M_dimensionOf 26 = .ok (.iconst 4, 1) := by decide +kernel
theorem d_M_dimensionOf_27 : decode b_M_dimensionOf 27 = .ok (.if_icmp .ge 32, 3) := by decide +kernel
theorem d_M_dimensionOf_30 : decode b_M_dimensionOf 30 = .ok (.aload_n 0, 1) := by decide +kernel
theorem d_M_dimensionOf_31 : decode b_M_dimensionOf 31 = .ok (.getfield 26, 3) := by decide +kernel
theorem d_M_dimensionOf_34 : decode b_M_dimensionOf 34 = .ok (.iconst 4, 1) := by decide +kernel
theorem d_M_dimensionOf_35 : decode b_M_dimensionOf 35 = .ok (.iload_n 2, 1) := by decide +kernel
theorem d_M_dimensionOf_36 : decode b_M_dimensionOf 36 = .ok (.imul, 1) := by decide +kernel
theorem d_M_dimensionOf_37 : decode b_M_dimensionOf 37 = .ok (.iload 4, 2) := by decide +kernel
theorem d_M_dimensionOf_39 : decode b_M_dimensionOf 39 = .ok (.iadd, 1) := by decide +kernel
theorem d_M_dimensionOf_40 : decode b_M_dimensionOf 40 = .ok (.aload_n 0, 1) := by decide +kernel
theorem d_M_dimensionOf_41 : decode b_M_dimensionOf 41 = .ok (.getfield 13, 3) := by decide +kernel
theorem d_M_dimensionOf_44 : decode b_M_dimensionOf 44 = .ok (.iconst 4, 1) := by decide +kernel
theorem d_M_dimensionOf_45 : decode b_M_dimensionOf 45 = .ok (.iload_n 3, 1) := by decide +kernel
theorem d_M_dimensionOf_46 : decode b_M_dimensionOf 46 = .ok (.imul, 1) := by decide +kernel
theorem d_M_dimensionOf_47 : decode b_M_dimensionOf 47 = .ok (.iload 4, 2) := by decide +kernel
theorem d_M_dimensionOf_49 : decode b_M_dimensionOf 49 = .ok (.iadd, 1) := by decide +kernel
theorem d_M_dimensionOf_50 : decode b_M_dimensionOf 50 = .ok (.iaload, 1) := by decide +kernel
theorem d_M_dimensionOf_51 : decode b_M_dimensionOf 51 = .ok (.i2l, 1) := by decide +kernel
theorem d_M_dimensionOf_52 : decode b_M_dimensionOf 52 = .ok (.lastore, 1) := by decide +kernel
theorem d_M_dimensionOf_53 : decode b_M_dimensionOf 53 = .ok (.iinc 4 1, 3) := by decide +kernel
theorem d_M_dimensionOf_56 : decode b_M_dimensionOf 56 = .ok (.goto (-32), 3) := by decide +kernel
theorem d_M_dimensionOf_59 : decode b_M_dimensionOf 59 = .ok (.iinc 2 1, 3) := by decide +kernel
theorem d_M_dimensionOf_62 : decode b_M_dimensionOf 62 = .ok (.iinc 3 1, 3) := by decide +kernel
theorem d_M_dimensionOf_65 : decode b_M_dimensionOf 65 = .ok (.goto (-61), 3) := by decide +kernel
theorem d_M_dimensionOf_68 : decode b_M_dimensionOf 68 = .ok (.aload_n 0, 1) := by decide +kernel
theorem d_M_dimensionOf_69 : decode b_M_dimensionOf 69 = .ok (.iload_n 2, 1) := by decide +kernel
theorem d_M_dimensionOf_70 : decode b_M_dimensionOf 70 = .ok (.invokevirtual 88, 3) := by decide +kernel
theorem d_M_dimensionOf_73 : decode b_M_dimensionOf 73 = .ok (.ireturn, 1) := by decide +kernel
theorem d_M_drop_0 : decode b_M_drop 0 = .ok (.aload_n 0, 1) := by decide +kernel
theorem d_M_drop_1 : decode b_M_drop 1 = .ok (.iload_n 1, 1) := by decide +kernel
theorem d_M_drop_2 : decode b_M_drop 2 = .ok (.ifCond .lt 11, 3) := by decide +kernel
theorem d_M_drop_5 : decode b_M_drop 5 = .ok (.iload_n 1, 1) := by decide +kernel
theorem d_M_drop_6 : decode b_M_drop 6 = .ok (.aload_n 0, 1) := by decide +kernel
theorem d_M_drop_7 : decode b_M_drop 7 = .ok (.getfield 62, 3) := by decide +kernel
theorem d_M_drop_10 : decode b_M_drop 10 = .ok (.if_icmp .lt 7, 3) := by decide +kernel
theorem d_M_drop_13 : decode b_M_drop 13 = .ok (.iconst 1, 1) := by decide +kernel
theorem d_M_drop_14 : decode b_M_drop 14 = .ok (.goto 4, 3) := by decide +kernel
theorem d_M_drop_17 : decode b_M_drop 17 = .ok (.iconst 0, 1) := by decide +kernel
theorem d_M_drop_18 : decode b_M_drop 18 = .ok (.putfield 43, 3) := by decide +kernel
theorem d_M_drop_21 : decode b_M_drop 21 = .ok (.aload_n 0, 1) := by decide +kernel
theorem d_M_drop_22 : decode b_M_drop 22 = .ok (.getfield 43, 3) := by decide +kernel
theorem d_M_drop_25 : decode b_M_drop 25 = .ok (.ifCond .le 4, 3) := by decide +kernel
theorem d_M_drop_28 : decode b_M_drop 28 = .ok (.return_, 1) := by decide +kernel
theorem d_M_drop_29 : decode b_M_drop 29 = .ok (.aload_n 0, 1) := by decide +kernel
theorem d_M_drop_30 : decode b_M_drop 30 = .ok (.dup, 1) := by decide +kernel
theorem d_M_drop_31 : decode b_M_drop 31 = .ok (.getfield 62, 3) := by decide +kernel
theorem d_M_drop_34 : decode b_M_drop 34 = .ok (.iconst 1, 1) := by decide +kernel
theorem d_M_drop_35 : decode b_M_drop 35 = .ok (.isub, 1) := by decide +kernel
theorem d_M_drop_36 : decode b_M_drop 36 = .ok (.putfield 62, 3) := by decide +kernel
theorem d_M_drop_39 : decode b_M_drop 39 = .ok (.iconst 4, 1) := by decide +kernel
theorem d_M_drop_40 : decode b_M_drop 40 = .ok (.iload_n 1, 1) := by decide +kernel
theorem d_M_drop_41 : decode b_M_drop 41 = .ok (.imul, 1) := by decide +kernel
theorem d_M_drop_42 : decode b_M_drop 42 = .ok (.istore_n 2, 1) := by decide +kernel
theorem d_M_drop_43 : decode b_M_drop 43 = .ok (.iload_n 2, 1) := by decide +kernel
theorem d_M_drop_44 : decode b_M_drop 44 = .ok (.iconst 4, 1) := by decide +kernel
theorem d_M_drop_45 : decode b_M_drop 45 = .ok (.aload_n 0, 1) := by decide +kernel
theorem d_M_drop_46 : decode b_M_drop 46 = .ok (.getfield 62, 3) := by decide +kernel
theorem d_M_drop_49 : decode b_M_drop 49 = .ok (.imul, 1) := by decide +kernel
theorem d_M_drop_50 : decode b_M_drop 50 = .ok (.if_icmp .ge 23, 3) := by decide +kernel
theorem d_M_drop_53 : decode b_M_drop 53 = .ok (.aload_n 0, 1) := by decide +kernel
theorem d_M_drop_54 : decode b_M_drop 54 = .ok (.getfield 7, 3) := by decide +kernel
theorem d_M_drop_57 : decode b_M_drop 57 = .ok (.iload_n 2, 1) := by decide +kernel
theorem d_M_drop_58 : decode b_M_drop 58 = .ok (.aload_n 0, 1) := by decide +kernel
theorem d_M_drop_59 : decode b_M_drop 59 = .ok (.getfield 7, 3) := by decide +kernel
theorem d_M_drop_62 : decode b_M_drop 62 = .ok (.iload_n 2, 1) := by decide +kernel
theorem d_M_drop_63 : decode b_M_drop 63 = .ok (.iconst 4, 1) := by decide +kernel
theorem d_M_drop_64 : decode b_M_drop 64 = .ok (.iadd, 1) := by decide +kernel
theorem d_M_drop_65 : decode b_M_drop 65 = .ok (.iaload, 1) := by decide +kernel
theorem d_M_drop_66 : decode b_M_drop 66 = .ok (.iastore, 1) := by decide +kernel
theorem d_M_drop_67 : decode b_M_drop 67 = .ok (.iinc 2 1, 3) := by decide +kernel
theorem d_M_drop_70 : decode b_M_drop 70 = .ok (.goto (-27), 3) := by decide +kernel
theorem d_M_drop_73 : decode b_M_drop 73 = .ok (.aload_n 0, 1) := by decide +kernel
theorem d_M_drop_74 : decode b_M_drop 74 = .ok (.iconst 0, 1) := by decide +kernel
theorem d_M_drop_75 : decode b_M_drop 75 = .ok (.putfield 65, 3) := by decide +kernel
theorem d_M_drop_78 : decode b_M_drop 78 = .ok (.return_, 1) := by decide +kernel
theorem d_M_faces_0 : decode b_M_faces 0 = .ok (.aload_n 0, 1) := by decide +kernel
theorem d_M_faces_1 : decode b_M_faces 1 = .ok (.iconst 1, 1) := by decide +kernel
theorem d_M_faces_2 : decode b_M_faces 2 = .ok (.invokevirtual 160, 3) := by decide +kernel
theorem d_M_faces_5 : decode b_M_faces 5 = .ok (.ifCond .ne 5, 3) := by decide +kernel
theorem d_M_faces_8 : decode b_M_faces 8 = .ok (.iconst 0, 1) := by decide +kernel
theorem d_M_faces_9 : decode b_M_faces 9 = .ok (.ireturn, 1) := by decide +kernel
theorem d_M_faces_10 : decode b_M_faces 10 = .ok (.iconst 0, 1) := by decide +kernel
theorem d_M_faces_11 : decode b_M_faces 11 = .ok (.istore_n 2, 1) := by decide +kernel
theorem d_M_faces_12 : decode b_M_faces 12 = .ok (.iconst 0, 1) := by decide +kernel
theorem d_M_faces_13 : decode b_M_faces 13 = .ok (.istore_n 3, 1) := by decide +kernel
theorem d_M_faces_14 : decode b_M_faces 14 = .ok (.iload_n 3, 1) := by decide +kernel
theorem d_M_faces_15 : decode b_M_faces 15 = .ok (.iconst 1, 1) := by decide +kernel
theorem d_M_faces_16 : decode b_M_faces 16 = .ok (.aload_n 0, 1) := by decide +kernel
theorem d_M_faces_17 : decode b_M_faces 17 = .ok (.getfield 95, 3) := by decide +kernel
theorem d_M_faces_20 : decode b_M_faces 20 = .ok (.ishl, 1) := by decide +kernel
theorem d_M_faces_21 : decode b_M_faces 21 = .ok (.if_icmp .ge 34, 3) := by decide +kernel
theorem d_M_faces_24 : decode b_M_faces 24 = .ok (.aload_n 0, 1) := by decide +kernel
theorem d_M_faces_25 : decode b_M_faces 25 = .ok (.iload_n 3, 1) := by decide +kernel
theorem d_M_faces_26 : decode b_M_faces 26 = .ok (.invokevirtual 166, 3) := by decide +kernel
theorem d_M_faces_29 : decode b_M_faces 29 = .ok (.ifCond .eq 18, 3) := by decide +kernel
theorem d_M_faces_32 : decode b_M_faces 32 = .ok (.aload_n 0, 1) := by decide +kernel
theorem d_M_faces_33 : decode b_M_faces 33 = .ok (.iload_n 3, 1) := by decide +kernel
theorem d_M_faces_34 : decode b_M_faces 34 = .ok (.invokevirtual 111, 3) := by decide +kernel
theorem d_M_faces_37 : decode b_M_faces 37 = .ok (.iload_n 1, 1) := by decide +kernel
theorem d_M_faces_38 : decode b_M_faces 38 = .ok (.if_icmp .ne 9, 3) := by decide +kernel
theorem d_M_faces_41 : decode b_M_faces 41 = .ok (.iload_n 2, 1) := by decide +kernel
theorem d_M_faces_42 : decode b_M_faces 42 = .ok (.iconst 1, 1) := by decide +kernel
theorem d_M_faces_43 : decode b_M_faces 43 = .ok (.iadd, 1) := by decide +kernel
theorem d_M_faces_44 : decode b_M_faces 44 = .ok (.goto 4, 3) := by decide +kernel
theorem d_M_faces_47 : decode b_M_faces 47 = .ok (.iload_n 2, 1) := by decide +kernel
theorem d_M_faces_48 : decode b_M_faces 48 = .ok (.istore_n 2, 1) := by decide +kernel
theorem d_M_faces_49 : decode b_M_faces 49 = .ok (.iinc 3 1, 3) := by decide +kernel
theorem d_M_faces_52 : decode b_M_faces 52 = .ok (.goto (-38), 3) := by decide +kernel
theorem d_M_faces_55 : decode b_M_faces 55 = .ok (.iload_n 2, 1) := by decide +kernel
theorem d_M_faces_56 : decode b_M_faces 56 = .ok (.ireturn, 1) := by decide +kernel
theorem d_M_find_0 : decode b_M_find 0 = .ok (.aload_n 0, 1) := by decide +kernel
theorem d_M_find_1 : decode b_M_find 1 = .ok (.invokevirtual 144, 3) := by decide +kernel
theorem d_M_find_4 : decode b_M_find 4 = .ok (.aload_n 0, 1) := by decide +kernel
theorem d_M_find_5 : decode b_M_find 5 = .ok (.getfield 85, 3) := by decide +kernel
theorem d_M_find_8 : decode b_M_find 8 = .ok (.ifCond .eq 4, 3) := by decide +kernel
theorem d_M_find_11 : decode b_M_find 11 = .ok (.return_, 1) := by decide +kernel
theorem d_M_find_12 : decode b_M_find 12 = .ok (.aload_n 0, 1) := by decide +kernel
theorem d_M_find_13 : decode b_M_find 13 = .ok (.iconst 1, 1) := by decide +kernel
theorem d_M_find_14 : decode b_M_find 14 = .ok (.putfield 85, 3) := by decide +kernel
theorem d_M_find_17 : decode b_M_find 17 = .ok (.aload_n 0, 1) := by decide +kernel
theorem d_M_find_18 : decode b_M_find 18 = .ok (.iconst 0, 1) := by decide +kernel
theorem d_M_find_19 : decode b_M_find 19 = .ok (.putfield 147, 3) := by decide +kernel
theorem d_M_find_22 : decode b_M_find 22 = .ok (.iconst 0, 1) := by decide +kernel
theorem d_M_find_23 : decode b_M_find 23 = .ok (.istore_n 1, 1) := by decide +kernel
theorem d_M_find_24 : decode b_M_find 24 = .ok (.iload_n 1, 1) := by decide +kernel
theorem d_M_find_25 : decode b_M_find 25 = .ok (.aload_n 0, 1) := by decide +kernel
theorem d_M_find_26 : decode b_M_find 26 = .ok (.getfield 95, 3) := by decide +kernel
theorem d_M_find_29 : decode b_M_find 29 = .ok (.if_icmp .ge 55, 3) := by decide +kernel
theorem d_M_find_32 : decode b_M_find 32 = .ok (.aload_n 0, 1) := by decide +kernel
theorem d_M_find_33 : decode b_M_find 33 = .ok (.aload_n 0, 1) := by decide +kernel
theorem d_M_find_34 : decode b_M_find 34 = .ok (.getfield 13, 3) := by decide +kernel
theorem d_M_find_37 : decode b_M_find 37 = .ok (.iconst 4, 1) := by decide +kernel
theorem d_M_find_38 : decode b_M_find 38 = .ok (.iload_n 1, 1) := by decide +kernel
theorem d_M_find_39 : decode b_M_find 39 = .ok (.imul, 1) := by decide +kernel
theorem d_M_find_40 : decode b_M_find 40 = .ok (.iaload, 1) := by decide +kernel
theorem d_M_find_41 : decode b_M_find 41 = .ok (.aload_n 0, 1) := by decide +kernel
theorem d_M_find_42 : decode b_M_find 42 = .ok (.getfield 13, 3) := by decide +kernel
theorem d_M_find_45 : decode b_M_find 45 = .ok (.iconst 4, 1) := by decide +kernel
theorem d_M_find_46 : decode b_M_find 46 = .ok (.iload_n 1, 1) := by decide +kernel
theorem d_M_find_47 : decode b_M_find 47 = .ok (.imul, 1) := by decide +kernel
theorem d_M_find_48 : decode b_M_find 48 = .ok (.iconst 1, 1) := by decide +kernel
theorem d_M_find_49 : decode b_M_find 49 = .ok (.iadd, 1) := by decide +kernel
theorem d_M_find_50 : decode b_M_find 50 = .ok (.iaload, 1) := by decide +kernel
theorem d_M_find_51 : decode b_M_find 51 = .ok (.aload_n 0, 1) := by decide +kernel
theorem d_M_find_52 : decode b_M_find 52 = .ok (.getfield 13, 3) := by decide +kernel
theorem d_M_find_55 : decode b_M_find 55 = .ok (.iconst 4, 1) := by decide +kernel
theorem d_M_find_56 : decode b_M_find 56 = .ok (.iload_n 1, 1) := by decide +kernel
theorem d_M_find_57 : decode b_M_find 57 = .ok (.imul, 1) := by decide +kernel
theorem d_M_find_58 : decode b_M_find 58 = .ok (.iconst 2, 1) := by decide +kernel
theorem d_M_find_59 : decode b_M_find 59 = .ok (.iadd, 1) := by decide +kernel
theorem d_M_find_60 : decode b_M_find 60 = .ok (.iaload, 1) := by decide +kernel
theorem d_M_find_61 : decode b_M_find 61 = .ok (.aload_n 0, 1) := by decide +kernel
theorem d_M_find_62 : decode b_M_find 62 = .ok (.getfield 13, 3) := by decide +kernel
theorem d_M_find_65 : decode b_M_find 65 = .ok (.iconst 4, 1) := by decide +kernel
theorem d_M_find_66 : decode b_M_find 66 = .ok (.iload_n 1, 1) := by decide +kernel
theorem d_M_find_67 : decode b_M_find 67 = .ok (.imul, 1) := by decide +kernel
theorem d_M_find_68 : decode b_M_find 68 = .ok (.iconst 3, 1) := by decide +kernel
theorem d_M_find_69 : decode b_M_find 69 = .ok (.iadd, 1) := by decide +kernel
theorem d_M_find_70 : decode b_M_find 70 = .ok (.iaload, 1) := by decide +kernel
theorem d_M_find_71 : decode b_M_find 71 = .ok (.invokevirtual 50, 3) := by decide +kernel
theorem d_M_find_74 : decode b_M_find 74 = .ok (.aload_n 0, 1) := by decide +kernel
theorem d_M_find_75 : decode b_M_find 75 = .ok (.invokevirtual 150, 3) := by decide +kernel
theorem d_M_find_78 : decode b_M_find 78 = .ok (.iinc 1 1, 3) := by decide +kernel
theorem d_M_find_81 : decode b_M_find 81 = .ok (.goto (-57), 3) := by decide +kernel
theorem d_M_find_84 : decode b_M_find 84 = .ok (.iconst 1, 1) := by decide +kernel
theorem d_M_find_85 : decode b_M_find 85 = .ok (.istore_n 1, 1) := by decide +kernel
theorem d_M_find_86 : decode b_M_find 86 = .ok (.iload_n 1, 1) := by decide +kernel
theorem d_M_find_87 : decode b_M_find 87 = .ok (.iconst 1, 1) := by decide +kernel
theorem d_M_find_88 : decode b_M_find 88 = .ok (.aload_n 0, 1) := by decide +kernel
theorem d_M_find_89 : decode b_M_find 89 = .ok (.getfield 95, 3) := by decide +kernel
theorem d_M_find_92 : decode b_M_find 92 = .ok (.ishl, 1) := by decide +kernel
theorem d_M_find_93 : decode b_M_find 93 = .ok (.if_icmp .ge 33, 3) := by decide +kernel
theorem d_M_find_96 : decode b_M_find 96 = .ok (.iload_n 1, 1) := by decide +kernel
theorem d_M_find_97 : decode b_M_find 97 = .ok (.invokestatic 104, 3) := by decide +kernel
theorem d_M_find_100 : decode b_M_find 100 = .ok (.aload_n 0, 1) := by decide +kernel
theorem d_M_find_101 : decode b_M_find 101 = .ok (.getfield 101, 3) := by decide +kernel
theorem d_M_find_104 : decode b_M_find 104 = .ok (.if_icmp .ne 16, 3) := by decide +kernel
theorem d_M_find_107 : decode b_M_find 107 = .ok (.aload_n 0, 1) := by decide +kernel
theorem d_M_find_108 : decode b_M_find 108 = .ok (.iload_n 1, 1) := by decide +kernel
theorem d_M_find_109 : decode b_M_find 109 = .ok (.invokevirtual 138, 3) := by decide +kernel
theorem d_M_find_112 : decode b_M_find 112 = .ok (.aload_n 0, 1) := by decide +kernel
theorem d_M_find_113 : decode b_M_find 113 = .ok (.aload_n 0, 1) := by decide +kernel
theorem d_M_find_114 : decode b_M_find 114 = .ok (.invokevirtual 141, 3) := by decide +kernel
theorem d_M_find_117 : decode b_M_find 117 = .ok (.invokevirtual 153, 3) := by decide +kernel
theorem d_M_find_120 : decode b_M_find 120 = .ok (.iinc 1 1, 3) := by decide +kernel
theorem d_M_find_123 : decode b_M_find 123 = .ok (.goto (-37), 3) := by decide +kernel
theorem d_M_find_126 : decode b_M_find 126 = .ok (.iconst 0, 1) := by decide +kernel
theorem d_M_find_127 : decode b_M_find 127 = .ok (.istore_n 1, 1) := by decide +kernel
theorem d_M_find_128 : decode b_M_find 128 = .ok (.iload_n 1, 1) := by decide +kernel
theorem d_M_find_129 : decode b_M_find 129 = .ok (.aload_n 0, 1) := by decide +kernel
theorem d_M_find_130 : decode b_M_find 130 = .ok (.getfield 147, 3) := by decide +kernel
theorem d_M_find_133 : decode b_M_find 133 = .ok (.if_icmp .ge 66, 3) := by decide +kernel
theorem d_M_find_136 : decode b_M_find 136 = .ok (.aload_n 0, 1) := by decide +kernel
theorem d_M_find_137 : decode b_M_find 137 = .ok (.getfield 22, 3) := by decide +kernel
theorem d_M_find_140 : decode b_M_find 140 = .ok (.iload_n 1, 1) := by decide +kernel
theorem d_M_find_141 : decode b_M_find 141 = .ok (.iconst 0, 1) := by decide +kernel
theorem d_M_find_142 : decode b_M_find 142 = .ok (.bastore, 1) := by decide +kernel
theorem d_M_find_143 : decode b_M_find 143 = .ok (.iconst 0, 1) := by decide +kernel
theorem d_M_find_144 : decode b_M_find 144 = .ok (.istore_n 2, 1) := by decide +kernel
theorem d_M_find_145 : decode b_M_find 145 = .ok (.iload_n 2, 1) := by decide +kernel
theorem d_M_find_146 : decode b_M_find 146 = .ok (.aload_n 0, 1) := by decide +kernel
theorem d_M_find_147 : decode b_M_find 147 = .ok (.getfield 147, 3) := by decide +kernel
theorem d_M_find_150 : decode b_M_find 150 = .ok (.if_icmp .ge 43, 3) := by decide +kernel
theorem d_M_find_153 : decode b_M_find 153 = .ok (.aload_n 0, 1) := by decide +kernel
theorem d_M_find_154 : decode b_M_find 154 = .ok (.getfield 22, 3) := by decide +kernel
theorem d_M_find_157 : decode b_M_find 157 = .ok (.iload_n 1, 1) := by decide +kernel
theorem d_M_find_158 : decode b_M_find 158 = .ok (.baload, 1) := by decide +kernel
theorem d_M_find_159 : decode b_M_find 159 = .ok (.ifCond .ne 34, 3) := by decide +kernel
theorem d_M_find_162 : decode b_M_find 162 = .ok (.aload_n 0, 1) := by decide +kernel
theorem d_M_find_163 : decode b_M_find 163 = .ok (.getfield 22, 3) := by decide +kernel
theorem d_M_find_166 : decode b_M_find 166 = .ok (.iload_n 1, 1) := by decide +kernel
theorem d_M_find_167 : decode b_M_find 167 = .ok (.iload_n 2, 1) := by decide +kernel
theorem d_M_find_168 : decode b_M_find 168 = .ok (.iload_n 1, 1) := by decide +kernel
theorem d_M_find_169 : decode b_M_find 169 = .ok (.if_icmp .eq 16, 3) := by decide +kernel
theorem d_M_find_172 : decode b_M_find 172 = .ok (.aload_n 0, 1) := by decide +kernel
theorem d_M_find_173 : decode b_M_find 173 = .ok (.iload_n 1, 1) := by decide +kernel
theorem d_M_find_174 : decode b_M_find 174 = .ok (.iload_n 2, 1) := by decide +kernel
theorem d_M_find_175 : decode b_M_find 175 = .ok (.invokevirtual 157, 3) := by decide +kernel
theorem d_M_find_178 : decode b_M_find 178 = .ok (.ifCond .eq 7, 3) := by decide +kernel
theorem d_M_find_181 : decode b_M_find 181 = .ok (.iconst 1, 1) := by decide +kernel
theorem d_M_find_182 : decode b_M_find 182 = .ok (.goto 4, 3) := by decide +kernel
theorem d_M_find_185 : decode b_M_find 185 = .ok (.iconst 0, 1) := by decide +kernel
theorem d_M_find_186 : decode b_M_find 186 = .ok (.bastore, 1) := by decide +kernel
theorem d_M_find_187 : decode b_M_find 187 = .ok (.iinc 2 1, 3) := by decide +kernel
theorem d_M_find_190 : decode b_M_find 190 = .ok (.goto (-45), 3) := by decide +kernel
theorem d_M_find_193 : decode b_M_find 193 = .ok (.iinc 1 1, 3) := by decide +kernel
theorem d_M_find_196 : decode b_M_find 196 = .ok (.goto (-68), 3) := by decide +kernel
theorem d_M_find_199 : decode b_M_find 199 = .ok (.iconst 0, 1) := by decide +kernel
theorem d_M_find_200 : decode b_M_find 200 = .ok (.istore_n 1, 1) := by decide +kernel
theorem d_M_find_201 : decode b_M_find 201 = .ok (.iconst 0, 1) := by decide +kernel
theorem d_M_find_202 : decode b_M_find 202 = .ok (.istore_n 2, 1) := by decide +kernel
theorem d_M_find_203 : decode b_M_find 203 = .ok (.iload_n 2, 1) := by decide +kernel
theorem d_M_find_204 : decode b_M_find 204 = .ok (.aload_n 0, 1) := by decide +kernel
theorem d_M_find_205 : decode b_M_find 205 = .ok (.getfield 147, 3) := by decide +kernel
theorem d_M_find_208 : decode b_M_find 208 = .ok (.if_icmp .ge 54, 3) := by decide +kernel
theorem d_M_find_211 : decode b_M_find 211 = .ok (.aload_n 0, 1) := by decide +kernel
theorem d_M_find_212 : decode b_M_find 212 = .ok (.getfield 22, 3) := by decide +kernel
theorem d_M_find_215 : decode b_M_find 215 = .ok (.iload_n 2, 1) := by decide +kernel
theorem d_M_find_216 : decode b_M_find 216 = .ok (.baload, 1) := by decide +kernel
theorem d_M_find_217 : decode b_M_find 217 = .ok (.ifCond .ne 39, 3) := by decide +kernel
theorem d_M_find_220 : decode b_M_find 220 = .ok (.iconst 0, 1) := by decide +kernel
theorem d_M_find_221 : decode b_M_find 221 = .ok (.istore_n 3, 1) := by decide +kernel
theorem d_M_find_222 : decode b_M_find 222 = .ok (.iload_n 3, 1) := by decide +kernel
theorem d_M_find_223 : decode b_M_find 223 = .ok (.iconst 4, 1) := by decide +kernel
theorem d_M_find_224 : decode b_M_find 224 = .ok (.if_icmp .ge 29, 3) := by decide +kernel
theorem d_M_find_227 : decode b_M_find 227 = .ok (.aload_n 0, 1) := by decide +kernel
theorem d_M_find_228 : decode b_M_find 228 = .ok (.getfield 19, 3) := by decide +kernel
theorem d_M_find_231 : decode b_M_find 231 = .ok (.iconst 4, 1) := by decide +kernel
theorem d_M_find_232 : decode b_M_find 232 = .ok (.iload_n 1, 1) := by decide +kernel
theorem d_M_find_233 : decode b_M_find 233 = .ok (.imul, 1) := by decide +kernel
theorem d_M_find_234 : decode b_M_find 234 = .ok (.iload_n 3, 1) := by decide +kernel
theorem d_M_find_235 : decode b_M_find 235 = .ok (.iadd, 1) := by decide +kernel
theorem d_M_find_236 : decode b_M_find 236 = .ok (.aload_n 0, 1) := by decide +kernel
theorem d_M_find_237 : decode b_M_find 237 = .ok (.getfield 19, 3) := by decide +kernel
theorem d_M_find_240 : decode b_M_find 240 = .ok (.iconst 4, 1) := by decide +kernel
theorem d_M_find_241 : decode b_M_find 241 = .ok (.iload_n 2, 1) := by decide +kernel
theorem d_M_find_242 : decode b_M_find 242 = .ok (.imul, 1) := by decide +kernel
theorem d_M_find_243 : decode b_M_find 243 = .ok (.iload_n 3, 1) := by decide +kernel
theorem d_M_find_244 : decode b_M_find 244 = .ok (.iadd, 1) := by decide +kernel
theorem d_M_find_245 : decode b_M_find 245 = .ok (.iaload, 1) := by decide +kernel
theorem d_M_find_246 : decode b_M_find 246 = .ok (.iastore, 1) := by decide +kernel
theorem d_M_find_247 : decode b_M_find 247 = .ok (.iinc 3 1, 3) := by decide +kernel
theorem d_M_find_250 : decode b_M_find 250 = .ok (.goto (-28), 3) := by decide +kernel
theorem d_M_find_253 : decode b_M_find 253 = .ok (.iinc 1 1, 3) := by decide +kernel
theorem d_M_find_256 : decode b_M_find 256 = .ok (.iinc 2 1, 3) := by decide +kernel
theorem d_M_find_259 : decode b_M_find 259 = .ok (.goto (-56), 3) := by decide +kernel
theorem d_M_find_262 : decode b_M_find 262 = .ok (.aload_n 0, 1) := by decide +kernel
theorem d_M_find_263 : decode b_M_find 263 = .ok (.iload_n 1, 1) := by decide +kernel
theorem d_M_find_264 : decode b_M_find 264 = .ok (.putfield 147, 3) := by decide +kernel
theorem d_M_find_267 : decode b_M_find 267 = .ok (.return_, 1) := by decide +kernel
theorem d_M_gcd_0 : decode b_M_gcd 0 = .ok (.lload_n 0, 1) := by decide +kernel
theorem d_M_gcd_1 : decode b_M_gcd 1 = .ok (.lconst 0, 1) := by decide +kernel
theorem d_M_gcd_2 : decode b_M_gcd 2 = .ok (.lcmp, 1) := by decide +kernel
theorem d_M_gcd_3 : decode b_M_gcd 3 = .ok (.ifCond .ge 8, 3) := by decide +kernel
theorem d_M_gcd_6 : decode b_M_gcd 6 = .ok (.lload_n 0, 1) := by decide +kernel
theorem d_M_gcd_7 : decode b_M_gcd 7 = .ok (.lneg, 1) := by decide +kernel
theorem d_M_gcd_8 : decode b_M_gcd 8 = .ok (.goto 4, 3) := by decide +kernel
theorem d_M_gcd_11 : decode b_M_gcd 11 = .ok (.lload_n 0, 1) := by decide +kernel
theorem d_M_gcd_12 : decode b_M_gcd 12 = .ok (.lstore 4, 2) := by decide +kernel
theorem d_M_gcd_14 : decode b_M_gcd 14 = .ok (.lload_n 2, 1) := by decide +kernel
theorem d_M_gcd_15 : decode b_M_gcd 15 = .ok (.lconst 0, 1) := by decide +kernel
theorem d_M_gcd_16 : decode b_M_gcd 16 = .ok (.lcmp, 1) := by decide +kernel
theorem d_M_gcd_17 : decode b_M_gcd 17 = .ok (.ifCond .ge 8, 3) := by decide +kernel
theorem d_M_gcd_20 : decode b_M_gcd 20 = .ok (.lload_n 2, 1) := by decide +kernel
theorem d_M_gcd_21 : decode b_M_gcd 21 = .ok (.lneg, 1) := by decide +kernel
theorem d_M_gcd_22 : decode b_M_gcd 22 = .ok (.goto 4, 3) := by decide +kernel
theorem d_M_gcd_25 : decode b_M_gcd 25 = .ok (.lload_n 2, 1) := by decide +kernel
theorem d_M_gcd_26 : decode b_M_gcd 26 = .ok (.lstore 6, 2) := by decide +kernel
theorem d_M_gcd_28 : decode b_M_gcd 28 = .ok (.lload 6, 2) := by decide +kernel
theorem d_M_gcd_30 : decode b_M_gcd 30 = .ok (.lconst 0, 1) := by decide +kernel
theorem d_M_gcd_31 : decode b_M_gcd 31 = .ok (.lcmp, 1) := by decide +kernel
theorem d_M_gcd_32 : decode b_M_gcd 32 = .ok (.ifCond .eq 21, 3) := by decide +kernel
theorem d_M_gcd_35 : decode b_M_gcd 35 = .ok (.lload 4, 2) := by decide +kernel
theorem d_M_gcd_37 : decode b_M_gcd 37 = .ok (.lload 6, 2) := by decide +kernel
theorem d_M_gcd_39 : decode b_M_gcd 39 = .ok (.lrem, 1) := by decide +kernel
theorem d_M_gcd_40 : decode b_M_gcd 40 = .ok (.lstore 8, 2) := by decide +kernel
theorem d_M_gcd_42 : decode b_M_gcd 42 = .ok (.lload 6, 2) := by decide +kernel
theorem d_M_gcd_44 : decode b_M_gcd 44 = .ok (.lstore 4, 2) := by decide +kernel
theorem d_M_gcd_46 : decode b_M_gcd 46 = .ok (.lload 8, 2) := by decide +kernel
theorem d_M_gcd_48 : decode b_M_gcd 48 = .ok (.lstore 6, 2) := by decide +kernel
theorem d_M_gcd_50 : decode b_M_gcd 50 = .ok (.goto (-22), 3) := by decide +kernel
theorem d_M_gcd_53 : decode b_M_gcd 53 = .ok (.lload 4, 2) := by decide +kernel
theorem d_M_gcd_55 : decode b_M_gcd 55 = .ok (.lreturn, 1) := by decide +kernel
theorem d_M_holds_0 : decode b_M_holds 0 = .ok (.aload_n 0, 1) := by decide +kernel
theorem d_M_holds_1 : decode b_M_holds 1 = .ok (.iconst 0, 1) := by decide +kernel
theorem d_M_holds_2 : decode b_M_holds 2 = .ok (.putfield 43, 3) := by decide +kernel
theorem d_M_holds_5 : decode b_M_holds 5 = .ok (.aload_n 0, 1) := by decide +kernel
theorem d_M_holds_6 : decode b_M_holds 6 = .ok (.iload_n 1, 1) := by decide +kernel
theorem d_M_holds_7 : decode b_M_holds 7 = .ok (.iload_n 2, 1) := by decide +kernel
theorem d_M_holds_8 : decode b_M_holds 8 = .ok (.iload_n 3, 1) := by decide +kernel
theorem d_M_holds_9 : decode b_M_holds 9 = .ok (.iload 4, 2) := by decide +kernel
theorem d_M_holds_11 : decode b_M_holds 11 = .ok (.invokevirtual 50, 3) := by decide +kernel
theorem d_M_holds_14 : decode b_M_holds 14 = .ok (.aload_n 0, 1) := by decide +kernel
theorem d_M_holds_15 : decode b_M_holds 15 = .ok (.aload_n 0, 1) := by decide +kernel
theorem d_M_holds_16 : decode b_M_holds 16 = .ok (.getfield 33, 3) := by decide +kernel
theorem d_M_holds_19 : decode b_M_holds 19 = .ok (.iconst 0, 1) := by decide +kernel
theorem d_M_holds_20 : decode b_M_holds 20 = .ok (.invokevirtual 124, 3) := by decide +kernel
theorem d_M_holds_23 : decode b_M_holds 23 = .ok (.ireturn, 1) := by decide +kernel
theorem d_M_holdsAt_0 : decode b_M_holdsAt 0 = .ok (.iconst 1, 1) := by decide +kernel
theorem d_M_holdsAt_1 : decode b_M_holdsAt 1 = .ok (.istore_n 3, 1) := by decide +kernel
theorem d_M_holdsAt_2 : decode b_M_holdsAt 2 = .ok (.iconst 0, 1) := by decide +kernel
theorem d_M_holdsAt_3 : decode b_M_holdsAt 3 = .ok (.istore 4, 2) := by decide +kernel
theorem d_M_holdsAt_5 : decode b_M_holdsAt 5 = .ok (.iload 4, 2) := by decide +kernel
theorem d_M_holdsAt_7 : decode b_M_holdsAt 7 = .ok (.aload_n 0, 1) := by decide +kernel
theorem d_M_holdsAt_8 : decode b_M_holdsAt 8 = .ok (.getfield 62, 3) := by decide +kernel
theorem d_M_holdsAt_11 : decode b_M_holdsAt 11 = .ok (.if_icmp .ge 32, 3) := by decide +kernel
theorem d_M_holdsAt_14 : decode b_M_holdsAt 14 = .ok (.iload_n 3, 1) := by decide +kernel
theorem d_M_holdsAt_15 : decode b_M_holdsAt 15 = .ok (.ifCond .eq 20, 3) := by decide +kernel
theorem d_M_holdsAt_18 : decode b_M_holdsAt 18 = .ok (.aload_n 0, 1) := by decide +kernel
theorem d_M_holdsAt_19 : decode b_M_holdsAt 19 = .ok (.iload 4, 2) := by decide +kernel
theorem d_M_holdsAt_21 : decode b_M_holdsAt 21 = .ok (.aload_n 1, 1) := by decide +kernel
theorem d_M_holdsAt_22 : decode b_M_holdsAt 22 = .ok (.iload_n 2, 1) := by decide +kernel
theorem d_M_holdsAt_23 : decode b_M_holdsAt 23 = .ok (.invokevirtual 81, 3) := by decide +kernel
theorem d_M_holdsAt_26 : decode b_M_holdsAt 26 = .ok (.lconst 0, 1) := by decide +kernel
theorem d_M_holdsAt_27 : decode b_M_holdsAt 27 = .ok (.lcmp, 1) := by decide +kernel
theorem d_M_holdsAt_28 : decode b_M_holdsAt 28 = .ok (.ifCond .lt 7, 3) := by decide +kernel
theorem d_M_holdsAt_31 : decode b_M_holdsAt 31 = .ok (.iconst 1, 1) := by decide +kernel
theorem d_M_holdsAt_32 : decode b_M_holdsAt 32 = .ok (.goto 4, 3) := by decide +kernel
theorem d_M_holdsAt_35 : decode b_M_holdsAt 35 = .ok (.iconst 0, 1) := by decide +kernel
theorem d_M_holdsAt_36 : decode b_M_holdsAt 36 = .ok (.istore_n 3, 1) := by decide +kernel
theorem d_M_holdsAt_37 : decode b_M_holdsAt 37 = .ok (.iinc 4 1, 3) := by decide +kernel
theorem d_M_holdsAt_40 : decode b_M_holdsAt 40 = .ok (.goto (-35), 3) := by decide +kernel
theorem d_M_holdsAt_43 : decode b_M_holdsAt 43 = .ok (.iload_n 3, 1) := by decide +kernel
theorem d_M_holdsAt_44 : decode b_M_holdsAt 44 = .ok (.ireturn, 1) := by decide +kernel
theorem d_M_in_0 : decode b_M_in 0 = .ok (.iload_n 0, 1) := by decide +kernel
theorem d_M_in_1 : decode b_M_in 1 = .ok (.iload_n 1, 1) := by decide +kernel
theorem d_M_in_2 : decode b_M_in 2 = .ok (.ineg, 1) := by decide +kernel
theorem d_M_in_3 : decode b_M_in 3 = .ok (.if_icmp .lt 12, 3) := by decide +kernel
theorem d_M_in_6 : decode b_M_in 6 = .ok (.iload_n 0, 1) := by decide +kernel
theorem d_M_in_7 : decode b_M_in 7 = .ok (.iload_n 1, 1) := by decide +kernel
theorem d_M_in_8 : decode b_M_in 8 = .ok (.if_icmp .gt 7, 3) := by decide +kernel
theorem d_M_in_11 : decode b_M_in 11 = .ok (.iconst 1, 1) := by decide +kernel
theorem d_M_in_12 : decode b_M_in 12 = .ok (.goto 4, 3) := by decide +kernel
theorem d_M_in_15 : decode b_M_in 15 = .ok (.iconst 0, 1) := by decide +kernel
theorem d_M_in_16 : decode b_M_in 16 = .ok (.ireturn, 1) := by decide +kernel
theorem d_M_index_0 : decode b_M_index 0 = .ok (.lconst 0, 1) := by decide +kernel
theorem d_M_index_1 : decode b_M_index 1 = .ok (.lstore_n 1, 1) := by decide +kernel
theorem d_M_index_2 : decode b_M_index 2 = .ok (.iconst 0, 1) := by decide +kernel
theorem d_M_index_3 : decode b_M_index 3 = .ok (.istore_n 3, 1) := by decide +kernel
theorem d_M_index_4 : decode b_M_index 4 = .ok (.iload_n 3, 1) := by decide +kernel
theorem d_M_index_5 : decode b_M_index 5 = .ok (.bipush 16, 2) := by decide +kernel
theorem d_M_index_7 : decode b_M_index 7 = .ok (.if_icmp .ge 44, 3) := by decide +kernel
theorem d_M_index_10 : decode b_M_index 10 = .ok (.iload_n 3, 1) := by decide +kernel
theorem d_M_index_11 : decode b_M_index 11 = .ok (.invokestatic 104, 3) := by decide +kernel
theorem d_M_index_14 : decode b_M_index 14 = .ok (.aload_n 0, 1) := by decide +kernel
theorem d_M_index_15 : decode b_M_index 15 = .ok (.getfield 101, 3) := by decide +kernel
theorem d_M_index_18 : decode b_M_index 18 = .ok (.if_icmp .ne 27, 3) := by decide +kernel
theorem d_M_index_21 : decode b_M_index 21 = .ok (.iload_n 3, 1) := by decide +kernel
theorem d_M_index_22 : decode b_M_index 22 = .ok (.iconst 1, 1) := by decide +kernel
theorem d_M_index_23 : decode b_M_index 23 = .ok (.aload_n 0, 1) := by decide +kernel
theorem d_M_index_24 : decode b_M_index 24 = .ok (.getfield 39, 3) := by decide +kernel
theorem d_M_index_27 : decode b_M_index 27 = .ok (.ishl, 1) := by decide +kernel
theorem d_M_index_28 : decode b_M_index 28 = .ok (.if_icmp .ge 17, 3) := by decide +kernel
theorem d_M_index_31 : decode b_M_index 31 = .ok (.lload_n 1, 1) := by decide +kernel
theorem d_M_index_32 : decode b_M_index 32 = .ok (.aload_n 0, 1) := by decide +kernel
theorem d_M_index_33 : decode b_M_index 33 = .ok (.aload_n 0, 1) := by decide +kernel
theorem d_M_index_34 : decode b_M_index 34 = .ok (.getfield 101, 3) := by decide +kernel
theorem d_M_index_37 : decode b_M_index 37 = .ok (.iload_n 3, 1) := by decide +kernel
theorem d_M_index_38 : decode b_M_index 38 = .ok (.invokevirtual 135, 3) := by decide +kernel
theorem d_M_index_41 : decode b_M_index 41 = .ok (.invokestatic 73, 3) := by decide +kernel
theorem d_M_index_44 : decode b_M_index 44 = .ok (.lstore_n 1, 1) := by decide +kernel
theorem d_M_index_45 : decode b_M_index 45 = .ok (.iinc 3 1, 3) := by decide +kernel
theorem d_M_index_48 : decode b_M_index 48 = .ok (.goto (-44), 3) := by decide +kernel
theorem d_M_index_51 : decode b_M_index 51 = .ok (.lload_n 1, 1) := by decide +kernel
theorem d_M_index_52 : decode b_M_index 52 = .ok (.lreturn, 1) := by decide +kernel
theorem d_M_indexed_0 : decode b_M_indexed 0 = .ok (.lconst 0, 1) := by decide +kernel
theorem d_M_indexed_1 : decode b_M_indexed 1 = .ok (.lstore_n 1, 1) := by decide +kernel
theorem d_M_indexed_2 : decode b_M_indexed 2 = .ok (.iconst 1, 1) := by decide +kernel
theorem d_M_indexed_3 : decode b_M_indexed 3 = .ok (.istore_n 3, 1) := by decide +kernel
theorem d_M_indexed_4 : decode b_M_indexed 4 = .ok (.iload_n 3, 1) := by decide +kernel
theorem d_M_indexed_5 : decode b_M_indexed 5 = .ok (.iconst 1, 1) := by decide +kernel
theorem d_M_indexed_6 : decode b_M_indexed 6 = .ok (.aload_n 0, 1) := by decide +kernel
theorem d_M_indexed_7 : decode b_M_indexed 7 = .ok (.getfield 95, 3) := by decide +kernel
theorem d_M_indexed_10 : decode b_M_indexed 10 = .ok (.ishl, 1) := by decide +kernel
theorem d_M_indexed_11 : decode b_M_indexed 11 = .ok (.if_icmp .ge 45, 3) := by decide +kernel
theorem d_M_indexed_14 : decode b_M_indexed 14 = .ok (.iload_n 3, 1) := by decide +kernel
theorem d_M_indexed_15 : decode b_M_indexed 15 = .ok (.invokestatic 104, 3) := by decide +kernel
theorem d_M_indexed_18 : decode b_M_indexed 18 = .ok (.aload_n 0, 1) := by decide +kernel
theorem d_M_indexed_19 : decode b_M_indexed 19 = .ok (.getfield 101, 3) := by decide +kernel
theorem d_M_indexed_22 : decode b_M_indexed 22 = .ok (.if_icmp .ne 28, 3) := by decide +kernel
theorem d_M_indexed_25 : decode b_M_indexed 25 = .ok (.aload_n 0, 1) := by decide +kernel
theorem d_M_indexed_26 : decode b_M_indexed 26 = .ok (.iload_n 3, 1) := by decide +kernel
theorem d_M_indexed_27 : decode b_M_indexed 27 = .ok (.invokevirtual 138, 3) := by decide +kernel
theorem d_M_indexed_30 : decode b_M_indexed 30 = .ok (.aload_n 0, 1) := by decide +kernel
theorem d_M_indexed_31 : decode b_M_indexed 31 = .ok (.invokevirtual 141, 3) := by decide +kernel
theorem d_M_indexed_34 : decode b_M_indexed 34 = .ok (.lstore 4, 2) := by decide +kernel
theorem d_M_indexed_36 : decode b_M_indexed 36 = .ok (.lload 4, 2) := by decide +kernel
theorem d_M_indexed_38 : decode b_M_indexed 38 = .ok (.lload_n 1, 1) := by decide +kernel
theorem d_M_indexed_39 : decode b_M_indexed 39 = .ok (.lcmp, 1) := by decide +kernel
theorem d_M_indexed_40 : decode b_M_indexed 40 = .ok (.ifCond .le 8, 3) := by decide +kernel
theorem d_M_indexed_43 : decode b_M_indexed 43 = .ok (.lload 4, 2) := by decide +kernel
theorem d_M_indexed_45 : decode b_M_indexed 45 = .ok (.goto 4, 3) := by decide +kernel
theorem d_M_indexed_48 : decode b_M_indexed 48 = .ok (.lload_n 1, 1) := by decide +kernel
theorem d_M_indexed_49 : decode b_M_indexed 49 = .ok (.lstore_n 1, 1) := by decide +kernel
theorem d_M_indexed_50 : decode b_M_indexed 50 = .ok (.iinc 3 1, 3) := by decide +kernel
theorem d_M_indexed_53 : decode b_M_indexed 53 = .ok (.goto (-49), 3) := by decide +kernel
theorem d_M_indexed_56 : decode b_M_indexed 56 = .ok (.lload_n 1, 1) := by decide +kernel
theorem d_M_indexed_57 : decode b_M_indexed 57 = .ok (.lreturn, 1) := by decide +kernel
theorem d_M_init_0 : decode b_M_init 0 = .ok (.aload_n 0, 1) := by decide +kernel
theorem d_M_init_1 : decode b_M_init 1 = .ok (.invokespecial 1, 3) := by decide +kernel
theorem d_M_init_4 : decode b_M_init 4 = .ok (.aload_n 0, 1) := by decide +kernel
theorem d_M_init_5 : decode b_M_init 5 = .ok (.bipush 32, 2) := by decide +kernel
theorem d_M_init_7 : decode b_M_init 7 = .ok (.newarray .int, 2) := by decide +kernel
theorem d_M_init_9 : decode b_M_init 9 = .ok (.putfield 7, 3) := by decide +kernel
theorem d_M_init_12 : decode b_M_init 12 = .ok (.aload_n 0, 1) := by decide +kernel
theorem d_M_init_13 : decode b_M_init 13 = .ok (.sipush 256, 3) := by decide +kernel
theorem d_M_init_16 : decode b_M_init 16 = .ok (.newarray .int, 2) := by decide +kernel
theorem d_M_init_18 : decode b_M_init 18 = .ok (.putfield 13, 3) := by decide +kernel
theorem d_M_init_21 : decode b_M_init 21 = .ok (.aload_n 0, 1) := by decide +kernel
theorem d_M_init_22 : decode b_M_init 22 = .ok (.bipush 8, 2) := by decide +kernel
theorem d_M_init_24 : decode b_M_init 24 = .ok (.newarray .int, 2) := by decide +kernel
theorem d_M_init_26 : decode b_M_init 26 = .ok (.putfield 16, 3) := by decide +kernel
theorem d_M_init_29 : decode b_M_init 29 = .ok (.aload_n 0, 1) := by decide +kernel
theorem d_M_init_30 : decode b_M_init 30 = .ok (.sipush 4000, 3) := by decide +kernel
theorem d_M_init_33 : decode b_M_init 33 = .ok (.newarray .int, 2) := by decide +kernel
theorem d_M_init_35 : decode b_M_init 35 = .ok (.putfield 19, 3) := by decide +kernel
theorem d_M_init_38 : decode b_M_init 38 = .ok (.aload_n 0, 1) := by decide +kernel
theorem d_M_init_39 : decode b_M_init 39 = .ok (.sipush 1000, 3) := by decide +kernel
theorem d_M_init_42 : decode b_M_init 42 = .ok (.newarray .boolean, 2) := by decide +kernel
theorem d_M_init_44 : decode b_M_init 44 = .ok (.putfield 22, 3) := by decide +kernel
theorem d_M_init_47 : decode b_M_init 47 = .ok (.aload_n 0, 1) := by decide +kernel
theorem d_M_init_48 : decode b_M_init 48 = .ok (.sipush 256, 3) := by decide +kernel
theorem d_M_init_51 : decode b_M_init 51 = .ok (.newarray .long, 2) := by decide +kernel
theorem d_M_init_53 : decode b_M_init 53 = .ok (.putfield 26, 3) := by decide +kernel
theorem d_M_init_56 : decode b_M_init 56 = .ok (.aload_n 0, 1) := by decide +kernel
theorem d_M_init_57 : decode b_M_init 57 = .ok (.bipush 8, 2) := by decide +kernel
theorem d_M_init_59 : decode b_M_init 59 = .ok (.newarray .int, 2) := by decide +kernel
theorem d_M_init_61 : decode b_M_init 61 = .ok (.putfield 30, 3) := by decide +kernel
theorem d_M_init_64 : decode b_M_init 64 = .ok (.aload_n 0, 1) := by decide +kernel
theorem d_M_init_65 : decode b_M_init 65 = .ok (.iconst 4, 1) := by decide +kernel
theorem d_M_init_66 : decode b_M_init 66 = .ok (.newarray .int, 2) := by decide +kernel
theorem d_M_init_68 : decode b_M_init 68 = .ok (.putfield 33, 3) := by decide +kernel
theorem d_M_init_71 : decode b_M_init 71 = .ok (.aload_n 0, 1) := by decide +kernel
theorem d_M_init_72 : decode b_M_init 72 = .ok (.iconst 4, 1) := by decide +kernel
theorem d_M_init_73 : decode b_M_init 73 = .ok (.newarray .int, 2) := by decide +kernel
theorem d_M_init_75 : decode b_M_init 75 = .ok (.putfield 36, 3) := by decide +kernel
theorem d_M_init_78 : decode b_M_init 78 = .ok (.aload_n 0, 1) := by decide +kernel
theorem d_M_init_79 : decode b_M_init 79 = .ok (.iload_n 1, 1) := by decide +kernel
theorem d_M_init_80 : decode b_M_init 80 = .ok (.iconst 2, 1) := by decide +kernel
theorem d_M_init_81 : decode b_M_init 81 = .ok (.if_icmp .ge 7, 3) := by decide +kernel
theorem d_M_init_84 : decode b_M_init 84 = .ok (.iconst 2, 1) := by decide +kernel
theorem d_M_init_85 : decode b_M_init 85 = .ok (.goto 13, 3) := by decide +kernel
theorem d_M_init_88 : decode b_M_init 88 = .ok (.iload_n 1, 1) := by decide +kernel
theorem d_M_init_89 : decode b_M_init 89 = .ok (.iconst 4, 1) := by decide +kernel
theorem d_M_init_90 : decode b_M_init 90 = .ok (.if_icmp .le 7, 3) := by decide +kernel
theorem d_M_init_93 : decode b_M_init 93 = .ok (.iconst 4, 1) := by decide +kernel
theorem d_M_init_94 : decode b_M_init 94 = .ok (.goto 4, 3) := by decide +kernel
theorem d_M_init_97 : decode b_M_init 97 = .ok (.iload_n 1, 1) := by decide +kernel
theorem d_M_init_98 : decode b_M_init 98 = .ok (.putfield 39, 3) := by decide +kernel
theorem d_M_init_101 : decode b_M_init 101 = .ok (.return_, 1) := by decide +kernel
theorem d_M_isFace_0 : decode b_M_isFace 0 = .ok (.iconst 1, 1) := by decide +kernel
theorem d_M_isFace_1 : decode b_M_isFace 1 = .ok (.aload_n 0, 1) := by decide +kernel
theorem d_M_isFace_2 : decode b_M_isFace 2 = .ok (.getfield 95, 3) := by decide +kernel
theorem d_M_isFace_5 : decode b_M_isFace 5 = .ok (.ishl, 1) := by decide +kernel
theorem d_M_isFace_6 : decode b_M_isFace 6 = .ok (.iconst 1, 1) := by decide +kernel
theorem d_M_isFace_7 : decode b_M_isFace 7 = .ok (.isub, 1) := by decide +kernel
theorem d_M_isFace_8 : decode b_M_isFace 8 = .ok (.istore_n 2, 1) := by decide +kernel
theorem d_M_isFace_9 : decode b_M_isFace 9 = .ok (.iconst 0, 1) := by decide +kernel
theorem d_M_isFace_10 : decode b_M_isFace 10 = .ok (.istore_n 3, 1) := by decide +kernel
theorem d_M_isFace_11 : decode b_M_isFace 11 = .ok (.iload_n 3, 1) := by decide +kernel
theorem d_M_isFace_12 : decode b_M_isFace 12 = .ok (.aload_n 0, 1) := by decide +kernel
theorem d_M_isFace_13 : decode b_M_isFace 13 = .ok (.getfield 62, 3) := by decide +kernel
theorem d_M_isFace_16 : decode b_M_isFace 16 = .ok (.if_icmp .ge 35, 3) := by decide +kernel
theorem d_M_isFace_19 : decode b_M_isFace 19 = .ok (.iload_n 1, 1) := by decide +kernel
theorem d_M_isFace_20 : decode b_M_isFace 20 = .ok (.aload_n 0, 1) := by decide +kernel
theorem d_M_isFace_21 : decode b_M_isFace 21 = .ok (.getfield 16, 3) := by decide +kernel
theorem d_M_isFace_24 : decode b_M_isFace 24 = .ok (.iload_n 3, 1) := by decide +kernel
theorem d_M_isFace_25 : decode b_M_isFace 25 = .ok (.iaload, 1) := by decide +kernel
theorem d_M_isFace_26 : decode b_M_isFace 26 = .ok (.iconst (-1), 1) := by decide +kernel
theorem d_M_isFace_27 : decode b_M_isFace 27 = .ok (.ixor, 1) := by decide +kernel
theorem d_M_isFace_28 : decode b_M_isFace 28 = .ok (.iand, 1) := by decide +kernel
theorem d_M_isFace_29 : decode b_M_isFace 29 = .ok (.ifCond .ne 14, 3) := by decide +kernel
theorem d_M_isFace_32 : decode b_M_isFace 32 = .ok (.iload_n 2, 1) := by decide +kernel
theorem d_M_isFace_33 : decode b_M_isFace 33 = .ok (.aload_n 0, 1) := by decide +kernel
theorem d_M_isFace_34 : decode b_M_isFace 34 = .ok (.getfield 16, 3) := by decide +kernel
theorem d_M_isFace_37 : decode b_M_isFace 37 = .ok (.iload_n 3, 1) := by decide +kernel
theorem d_M_isFace_38 : decode b_M_isFace 38 = .ok (.iaload, 1) := by decide +kernel
theorem d_M_isFace_39 : decode b_M_isFace 39 = .ok (.iand, 1) := by decide +kernel
theorem d_M_isFace_40 : decode b_M_isFace 40 = .ok (.goto 4, 3) := by decide +kernel
theorem d_M_isFace_43 : decode b_M_isFace 43 = .ok (.iload_n 2, 1) := by decide +kernel
theorem d_M_isFace_44 : decode b_M_isFace 44 = .ok (.istore_n 2, 1) := by decide +kernel
theorem d_M_isFace_45 : decode b_M_isFace 45 = .ok (.iinc 3 1, 3) := by decide +kernel
theorem d_M_isFace_48 : decode b_M_isFace 48 = .ok (.goto (-37), 3) := by decide +kernel
theorem d_M_isFace_51 : decode b_M_isFace 51 = .ok (.iload_n 2, 1) := by decide +kernel
theorem d_M_isFace_52 : decode b_M_isFace 52 = .ok (.iload_n 1, 1) := by decide +kernel
theorem d_M_isFace_53 : decode b_M_isFace 53 = .ok (.if_icmp .ne 7, 3) := by decide +kernel
theorem d_M_isFace_56 : decode b_M_isFace 56 = .ok (.iconst 1, 1) := by decide +kernel
theorem d_M_isFace_57 : decode b_M_isFace 57 = .ok (.goto 4, 3) := by decide +kernel
theorem d_M_isFace_60 : decode b_M_isFace 60 = .ok (.iconst 0, 1) := by decide +kernel
theorem d_M_isFace_61 : decode b_M_isFace 61 = .ok (.ireturn, 1) := by decide +kernel
theorem d_M_keepPoint_0 : decode b_M_keepPoint 0 = .ok (.iconst 0, 1) := by decide +kernel
theorem d_M_keepPoint_1 : decode b_M_keepPoint 1 = .ok (.istore_n 1, 1) := by decide +kernel
theorem d_M_keepPoint_2 : decode b_M_keepPoint 2 = .ok (.iload_n 1, 1) := by decide +kernel
theorem d_M_keepPoint_3 : decode b_M_keepPoint 3 = .ok (.aload_n 0, 1) := by decide +kernel
theorem d_M_keepPoint_4 : decode b_M_keepPoint 4 = .ok (.getfield 147, 3) := by decide +kernel
theorem d_M_keepPoint_7 : decode b_M_keepPoint 7 = .ok (.if_icmp .ge 23, 3) := by decide +kernel
theorem d_M_keepPoint_10 : decode b_M_keepPoint 10 = .ok (.aload_n 0, 1) := by decide +kernel
theorem d_M_keepPoint_11 : decode b_M_keepPoint 11 = .ok (.aload_n 0, 1) := by decide +kernel
theorem d_M_keepPoint_12 : decode b_M_keepPoint 12 = .ok (.getfield 19, 3) := by decide +kernel
theorem d_M_keepPoint_15 : decode b_M_keepPoint 15 = .ok (.iconst 4, 1) := by decide +kernel
theorem d_M_keepPoint_16 : decode b_M_keepPoint 16 = .ok (.iload_n 1, 1) := by decide +kernel
theorem d_M_keepPoint_17 : decode b_M_keepPoint 17 = .ok (.imul, 1) := by decide +kernel
theorem d_M_keepPoint_18 : decode b_M_keepPoint 18 = .ok (.invokevirtual 131, 3) := by decide +kernel
theorem d_M_keepPoint_21 : decode b_M_keepPoint 21 = .ok (.ifCond .ge 9, 3) := by decide +kernel
theorem d_M_keepPoint_24 : decode b_M_keepPoint 24 = .ok (.iinc 1 1, 3) := by decide +kernel
theorem d_M_keepPoint_27 : decode b_M_keepPoint 27 = .ok (.goto (-25), 3) := by decide +kernel
theorem d_M_keepPoint_30 : decode b_M_keepPoint 30 = .ok (.aload_n 0, 1) := by decide +kernel
theorem d_M_keepPoint_31 : decode b_M_keepPoint 31 = .ok (.getfield 147, 3) := by decide +kernel
theorem d_M_keepPoint_34 : decode b_M_keepPoint 34 = .ok (.sipush 1000, 3) := by decide +kernel
theorem d_M_keepPoint_37 : decode b_M_keepPoint 37 = .ok (.if_icmp .eq 25, 3) := by decide +kernel
theorem d_M_keepPoint_40 : decode b_M_keepPoint 40 = .ok (.iload_n 1, 1) := by decide +kernel
theorem d_M_keepPoint_41 : decode b_M_keepPoint 41 = .ok (.aload_n 0, 1) := by decide +kernel
theorem d_M_keepPoint_42 : decode b_M_keepPoint 42 = .ok (.getfield 147, 3) := by decide +kernel
theorem d_M_keepPoint_45 : decode b_M_keepPoint 45 = .ok (.if_icmp .ge 18, 3) := by decide +kernel
theorem d_M_keepPoint_48 : decode b_M_keepPoint 48 = .ok (.aload_n 0, 1) := by decide +kernel
theorem d_M_keepPoint_49 : decode b_M_keepPoint 49 = .ok (.aload_n 0, 1) := by decide +kernel
theorem d_M_keepPoint_50 : decode b_M_keepPoint 50 = .ok (.getfield 19, 3) := by decide +kernel
theorem d_M_keepPoint_53 : decode b_M_keepPoint 53 = .ok (.iconst 4, 1) := by decide +kernel
theorem d_M_keepPoint_54 : decode b_M_keepPoint 54 = .ok (.iload_n 1, 1) := by decide +kernel
theorem d_M_keepPoint_55 : decode b_M_keepPoint 55 = .ok (.imul, 1) := by decide +kernel
theorem d_M_keepPoint_56 : decode b_M_keepPoint 56 = .ok (.invokevirtual 131, 3) := by decide +kernel
theorem d_M_keepPoint_59 : decode b_M_keepPoint 59 = .ok (.ifCond .ne 4, 3) := by decide +kernel
theorem d_M_keepPoint_62 : decode b_M_keepPoint 62 = .ok (.return_, 1) := by decide +kernel
theorem d_M_keepPoint_63 : decode b_M_keepPoint 63 = .ok (.iconst 4, 1) := by decide +kernel
theorem d_M_keepPoint_64 : decode b_M_keepPoint 64 = .ok (.aload_n 0, 1) := by decide +kernel
theorem d_M_keepPoint_65 : decode b_M_keepPoint 65 = .ok (.getfield 147, 3) := by decide +kernel
theorem d_M_keepPoint_68 : decode b_M_keepPoint 68 = .ok (.imul, 1) := by decide +kernel
theorem d_M_keepPoint_69 : decode b_M_keepPoint 69 = .ok (.iconst 1, 1) := by decide +kernel
theorem d_M_keepPoint_70 : decode b_M_keepPoint 70 = .ok (.isub, 1) := by decide +kernel
theorem d_M_keepPoint_71 : decode b_M_keepPoint 71 = .ok (.istore_n 2, 1) := by decide +kernel
theorem d_M_keepPoint_72 : decode b_M_keepPoint 72 = .ok (.iload_n 2, 1) := by decide +kernel
theorem d_M_keepPoint_73 : decode b_M_keepPoint 73 = .ok (.iconst 4, 1) := by decide +kernel
theorem d_M_keepPoint_74 : decode b_M_keepPoint 74 = .ok (.iload_n 1, 1) := by decide +kernel
theorem d_M_keepPoint_75 : decode b_M_keepPoint 75 = .ok (.imul, 1) := by decide +kernel
theorem d_M_keepPoint_76 : decode b_M_keepPoint 76 = .ok (.if_icmp .lt 23, 3) := by decide +kernel
theorem d_M_keepPoint_79 : decode b_M_keepPoint 79 = .ok (.aload_n 0, 1) := by decide +kernel
theorem d_M_keepPoint_80 : decode b_M_keepPoint 80 = .ok (.getfield 19, 3) := by decide +kernel
theorem d_M_keepPoint_83 : decode b_M_keepPoint 83 = .ok (.iload_n 2, 1) := by decide +kernel
theorem d_M_keepPoint_84 : decode b_M_keepPoint 84 = .ok (.iconst 4, 1) := by decide +kernel
theorem d_M_keepPoint_85 : decode b_M_keepPoint 85 = .ok (.iadd, 1) := by decide +kernel
theorem d_M_keepPoint_86 : decode b_M_keepPoint 86 = .ok (.aload_n 0, 1) := by decide +kernel
theorem d_M_keepPoint_87 : decode b_M_keepPoint 87 = .ok (.getfield 19, 3) := by decide +kernel
theorem d_M_keepPoint_90 : decode b_M_keepPoint 90 = .ok (.iload_n 2, 1) := by decide +kernel
theorem d_M_keepPoint_91 : decode b_M_keepPoint 91 = .ok (.iaload, 1) := by decide +kernel
theorem d_M_keepPoint_92 : decode b_M_keepPoint 92 = .ok (.iastore, 1) := by decide +kernel
theorem d_M_keepPoint_93 : decode b_M_keepPoint 93 = .ok (.iinc 2 (-1), 3) := by decide +kernel
theorem d_M_keepPoint_96 : decode b_M_keepPoint 96 = .ok (.goto (-24), 3) := by decide +kernel
theorem d_M_keepPoint_99 : decode b_M_keepPoint 99 = .ok (.iconst 0, 1) := by decide +kernel
theorem d_M_keepPoint_100 : decode b_M_keepPoint 100 = .ok (.istore_n 2, 1) := by decide +kernel
theorem d_M_keepPoint_101 : decode b_M_keepPoint 101 = .ok (.iload_n 2, 1) := by decide +kernel
theorem d_M_keepPoint_102 : decode b_M_keepPoint 102 = .ok (.iconst 4, 1) := by decide +kernel
theorem d_M_keepPoint_103 : decode b_M_keepPoint 103 = .ok (.if_icmp .ge 25, 3) := by decide +kernel
theorem d_M_keepPoint_106 : decode b_M_keepPoint 106 = .ok (.aload_n 0, 1) := by decide +kernel
theorem d_M_keepPoint_107 : decode b_M_keepPoint 107 = .ok (.getfield 19, 3) := by decide +kernel
theorem d_M_keepPoint_110 : decode b_M_keepPoint 110 = .ok (.iconst 4, 1) := by decide +kernel
theorem d_M_keepPoint_111 : decode b_M_keepPoint 111 = .ok (.iload_n 1, 1) := by decide +kernel
theorem d_M_keepPoint_112 : decode b_M_keepPoint 112 = .ok (.imul, 1) := by decide +kernel
theorem d_M_keepPoint_113 : decode b_M_keepPoint 113 = .ok (.iload_n 2, 1) := by decide +kernel
theorem d_M_keepPoint_114 : decode b_M_keepPoint 114 = .ok (.iadd, 1) := by decide +kernel
theorem d_M_keepPoint_115 : decode b_M_keepPoint 115 = .ok (.aload_n 0, 1) := by decide +kernel
theorem d_M_keepPoint_116 : decode b_M_keepPoint 116 = .ok (.getfield 33, 3) := by decide +kernel
theorem d_M_keepPoint_119 : decode b_M_keepPoint 119 = .ok (.iload_n 2, 1) := by decide +kernel
theorem d_M_keepPoint_120 : decode b_M_keepPoint 120 = .ok (.iaload, 1) := by decide +kernel
theorem d_M_keepPoint_121 : decode b_M_keepPoint 121 = .ok (.iastore, 1) := by decide +kernel
theorem d_M_keepPoint_122 : decode b_M_keepPoint 122 = .ok (.iinc 2 1, 3) := by decide +kernel
theorem d_M_keepPoint_125 : decode b_M_keepPoint 125 = .ok (.goto (-24), 3) := by decide +kernel
theorem d_M_keepPoint_128 : decode b_M_keepPoint 128 = .ok (.aload_n 0, 1) := by decide +kernel
theorem d_M_keepPoint_129 : decode b_M_keepPoint 129 = .ok (.dup, 1) := by decide +kernel
theorem d_M_keepPoint_130 : decode b_M_keepPoint 130 = .ok (.getfield 147, 3) := by decide +kernel
theorem d_M_keepPoint_133 : decode b_M_keepPoint 133 = .ok (.iconst 1, 1) := by decide +kernel
theorem d_M_keepPoint_134 : decode b_M_keepPoint 134 = .ok (.iadd, 1) := by decide +kernel
theorem d_M_keepPoint_135 : decode b_M_keepPoint 135 = .ok (.putfield 147, 3) := by decide +kernel
theorem d_M_keepPoint_138 : decode b_M_keepPoint 138 = .ok (.return_, 1) := by decide +kernel
theorem d_M_keepRay_0 : decode b_M_keepRay 0 = .ok (.iconst 0, 1) := by decide +kernel
theorem d_M_keepRay_1 : decode b_M_keepRay 1 = .ok (.istore_n 1, 1) := by decide +kernel
theorem d_M_keepRay_2 : decode b_M_keepRay 2 = .ok (.iload_n 1, 1) := by decide +kernel
theorem d_M_keepRay_3 : decode b_M_keepRay 3 = .ok (.aload_n 0, 1) := by decide +kernel
theorem d_M_keepRay_4 : decode b_M_keepRay 4 = .ok (.getfield 95, 3) := by decide +kernel
theorem d_M_keepRay_7 : decode b_M_keepRay 7 = .ok (.if_icmp .ge 23, 3) := by decide +kernel
theorem d_M_keepRay_10 : decode b_M_keepRay 10 = .ok (.aload_n 0, 1) := by decide +kernel
theorem d_M_keepRay_11 : decode b_M_keepRay 11 = .ok (.aload_n 0, 1) := by decide +kernel
theorem d_M_keepRay_12 : decode b_M_keepRay 12 = .ok (.getfield 13, 3) := by decide +kernel
theorem d_M_keepRay_15 : decode b_M_keepRay 15 = .ok (.iconst 4, 1) := by decide +kernel
theorem d_M_keepRay_16 : decode b_M_keepRay 16 = .ok (.iload_n 1, 1) := by decide +kernel
theorem d_M_keepRay_17 : decode b_M_keepRay 17 = .ok (.imul, 1) := by decide +kernel
theorem d_M_keepRay_18 : decode b_M_keepRay 18 = .ok (.invokevirtual 131, 3) := by decide +kernel
theorem d_M_keepRay_21 : decode b_M_keepRay 21 = .ok (.ifCond .ge 9, 3) := by decide +kernel
theorem d_M_keepRay_24 : decode b_M_keepRay 24 = .ok (.iinc 1 1, 3) := by decide +kernel
theorem d_M_keepRay_27 : decode b_M_keepRay 27 = .ok (.goto (-25), 3) := by decide +kernel
theorem d_M_keepRay_30 : decode b_M_keepRay 30 = .ok (.iload_n 1, 1) := by decide +kernel
theorem d_M_keepRay_31 : decode b_M_keepRay 31 = .ok (.aload_n 0, 1) := by decide +kernel
theorem d_M_keepRay_32 : decode b_M_keepRay 32 = .ok (.getfield 95, 3) := by decide +kernel
theorem d_M_keepRay_35 : decode b_M_keepRay 35 = .ok (.if_icmp .ge 18, 3) := by decide +kernel
theorem d_M_keepRay_38 : decode b_M_keepRay 38 = .ok (.aload_n 0, 1) := by decide +kernel
theorem d_M_keepRay_39 : decode b_M_keepRay 39 = .ok (.aload_n 0, 1) := by decide +kernel
theorem d_M_keepRay_40 : decode b_M_keepRay 40 = .ok (.getfield 13, 3) := by decide +kernel
theorem d_M_keepRay_43 : decode b_M_keepRay 43 = .ok (.iconst 4, 1) := by decide +kernel
theorem d_M_keepRay_44 : decode b_M_keepRay 44 = .ok (.iload_n 1, 1) := by decide +kernel
theorem d_M_keepRay_45 : decode b_M_keepRay 45 = .ok (.imul, 1) := by decide +kernel
theorem d_M_keepRay_46 : decode b_M_keepRay 46 = .ok (.invokevirtual 131, 3) := by decide +kernel
theorem d_M_keepRay_49 : decode b_M_keepRay 49 = .ok (.ifCond .ne 4, 3) := by decide +kernel
theorem d_M_keepRay_52 : decode b_M_keepRay 52 = .ok (.return_, 1) := by decide +kernel
theorem d_M_keepRay_53 : decode b_M_keepRay 53 = .ok (.iconst 4, 1) := by decide +kernel
theorem d_M_keepRay_54 : decode b_M_keepRay 54 = .ok (.aload_n 0, 1) := by decide +kernel
theorem d_M_keepRay_55 : decode b_M_keepRay 55 = .ok (.getfield 95, 3) := by decide +kernel
theorem d_M_keepRay_58 : decode b_M_keepRay 58 = .ok (.imul, 1) := by decide +kernel
theorem d_M_keepRay_59 : decode b_M_keepRay 59 = .ok (.iconst 1, 1) := by decide +kernel
theorem d_M_keepRay_60 : decode b_M_keepRay 60 = .ok (.isub, 1) := by decide +kernel
theorem d_M_keepRay_61 : decode b_M_keepRay 61 = .ok (.istore_n 2, 1) := by decide +kernel
theorem d_M_keepRay_62 : decode b_M_keepRay 62 = .ok (.iload_n 2, 1) := by decide +kernel
theorem d_M_keepRay_63 : decode b_M_keepRay 63 = .ok (.iconst 4, 1) := by decide +kernel
theorem d_M_keepRay_64 : decode b_M_keepRay 64 = .ok (.iload_n 1, 1) := by decide +kernel
theorem d_M_keepRay_65 : decode b_M_keepRay 65 = .ok (.imul, 1) := by decide +kernel
theorem d_M_keepRay_66 : decode b_M_keepRay 66 = .ok (.if_icmp .lt 23, 3) := by decide +kernel
theorem d_M_keepRay_69 : decode b_M_keepRay 69 = .ok (.aload_n 0, 1) := by decide +kernel
theorem d_M_keepRay_70 : decode b_M_keepRay 70 = .ok (.getfield 13, 3) := by decide +kernel
theorem d_M_keepRay_73 : decode b_M_keepRay 73 = .ok (.iload_n 2, 1) := by decide +kernel
theorem d_M_keepRay_74 : decode b_M_keepRay 74 = .ok (.iconst 4, 1) := by decide +kernel
theorem d_M_keepRay_75 : decode b_M_keepRay 75 = .ok (.iadd, 1) := by decide +kernel
theorem d_M_keepRay_76 : decode b_M_keepRay 76 = .ok (.aload_n 0, 1) := by decide +kernel
theorem d_M_keepRay_77 : decode b_M_keepRay 77 = .ok (.getfield 13, 3) := by decide +kernel
theorem d_M_keepRay_80 : decode b_M_keepRay 80 = .ok (.iload_n 2, 1) := by decide +kernel
theorem d_M_keepRay_81 : decode b_M_keepRay 81 = .ok (.iaload, 1) := by decide +kernel
theorem d_M_keepRay_82 : decode b_M_keepRay 82 = .ok (.iastore, 1) := by decide +kernel
theorem d_M_keepRay_83 : decode b_M_keepRay 83 = .ok (.iinc 2 (-1), 3) := by decide +kernel
theorem d_M_keepRay_86 : decode b_M_keepRay 86 = .ok (.goto (-24), 3) := by decide +kernel
theorem d_M_keepRay_89 : decode b_M_keepRay 89 = .ok (.iconst 0, 1) := by decide +kernel
theorem d_M_keepRay_90 : decode b_M_keepRay 90 = .ok (.istore_n 2, 1) := by decide +kernel
theorem d_M_keepRay_91 : decode b_M_keepRay 91 = .ok (.iload_n 2, 1) := by decide +kernel
theorem d_M_keepRay_92 : decode b_M_keepRay 92 = .ok (.iconst 4, 1) := by decide +kernel
theorem d_M_keepRay_93 : decode b_M_keepRay 93 = .ok (.if_icmp .ge 25, 3) := by decide +kernel
theorem d_M_keepRay_96 : decode b_M_keepRay 96 = .ok (.aload_n 0, 1) := by decide +kernel
theorem d_M_keepRay_97 : decode b_M_keepRay 97 = .ok (.getfield 13, 3) := by decide +kernel
theorem d_M_keepRay_100 : decode b_M_keepRay 100 = .ok (.iconst 4, 1) := by decide +kernel
theorem d_M_keepRay_101 : decode b_M_keepRay 101 = .ok (.iload_n 1, 1) := by decide +kernel
theorem d_M_keepRay_102 : decode b_M_keepRay 102 = .ok (.imul, 1) := by decide +kernel
theorem d_M_keepRay_103 : decode b_M_keepRay 103 = .ok (.iload_n 2, 1) := by decide +kernel
theorem d_M_keepRay_104 : decode b_M_keepRay 104 = .ok (.iadd, 1) := by decide +kernel
theorem d_M_keepRay_105 : decode b_M_keepRay 105 = .ok (.aload_n 0, 1) := by decide +kernel
theorem d_M_keepRay_106 : decode b_M_keepRay 106 = .ok (.getfield 33, 3) := by decide +kernel
theorem d_M_keepRay_109 : decode b_M_keepRay 109 = .ok (.iload_n 2, 1) := by decide +kernel
theorem d_M_keepRay_110 : decode b_M_keepRay 110 = .ok (.iaload, 1) := by decide +kernel
theorem d_M_keepRay_111 : decode b_M_keepRay 111 = .ok (.iastore, 1) := by decide +kernel
theorem d_M_keepRay_112 : decode b_M_keepRay 112 = .ok (.iinc 2 1, 3) := by decide +kernel
theorem d_M_keepRay_115 : decode b_M_keepRay 115 = .ok (.goto (-24), 3) := by decide +kernel
theorem d_M_keepRay_118 : decode b_M_keepRay 118 = .ok (.aload_n 0, 1) := by decide +kernel
theorem d_M_keepRay_119 : decode b_M_keepRay 119 = .ok (.dup, 1) := by decide +kernel
theorem d_M_keepRay_120 : decode b_M_keepRay 120 = .ok (.getfield 95, 3) := by decide +kernel
theorem d_M_keepRay_123 : decode b_M_keepRay 123 = .ok (.iconst 1, 1) := by decide +kernel
theorem d_M_keepRay_124 : decode b_M_keepRay 124 = .ok (.iadd, 1) := by decide +kernel
theorem d_M_keepRay_125 : decode b_M_keepRay 125 = .ok (.putfield 95, 3) := by decide +kernel
theorem d_M_keepRay_128 : decode b_M_keepRay 128 = .ok (.return_, 1) := by decide +kernel
theorem d_M_know_0 : decode b_M_know 0 = .ok (.aload_n 0, 1) := by decide +kernel
theorem d_M_know_1 : decode b_M_know 1 = .ok (.getfield 65, 3) := by decide +kernel
theorem d_M_know_4 : decode b_M_know 4 = .ok (.ifCond .eq 4, 3) := by decide +kernel
theorem d_M_know_7 : decode b_M_know 7 = .ok (.return_, 1) := by decide +kernel
theorem d_M_know_8 : decode b_M_know 8 = .ok (.aload_n 0, 1) := by decide +kernel
theorem d_M_know_9 : decode b_M_know 9 = .ok (.iconst 1, 1) := by decide +kernel
theorem d_M_know_10 : decode b_M_know 10 = .ok (.putfield 65, 3) := by decide +kernel
theorem d_M_know_13 : decode b_M_know 13 = .ok (.aload_n 0, 1) := by decide +kernel
theorem d_M_know_14 : decode b_M_know 14 = .ok (.iconst 0, 1) := by decide +kernel
theorem d_M_know_15 : decode b_M_know 15 = .ok (.putfield 85, 3) := by decide +kernel
theorem d_M_know_18 : decode b_M_know 18 = .ok (.iconst 0, 1) := by decide +kernel
theorem d_M_know_19 : decode b_M_know 19 = .ok (.istore_n 1, 1) := by decide +kernel
theorem d_M_know_20 : decode b_M_know 20 = .ok (.iload_n 1, 1) := by decide +kernel
theorem d_M_know_21 : decode b_M_know 21 = .ok (.iconst 4, 1) := by decide +kernel
theorem d_M_know_22 : decode b_M_know 22 = .ok (.aload_n 0, 1) := by decide +kernel
theorem d_M_know_23 : decode b_M_know 23 = .ok (.getfield 62, 3) := by decide +kernel
theorem d_M_know_26 : decode b_M_know 26 = .ok (.imul, 1) := by decide +kernel
theorem d_M_know_27 : decode b_M_know 27 = .ok (.if_icmp .ge 22, 3) := by decide +kernel
theorem d_M_know_30 : decode b_M_know 30 = .ok (.aload_n 0, 1) := by decide +kernel
theorem d_M_know_31 : decode b_M_know 31 = .ok (.getfield 26, 3) := by decide +kernel
theorem d_M_know_34 : decode b_M_know 34 = .ok (.iload_n 1, 1) := by decide +kernel
theorem d_M_know_35 : decode b_M_know 35 = .ok (.aload_n 0, 1) := by decide +kernel
theorem d_M_know_36 : decode b_M_know 36 = .ok (.getfield 7, 3) := by decide +kernel
theorem d_M_know_39 : decode b_M_know 39 = .ok (.iload_n 1, 1) := by decide +kernel
theorem d_M_know_40 : decode b_M_know 40 = .ok (.iaload, 1) := by decide +kernel
theorem d_M_know_41 : decode b_M_know 41 = .ok (.i2l, 1) := by decide +kernel
theorem d_M_know_42 : decode b_M_know 42 = .ok (.lastore, 1) := by decide +kernel
theorem d_M_know_43 : decode b_M_know 43 = .ok (.iinc 1 1, 3) := by decide +kernel
theorem d_M_know_46 : decode b_M_know 46 = .ok (.goto (-26), 3) := by decide +kernel
theorem d_M_know_49 : decode b_M_know 49 = .ok (.aload_n 0, 1) := by decide +kernel
theorem d_M_know_50 : decode b_M_know 50 = .ok (.aload_n 0, 1) := by decide +kernel
theorem d_M_know_51 : decode b_M_know 51 = .ok (.aload_n 0, 1) := by decide +kernel
theorem d_M_know_52 : decode b_M_know 52 = .ok (.getfield 62, 3) := by decide +kernel
theorem d_M_know_55 : decode b_M_know 55 = .ok (.invokevirtual 88, 3) := by decide +kernel
theorem d_M_know_58 : decode b_M_know 58 = .ok (.putfield 92, 3) := by decide +kernel
theorem d_M_know_61 : decode b_M_know 61 = .ok (.aload_n 0, 1) := by decide +kernel
theorem d_M_know_62 : decode b_M_know 62 = .ok (.iconst 0, 1) := by decide +kernel
theorem d_M_know_63 : decode b_M_know 63 = .ok (.putfield 95, 3) := by decide +kernel
theorem d_M_know_66 : decode b_M_know 66 = .ok (.aload_n 0, 1) := by decide +kernel
theorem d_M_know_67 : decode b_M_know 67 = .ok (.iconst 0, 1) := by decide +kernel
theorem d_M_know_68 : decode b_M_know 68 = .ok (.putfield 98, 3) := by decide +kernel
theorem d_M_know_71 : decode b_M_know 71 = .ok (.aload_n 0, 1) := by decide +kernel
theorem d_M_know_72 : decode b_M_know 72 = .ok (.iconst 0, 1) := by decide +kernel
theorem d_M_know_73 : decode b_M_know 73 = .ok (.putfield 101, 3) := by decide +kernel
theorem d_M_know_76 : decode b_M_know 76 = .ok (.aload_n 0, 1) := by decide +kernel
theorem d_M_know_77 : decode b_M_know 77 = .ok (.getfield 92, 3) := by decide +kernel
theorem d_M_know_80 : decode b_M_know 80 = .ok (.aload_n 0, 1) := by decide +kernel
theorem d_M_know_81 : decode b_M_know 81 = .ok (.getfield 39, 3) := by decide +kernel
theorem d_M_know_84 : decode b_M_know 84 = .ok (.if_icmp .ge 4, 3) := by decide +kernel
theorem d_M_know_87 : decode b_M_know 87 = .ok (.return_, 1) := by decide +kernel
theorem d_M_know_88 : decode b_M_know 88 = .ok (.iconst 0, 1) := by decide +kernel
theorem d_M_know_89 : decode b_M_know 89 = .ok (.istore_n 1, 1) := by decide +kernel
theorem d_M_know_90 : decode b_M_know 90 = .ok (.iload_n 1, 1) := by decide +kernel
theorem d_M_know_91 : decode b_M_know 91 = .ok (.iconst 1, 1) := by decide +kernel
theorem d_M_know_92 : decode b_M_know 92 = .ok (.aload_n 0, 1) := by decide +kernel
theorem d_M_know_93 : decode b_M_know 93 = .ok (.getfield 62, 3) := by decide +kernel
theorem d_M_know_96 : decode b_M_know 96 = .ok (.ishl, 1) := by decide +kernel
theorem d_M_know_97 : decode b_M_know 97 = .ok (.if_icmp .ge 27, 3) := by decide +kernel
theorem d_M_know_100 : decode b_M_know 100 = .ok (.iload_n 1, 1) := by decide +kernel
theorem d_M_know_101 : decode b_M_know 101 = .ok (.invokestatic 104, 3) := by decide +kernel
theorem d_M_know_104 : decode b_M_know 104 = .ok (.aload_n 0, 1) := by decide +kernel
theorem d_M_know_105 : decode b_M_know 105 = .ok (.getfield 39, 3) := by decide +kernel
theorem d_M_know_108 : decode b_M_know 108 = .ok (.iconst 1, 1) := by decide +kernel
theorem d_M_know_109 : decode b_M_know 109 = .ok (.isub, 1) := by decide +kernel
theorem d_M_know_110 : decode b_M_know 110 = .ok (.if_icmp .ne 8, 3) := by decide +kernel
theorem d_M_know_113 : decode b_M_know 113 = .ok (.aload_n 0, 1) := by decide +kernel
theorem d_M_know_114 : decode b_M_know 114 = .ok (.iload_n 1, 1) := by decide +kernel
theorem d_M_know_115 : decode b_M_know 115 = .ok (.invokevirtual 107, 3) := by decide +kernel
theorem d_M_know_118 : decode b_M_know 118 = .ok (.iinc 1 1, 3) := by decide +kernel
theorem d_M_know_121 : decode b_M_know 121 = .ok (.goto (-31), 3) := by decide +kernel
theorem d_M_know_124 : decode b_M_know 124 = .ok (.iconst 0, 1) := by decide +kernel
theorem d_M_know_125 : decode b_M_know 125 = .ok (.istore_n 1, 1) := by decide +kernel
theorem d_M_know_126 : decode b_M_know 126 = .ok (.iload_n 1, 1) := by decide +kernel
theorem d_M_know_127 : decode b_M_know 127 = .ok (.aload_n 0, 1) := by decide +kernel
theorem d_M_know_128 : decode b_M_know 128 = .ok (.getfield 62, 3) := by decide +kernel
theorem d_M_know_131 : decode b_M_know 131 = .ok (.if_icmp .ge 74, 3) := by decide +kernel
theorem d_M_know_134 : decode b_M_know 134 = .ok (.aload_n 0, 1) := by decide +kernel
theorem d_M_know_135 : decode b_M_know 135 = .ok (.getfield 16, 3) := by decide +kernel
theorem d_M_know_138 : decode b_M_know 138 = .ok (.iload_n 1, 1) := by decide +kernel
theorem d_M_know_139 : decode b_M_know 139 = .ok (.iconst 0, 1) := by decide +kernel
theorem d_M_know_140 : decode b_M_know 140 = .ok (.iastore, 1) := by decide +kernel
theorem d_M_know_141 : decode b_M_know 141 = .ok (.iconst 0, 1) := by decide +kernel
theorem d_M_know_142 : decode b_M_know 142 = .ok (.istore_n 2, 1) := by decide +kernel
theorem d_M_know_143 : decode b_M_know 143 = .ok (.iload_n 2, 1) := by decide +kernel
theorem d_M_know_144 : decode b_M_know 144 = .ok (.aload_n 0, 1) := by decide +kernel
theorem d_M_know_145 : decode b_M_know 145 = .ok (.getfield 95, 3) := by decide +kernel
theorem d_M_know_148 : decode b_M_know 148 = .ok (.if_icmp .ge 51, 3) := by decide +kernel
theorem d_M_know_151 : decode b_M_know 151 = .ok (.aload_n 0, 1) := by decide +kernel
theorem d_M_know_152 : decode b_M_know 152 = .ok (.getfield 16, 3) := by decide +kernel
theorem d_M_know_155 : decode b_M_know 155 = .ok (.iload_n 1, 1) := by decide +kernel
theorem d_M_know_156 : decode b_M_know 156 = .ok (.aload_n 0, 1) := by decide +kernel
theorem d_M_know_157 : decode b_M_know 157 = .ok (.iload_n 1, 1) := by decide +kernel
theorem d_M_know_158 : decode b_M_know 158 = .ok (.aload_n 0, 1) := by decide +kernel
theorem d_M_know_159 : decode b_M_know 159 = .ok (.getfield 13, 3) := by decide +kernel
theorem d_M_know_162 : decode b_M_know 162 = .ok (.iconst 4, 1) := by decide +kernel
theorem d_M_know_163 : decode b_M_know 163 = .ok (.iload_n 2, 1) := by decide +kernel
theorem d_M_know_164 : decode b_M_know 164 = .ok (.imul, 1) := by decide +kernel
theorem d_M_know_165 : decode b_M_know 165 = .ok (.invokevirtual 81, 3) := by decide +kernel
theorem d_M_know_168 : decode b_M_know 168 = .ok (.lconst 0, 1) := by decide +kernel
theorem d_M_know_169 : decode b_M_know 169 = .ok (.lcmp, 1) := by decide +kernel
theorem d_M_know_170 : decode b_M_know 170 = .ok (.ifCond .ne 16, 3) := by decide +kernel
theorem d_M_know_173 : decode b_M_know 173 = .ok (.aload_n 0, 1) := by decide +kernel
theorem d_M_know_174 : decode b_M_know 174 = .ok (.getfield 16, 3) := by decide +kernel
theorem d_M_know_177 : decode b_M_know 177 = .ok (.iload_n 1, 1) := by decide +kernel
theorem d_M_know_178 : decode b_M_know 178 = .ok (.iaload, 1) := by decide +kernel
theorem d_M_know_179 : decode b_M_know 179 = .ok (.iconst 1, 1) := by decide +kernel
theorem d_M_know_180 : decode b_M_know 180 = .ok (.iload_n 2, 1) := by decide +kernel
theorem d_M_know_181 : decode b_M_know 181 = .ok (.ishl, 1) := by decide +kernel
theorem d_M_know_182 : decode b_M_know 182 = .ok (.ior, 1) := by decide +kernel
theorem d_M_know_183 : decode b_M_know 183 = .ok (.goto 9, 3) := by decide +kernel
theorem d_M_know_186 : decode b_M_know 186 = .ok (.aload_n 0, 1) := by decide +kernel
theorem d_M_know_187 : decode b_M_know 187 = .ok (.getfield 16, 3) := by decide +kernel
theorem d_M_know_190 : decode b_M_know 190 = .ok (.iload_n 1, 1) := by decide +kernel
theorem d_M_know_191 : decode b_M_know 191 = .ok (.iaload, 1) := by decide +kernel
theorem d_M_know_192 : decode b_M_know 192 = .ok (.iastore, 1) := by decide +kernel
theorem d_M_know_193 : decode b_M_know 193 = .ok (.iinc 2 1, 3) := by decide +kernel
theorem d_M_know_196 : decode b_M_know 196 = .ok (.goto (-53), 3) := by decide +kernel
theorem d_M_know_199 : decode b_M_know 199 = .ok (.iinc 1 1, 3) := by decide +kernel
theorem d_M_know_202 : decode b_M_know 202 = .ok (.goto (-76), 3) := by decide +kernel
theorem d_M_know_205 : decode b_M_know 205 = .ok (.aload_n 0, 1) := by decide +kernel
theorem d_M_know_206 : decode b_M_know 206 = .ok (.aload_n 0, 1) := by decide +kernel
theorem d_M_know_207 : decode b_M_know 207 = .ok (.iconst 1, 1) := by decide +kernel
theorem d_M_know_208 : decode b_M_know 208 = .ok (.aload_n 0, 1) := by decide +kernel
theorem d_M_know_209 : decode b_M_know 209 = .ok (.getfield 95, 3) := by decide +kernel
theorem d_M_know_212 : decode b_M_know 212 = .ok (.ishl, 1) := by decide +kernel
theorem d_M_know_213 : decode b_M_know 213 = .ok (.iconst 1, 1) := by decide +kernel
theorem d_M_know_214 : decode b_M_know 214 = .ok (.isub, 1) := by decide +kernel
theorem d_M_know_215 : decode b_M_know 215 = .ok (.invokevirtual 111, 3) := by decide +kernel
theorem d_M_know_218 : decode b_M_know 218 = .ok (.putfield 101, 3) := by decide +kernel
theorem d_M_know_221 : decode b_M_know 221 = .ok (.aload_n 0, 1) := by decide +kernel
theorem d_M_know_222 : decode b_M_know 222 = .ok (.aload_n 0, 1) := by decide +kernel
theorem d_M_know_223 : decode b_M_know 223 = .ok (.getfield 95, 3) := by decide +kernel
theorem d_M_know_226 : decode b_M_know 226 = .ok (.bipush 8, 2) := by decide +kernel
theorem d_M_know_228 : decode b_M_know 228 = .ok (.if_icmp .gt 14, 3) := by decide +kernel
theorem d_M_know_231 : decode b_M_know 231 = .ok (.aload_n 0, 1) := by decide +kernel
theorem d_M_know_232 : decode b_M_know 232 = .ok (.invokevirtual 114, 3) := by decide +kernel
theorem d_M_know_235 : decode b_M_know 235 = .ok (.ldc2_w 118, 3) := by decide +kernel
theorem d_M_know_238 : decode b_M_know 238 = .ok (.lcmp, 1) := by decide +kernel
theorem d_M_know_239 : decode b_M_know 239 = .ok (.ifCond .le 7, 3) := by decide +kernel
theorem d_M_know_242 : decode b_M_know 242 = .ok (.iconst 1, 1) := by decide +kernel
theorem d_M_know_243 : decode b_M_know 243 = .ok (.goto 4, 3) := by decide +kernel
theorem d_M_know_246 : decode b_M_know 246 = .ok (.iconst 0, 1) := by decide +kernel
theorem d_M_know_247 : decode b_M_know 247 = .ok (.putfield 98, 3) := by decide +kernel
theorem d_M_know_250 : decode b_M_know 250 = .ok (.return_, 1) := by decide +kernel
