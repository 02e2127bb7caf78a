-- decode rows, by wip/tools/decodes.py
theorem d_M_least_0 : decode b_M_least 0 = .ok (.aload_n 0, 1) := by decide +kernel
theorem d_M_least_1 : decode b_M_least 1 = .ok (.iload_n 1, 1) := by decide +kernel
theorem d_M_least_2 : decode b_M_least 2 = .ok (.iload_n 2, 1) := by decide +kernel
theorem d_M_least_3 : decode b_M_least 3 = .ok (.iload_n 3, 1) := by decide +kernel
theorem d_M_least_4 : decode b_M_least 4 = .ok (.iload 4, 2) := by decide +kernel
theorem d_M_least_6 : decode b_M_least 6 = .ok (.invokevirtual 50, 3) := by decide +kernel
theorem d_M_least_9 : decode b_M_least 9 = .ok (.aload_n 0, 1) := by decide +kernel
theorem d_M_least_10 : decode b_M_least 10 = .ok (.sipush 1000, 3) := by decide +kernel
theorem d_M_least_13 : decode b_M_least 13 = .ok (.invokevirtual 54, 3) := by decide +kernel
theorem d_M_least_16 : decode b_M_least 16 = .ok (.ifCond .ne 10, 3) := by decide +kernel
theorem d_M_least_19 : decode b_M_least 19 = .ok (.aload_n 0, 1) := by decide +kernel
theorem d_M_least_20 : decode b_M_least 20 = .ok (.iconst 1, 1) := by decide +kernel
theorem d_M_least_21 : decode b_M_least 21 = .ok (.putfield 43, 3) := by decide +kernel
theorem d_M_least_24 : decode b_M_least 24 = .ok (.iconst 0, 1) := by decide +kernel
theorem d_M_least_25 : decode b_M_least 25 = .ok (.ireturn, 1) := by decide +kernel
theorem d_M_least_26 : decode b_M_least 26 = .ok (.aload_n 0, 1) := by decide +kernel
theorem d_M_least_27 : decode b_M_least 27 = .ok (.iconst 2, 1) := by decide +kernel
theorem d_M_least_28 : decode b_M_least 28 = .ok (.invokevirtual 169, 3) := by decide +kernel
theorem d_M_least_31 : decode b_M_least 31 = .ok (.ifCond .ne 5, 3) := by decide +kernel
theorem d_M_least_34 : decode b_M_least 34 = .ok (.iconst 0, 1) := by decide +kernel
theorem d_M_least_35 : decode b_M_least 35 = .ok (.ireturn, 1) := by decide +kernel
theorem d_M_least_36 : decode b_M_least 36 = .ok (.aload_n 0, 1) := by decide +kernel
theorem d_M_least_37 : decode b_M_least 37 = .ok (.iload_n 1, 1) := by decide +kernel
theorem d_M_least_38 : decode b_M_least 38 = .ok (.iload_n 2, 1) := by decide +kernel
theorem d_M_least_39 : decode b_M_least 39 = .ok (.iload_n 3, 1) := by decide +kernel
theorem d_M_least_40 : decode b_M_least 40 = .ok (.iload 4, 2) := by decide +kernel
theorem d_M_least_42 : decode b_M_least 42 = .ok (.invokevirtual 50, 3) := by decide +kernel
theorem d_M_least_45 : decode b_M_least 45 = .ok (.iconst 0, 1) := by decide +kernel
theorem d_M_least_46 : decode b_M_least 46 = .ok (.istore 5, 2) := by decide +kernel
theorem d_M_least_48 : decode b_M_least 48 = .ok (.iconst 0, 1) := by decide +kernel
theorem d_M_least_49 : decode b_M_least 49 = .ok (.istore 6, 2) := by decide +kernel
theorem d_M_least_51 : decode b_M_least 51 = .ok (.iload 6, 2) := by decide +kernel
theorem d_M_least_53 : decode b_M_least 53 = .ok (.aload_n 0, 1) := by decide +kernel
theorem d_M_least_54 : decode b_M_least 54 = .ok (.getfield 147, 3) := by decide +kernel
theorem d_M_least_57 : decode b_M_least 57 = .ok (.if_icmp .ge 73, 3) := by decide +kernel
theorem d_M_least_60 : decode b_M_least 60 = .ok (.iconst 0, 1) := by decide +kernel
theorem d_M_least_61 : decode b_M_least 61 = .ok (.istore 7, 2) := by decide +kernel
theorem d_M_least_63 : decode b_M_least 63 = .ok (.iconst 0, 1) := by decide +kernel
theorem d_M_least_64 : decode b_M_least 64 = .ok (.istore 8, 2) := by decide +kernel
theorem d_M_least_66 : decode b_M_least 66 = .ok (.iload 8, 2) := by decide +kernel
theorem d_M_least_68 : decode b_M_least 68 = .ok (.iconst 4, 1) := by decide +kernel
theorem d_M_least_69 : decode b_M_least 69 = .ok (.if_icmp .ge 34, 3) := by decide +kernel
theorem d_M_least_72 : decode b_M_least 72 = .ok (.iload 7, 2) := by decide +kernel
theorem d_M_least_74 : decode b_M_least 74 = .ok (.aload_n 0, 1) := by decide +kernel
theorem d_M_least_75 : decode b_M_least 75 = .ok (.getfield 33, 3) := by decide +kernel
theorem d_M_least_78 : decode b_M_least 78 = .ok (.iload 8, 2) := by decide +kernel
theorem d_M_least_80 : decode b_M_least 80 = .ok (.iaload, 1) := by decide +kernel
theorem d_M_least_81 : decode b_M_least 81 = .ok (.aload_n 0, 1) := by decide +kernel
theorem d_M_least_82 : decode b_M_least 82 = .ok (.getfield 19, 3) := by decide +kernel
theorem d_M_least_85 : decode b_M_least 85 = .ok (.iconst 4, 1) := by decide +kernel
theorem d_M_least_86 : decode b_M_least 86 = .ok (.iload 6, 2) := by decide +kernel
theorem d_M_least_88 : decode b_M_least 88 = .ok (.imul, 1) := by decide +kernel
theorem d_M_least_89 : decode b_M_least 89 = .ok (.iload 8, 2) := by decide +kernel
theorem d_M_least_91 : decode b_M_least 91 = .ok (.iadd, 1) := by decide +kernel
theorem d_M_least_92 : decode b_M_least 92 = .ok (.iaload, 1) := by decide +kernel
theorem d_M_least_93 : decode b_M_least 93 = .ok (.imul, 1) := by decide +kernel
theorem d_M_least_94 : decode b_M_least 94 = .ok (.iadd, 1) := by decide +kernel
theorem d_M_least_95 : decode b_M_least 95 = .ok (.istore 7, 2) := by decide +kernel
theorem d_M_least_97 : decode b_M_least 97 = .ok (.iinc 8 1, 3) := by decide +kernel
theorem d_M_least_100 : decode b_M_least 100 = .ok (.goto (-34), 3) := by decide +kernel
theorem d_M_least_103 : decode b_M_least 103 = .ok (.iload 6, 2) := by decide +kernel
theorem d_M_least_105 : decode b_M_least 105 = .ok (.ifCond .eq 10, 3) := by decide +kernel
theorem d_M_least_108 : decode b_M_least 108 = .ok (.iload 7, 2) := by decide +kernel
theorem d_M_least_110 : decode b_M_least 110 = .ok (.iload 5, 2) := by decide +kernel
theorem d_M_least_112 : decode b_M_least 112 = .ok (.if_icmp .ge 8, 3) := by decide +kernel
theorem d_M_least_115 : decode b_M_least 115 = .ok (.iload 7, 2) := by decide +kernel
theorem d_M_least_117 : decode b_M_least 117 = .ok (.goto 5, 3) := by decide +kernel
theorem d_M_least_120 : decode b_M_least 120 = .ok (.iload 5, 2) := by decide +kernel
theorem d_M_least_122 : decode b_M_least 122 = .ok (.istore 5, 2) := by decide +kernel
theorem d_M_least_124 : decode b_M_least 124 = .ok (.iinc 6 1, 3) := by decide +kernel
theorem d_M_least_127 : decode b_M_least 127 = .ok (.goto (-76), 3) := by decide +kernel
theorem d_M_least_130 : decode b_M_least 130 = .ok (.iload 5, 2) := by decide +kernel
theorem d_M_least_132 : decode b_M_least 132 = .ok (.ireturn, 1) := by decide +kernel
theorem d_M_less_0 : decode b_M_less 0 = .ok (.iconst 1, 1) := by decide +kernel
theorem d_M_less_1 : decode b_M_less 1 = .ok (.istore_n 3, 1) := by decide +kernel
theorem d_M_less_2 : decode b_M_less 2 = .ok (.iconst 0, 1) := by decide +kernel
theorem d_M_less_3 : decode b_M_less 3 = .ok (.istore 4, 2) := by decide +kernel
theorem d_M_less_5 : decode b_M_less 5 = .ok (.iload 4, 2) := by decide +kernel
theorem d_M_less_7 : decode b_M_less 7 = .ok (.aload_n 0, 1) := by decide +kernel
theorem d_M_less_8 : decode b_M_less 8 = .ok (.getfield 62, 3) := by decide +kernel
theorem d_M_less_11 : decode b_M_less 11 = .ok (.if_icmp .ge 49, 3) := by decide +kernel
theorem d_M_less_14 : decode b_M_less 14 = .ok (.iload_n 3, 1) := by decide +kernel
theorem d_M_less_15 : decode b_M_less 15 = .ok (.ifCond .eq 37, 3) := by decide +kernel
theorem d_M_less_18 : decode b_M_less 18 = .ok (.aload_n 0, 1) := by decide +kernel
theorem d_M_less_19 : decode b_M_less 19 = .ok (.iload 4, 2) := by decide +kernel
theorem d_M_less_21 : decode b_M_less 21 = .ok (.aload_n 0, 1) := by decide +kernel
theorem d_M_less_22 : decode b_M_less 22 = .ok (.getfield 19, 3) := by decide +kernel
theorem d_M_less_25 : decode b_M_less 25 = .ok (.iconst 4, 1) := by decide +kernel
theorem d_M_less_26 : decode b_M_less 26 = .ok (.iload_n 1, 1) := by decide +kernel
theorem d_M_less_27 : decode b_M_less 27 = .ok (.imul, 1) := by decide +kernel
theorem d_M_less_28 : decode b_M_less 28 = .ok (.invokevirtual 81, 3) := by decide +kernel
theorem d_M_less_31 : decode b_M_less 31 = .ok (.aload_n 0, 1) := by decide +kernel
theorem d_M_less_32 : decode b_M_less 32 = .ok (.iload 4, 2) := by decide +kernel
theorem d_M_less_34 : decode b_M_less 34 = .ok (.aload_n 0, 1) := by decide +kernel
theorem d_M_less_35 : decode b_M_less 35 = .ok (.getfield 19, 3) := by decide +kernel
theorem d_M_less_38 : decode b_M_less 38 = .ok (.iconst 4, 1) := by decide +kernel
theorem d_M_less_39 : decode b_M_less 39 = .ok (.iload_n 2, 1) := by decide +kernel
theorem d_M_less_40 : decode b_M_less 40 = .ok (.imul, 1) := by decide +kernel
theorem d_M_less_41 : decode b_M_less 41 = .ok (.invokevirtual 81, 3) := by decide +kernel
theorem d_M_less_44 : decode b_M_less 44 = .ok (.lcmp, 1) := by decide +kernel
theorem d_M_less_45 : decode b_M_less 45 = .ok (.ifCond .lt 7, 3) := by decide +kernel
theorem d_M_less_48 : decode b_M_less 48 = .ok (.iconst 1, 1) := by decide +kernel
theorem d_M_less_49 : decode b_M_less 49 = .ok (.goto 4, 3) := by decide +kernel
theorem d_M_less_52 : decode b_M_less 52 = .ok (.iconst 0, 1) := by decide +kernel
theorem d_M_less_53 : decode b_M_less 53 = .ok (.istore_n 3, 1) := by decide +kernel
theorem d_M_less_54 : decode b_M_less 54 = .ok (.iinc 4 1, 3) := by decide +kernel
theorem d_M_less_57 : decode b_M_less 57 = .ok (.goto (-52), 3) := by decide +kernel
theorem d_M_less_60 : decode b_M_less 60 = .ok (.iload_n 3, 1) := by decide +kernel
theorem d_M_less_61 : decode b_M_less 61 = .ok (.ireturn, 1) := by decide +kernel
theorem d_M_lessen_0 : decode b_M_lessen 0 = .ok (.aload_n 0, 1) := by decide +kernel
theorem d_M_lessen_1 : decode b_M_lessen 1 = .ok (.getfield 26, 3) := by decide +kernel
theorem d_M_lessen_4 : decode b_M_lessen 4 = .ok (.iconst 4, 1) := by decide +kernel
theorem d_M_lessen_5 : decode b_M_lessen 5 = .ok (.iload_n 2, 1) := by decide +kernel
theorem d_M_lessen_6 : decode b_M_lessen 6 = .ok (.imul, 1) := by decide +kernel
theorem d_M_lessen_7 : decode b_M_lessen 7 = .ok (.iload_n 3, 1) := by decide +kernel
theorem d_M_lessen_8 : decode b_M_lessen 8 = .ok (.iadd, 1) := by decide +kernel
theorem d_M_lessen_9 : decode b_M_lessen 9 = .ok (.laload, 1) := by decide +kernel
theorem d_M_lessen_10 : decode b_M_lessen 10 = .ok (.lstore 4, 2) := by decide +kernel
theorem d_M_lessen_12 : decode b_M_lessen 12 = .ok (.aload_n 0, 1) := by decide +kernel
theorem d_M_lessen_13 : decode b_M_lessen 13 = .ok (.getfield 26, 3) := by decide +kernel
theorem d_M_lessen_16 : decode b_M_lessen 16 = .ok (.iconst 4, 1) := by decide +kernel
theorem d_M_lessen_17 : decode b_M_lessen 17 = .ok (.iload_n 1, 1) := by decide +kernel
theorem d_M_lessen_18 : decode b_M_lessen 18 = .ok (.imul, 1) := by decide +kernel
theorem d_M_lessen_19 : decode b_M_lessen 19 = .ok (.iload_n 3, 1) := by decide +kernel
theorem d_M_lessen_20 : decode b_M_lessen 20 = .ok (.iadd, 1) := by decide +kernel
theorem d_M_lessen_21 : decode b_M_lessen 21 = .ok (.laload, 1) := by decide +kernel
theorem d_M_lessen_22 : decode b_M_lessen 22 = .ok (.lstore 6, 2) := by decide +kernel
theorem d_M_lessen_24 : decode b_M_lessen 24 = .ok (.lconst 0, 1) := by decide +kernel
theorem d_M_lessen_25 : decode b_M_lessen 25 = .ok (.lstore 8, 2) := by decide +kernel
theorem d_M_lessen_27 : decode b_M_lessen 27 = .ok (.iconst 0, 1) := by decide +kernel
theorem d_M_lessen_28 : decode b_M_lessen 28 = .ok (.istore 10, 2) := by decide +kernel
theorem d_M_lessen_30 : decode b_M_lessen 30 = .ok (.iload 10, 2) := by decide +kernel
theorem d_M_lessen_32 : decode b_M_lessen 32 = .ok (.iconst 4, 1) := by decide +kernel
theorem d_M_lessen_33 : decode b_M_lessen 33 = .ok (.if_icmp .ge 67, 3) := by decide +kernel
theorem d_M_lessen_36 : decode b_M_lessen 36 = .ok (.aload_n 0, 1) := by decide +kernel
theorem d_M_lessen_37 : decode b_M_lessen 37 = .ok (.getfield 26, 3) := by decide +kernel
theorem d_M_lessen_40 : decode b_M_lessen 40 = .ok (.iconst 4, 1) := by decide +kernel
theorem d_M_lessen_41 : decode b_M_lessen 41 = .ok (.iload_n 1, 1) := by decide +kernel
theorem d_M_lessen_42 : decode b_M_lessen 42 = .ok (.imul, 1) := by decide +kernel
theorem d_M_lessen_43 : decode b_M_lessen 43 = .ok (.iload 10, 2) := by decide +kernel
theorem d_M_lessen_45 : decode b_M_lessen 45 = .ok (.iadd, 1) := by decide +kernel
theorem d_M_lessen_46 : decode b_M_lessen 46 = .ok (.aload_n 0, 1) := by decide +kernel
theorem d_M_lessen_47 : decode b_M_lessen 47 = .ok (.getfield 26, 3) := by decide +kernel
theorem d_M_lessen_50 : decode b_M_lessen 50 = .ok (.iconst 4, 1) := by decide +kernel
theorem d_M_lessen_51 : decode b_M_lessen 51 = .ok (.iload_n 1, 1) := by decide +kernel
theorem d_M_lessen_52 : decode b_M_lessen 52 = .ok (.imul, 1) := by decide +kernel
theorem d_M_lessen_53 : decode b_M_lessen 53 = .ok (.iload 10, 2) := by decide +kernel
theorem d_M_lessen_55 : decode b_M_lessen 55 = .ok (.iadd, 1) := by decide +kernel
theorem d_M_lessen_56 : decode b_M_lessen 56 = .ok (.laload, 1) := by decide +kernel
theorem d_M_lessen_57 : decode b_M_lessen 57 = .ok (.lload 4, 2) := by decide +kernel
theorem d_M_lessen_59 : decode b_M_lessen 59 = .ok (.lmul, 1) := by decide +kernel
theorem d_M_lessen_60 : decode b_M_lessen 60 = .ok (.aload_n 0, 1) := by decide +kernel
theorem d_M_lessen_61 : decode b_M_lessen 61 = .ok (.getfield 26, 3) := by decide +kernel
theorem d_M_lessen_64 : decode b_M_lessen 64 = .ok (.iconst 4, 1) := by decide +kernel
theorem d_M_lessen_65 : decode b_M_lessen 65 = .ok (.iload_n 2, 1) := by decide +kernel
theorem d_M_lessen_66 : decode b_M_lessen 66 = .ok (.imul, 1) := by decide +kernel
theorem d_M_lessen_67 : decode b_M_lessen 67 = .ok (.iload 10, 2) := by decide +kernel
theorem d_M_lessen_69 : decode b_M_lessen 69 = .ok (.iadd, 1) := by decide +kernel
theorem d_M_lessen_70 : decode b_M_lessen 70 = .ok (.laload, 1) := by decide +kernel
theorem d_M_lessen_71 : decode b_M_lessen 71 = .ok (.lload 6, 2) := by decide +kernel
theorem d_M_lessen_73 : decode b_M_lessen 73 = .ok (.lmul, 1) := by decide +kernel
theorem d_M_lessen_74 : decode b_M_lessen 74 = .ok (.lsub, 1) := by decide +kernel
theorem d_M_lessen_75 : decode b_M_lessen 75 = .ok (.lastore, 1) := by decide +kernel
theorem d_M_lessen_76 : decode b_M_lessen 76 = .ok (.lload 8, 2) := by decide +kernel
theorem d_M_lessen_78 : decode b_M_lessen 78 = .ok (.aload_n 0, 1) := by decide +kernel
theorem d_M_lessen_79 : decode b_M_lessen 79 = .ok (.getfield 26, 3) := by decide +kernel
theorem d_M_lessen_82 : decode b_M_lessen 82 = .ok (.iconst 4, 1) := by decide +kernel
theorem d_M_lessen_83 : decode b_M_lessen 83 = .ok (.iload_n 1, 1) := by decide +kernel
theorem d_M_lessen_84 : decode b_M_lessen 84 = .ok (.imul, 1) := by decide +kernel
theorem d_M_lessen_85 : decode b_M_lessen 85 = .ok (.iload 10, 2) := by decide +kernel
theorem d_M_lessen_87 : decode b_M_lessen 87 = .ok (.iadd, 1) := by decide +kernel
theorem d_M_lessen_88 : decode b_M_lessen 88 = .ok (.laload, 1) := by decide +kernel
theorem d_M_lessen_89 : decode b_M_lessen 89 = .ok (.invokestatic 73, 3) := by decide +kernel
theorem d_M_lessen_92 : decode b_M_lessen 92 = .ok (.lstore 8, 2) := by decide +kernel
theorem d_M_lessen_94 : decode b_M_lessen 94 = .ok (.iinc 10 1, 3) := by decide +kernel
theorem d_M_lessen_97 : decode b_M_lessen 97 = .ok (.goto (-67), 3) := by decide +kernel
theorem d_M_lessen_100 : decode b_M_lessen 100 = .ok (.iconst 0, 1) := by decide +kernel
theorem d_M_lessen_101 : decode b_M_lessen 101 = .ok (.istore 10, 2) := by decide +kernel
theorem d_M_lessen_103 : decode b_M_lessen 103 = .ok (.iload 10, 2) := by decide +kernel
theorem d_M_lessen_105 : decode b_M_lessen 105 = .ok (.iconst 4, 1) := by decide +kernel
theorem d_M_lessen_106 : decode b_M_lessen 106 = .ok (.if_icmp .ge 32, 3) := by decide +kernel
theorem d_M_lessen_109 : decode b_M_lessen 109 = .ok (.lload 8, 2) := by decide +kernel
theorem d_M_lessen_111 : decode b_M_lessen 111 = .ok (.lconst 1, 1) := by decide +kernel
theorem d_M_lessen_112 : decode b_M_lessen 112 = .ok (.lcmp, 1) := by decide +kernel
theorem d_M_lessen_113 : decode b_M_lessen 113 = .ok (.ifCond .le 25, 3) := by decide +kernel
theorem d_M_lessen_116 : decode b_M_lessen 116 = .ok (.aload_n 0, 1) := by decide +kernel
theorem d_M_lessen_117 : decode b_M_lessen 117 = .ok (.getfield 26, 3) := by decide +kernel
theorem d_M_lessen_120 : decode b_M_lessen 120 = .ok (.iconst 4, 1) := by decide +kernel
theorem d_M_lessen_121 : decode b_M_lessen 121 = .ok (.iload_n 1, 1) := by decide +kernel
theorem d_M_lessen_122 : decode b_M_lessen 122 = .ok (.imul, 1) := by decide +kernel
theorem d_M_lessen_123 : decode b_M_lessen 123 = .ok (.iload 10, 2) := by decide +kernel
theorem d_M_lessen_125 : decode b_M_lessen 125 = .ok (.iadd, 1) := by decide +kernel
theorem d_M_lessen_126 : decode b_M_lessen 126 = .ok (.dup2, 1) := by decide +kernel
theorem d_M_lessen_127 : decode b_M_lessen 127 = .ok (.laload, 1) := by decide +kernel
theorem d_M_lessen_128 : decode b_M_lessen 128 = .ok (.lload 8, 2) := by decide +kernel
theorem d_M_lessen_130 : decode b_M_lessen 130 = .ok (.ldiv, 1) := by decide +kernel
theorem d_M_lessen_131 : decode b_M_lessen 131 = .ok (.lastore, 1) := by decide +kernel
theorem d_M_lessen_132 : decode b_M_lessen 132 = .ok (.iinc 10 1, 3) := by decide +kernel
theorem d_M_lessen_135 : decode b_M_lessen 135 = .ok (.goto (-32), 3) := by decide +kernel
theorem d_M_lessen_138 : decode b_M_lessen 138 = .ok (.return_, 1) := by decide +kernel
theorem d_M_look_0 : decode b_M_look 0 = .ok (.aload_n 0, 1) := by decide +kernel
theorem d_M_look_1 : decode b_M_look 1 = .ok (.iconst 0, 1) := by decide +kernel
theorem d_M_look_2 : decode b_M_look 2 = .ok (.putfield 43, 3) := by decide +kernel
theorem d_M_look_5 : decode b_M_look 5 = .ok (.aload_n 0, 1) := by decide +kernel
theorem d_M_look_6 : decode b_M_look 6 = .ok (.invokevirtual 144, 3) := by decide +kernel
theorem d_M_look_9 : decode b_M_look 9 = .ok (.iload_n 1, 1) := by decide +kernel
theorem d_M_look_10 : decode b_M_look 10 = .ok (.ifCond .eq 8, 3) := by decide +kernel
theorem d_M_look_13 : decode b_M_look 13 = .ok (.iload_n 1, 1) := by decide +kernel
theorem d_M_look_14 : decode b_M_look 14 = .ok (.iconst 1, 1) := by decide +kernel
theorem d_M_look_15 : decode b_M_look 15 = .ok (.if_icmp .ne 19, 3) := by decide +kernel
theorem d_M_look_18 : decode b_M_look 18 = .ok (.iload_n 1, 1) := by decide +kernel
theorem d_M_look_19 : decode b_M_look 19 = .ok (.ifCond .ne 10, 3) := by decide +kernel
theorem d_M_look_22 : decode b_M_look 22 = .ok (.aload_n 0, 1) := by decide +kernel
theorem d_M_look_23 : decode b_M_look 23 = .ok (.getfield 39, 3) := by decide +kernel
theorem d_M_look_26 : decode b_M_look 26 = .ok (.goto 7, 3) := by decide +kernel
theorem d_M_look_29 : decode b_M_look 29 = .ok (.aload_n 0, 1) := by decide +kernel
theorem d_M_look_30 : decode b_M_look 30 = .ok (.getfield 62, 3) := by decide +kernel
theorem d_M_look_33 : decode b_M_look 33 = .ok (.ireturn, 1) := by decide +kernel
theorem d_M_look_34 : decode b_M_look 34 = .ok (.iload_n 1, 1) := by decide +kernel
theorem d_M_look_35 : decode b_M_look 35 = .ok (.iconst 2, 1) := by decide +kernel
theorem d_M_look_36 : decode b_M_look 36 = .ok (.if_icmp .ne 10, 3) := by decide +kernel
theorem d_M_look_39 : decode b_M_look 39 = .ok (.aload_n 0, 1) := by decide +kernel
theorem d_M_look_40 : decode b_M_look 40 = .ok (.getfield 92, 3) := by decide +kernel
theorem d_M_look_43 : decode b_M_look 43 = .ok (.goto 21, 3) := by decide +kernel
theorem d_M_look_46 : decode b_M_look 46 = .ok (.iload_n 1, 1) := by decide +kernel
theorem d_M_look_47 : decode b_M_look 47 = .ok (.iconst 3, 1) := by decide +kernel
theorem d_M_look_48 : decode b_M_look 48 = .ok (.if_icmp .ne 15, 3) := by decide +kernel
theorem d_M_look_51 : decode b_M_look 51 = .ok (.aload_n 0, 1) := by decide +kernel
theorem d_M_look_52 : decode b_M_look 52 = .ok (.getfield 39, 3) := by decide +kernel
theorem d_M_look_55 : decode b_M_look 55 = .ok (.aload_n 0, 1) := by decide +kernel
theorem d_M_look_56 : decode b_M_look 56 = .ok (.getfield 92, 3) := by decide +kernel
theorem d_M_look_59 : decode b_M_look 59 = .ok (.isub, 1) := by decide +kernel
theorem d_M_look_60 : decode b_M_look 60 = .ok (.goto 4, 3) := by decide +kernel
theorem d_M_look_63 : decode b_M_look 63 = .ok (.iconst (-1), 1) := by decide +kernel
theorem d_M_look_64 : decode b_M_look 64 = .ok (.ireturn, 1) := by decide +kernel
theorem d_M_many_0 : decode b_M_many 0 = .ok (.iconst 0, 1) := by decide +kernel
theorem d_M_many_1 : decode b_M_many 1 = .ok (.istore_n 1, 1) := by decide +kernel
theorem d_M_many_2 : decode b_M_many 2 = .ok (.iconst 0, 1) := by decide +kernel
theorem d_M_many_3 : decode b_M_many 3 = .ok (.istore_n 2, 1) := by decide +kernel
theorem d_M_many_4 : decode b_M_many 4 = .ok (.iload_n 2, 1) := by decide +kernel
theorem d_M_many_5 : decode b_M_many 5 = .ok (.bipush 16, 2) := by decide +kernel
theorem d_M_many_7 : decode b_M_many 7 = .ok (.if_icmp .ge 17, 3) := by decide +kernel
theorem d_M_many_10 : decode b_M_many 10 = .ok (.iload_n 1, 1) := by decide +kernel
theorem d_M_many_11 : decode b_M_many 11 = .ok (.iload_n 0, 1) := by decide +kernel
theorem d_M_many_12 : decode b_M_many 12 = .ok (.iload_n 2, 1) := by decide +kernel
theorem d_M_many_13 : decode b_M_many 13 = .ok (.ishr, 1) := by decide +kernel
theorem d_M_many_14 : decode b_M_many 14 = .ok (.iconst 1, 1) := by decide +kernel
theorem d_M_many_15 : decode b_M_many 15 = .ok (.iand, 1) := by decide +kernel
theorem d_M_many_16 : decode b_M_many 16 = .ok (.iadd, 1) := by decide +kernel
theorem d_M_many_17 : decode b_M_many 17 = .ok (.istore_n 1, 1) := by decide +kernel
theorem d_M_many_18 : decode b_M_many 18 = .ok (.iinc 2 1, 3) := by decide +kernel
theorem d_M_many_21 : decode b_M_many 21 = .ok (.goto (-17), 3) := by decide +kernel
theorem d_M_many_24 : decode b_M_many 24 = .ok (.iload_n 1, 1) := by decide +kernel
theorem d_M_many_25 : decode b_M_many 25 = .ok (.ireturn, 1) := by decide +kernel
theorem d_M_may_0 : decode b_M_may 0 = .ok (.iconst 1, 1) := by decide +kernel
theorem d_M_may_1 : decode b_M_may 1 = .ok (.istore_n 2, 1) := by decide +kernel
theorem d_M_may_2 : decode b_M_may 2 = .ok (.iconst 0, 1) := by decide +kernel
theorem d_M_may_3 : decode b_M_may 3 = .ok (.istore_n 3, 1) := by decide +kernel
theorem d_M_may_4 : decode b_M_may 4 = .ok (.iload_n 3, 1) := by decide +kernel
theorem d_M_may_5 : decode b_M_may 5 = .ok (.aload_n 0, 1) := by decide +kernel
theorem d_M_may_6 : decode b_M_may 6 = .ok (.getfield 62, 3) := by decide +kernel
theorem d_M_may_9 : decode b_M_may 9 = .ok (.if_icmp .ge 45, 3) := by decide +kernel
theorem d_M_may_12 : decode b_M_may 12 = .ok (.iload_n 2, 1) := by decide +kernel
theorem d_M_may_13 : decode b_M_may 13 = .ok (.ifCond .eq 33, 3) := by decide +kernel
theorem d_M_may_16 : decode b_M_may 16 = .ok (.aload_n 0, 1) := by decide +kernel
theorem d_M_may_17 : decode b_M_may 17 = .ok (.iload_n 3, 1) := by decide +kernel
theorem d_M_may_18 : decode b_M_may 18 = .ok (.aload_n 0, 1) := by decide +kernel
theorem d_M_may_19 : decode b_M_may 19 = .ok (.getfield 33, 3) := by decide +kernel
theorem d_M_may_22 : decode b_M_may 22 = .ok (.iconst 0, 1) := by decide +kernel
theorem d_M_may_23 : decode b_M_may 23 = .ok (.invokevirtual 81, 3) := by decide +kernel
theorem d_M_may_26 : decode b_M_may 26 = .ok (.aload_n 0, 1) := by decide +kernel
theorem d_M_may_27 : decode b_M_may 27 = .ok (.iload_n 3, 1) := by decide +kernel
theorem d_M_may_28 : decode b_M_may 28 = .ok (.aload_n 0, 1) := by decide +kernel
theorem d_M_may_29 : decode b_M_may 29 = .ok (.getfield 19, 3) := by decide +kernel
theorem d_M_may_32 : decode b_M_may 32 = .ok (.iconst 4, 1) := by decide +kernel
theorem d_M_may_33 : decode b_M_may 33 = .ok (.iload_n 1, 1) := by decide +kernel
theorem d_M_may_34 : decode b_M_may 34 = .ok (.imul, 1) := by decide +kernel
theorem d_M_may_35 : decode b_M_may 35 = .ok (.invokevirtual 81, 3) := by decide +kernel
theorem d_M_may_38 : decode b_M_may 38 = .ok (.lcmp, 1) := by decide +kernel
theorem d_M_may_39 : decode b_M_may 39 = .ok (.ifCond .lt 7, 3) := by decide +kernel
theorem d_M_may_42 : decode b_M_may 42 = .ok (.iconst 1, 1) := by decide +kernel
theorem d_M_may_43 : decode b_M_may 43 = .ok (.goto 4, 3) := by decide +kernel
theorem d_M_may_46 : decode b_M_may 46 = .ok (.iconst 0, 1) := by decide +kernel
theorem d_M_may_47 : decode b_M_may 47 = .ok (.istore_n 2, 1) := by decide +kernel
theorem d_M_may_48 : decode b_M_may 48 = .ok (.iinc 3 1, 3) := by decide +kernel
theorem d_M_may_51 : decode b_M_may 51 = .ok (.goto (-47), 3) := by decide +kernel
theorem d_M_may_54 : decode b_M_may 54 = .ok (.iload_n 2, 1) := by decide +kernel
theorem d_M_may_55 : decode b_M_may 55 = .ok (.ireturn, 1) := by decide +kernel
theorem d_M_minor_0 : decode b_M_minor 0 = .ok (.iconst 0, 1) := by decide +kernel
theorem d_M_minor_1 : decode b_M_minor 1 = .ok (.istore_n 3, 1) := by decide +kernel
theorem d_M_minor_2 : decode b_M_minor 2 = .ok (.iconst 0, 1) := by decide +kernel
theorem d_M_minor_3 : decode b_M_minor 3 = .ok (.istore 4, 2) := by decide +kernel
theorem d_M_minor_5 : decode b_M_minor 5 = .ok (.iload 4, 2) := by decide +kernel
theorem d_M_minor_7 : decode b_M_minor 7 = .ok (.aload_n 0, 1) := by decide +kernel
theorem d_M_minor_8 : decode b_M_minor 8 = .ok (.getfield 62, 3) := by decide +kernel
theorem d_M_minor_11 : decode b_M_minor 11 = .ok (.if_icmp .ge 65, 3) := by decide +kernel
theorem d_M_minor_14 : decode b_M_minor 14 = .ok (.iconst 0, 1) := by decide +kernel
theorem d_M_minor_15 : decode b_M_minor 15 = .ok (.istore 5, 2) := by decide +kernel
theorem d_M_minor_17 : decode b_M_minor 17 = .ok (.iload 5, 2) := by decide +kernel
theorem d_M_minor_19 : decode b_M_minor 19 = .ok (.aload_n 0, 1) := by decide +kernel
theorem d_M_minor_20 : decode b_M_minor 20 = .ok (.getfield 39, 3) := by decide +kernel
theorem d_M_minor_23 : decode b_M_minor 23 = .ok (.if_icmp .ge 47, 3) := by decide +kernel
theorem d_M_minor_26 : decode b_M_minor 26 = .ok (.iload_n 1, 1) := by decide +kernel
theorem d_M_minor_27 : decode b_M_minor 27 = .ok (.iload 4, 2) := by decide +kernel
theorem d_M_minor_29 : decode b_M_minor 29 = .ok (.ishr, 1) := by decide +kernel
theorem d_M_minor_30 : decode b_M_minor 30 = .ok (.iconst 1, 1) := by decide +kernel
theorem d_M_minor_31 : decode b_M_minor 31 = .ok (.iand, 1) := by decide +kernel
theorem d_M_minor_32 : decode b_M_minor 32 = .ok (.iconst 1, 1) := by decide +kernel
theorem d_M_minor_33 : decode b_M_minor 33 = .ok (.if_icmp .ne 37, 3) := by decide +kernel
theorem d_M_minor_36 : decode b_M_minor 36 = .ok (.iload 5, 2) := by decide +kernel
theorem d_M_minor_38 : decode b_M_minor 38 = .ok (.iload_n 2, 1) := by decide +kernel
theorem d_M_minor_39 : decode b_M_minor 39 = .ok (.if_icmp .eq 25, 3) := by decide +kernel
theorem d_M_minor_42 : decode b_M_minor 42 = .ok (.aload_n 0, 1) := by decide +kernel
theorem d_M_minor_43 : decode b_M_minor 43 = .ok (.getfield 26, 3) := by decide +kernel
theorem d_M_minor_46 : decode b_M_minor 46 = .ok (.iload_n 3, 1) := by decide +kernel
theorem d_M_minor_47 : decode b_M_minor 47 = .ok (.aload_n 0, 1) := by decide +kernel
theorem d_M_minor_48 : decode b_M_minor 48 = .ok (.getfield 7, 3) := by decide +kernel
theorem d_M_minor_51 : decode b_M_minor 51 = .ok (.iconst 4, 1) := by decide +kernel
theorem d_M_minor_52 : decode b_M_minor 52 = .ok (.iload 4, 2) := by decide +kernel
theorem d_M_minor_54 : decode b_M_minor 54 = .ok (.imul, 1) := by decide +kernel
theorem d_M_minor_55 : decode b_M_minor 55 = .ok (.iload 5, 2) := by decide +kernel
theorem d_M_minor_57 : decode b_M_minor 57 = .ok (.iadd, 1) := by decide +kernel
theorem d_M_minor_58 : decode b_M_minor 58 = .ok (.iaload, 1) := by decide +kernel
theorem d_M_minor_59 : decode b_M_minor 59 = .ok (.i2l, 1) := by decide +kernel
theorem d_M_minor_60 : decode b_M_minor 60 = .ok (.lastore, 1) := by decide +kernel
theorem d_M_minor_61 : decode b_M_minor 61 = .ok (.iinc 3 1, 3) := by decide +kernel
theorem d_M_minor_64 : decode b_M_minor 64 = .ok (.iinc 5 1, 3) := by decide +kernel
theorem d_M_minor_67 : decode b_M_minor 67 = .ok (.goto (-50), 3) := by decide +kernel
theorem d_M_minor_70 : decode b_M_minor 70 = .ok (.iinc 4 1, 3) := by decide +kernel
theorem d_M_minor_73 : decode b_M_minor 73 = .ok (.goto (-68), 3) := by decide +kernel
theorem d_M_minor_76 : decode b_M_minor 76 = .ok (.aload_n 0, 1) := by decide +kernel
theorem d_M_minor_77 : decode b_M_minor 77 = .ok (.aload_n 0, 1) := by decide +kernel
theorem d_M_minor_78 : decode b_M_minor 78 = .ok (.getfield 39, 3) := by decide +kernel
theorem d_M_minor_81 : decode b_M_minor 81 = .ok (.iconst 1, 1) := by decide +kernel
theorem d_M_minor_82 : decode b_M_minor 82 = .ok (.isub, 1) := by decide +kernel
theorem d_M_minor_83 : decode b_M_minor 83 = .ok (.invokevirtual 77, 3) := by decide +kernel
theorem d_M_minor_86 : decode b_M_minor 86 = .ok (.lstore 4, 2) := by decide +kernel
theorem d_M_minor_88 : decode b_M_minor 88 = .ok (.iload_n 2, 1) := by decide +kernel
theorem d_M_minor_89 : decode b_M_minor 89 = .ok (.iconst 2, 1) := by decide +kernel
theorem d_M_minor_90 : decode b_M_minor 90 = .ok (.irem, 1) := by decide +kernel
theorem d_M_minor_91 : decode b_M_minor 91 = .ok (.ifCond .ne 8, 3) := by decide +kernel
theorem d_M_minor_94 : decode b_M_minor 94 = .ok (.lload 4, 2) := by decide +kernel
theorem d_M_minor_96 : decode b_M_minor 96 = .ok (.goto 6, 3) := by decide +kernel
theorem d_M_minor_99 : decode b_M_minor 99 = .ok (.lload 4, 2) := by decide +kernel
theorem d_M_minor_101 : decode b_M_minor 101 = .ok (.lneg, 1) := by decide +kernel
theorem d_M_minor_102 : decode b_M_minor 102 = .ok (.lreturn, 1) := by decide +kernel
theorem d_M_nothing_0 : decode b_M_nothing 0 = .ok (.aload_n 0, 1) := by decide +kernel
theorem d_M_nothing_1 : decode b_M_nothing 1 = .ok (.getfield 33, 3) := by decide +kernel
theorem d_M_nothing_4 : decode b_M_nothing 4 = .ok (.iconst 0, 1) := by decide +kernel
theorem d_M_nothing_5 : decode b_M_nothing 5 = .ok (.iaload, 1) := by decide +kernel
theorem d_M_nothing_6 : decode b_M_nothing 6 = .ok (.ifCond .ne 34, 3) := by decide +kernel
theorem d_M_nothing_9 : decode b_M_nothing 9 = .ok (.aload_n 0, 1) := by decide +kernel
theorem d_M_nothing_10 : decode b_M_nothing 10 = .ok (.getfield 33, 3) := by decide +kernel
theorem d_M_nothing_13 : decode b_M_nothing 13 = .ok (.iconst 1, 1) := by decide +kernel
theorem d_M_nothing_14 : decode b_M_nothing 14 = .ok (.iaload, 1) := by decide +kernel
theorem d_M_nothing_15 : decode b_M_nothing 15 = .ok (.ifCond .ne 25, 3) := by decide +kernel
theorem d_M_nothing_18 : decode b_M_nothing 18 = .ok (.aload_n 0, 1) := by decide +kernel
theorem d_M_nothing_19 : decode b_M_nothing 19 = .ok (.getfield 33, 3) := by decide +kernel
theorem d_M_nothing_22 : decode b_M_nothing 22 = .ok (.iconst 2, 1) := by decide +kernel
theorem d_M_nothing_23 : decode b_M_nothing 23 = .ok (.iaload, 1) := by decide +kernel
theorem d_M_nothing_24 : decode b_M_nothing 24 = .ok (.ifCond .ne 16, 3) := by decide +kernel
theorem d_M_nothing_27 : decode b_M_nothing 27 = .ok (.aload_n 0, 1) := by decide +kernel
theorem d_M_nothing_28 : decode b_M_nothing 28 = .ok (.getfield 33, 3) := by decide +kernel
theorem d_M_nothing_31 : decode b_M_nothing 31 = .ok (.iconst 3, 1) := by decide +kernel
theorem d_M_nothing_32 : decode b_M_nothing 32 = .ok (.iaload, 1) := by decide +kernel
theorem d_M_nothing_33 : decode b_M_nothing 33 = .ok (.ifCond .ne 7, 3) := by decide +kernel
theorem d_M_nothing_36 : decode b_M_nothing 36 = .ok (.iconst 1, 1) := by decide +kernel
theorem d_M_nothing_37 : decode b_M_nothing 37 = .ok (.goto 4, 3) := by decide +kernel
theorem d_M_nothing_40 : decode b_M_nothing 40 = .ok (.iconst 0, 1) := by decide +kernel
theorem d_M_nothing_41 : decode b_M_nothing 41 = .ok (.ireturn, 1) := by decide +kernel
theorem d_M_parts_0 : decode b_M_parts 0 = .ok (.aload_n 0, 1) := by decide +kernel
theorem d_M_parts_1 : decode b_M_parts 1 = .ok (.iconst 1, 1) := by decide +kernel
theorem d_M_parts_2 : decode b_M_parts 2 = .ok (.invokevirtual 169, 3) := by decide +kernel
theorem d_M_parts_5 : decode b_M_parts 5 = .ok (.ifCond .ne 5, 3) := by decide +kernel
theorem d_M_parts_8 : decode b_M_parts 8 = .ok (.iconst 0, 1) := by decide +kernel
theorem d_M_parts_9 : decode b_M_parts 9 = .ok (.ireturn, 1) := by decide +kernel
theorem d_M_parts_10 : decode b_M_parts 10 = .ok (.aload_n 0, 1) := by decide +kernel
theorem d_M_parts_11 : decode b_M_parts 11 = .ok (.iload_n 1, 1) := by decide +kernel
theorem d_M_parts_12 : decode b_M_parts 12 = .ok (.iload_n 2, 1) := by decide +kernel
theorem d_M_parts_13 : decode b_M_parts 13 = .ok (.iload_n 3, 1) := by decide +kernel
theorem d_M_parts_14 : decode b_M_parts 14 = .ok (.iload 4, 2) := by decide +kernel
theorem d_M_parts_16 : decode b_M_parts 16 = .ok (.invokevirtual 50, 3) := by decide +kernel
theorem d_M_parts_19 : decode b_M_parts 19 = .ok (.aload_n 0, 1) := by decide +kernel
theorem d_M_parts_20 : decode b_M_parts 20 = .ok (.bipush 100, 2) := by decide +kernel
theorem d_M_parts_22 : decode b_M_parts 22 = .ok (.invokevirtual 54, 3) := by decide +kernel
theorem d_M_parts_25 : decode b_M_parts 25 = .ok (.ifCond .eq 15, 3) := by decide +kernel
theorem d_M_parts_28 : decode b_M_parts 28 = .ok (.aload_n 0, 1) := by decide +kernel
theorem d_M_parts_29 : decode b_M_parts 29 = .ok (.aload_n 0, 1) := by decide +kernel
theorem d_M_parts_30 : decode b_M_parts 30 = .ok (.getfield 33, 3) := by decide +kernel
theorem d_M_parts_33 : decode b_M_parts 33 = .ok (.iconst 0, 1) := by decide +kernel
theorem d_M_parts_34 : decode b_M_parts 34 = .ok (.invokevirtual 124, 3) := by decide +kernel
theorem d_M_parts_37 : decode b_M_parts 37 = .ok (.ifCond .ne 5, 3) := by decide +kernel
theorem d_M_parts_40 : decode b_M_parts 40 = .ok (.iconst (-1), 1) := by decide +kernel
theorem d_M_parts_41 : decode b_M_parts 41 = .ok (.ireturn, 1) := by decide +kernel
theorem d_M_parts_42 : decode b_M_parts 42 = .ok (.iconst 0, 1) := by decide +kernel
theorem d_M_parts_43 : decode b_M_parts 43 = .ok (.istore 5, 2) := by decide +kernel
theorem d_M_parts_45 : decode b_M_parts 45 = .ok (.aload_n 0, 1) := by decide +kernel
theorem d_M_parts_46 : decode b_M_parts 46 = .ok (.invokevirtual 58, 3) := by decide +kernel
theorem d_M_parts_49 : decode b_M_parts 49 = .ok (.ifCond .ne 81, 3) := by decide +kernel
theorem d_M_parts_52 : decode b_M_parts 52 = .ok (.aload_n 0, 1) := by decide +kernel
theorem d_M_parts_53 : decode b_M_parts 53 = .ok (.getfield 147, 3) := by decide +kernel
theorem d_M_parts_56 : decode b_M_parts 56 = .ok (.iconst 1, 1) := by decide +kernel
theorem d_M_parts_57 : decode b_M_parts 57 = .ok (.isub, 1) := by decide +kernel
theorem d_M_parts_58 : decode b_M_parts 58 = .ok (.istore 6, 2) := by decide +kernel
theorem d_M_parts_60 : decode b_M_parts 60 = .ok (.iload 6, 2) := by decide +kernel
theorem d_M_parts_62 : decode b_M_parts 62 = .ok (.ifCond .lt 18, 3) := by decide +kernel
theorem d_M_parts_65 : decode b_M_parts 65 = .ok (.aload_n 0, 1) := by decide +kernel
theorem d_M_parts_66 : decode b_M_parts 66 = .ok (.iload 6, 2) := by decide +kernel
theorem d_M_parts_68 : decode b_M_parts 68 = .ok (.invokevirtual 172, 3) := by decide +kernel
theorem d_M_parts_71 : decode b_M_parts 71 = .ok (.ifCond .ne 9, 3) := by decide +kernel
theorem d_M_parts_74 : decode b_M_parts 74 = .ok (.iinc 6 (-1), 3) := by decide +kernel
theorem d_M_parts_77 : decode b_M_parts 77 = .ok (.goto (-17), 3) := by decide +kernel
theorem d_M_parts_80 : decode b_M_parts 80 = .ok (.iload 6, 2) := by decide +kernel
theorem d_M_parts_82 : decode b_M_parts 82 = .ok (.ifCond .ge 5, 3) := by decide +kernel
theorem d_M_parts_85 : decode b_M_parts 85 = .ok (.iconst (-1), 1) := by decide +kernel
theorem d_M_parts_86 : decode b_M_parts 86 = .ok (.ireturn, 1) := by decide +kernel
theorem d_M_parts_87 : decode b_M_parts 87 = .ok (.iconst 0, 1) := by decide +kernel
theorem d_M_parts_88 : decode b_M_parts 88 = .ok (.istore 7, 2) := by decide +kernel
theorem d_M_parts_90 : decode b_M_parts 90 = .ok (.iload 7, 2) := by decide +kernel
theorem d_M_parts_92 : decode b_M_parts 92 = .ok (.iconst 4, 1) := by decide +kernel
theorem d_M_parts_93 : decode b_M_parts 93 = .ok (.if_icmp .ge 31, 3) := by decide +kernel
theorem d_M_parts_96 : decode b_M_parts 96 = .ok (.aload_n 0, 1) := by decide +kernel
theorem d_M_parts_97 : decode b_M_parts 97 = .ok (.getfield 33, 3) := by decide +kernel
theorem d_M_parts_100 : decode b_M_parts 100 = .ok (.iload 7, 2) := by decide +kernel
theorem d_M_parts_102 : decode b_M_parts 102 = .ok (.dup2, 1) := by decide +kernel
theorem d_M_parts_103 : decode b_M_parts 103 = .ok (.iaload, 1) := by decide +kernel
theorem d_M_parts_104 : decode b_M_parts 104 = .ok (.aload_n 0, 1) := by decide +kernel
theorem d_M_parts_105 : decode b_M_parts 105 = .ok (.getfield 19, 3) := by decide +kernel
theorem d_M_parts_108 : decode b_M_parts 108 = .ok (.iconst 4, 1) := by decide +kernel
theorem d_M_parts_109 : decode b_M_parts 109 = .ok (.iload 6, 2) := by decide +kernel
theorem d_M_parts_111 : decode b_M_parts 111 = .ok (.imul, 1) := by decide +kernel
theorem d_M_parts_112 : decode b_M_parts 112 = .ok (.iload 7, 2) := by decide +kernel
theorem d_M_parts_114 : decode b_M_parts 114 = .ok (.iadd, 1) := by decide +kernel
theorem d_M_parts_115 : decode b_M_parts 115 = .ok (.iaload, 1) := by decide +kernel
theorem d_M_parts_116 : decode b_M_parts 116 = .ok (.isub, 1) := by decide +kernel
theorem d_M_parts_117 : decode b_M_parts 117 = .ok (.iastore, 1) := by decide +kernel
theorem d_M_parts_118 : decode b_M_parts 118 = .ok (.iinc 7 1, 3) := by decide +kernel
theorem d_M_parts_121 : decode b_M_parts 121 = .ok (.goto (-31), 3) := by decide +kernel
theorem d_M_parts_124 : decode b_M_parts 124 = .ok (.iinc 5 1, 3) := by decide +kernel
theorem d_M_parts_127 : decode b_M_parts 127 = .ok (.goto (-82), 3) := by decide +kernel
theorem d_M_parts_130 : decode b_M_parts 130 = .ok (.iload 5, 2) := by decide +kernel
theorem d_M_parts_132 : decode b_M_parts 132 = .ok (.ireturn, 1) := by decide +kernel
theorem d_M_point_0 : decode b_M_point 0 = .ok (.aload_n 0, 1) := by decide +kernel
theorem d_M_point_1 : decode b_M_point 1 = .ok (.iconst 1, 1) := by decide +kernel
theorem d_M_point_2 : decode b_M_point 2 = .ok (.invokevirtual 169, 3) := by decide +kernel
theorem d_M_point_5 : decode b_M_point 5 = .ok (.ifCond .ne 5, 3) := by decide +kernel
theorem d_M_point_8 : decode b_M_point 8 = .ok (.iconst 0, 1) := by decide +kernel
theorem d_M_point_9 : decode b_M_point 9 = .ok (.ireturn, 1) := by decide +kernel
theorem d_M_point_10 : decode b_M_point 10 = .ok (.aload_n 0, 1) := by decide +kernel
theorem d_M_point_11 : decode b_M_point 11 = .ok (.iload_n 1, 1) := by decide +kernel
theorem d_M_point_12 : decode b_M_point 12 = .ok (.ifCond .lt 23, 3) := by decide +kernel
theorem d_M_point_15 : decode b_M_point 15 = .ok (.iload_n 1, 1) := by decide +kernel
theorem d_M_point_16 : decode b_M_point 16 = .ok (.aload_n 0, 1) := by decide +kernel
theorem d_M_point_17 : decode b_M_point 17 = .ok (.getfield 147, 3) := by decide +kernel
theorem d_M_point_20 : decode b_M_point 20 = .ok (.if_icmp .ge 15, 3) := by decide +kernel
theorem d_M_point_23 : decode b_M_point 23 = .ok (.iload_n 2, 1) := by decide +kernel
theorem d_M_point_24 : decode b_M_point 24 = .ok (.ifCond .lt 11, 3) := by decide +kernel
theorem d_M_point_27 : decode b_M_point 27 = .ok (.iload_n 2, 1) := by decide +kernel
theorem d_M_point_28 : decode b_M_point 28 = .ok (.aload_n 0, 1) := by decide +kernel
theorem d_M_point_29 : decode b_M_point 29 = .ok (.getfield 39, 3) := by decide +kernel
theorem d_M_point_32 : decode b_M_point 32 = .ok (.if_icmp .lt 7, 3) := by decide +kernel
theorem d_M_point_35 : decode b_M_point 35 = .ok (.iconst 2, 1) := by decide +kernel
theorem d_M_point_36 : decode b_M_point 36 = .ok (.goto 4, 3) := by decide +kernel
theorem d_M_point_39 : decode b_M_point 39 = .ok (.iconst 0, 1) := by decide +kernel
theorem d_M_point_40 : decode b_M_point 40 = .ok (.putfield 43, 3) := by decide +kernel
theorem d_M_point_43 : decode b_M_point 43 = .ok (.aload_n 0, 1) := by decide +kernel
theorem d_M_point_44 : decode b_M_point 44 = .ok (.getfield 43, 3) := by decide +kernel
theorem d_M_point_47 : decode b_M_point 47 = .ok (.ifCond .le 7, 3) := by decide +kernel
theorem d_M_point_50 : decode b_M_point 50 = .ok (.iconst 0, 1) := by decide +kernel
theorem d_M_point_51 : decode b_M_point 51 = .ok (.goto 13, 3) := by decide +kernel
theorem d_M_point_54 : decode b_M_point 54 = .ok (.aload_n 0, 1) := by decide +kernel
theorem d_M_point_55 : decode b_M_point 55 = .ok (.getfield 19, 3) := by decide +kernel
theorem d_M_point_58 : decode b_M_point 58 = .ok (.iconst 4, 1) := by decide +kernel
theorem d_M_point_59 : decode b_M_point 59 = .ok (.iload_n 1, 1) := by decide +kernel
theorem d_M_point_60 : decode b_M_point 60 = .ok (.imul, 1) := by decide +kernel
theorem d_M_point_61 : decode b_M_point 61 = .ok (.iload_n 2, 1) := by decide +kernel
theorem d_M_point_62 : decode b_M_point 62 = .ok (.iadd, 1) := by decide +kernel
theorem d_M_point_63 : decode b_M_point 63 = .ok (.iaload, 1) := by decide +kernel
theorem d_M_point_64 : decode b_M_point 64 = .ok (.ireturn, 1) := by decide +kernel
theorem d_M_pointed_0 : decode b_M_pointed 0 = .ok (.aload_n 0, 1) := by decide +kernel
theorem d_M_pointed_1 : decode b_M_pointed 1 = .ok (.invokevirtual 144, 3) := by decide +kernel
theorem d_M_pointed_4 : decode b_M_pointed 4 = .ok (.aload_n 0, 1) := by decide +kernel
theorem d_M_pointed_5 : decode b_M_pointed 5 = .ok (.aload_n 0, 1) := by decide +kernel
theorem d_M_pointed_6 : decode b_M_pointed 6 = .ok (.getfield 92, 3) := by decide +kernel
theorem d_M_pointed_9 : decode b_M_pointed 9 = .ok (.aload_n 0, 1) := by decide +kernel
theorem d_M_pointed_10 : decode b_M_pointed 10 = .ok (.getfield 39, 3) := by decide +kernel
theorem d_M_pointed_13 : decode b_M_pointed 13 = .ok (.if_icmp .ge 7, 3) := by decide +kernel
theorem d_M_pointed_16 : decode b_M_pointed 16 = .ok (.iload_n 1, 1) := by decide +kernel
theorem d_M_pointed_17 : decode b_M_pointed 17 = .ok (.goto 4, 3) := by decide +kernel
theorem d_M_pointed_20 : decode b_M_pointed 20 = .ok (.iconst 0, 1) := by decide +kernel
theorem d_M_pointed_21 : decode b_M_pointed 21 = .ok (.putfield 43, 3) := by decide +kernel
theorem d_M_pointed_24 : decode b_M_pointed 24 = .ok (.aload_n 0, 1) := by decide +kernel
theorem d_M_pointed_25 : decode b_M_pointed 25 = .ok (.getfield 43, 3) := by decide +kernel
theorem d_M_pointed_28 : decode b_M_pointed 28 = .ok (.ifCond .ne 7, 3) := by decide +kernel
theorem d_M_pointed_31 : decode b_M_pointed 31 = .ok (.iconst 1, 1) := by decide +kernel
theorem d_M_pointed_32 : decode b_M_pointed 32 = .ok (.goto 4, 3) := by decide +kernel
theorem d_M_pointed_35 : decode b_M_pointed 35 = .ok (.iconst 0, 1) := by decide +kernel
theorem d_M_pointed_36 : decode b_M_pointed 36 = .ok (.ireturn, 1) := by decide +kernel
theorem d_M_product_0 : decode b_M_product 0 = .ok (.lconst 0, 1) := by decide +kernel
theorem d_M_product_1 : decode b_M_product 1 = .ok (.lstore 4, 2) := by decide +kernel
theorem d_M_product_3 : decode b_M_product 3 = .ok (.iconst 0, 1) := by decide +kernel
theorem d_M_product_4 : decode b_M_product 4 = .ok (.istore 6, 2) := by decide +kernel
theorem d_M_product_6 : decode b_M_product 6 = .ok (.iload 6, 2) := by decide +kernel
theorem d_M_product_8 : decode b_M_product 8 = .ok (.iconst 4, 1) := by decide +kernel
theorem d_M_product_9 : decode b_M_product 9 = .ok (.if_icmp .ge 34, 3) := by decide +kernel
theorem d_M_product_12 : decode b_M_product 12 = .ok (.lload 4, 2) := by decide +kernel
theorem d_M_product_14 : decode b_M_product 14 = .ok (.aload_n 0, 1) := by decide +kernel
theorem d_M_product_15 : decode b_M_product 15 = .ok (.getfield 7, 3) := by decide +kernel
theorem d_M_product_18 : decode b_M_product 18 = .ok (.iconst 4, 1) := by decide +kernel
theorem d_M_product_19 : decode b_M_product 19 = .ok (.iload_n 1, 1) := by decide +kernel
theorem d_M_product_20 : decode b_M_product 20 = .ok (.imul, 1) := by decide +kernel
theorem d_M_product_21 : decode b_M_product 21 = .ok (.iload 6, 2) := by decide +kernel
theorem d_M_product_23 : decode b_M_product 23 = .ok (.iadd, 1) := by decide +kernel
theorem d_M_product_24 : decode b_M_product 24 = .ok (.iaload, 1) := by decide +kernel
theorem d_M_product_25 : decode b_M_product 25 = .ok (.i2l, 1) := by decide +kernel
theorem d_M_product_26 : decode b_M_product 26 = .ok (.aload_n 2, 1) := by decide +kernel
theorem d_M_product_27 : decode b_M_product 27 = .ok (.iload_n 3, 1) := by decide +kernel
theorem d_M_product_28 : decode b_M_product 28 = .ok (.iload 6, 2) := by decide +kernel
theorem d_M_product_30 : decode b_M_product 30 = .ok (.iadd, 1) := by decide +kernel
theorem d_M_product_31 : decode b_M_product 31 = .ok (.iaload, 1) := by decide +kernel
theorem d_M_product_32 : decode b_M_product 32 = .ok (.i2l, 1) := by decide +kernel
theorem d_M_product_33 : decode b_M_product 33 = .ok (.lmul, 1) := by decide +kernel
theorem d_M_product_34 : decode b_M_product 34 = .ok (.ladd, 1) := by decide +kernel
theorem d_M_product_35 : decode b_M_product 35 = .ok (.lstore 4, 2) := by decide +kernel
theorem d_M_product_37 : decode b_M_product 37 = .ok (.iinc 6 1, 3) := by decide +kernel
theorem d_M_product_40 : decode b_M_product 40 = .ok (.goto (-34), 3) := by decide +kernel
theorem d_M_product_43 : decode b_M_product 43 = .ok (.lload 4, 2) := by decide +kernel
theorem d_M_product_45 : decode b_M_product 45 = .ok (.lreturn, 1) := by decide +kernel
theorem d_M_rankOf_0 : decode b_M_rankOf 0 = .ok (.iconst 0, 1) := by decide +kernel
theorem d_M_rankOf_1 : decode b_M_rankOf 1 = .ok (.istore_n 2, 1) := by decide +kernel
theorem d_M_rankOf_2 : decode b_M_rankOf 2 = .ok (.iconst 0, 1) := by decide +kernel
theorem d_M_rankOf_3 : decode b_M_rankOf 3 = .ok (.istore_n 3, 1) := by decide +kernel
theorem d_M_rankOf_4 : decode b_M_rankOf 4 = .ok (.iload_n 3, 1) := by decide +kernel
theorem d_M_rankOf_5 : decode b_M_rankOf 5 = .ok (.iconst 4, 1) := by decide +kernel
theorem d_M_rankOf_6 : decode b_M_rankOf 6 = .ok (.if_icmp .ge 139, 3) := by decide +kernel
theorem d_M_rankOf_9 : decode b_M_rankOf 9 = .ok (.iload_n 2, 1) := by decide +kernel
theorem d_M_rankOf_10 : decode b_M_rankOf 10 = .ok (.istore 4, 2) := by decide +kernel
theorem d_M_rankOf_12 : decode b_M_rankOf 12 = .ok (.iload 4, 2) := by decide +kernel
theorem d_M_rankOf_14 : decode b_M_rankOf 14 = .ok (.iload_n 1, 1) := by decide +kernel
theorem d_M_rankOf_15 : decode b_M_rankOf 15 = .ok (.if_icmp .ge 25, 3) := by decide +kernel
theorem d_M_rankOf_18 : decode b_M_rankOf 18 = .ok (.aload_n 0, 1) := by decide +kernel
theorem d_M_rankOf_19 : decode b_M_rankOf 19 = .ok (.getfield 26, 3) := by decide +kernel
theorem d_M_rankOf_22 : decode b_M_rankOf 22 = .ok (.iconst 4, 1) := by decide +kernel
theorem d_M_rankOf_23 : decode b_M_rankOf 23 = .ok (.iload 4, 2) := by decide +kernel
theorem d_M_rankOf_25 : decode b_M_rankOf 25 = .ok (.imul, 1) := by decide +kernel
theorem d_M_rankOf_26 : decode b_M_rankOf 26 = .ok (.iload_n 3, 1) := by decide +kernel
theorem d_M_rankOf_27 : decode b_M_rankOf 27 = .ok (.iadd, 1) := by decide +kernel
theorem d_M_rankOf_28 : decode b_M_rankOf 28 = .ok (.laload, 1) := by decide +kernel
theorem d_M_rankOf_29 : decode b_M_rankOf 29 = .ok (.lconst 0, 1) := by decide +kernel
theorem d_M_rankOf_30 : decode b_M_rankOf 30 = .ok (.lcmp, 1) := by decide +kernel
theorem d_M_rankOf_31 : decode b_M_rankOf 31 = .ok (.ifCond .ne 9, 3) := by decide +kernel
theorem d_M_rankOf_34 : decode b_M_rankOf 34 = .ok (.iinc 4 1, 3) := by decide +kernel
theorem d_M_rankOf_37 : decode b_M_rankOf 37 = .ok (.goto (-25), 3) := by decide +kernel
theorem d_M_rankOf_40 : decode b_M_rankOf 40 = .ok (.iload 4, 2) := by decide +kernel
theorem d_M_rankOf_42 : decode b_M_rankOf 42 = .ok (.iload_n 1, 1) := by decide +kernel
theorem d_M_rankOf_43 : decode b_M_rankOf 43 = .ok (.if_icmp .ge 96, 3) := by decide +kernel
theorem d_M_rankOf_46 : decode b_M_rankOf 46 = .ok (.iconst 0, 1) := by decide +kernel
theorem d_M_rankOf_47 : decode b_M_rankOf 47 = .ok (.istore 5, 2) := by decide +kernel
theorem d_M_rankOf_49 : decode b_M_rankOf 49 = .ok (.iload 5, 2) := by decide +kernel
theorem d_M_rankOf_51 : decode b_M_rankOf 51 = .ok (.iconst 4, 1) := by decide +kernel
theorem d_M_rankOf_52 : decode b_M_rankOf 52 = .ok (.if_icmp .ge 59, 3) := by decide +kernel
theorem d_M_rankOf_55 : decode b_M_rankOf 55 = .ok (.aload_n 0, 1) := by decide +kernel
theorem d_M_rankOf_56 : decode b_M_rankOf 56 = .ok (.getfield 26, 3) := by decide +kernel
theorem d_M_rankOf_59 : decode b_M_rankOf 59 = .ok (.iconst 4, 1) := by decide +kernel
theorem d_M_rankOf_60 : decode b_M_rankOf 60 = .ok (.iload 4, 2) := by decide +kernel
theorem d_M_rankOf_62 : decode b_M_rankOf 62 = .ok (.imul, 1) := by decide +kernel
theorem d_M_rankOf_63 : decode b_M_rankOf 63 = .ok (.iload 5, 2) := by decide +kernel
theorem d_M_rankOf_65 : decode b_M_rankOf 65 = .ok (.iadd, 1) := by decide +kernel
theorem d_M_rankOf_66 : decode b_M_rankOf 66 = .ok (.laload, 1) := by decide +kernel
theorem d_M_rankOf_67 : decode b_M_rankOf 67 = .ok (.lstore 6, 2) := by decide +kernel
theorem d_M_rankOf_69 : decode b_M_rankOf 69 = .ok (.aload_n 0, 1) := by decide +kernel
theorem d_M_rankOf_70 : decode b_M_rankOf 70 = .ok (.getfield 26, 3) := by decide +kernel
theorem d_M_rankOf_73 : decode b_M_rankOf 73 = .ok (.iconst 4, 1) := by decide +kernel
theorem d_M_rankOf_74 : decode b_M_rankOf 74 = .ok (.iload 4, 2) := by decide +kernel
theorem d_M_rankOf_76 : decode b_M_rankOf 76 = .ok (.imul, 1) := by decide +kernel
theorem d_M_rankOf_77 : decode b_M_rankOf 77 = .ok (.iload 5, 2) := by decide +kernel
theorem d_M_rankOf_79 : decode b_M_rankOf 79 = .ok (.iadd, 1) := by decide +kernel
theorem d_M_rankOf_80 : decode b_M_rankOf 80 = .ok (.aload_n 0, 1) := by decide +kernel
theorem d_M_rankOf_81 : decode b_M_rankOf 81 = .ok (.getfield 26, 3) := by decide +kernel
theorem d_M_rankOf_84 : decode b_M_rankOf 84 = .ok (.iconst 4, 1) := by decide +kernel
theorem d_M_rankOf_85 : decode b_M_rankOf 85 = .ok (.iload_n 2, 1) := by decide +kernel
theorem d_M_rankOf_86 : decode b_M_rankOf 86 = .ok (.imul, 1) := by decide +kernel
theorem d_M_rankOf_87 : decode b_M_rankOf 87 = .ok (.iload 5, 2) := by decide +kernel
theorem d_M_rankOf_89 : decode b_M_rankOf 89 = .ok (.iadd, 1) := by decide +kernel
theorem d_M_rankOf_90 : decode b_M_rankOf 90 = .ok (.laload, 1) := by decide +kernel
theorem d_M_rankOf_91 : decode b_M_rankOf 91 = .ok (.lastore, 1) := by decide +kernel
theorem d_M_rankOf_92 : decode b_M_rankOf 92 = .ok (.aload_n 0, 1) := by decide +kernel
theorem d_M_rankOf_93 : decode b_M_rankOf 93 = .ok (.getfield 26, 3) := by decide +kernel
theorem d_M_rankOf_96 : decode b_M_rankOf 96 = .ok (.iconst 4, 1) := by decide +kernel
theorem d_M_rankOf_97 : decode b_M_rankOf 97 = .ok (.iload_n 2, 1) := by decide +kernel
theorem d_M_rankOf_98 : decode b_M_rankOf 98 = .ok (.imul, 1) := by decide +kernel
theorem d_M_rankOf_99 : decode b_M_rankOf 99 = .ok (.iload 5, 2) := by decide +kernel
theorem d_M_rankOf_101 : decode b_M_rankOf 101 = .ok (.iadd, 1) := by decide +kernel
theorem d_M_rankOf_102 : decode b_M_rankOf 102 = .ok (.lload 6, 2) := by decide +kernel
theorem d_M_rankOf_104 : decode b_M_rankOf 104 = .ok (.lastore, 1) := by decide +kernel
theorem d_M_rankOf_105 : decode b_M_rankOf 105 = .ok (.iinc 5 1, 3) := by decide +kernel
theorem d_M_rankOf_108 : decode b_M_rankOf 108 = .ok (.goto (-59), 3) := by decide +kernel
theorem d_M_rankOf_111 : decode b_M_rankOf 111 = .ok (.iload_n 2, 1) := by decide +kernel
theorem d_M_rankOf_112 : decode b_M_rankOf 112 = .ok (.iconst 1, 1) := by decide +kernel
theorem d_M_rankOf_113 : decode b_M_rankOf 113 = .ok (.iadd, 1) := by decide +kernel
theorem d_M_rankOf_114 : decode b_M_rankOf 114 = .ok (.istore 5, 2) := by decide +kernel
theorem d_M_rankOf_116 : decode b_M_rankOf 116 = .ok (.iload 5, 2) := by decide +kernel
theorem d_M_rankOf_118 : decode b_M_rankOf 118 = .ok (.iload_n 1, 1) := by decide +kernel
theorem d_M_rankOf_119 : decode b_M_rankOf 119 = .ok (.if_icmp .ge 17, 3) := by decide +kernel
theorem d_M_rankOf_122 : decode b_M_rankOf 122 = .ok (.aload_n 0, 1) := by decide +kernel
theorem d_M_rankOf_123 : decode b_M_rankOf 123 = .ok (.iload 5, 2) := by decide +kernel
theorem d_M_rankOf_125 : decode b_M_rankOf 125 = .ok (.iload_n 2, 1) := by decide +kernel
theorem d_M_rankOf_126 : decode b_M_rankOf 126 = .ok (.iload_n 3, 1) := by decide +kernel
theorem d_M_rankOf_127 : decode b_M_rankOf 127 = .ok (.invokevirtual 69, 3) := by decide +kernel
theorem d_M_rankOf_130 : decode b_M_rankOf 130 = .ok (.iinc 5 1, 3) := by decide +kernel
theorem d_M_rankOf_133 : decode b_M_rankOf 133 = .ok (.goto (-17), 3) := by decide +kernel
theorem d_M_rankOf_136 : decode b_M_rankOf 136 = .ok (.iinc 2 1, 3) := by decide +kernel
theorem d_M_rankOf_139 : decode b_M_rankOf 139 = .ok (.iinc 3 1, 3) := by decide +kernel
theorem d_M_rankOf_142 : decode b_M_rankOf 142 = .ok (.goto (-138), 3) := by decide +kernel
theorem d_M_rankOf_145 : decode b_M_rankOf 145 = .ok (.iload_n 2, 1) := by decide +kernel
theorem d_M_rankOf_146 : decode b_M_rankOf 146 = .ok (.ireturn, 1) := by decide +kernel
theorem d_M_ray_0 : decode b_M_ray 0 = .ok (.aload_n 0, 1) := by decide +kernel
theorem d_M_ray_1 : decode b_M_ray 1 = .ok (.iconst 1, 1) := by decide +kernel
theorem d_M_ray_2 : decode b_M_ray 2 = .ok (.invokevirtual 160, 3) := by decide +kernel
theorem d_M_ray_5 : decode b_M_ray 5 = .ok (.ifCond .ne 5, 3) := by decide +kernel
theorem d_M_ray_8 : decode b_M_ray 8 = .ok (.iconst 0, 1) := by decide +kernel
theorem d_M_ray_9 : decode b_M_ray 9 = .ok (.ireturn, 1) := by decide +kernel
theorem d_M_ray_10 : decode b_M_ray 10 = .ok (.aload_n 0, 1) := by decide +kernel
theorem d_M_ray_11 : decode b_M_ray 11 = .ok (.iload_n 1, 1) := by decide +kernel
theorem d_M_ray_12 : decode b_M_ray 12 = .ok (.ifCond .lt 23, 3) := by decide +kernel
theorem d_M_ray_15 : decode b_M_ray 15 = .ok (.iload_n 1, 1) := by decide +kernel
theorem d_M_ray_16 : decode b_M_ray 16 = .ok (.aload_n 0, 1) := by decide +kernel
theorem d_M_ray_17 : decode b_M_ray 17 = .ok (.getfield 95, 3) := by decide +kernel
theorem d_M_ray_20 : decode b_M_ray 20 = .ok (.if_icmp .ge 15, 3) := by decide +kernel
theorem d_M_ray_23 : decode b_M_ray 23 = .ok (.iload_n 2, 1) := by decide +kernel
theorem d_M_ray_24 : decode b_M_ray 24 = .ok (.ifCond .lt 11, 3) := by decide +kernel
theorem d_M_ray_27 : decode b_M_ray 27 = .ok (.iload_n 2, 1) := by decide +kernel
theorem d_M_ray_28 : decode b_M_ray 28 = .ok (.aload_n 0, 1) := by decide +kernel
theorem d_M_ray_29 : decode b_M_ray 29 = .ok (.getfield 39, 3) := by decide +kernel
theorem d_M_ray_32 : decode b_M_ray 32 = .ok (.if_icmp .lt 7, 3) := by decide +kernel
theorem d_M_ray_35 : decode b_M_ray 35 = .ok (.iconst 2, 1) := by decide +kernel
theorem d_M_ray_36 : decode b_M_ray 36 = .ok (.goto 4, 3) := by decide +kernel
theorem d_M_ray_39 : decode b_M_ray 39 = .ok (.iconst 0, 1) := by decide +kernel
theorem d_M_ray_40 : decode b_M_ray 40 = .ok (.putfield 43, 3) := by decide +kernel
theorem d_M_ray_43 : decode b_M_ray 43 = .ok (.aload_n 0, 1) := by decide +kernel
theorem d_M_ray_44 : decode b_M_ray 44 = .ok (.getfield 43, 3) := by decide +kernel
theorem d_M_ray_47 : decode b_M_ray 47 = .ok (.ifCond .le 7, 3) := by decide +kernel
theorem d_M_ray_50 : decode b_M_ray 50 = .ok (.iconst 0, 1) := by decide +kernel
theorem d_M_ray_51 : decode b_M_ray 51 = .ok (.goto 13, 3) := by decide +kernel
theorem d_M_ray_54 : decode b_M_ray 54 = .ok (.aload_n 0, 1) := by decide +kernel
theorem d_M_ray_55 : decode b_M_ray 55 = .ok (.getfield 13, 3) := by decide +kernel
theorem d_M_ray_58 : decode b_M_ray 58 = .ok (.iconst 4, 1) := by decide +kernel
theorem d_M_ray_59 : decode b_M_ray 59 = .ok (.iload_n 1, 1) := by decide +kernel
theorem d_M_ray_60 : decode b_M_ray 60 = .ok (.imul, 1) := by decide +kernel
theorem d_M_ray_61 : decode b_M_ray 61 = .ok (.iload_n 2, 1) := by decide +kernel
theorem d_M_ray_62 : decode b_M_ray 62 = .ok (.iadd, 1) := by decide +kernel
theorem d_M_ray_63 : decode b_M_ray 63 = .ok (.iaload, 1) := by decide +kernel
theorem d_M_ray_64 : decode b_M_ray 64 = .ok (.ireturn, 1) := by decide +kernel
theorem d_M_rays_0 : decode b_M_rays 0 = .ok (.aload_n 0, 1) := by decide +kernel
theorem d_M_rays_1 : decode b_M_rays 1 = .ok (.iconst 1, 1) := by decide +kernel
theorem d_M_rays_2 : decode b_M_rays 2 = .ok (.invokevirtual 160, 3) := by decide +kernel
theorem d_M_rays_5 : decode b_M_rays 5 = .ok (.ifCond .eq 10, 3) := by decide +kernel
theorem d_M_rays_8 : decode b_M_rays 8 = .ok (.aload_n 0, 1) := by decide +kernel
theorem d_M_rays_9 : decode b_M_rays 9 = .ok (.getfield 95, 3) := by decide +kernel
theorem d_M_rays_12 : decode b_M_rays 12 = .ok (.goto 4, 3) := by decide +kernel
theorem d_M_rays_15 : decode b_M_rays 15 = .ok (.iconst 0, 1) := by decide +kernel
theorem d_M_rays_16 : decode b_M_rays 16 = .ok (.ireturn, 1) := by decide +kernel
theorem d_M_row_0 : decode b_M_row 0 = .ok (.aload_n 0, 1) := by decide +kernel
theorem d_M_row_1 : decode b_M_row 1 = .ok (.iload_n 1, 1) := by decide +kernel
theorem d_M_row_2 : decode b_M_row 2 = .ok (.ifCond .lt 23, 3) := by decide +kernel
theorem d_M_row_5 : decode b_M_row 5 = .ok (.iload_n 1, 1) := by decide +kernel
theorem d_M_row_6 : decode b_M_row 6 = .ok (.aload_n 0, 1) := by decide +kernel
theorem d_M_row_7 : decode b_M_row 7 = .ok (.getfield 62, 3) := by decide +kernel
theorem d_M_row_10 : decode b_M_row 10 = .ok (.if_icmp .ge 15, 3) := by decide +kernel
theorem d_M_row_13 : decode b_M_row 13 = .ok (.iload_n 2, 1) := by decide +kernel
theorem d_M_row_14 : decode b_M_row 14 = .ok (.ifCond .lt 11, 3) := by decide +kernel
theorem d_M_row_17 : decode b_M_row 17 = .ok (.iload_n 2, 1) := by decide +kernel
theorem d_M_row_18 : decode b_M_row 18 = .ok (.aload_n 0, 1) := by decide +kernel
theorem d_M_row_19 : decode b_M_row 19 = .ok (.getfield 39, 3) := by decide +kernel
theorem d_M_row_22 : decode b_M_row 22 = .ok (.if_icmp .lt 7, 3) := by decide +kernel
theorem d_M_row_25 : decode b_M_row 25 = .ok (.iconst 1, 1) := by decide +kernel
theorem d_M_row_26 : decode b_M_row 26 = .ok (.goto 4, 3) := by decide +kernel
theorem d_M_row_29 : decode b_M_row 29 = .ok (.iconst 0, 1) := by decide +kernel
theorem d_M_row_30 : decode b_M_row 30 = .ok (.putfield 43, 3) := by decide +kernel
theorem d_M_row_33 : decode b_M_row 33 = .ok (.aload_n 0, 1) := by decide +kernel
theorem d_M_row_34 : decode b_M_row 34 = .ok (.getfield 43, 3) := by decide +kernel
theorem d_M_row_37 : decode b_M_row 37 = .ok (.ifCond .le 7, 3) := by decide +kernel
theorem d_M_row_40 : decode b_M_row 40 = .ok (.iconst 0, 1) := by decide +kernel
theorem d_M_row_41 : decode b_M_row 41 = .ok (.goto 13, 3) := by decide +kernel
theorem d_M_row_44 : decode b_M_row 44 = .ok (.aload_n 0, 1) := by decide +kernel
theorem d_M_row_45 : decode b_M_row 45 = .ok (.getfield 7, 3) := by decide +kernel
theorem d_M_row_48 : decode b_M_row 48 = .ok (.iconst 4, 1) := by decide +kernel
theorem d_M_row_49 : decode b_M_row 49 = .ok (.iload_n 1, 1) := by decide +kernel
theorem d_M_row_50 : decode b_M_row 50 = .ok (.imul, 1) := by decide +kernel
theorem d_M_row_51 : decode b_M_row 51 = .ok (.iload_n 2, 1) := by decide +kernel
theorem d_M_row_52 : decode b_M_row 52 = .ok (.iadd, 1) := by decide +kernel
theorem d_M_row_53 : decode b_M_row 53 = .ok (.iaload, 1) := by decide +kernel
theorem d_M_row_54 : decode b_M_row 54 = .ok (.ireturn, 1) := by decide +kernel
theorem d_M_set_0 : decode b_M_set 0 = .ok (.aload_n 0, 1) := by decide +kernel
theorem d_M_set_1 : decode b_M_set 1 = .ok (.getfield 33, 3) := by decide +kernel
theorem d_M_set_4 : decode b_M_set 4 = .ok (.iconst 0, 1) := by decide +kernel
theorem d_M_set_5 : decode b_M_set 5 = .ok (.iload_n 1, 1) := by decide +kernel
theorem d_M_set_6 : decode b_M_set 6 = .ok (.iastore, 1) := by decide +kernel
theorem d_M_set_7 : decode b_M_set 7 = .ok (.aload_n 0, 1) := by decide +kernel
theorem d_M_set_8 : decode b_M_set 8 = .ok (.getfield 33, 3) := by decide +kernel
theorem d_M_set_11 : decode b_M_set 11 = .ok (.iconst 1, 1) := by decide +kernel
theorem d_M_set_12 : decode b_M_set 12 = .ok (.iload_n 2, 1) := by decide +kernel
theorem d_M_set_13 : decode b_M_set 13 = .ok (.iastore, 1) := by decide +kernel
theorem d_M_set_14 : decode b_M_set 14 = .ok (.aload_n 0, 1) := by decide +kernel
theorem d_M_set_15 : decode b_M_set 15 = .ok (.getfield 33, 3) := by decide +kernel
theorem d_M_set_18 : decode b_M_set 18 = .ok (.iconst 2, 1) := by decide +kernel
theorem d_M_set_19 : decode b_M_set 19 = .ok (.aload_n 0, 1) := by decide +kernel
theorem d_M_set_20 : decode b_M_set 20 = .ok (.getfield 39, 3) := by decide +kernel
theorem d_M_set_23 : decode b_M_set 23 = .ok (.iconst 2, 1) := by decide +kernel
theorem d_M_set_24 : decode b_M_set 24 = .ok (.if_icmp .le 7, 3) := by decide +kernel
theorem d_M_set_27 : decode b_M_set 27 = .ok (.iload_n 3, 1) := by decide +kernel
theorem d_M_set_28 : decode b_M_set 28 = .ok (.goto 4, 3) := by decide +kernel
theorem d_M_set_31 : decode b_M_set 31 = .ok (.iconst 0, 1) := by decide +kernel
theorem d_M_set_32 : decode b_M_set 32 = .ok (.iastore, 1) := by decide +kernel
theorem d_M_set_33 : decode b_M_set 33 = .ok (.aload_n 0, 1) := by decide +kernel
theorem d_M_set_34 : decode b_M_set 34 = .ok (.getfield 33, 3) := by decide +kernel
theorem d_M_set_37 : decode b_M_set 37 = .ok (.iconst 3, 1) := by decide +kernel
theorem d_M_set_38 : decode b_M_set 38 = .ok (.aload_n 0, 1) := by decide +kernel
theorem d_M_set_39 : decode b_M_set 39 = .ok (.getfield 39, 3) := by decide +kernel
theorem d_M_set_42 : decode b_M_set 42 = .ok (.iconst 3, 1) := by decide +kernel
theorem d_M_set_43 : decode b_M_set 43 = .ok (.if_icmp .le 8, 3) := by decide +kernel
theorem d_M_set_46 : decode b_M_set 46 = .ok (.iload 4, 2) := by decide +kernel
theorem d_M_set_48 : decode b_M_set 48 = .ok (.goto 4, 3) := by decide +kernel
theorem d_M_set_51 : decode b_M_set 51 = .ok (.iconst 0, 1) := by decide +kernel
theorem d_M_set_52 : decode b_M_set 52 = .ok (.iastore, 1) := by decide +kernel
theorem d_M_set_53 : decode b_M_set 53 = .ok (.return_, 1) := by decide +kernel
theorem d_M_size_0 : decode b_M_size 0 = .ok (.aload_n 0, 1) := by decide +kernel
theorem d_M_size_1 : decode b_M_size 1 = .ok (.iconst 1, 1) := by decide +kernel
theorem d_M_size_2 : decode b_M_size 2 = .ok (.invokevirtual 160, 3) := by decide +kernel
theorem d_M_size_5 : decode b_M_size 5 = .ok (.ifCond .eq 10, 3) := by decide +kernel
theorem d_M_size_8 : decode b_M_size 8 = .ok (.aload_n 0, 1) := by decide +kernel
theorem d_M_size_9 : decode b_M_size 9 = .ok (.getfield 101, 3) := by decide +kernel
theorem d_M_size_12 : decode b_M_size 12 = .ok (.goto 4, 3) := by decide +kernel
theorem d_M_size_15 : decode b_M_size 15 = .ok (.iconst 0, 1) := by decide +kernel
theorem d_M_size_16 : decode b_M_size 16 = .ok (.ireturn, 1) := by decide +kernel
theorem d_M_thrown_0 : decode b_M_thrown 0 = .ok (.aload_n 0, 1) := by decide +kernel
theorem d_M_thrown_1 : decode b_M_thrown 1 = .ok (.getfield 43, 3) := by decide +kernel
theorem d_M_thrown_4 : decode b_M_thrown 4 = .ok (.ireturn, 1) := by decide +kernel
theorem d_M_within_0 : decode b_M_within 0 = .ok (.iconst 1, 1) := by decide +kernel
theorem d_M_within_1 : decode b_M_within 1 = .ok (.istore_n 2, 1) := by decide +kernel
theorem d_M_within_2 : decode b_M_within 2 = .ok (.iconst 0, 1) := by decide +kernel
theorem d_M_within_3 : decode b_M_within 3 = .ok (.istore_n 3, 1) := by decide +kernel
theorem d_M_within_4 : decode b_M_within 4 = .ok (.iload_n 3, 1) := by decide +kernel
theorem d_M_within_5 : decode b_M_within 5 = .ok (.aload_n 0, 1) := by decide +kernel
theorem d_M_within_6 : decode b_M_within 6 = .ok (.getfield 39, 3) := by decide +kernel
theorem d_M_within_9 : decode b_M_within 9 = .ok (.if_icmp .ge 32, 3) := by decide +kernel
theorem d_M_within_12 : decode b_M_within 12 = .ok (.iload_n 2, 1) := by decide +kernel
theorem d_M_within_13 : decode b_M_within 13 = .ok (.ifCond .eq 20, 3) := by decide +kernel
theorem d_M_within_16 : decode b_M_within 16 = .ok (.aload_n 0, 1) := by decide +kernel
theorem d_M_within_17 : decode b_M_within 17 = .ok (.getfield 33, 3) := by decide +kernel
theorem d_M_within_20 : decode b_M_within 20 = .ok (.iload_n 3, 1) := by decide +kernel
theorem d_M_within_21 : decode b_M_within 21 = .ok (.iaload, 1) := by decide +kernel
theorem d_M_within_22 : decode b_M_within 22 = .ok (.iload_n 1, 1) := by decide +kernel
theorem d_M_within_23 : decode b_M_within 23 = .ok (.invokestatic 46, 3) := by decide +kernel
theorem d_M_within_26 : decode b_M_within 26 = .ok (.ifCond .eq 7, 3) := by decide +kernel
theorem d_M_within_29 : decode b_M_within 29 = .ok (.iconst 1, 1) := by decide +kernel
theorem d_M_within_30 : decode b_M_within 30 = .ok (.goto 4, 3) := by decide +kernel
theorem d_M_within_33 : decode b_M_within 33 = .ok (.iconst 0, 1) := by decide +kernel
theorem d_M_within_34 : decode b_M_within 34 = .ok (.istore_n 2, 1) := by decide +kernel
theorem d_M_within_35 : decode b_M_within 35 = .ok (.iinc 3 1, 3) := by decide +kernel
theorem d_M_within_38 : decode b_M_within 38 = .ok (.goto (-34), 3) := by decide +kernel
theorem d_M_within_41 : decode b_M_within 41 = .ok (.iload_n 2, 1) := by decide +kernel
theorem d_M_within_42 : decode b_M_within 42 = .ok (.ireturn, 1) := by decide +kernel
theorem d_M_worth_0 : decode b_M_worth 0 = .ok (.lconst 1, 1) := by decide +kernel
theorem d_M_worth_1 : decode b_M_worth 1 = .ok (.lstore_n 2, 1) := by decide +kernel
theorem d_M_worth_2 : decode b_M_worth 2 = .ok (.iconst 1, 1) := by decide +kernel
theorem d_M_worth_3 : decode b_M_worth 3 = .ok (.istore 4, 2) := by decide +kernel
theorem d_M_worth_5 : decode b_M_worth 5 = .ok (.iconst 0, 1) := by decide +kernel
theorem d_M_worth_6 : decode b_M_worth 6 = .ok (.istore 5, 2) := by decide +kernel
theorem d_M_worth_8 : decode b_M_worth 8 = .ok (.iload 5, 2) := by decide +kernel
theorem d_M_worth_10 : decode b_M_worth 10 = .ok (.iload_n 1, 1) := by decide +kernel
theorem d_M_worth_11 : decode b_M_worth 11 = .ok (.if_icmp .ge 255, 3) := by decide +kernel
theorem d_M_worth_14 : decode b_M_worth 14 = .ok (.iload 5, 2) := by decide +kernel
theorem d_M_worth_16 : decode b_M_worth 16 = .ok (.istore 6, 2) := by decide +kernel
theorem d_M_worth_18 : decode b_M_worth 18 = .ok (.iload 6, 2) := by decide +kernel
theorem d_M_worth_20 : decode b_M_worth 20 = .ok (.iload_n 1, 1) := by decide +kernel
theorem d_M_worth_21 : decode b_M_worth 21 = .ok (.if_icmp .ge 26, 3) := by decide +kernel
theorem d_M_worth_24 : decode b_M_worth 24 = .ok (.aload_n 0, 1) := by decide +kernel
theorem d_M_worth_25 : decode b_M_worth 25 = .ok (.getfield 26, 3) := by decide +kernel
theorem d_M_worth_28 : decode b_M_worth 28 = .ok (.iload_n 1, 1) := by decide +kernel
theorem d_M_worth_29 : decode b_M_worth 29 = .ok (.iload 6, 2) := by decide +kernel
theorem d_M_worth_31 : decode b_M_worth 31 = .ok (.imul, 1) := by decide +kernel
theorem d_M_worth_32 : decode b_M_worth 32 = .ok (.iload 5, 2) := by decide +kernel
theorem d_M_worth_34 : decode b_M_worth 34 = .ok (.iadd, 1) := by decide +kernel
theorem d_M_worth_35 : decode b_M_worth 35 = .ok (.laload, 1) := by decide +kernel
theorem d_M_worth_36 : decode b_M_worth 36 = .ok (.lconst 0, 1) := by decide +kernel
theorem d_M_worth_37 : decode b_M_worth 37 = .ok (.lcmp, 1) := by decide +kernel
theorem d_M_worth_38 : decode b_M_worth 38 = .ok (.ifCond .ne 9, 3) := by decide +kernel
theorem d_M_worth_41 : decode b_M_worth 41 = .ok (.iinc 6 1, 3) := by decide +kernel
theorem d_M_worth_44 : decode b_M_worth 44 = .ok (.goto (-26), 3) := by decide +kernel
theorem d_M_worth_47 : decode b_M_worth 47 = .ok (.iload 6, 2) := by decide +kernel
theorem d_M_worth_49 : decode b_M_worth 49 = .ok (.iload_n 1, 1) := by decide +kernel
theorem d_M_worth_50 : decode b_M_worth 50 = .ok (.if_icmp .ne 5, 3) := by decide +kernel
theorem d_M_worth_53 : decode b_M_worth 53 = .ok (.lconst 0, 1) := by decide +kernel
theorem d_M_worth_54 : decode b_M_worth 54 = .ok (.lreturn, 1) := by decide +kernel
theorem d_M_worth_55 : decode b_M_worth 55 = .ok (.iconst 0, 1) := by decide +kernel
theorem d_M_worth_56 : decode b_M_worth 56 = .ok (.istore 7, 2) := by decide +kernel
theorem d_M_worth_58 : decode b_M_worth 58 = .ok (.iload 7, 2) := by decide +kernel
theorem d_M_worth_60 : decode b_M_worth 60 = .ok (.iload_n 1, 1) := by decide +kernel
theorem d_M_worth_61 : decode b_M_worth 61 = .ok (.if_icmp .ge 68, 3) := by decide +kernel
theorem d_M_worth_64 : decode b_M_worth 64 = .ok (.iload 6, 2) := by decide +kernel
theorem d_M_worth_66 : decode b_M_worth 66 = .ok (.iload 5, 2) := by decide +kernel
theorem d_M_worth_68 : decode b_M_worth 68 = .ok (.if_icmp .eq 61, 3) := by decide +kernel
theorem d_M_worth_71 : decode b_M_worth 71 = .ok (.aload_n 0, 1) := by decide +kernel
theorem d_M_worth_72 : decode b_M_worth 72 = .ok (.getfield 26, 3) := by decide +kernel
theorem d_M_worth_75 : decode b_M_worth 75 = .ok (.iload_n 1, 1) := by decide +kernel
theorem d_M_worth_76 : decode b_M_worth 76 = .ok (.iload 6, 2) := by decide +kernel
theorem d_M_worth_78 : decode b_M_worth 78 = .ok (.imul, 1) := by decide +kernel
theorem d_M_worth_79 : decode b_M_worth 79 = .ok (.iload 7, 2) := by decide +kernel
theorem d_M_worth_81 : decode b_M_worth 81 = .ok (.iadd, 1) := by decide +kernel
theorem d_M_worth_82 : decode b_M_worth 82 = .ok (.laload, 1) := by decide +kernel
theorem d_M_worth_83 : decode b_M_worth 83 = .ok (.lstore 8, 2) := by decide +kernel
theorem d_M_worth_85 : decode b_M_worth 85 = .ok (.aload_n 0, 1) := by decide +kernel
theorem d_M_worth_86 : decode b_M_worth 86 = .ok (.getfield 26, 3) := by decide +kernel
theorem d_M_worth_89 : decode b_M_worth 89 = .ok (.iload_n 1, 1) := by decide +kernel
theorem d_M_worth_90 : decode b_M_worth 90 = .ok (.iload 6, 2) := by decide +kernel
theorem d_M_worth_92 : decode b_M_worth 92 = .ok (.imul, 1) := by decide +kernel
theorem d_M_worth_93 : decode b_M_worth 93 = .ok (.iload 7, 2) := by decide +kernel
theorem d_M_worth_95 : decode b_M_worth 95 = .ok (.iadd, 1) := by decide +kernel
theorem d_M_worth_96 : decode b_M_worth 96 = .ok (.aload_n 0, 1) := by decide +kernel
theorem d_M_worth_97 : decode b_M_worth 97 = .ok (.getfield 26, 3) := by decide +kernel
theorem d_M_worth_100 : decode b_M_worth 100 = .ok (.iload_n 1, 1) := by decide +kernel
theorem d_M_worth_101 : decode b_M_worth 101 = .ok (.iload 5, 2) := by decide +kernel
theorem d_M_worth_103 : decode b_M_worth 103 = .ok (.imul, 1) := by decide +kernel
theorem d_M_worth_104 : decode b_M_worth 104 = .ok (.iload 7, 2) := by decide +kernel
theorem d_M_worth_106 : decode b_M_worth 106 = .ok (.iadd, 1) := by decide +kernel
theorem d_M_worth_107 : decode b_M_worth 107 = .ok (.laload, 1) := by decide +kernel
theorem d_M_worth_108 : decode b_M_worth 108 = .ok (.lastore, 1) := by decide +kernel
theorem d_M_worth_109 : decode b_M_worth 109 = .ok (.aload_n 0, 1) := by decide +kernel
theorem d_M_worth_110 : decode b_M_worth 110 = .ok (.getfield 26, 3) := by decide +kernel
theorem d_M_worth_113 : decode b_M_worth 113 = .ok (.iload_n 1, 1) := by decide +kernel
theorem d_M_worth_114 : decode b_M_worth 114 = .ok (.iload 5, 2) := by decide +kernel
theorem d_M_worth_116 : decode b_M_worth 116 = .ok (.imul, 1) := by decide +kernel
theorem d_M_worth_117 : decode b_M_worth 117 = .ok (.iload 7, 2) := by decide +kernel
theorem d_M_worth_119 : decode b_M_worth 119 = .ok (.iadd, 1) := by decide +kernel
theorem d_M_worth_120 : decode b_M_worth 120 = .ok (.lload 8, 2) := by decide +kernel
theorem d_M_worth_122 : decode b_M_worth 122 = .ok (.lastore, 1) := by decide +kernel
theorem d_M_worth_123 : decode b_M_worth 123 = .ok (.iinc 7 1, 3) := by decide +kernel
theorem d_M_worth_126 : decode b_M_worth 126 = .ok (.goto (-68), 3) := by decide +kernel
theorem d_M_worth_129 : decode b_M_worth 129 = .ok (.iload 6, 2) := by decide +kernel
theorem d_M_worth_131 : decode b_M_worth 131 = .ok (.iload 5, 2) := by decide +kernel
theorem d_M_worth_133 : decode b_M_worth 133 = .ok (.if_icmp .eq 9, 3) := by decide +kernel
theorem d_M_worth_136 : decode b_M_worth 136 = .ok (.iload 4, 2) := by decide +kernel
theorem d_M_worth_138 : decode b_M_worth 138 = .ok (.ineg, 1) := by decide +kernel
theorem d_M_worth_139 : decode b_M_worth 139 = .ok (.goto 5, 3) := by decide +kernel
theorem d_M_worth_142 : decode b_M_worth 142 = .ok (.iload 4, 2) := by decide +kernel
theorem d_M_worth_144 : decode b_M_worth 144 = .ok (.istore 4, 2) := by decide +kernel
theorem d_M_worth_146 : decode b_M_worth 146 = .ok (.iload 5, 2) := by decide +kernel
theorem d_M_worth_148 : decode b_M_worth 148 = .ok (.iconst 1, 1) := by decide +kernel
theorem d_M_worth_149 : decode b_M_worth 149 = .ok (.iadd, 1) := by decide +kernel
theorem d_M_worth_150 : decode b_M_worth 150 = .ok (.istore 7, 2) := by decide +kernel
theorem d_M_worth_152 : decode b_M_worth 152 = .ok (.iload 7, 2) := by decide +kernel
theorem d_M_worth_154 : decode b_M_worth 154 = .ok (.iload_n 1, 1) := by decide +kernel
theorem d_M_worth_155 : decode b_M_worth 155 = .ok (.if_icmp .ge 92, 3) := by decide +kernel
theorem d_M_worth_158 : decode b_M_worth 158 = .ok (.iload_n 1, 1) := by decide +kernel
theorem d_M_worth_159 : decode b_M_worth 159 = .ok (.iconst 1, 1) := by decide +kernel
theorem d_M_worth_160 : decode b_M_worth 160 = .ok (.isub, 1) := by decide +kernel
theorem d_M_worth_161 : decode b_M_worth 161 = .ok (.istore 8, 2) := by decide +kernel
theorem d_M_worth_163 : decode b_M_worth 163 = .ok (.iload 8, 2) := by decide +kernel
theorem d_M_worth_165 : decode b_M_worth 165 = .ok (.iload 5, 2) := by decide +kernel
theorem d_M_worth_167 : decode b_M_worth 167 = .ok (.if_icmp .lt 74, 3) := by decide +kernel
theorem d_M_worth_170 : decode b_M_worth 170 = .ok (.aload_n 0, 1) := by decide +kernel
theorem d_M_worth_171 : decode b_M_worth 171 = .ok (.getfield 26, 3) := by decide +kernel
theorem d_M_worth_174 : decode b_M_worth 174 = .ok (.iload_n 1, 1) := by decide +kernel
theorem d_M_worth_175 : decode b_M_worth 175 = .ok (.iload 7, 2) := by decide +kernel
theorem d_M_worth_177 : decode b_M_worth 177 = .ok (.imul, 1) := by decide +kernel
theorem d_M_worth_178 : decode b_M_worth 178 = .ok (.iload 8, 2) := by decide +kernel
theorem d_M_worth_180 : decode b_M_worth 180 = .ok (.iadd, 1) := by decide +kernel
theorem d_M_worth_181 : decode b_M_worth 181 = .ok (.aload_n 0, 1) := by decide +kernel
theorem d_M_worth_182 : decode b_M_worth 182 = .ok (.getfield 26, 3) := by decide +kernel
theorem d_M_worth_185 : decode b_M_worth 185 = .ok (.iload_n 1, 1) := by decide +kernel
theorem d_M_worth_186 : decode b_M_worth 186 = .ok (.iload 7, 2) := by decide +kernel
theorem d_M_worth_188 : decode b_M_worth 188 = .ok (.imul, 1) := by decide +kernel
theorem d_M_worth_189 : decode b_M_worth 189 = .ok (.iload 8, 2) := by decide +kernel
theorem d_M_worth_191 : decode b_M_worth 191 = .ok (.iadd, 1) := by decide +kernel
theorem d_M_worth_192 : decode b_M_worth 192 = .ok (.laload, 1) := by decide +kernel
theorem d_M_worth_193 : decode b_M_worth 193 = .ok (.aload_n 0, 1) := by decide +kernel
theorem d_M_worth_194 : decode b_M_worth 194 = .ok (.getfield 26, 3) := by decide +kernel
theorem d_M_worth_197 : decode b_M_worth 197 = .ok (.iload_n 1, 1) := by decide +kernel
theorem d_M_worth_198 : decode b_M_worth 198 = .ok (.iload 5, 2) := by decide +kernel
theorem d_M_worth_200 : decode b_M_worth 200 = .ok (.imul, 1) := by decide +kernel
theorem d_M_worth_201 : decode b_M_worth 201 = .ok (.iload 5, 2) := by decide +kernel
theorem d_M_worth_203 : decode b_M_worth 203 = .ok (.iadd, 1) := by decide +kernel
theorem d_M_worth_204 : decode b_M_worth 204 = .ok (.laload, 1) := by decide +kernel
theorem d_M_worth_205 : decode b_M_worth 205 = .ok (.lmul, 1) := by decide +kernel
theorem d_M_worth_206 : decode b_M_worth 206 = .ok (.aload_n 0, 1) := by decide +kernel
theorem d_M_worth_207 : decode b_M_worth 207 = .ok (.getfield 26, 3) := by decide +kernel
theorem d_M_worth_210 : decode b_M_worth 210 = .ok (.iload_n 1, 1) := by decide +kernel
theorem d_M_worth_211 : decode b_M_worth 211 = .ok (.iload 5, 2) := by decide +kernel
theorem d_M_worth_213 : decode b_M_worth 213 = .ok (.imul, 1) := by decide +kernel
theorem d_M_worth_214 : decode b_M_worth 214 = .ok (.iload 8, 2) := by decide +kernel
theorem d_M_worth_216 : decode b_M_worth 216 = .ok (.iadd, 1) := by decide +kernel
theorem d_M_worth_217 : decode b_M_worth 217 = .ok (.laload, 1) := by decide +kernel
theorem d_M_worth_218 : decode b_M_worth 218 = .ok (.aload_n 0, 1) := by decide +kernel
theorem d_M_worth_219 : decode b_M_worth 219 = .ok (.getfield 26, 3) := by decide +kernel
theorem d_M_worth_222 : decode b_M_worth 222 = .ok (.iload_n 1, 1) := by decide +kernel
theorem d_M_worth_223 : decode b_M_worth 223 = .ok (.iload 7, 2) := by decide +kernel
theorem d_M_worth_225 : decode b_M_worth 225 = .ok (.imul, 1) := by decide +kernel
theorem d_M_worth_226 : decode b_M_worth 226 = .ok (.iload 5, 2) := by decide +kernel
theorem d_M_worth_228 : decode b_M_worth 228 = .ok (.iadd, 1) := by decide +kernel
theorem d_M_worth_229 : decode b_M_worth 229 = .ok (.laload, 1) := by decide +kernel
theorem d_M_worth_230 : decode b_M_worth 230 = .ok (.lmul, 1) := by decide +kernel
theorem d_M_worth_231 : decode b_M_worth 231 = .ok (.lsub, 1) := by decide +kernel
theorem d_M_worth_232 : decode b_M_worth 232 = .ok (.lload_n 2, 1) := by decide +kernel
theorem d_M_worth_233 : decode b_M_worth 233 = .ok (.ldiv, 1) := by decide +kernel
theorem d_M_worth_234 : decode b_M_worth 234 = .ok (.lastore, 1) := by decide +kernel
theorem d_M_worth_235 : decode b_M_worth 235 = .ok (.iinc 8 (-1), 3) := by decide +kernel
theorem d_M_worth_238 : decode b_M_worth 238 = .ok (.goto (-75), 3) := by decide +kernel
theorem d_M_worth_241 : decode b_M_worth 241 = .ok (.iinc 7 1, 3) := by decide +kernel
theorem d_M_worth_244 : decode b_M_worth 244 = .ok (.goto (-92), 3) := by decide +kernel
theorem d_M_worth_247 : decode b_M_worth 247 = .ok (.aload_n 0, 1) := by decide +kernel
theorem d_M_worth_248 : decode b_M_worth 248 = .ok (.getfield 26, 3) := by decide +kernel
theorem d_M_worth_251 : decode b_M_worth 251 = .ok (.iload_n 1, 1) := by decide +kernel
theorem d_M_worth_252 : decode b_M_worth 252 = .ok (.iload 5, 2) := by decide +kernel
theorem d_M_worth_254 : decode b_M_worth 254 = .ok (.imul, 1) := by decide +kernel
theorem d_M_worth_255 : decode b_M_worth 255 = .ok (.iload 5, 2) := by decide +kernel
theorem d_M_worth_257 : decode b_M_worth 257 = .ok (.iadd, 1) := by decide +kernel
theorem d_M_worth_258 : decode b_M_worth 258 = .ok (.laload, 1) := by decide +kernel
theorem d_M_worth_259 : decode b_M_worth 259 = .ok (.lstore_n 2, 1) := by decide +kernel
theorem d_M_worth_260 : decode b_M_worth 260 = .ok (.iinc 5 1, 3) := by decide +kernel
theorem d_M_worth_263 : decode b_M_worth 263 = .ok (.goto (-255), 3) := by decide +kernel
theorem d_M_worth_266 : decode b_M_worth 266 = .ok (.iload 4, 2) := by decide +kernel
theorem d_M_worth_268 : decode b_M_worth 268 = .ok (.i2l, 1) := by decide +kernel
theorem d_M_worth_269 : decode b_M_worth 269 = .ok (.lload_n 2, 1) := by decide +kernel
theorem d_M_worth_270 : decode b_M_worth 270 = .ok (.lmul, 1) := by decide +kernel
theorem d_M_worth_271 : decode b_M_worth 271 = .ok (.lreturn, 1) := by decide +kernel
