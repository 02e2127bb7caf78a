-- decode rows, by wip/tools/decodes.py
theorem d_D_add_0 : decode b_D_add 0 = .ok (.aload_n 0, 1) := by decide +kernel
theorem d_D_add_1 : decode b_D_add 1 = .ok (.iload_n 1, 1) := by decide +kernel
theorem d_D_add_2 : decode b_D_add 2 = .ok (.iload_n 2, 1) := by decide +kernel
theorem d_D_add_3 : decode b_D_add 3 = .ok (.iload_n 3, 1) := by decide +kernel
theorem d_D_add_4 : decode b_D_add 4 = .ok (.iload 4, 2) := by decide +kernel
theorem d_D_add_6 : decode b_D_add 6 = .ok (.invokevirtual 62, 3) := by decide +kernel
theorem d_D_add_9 : decode b_D_add 9 = .ok (.aload_n 0, 1) := by decide +kernel
theorem d_D_add_10 : decode b_D_add 10 = .ok (.iconst 5, 1) := by decide +kernel
theorem d_D_add_11 : decode b_D_add 11 = .ok (.invokevirtual 66, 3) := by decide +kernel
theorem d_D_add_14 : decode b_D_add 14 = .ok (.ifCond .eq 11, 3) := by decide +kernel
theorem d_D_add_17 : decode b_D_add 17 = .ok (.aload_n 0, 1) := by decide +kernel
theorem d_D_add_18 : decode b_D_add 18 = .ok (.iconst 0, 1) := by decide +kernel
theorem d_D_add_19 : decode b_D_add 19 = .ok (.invokevirtual 66, 3) := by decide +kernel
theorem d_D_add_22 : decode b_D_add 22 = .ok (.ifCond .eq 13, 3) := by decide +kernel
theorem d_D_add_25 : decode b_D_add 25 = .ok (.new 70, 3) := by decide +kernel
theorem d_D_add_28 : decode b_D_add 28 = .ok (.dup, 1) := by decide +kernel
theorem d_D_add_29 : decode b_D_add 29 = .ok (.ldc 72, 2) := by decide +kernel
theorem d_D_add_31 : decode b_D_add 31 = .ok (.invokespecial 74, 3) := by decide +kernel
theorem d_D_add_34 : decode b_D_add 34 = .ok (.athrow, 1) := by decide +kernel
theorem d_D_add_35 : decode b_D_add 35 = .ok (.aload_n 0, 1) := by decide +kernel
theorem d_D_add_36 : decode b_D_add 36 = .ok (.getfield 34, 3) := by decide +kernel
theorem d_D_add_39 : decode b_D_add 39 = .ok (.getfield 77, 3) := by decide +kernel
theorem d_D_add_42 : decode b_D_add 42 = .ok (.bipush 8, 2) := by decide +kernel
theorem d_D_add_44 : decode b_D_add 44 = .ok (.if_icmp .lt 13, 3) := by decide +kernel
theorem d_D_add_47 : decode b_D_add 47 = .ok (.new 80, 3) := by decide +kernel
theorem d_D_add_50 : decode b_D_add 50 = .ok (.dup, 1) := by decide +kernel
theorem d_D_add_51 : decode b_D_add 51 = .ok (.ldc 82, 2) := by decide +kernel
theorem d_D_add_53 : decode b_D_add 53 = .ok (.invokespecial 84, 3) := by decide +kernel
theorem d_D_add_56 : decode b_D_add 56 = .ok (.athrow, 1) := by decide +kernel
theorem d_D_add_57 : decode b_D_add 57 = .ok (.aload_n 0, 1) := by decide +kernel
theorem d_D_add_58 : decode b_D_add 58 = .ok (.getfield 34, 3) := by decide +kernel
theorem d_D_add_61 : decode b_D_add 61 = .ok (.aload_n 0, 1) := by decide +kernel
theorem d_D_add_62 : decode b_D_add 62 = .ok (.getfield 34, 3) := by decide +kernel
theorem d_D_add_65 : decode b_D_add 65 = .ok (.getfield 77, 3) := by decide +kernel
theorem d_D_add_68 : decode b_D_add 68 = .ok (.aload_n 0, 1) := by decide +kernel
theorem d_D_add_69 : decode b_D_add 69 = .ok (.getfield 22, 3) := by decide +kernel
theorem d_D_add_72 : decode b_D_add 72 = .ok (.invokevirtual 85, 3) := by decide +kernel
theorem d_D_add_75 : decode b_D_add 75 = .ok (.aload_n 0, 1) := by decide +kernel
theorem d_D_add_76 : decode b_D_add 76 = .ok (.invokevirtual 89, 3) := by decide +kernel
theorem d_D_add_79 : decode b_D_add 79 = .ok (.aload_n 0, 1) := by decide +kernel
theorem d_D_add_80 : decode b_D_add 80 = .ok (.getfield 34, 3) := by decide +kernel
theorem d_D_add_83 : decode b_D_add 83 = .ok (.getfield 77, 3) := by decide +kernel
theorem d_D_add_86 : decode b_D_add 86 = .ok (.iconst 1, 1) := by decide +kernel
theorem d_D_add_87 : decode b_D_add 87 = .ok (.isub, 1) := by decide +kernel
theorem d_D_add_88 : decode b_D_add 88 = .ok (.ireturn, 1) := by decide +kernel
theorem d_D_basis_0 : decode b_D_basis 0 = .ok (.aload_n 0, 1) := by decide +kernel
theorem d_D_basis_1 : decode b_D_basis 1 = .ok (.iconst 3, 1) := by decide +kernel
theorem d_D_basis_2 : decode b_D_basis 2 = .ok (.invokevirtual 107, 3) := by decide +kernel
theorem d_D_basis_5 : decode b_D_basis 5 = .ok (.aload_n 0, 1) := by decide +kernel
theorem d_D_basis_6 : decode b_D_basis 6 = .ok (.getfield 58, 3) := by decide +kernel
theorem d_D_basis_9 : decode b_D_basis 9 = .ok (.getfield 131, 3) := by decide +kernel
theorem d_D_basis_12 : decode b_D_basis 12 = .ok (.ifCond .eq 7, 3) := by decide +kernel
theorem d_D_basis_15 : decode b_D_basis 15 = .ok (.iconst (-1), 1) := by decide +kernel
theorem d_D_basis_16 : decode b_D_basis 16 = .ok (.goto 13, 3) := by decide +kernel
theorem d_D_basis_19 : decode b_D_basis 19 = .ok (.aload_n 0, 1) := by decide +kernel
theorem d_D_basis_20 : decode b_D_basis 20 = .ok (.getfield 58, 3) := by decide +kernel
theorem d_D_basis_23 : decode b_D_basis 23 = .ok (.getfield 135, 3) := by decide +kernel
theorem d_D_basis_26 : decode b_D_basis 26 = .ok (.getfield 77, 3) := by decide +kernel
theorem d_D_basis_29 : decode b_D_basis 29 = .ok (.ireturn, 1) := by decide +kernel
theorem d_D_bounds_0 : decode b_D_bounds 0 = .ok (.aload_n 0, 1) := by decide +kernel
theorem d_D_bounds_1 : decode b_D_bounds 1 = .ok (.iconst 2, 1) := by decide +kernel
theorem d_D_bounds_2 : decode b_D_bounds 2 = .ok (.invokevirtual 107, 3) := by decide +kernel
theorem d_D_bounds_5 : decode b_D_bounds 5 = .ok (.aload_n 0, 1) := by decide +kernel
theorem d_D_bounds_6 : decode b_D_bounds 6 = .ok (.iload_n 1, 1) := by decide +kernel
theorem d_D_bounds_7 : decode b_D_bounds 7 = .ok (.invokevirtual 92, 3) := by decide +kernel
theorem d_D_bounds_10 : decode b_D_bounds 10 = .ok (.aload_n 0, 1) := by decide +kernel
theorem d_D_bounds_11 : decode b_D_bounds 11 = .ok (.getfield 51, 3) := by decide +kernel
theorem d_D_bounds_14 : decode b_D_bounds 14 = .ok (.iload_n 1, 1) := by decide +kernel
theorem d_D_bounds_15 : decode b_D_bounds 15 = .ok (.invokevirtual 121, 3) := by decide +kernel
theorem d_D_bounds_18 : decode b_D_bounds 18 = .ok (.ifCond .eq 24, 3) := by decide +kernel
theorem d_D_bounds_21 : decode b_D_bounds 21 = .ok (.aload_n 0, 1) := by decide +kernel
theorem d_D_bounds_22 : decode b_D_bounds 22 = .ok (.getfield 51, 3) := by decide +kernel
theorem d_D_bounds_25 : decode b_D_bounds 25 = .ok (.iload_n 1, 1) := by decide +kernel
theorem d_D_bounds_26 : decode b_D_bounds 26 = .ok (.invokevirtual 124, 3) := by decide +kernel
theorem d_D_bounds_29 : decode b_D_bounds 29 = .ok (.aload_n 0, 1) := by decide +kernel
theorem d_D_bounds_30 : decode b_D_bounds 30 = .ok (.getfield 118, 3) := by decide +kernel
theorem d_D_bounds_33 : decode b_D_bounds 33 = .ok (.iconst 1, 1) := by decide +kernel
theorem d_D_bounds_34 : decode b_D_bounds 34 = .ok (.isub, 1) := by decide +kernel
theorem d_D_bounds_35 : decode b_D_bounds 35 = .ok (.if_icmp .ne 7, 3) := by decide +kernel
theorem d_D_bounds_38 : decode b_D_bounds 38 = .ok (.iconst 1, 1) := by decide +kernel
theorem d_D_bounds_39 : decode b_D_bounds 39 = .ok (.goto 4, 3) := by decide +kernel
theorem d_D_bounds_42 : decode b_D_bounds 42 = .ok (.iconst 0, 1) := by decide +kernel
theorem d_D_bounds_43 : decode b_D_bounds 43 = .ok (.ireturn, 1) := by decide +kernel
theorem d_D_drop_0 : decode b_D_drop 0 = .ok (.aload_n 0, 1) := by decide +kernel
theorem d_D_drop_1 : decode b_D_drop 1 = .ok (.iload_n 1, 1) := by decide +kernel
theorem d_D_drop_2 : decode b_D_drop 2 = .ok (.invokevirtual 92, 3) := by decide +kernel
theorem d_D_drop_5 : decode b_D_drop 5 = .ok (.aload_n 0, 1) := by decide +kernel
theorem d_D_drop_6 : decode b_D_drop 6 = .ok (.getfield 34, 3) := by decide +kernel
theorem d_D_drop_9 : decode b_D_drop 9 = .ok (.iload_n 1, 1) := by decide +kernel
theorem d_D_drop_10 : decode b_D_drop 10 = .ok (.invokevirtual 95, 3) := by decide +kernel
theorem d_D_drop_13 : decode b_D_drop 13 = .ok (.aload_n 0, 1) := by decide +kernel
theorem d_D_drop_14 : decode b_D_drop 14 = .ok (.invokevirtual 89, 3) := by decide +kernel
theorem d_D_drop_17 : decode b_D_drop 17 = .ok (.return_, 1) := by decide +kernel
theorem d_D_faces_0 : decode b_D_faces 0 = .ok (.aload_n 0, 1) := by decide +kernel
theorem d_D_faces_1 : decode b_D_faces 1 = .ok (.iconst 2, 1) := by decide +kernel
theorem d_D_faces_2 : decode b_D_faces 2 = .ok (.invokevirtual 107, 3) := by decide +kernel
theorem d_D_faces_5 : decode b_D_faces 5 = .ok (.aload_n 0, 1) := by decide +kernel
theorem d_D_faces_6 : decode b_D_faces 6 = .ok (.getfield 51, 3) := by decide +kernel
theorem d_D_faces_9 : decode b_D_faces 9 = .ok (.iload_n 1, 1) := by decide +kernel
theorem d_D_faces_10 : decode b_D_faces 10 = .ok (.invokevirtual 128, 3) := by decide +kernel
theorem d_D_faces_13 : decode b_D_faces 13 = .ok (.ireturn, 1) := by decide +kernel
theorem d_D_findRays_0 : decode b_D_findRays 0 = .ok (.aload_n 0, 1) := by decide +kernel
theorem d_D_findRays_1 : decode b_D_findRays 1 = .ok (.getfield 38, 3) := by decide +kernel
theorem d_D_findRays_4 : decode b_D_findRays 4 = .ok (.iconst 0, 1) := by decide +kernel
theorem d_D_findRays_5 : decode b_D_findRays 5 = .ok (.putfield 77, 3) := by decide +kernel
theorem d_D_findRays_8 : decode b_D_findRays 8 = .ok (.iconst 1, 1) := by decide +kernel
theorem d_D_findRays_9 : decode b_D_findRays 9 = .ok (.aload_n 0, 1) := by decide +kernel
theorem d_D_findRays_10 : decode b_D_findRays 10 = .ok (.getfield 34, 3) := by decide +kernel
theorem d_D_findRays_13 : decode b_D_findRays 13 = .ok (.getfield 77, 3) := by decide +kernel
theorem d_D_findRays_16 : decode b_D_findRays 16 = .ok (.ishl, 1) := by decide +kernel
theorem d_D_findRays_17 : decode b_D_findRays 17 = .ok (.istore_n 1, 1) := by decide +kernel
theorem d_D_findRays_18 : decode b_D_findRays 18 = .ok (.iconst 0, 1) := by decide +kernel
theorem d_D_findRays_19 : decode b_D_findRays 19 = .ok (.istore_n 2, 1) := by decide +kernel
theorem d_D_findRays_20 : decode b_D_findRays 20 = .ok (.iload_n 2, 1) := by decide +kernel
theorem d_D_findRays_21 : decode b_D_findRays 21 = .ok (.iload_n 1, 1) := by decide +kernel
theorem d_D_findRays_22 : decode b_D_findRays 22 = .ok (.if_icmp .ge 53, 3) := by decide +kernel
theorem d_D_findRays_25 : decode b_D_findRays 25 = .ok (.iload_n 2, 1) := by decide +kernel
theorem d_D_findRays_26 : decode b_D_findRays 26 = .ok (.invokestatic 189, 3) := by decide +kernel
theorem d_D_findRays_29 : decode b_D_findRays 29 = .ok (.aload_n 0, 1) := by decide +kernel
theorem d_D_findRays_30 : decode b_D_findRays 30 = .ok (.getfield 18, 3) := by decide +kernel
theorem d_D_findRays_33 : decode b_D_findRays 33 = .ok (.iconst 1, 1) := by decide +kernel
theorem d_D_findRays_34 : decode b_D_findRays 34 = .ok (.isub, 1) := by decide +kernel
theorem d_D_findRays_35 : decode b_D_findRays 35 = .ok (.if_icmp .ne 34, 3) := by decide +kernel
theorem d_D_findRays_38 : decode b_D_findRays 38 = .ok (.aload_n 0, 1) := by decide +kernel
theorem d_D_findRays_39 : decode b_D_findRays 39 = .ok (.getfield 44, 3) := by decide +kernel
theorem d_D_findRays_42 : decode b_D_findRays 42 = .ok (.aload_n 0, 1) := by decide +kernel
theorem d_D_findRays_43 : decode b_D_findRays 43 = .ok (.getfield 34, 3) := by decide +kernel
theorem d_D_findRays_46 : decode b_D_findRays 46 = .ok (.iload_n 2, 1) := by decide +kernel
theorem d_D_findRays_47 : decode b_D_findRays 47 = .ok (.invokevirtual 164, 3) := by decide +kernel
theorem d_D_findRays_50 : decode b_D_findRays 50 = .ok (.aload_n 0, 1) := by decide +kernel
theorem d_D_findRays_51 : decode b_D_findRays 51 = .ok (.getfield 18, 3) := by decide +kernel
theorem d_D_findRays_54 : decode b_D_findRays 54 = .ok (.iconst 1, 1) := by decide +kernel
theorem d_D_findRays_55 : decode b_D_findRays 55 = .ok (.isub, 1) := by decide +kernel
theorem d_D_findRays_56 : decode b_D_findRays 56 = .ok (.if_icmp .ne 13, 3) := by decide +kernel
theorem d_D_findRays_59 : decode b_D_findRays 59 = .ok (.aload_n 0, 1) := by decide +kernel
theorem d_D_findRays_60 : decode b_D_findRays 60 = .ok (.iconst 1, 1) := by decide +kernel
theorem d_D_findRays_61 : decode b_D_findRays 61 = .ok (.invokevirtual 194, 3) := by decide +kernel
theorem d_D_findRays_64 : decode b_D_findRays 64 = .ok (.aload_n 0, 1) := by decide +kernel
theorem d_D_findRays_65 : decode b_D_findRays 65 = .ok (.iconst (-1), 1) := by decide +kernel
theorem d_D_findRays_66 : decode b_D_findRays 66 = .ok (.invokevirtual 194, 3) := by decide +kernel
theorem d_D_findRays_69 : decode b_D_findRays 69 = .ok (.iinc 2 1, 3) := by decide +kernel
theorem d_D_findRays_72 : decode b_D_findRays 72 = .ok (.goto (-52), 3) := by decide +kernel
theorem d_D_findRays_75 : decode b_D_findRays 75 = .ok (.return_, 1) := by decide +kernel
theorem d_D_hasBit_0 : decode b_D_hasBit 0 = .ok (.iload_n 0, 1) := by decide +kernel
theorem d_D_hasBit_1 : decode b_D_hasBit 1 = .ok (.iload_n 1, 1) := by decide +kernel
theorem d_D_hasBit_2 : decode b_D_hasBit 2 = .ok (.ishr, 1) := by decide +kernel
theorem d_D_hasBit_3 : decode b_D_hasBit 3 = .ok (.iconst 1, 1) := by decide +kernel
theorem d_D_hasBit_4 : decode b_D_hasBit 4 = .ok (.iand, 1) := by decide +kernel
theorem d_D_hasBit_5 : decode b_D_hasBit 5 = .ok (.ifCond .eq 7, 3) := by decide +kernel
theorem d_D_hasBit_8 : decode b_D_hasBit 8 = .ok (.iconst 1, 1) := by decide +kernel
theorem d_D_hasBit_9 : decode b_D_hasBit 9 = .ok (.goto 4, 3) := by decide +kernel
theorem d_D_hasBit_12 : decode b_D_hasBit 12 = .ok (.iconst 0, 1) := by decide +kernel
theorem d_D_hasBit_13 : decode b_D_hasBit 13 = .ok (.ireturn, 1) := by decide +kernel
theorem d_D_holds_0 : decode b_D_holds 0 = .ok (.aload_n 0, 1) := by decide +kernel
theorem d_D_holds_1 : decode b_D_holds 1 = .ok (.iload_n 1, 1) := by decide +kernel
theorem d_D_holds_2 : decode b_D_holds 2 = .ok (.iload_n 2, 1) := by decide +kernel
theorem d_D_holds_3 : decode b_D_holds 3 = .ok (.iload_n 3, 1) := by decide +kernel
theorem d_D_holds_4 : decode b_D_holds 4 = .ok (.iload 4, 2) := by decide +kernel
theorem d_D_holds_6 : decode b_D_holds 6 = .ok (.invokevirtual 62, 3) := by decide +kernel
theorem d_D_holds_9 : decode b_D_holds 9 = .ok (.aload_n 0, 1) := by decide +kernel
theorem d_D_holds_10 : decode b_D_holds 10 = .ok (.aload_n 0, 1) := by decide +kernel
theorem d_D_holds_11 : decode b_D_holds 11 = .ok (.getfield 22, 3) := by decide +kernel
theorem d_D_holds_14 : decode b_D_holds 14 = .ok (.invokevirtual 143, 3) := by decide +kernel
theorem d_D_holds_17 : decode b_D_holds 17 = .ok (.ireturn, 1) := by decide +kernel
theorem d_D_init_0 : decode b_D_init 0 = .ok (.aload_n 0, 1) := by decide +kernel
theorem d_D_init_1 : decode b_D_init 1 = .ok (.invokespecial 3, 3) := by decide +kernel
theorem d_D_init_4 : decode b_D_init 4 = .ok (.aload_n 0, 1) := by decide +kernel
theorem d_D_init_5 : decode b_D_init 5 = .ok (.iconst 2, 1) := by decide +kernel
theorem d_D_init_6 : decode b_D_init 6 = .ok (.iconst 4, 1) := by decide +kernel
theorem d_D_init_7 : decode b_D_init 7 = .ok (.iload_n 1, 1) := by decide +kernel
theorem d_D_init_8 : decode b_D_init 8 = .ok (.invokestatic 9, 3) := by decide +kernel
theorem d_D_init_11 : decode b_D_init 11 = .ok (.invokestatic 15, 3) := by decide +kernel
theorem d_D_init_14 : decode b_D_init 14 = .ok (.putfield 18, 3) := by decide +kernel
theorem d_D_init_17 : decode b_D_init 17 = .ok (.aload_n 0, 1) := by decide +kernel
theorem d_D_init_18 : decode b_D_init 18 = .ok (.iconst 4, 1) := by decide +kernel
theorem d_D_init_19 : decode b_D_init 19 = .ok (.newarray .int, 2) := by decide +kernel
theorem d_D_init_21 : decode b_D_init 21 = .ok (.putfield 22, 3) := by decide +kernel
theorem d_D_init_24 : decode b_D_init 24 = .ok (.aload_n 0, 1) := by decide +kernel
theorem d_D_init_25 : decode b_D_init 25 = .ok (.iconst 4, 1) := by decide +kernel
theorem d_D_init_26 : decode b_D_init 26 = .ok (.newarray .int, 2) := by decide +kernel
theorem d_D_init_28 : decode b_D_init 28 = .ok (.putfield 26, 3) := by decide +kernel
theorem d_D_init_31 : decode b_D_init 31 = .ok (.aload_n 0, 1) := by decide +kernel
theorem d_D_init_32 : decode b_D_init 32 = .ok (.new 29, 3) := by decide +kernel
theorem d_D_init_35 : decode b_D_init 35 = .ok (.dup, 1) := by decide +kernel
theorem d_D_init_36 : decode b_D_init 36 = .ok (.bipush 8, 2) := by decide +kernel
theorem d_D_init_38 : decode b_D_init 38 = .ok (.invokespecial 31, 3) := by decide +kernel
theorem d_D_init_41 : decode b_D_init 41 = .ok (.putfield 34, 3) := by decide +kernel
theorem d_D_init_44 : decode b_D_init 44 = .ok (.aload_n 0, 1) := by decide +kernel
theorem d_D_init_45 : decode b_D_init 45 = .ok (.new 29, 3) := by decide +kernel
theorem d_D_init_48 : decode b_D_init 48 = .ok (.dup, 1) := by decide +kernel
theorem d_D_init_49 : decode b_D_init 49 = .ok (.bipush 12, 2) := by decide +kernel
theorem d_D_init_51 : decode b_D_init 51 = .ok (.invokespecial 31, 3) := by decide +kernel
theorem d_D_init_54 : decode b_D_init 54 = .ok (.putfield 38, 3) := by decide +kernel
theorem d_D_init_57 : decode b_D_init 57 = .ok (.aload_n 0, 1) := by decide +kernel
theorem d_D_init_58 : decode b_D_init 58 = .ok (.new 41, 3) := by decide +kernel
theorem d_D_init_61 : decode b_D_init 61 = .ok (.dup, 1) := by decide +kernel
theorem d_D_init_62 : decode b_D_init 62 = .ok (.invokespecial 43, 3) := by decide +kernel
theorem d_D_init_65 : decode b_D_init 65 = .ok (.putfield 44, 3) := by decide +kernel
theorem d_D_init_68 : decode b_D_init 68 = .ok (.aload_n 0, 1) := by decide +kernel
theorem d_D_init_69 : decode b_D_init 69 = .ok (.new 48, 3) := by decide +kernel
theorem d_D_init_72 : decode b_D_init 72 = .ok (.dup, 1) := by decide +kernel
theorem d_D_init_73 : decode b_D_init 73 = .ok (.invokespecial 50, 3) := by decide +kernel
theorem d_D_init_76 : decode b_D_init 76 = .ok (.putfield 51, 3) := by decide +kernel
theorem d_D_init_79 : decode b_D_init 79 = .ok (.aload_n 0, 1) := by decide +kernel
theorem d_D_init_80 : decode b_D_init 80 = .ok (.new 55, 3) := by decide +kernel
theorem d_D_init_83 : decode b_D_init 83 = .ok (.dup, 1) := by decide +kernel
theorem d_D_init_84 : decode b_D_init 84 = .ok (.invokespecial 57, 3) := by decide +kernel
theorem d_D_init_87 : decode b_D_init 87 = .ok (.putfield 58, 3) := by decide +kernel
theorem d_D_init_90 : decode b_D_init 90 = .ok (.return_, 1) := by decide +kernel
theorem d_D_isGivenWithin_0 : decode b_D_isGivenWithin 0 = .ok (.iconst 0, 1) := by decide +kernel
theorem d_D_isGivenWithin_1 : decode b_D_isGivenWithin 1 = .ok (.istore_n 2, 1) := by decide +kernel
theorem d_D_isGivenWithin_2 : decode b_D_isGivenWithin 2 = .ok (.iload_n 2, 1) := by decide +kernel
theorem d_D_isGivenWithin_3 : decode b_D_isGivenWithin 3 = .ok (.iconst 4, 1) := by decide +kernel
theorem d_D_isGivenWithin_4 : decode b_D_isGivenWithin 4 = .ok (.if_icmp .ge 32, 3) := by decide +kernel
theorem d_D_isGivenWithin_7 : decode b_D_isGivenWithin 7 = .ok (.aload_n 0, 1) := by decide +kernel
theorem d_D_isGivenWithin_8 : decode b_D_isGivenWithin 8 = .ok (.getfield 22, 3) := by decide +kernel
theorem d_D_isGivenWithin_11 : decode b_D_isGivenWithin 11 = .ok (.iload_n 2, 1) := by decide +kernel
theorem d_D_isGivenWithin_12 : decode b_D_isGivenWithin 12 = .ok (.iaload, 1) := by decide +kernel
theorem d_D_isGivenWithin_13 : decode b_D_isGivenWithin 13 = .ok (.iload_n 1, 1) := by decide +kernel
theorem d_D_isGivenWithin_14 : decode b_D_isGivenWithin 14 = .ok (.ineg, 1) := by decide +kernel
theorem d_D_isGivenWithin_15 : decode b_D_isGivenWithin 15 = .ok (.if_icmp .lt 13, 3) := by decide +kernel
theorem d_D_isGivenWithin_18 : decode b_D_isGivenWithin 18 = .ok (.aload_n 0, 1) := by decide +kernel
theorem d_D_isGivenWithin_19 : decode b_D_isGivenWithin 19 = .ok (.getfield 22, 3) := by decide +kernel
theorem d_D_isGivenWithin_22 : decode b_D_isGivenWithin 22 = .ok (.iload_n 2, 1) := by decide +kernel
theorem d_D_isGivenWithin_23 : decode b_D_isGivenWithin 23 = .ok (.iaload, 1) := by decide +kernel
theorem d_D_isGivenWithin_24 : decode b_D_isGivenWithin 24 = .ok (.iload_n 1, 1) := by decide +kernel
theorem d_D_isGivenWithin_25 : decode b_D_isGivenWithin 25 = .ok (.if_icmp .le 5, 3) := by decide +kernel
theorem d_D_isGivenWithin_28 : decode b_D_isGivenWithin 28 = .ok (.iconst 0, 1) := by decide +kernel
theorem d_D_isGivenWithin_29 : decode b_D_isGivenWithin 29 = .ok (.ireturn, 1) := by decide +kernel
theorem d_D_isGivenWithin_30 : decode b_D_isGivenWithin 30 = .ok (.iinc 2 1, 3) := by decide +kernel
theorem d_D_isGivenWithin_33 : decode b_D_isGivenWithin 33 = .ok (.goto (-31), 3) := by decide +kernel
theorem d_D_isGivenWithin_36 : decode b_D_isGivenWithin 36 = .ok (.iconst 1, 1) := by decide +kernel
theorem d_D_isGivenWithin_37 : decode b_D_isGivenWithin 37 = .ok (.ireturn, 1) := by decide +kernel
theorem d_D_isInCone_0 : decode b_D_isInCone 0 = .ok (.iconst 0, 1) := by decide +kernel
theorem d_D_isInCone_1 : decode b_D_isInCone 1 = .ok (.istore_n 2, 1) := by decide +kernel
theorem d_D_isInCone_2 : decode b_D_isInCone 2 = .ok (.iload_n 2, 1) := by decide +kernel
theorem d_D_isInCone_3 : decode b_D_isInCone 3 = .ok (.aload_n 0, 1) := by decide +kernel
theorem d_D_isInCone_4 : decode b_D_isInCone 4 = .ok (.getfield 34, 3) := by decide +kernel
theorem d_D_isInCone_7 : decode b_D_isInCone 7 = .ok (.getfield 77, 3) := by decide +kernel
theorem d_D_isInCone_10 : decode b_D_isInCone 10 = .ok (.if_icmp .ge 25, 3) := by decide +kernel
theorem d_D_isInCone_13 : decode b_D_isInCone 13 = .ok (.aload_n 0, 1) := by decide +kernel
theorem d_D_isInCone_14 : decode b_D_isInCone 14 = .ok (.getfield 34, 3) := by decide +kernel
theorem d_D_isInCone_17 : decode b_D_isInCone 17 = .ok (.iload_n 2, 1) := by decide +kernel
theorem d_D_isInCone_18 : decode b_D_isInCone 18 = .ok (.aload_n 1, 1) := by decide +kernel
theorem d_D_isInCone_19 : decode b_D_isInCone 19 = .ok (.invokevirtual 157, 3) := by decide +kernel
theorem d_D_isInCone_22 : decode b_D_isInCone 22 = .ok (.lconst 0, 1) := by decide +kernel
theorem d_D_isInCone_23 : decode b_D_isInCone 23 = .ok (.lcmp, 1) := by decide +kernel
theorem d_D_isInCone_24 : decode b_D_isInCone 24 = .ok (.ifCond .ge 5, 3) := by decide +kernel
theorem d_D_isInCone_27 : decode b_D_isInCone 27 = .ok (.iconst 0, 1) := by decide +kernel
theorem d_D_isInCone_28 : decode b_D_isInCone 28 = .ok (.ireturn, 1) := by decide +kernel
theorem d_D_isInCone_29 : decode b_D_isInCone 29 = .ok (.iinc 2 1, 3) := by decide +kernel
theorem d_D_isInCone_32 : decode b_D_isInCone 32 = .ok (.goto (-30), 3) := by decide +kernel
theorem d_D_isInCone_35 : decode b_D_isInCone 35 = .ok (.iconst 1, 1) := by decide +kernel
theorem d_D_isInCone_36 : decode b_D_isInCone 36 = .ok (.ireturn, 1) := by decide +kernel
theorem d_D_know_0 : decode b_D_know 0 = .ok (.aload_n 0, 1) := by decide +kernel
theorem d_D_know_1 : decode b_D_know 1 = .ok (.getfield 98, 3) := by decide +kernel
theorem d_D_know_4 : decode b_D_know 4 = .ok (.aload_n 0, 1) := by decide +kernel
theorem d_D_know_5 : decode b_D_know 5 = .ok (.getfield 18, 3) := by decide +kernel
theorem d_D_know_8 : decode b_D_know 8 = .ok (.if_icmp .ge 13, 3) := by decide +kernel
theorem d_D_know_11 : decode b_D_know 11 = .ok (.new 80, 3) := by decide +kernel
theorem d_D_know_14 : decode b_D_know 14 = .ok (.dup, 1) := by decide +kernel
theorem d_D_know_15 : decode b_D_know 15 = .ok (.ldc 177, 2) := by decide +kernel
theorem d_D_know_17 : decode b_D_know 17 = .ok (.invokespecial 84, 3) := by decide +kernel
theorem d_D_know_20 : decode b_D_know 20 = .ok (.athrow, 1) := by decide +kernel
theorem d_D_know_21 : decode b_D_know 21 = .ok (.aload_n 0, 1) := by decide +kernel
theorem d_D_know_22 : decode b_D_know 22 = .ok (.getfield 168, 3) := by decide +kernel
theorem d_D_know_25 : decode b_D_know 25 = .ok (.iconst 1, 1) := by decide +kernel
theorem d_D_know_26 : decode b_D_know 26 = .ok (.if_icmp .ge 37, 3) := by decide +kernel
theorem d_D_know_29 : decode b_D_know 29 = .ok (.aload_n 0, 1) := by decide +kernel
theorem d_D_know_30 : decode b_D_know 30 = .ok (.invokevirtual 179, 3) := by decide +kernel
theorem d_D_know_33 : decode b_D_know 33 = .ok (.aload_n 0, 1) := by decide +kernel
theorem d_D_know_34 : decode b_D_know 34 = .ok (.aload_n 0, 1) := by decide +kernel
theorem d_D_know_35 : decode b_D_know 35 = .ok (.getfield 44, 3) := by decide +kernel
theorem d_D_know_38 : decode b_D_know 38 = .ok (.aload_n 0, 1) := by decide +kernel
theorem d_D_know_39 : decode b_D_know 39 = .ok (.getfield 38, 3) := by decide +kernel
theorem d_D_know_42 : decode b_D_know 42 = .ok (.aload_n 0, 1) := by decide +kernel
theorem d_D_know_43 : decode b_D_know 43 = .ok (.getfield 38, 3) := by decide +kernel
theorem d_D_know_46 : decode b_D_know 46 = .ok (.getfield 77, 3) := by decide +kernel
theorem d_D_know_49 : decode b_D_know 49 = .ok (.invokestatic 161, 3) := by decide +kernel
theorem d_D_know_52 : decode b_D_know 52 = .ok (.invokevirtual 164, 3) := by decide +kernel
theorem d_D_know_55 : decode b_D_know 55 = .ok (.putfield 118, 3) := by decide +kernel
theorem d_D_know_58 : decode b_D_know 58 = .ok (.aload_n 0, 1) := by decide +kernel
theorem d_D_know_59 : decode b_D_know 59 = .ok (.iconst 1, 1) := by decide +kernel
theorem d_D_know_60 : decode b_D_know 60 = .ok (.putfield 168, 3) := by decide +kernel
theorem d_D_know_63 : decode b_D_know 63 = .ok (.aload_n 0, 1) := by decide +kernel
theorem d_D_know_64 : decode b_D_know 64 = .ok (.getfield 168, 3) := by decide +kernel
theorem d_D_know_67 : decode b_D_know 67 = .ok (.iconst 2, 1) := by decide +kernel
theorem d_D_know_68 : decode b_D_know 68 = .ok (.if_icmp .ge 32, 3) := by decide +kernel
theorem d_D_know_71 : decode b_D_know 71 = .ok (.iload_n 1, 1) := by decide +kernel
theorem d_D_know_72 : decode b_D_know 72 = .ok (.iconst 2, 1) := by decide +kernel
theorem d_D_know_73 : decode b_D_know 73 = .ok (.if_icmp .lt 27, 3) := by decide +kernel
theorem d_D_know_76 : decode b_D_know 76 = .ok (.aload_n 0, 1) := by decide +kernel
theorem d_D_know_77 : decode b_D_know 77 = .ok (.getfield 51, 3) := by decide +kernel
theorem d_D_know_80 : decode b_D_know 80 = .ok (.aload_n 0, 1) := by decide +kernel
theorem d_D_know_81 : decode b_D_know 81 = .ok (.getfield 34, 3) := by decide +kernel
theorem d_D_know_84 : decode b_D_know 84 = .ok (.aload_n 0, 1) := by decide +kernel
theorem d_D_know_85 : decode b_D_know 85 = .ok (.getfield 38, 3) := by decide +kernel
theorem d_D_know_88 : decode b_D_know 88 = .ok (.aload_n 0, 1) := by decide +kernel
theorem d_D_know_89 : decode b_D_know 89 = .ok (.getfield 44, 3) := by decide +kernel
theorem d_D_know_92 : decode b_D_know 92 = .ok (.invokevirtual 182, 3) := by decide +kernel
theorem d_D_know_95 : decode b_D_know 95 = .ok (.aload_n 0, 1) := by decide +kernel
theorem d_D_know_96 : decode b_D_know 96 = .ok (.iconst 2, 1) := by decide +kernel
theorem d_D_know_97 : decode b_D_know 97 = .ok (.putfield 168, 3) := by decide +kernel
theorem d_D_know_100 : decode b_D_know 100 = .ok (.aload_n 0, 1) := by decide +kernel
theorem d_D_know_101 : decode b_D_know 101 = .ok (.getfield 168, 3) := by decide +kernel
theorem d_D_know_104 : decode b_D_know 104 = .ok (.iconst 3, 1) := by decide +kernel
theorem d_D_know_105 : decode b_D_know 105 = .ok (.if_icmp .ge 36, 3) := by decide +kernel
theorem d_D_know_108 : decode b_D_know 108 = .ok (.iload_n 1, 1) := by decide +kernel
theorem d_D_know_109 : decode b_D_know 109 = .ok (.iconst 3, 1) := by decide +kernel
theorem d_D_know_110 : decode b_D_know 110 = .ok (.if_icmp .lt 31, 3) := by decide +kernel
theorem d_D_know_113 : decode b_D_know 113 = .ok (.aload_n 0, 1) := by decide +kernel
theorem d_D_know_114 : decode b_D_know 114 = .ok (.getfield 58, 3) := by decide +kernel
theorem d_D_know_117 : decode b_D_know 117 = .ok (.aload_n 0, 1) := by decide +kernel
theorem d_D_know_118 : decode b_D_know 118 = .ok (.getfield 34, 3) := by decide +kernel
theorem d_D_know_121 : decode b_D_know 121 = .ok (.aload_n 0, 1) := by decide +kernel
theorem d_D_know_122 : decode b_D_know 122 = .ok (.getfield 38, 3) := by decide +kernel
theorem d_D_know_125 : decode b_D_know 125 = .ok (.aload_n 0, 1) := by decide +kernel
theorem d_D_know_126 : decode b_D_know 126 = .ok (.getfield 51, 3) := by decide +kernel
theorem d_D_know_129 : decode b_D_know 129 = .ok (.aload_n 0, 1) := by decide +kernel
theorem d_D_know_130 : decode b_D_know 130 = .ok (.getfield 118, 3) := by decide +kernel
theorem d_D_know_133 : decode b_D_know 133 = .ok (.invokevirtual 186, 3) := by decide +kernel
theorem d_D_know_136 : decode b_D_know 136 = .ok (.aload_n 0, 1) := by decide +kernel
theorem d_D_know_137 : decode b_D_know 137 = .ok (.iconst 3, 1) := by decide +kernel
theorem d_D_know_138 : decode b_D_know 138 = .ok (.putfield 168, 3) := by decide +kernel
theorem d_D_know_141 : decode b_D_know 141 = .ok (.return_, 1) := by decide +kernel
theorem d_D_least_0 : decode b_D_least 0 = .ok (.aload_n 0, 1) := by decide +kernel
theorem d_D_least_1 : decode b_D_least 1 = .ok (.iload_n 1, 1) := by decide +kernel
theorem d_D_least_2 : decode b_D_least 2 = .ok (.iload_n 2, 1) := by decide +kernel
theorem d_D_least_3 : decode b_D_least 3 = .ok (.iload_n 3, 1) := by decide +kernel
theorem d_D_least_4 : decode b_D_least 4 = .ok (.iload 4, 2) := by decide +kernel
theorem d_D_least_6 : decode b_D_least 6 = .ok (.invokevirtual 62, 3) := by decide +kernel
theorem d_D_least_9 : decode b_D_least 9 = .ok (.aload_n 0, 1) := by decide +kernel
theorem d_D_least_10 : decode b_D_least 10 = .ok (.sipush 1000, 3) := by decide +kernel
theorem d_D_least_13 : decode b_D_least 13 = .ok (.invokevirtual 66, 3) := by decide +kernel
theorem d_D_least_16 : decode b_D_least 16 = .ok (.ifCond .ne 13, 3) := by decide +kernel
theorem d_D_least_19 : decode b_D_least 19 = .ok (.new 70, 3) := by decide +kernel
theorem d_D_least_22 : decode b_D_least 22 = .ok (.dup, 1) := by decide +kernel
theorem d_D_least_23 : decode b_D_least 23 = .ok (.ldc 151, 2) := by decide +kernel
theorem d_D_least_25 : decode b_D_least 25 = .ok (.invokespecial 74, 3) := by decide +kernel
theorem d_D_least_28 : decode b_D_least 28 = .ok (.athrow, 1) := by decide +kernel
theorem d_D_least_29 : decode b_D_least 29 = .ok (.aload_n 0, 1) := by decide +kernel
theorem d_D_least_30 : decode b_D_least 30 = .ok (.iconst 3, 1) := by decide +kernel
theorem d_D_least_31 : decode b_D_least 31 = .ok (.invokevirtual 107, 3) := by decide +kernel
theorem d_D_least_34 : decode b_D_least 34 = .ok (.aload_n 0, 1) := by decide +kernel
theorem d_D_least_35 : decode b_D_least 35 = .ok (.invokevirtual 138, 3) := by decide +kernel
theorem d_D_least_38 : decode b_D_least 38 = .ok (.aload_n 0, 1) := by decide +kernel
theorem d_D_least_39 : decode b_D_least 39 = .ok (.getfield 58, 3) := by decide +kernel
theorem d_D_least_42 : decode b_D_least 42 = .ok (.aload_n 0, 1) := by decide +kernel
theorem d_D_least_43 : decode b_D_least 43 = .ok (.getfield 22, 3) := by decide +kernel
theorem d_D_least_46 : decode b_D_least 46 = .ok (.invokevirtual 153, 3) := by decide +kernel
theorem d_D_least_49 : decode b_D_least 49 = .ok (.ireturn, 1) := by decide +kernel
theorem d_D_look_0 : decode b_D_look 0 = .ok (.iload_n 1, 1) := by decide +kernel
theorem d_D_look_1 : decode b_D_look 1 = .ok (.tableswitch 59 0 3 #[31, 36, 44, 49], 31) := by decide +kernel
theorem d_D_look_32 : decode b_D_look 32 = .ok (.aload_n 0, 1) := by decide +kernel
theorem d_D_look_33 : decode b_D_look 33 = .ok (.getfield 18, 3) := by decide +kernel
theorem d_D_look_36 : decode b_D_look 36 = .ok (.ireturn, 1) := by decide +kernel
theorem d_D_look_37 : decode b_D_look 37 = .ok (.aload_n 0, 1) := by decide +kernel
theorem d_D_look_38 : decode b_D_look 38 = .ok (.getfield 34, 3) := by decide +kernel
theorem d_D_look_41 : decode b_D_look 41 = .ok (.getfield 77, 3) := by decide +kernel
theorem d_D_look_44 : decode b_D_look 44 = .ok (.ireturn, 1) := by decide +kernel
theorem d_D_look_45 : decode b_D_look 45 = .ok (.aload_n 0, 1) := by decide +kernel
theorem d_D_look_46 : decode b_D_look 46 = .ok (.getfield 98, 3) := by decide +kernel
theorem d_D_look_49 : decode b_D_look 49 = .ok (.ireturn, 1) := by decide +kernel
theorem d_D_look_50 : decode b_D_look 50 = .ok (.aload_n 0, 1) := by decide +kernel
theorem d_D_look_51 : decode b_D_look 51 = .ok (.getfield 18, 3) := by decide +kernel
theorem d_D_look_54 : decode b_D_look 54 = .ok (.aload_n 0, 1) := by decide +kernel
theorem d_D_look_55 : decode b_D_look 55 = .ok (.getfield 98, 3) := by decide +kernel
theorem d_D_look_58 : decode b_D_look 58 = .ok (.isub, 1) := by decide +kernel
theorem d_D_look_59 : decode b_D_look 59 = .ok (.ireturn, 1) := by decide +kernel
theorem d_D_look_60 : decode b_D_look 60 = .ok (.iconst (-1), 1) := by decide +kernel
theorem d_D_look_61 : decode b_D_look 61 = .ok (.ireturn, 1) := by decide +kernel
theorem d_D_maskOfAll_0 : decode b_D_maskOfAll 0 = .ok (.iconst 1, 1) := by decide +kernel
theorem d_D_maskOfAll_1 : decode b_D_maskOfAll 1 = .ok (.iload_n 0, 1) := by decide +kernel
theorem d_D_maskOfAll_2 : decode b_D_maskOfAll 2 = .ok (.ishl, 1) := by decide +kernel
theorem d_D_maskOfAll_3 : decode b_D_maskOfAll 3 = .ok (.iconst 1, 1) := by decide +kernel
theorem d_D_maskOfAll_4 : decode b_D_maskOfAll 4 = .ok (.isub, 1) := by decide +kernel
theorem d_D_maskOfAll_5 : decode b_D_maskOfAll 5 = .ok (.ireturn, 1) := by decide +kernel
theorem d_D_needCoordinate_0 : decode b_D_needCoordinate 0 = .ok (.iload_n 1, 1) := by decide +kernel
theorem d_D_needCoordinate_1 : decode b_D_needCoordinate 1 = .ok (.ifCond .lt 11, 3) := by decide +kernel
theorem d_D_needCoordinate_4 : decode b_D_needCoordinate 4 = .ok (.iload_n 1, 1) := by decide +kernel
theorem d_D_needCoordinate_5 : decode b_D_needCoordinate 5 = .ok (.aload_n 0, 1) := by decide +kernel
theorem d_D_needCoordinate_6 : decode b_D_needCoordinate 6 = .ok (.getfield 18, 3) := by decide +kernel
theorem d_D_needCoordinate_9 : decode b_D_needCoordinate 9 = .ok (.if_icmp .lt 13, 3) := by decide +kernel
theorem d_D_needCoordinate_12 : decode b_D_needCoordinate 12 = .ok (.new 113, 3) := by decide +kernel
theorem d_D_needCoordinate_15 : decode b_D_needCoordinate 15 = .ok (.dup, 1) := by decide +kernel
theorem d_D_needCoordinate_16 : decode b_D_needCoordinate 16 = .ok (.ldc 173, 2) := by decide +kernel
theorem d_D_needCoordinate_18 : decode b_D_needCoordinate 18 = .ok (.invokespecial 117, 3) := by decide +kernel
theorem d_D_needCoordinate_21 : decode b_D_needCoordinate 21 = .ok (.athrow, 1) := by decide +kernel
theorem d_D_needCoordinate_22 : decode b_D_needCoordinate 22 = .ok (.return_, 1) := by decide +kernel
theorem d_D_needRow_0 : decode b_D_needRow 0 = .ok (.aload_n 0, 1) := by decide +kernel
theorem d_D_needRow_1 : decode b_D_needRow 1 = .ok (.getfield 34, 3) := by decide +kernel
theorem d_D_needRow_4 : decode b_D_needRow 4 = .ok (.iload_n 1, 1) := by decide +kernel
theorem d_D_needRow_5 : decode b_D_needRow 5 = .ok (.invokevirtual 110, 3) := by decide +kernel
theorem d_D_needRow_8 : decode b_D_needRow 8 = .ok (.ifCond .ne 13, 3) := by decide +kernel
theorem d_D_needRow_11 : decode b_D_needRow 11 = .ok (.new 113, 3) := by decide +kernel
theorem d_D_needRow_14 : decode b_D_needRow 14 = .ok (.dup, 1) := by decide +kernel
theorem d_D_needRow_15 : decode b_D_needRow 15 = .ok (.ldc 171, 2) := by decide +kernel
theorem d_D_needRow_17 : decode b_D_needRow 17 = .ok (.invokespecial 117, 3) := by decide +kernel
theorem d_D_needRow_20 : decode b_D_needRow 20 = .ok (.athrow, 1) := by decide +kernel
theorem d_D_needRow_21 : decode b_D_needRow 21 = .ok (.return_, 1) := by decide +kernel
theorem d_D_needSmall_0 : decode b_D_needSmall 0 = .ok (.aload_n 0, 1) := by decide +kernel
theorem d_D_needSmall_1 : decode b_D_needSmall 1 = .ok (.getfield 58, 3) := by decide +kernel
theorem d_D_needSmall_4 : decode b_D_needSmall 4 = .ok (.getfield 131, 3) := by decide +kernel
theorem d_D_needSmall_7 : decode b_D_needSmall 7 = .ok (.ifCond .eq 13, 3) := by decide +kernel
theorem d_D_needSmall_10 : decode b_D_needSmall 10 = .ok (.new 80, 3) := by decide +kernel
theorem d_D_needSmall_13 : decode b_D_needSmall 13 = .ok (.dup, 1) := by decide +kernel
theorem d_D_needSmall_14 : decode b_D_needSmall 14 = .ok (.ldc 175, 2) := by decide +kernel
theorem d_D_needSmall_16 : decode b_D_needSmall 16 = .ok (.invokespecial 84, 3) := by decide +kernel
theorem d_D_needSmall_19 : decode b_D_needSmall 19 = .ok (.athrow, 1) := by decide +kernel
theorem d_D_needSmall_20 : decode b_D_needSmall 20 = .ok (.return_, 1) := by decide +kernel
theorem d_D_noteChange_0 : decode b_D_noteChange 0 = .ok (.aload_n 0, 1) := by decide +kernel
theorem d_D_noteChange_1 : decode b_D_noteChange 1 = .ok (.aload_n 0, 1) := by decide +kernel
theorem d_D_noteChange_2 : decode b_D_noteChange 2 = .ok (.getfield 44, 3) := by decide +kernel
theorem d_D_noteChange_5 : decode b_D_noteChange 5 = .ok (.aload_n 0, 1) := by decide +kernel
theorem d_D_noteChange_6 : decode b_D_noteChange 6 = .ok (.getfield 34, 3) := by decide +kernel
theorem d_D_noteChange_9 : decode b_D_noteChange 9 = .ok (.aload_n 0, 1) := by decide +kernel
theorem d_D_noteChange_10 : decode b_D_noteChange 10 = .ok (.getfield 34, 3) := by decide +kernel
theorem d_D_noteChange_13 : decode b_D_noteChange 13 = .ok (.getfield 77, 3) := by decide +kernel
theorem d_D_noteChange_16 : decode b_D_noteChange 16 = .ok (.invokestatic 161, 3) := by decide +kernel
theorem d_D_noteChange_19 : decode b_D_noteChange 19 = .ok (.invokevirtual 164, 3) := by decide +kernel
theorem d_D_noteChange_22 : decode b_D_noteChange 22 = .ok (.putfield 98, 3) := by decide +kernel
theorem d_D_noteChange_25 : decode b_D_noteChange 25 = .ok (.aload_n 0, 1) := by decide +kernel
theorem d_D_noteChange_26 : decode b_D_noteChange 26 = .ok (.iconst 0, 1) := by decide +kernel
theorem d_D_noteChange_27 : decode b_D_noteChange 27 = .ok (.putfield 168, 3) := by decide +kernel
theorem d_D_noteChange_30 : decode b_D_noteChange 30 = .ok (.return_, 1) := by decide +kernel
theorem d_D_parts_0 : decode b_D_parts 0 = .ok (.aload_n 0, 1) := by decide +kernel
theorem d_D_parts_1 : decode b_D_parts 1 = .ok (.iconst 3, 1) := by decide +kernel
theorem d_D_parts_2 : decode b_D_parts 2 = .ok (.invokevirtual 107, 3) := by decide +kernel
theorem d_D_parts_5 : decode b_D_parts 5 = .ok (.aload_n 0, 1) := by decide +kernel
theorem d_D_parts_6 : decode b_D_parts 6 = .ok (.invokevirtual 138, 3) := by decide +kernel
theorem d_D_parts_9 : decode b_D_parts 9 = .ok (.aload_n 0, 1) := by decide +kernel
theorem d_D_parts_10 : decode b_D_parts 10 = .ok (.iload_n 1, 1) := by decide +kernel
theorem d_D_parts_11 : decode b_D_parts 11 = .ok (.iload_n 2, 1) := by decide +kernel
theorem d_D_parts_12 : decode b_D_parts 12 = .ok (.iload_n 3, 1) := by decide +kernel
theorem d_D_parts_13 : decode b_D_parts 13 = .ok (.iload 4, 2) := by decide +kernel
theorem d_D_parts_15 : decode b_D_parts 15 = .ok (.invokevirtual 62, 3) := by decide +kernel
theorem d_D_parts_18 : decode b_D_parts 18 = .ok (.aload_n 0, 1) := by decide +kernel
theorem d_D_parts_19 : decode b_D_parts 19 = .ok (.bipush 100, 2) := by decide +kernel
theorem d_D_parts_21 : decode b_D_parts 21 = .ok (.invokevirtual 66, 3) := by decide +kernel
theorem d_D_parts_24 : decode b_D_parts 24 = .ok (.ifCond .eq 14, 3) := by decide +kernel
theorem d_D_parts_27 : decode b_D_parts 27 = .ok (.aload_n 0, 1) := by decide +kernel
theorem d_D_parts_28 : decode b_D_parts 28 = .ok (.aload_n 0, 1) := by decide +kernel
theorem d_D_parts_29 : decode b_D_parts 29 = .ok (.getfield 22, 3) := by decide +kernel
theorem d_D_parts_32 : decode b_D_parts 32 = .ok (.invokevirtual 143, 3) := by decide +kernel
theorem d_D_parts_35 : decode b_D_parts 35 = .ok (.ifCond .ne 5, 3) := by decide +kernel
theorem d_D_parts_38 : decode b_D_parts 38 = .ok (.iconst (-1), 1) := by decide +kernel
theorem d_D_parts_39 : decode b_D_parts 39 = .ok (.ireturn, 1) := by decide +kernel
theorem d_D_parts_40 : decode b_D_parts 40 = .ok (.aload_n 0, 1) := by decide +kernel
theorem d_D_parts_41 : decode b_D_parts 41 = .ok (.getfield 58, 3) := by decide +kernel
theorem d_D_parts_44 : decode b_D_parts 44 = .ok (.aload_n 0, 1) := by decide +kernel
theorem d_D_parts_45 : decode b_D_parts 45 = .ok (.getfield 34, 3) := by decide +kernel
theorem d_D_parts_48 : decode b_D_parts 48 = .ok (.aload_n 0, 1) := by decide +kernel
theorem d_D_parts_49 : decode b_D_parts 49 = .ok (.getfield 22, 3) := by decide +kernel
theorem d_D_parts_52 : decode b_D_parts 52 = .ok (.invokevirtual 147, 3) := by decide +kernel
theorem d_D_parts_55 : decode b_D_parts 55 = .ok (.ireturn, 1) := by decide +kernel
theorem d_D_point_0 : decode b_D_point 0 = .ok (.aload_n 0, 1) := by decide +kernel
theorem d_D_point_1 : decode b_D_point 1 = .ok (.iconst 3, 1) := by decide +kernel
theorem d_D_point_2 : decode b_D_point 2 = .ok (.invokevirtual 107, 3) := by decide +kernel
theorem d_D_point_5 : decode b_D_point 5 = .ok (.aload_n 0, 1) := by decide +kernel
theorem d_D_point_6 : decode b_D_point 6 = .ok (.invokevirtual 138, 3) := by decide +kernel
theorem d_D_point_9 : decode b_D_point 9 = .ok (.aload_n 0, 1) := by decide +kernel
theorem d_D_point_10 : decode b_D_point 10 = .ok (.getfield 58, 3) := by decide +kernel
theorem d_D_point_13 : decode b_D_point 13 = .ok (.getfield 135, 3) := by decide +kernel
theorem d_D_point_16 : decode b_D_point 16 = .ok (.iload_n 1, 1) := by decide +kernel
theorem d_D_point_17 : decode b_D_point 17 = .ok (.invokevirtual 110, 3) := by decide +kernel
theorem d_D_point_20 : decode b_D_point 20 = .ok (.ifCond .ne 13, 3) := by decide +kernel
theorem d_D_point_23 : decode b_D_point 23 = .ok (.new 113, 3) := by decide +kernel
theorem d_D_point_26 : decode b_D_point 26 = .ok (.dup, 1) := by decide +kernel
theorem d_D_point_27 : decode b_D_point 27 = .ok (.ldc 141, 2) := by decide +kernel
theorem d_D_point_29 : decode b_D_point 29 = .ok (.invokespecial 117, 3) := by decide +kernel
theorem d_D_point_32 : decode b_D_point 32 = .ok (.athrow, 1) := by decide +kernel
theorem d_D_point_33 : decode b_D_point 33 = .ok (.aload_n 0, 1) := by decide +kernel
theorem d_D_point_34 : decode b_D_point 34 = .ok (.iload_n 2, 1) := by decide +kernel
theorem d_D_point_35 : decode b_D_point 35 = .ok (.invokevirtual 101, 3) := by decide +kernel
theorem d_D_point_38 : decode b_D_point 38 = .ok (.aload_n 0, 1) := by decide +kernel
theorem d_D_point_39 : decode b_D_point 39 = .ok (.getfield 58, 3) := by decide +kernel
theorem d_D_point_42 : decode b_D_point 42 = .ok (.getfield 135, 3) := by decide +kernel
theorem d_D_point_45 : decode b_D_point 45 = .ok (.iload_n 1, 1) := by decide +kernel
theorem d_D_point_46 : decode b_D_point 46 = .ok (.iload_n 2, 1) := by decide +kernel
theorem d_D_point_47 : decode b_D_point 47 = .ok (.invokevirtual 104, 3) := by decide +kernel
theorem d_D_point_50 : decode b_D_point 50 = .ok (.ireturn, 1) := by decide +kernel
theorem d_D_ray_0 : decode b_D_ray 0 = .ok (.aload_n 0, 1) := by decide +kernel
theorem d_D_ray_1 : decode b_D_ray 1 = .ok (.iconst 1, 1) := by decide +kernel
theorem d_D_ray_2 : decode b_D_ray 2 = .ok (.invokevirtual 107, 3) := by decide +kernel
theorem d_D_ray_5 : decode b_D_ray 5 = .ok (.aload_n 0, 1) := by decide +kernel
theorem d_D_ray_6 : decode b_D_ray 6 = .ok (.getfield 38, 3) := by decide +kernel
theorem d_D_ray_9 : decode b_D_ray 9 = .ok (.iload_n 1, 1) := by decide +kernel
theorem d_D_ray_10 : decode b_D_ray 10 = .ok (.invokevirtual 110, 3) := by decide +kernel
theorem d_D_ray_13 : decode b_D_ray 13 = .ok (.ifCond .ne 13, 3) := by decide +kernel
theorem d_D_ray_16 : decode b_D_ray 16 = .ok (.new 113, 3) := by decide +kernel
theorem d_D_ray_19 : decode b_D_ray 19 = .ok (.dup, 1) := by decide +kernel
theorem d_D_ray_20 : decode b_D_ray 20 = .ok (.ldc 115, 2) := by decide +kernel
theorem d_D_ray_22 : decode b_D_ray 22 = .ok (.invokespecial 117, 3) := by decide +kernel
theorem d_D_ray_25 : decode b_D_ray 25 = .ok (.athrow, 1) := by decide +kernel
theorem d_D_ray_26 : decode b_D_ray 26 = .ok (.aload_n 0, 1) := by decide +kernel
theorem d_D_ray_27 : decode b_D_ray 27 = .ok (.iload_n 2, 1) := by decide +kernel
theorem d_D_ray_28 : decode b_D_ray 28 = .ok (.invokevirtual 101, 3) := by decide +kernel
theorem d_D_ray_31 : decode b_D_ray 31 = .ok (.aload_n 0, 1) := by decide +kernel
theorem d_D_ray_32 : decode b_D_ray 32 = .ok (.getfield 38, 3) := by decide +kernel
theorem d_D_ray_35 : decode b_D_ray 35 = .ok (.iload_n 1, 1) := by decide +kernel
theorem d_D_ray_36 : decode b_D_ray 36 = .ok (.iload_n 2, 1) := by decide +kernel
theorem d_D_ray_37 : decode b_D_ray 37 = .ok (.invokevirtual 104, 3) := by decide +kernel
theorem d_D_ray_40 : decode b_D_ray 40 = .ok (.ireturn, 1) := by decide +kernel
theorem d_D_rays_0 : decode b_D_rays 0 = .ok (.aload_n 0, 1) := by decide +kernel
theorem d_D_rays_1 : decode b_D_rays 1 = .ok (.iconst 1, 1) := by decide +kernel
theorem d_D_rays_2 : decode b_D_rays 2 = .ok (.invokevirtual 107, 3) := by decide +kernel
theorem d_D_rays_5 : decode b_D_rays 5 = .ok (.aload_n 0, 1) := by decide +kernel
theorem d_D_rays_6 : decode b_D_rays 6 = .ok (.getfield 38, 3) := by decide +kernel
theorem d_D_rays_9 : decode b_D_rays 9 = .ok (.getfield 77, 3) := by decide +kernel
theorem d_D_rays_12 : decode b_D_rays 12 = .ok (.ireturn, 1) := by decide +kernel
theorem d_D_row_0 : decode b_D_row 0 = .ok (.aload_n 0, 1) := by decide +kernel
theorem d_D_row_1 : decode b_D_row 1 = .ok (.iload_n 1, 1) := by decide +kernel
theorem d_D_row_2 : decode b_D_row 2 = .ok (.invokevirtual 92, 3) := by decide +kernel
theorem d_D_row_5 : decode b_D_row 5 = .ok (.aload_n 0, 1) := by decide +kernel
theorem d_D_row_6 : decode b_D_row 6 = .ok (.iload_n 2, 1) := by decide +kernel
theorem d_D_row_7 : decode b_D_row 7 = .ok (.invokevirtual 101, 3) := by decide +kernel
theorem d_D_row_10 : decode b_D_row 10 = .ok (.aload_n 0, 1) := by decide +kernel
theorem d_D_row_11 : decode b_D_row 11 = .ok (.getfield 34, 3) := by decide +kernel
theorem d_D_row_14 : decode b_D_row 14 = .ok (.iload_n 1, 1) := by decide +kernel
theorem d_D_row_15 : decode b_D_row 15 = .ok (.iload_n 2, 1) := by decide +kernel
theorem d_D_row_16 : decode b_D_row 16 = .ok (.invokevirtual 104, 3) := by decide +kernel
theorem d_D_row_19 : decode b_D_row 19 = .ok (.ireturn, 1) := by decide +kernel
theorem d_D_size_0 : decode b_D_size 0 = .ok (.aload_n 0, 1) := by decide +kernel
theorem d_D_size_1 : decode b_D_size 1 = .ok (.iconst 1, 1) := by decide +kernel
theorem d_D_size_2 : decode b_D_size 2 = .ok (.invokevirtual 107, 3) := by decide +kernel
theorem d_D_size_5 : decode b_D_size 5 = .ok (.aload_n 0, 1) := by decide +kernel
theorem d_D_size_6 : decode b_D_size 6 = .ok (.getfield 118, 3) := by decide +kernel
theorem d_D_size_9 : decode b_D_size 9 = .ok (.ireturn, 1) := by decide +kernel
theorem d_D_take_0 : decode b_D_take 0 = .ok (.aload_n 0, 1) := by decide +kernel
theorem d_D_take_1 : decode b_D_take 1 = .ok (.getfield 22, 3) := by decide +kernel
theorem d_D_take_4 : decode b_D_take 4 = .ok (.iconst 0, 1) := by decide +kernel
theorem d_D_take_5 : decode b_D_take 5 = .ok (.iload_n 1, 1) := by decide +kernel
theorem d_D_take_6 : decode b_D_take 6 = .ok (.iastore, 1) := by decide +kernel
theorem d_D_take_7 : decode b_D_take 7 = .ok (.aload_n 0, 1) := by decide +kernel
theorem d_D_take_8 : decode b_D_take 8 = .ok (.getfield 22, 3) := by decide +kernel
theorem d_D_take_11 : decode b_D_take 11 = .ok (.iconst 1, 1) := by decide +kernel
theorem d_D_take_12 : decode b_D_take 12 = .ok (.iload_n 2, 1) := by decide +kernel
theorem d_D_take_13 : decode b_D_take 13 = .ok (.iastore, 1) := by decide +kernel
theorem d_D_take_14 : decode b_D_take 14 = .ok (.aload_n 0, 1) := by decide +kernel
theorem d_D_take_15 : decode b_D_take 15 = .ok (.getfield 22, 3) := by decide +kernel
theorem d_D_take_18 : decode b_D_take 18 = .ok (.iconst 2, 1) := by decide +kernel
theorem d_D_take_19 : decode b_D_take 19 = .ok (.aload_n 0, 1) := by decide +kernel
theorem d_D_take_20 : decode b_D_take 20 = .ok (.getfield 18, 3) := by decide +kernel
theorem d_D_take_23 : decode b_D_take 23 = .ok (.iconst 2, 1) := by decide +kernel
theorem d_D_take_24 : decode b_D_take 24 = .ok (.if_icmp .le 7, 3) := by decide +kernel
theorem d_D_take_27 : decode b_D_take 27 = .ok (.iload_n 3, 1) := by decide +kernel
theorem d_D_take_28 : decode b_D_take 28 = .ok (.goto 4, 3) := by decide +kernel
theorem d_D_take_31 : decode b_D_take 31 = .ok (.iconst 0, 1) := by decide +kernel
theorem d_D_take_32 : decode b_D_take 32 = .ok (.iastore, 1) := by decide +kernel
theorem d_D_take_33 : decode b_D_take 33 = .ok (.aload_n 0, 1) := by decide +kernel
theorem d_D_take_34 : decode b_D_take 34 = .ok (.getfield 22, 3) := by decide +kernel
theorem d_D_take_37 : decode b_D_take 37 = .ok (.iconst 3, 1) := by decide +kernel
theorem d_D_take_38 : decode b_D_take 38 = .ok (.aload_n 0, 1) := by decide +kernel
theorem d_D_take_39 : decode b_D_take 39 = .ok (.getfield 18, 3) := by decide +kernel
theorem d_D_take_42 : decode b_D_take 42 = .ok (.iconst 3, 1) := by decide +kernel
theorem d_D_take_43 : decode b_D_take 43 = .ok (.if_icmp .le 8, 3) := by decide +kernel
theorem d_D_take_46 : decode b_D_take 46 = .ok (.iload 4, 2) := by decide +kernel
theorem d_D_take_48 : decode b_D_take 48 = .ok (.goto 4, 3) := by decide +kernel
theorem d_D_take_51 : decode b_D_take 51 = .ok (.iconst 0, 1) := by decide +kernel
theorem d_D_take_52 : decode b_D_take 52 = .ok (.iastore, 1) := by decide +kernel
theorem d_D_take_53 : decode b_D_take 53 = .ok (.return_, 1) := by decide +kernel
theorem d_D_tryRay_0 : decode b_D_tryRay 0 = .ok (.aload_n 0, 1) := by decide +kernel
theorem d_D_tryRay_1 : decode b_D_tryRay 1 = .ok (.getfield 44, 3) := by decide +kernel
theorem d_D_tryRay_4 : decode b_D_tryRay 4 = .ok (.aload_n 0, 1) := by decide +kernel
theorem d_D_tryRay_5 : decode b_D_tryRay 5 = .ok (.getfield 26, 3) := by decide +kernel
theorem d_D_tryRay_8 : decode b_D_tryRay 8 = .ok (.aload_n 0, 1) := by decide +kernel
theorem d_D_tryRay_9 : decode b_D_tryRay 9 = .ok (.getfield 18, 3) := by decide +kernel
theorem d_D_tryRay_12 : decode b_D_tryRay 12 = .ok (.iload_n 1, 1) := by decide +kernel
theorem d_D_tryRay_13 : decode b_D_tryRay 13 = .ok (.invokevirtual 197, 3) := by decide +kernel
theorem d_D_tryRay_16 : decode b_D_tryRay 16 = .ok (.aload_n 0, 1) := by decide +kernel
theorem d_D_tryRay_17 : decode b_D_tryRay 17 = .ok (.aload_n 0, 1) := by decide +kernel
theorem d_D_tryRay_18 : decode b_D_tryRay 18 = .ok (.getfield 26, 3) := by decide +kernel
theorem d_D_tryRay_21 : decode b_D_tryRay 21 = .ok (.invokevirtual 143, 3) := by decide +kernel
theorem d_D_tryRay_24 : decode b_D_tryRay 24 = .ok (.ifCond .eq 14, 3) := by decide +kernel
theorem d_D_tryRay_27 : decode b_D_tryRay 27 = .ok (.aload_n 0, 1) := by decide +kernel
theorem d_D_tryRay_28 : decode b_D_tryRay 28 = .ok (.getfield 38, 3) := by decide +kernel
theorem d_D_tryRay_31 : decode b_D_tryRay 31 = .ok (.aload_n 0, 1) := by decide +kernel
theorem d_D_tryRay_32 : decode b_D_tryRay 32 = .ok (.getfield 26, 3) := by decide +kernel
theorem d_D_tryRay_35 : decode b_D_tryRay 35 = .ok (.invokevirtual 201, 3) := by decide +kernel
theorem d_D_tryRay_38 : decode b_D_tryRay 38 = .ok (.return_, 1) := by decide +kernel
theorem d_JA_fill_0 : decode b_JA_fill 0 = .ok (.iconst 0, 1) := by decide +kernel
theorem d_JA_fill_1 : decode b_JA_fill 1 = .ok (.istore_n 2, 1) := by decide +kernel
theorem d_JA_fill_2 : decode b_JA_fill 2 = .ok (.aload_n 0, 1) := by decide +kernel
theorem d_JA_fill_3 : decode b_JA_fill 3 = .ok (.arraylength, 1) := by decide +kernel
theorem d_JA_fill_4 : decode b_JA_fill 4 = .ok (.istore_n 3, 1) := by decide +kernel
theorem d_JA_fill_5 : decode b_JA_fill 5 = .ok (.iload_n 2, 1) := by decide +kernel
theorem d_JA_fill_6 : decode b_JA_fill 6 = .ok (.iload_n 3, 1) := by decide +kernel
theorem d_JA_fill_7 : decode b_JA_fill 7 = .ok (.if_icmp .ge 13, 3) := by decide +kernel
theorem d_JA_fill_10 : decode b_JA_fill 10 = .ok (.aload_n 0, 1) := by decide +kernel
theorem d_JA_fill_11 : decode b_JA_fill 11 = .ok (.iload_n 2, 1) := by decide +kernel
theorem d_JA_fill_12 : decode b_JA_fill 12 = .ok (.iload_n 1, 1) := by decide +kernel
theorem d_JA_fill_13 : decode b_JA_fill 13 = .ok (.iastore, 1) := by decide +kernel
theorem d_JA_fill_14 : decode b_JA_fill 14 = .ok (.iinc 2 1, 3) := by decide +kernel
theorem d_JA_fill_17 : decode b_JA_fill 17 = .ok (.goto (-12), 3) := by decide +kernel
theorem d_JA_fill_20 : decode b_JA_fill 20 = .ok (.return_, 1) := by decide +kernel
theorem d_JI_bitCount_0 : decode b_JI_bitCount 0 = .ok (.iload_n 0, 1) := by decide +kernel
theorem d_JI_bitCount_1 : decode b_JI_bitCount 1 = .ok (.iload_n 0, 1) := by decide +kernel
theorem d_JI_bitCount_2 : decode b_JI_bitCount 2 = .ok (.iconst 1, 1) := by decide +kernel
theorem d_JI_bitCount_3 : decode b_JI_bitCount 3 = .ok (.iushr, 1) := by decide +kernel
theorem d_JI_bitCount_4 : decode b_JI_bitCount 4 = .ok (.ldc_w 265, 3) := by decide +kernel
theorem d_JI_bitCount_7 : decode b_JI_bitCount 7 = .ok (.iand, 1) := by decide +kernel
theorem d_JI_bitCount_8 : decode b_JI_bitCount 8 = .ok (.isub, 1) := by decide +kernel
theorem d_JI_bitCount_9 : decode b_JI_bitCount 9 = .ok (.istore_n 0, 1) := by decide +kernel
theorem d_JI_bitCount_10 : decode b_JI_bitCount 10 = .ok (.iload_n 0, 1) := by decide +kernel
theorem d_JI_bitCount_11 : decode b_JI_bitCount 11 = .ok (.ldc_w 266, 3) := by decide +kernel
theorem d_JI_bitCount_14 : decode b_JI_bitCount 14 = .ok (.iand, 1) := by decide +kernel
theorem d_JI_bitCount_15 : decode b_JI_bitCount 15 = .ok (.iload_n 0, 1) := by decide +kernel
theorem d_JI_bitCount_16 : decode b_JI_bitCount 16 = .ok (.iconst 2, 1) := by decide +kernel
theorem d_JI_bitCount_17 : decode b_JI_bitCount 17 = .ok (.iushr, 1) := by decide +kernel
theorem d_JI_bitCount_18 : decode b_JI_bitCount 18 = .ok (.ldc_w 266, 3) := by decide +kernel
theorem d_JI_bitCount_21 : decode b_JI_bitCount 21 = .ok (.iand, 1) := by decide +kernel
theorem d_JI_bitCount_22 : decode b_JI_bitCount 22 = .ok (.iadd, 1) := by decide +kernel
theorem d_JI_bitCount_23 : decode b_JI_bitCount 23 = .ok (.istore_n 0, 1) := by decide +kernel
theorem d_JI_bitCount_24 : decode b_JI_bitCount 24 = .ok (.iload_n 0, 1) := by decide +kernel
theorem d_JI_bitCount_25 : decode b_JI_bitCount 25 = .ok (.iload_n 0, 1) := by decide +kernel
theorem d_JI_bitCount_26 : decode b_JI_bitCount 26 = .ok (.iconst 4, 1) := by decide +kernel
theorem d_JI_bitCount_27 : decode b_JI_bitCount 27 = .ok (.iushr, 1) := by decide +kernel
theorem d_JI_bitCount_28 : decode b_JI_bitCount 28 = .ok (.iadd, 1) := by decide +kernel
theorem d_JI_bitCount_29 : decode b_JI_bitCount 29 = .ok (.ldc_w 267, 3) := by decide +kernel
theorem d_JI_bitCount_32 : decode b_JI_bitCount 32 = .ok (.iand, 1) := by decide +kernel
theorem d_JI_bitCount_33 : decode b_JI_bitCount 33 = .ok (.istore_n 0, 1) := by decide +kernel
theorem d_JI_bitCount_34 : decode b_JI_bitCount 34 = .ok (.iload_n 0, 1) := by decide +kernel
theorem d_JI_bitCount_35 : decode b_JI_bitCount 35 = .ok (.iload_n 0, 1) := by decide +kernel
theorem d_JI_bitCount_36 : decode b_JI_bitCount 36 = .ok (.bipush 8, 2) := by decide +kernel
theorem d_JI_bitCount_38 : decode b_JI_bitCount 38 = .ok (.iushr, 1) := by decide +kernel
theorem d_JI_bitCount_39 : decode b_JI_bitCount 39 = .ok (.iadd, 1) := by decide +kernel
theorem d_JI_bitCount_40 : decode b_JI_bitCount 40 = .ok (.istore_n 0, 1) := by decide +kernel
theorem d_JI_bitCount_41 : decode b_JI_bitCount 41 = .ok (.iload_n 0, 1) := by decide +kernel
theorem d_JI_bitCount_42 : decode b_JI_bitCount 42 = .ok (.iload_n 0, 1) := by decide +kernel
theorem d_JI_bitCount_43 : decode b_JI_bitCount 43 = .ok (.bipush 16, 2) := by decide +kernel
theorem d_JI_bitCount_45 : decode b_JI_bitCount 45 = .ok (.iushr, 1) := by decide +kernel
theorem d_JI_bitCount_46 : decode b_JI_bitCount 46 = .ok (.iadd, 1) := by decide +kernel
theorem d_JI_bitCount_47 : decode b_JI_bitCount 47 = .ok (.istore_n 0, 1) := by decide +kernel
theorem d_JI_bitCount_48 : decode b_JI_bitCount 48 = .ok (.iload_n 0, 1) := by decide +kernel
theorem d_JI_bitCount_49 : decode b_JI_bitCount 49 = .ok (.bipush 63, 2) := by decide +kernel
theorem d_JI_bitCount_51 : decode b_JI_bitCount 51 = .ok (.iand, 1) := by decide +kernel
theorem d_JI_bitCount_52 : decode b_JI_bitCount 52 = .ok (.ireturn, 1) := by decide +kernel
theorem d_JM_abs_0 : decode b_JM_abs 0 = .ok (.lload_n 0, 1) := by decide +kernel
theorem d_JM_abs_1 : decode b_JM_abs 1 = .ok (.lconst 0, 1) := by decide +kernel
theorem d_JM_abs_2 : decode b_JM_abs 2 = .ok (.lcmp, 1) := by decide +kernel
theorem d_JM_abs_3 : decode b_JM_abs 3 = .ok (.ifCond .ge 8, 3) := by decide +kernel
theorem d_JM_abs_6 : decode b_JM_abs 6 = .ok (.lload_n 0, 1) := by decide +kernel
theorem d_JM_abs_7 : decode b_JM_abs 7 = .ok (.lneg, 1) := by decide +kernel
theorem d_JM_abs_8 : decode b_JM_abs 8 = .ok (.goto 4, 3) := by decide +kernel
theorem d_JM_abs_11 : decode b_JM_abs 11 = .ok (.lload_n 0, 1) := by decide +kernel
theorem d_JM_abs_12 : decode b_JM_abs 12 = .ok (.lreturn, 1) := by decide +kernel
theorem d_JM_max_0 : decode b_JM_max 0 = .ok (.iload_n 0, 1) := by decide +kernel
theorem d_JM_max_1 : decode b_JM_max 1 = .ok (.iload_n 1, 1) := by decide +kernel
theorem d_JM_max_2 : decode b_JM_max 2 = .ok (.if_icmp .lt 7, 3) := by decide +kernel
theorem d_JM_max_5 : decode b_JM_max 5 = .ok (.iload_n 0, 1) := by decide +kernel
theorem d_JM_max_6 : decode b_JM_max 6 = .ok (.goto 4, 3) := by decide +kernel
theorem d_JM_max_9 : decode b_JM_max 9 = .ok (.iload_n 1, 1) := by decide +kernel
theorem d_JM_max_10 : decode b_JM_max 10 = .ok (.ireturn, 1) := by decide +kernel
theorem d_JM_min_0 : decode b_JM_min 0 = .ok (.iload_n 0, 1) := by decide +kernel
theorem d_JM_min_1 : decode b_JM_min 1 = .ok (.iload_n 1, 1) := by decide +kernel
theorem d_JM_min_2 : decode b_JM_min 2 = .ok (.if_icmp .gt 7, 3) := by decide +kernel
theorem d_JM_min_5 : decode b_JM_min 5 = .ok (.iload_n 0, 1) := by decide +kernel
theorem d_JM_min_6 : decode b_JM_min 6 = .ok (.goto 4, 3) := by decide +kernel
theorem d_JM_min_9 : decode b_JM_min 9 = .ok (.iload_n 1, 1) := by decide +kernel
theorem d_JM_min_10 : decode b_JM_min 10 = .ok (.ireturn, 1) := by decide +kernel
theorem d_JM_minl_0 : decode b_JM_minl 0 = .ok (.lload_n 0, 1) := by decide +kernel
theorem d_JM_minl_1 : decode b_JM_minl 1 = .ok (.lload_n 2, 1) := by decide +kernel
theorem d_JM_minl_2 : decode b_JM_minl 2 = .ok (.lcmp, 1) := by decide +kernel
theorem d_JM_minl_3 : decode b_JM_minl 3 = .ok (.ifCond .gt 7, 3) := by decide +kernel
theorem d_JM_minl_6 : decode b_JM_minl 6 = .ok (.lload_n 0, 1) := by decide +kernel
theorem d_JM_minl_7 : decode b_JM_minl 7 = .ok (.goto 4, 3) := by decide +kernel
theorem d_JM_minl_10 : decode b_JM_minl 10 = .ok (.lload_n 2, 1) := by decide +kernel
theorem d_JM_minl_11 : decode b_JM_minl 11 = .ok (.lreturn, 1) := by decide +kernel
theorem d_PL_at_0 : decode b_PL_at 0 = .ok (.aload_n 0, 1) := by decide +kernel
theorem d_PL_at_1 : decode b_PL_at 1 = .ok (.getfield 15, 3) := by decide +kernel
theorem d_PL_at_4 : decode b_PL_at 4 = .ok (.iload_n 1, 1) := by decide +kernel
theorem d_PL_at_5 : decode b_PL_at 5 = .ok (.iconst 4, 1) := by decide +kernel
theorem d_PL_at_6 : decode b_PL_at 6 = .ok (.imul, 1) := by decide +kernel
theorem d_PL_at_7 : decode b_PL_at 7 = .ok (.iload_n 2, 1) := by decide +kernel
theorem d_PL_at_8 : decode b_PL_at 8 = .ok (.iadd, 1) := by decide +kernel
theorem d_PL_at_9 : decode b_PL_at 9 = .ok (.iaload, 1) := by decide +kernel
theorem d_PL_at_10 : decode b_PL_at 10 = .ok (.ireturn, 1) := by decide +kernel
theorem d_PL_copyOut_0 : decode b_PL_copyOut 0 = .ok (.aload_n 0, 1) := by decide +kernel
theorem d_PL_copyOut_1 : decode b_PL_copyOut 1 = .ok (.getfield 15, 3) := by decide +kernel
theorem d_PL_copyOut_4 : decode b_PL_copyOut 4 = .ok (.iload_n 1, 1) := by decide +kernel
theorem d_PL_copyOut_5 : decode b_PL_copyOut 5 = .ok (.iconst 4, 1) := by decide +kernel
theorem d_PL_copyOut_6 : decode b_PL_copyOut 6 = .ok (.imul, 1) := by decide +kernel
theorem d_PL_copyOut_7 : decode b_PL_copyOut 7 = .ok (.aload_n 2, 1) := by decide +kernel
theorem d_PL_copyOut_8 : decode b_PL_copyOut 8 = .ok (.iconst 0, 1) := by decide +kernel
theorem d_PL_copyOut_9 : decode b_PL_copyOut 9 = .ok (.iconst 4, 1) := by decide +kernel
theorem d_PL_copyOut_10 : decode b_PL_copyOut 10 = .ok (.invokestatic 22, 3) := by decide +kernel
theorem d_PL_copyOut_13 : decode b_PL_copyOut 13 = .ok (.return_, 1) := by decide +kernel
theorem d_PL_copyWithin_0 : decode b_PL_copyWithin 0 = .ok (.aload_n 0, 1) := by decide +kernel
theorem d_PL_copyWithin_1 : decode b_PL_copyWithin 1 = .ok (.getfield 15, 3) := by decide +kernel
theorem d_PL_copyWithin_4 : decode b_PL_copyWithin 4 = .ok (.iload_n 1, 1) := by decide +kernel
theorem d_PL_copyWithin_5 : decode b_PL_copyWithin 5 = .ok (.iconst 4, 1) := by decide +kernel
theorem d_PL_copyWithin_6 : decode b_PL_copyWithin 6 = .ok (.imul, 1) := by decide +kernel
theorem d_PL_copyWithin_7 : decode b_PL_copyWithin 7 = .ok (.aload_n 0, 1) := by decide +kernel
theorem d_PL_copyWithin_8 : decode b_PL_copyWithin 8 = .ok (.getfield 15, 3) := by decide +kernel
theorem d_PL_copyWithin_11 : decode b_PL_copyWithin 11 = .ok (.iload_n 2, 1) := by decide +kernel
theorem d_PL_copyWithin_12 : decode b_PL_copyWithin 12 = .ok (.iconst 4, 1) := by decide +kernel
theorem d_PL_copyWithin_13 : decode b_PL_copyWithin 13 = .ok (.imul, 1) := by decide +kernel
theorem d_PL_copyWithin_14 : decode b_PL_copyWithin 14 = .ok (.iconst 4, 1) := by decide +kernel
theorem d_PL_copyWithin_15 : decode b_PL_copyWithin 15 = .ok (.invokestatic 22, 3) := by decide +kernel
theorem d_PL_copyWithin_18 : decode b_PL_copyWithin 18 = .ok (.return_, 1) := by decide +kernel
theorem d_PL_has_0 : decode b_PL_has 0 = .ok (.iload_n 1, 1) := by decide +kernel
theorem d_PL_has_1 : decode b_PL_has 1 = .ok (.ifCond .lt 15, 3) := by decide +kernel
theorem d_PL_has_4 : decode b_PL_has 4 = .ok (.iload_n 1, 1) := by decide +kernel
theorem d_PL_has_5 : decode b_PL_has 5 = .ok (.aload_n 0, 1) := by decide +kernel
theorem d_PL_has_6 : decode b_PL_has 6 = .ok (.getfield 19, 3) := by decide +kernel
theorem d_PL_has_9 : decode b_PL_has 9 = .ok (.if_icmp .ge 7, 3) := by decide +kernel
theorem d_PL_has_12 : decode b_PL_has 12 = .ok (.iconst 1, 1) := by decide +kernel
theorem d_PL_has_13 : decode b_PL_has 13 = .ok (.goto 4, 3) := by decide +kernel
theorem d_PL_has_16 : decode b_PL_has 16 = .ok (.iconst 0, 1) := by decide +kernel
theorem d_PL_has_17 : decode b_PL_has 17 = .ok (.ireturn, 1) := by decide +kernel
theorem d_PL_init_0 : decode b_PL_init 0 = .ok (.aload_n 0, 1) := by decide +kernel
theorem d_PL_init_1 : decode b_PL_init 1 = .ok (.invokespecial 3, 3) := by decide +kernel
theorem d_PL_init_4 : decode b_PL_init 4 = .ok (.aload_n 0, 1) := by decide +kernel
theorem d_PL_init_5 : decode b_PL_init 5 = .ok (.iload_n 1, 1) := by decide +kernel
theorem d_PL_init_6 : decode b_PL_init 6 = .ok (.putfield 9, 3) := by decide +kernel
theorem d_PL_init_9 : decode b_PL_init 9 = .ok (.aload_n 0, 1) := by decide +kernel
theorem d_PL_init_10 : decode b_PL_init 10 = .ok (.iload_n 1, 1) := by decide +kernel
theorem d_PL_init_11 : decode b_PL_init 11 = .ok (.iconst 4, 1) := by decide +kernel
theorem d_PL_init_12 : decode b_PL_init 12 = .ok (.imul, 1) := by decide +kernel
theorem d_PL_init_13 : decode b_PL_init 13 = .ok (.newarray .int, 2) := by decide +kernel
theorem d_PL_init_15 : decode b_PL_init 15 = .ok (.putfield 15, 3) := by decide +kernel
theorem d_PL_init_18 : decode b_PL_init 18 = .ok (.return_, 1) := by decide +kernel
theorem d_PL_insertInOrder_0 : decode b_PL_insertInOrder 0 = .ok (.aload_n 0, 1) := by decide +kernel
theorem d_PL_insertInOrder_1 : decode b_PL_insertInOrder 1 = .ok (.getfield 19, 3) := by decide +kernel
theorem d_PL_insertInOrder_4 : decode b_PL_insertInOrder 4 = .ok (.istore_n 2, 1) := by decide +kernel
theorem d_PL_insertInOrder_5 : decode b_PL_insertInOrder 5 = .ok (.iload_n 2, 1) := by decide +kernel
theorem d_PL_insertInOrder_6 : decode b_PL_insertInOrder 6 = .ok (.ifCond .le 20, 3) := by decide +kernel
theorem d_PL_insertInOrder_9 : decode b_PL_insertInOrder 9 = .ok (.aload_n 0, 1) := by decide +kernel
theorem d_PL_insertInOrder_10 : decode b_PL_insertInOrder 10 = .ok (.iload_n 2, 1) := by decide +kernel
theorem d_PL_insertInOrder_11 : decode b_PL_insertInOrder 11 = .ok (.iconst 1, 1) := by decide +kernel
theorem d_PL_insertInOrder_12 : decode b_PL_insertInOrder 12 = .ok (.isub, 1) := by decide +kernel
theorem d_PL_insertInOrder_13 : decode b_PL_insertInOrder 13 = .ok (.aload_n 1, 1) := by decide +kernel
theorem d_PL_insertInOrder_14 : decode b_PL_insertInOrder 14 = .ok (.invokevirtual 28, 3) := by decide +kernel
theorem d_PL_insertInOrder_17 : decode b_PL_insertInOrder 17 = .ok (.ifCond .le 9, 3) := by decide +kernel
theorem d_PL_insertInOrder_20 : decode b_PL_insertInOrder 20 = .ok (.iinc 2 (-1), 3) := by decide +kernel
theorem d_PL_insertInOrder_23 : decode b_PL_insertInOrder 23 = .ok (.goto (-18), 3) := by decide +kernel
theorem d_PL_insertInOrder_26 : decode b_PL_insertInOrder 26 = .ok (.iload_n 2, 1) := by decide +kernel
theorem d_PL_insertInOrder_27 : decode b_PL_insertInOrder 27 = .ok (.ifCond .eq 14, 3) := by decide +kernel
theorem d_PL_insertInOrder_30 : decode b_PL_insertInOrder 30 = .ok (.aload_n 0, 1) := by decide +kernel
theorem d_PL_insertInOrder_31 : decode b_PL_insertInOrder 31 = .ok (.iload_n 2, 1) := by decide +kernel
theorem d_PL_insertInOrder_32 : decode b_PL_insertInOrder 32 = .ok (.iconst 1, 1) := by decide +kernel
theorem d_PL_insertInOrder_33 : decode b_PL_insertInOrder 33 = .ok (.isub, 1) := by decide +kernel
theorem d_PL_insertInOrder_34 : decode b_PL_insertInOrder 34 = .ok (.aload_n 1, 1) := by decide +kernel
theorem d_PL_insertInOrder_35 : decode b_PL_insertInOrder 35 = .ok (.invokevirtual 28, 3) := by decide +kernel
theorem d_PL_insertInOrder_38 : decode b_PL_insertInOrder 38 = .ok (.ifCond .ge 9, 3) := by decide +kernel
theorem d_PL_insertInOrder_41 : decode b_PL_insertInOrder 41 = .ok (.aload_n 0, 1) := by decide +kernel
theorem d_PL_insertInOrder_42 : decode b_PL_insertInOrder 42 = .ok (.iload_n 2, 1) := by decide +kernel
theorem d_PL_insertInOrder_43 : decode b_PL_insertInOrder 43 = .ok (.aload_n 1, 1) := by decide +kernel
theorem d_PL_insertInOrder_44 : decode b_PL_insertInOrder 44 = .ok (.invokevirtual 32, 3) := by decide +kernel
theorem d_PL_insertInOrder_47 : decode b_PL_insertInOrder 47 = .ok (.return_, 1) := by decide +kernel
theorem d_PL_order_0 : decode b_PL_order 0 = .ok (.iconst 0, 1) := by decide +kernel
theorem d_PL_order_1 : decode b_PL_order 1 = .ok (.istore_n 3, 1) := by decide +kernel
theorem d_PL_order_2 : decode b_PL_order 2 = .ok (.iload_n 3, 1) := by decide +kernel
theorem d_PL_order_3 : decode b_PL_order 3 = .ok (.iconst 4, 1) := by decide +kernel
theorem d_PL_order_4 : decode b_PL_order 4 = .ok (.if_icmp .ge 39, 3) := by decide +kernel
theorem d_PL_order_7 : decode b_PL_order 7 = .ok (.aload_n 0, 1) := by decide +kernel
theorem d_PL_order_8 : decode b_PL_order 8 = .ok (.iload_n 1, 1) := by decide +kernel
theorem d_PL_order_9 : decode b_PL_order 9 = .ok (.iload_n 3, 1) := by decide +kernel
theorem d_PL_order_10 : decode b_PL_order 10 = .ok (.invokevirtual 36, 3) := by decide +kernel
theorem d_PL_order_13 : decode b_PL_order 13 = .ok (.istore 4, 2) := by decide +kernel
theorem d_PL_order_15 : decode b_PL_order 15 = .ok (.iload 4, 2) := by decide +kernel
theorem d_PL_order_17 : decode b_PL_order 17 = .ok (.aload_n 2, 1) := by decide +kernel
theorem d_PL_order_18 : decode b_PL_order 18 = .ok (.iload_n 3, 1) := by decide +kernel
theorem d_PL_order_19 : decode b_PL_order 19 = .ok (.iaload, 1) := by decide +kernel
theorem d_PL_order_20 : decode b_PL_order 20 = .ok (.if_icmp .eq 17, 3) := by decide +kernel
theorem d_PL_order_23 : decode b_PL_order 23 = .ok (.iload 4, 2) := by decide +kernel
theorem d_PL_order_25 : decode b_PL_order 25 = .ok (.aload_n 2, 1) := by decide +kernel
theorem d_PL_order_26 : decode b_PL_order 26 = .ok (.iload_n 3, 1) := by decide +kernel
theorem d_PL_order_27 : decode b_PL_order 27 = .ok (.iaload, 1) := by decide +kernel
theorem d_PL_order_28 : decode b_PL_order 28 = .ok (.if_icmp .ge 7, 3) := by decide +kernel
theorem d_PL_order_31 : decode b_PL_order 31 = .ok (.iconst (-1), 1) := by decide +kernel
theorem d_PL_order_32 : decode b_PL_order 32 = .ok (.goto 4, 3) := by decide +kernel
theorem d_PL_order_35 : decode b_PL_order 35 = .ok (.iconst 1, 1) := by decide +kernel
theorem d_PL_order_36 : decode b_PL_order 36 = .ok (.ireturn, 1) := by decide +kernel
theorem d_PL_order_37 : decode b_PL_order 37 = .ok (.iinc 3 1, 3) := by decide +kernel
theorem d_PL_order_40 : decode b_PL_order 40 = .ok (.goto (-38), 3) := by decide +kernel
theorem d_PL_order_43 : decode b_PL_order 43 = .ok (.iconst 0, 1) := by decide +kernel
theorem d_PL_order_44 : decode b_PL_order 44 = .ok (.ireturn, 1) := by decide +kernel
theorem d_PL_product_0 : decode b_PL_product 0 = .ok (.lconst 0, 1) := by decide +kernel
theorem d_PL_product_1 : decode b_PL_product 1 = .ok (.lstore_n 3, 1) := by decide +kernel
theorem d_PL_product_2 : decode b_PL_product 2 = .ok (.iconst 0, 1) := by decide +kernel
theorem d_PL_product_3 : decode b_PL_product 3 = .ok (.istore 5, 2) := by decide +kernel
theorem d_PL_product_5 : decode b_PL_product 5 = .ok (.iload 5, 2) := by decide +kernel
theorem d_PL_product_7 : decode b_PL_product 7 = .ok (.iconst 4, 1) := by decide +kernel
theorem d_PL_product_8 : decode b_PL_product 8 = .ok (.if_icmp .ge 26, 3) := by decide +kernel
theorem d_PL_product_11 : decode b_PL_product 11 = .ok (.lload_n 3, 1) := by decide +kernel
theorem d_PL_product_12 : decode b_PL_product 12 = .ok (.aload_n 0, 1) := by decide +kernel
theorem d_PL_product_13 : decode b_PL_product 13 = .ok (.iload_n 1, 1) := by decide +kernel
theorem d_PL_product_14 : decode b_PL_product 14 = .ok (.iload 5, 2) := by decide +kernel
theorem d_PL_product_16 : decode b_PL_product 16 = .ok (.invokevirtual 36, 3) := by decide +kernel
theorem d_PL_product_19 : decode b_PL_product 19 = .ok (.i2l, 1) := by decide +kernel
theorem d_PL_product_20 : decode b_PL_product 20 = .ok (.aload_n 2, 1) := by decide +kernel
theorem d_PL_product_21 : decode b_PL_product 21 = .ok (.iload 5, 2) := by decide +kernel
theorem d_PL_product_23 : decode b_PL_product 23 = .ok (.iaload, 1) := by decide +kernel
theorem d_PL_product_24 : decode b_PL_product 24 = .ok (.i2l, 1) := by decide +kernel
theorem d_PL_product_25 : decode b_PL_product 25 = .ok (.lmul, 1) := by decide +kernel
theorem d_PL_product_26 : decode b_PL_product 26 = .ok (.ladd, 1) := by decide +kernel
theorem d_PL_product_27 : decode b_PL_product 27 = .ok (.lstore_n 3, 1) := by decide +kernel
theorem d_PL_product_28 : decode b_PL_product 28 = .ok (.iinc 5 1, 3) := by decide +kernel
theorem d_PL_product_31 : decode b_PL_product 31 = .ok (.goto (-26), 3) := by decide +kernel
theorem d_PL_product_34 : decode b_PL_product 34 = .ok (.lload_n 3, 1) := by decide +kernel
theorem d_PL_product_35 : decode b_PL_product 35 = .ok (.lreturn, 1) := by decide +kernel
theorem d_PL_putAt_0 : decode b_PL_putAt 0 = .ok (.aload_n 0, 1) := by decide +kernel
theorem d_PL_putAt_1 : decode b_PL_putAt 1 = .ok (.getfield 19, 3) := by decide +kernel
theorem d_PL_putAt_4 : decode b_PL_putAt 4 = .ok (.aload_n 0, 1) := by decide +kernel
theorem d_PL_putAt_5 : decode b_PL_putAt 5 = .ok (.getfield 9, 3) := by decide +kernel
theorem d_PL_putAt_8 : decode b_PL_putAt 8 = .ok (.if_icmp .lt 4, 3) := by decide +kernel
theorem d_PL_putAt_11 : decode b_PL_putAt 11 = .ok (.return_, 1) := by decide +kernel
theorem d_PL_putAt_12 : decode b_PL_putAt 12 = .ok (.iload_n 1, 1) := by decide +kernel
theorem d_PL_putAt_13 : decode b_PL_putAt 13 = .ok (.iconst 4, 1) := by decide +kernel
theorem d_PL_putAt_14 : decode b_PL_putAt 14 = .ok (.imul, 1) := by decide +kernel
theorem d_PL_putAt_15 : decode b_PL_putAt 15 = .ok (.istore_n 3, 1) := by decide +kernel
theorem d_PL_putAt_16 : decode b_PL_putAt 16 = .ok (.aload_n 0, 1) := by decide +kernel
theorem d_PL_putAt_17 : decode b_PL_putAt 17 = .ok (.getfield 15, 3) := by decide +kernel
theorem d_PL_putAt_20 : decode b_PL_putAt 20 = .ok (.iload_n 3, 1) := by decide +kernel
theorem d_PL_putAt_21 : decode b_PL_putAt 21 = .ok (.aload_n 0, 1) := by decide +kernel
theorem d_PL_putAt_22 : decode b_PL_putAt 22 = .ok (.getfield 15, 3) := by decide +kernel
theorem d_PL_putAt_25 : decode b_PL_putAt 25 = .ok (.iload_n 3, 1) := by decide +kernel
theorem d_PL_putAt_26 : decode b_PL_putAt 26 = .ok (.iconst 4, 1) := by decide +kernel
theorem d_PL_putAt_27 : decode b_PL_putAt 27 = .ok (.iadd, 1) := by decide +kernel
theorem d_PL_putAt_28 : decode b_PL_putAt 28 = .ok (.aload_n 0, 1) := by decide +kernel
theorem d_PL_putAt_29 : decode b_PL_putAt 29 = .ok (.getfield 19, 3) := by decide +kernel
theorem d_PL_putAt_32 : decode b_PL_putAt 32 = .ok (.iconst 4, 1) := by decide +kernel
theorem d_PL_putAt_33 : decode b_PL_putAt 33 = .ok (.imul, 1) := by decide +kernel
theorem d_PL_putAt_34 : decode b_PL_putAt 34 = .ok (.iload_n 3, 1) := by decide +kernel
theorem d_PL_putAt_35 : decode b_PL_putAt 35 = .ok (.isub, 1) := by decide +kernel
theorem d_PL_putAt_36 : decode b_PL_putAt 36 = .ok (.invokestatic 22, 3) := by decide +kernel
theorem d_PL_putAt_39 : decode b_PL_putAt 39 = .ok (.aload_n 2, 1) := by decide +kernel
theorem d_PL_putAt_40 : decode b_PL_putAt 40 = .ok (.iconst 0, 1) := by decide +kernel
theorem d_PL_putAt_41 : decode b_PL_putAt 41 = .ok (.aload_n 0, 1) := by decide +kernel
theorem d_PL_putAt_42 : decode b_PL_putAt 42 = .ok (.getfield 15, 3) := by decide +kernel
theorem d_PL_putAt_45 : decode b_PL_putAt 45 = .ok (.iload_n 3, 1) := by decide +kernel
theorem d_PL_putAt_46 : decode b_PL_putAt 46 = .ok (.iconst 4, 1) := by decide +kernel
theorem d_PL_putAt_47 : decode b_PL_putAt 47 = .ok (.invokestatic 22, 3) := by decide +kernel
theorem d_PL_putAt_50 : decode b_PL_putAt 50 = .ok (.aload_n 0, 1) := by decide +kernel
theorem d_PL_putAt_51 : decode b_PL_putAt 51 = .ok (.dup, 1) := by decide +kernel
theorem d_PL_putAt_52 : decode b_PL_putAt 52 = .ok (.getfield 19, 3) := by decide +kernel
theorem d_PL_putAt_55 : decode b_PL_putAt 55 = .ok (.iconst 1, 1) := by decide +kernel
theorem d_PL_putAt_56 : decode b_PL_putAt 56 = .ok (.iadd, 1) := by decide +kernel
theorem d_PL_putAt_57 : decode b_PL_putAt 57 = .ok (.putfield 19, 3) := by decide +kernel
theorem d_PL_putAt_60 : decode b_PL_putAt 60 = .ok (.return_, 1) := by decide +kernel
theorem d_PL_removeAt_0 : decode b_PL_removeAt 0 = .ok (.iload_n 1, 1) := by decide +kernel
theorem d_PL_removeAt_1 : decode b_PL_removeAt 1 = .ok (.iconst 1, 1) := by decide +kernel
theorem d_PL_removeAt_2 : decode b_PL_removeAt 2 = .ok (.iadd, 1) := by decide +kernel
theorem d_PL_removeAt_3 : decode b_PL_removeAt 3 = .ok (.iconst 4, 1) := by decide +kernel
theorem d_PL_removeAt_4 : decode b_PL_removeAt 4 = .ok (.imul, 1) := by decide +kernel
theorem d_PL_removeAt_5 : decode b_PL_removeAt 5 = .ok (.istore_n 2, 1) := by decide +kernel
theorem d_PL_removeAt_6 : decode b_PL_removeAt 6 = .ok (.aload_n 0, 1) := by decide +kernel
theorem d_PL_removeAt_7 : decode b_PL_removeAt 7 = .ok (.getfield 15, 3) := by decide +kernel
theorem d_PL_removeAt_10 : decode b_PL_removeAt 10 = .ok (.iload_n 2, 1) := by decide +kernel
theorem d_PL_removeAt_11 : decode b_PL_removeAt 11 = .ok (.aload_n 0, 1) := by decide +kernel
theorem d_PL_removeAt_12 : decode b_PL_removeAt 12 = .ok (.getfield 15, 3) := by decide +kernel
theorem d_PL_removeAt_15 : decode b_PL_removeAt 15 = .ok (.iload_n 1, 1) := by decide +kernel
theorem d_PL_removeAt_16 : decode b_PL_removeAt 16 = .ok (.iconst 4, 1) := by decide +kernel
theorem d_PL_removeAt_17 : decode b_PL_removeAt 17 = .ok (.imul, 1) := by decide +kernel
theorem d_PL_removeAt_18 : decode b_PL_removeAt 18 = .ok (.aload_n 0, 1) := by decide +kernel
theorem d_PL_removeAt_19 : decode b_PL_removeAt 19 = .ok (.getfield 19, 3) := by decide +kernel
theorem d_PL_removeAt_22 : decode b_PL_removeAt 22 = .ok (.iconst 4, 1) := by decide +kernel
theorem d_PL_removeAt_23 : decode b_PL_removeAt 23 = .ok (.imul, 1) := by decide +kernel
theorem d_PL_removeAt_24 : decode b_PL_removeAt 24 = .ok (.iload_n 2, 1) := by decide +kernel
theorem d_PL_removeAt_25 : decode b_PL_removeAt 25 = .ok (.isub, 1) := by decide +kernel
theorem d_PL_removeAt_26 : decode b_PL_removeAt 26 = .ok (.invokestatic 22, 3) := by decide +kernel
theorem d_PL_removeAt_29 : decode b_PL_removeAt 29 = .ok (.aload_n 0, 1) := by decide +kernel
theorem d_PL_removeAt_30 : decode b_PL_removeAt 30 = .ok (.dup, 1) := by decide +kernel
theorem d_PL_removeAt_31 : decode b_PL_removeAt 31 = .ok (.getfield 19, 3) := by decide +kernel
theorem d_PL_removeAt_34 : decode b_PL_removeAt 34 = .ok (.iconst 1, 1) := by decide +kernel
theorem d_PL_removeAt_35 : decode b_PL_removeAt 35 = .ok (.isub, 1) := by decide +kernel
theorem d_PL_removeAt_36 : decode b_PL_removeAt 36 = .ok (.putfield 19, 3) := by decide +kernel
theorem d_PL_removeAt_39 : decode b_PL_removeAt 39 = .ok (.return_, 1) := by decide +kernel
