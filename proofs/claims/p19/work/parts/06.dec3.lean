/-! decode rows: by program -/
theorem d_N_init_0 : decode c_N_init 0 = .ok (.aload_n 0, 1) := by decide +kernel
theorem d_N_init_1 : decode c_N_init 1 = .ok (.invokespecial 1, 3) := by decide +kernel
theorem d_N_init_4 : decode c_N_init 4 = .ok (.aload_n 0, 1) := by decide +kernel
theorem d_N_init_5 : decode c_N_init 5 = .ok (.new 7, 3) := by decide +kernel
theorem d_N_init_8 : decode c_N_init 8 = .ok (.dup, 1) := by decide +kernel
theorem d_N_init_9 : decode c_N_init 9 = .ok (.invokespecial 9, 3) := by decide +kernel
theorem d_N_init_12 : decode c_N_init 12 = .ok (.putfield 10, 3) := by decide +kernel
theorem d_N_init_15 : decode c_N_init 15 = .ok (.aload_n 0, 1) := by decide +kernel
theorem d_N_init_16 : decode c_N_init 16 = .ok (.new 16, 3) := by decide +kernel
theorem d_N_init_19 : decode c_N_init 19 = .ok (.dup, 1) := by decide +kernel
theorem d_N_init_20 : decode c_N_init 20 = .ok (.invokespecial 18, 3) := by decide +kernel
theorem d_N_init_23 : decode c_N_init 23 = .ok (.putfield 19, 3) := by decide +kernel
theorem d_N_init_26 : decode c_N_init 26 = .ok (.aload_n 0, 1) := by decide +kernel
theorem d_N_init_27 : decode c_N_init 27 = .ok (.bipush 8, 2) := by decide +kernel
theorem d_N_init_29 : decode c_N_init 29 = .ok (.newarray .int, 2) := by decide +kernel
theorem d_N_init_31 : decode c_N_init 31 = .ok (.putfield 23, 3) := by decide +kernel
theorem d_N_init_34 : decode c_N_init 34 = .ok (.aload_n 0, 1) := by decide +kernel
theorem d_N_init_35 : decode c_N_init 35 = .ok (.bipush 8, 2) := by decide +kernel
theorem d_N_init_37 : decode c_N_init 37 = .ok (.newarray .int, 2) := by decide +kernel
theorem d_N_init_39 : decode c_N_init 39 = .ok (.putfield 27, 3) := by decide +kernel
theorem d_N_init_42 : decode c_N_init 42 = .ok (.aload_n 0, 1) := by decide +kernel
theorem d_N_init_43 : decode c_N_init 43 = .ok (.new 30, 3) := by decide +kernel
theorem d_N_init_46 : decode c_N_init 46 = .ok (.dup, 1) := by decide +kernel
theorem d_N_init_47 : decode c_N_init 47 = .ok (.aload_n 0, 1) := by decide +kernel
theorem d_N_init_48 : decode c_N_init 48 = .ok (.getfield 19, 3) := by decide +kernel
theorem d_N_init_51 : decode c_N_init 51 = .ok (.aload_n 0, 1) := by decide +kernel
theorem d_N_init_52 : decode c_N_init 52 = .ok (.getfield 10, 3) := by decide +kernel
theorem d_N_init_55 : decode c_N_init 55 = .ok (.aload_n 0, 1) := by decide +kernel
theorem d_N_init_56 : decode c_N_init 56 = .ok (.getfield 23, 3) := by decide +kernel
theorem d_N_init_59 : decode c_N_init 59 = .ok (.aload_n 0, 1) := by decide +kernel
theorem d_N_init_60 : decode c_N_init 60 = .ok (.getfield 27, 3) := by decide +kernel
theorem d_N_init_63 : decode c_N_init 63 = .ok (.invokespecial 32, 3) := by decide +kernel
theorem d_N_init_66 : decode c_N_init 66 = .ok (.putfield 35, 3) := by decide +kernel
theorem d_N_init_69 : decode c_N_init 69 = .ok (.aload_n 0, 1) := by decide +kernel
theorem d_N_init_70 : decode c_N_init 70 = .ok (.new 39, 3) := by decide +kernel
theorem d_N_init_73 : decode c_N_init 73 = .ok (.dup, 1) := by decide +kernel
theorem d_N_init_74 : decode c_N_init 74 = .ok (.aload_n 0, 1) := by decide +kernel
theorem d_N_init_75 : decode c_N_init 75 = .ok (.getfield 19, 3) := by decide +kernel
theorem d_N_init_78 : decode c_N_init 78 = .ok (.invokespecial 41, 3) := by decide +kernel
theorem d_N_init_81 : decode c_N_init 81 = .ok (.putfield 44, 3) := by decide +kernel
theorem d_N_init_84 : decode c_N_init 84 = .ok (.aload_n 0, 1) := by decide +kernel
theorem d_N_init_85 : decode c_N_init 85 = .ok (.new 48, 3) := by decide +kernel
theorem d_N_init_88 : decode c_N_init 88 = .ok (.dup, 1) := by decide +kernel
theorem d_N_init_89 : decode c_N_init 89 = .ok (.aload_n 0, 1) := by decide +kernel
theorem d_N_init_90 : decode c_N_init 90 = .ok (.getfield 44, 3) := by decide +kernel
theorem d_N_init_93 : decode c_N_init 93 = .ok (.invokespecial 50, 3) := by decide +kernel
theorem d_N_init_96 : decode c_N_init 96 = .ok (.putfield 53, 3) := by decide +kernel
theorem d_N_init_99 : decode c_N_init 99 = .ok (.return_, 1) := by decide +kernel
theorem d_N_clear_0 : decode c_N_clear 0 = .ok (.aload_n 0, 1) := by decide +kernel
theorem d_N_clear_1 : decode c_N_clear 1 = .ok (.getfield 10, 3) := by decide +kernel
theorem d_N_clear_4 : decode c_N_clear 4 = .ok (.iconst 3, 1) := by decide +kernel
theorem d_N_clear_5 : decode c_N_clear 5 = .ok (.invokevirtual 57, 3) := by decide +kernel
theorem d_N_clear_8 : decode c_N_clear 8 = .ok (.aload_n 0, 1) := by decide +kernel
theorem d_N_clear_9 : decode c_N_clear 9 = .ok (.getfield 19, 3) := by decide +kernel
theorem d_N_clear_12 : decode c_N_clear 12 = .ok (.invokevirtual 61, 3) := by decide +kernel
theorem d_N_clear_15 : decode c_N_clear 15 = .ok (.aload_n 0, 1) := by decide +kernel
theorem d_N_clear_16 : decode c_N_clear 16 = .ok (.getfield 23, 3) := by decide +kernel
theorem d_N_clear_19 : decode c_N_clear 19 = .ok (.iconst 0, 1) := by decide +kernel
theorem d_N_clear_20 : decode c_N_clear 20 = .ok (.invokestatic 64, 3) := by decide +kernel
theorem d_N_clear_23 : decode c_N_clear 23 = .ok (.aload_n 0, 1) := by decide +kernel
theorem d_N_clear_24 : decode c_N_clear 24 = .ok (.getfield 27, 3) := by decide +kernel
theorem d_N_clear_27 : decode c_N_clear 27 = .ok (.iconst 0, 1) := by decide +kernel
theorem d_N_clear_28 : decode c_N_clear 28 = .ok (.invokestatic 64, 3) := by decide +kernel
theorem d_N_clear_31 : decode c_N_clear 31 = .ok (.aload_n 0, 1) := by decide +kernel
theorem d_N_clear_32 : decode c_N_clear 32 = .ok (.getfield 35, 3) := by decide +kernel
theorem d_N_clear_35 : decode c_N_clear 35 = .ok (.invokevirtual 70, 3) := by decide +kernel
theorem d_N_clear_38 : decode c_N_clear 38 = .ok (.aload_n 0, 1) := by decide +kernel
theorem d_N_clear_39 : decode c_N_clear 39 = .ok (.getfield 53, 3) := by decide +kernel
theorem d_N_clear_42 : decode c_N_clear 42 = .ok (.invokevirtual 73, 3) := by decide +kernel
theorem d_N_clear_45 : decode c_N_clear 45 = .ok (.return_, 1) := by decide +kernel
theorem d_N_function_0 : decode c_N_function 0 = .ok (.aload_n 0, 1) := by decide +kernel
theorem d_N_function_1 : decode c_N_function 1 = .ok (.iload_n 1, 1) := by decide +kernel
theorem d_N_function_2 : decode c_N_function 2 = .ok (.invokevirtual 76, 3) := by decide +kernel
theorem d_N_function_5 : decode c_N_function 5 = .ok (.aload_n 0, 1) := by decide +kernel
theorem d_N_function_6 : decode c_N_function 6 = .ok (.iload_n 2, 1) := by decide +kernel
theorem d_N_function_7 : decode c_N_function 7 = .ok (.invokevirtual 76, 3) := by decide +kernel
theorem d_N_function_10 : decode c_N_function 10 = .ok (.iload_n 3, 1) := by decide +kernel
theorem d_N_function_11 : decode c_N_function 11 = .ok (.invokestatic 79, 3) := by decide +kernel
theorem d_N_function_14 : decode c_N_function 14 = .ok (.aload_n 0, 1) := by decide +kernel
theorem d_N_function_15 : decode c_N_function 15 = .ok (.getfield 10, 3) := by decide +kernel
theorem d_N_function_18 : decode c_N_function 18 = .ok (.iload_n 1, 1) := by decide +kernel
theorem d_N_function_19 : decode c_N_function 19 = .ok (.iload_n 2, 1) := by decide +kernel
theorem d_N_function_20 : decode c_N_function 20 = .ok (.iload_n 3, 1) := by decide +kernel
theorem d_N_function_21 : decode c_N_function 21 = .ok (.invokevirtual 82, 3) := by decide +kernel
theorem d_N_function_24 : decode c_N_function 24 = .ok (.istore 4, 2) := by decide +kernel
theorem d_N_function_26 : decode c_N_function 26 = .ok (.iload 4, 2) := by decide +kernel
theorem d_N_function_28 : decode c_N_function 28 = .ok (.iconst (-1), 1) := by decide +kernel
theorem d_N_function_29 : decode c_N_function 29 = .ok (.if_icmp .eq 6, 3) := by decide +kernel
theorem d_N_function_32 : decode c_N_function 32 = .ok (.iload 4, 2) := by decide +kernel
theorem d_N_function_34 : decode c_N_function 34 = .ok (.ireturn, 1) := by decide +kernel
theorem d_N_function_35 : decode c_N_function 35 = .ok (.aload_n 0, 1) := by decide +kernel
theorem d_N_function_36 : decode c_N_function 36 = .ok (.getfield 10, 3) := by decide +kernel
theorem d_N_function_39 : decode c_N_function 39 = .ok (.invokevirtual 86, 3) := by decide +kernel
theorem d_N_function_42 : decode c_N_function 42 = .ok (.bipush 60, 2) := by decide +kernel
theorem d_N_function_44 : decode c_N_function 44 = .ok (.if_icmp .lt 13, 3) := by decide +kernel
theorem d_N_function_47 : decode c_N_function 47 = .ok (.new 90, 3) := by decide +kernel
theorem d_N_function_50 : decode c_N_function 50 = .ok (.dup, 1) := by decide +kernel
theorem d_N_function_51 : decode c_N_function 51 = .ok (.ldc 92, 2) := by decide +kernel
theorem d_N_function_53 : decode c_N_function 53 = .ok (.invokespecial 94, 3) := by decide +kernel
theorem d_N_function_56 : decode c_N_function 56 = .ok (.athrow, 1) := by decide +kernel
theorem d_N_function_57 : decode c_N_function 57 = .ok (.aload_n 0, 1) := by decide +kernel
theorem d_N_function_58 : decode c_N_function 58 = .ok (.getfield 10, 3) := by decide +kernel
theorem d_N_function_61 : decode c_N_function 61 = .ok (.iload_n 1, 1) := by decide +kernel
theorem d_N_function_62 : decode c_N_function 62 = .ok (.iload_n 2, 1) := by decide +kernel
theorem d_N_function_63 : decode c_N_function 63 = .ok (.iload_n 3, 1) := by decide +kernel
theorem d_N_function_64 : decode c_N_function 64 = .ok (.invokevirtual 97, 3) := by decide +kernel
theorem d_N_function_67 : decode c_N_function 67 = .ok (.ireturn, 1) := by decide +kernel
theorem d_N_effect_0 : decode c_N_effect 0 = .ok (.iload_n 1, 1) := by decide +kernel
theorem d_N_effect_1 : decode c_N_effect 1 = .ok (.invokestatic 100, 3) := by decide +kernel
theorem d_N_effect_4 : decode c_N_effect 4 = .ok (.aload_n 0, 1) := by decide +kernel
theorem d_N_effect_5 : decode c_N_effect 5 = .ok (.iload_n 2, 1) := by decide +kernel
theorem d_N_effect_6 : decode c_N_effect 6 = .ok (.invokevirtual 76, 3) := by decide +kernel
theorem d_N_effect_9 : decode c_N_effect 9 = .ok (.aload_n 0, 1) := by decide +kernel
theorem d_N_effect_10 : decode c_N_effect 10 = .ok (.iload_n 3, 1) := by decide +kernel
theorem d_N_effect_11 : decode c_N_effect 11 = .ok (.invokevirtual 76, 3) := by decide +kernel
theorem d_N_effect_14 : decode c_N_effect 14 = .ok (.aload_n 0, 1) := by decide +kernel
theorem d_N_effect_15 : decode c_N_effect 15 = .ok (.getfield 23, 3) := by decide +kernel
theorem d_N_effect_18 : decode c_N_effect 18 = .ok (.iload_n 1, 1) := by decide +kernel
theorem d_N_effect_19 : decode c_N_effect 19 = .ok (.iload_n 2, 1) := by decide +kernel
theorem d_N_effect_20 : decode c_N_effect 20 = .ok (.iastore, 1) := by decide +kernel
theorem d_N_effect_21 : decode c_N_effect 21 = .ok (.aload_n 0, 1) := by decide +kernel
theorem d_N_effect_22 : decode c_N_effect 22 = .ok (.getfield 27, 3) := by decide +kernel
theorem d_N_effect_25 : decode c_N_effect 25 = .ok (.iload_n 1, 1) := by decide +kernel
theorem d_N_effect_26 : decode c_N_effect 26 = .ok (.iload_n 3, 1) := by decide +kernel
theorem d_N_effect_27 : decode c_N_effect 27 = .ok (.iastore, 1) := by decide +kernel
theorem d_N_effect_28 : decode c_N_effect 28 = .ok (.return_, 1) := by decide +kernel
theorem d_N_atom_0 : decode c_N_atom 0 = .ok (.iload_n 1, 1) := by decide +kernel
theorem d_N_atom_1 : decode c_N_atom 1 = .ok (.ifCond .lt 8, 3) := by decide +kernel
theorem d_N_atom_4 : decode c_N_atom 4 = .ok (.iload_n 1, 1) := by decide +kernel
theorem d_N_atom_5 : decode c_N_atom 5 = .ok (.iconst 3, 1) := by decide +kernel
theorem d_N_atom_6 : decode c_N_atom 6 = .ok (.if_icmp .le 13, 3) := by decide +kernel
theorem d_N_atom_9 : decode c_N_atom 9 = .ok (.new 103, 3) := by decide +kernel
theorem d_N_atom_12 : decode c_N_atom 12 = .ok (.dup, 1) := by decide +kernel
theorem d_N_atom_13 : decode c_N_atom 13 = .ok (.ldc 105, 2) := by decide +kernel
theorem d_N_atom_15 : decode c_N_atom 15 = .ok (.invokespecial 107, 3) := by decide +kernel
theorem d_N_atom_18 : decode c_N_atom 18 = .ok (.athrow, 1) := by decide +kernel
theorem d_N_atom_19 : decode c_N_atom 19 = .ok (.iload_n 1, 1) := by decide +kernel
theorem d_N_atom_20 : decode c_N_atom 20 = .ok (.iconst 1, 1) := by decide +kernel
theorem d_N_atom_21 : decode c_N_atom 21 = .ok (.if_icmp .ne 22, 3) := by decide +kernel
theorem d_N_atom_24 : decode c_N_atom 24 = .ok (.iload_n 2, 1) := by decide +kernel
theorem d_N_atom_25 : decode c_N_atom 25 = .ok (.ifCond .eq 18, 3) := by decide +kernel
theorem d_N_atom_28 : decode c_N_atom 28 = .ok (.iload_n 2, 1) := by decide +kernel
theorem d_N_atom_29 : decode c_N_atom 29 = .ok (.iconst 1, 1) := by decide +kernel
theorem d_N_atom_30 : decode c_N_atom 30 = .ok (.if_icmp .eq 13, 3) := by decide +kernel
theorem d_N_atom_33 : decode c_N_atom 33 = .ok (.new 103, 3) := by decide +kernel
theorem d_N_atom_36 : decode c_N_atom 36 = .ok (.dup, 1) := by decide +kernel
theorem d_N_atom_37 : decode c_N_atom 37 = .ok (.ldc 108, 2) := by decide +kernel
theorem d_N_atom_39 : decode c_N_atom 39 = .ok (.invokespecial 107, 3) := by decide +kernel
theorem d_N_atom_42 : decode c_N_atom 42 = .ok (.athrow, 1) := by decide +kernel
theorem d_N_atom_43 : decode c_N_atom 43 = .ok (.iload_n 1, 1) := by decide +kernel
theorem d_N_atom_44 : decode c_N_atom 44 = .ok (.iconst 3, 1) := by decide +kernel
theorem d_N_atom_45 : decode c_N_atom 45 = .ok (.if_icmp .ne 7, 3) := by decide +kernel
theorem d_N_atom_48 : decode c_N_atom 48 = .ok (.iload_n 2, 1) := by decide +kernel
theorem d_N_atom_49 : decode c_N_atom 49 = .ok (.invokestatic 110, 3) := by decide +kernel
theorem d_N_atom_52 : decode c_N_atom 52 = .ok (.aload_n 0, 1) := by decide +kernel
theorem d_N_atom_53 : decode c_N_atom 53 = .ok (.invokevirtual 113, 3) := by decide +kernel
theorem d_N_atom_56 : decode c_N_atom 56 = .ok (.new 116, 3) := by decide +kernel
theorem d_N_atom_59 : decode c_N_atom 59 = .ok (.dup, 1) := by decide +kernel
theorem d_N_atom_60 : decode c_N_atom 60 = .ok (.iload_n 1, 1) := by decide +kernel
theorem d_N_atom_61 : decode c_N_atom 61 = .ok (.invokespecial 118, 3) := by decide +kernel
theorem d_N_atom_64 : decode c_N_atom 64 = .ok (.astore_n 3, 1) := by decide +kernel
theorem d_N_atom_65 : decode c_N_atom 65 = .ok (.aload_n 3, 1) := by decide +kernel
theorem d_N_atom_66 : decode c_N_atom 66 = .ok (.iload_n 1, 1) := by decide +kernel
theorem d_N_atom_67 : decode c_N_atom 67 = .ok (.iconst 2, 1) := by decide +kernel
theorem d_N_atom_68 : decode c_N_atom 68 = .ok (.if_icmp .ne 7, 3) := by decide +kernel
theorem d_N_atom_71 : decode c_N_atom 71 = .ok (.iconst 0, 1) := by decide +kernel
theorem d_N_atom_72 : decode c_N_atom 72 = .ok (.goto 4, 3) := by decide +kernel
theorem d_N_atom_75 : decode c_N_atom 75 = .ok (.iload_n 2, 1) := by decide +kernel
theorem d_N_atom_76 : decode c_N_atom 76 = .ok (.putfield 120, 3) := by decide +kernel
theorem d_N_atom_79 : decode c_N_atom 79 = .ok (.aload_n 0, 1) := by decide +kernel
theorem d_N_atom_80 : decode c_N_atom 80 = .ok (.getfield 19, 3) := by decide +kernel
theorem d_N_atom_83 : decode c_N_atom 83 = .ok (.aload_n 3, 1) := by decide +kernel
theorem d_N_atom_84 : decode c_N_atom 84 = .ok (.invokevirtual 124, 3) := by decide +kernel
theorem d_N_atom_87 : decode c_N_atom 87 = .ok (.ireturn, 1) := by decide +kernel
theorem d_N_let_0 : decode c_N_let 0 = .ok (.iload_n 1, 1) := by decide +kernel
theorem d_N_let_1 : decode c_N_let 1 = .ok (.invokestatic 110, 3) := by decide +kernel
theorem d_N_let_4 : decode c_N_let 4 = .ok (.aload_n 0, 1) := by decide +kernel
theorem d_N_let_5 : decode c_N_let 5 = .ok (.iload_n 2, 1) := by decide +kernel
theorem d_N_let_6 : decode c_N_let 6 = .ok (.invokevirtual 128, 3) := by decide +kernel
theorem d_N_let_9 : decode c_N_let 9 = .ok (.aload_n 0, 1) := by decide +kernel
theorem d_N_let_10 : decode c_N_let 10 = .ok (.iload_n 3, 1) := by decide +kernel
theorem d_N_let_11 : decode c_N_let 11 = .ok (.invokevirtual 128, 3) := by decide +kernel
theorem d_N_let_14 : decode c_N_let 14 = .ok (.aload_n 0, 1) := by decide +kernel
theorem d_N_let_15 : decode c_N_let 15 = .ok (.invokevirtual 113, 3) := by decide +kernel
theorem d_N_let_18 : decode c_N_let 18 = .ok (.new 116, 3) := by decide +kernel
theorem d_N_let_21 : decode c_N_let 21 = .ok (.dup, 1) := by decide +kernel
theorem d_N_let_22 : decode c_N_let 22 = .ok (.iconst 4, 1) := by decide +kernel
theorem d_N_let_23 : decode c_N_let 23 = .ok (.invokespecial 118, 3) := by decide +kernel
theorem d_N_let_26 : decode c_N_let 26 = .ok (.astore 4, 2) := by decide +kernel
theorem d_N_let_28 : decode c_N_let 28 = .ok (.aload 4, 2) := by decide +kernel
theorem d_N_let_30 : decode c_N_let 30 = .ok (.iload_n 1, 1) := by decide +kernel
theorem d_N_let_31 : decode c_N_let 31 = .ok (.putfield 131, 3) := by decide +kernel
theorem d_N_let_34 : decode c_N_let 34 = .ok (.aload 4, 2) := by decide +kernel
theorem d_N_let_36 : decode c_N_let 36 = .ok (.iload_n 2, 1) := by decide +kernel
theorem d_N_let_37 : decode c_N_let 37 = .ok (.putfield 134, 3) := by decide +kernel
theorem d_N_let_40 : decode c_N_let 40 = .ok (.aload 4, 2) := by decide +kernel
theorem d_N_let_42 : decode c_N_let 42 = .ok (.iload_n 3, 1) := by decide +kernel
theorem d_N_let_43 : decode c_N_let 43 = .ok (.putfield 137, 3) := by decide +kernel
theorem d_N_let_46 : decode c_N_let 46 = .ok (.aload_n 0, 1) := by decide +kernel
theorem d_N_let_47 : decode c_N_let 47 = .ok (.getfield 19, 3) := by decide +kernel
theorem d_N_let_50 : decode c_N_let 50 = .ok (.aload 4, 2) := by decide +kernel
theorem d_N_let_52 : decode c_N_let 52 = .ok (.invokevirtual 124, 3) := by decide +kernel
theorem d_N_let_55 : decode c_N_let 55 = .ok (.ireturn, 1) := by decide +kernel
theorem d_N_rec_0 : decode c_N_rec 0 = .ok (.iload_n 1, 1) := by decide +kernel
theorem d_N_rec_1 : decode c_N_rec 1 = .ok (.invokestatic 110, 3) := by decide +kernel
theorem d_N_rec_4 : decode c_N_rec 4 = .ok (.iload_n 2, 1) := by decide +kernel
theorem d_N_rec_5 : decode c_N_rec 5 = .ok (.invokestatic 110, 3) := by decide +kernel
theorem d_N_rec_8 : decode c_N_rec 8 = .ok (.aload_n 0, 1) := by decide +kernel
theorem d_N_rec_9 : decode c_N_rec 9 = .ok (.getfield 10, 3) := by decide +kernel
theorem d_N_rec_12 : decode c_N_rec 12 = .ok (.iload_n 3, 1) := by decide +kernel
theorem d_N_rec_13 : decode c_N_rec 13 = .ok (.invokevirtual 140, 3) := by decide +kernel
theorem d_N_rec_16 : decode c_N_rec 16 = .ok (.ifCond .ne 13, 3) := by decide +kernel
theorem d_N_rec_19 : decode c_N_rec 19 = .ok (.new 103, 3) := by decide +kernel
theorem d_N_rec_22 : decode c_N_rec 22 = .ok (.dup, 1) := by decide +kernel
theorem d_N_rec_23 : decode c_N_rec 23 = .ok (.ldc 144, 2) := by decide +kernel
theorem d_N_rec_25 : decode c_N_rec 25 = .ok (.invokespecial 107, 3) := by decide +kernel
theorem d_N_rec_28 : decode c_N_rec 28 = .ok (.athrow, 1) := by decide +kernel
theorem d_N_rec_29 : decode c_N_rec 29 = .ok (.aload_n 0, 1) := by decide +kernel
theorem d_N_rec_30 : decode c_N_rec 30 = .ok (.iload 4, 2) := by decide +kernel
theorem d_N_rec_32 : decode c_N_rec 32 = .ok (.invokevirtual 128, 3) := by decide +kernel
theorem d_N_rec_35 : decode c_N_rec 35 = .ok (.aload_n 0, 1) := by decide +kernel
theorem d_N_rec_36 : decode c_N_rec 36 = .ok (.iload 5, 2) := by decide +kernel
theorem d_N_rec_38 : decode c_N_rec 38 = .ok (.invokevirtual 128, 3) := by decide +kernel
theorem d_N_rec_41 : decode c_N_rec 41 = .ok (.aload_n 0, 1) := by decide +kernel
theorem d_N_rec_42 : decode c_N_rec 42 = .ok (.invokevirtual 113, 3) := by decide +kernel
theorem d_N_rec_45 : decode c_N_rec 45 = .ok (.new 116, 3) := by decide +kernel
theorem d_N_rec_48 : decode c_N_rec 48 = .ok (.dup, 1) := by decide +kernel
theorem d_N_rec_49 : decode c_N_rec 49 = .ok (.iconst 5, 1) := by decide +kernel
theorem d_N_rec_50 : decode c_N_rec 50 = .ok (.invokespecial 118, 3) := by decide +kernel
theorem d_N_rec_53 : decode c_N_rec 53 = .ok (.astore 6, 2) := by decide +kernel
theorem d_N_rec_55 : decode c_N_rec 55 = .ok (.aload 6, 2) := by decide +kernel
theorem d_N_rec_57 : decode c_N_rec 57 = .ok (.iload_n 1, 1) := by decide +kernel
theorem d_N_rec_58 : decode c_N_rec 58 = .ok (.putfield 146, 3) := by decide +kernel
theorem d_N_rec_61 : decode c_N_rec 61 = .ok (.aload 6, 2) := by decide +kernel
theorem d_N_rec_63 : decode c_N_rec 63 = .ok (.iload_n 2, 1) := by decide +kernel
theorem d_N_rec_64 : decode c_N_rec 64 = .ok (.putfield 131, 3) := by decide +kernel
theorem d_N_rec_67 : decode c_N_rec 67 = .ok (.aload 6, 2) := by decide +kernel
theorem d_N_rec_69 : decode c_N_rec 69 = .ok (.iload_n 3, 1) := by decide +kernel
theorem d_N_rec_70 : decode c_N_rec 70 = .ok (.putfield 120, 3) := by decide +kernel
theorem d_N_rec_73 : decode c_N_rec 73 = .ok (.aload 6, 2) := by decide +kernel
theorem d_N_rec_75 : decode c_N_rec 75 = .ok (.iload 4, 2) := by decide +kernel
theorem d_N_rec_77 : decode c_N_rec 77 = .ok (.putfield 134, 3) := by decide +kernel
theorem d_N_rec_80 : decode c_N_rec 80 = .ok (.aload 6, 2) := by decide +kernel
theorem d_N_rec_82 : decode c_N_rec 82 = .ok (.iload 5, 2) := by decide +kernel
theorem d_N_rec_84 : decode c_N_rec 84 = .ok (.putfield 137, 3) := by decide +kernel
theorem d_N_rec_87 : decode c_N_rec 87 = .ok (.aload_n 0, 1) := by decide +kernel
theorem d_N_rec_88 : decode c_N_rec 88 = .ok (.getfield 19, 3) := by decide +kernel
theorem d_N_rec_91 : decode c_N_rec 91 = .ok (.aload 6, 2) := by decide +kernel
theorem d_N_rec_93 : decode c_N_rec 93 = .ok (.invokevirtual 124, 3) := by decide +kernel
theorem d_N_rec_96 : decode c_N_rec 96 = .ok (.ireturn, 1) := by decide +kernel
theorem d_N_choice_0 : decode c_N_choice 0 = .ok (.aload_n 0, 1) := by decide +kernel
theorem d_N_choice_1 : decode c_N_choice 1 = .ok (.iload_n 1, 1) := by decide +kernel
theorem d_N_choice_2 : decode c_N_choice 2 = .ok (.invokevirtual 128, 3) := by decide +kernel
theorem d_N_choice_5 : decode c_N_choice 5 = .ok (.aload_n 0, 1) := by decide +kernel
theorem d_N_choice_6 : decode c_N_choice 6 = .ok (.iload_n 2, 1) := by decide +kernel
theorem d_N_choice_7 : decode c_N_choice 7 = .ok (.invokevirtual 128, 3) := by decide +kernel
theorem d_N_choice_10 : decode c_N_choice 10 = .ok (.aload_n 0, 1) := by decide +kernel
theorem d_N_choice_11 : decode c_N_choice 11 = .ok (.iload_n 3, 1) := by decide +kernel
theorem d_N_choice_12 : decode c_N_choice 12 = .ok (.invokevirtual 128, 3) := by decide +kernel
theorem d_N_choice_15 : decode c_N_choice 15 = .ok (.aload_n 0, 1) := by decide +kernel
theorem d_N_choice_16 : decode c_N_choice 16 = .ok (.invokevirtual 113, 3) := by decide +kernel
theorem d_N_choice_19 : decode c_N_choice 19 = .ok (.new 116, 3) := by decide +kernel
theorem d_N_choice_22 : decode c_N_choice 22 = .ok (.dup, 1) := by decide +kernel
theorem d_N_choice_23 : decode c_N_choice 23 = .ok (.bipush 6, 2) := by decide +kernel
theorem d_N_choice_25 : decode c_N_choice 25 = .ok (.invokespecial 118, 3) := by decide +kernel
theorem d_N_choice_28 : decode c_N_choice 28 = .ok (.astore 4, 2) := by decide +kernel
theorem d_N_choice_30 : decode c_N_choice 30 = .ok (.aload 4, 2) := by decide +kernel
theorem d_N_choice_32 : decode c_N_choice 32 = .ok (.iload_n 1, 1) := by decide +kernel
theorem d_N_choice_33 : decode c_N_choice 33 = .ok (.putfield 134, 3) := by decide +kernel
theorem d_N_choice_36 : decode c_N_choice 36 = .ok (.aload 4, 2) := by decide +kernel
theorem d_N_choice_38 : decode c_N_choice 38 = .ok (.iload_n 2, 1) := by decide +kernel
theorem d_N_choice_39 : decode c_N_choice 39 = .ok (.putfield 137, 3) := by decide +kernel
theorem d_N_choice_42 : decode c_N_choice 42 = .ok (.aload 4, 2) := by decide +kernel
theorem d_N_choice_44 : decode c_N_choice 44 = .ok (.iload_n 3, 1) := by decide +kernel
theorem d_N_choice_45 : decode c_N_choice 45 = .ok (.putfield 149, 3) := by decide +kernel
theorem d_N_choice_48 : decode c_N_choice 48 = .ok (.aload_n 0, 1) := by decide +kernel
theorem d_N_choice_49 : decode c_N_choice 49 = .ok (.getfield 19, 3) := by decide +kernel
theorem d_N_choice_52 : decode c_N_choice 52 = .ok (.aload 4, 2) := by decide +kernel
theorem d_N_choice_54 : decode c_N_choice 54 = .ok (.invokevirtual 124, 3) := by decide +kernel
theorem d_N_choice_57 : decode c_N_choice 57 = .ok (.ireturn, 1) := by decide +kernel
theorem d_N_fn_0 : decode c_N_fn 0 = .ok (.iload_n 1, 1) := by decide +kernel
theorem d_N_fn_1 : decode c_N_fn 1 = .ok (.invokestatic 110, 3) := by decide +kernel
theorem d_N_fn_4 : decode c_N_fn 4 = .ok (.aload_n 0, 1) := by decide +kernel
theorem d_N_fn_5 : decode c_N_fn 5 = .ok (.iload_n 2, 1) := by decide +kernel
theorem d_N_fn_6 : decode c_N_fn 6 = .ok (.invokevirtual 76, 3) := by decide +kernel
theorem d_N_fn_9 : decode c_N_fn 9 = .ok (.aload_n 0, 1) := by decide +kernel
theorem d_N_fn_10 : decode c_N_fn 10 = .ok (.iload_n 3, 1) := by decide +kernel
theorem d_N_fn_11 : decode c_N_fn 11 = .ok (.invokevirtual 128, 3) := by decide +kernel
theorem d_N_fn_14 : decode c_N_fn 14 = .ok (.aload_n 0, 1) := by decide +kernel
theorem d_N_fn_15 : decode c_N_fn 15 = .ok (.invokevirtual 113, 3) := by decide +kernel
theorem d_N_fn_18 : decode c_N_fn 18 = .ok (.new 116, 3) := by decide +kernel
theorem d_N_fn_21 : decode c_N_fn 21 = .ok (.dup, 1) := by decide +kernel
theorem d_N_fn_22 : decode c_N_fn 22 = .ok (.bipush 7, 2) := by decide +kernel
theorem d_N_fn_24 : decode c_N_fn 24 = .ok (.invokespecial 118, 3) := by decide +kernel
theorem d_N_fn_27 : decode c_N_fn 27 = .ok (.astore 4, 2) := by decide +kernel
theorem d_N_fn_29 : decode c_N_fn 29 = .ok (.aload 4, 2) := by decide +kernel
theorem d_N_fn_31 : decode c_N_fn 31 = .ok (.iload_n 1, 1) := by decide +kernel
theorem d_N_fn_32 : decode c_N_fn 32 = .ok (.putfield 131, 3) := by decide +kernel
theorem d_N_fn_35 : decode c_N_fn 35 = .ok (.aload 4, 2) := by decide +kernel
theorem d_N_fn_37 : decode c_N_fn 37 = .ok (.iload_n 2, 1) := by decide +kernel
theorem d_N_fn_38 : decode c_N_fn 38 = .ok (.putfield 120, 3) := by decide +kernel
theorem d_N_fn_41 : decode c_N_fn 41 = .ok (.aload 4, 2) := by decide +kernel
theorem d_N_fn_43 : decode c_N_fn 43 = .ok (.iload_n 3, 1) := by decide +kernel
theorem d_N_fn_44 : decode c_N_fn 44 = .ok (.putfield 134, 3) := by decide +kernel
theorem d_N_fn_47 : decode c_N_fn 47 = .ok (.aload_n 0, 1) := by decide +kernel
theorem d_N_fn_48 : decode c_N_fn 48 = .ok (.getfield 19, 3) := by decide +kernel
theorem d_N_fn_51 : decode c_N_fn 51 = .ok (.aload 4, 2) := by decide +kernel
theorem d_N_fn_53 : decode c_N_fn 53 = .ok (.invokevirtual 124, 3) := by decide +kernel
theorem d_N_fn_56 : decode c_N_fn 56 = .ok (.ireturn, 1) := by decide +kernel
theorem d_N_clause_0 : decode c_N_clause 0 = .ok (.iload_n 1, 1) := by decide +kernel
theorem d_N_clause_1 : decode c_N_clause 1 = .ok (.invokestatic 100, 3) := by decide +kernel
theorem d_N_clause_4 : decode c_N_clause 4 = .ok (.iload_n 2, 1) := by decide +kernel
theorem d_N_clause_5 : decode c_N_clause 5 = .ok (.invokestatic 110, 3) := by decide +kernel
theorem d_N_clause_8 : decode c_N_clause 8 = .ok (.iload_n 3, 1) := by decide +kernel
theorem d_N_clause_9 : decode c_N_clause 9 = .ok (.invokestatic 110, 3) := by decide +kernel
theorem d_N_clause_12 : decode c_N_clause 12 = .ok (.aload_n 0, 1) := by decide +kernel
theorem d_N_clause_13 : decode c_N_clause 13 = .ok (.iload 4, 2) := by decide +kernel
theorem d_N_clause_15 : decode c_N_clause 15 = .ok (.invokevirtual 128, 3) := by decide +kernel
theorem d_N_clause_18 : decode c_N_clause 18 = .ok (.aload_n 0, 1) := by decide +kernel
theorem d_N_clause_19 : decode c_N_clause 19 = .ok (.getfield 19, 3) := by decide +kernel
theorem d_N_clause_22 : decode c_N_clause 22 = .ok (.invokevirtual 152, 3) := by decide +kernel
theorem d_N_clause_25 : decode c_N_clause 25 = .ok (.ifCond .ne 13, 3) := by decide +kernel
theorem d_N_clause_28 : decode c_N_clause 28 = .ok (.new 90, 3) := by decide +kernel
theorem d_N_clause_31 : decode c_N_clause 31 = .ok (.dup, 1) := by decide +kernel
theorem d_N_clause_32 : decode c_N_clause 32 = .ok (.ldc 156, 2) := by decide +kernel
theorem d_N_clause_34 : decode c_N_clause 34 = .ok (.invokespecial 94, 3) := by decide +kernel
theorem d_N_clause_37 : decode c_N_clause 37 = .ok (.athrow, 1) := by decide +kernel
theorem d_N_clause_38 : decode c_N_clause 38 = .ok (.aload_n 0, 1) := by decide +kernel
theorem d_N_clause_39 : decode c_N_clause 39 = .ok (.getfield 19, 3) := by decide +kernel
theorem d_N_clause_42 : decode c_N_clause 42 = .ok (.new 158, 3) := by decide +kernel
theorem d_N_clause_45 : decode c_N_clause 45 = .ok (.dup, 1) := by decide +kernel
theorem d_N_clause_46 : decode c_N_clause 46 = .ok (.iload_n 1, 1) := by decide +kernel
theorem d_N_clause_47 : decode c_N_clause 47 = .ok (.iload_n 2, 1) := by decide +kernel
theorem d_N_clause_48 : decode c_N_clause 48 = .ok (.iload_n 3, 1) := by decide +kernel
theorem d_N_clause_49 : decode c_N_clause 49 = .ok (.iload 4, 2) := by decide +kernel
theorem d_N_clause_51 : decode c_N_clause 51 = .ok (.invokespecial 160, 3) := by decide +kernel
theorem d_N_clause_54 : decode c_N_clause 54 = .ok (.invokevirtual 163, 3) := by decide +kernel
theorem d_N_clause_57 : decode c_N_clause 57 = .ok (.ireturn, 1) := by decide +kernel
theorem d_N_handle_0 : decode c_N_handle 0 = .ok (.aload_n 0, 1) := by decide +kernel
theorem d_N_handle_1 : decode c_N_handle 1 = .ok (.iload_n 1, 1) := by decide +kernel
theorem d_N_handle_2 : decode c_N_handle 2 = .ok (.invokevirtual 128, 3) := by decide +kernel
theorem d_N_handle_5 : decode c_N_handle 5 = .ok (.iload_n 2, 1) := by decide +kernel
theorem d_N_handle_6 : decode c_N_handle 6 = .ok (.invokestatic 79, 3) := by decide +kernel
theorem d_N_handle_9 : decode c_N_handle 9 = .ok (.iload_n 3, 1) := by decide +kernel
theorem d_N_handle_10 : decode c_N_handle 10 = .ok (.invokestatic 110, 3) := by decide +kernel
theorem d_N_handle_13 : decode c_N_handle 13 = .ok (.aload_n 0, 1) := by decide +kernel
theorem d_N_handle_14 : decode c_N_handle 14 = .ok (.iload 4, 2) := by decide +kernel
theorem d_N_handle_16 : decode c_N_handle 16 = .ok (.invokevirtual 128, 3) := by decide +kernel
theorem d_N_handle_19 : decode c_N_handle 19 = .ok (.aload_n 0, 1) := by decide +kernel
theorem d_N_handle_20 : decode c_N_handle 20 = .ok (.invokevirtual 113, 3) := by decide +kernel
theorem d_N_handle_23 : decode c_N_handle 23 = .ok (.new 116, 3) := by decide +kernel
theorem d_N_handle_26 : decode c_N_handle 26 = .ok (.dup, 1) := by decide +kernel
theorem d_N_handle_27 : decode c_N_handle 27 = .ok (.bipush 8, 2) := by decide +kernel
theorem d_N_handle_29 : decode c_N_handle 29 = .ok (.invokespecial 118, 3) := by decide +kernel
theorem d_N_handle_32 : decode c_N_handle 32 = .ok (.astore 5, 2) := by decide +kernel
theorem d_N_handle_34 : decode c_N_handle 34 = .ok (.aload 5, 2) := by decide +kernel
theorem d_N_handle_36 : decode c_N_handle 36 = .ok (.iload_n 2, 1) := by decide +kernel
theorem d_N_handle_37 : decode c_N_handle 37 = .ok (.putfield 120, 3) := by decide +kernel
theorem d_N_handle_40 : decode c_N_handle 40 = .ok (.aload 5, 2) := by decide +kernel
theorem d_N_handle_42 : decode c_N_handle 42 = .ok (.iload_n 3, 1) := by decide +kernel
theorem d_N_handle_43 : decode c_N_handle 43 = .ok (.putfield 131, 3) := by decide +kernel
theorem d_N_handle_46 : decode c_N_handle 46 = .ok (.aload 5, 2) := by decide +kernel
theorem d_N_handle_48 : decode c_N_handle 48 = .ok (.iload_n 1, 1) := by decide +kernel
theorem d_N_handle_49 : decode c_N_handle 49 = .ok (.putfield 134, 3) := by decide +kernel
theorem d_N_handle_52 : decode c_N_handle 52 = .ok (.aload 5, 2) := by decide +kernel
theorem d_N_handle_54 : decode c_N_handle 54 = .ok (.iload 4, 2) := by decide +kernel
theorem d_N_handle_56 : decode c_N_handle 56 = .ok (.putfield 137, 3) := by decide +kernel
theorem d_N_handle_59 : decode c_N_handle 59 = .ok (.aload_n 0, 1) := by decide +kernel
theorem d_N_handle_60 : decode c_N_handle 60 = .ok (.getfield 19, 3) := by decide +kernel
theorem d_N_handle_63 : decode c_N_handle 63 = .ok (.aload 5, 2) := by decide +kernel
theorem d_N_handle_65 : decode c_N_handle 65 = .ok (.invokevirtual 167, 3) := by decide +kernel
theorem d_N_handle_68 : decode c_N_handle 68 = .ok (.aload_n 0, 1) := by decide +kernel
theorem d_N_handle_69 : decode c_N_handle 69 = .ok (.getfield 19, 3) := by decide +kernel
theorem d_N_handle_72 : decode c_N_handle 72 = .ok (.aload 5, 2) := by decide +kernel
theorem d_N_handle_74 : decode c_N_handle 74 = .ok (.invokevirtual 124, 3) := by decide +kernel
theorem d_N_handle_77 : decode c_N_handle 77 = .ok (.ireturn, 1) := by decide +kernel
theorem d_N_two_0 : decode c_N_two 0 = .ok (.iload_n 1, 1) := by decide +kernel
theorem d_N_two_1 : decode c_N_two 1 = .ok (.ifCond .lt 8, 3) := by decide +kernel
theorem d_N_two_4 : decode c_N_two 4 = .ok (.iload_n 1, 1) := by decide +kernel
theorem d_N_two_5 : decode c_N_two 5 = .ok (.iconst 4, 1) := by decide +kernel
theorem d_N_two_6 : decode c_N_two 6 = .ok (.if_icmp .le 13, 3) := by decide +kernel
theorem d_N_two_9 : decode c_N_two 9 = .ok (.new 103, 3) := by decide +kernel
theorem d_N_two_12 : decode c_N_two 12 = .ok (.dup, 1) := by decide +kernel
theorem d_N_two_13 : decode c_N_two 13 = .ok (.ldc 171, 2) := by decide +kernel
theorem d_N_two_15 : decode c_N_two 15 = .ok (.invokespecial 107, 3) := by decide +kernel
theorem d_N_two_18 : decode c_N_two 18 = .ok (.athrow, 1) := by decide +kernel
theorem d_N_two_19 : decode c_N_two 19 = .ok (.aload_n 0, 1) := by decide +kernel
theorem d_N_two_20 : decode c_N_two 20 = .ok (.iload_n 2, 1) := by decide +kernel
theorem d_N_two_21 : decode c_N_two 21 = .ok (.invokevirtual 128, 3) := by decide +kernel
theorem d_N_two_24 : decode c_N_two 24 = .ok (.aload_n 0, 1) := by decide +kernel
theorem d_N_two_25 : decode c_N_two 25 = .ok (.iload_n 3, 1) := by decide +kernel
theorem d_N_two_26 : decode c_N_two 26 = .ok (.invokevirtual 128, 3) := by decide +kernel
theorem d_N_two_29 : decode c_N_two 29 = .ok (.aload_n 0, 1) := by decide +kernel
theorem d_N_two_30 : decode c_N_two 30 = .ok (.invokevirtual 113, 3) := by decide +kernel
theorem d_N_two_33 : decode c_N_two 33 = .ok (.new 116, 3) := by decide +kernel
theorem d_N_two_36 : decode c_N_two 36 = .ok (.dup, 1) := by decide +kernel
theorem d_N_two_37 : decode c_N_two 37 = .ok (.bipush 9, 2) := by decide +kernel
theorem d_N_two_39 : decode c_N_two 39 = .ok (.invokespecial 118, 3) := by decide +kernel
theorem d_N_two_42 : decode c_N_two 42 = .ok (.astore 4, 2) := by decide +kernel
theorem d_N_two_44 : decode c_N_two 44 = .ok (.aload 4, 2) := by decide +kernel
theorem d_N_two_46 : decode c_N_two 46 = .ok (.iload_n 1, 1) := by decide +kernel
theorem d_N_two_47 : decode c_N_two 47 = .ok (.putfield 120, 3) := by decide +kernel
theorem d_N_two_50 : decode c_N_two 50 = .ok (.aload 4, 2) := by decide +kernel
theorem d_N_two_52 : decode c_N_two 52 = .ok (.iload_n 2, 1) := by decide +kernel
theorem d_N_two_53 : decode c_N_two 53 = .ok (.putfield 134, 3) := by decide +kernel
theorem d_N_two_56 : decode c_N_two 56 = .ok (.aload 4, 2) := by decide +kernel
theorem d_N_two_58 : decode c_N_two 58 = .ok (.iload_n 3, 1) := by decide +kernel
theorem d_N_two_59 : decode c_N_two 59 = .ok (.putfield 137, 3) := by decide +kernel
theorem d_N_two_62 : decode c_N_two 62 = .ok (.aload_n 0, 1) := by decide +kernel
theorem d_N_two_63 : decode c_N_two 63 = .ok (.getfield 19, 3) := by decide +kernel
theorem d_N_two_66 : decode c_N_two 66 = .ok (.aload 4, 2) := by decide +kernel
theorem d_N_two_68 : decode c_N_two 68 = .ok (.invokevirtual 124, 3) := by decide +kernel
theorem d_N_two_71 : decode c_N_two 71 = .ok (.ireturn, 1) := by decide +kernel
theorem d_N_call_0 : decode c_N_call 0 = .ok (.aload_n 0, 1) := by decide +kernel
theorem d_N_call_1 : decode c_N_call 1 = .ok (.iload_n 1, 1) := by decide +kernel
theorem d_N_call_2 : decode c_N_call 2 = .ok (.invokevirtual 128, 3) := by decide +kernel
theorem d_N_call_5 : decode c_N_call 5 = .ok (.aload_n 0, 1) := by decide +kernel
theorem d_N_call_6 : decode c_N_call 6 = .ok (.iload_n 2, 1) := by decide +kernel
theorem d_N_call_7 : decode c_N_call 7 = .ok (.invokevirtual 128, 3) := by decide +kernel
theorem d_N_call_10 : decode c_N_call 10 = .ok (.aload_n 0, 1) := by decide +kernel
theorem d_N_call_11 : decode c_N_call 11 = .ok (.invokevirtual 113, 3) := by decide +kernel
theorem d_N_call_14 : decode c_N_call 14 = .ok (.new 116, 3) := by decide +kernel
theorem d_N_call_17 : decode c_N_call 17 = .ok (.dup, 1) := by decide +kernel
theorem d_N_call_18 : decode c_N_call 18 = .ok (.bipush 10, 2) := by decide +kernel
theorem d_N_call_20 : decode c_N_call 20 = .ok (.invokespecial 118, 3) := by decide +kernel
theorem d_N_call_23 : decode c_N_call 23 = .ok (.astore_n 3, 1) := by decide +kernel
theorem d_N_call_24 : decode c_N_call 24 = .ok (.aload_n 3, 1) := by decide +kernel
theorem d_N_call_25 : decode c_N_call 25 = .ok (.iload_n 1, 1) := by decide +kernel
theorem d_N_call_26 : decode c_N_call 26 = .ok (.putfield 134, 3) := by decide +kernel
theorem d_N_call_29 : decode c_N_call 29 = .ok (.aload_n 3, 1) := by decide +kernel
theorem d_N_call_30 : decode c_N_call 30 = .ok (.iload_n 2, 1) := by decide +kernel
theorem d_N_call_31 : decode c_N_call 31 = .ok (.putfield 137, 3) := by decide +kernel
theorem d_N_call_34 : decode c_N_call 34 = .ok (.aload_n 0, 1) := by decide +kernel
theorem d_N_call_35 : decode c_N_call 35 = .ok (.getfield 19, 3) := by decide +kernel
theorem d_N_call_38 : decode c_N_call 38 = .ok (.aload_n 3, 1) := by decide +kernel
theorem d_N_call_39 : decode c_N_call 39 = .ok (.invokevirtual 124, 3) := by decide +kernel
theorem d_N_call_42 : decode c_N_call 42 = .ok (.ireturn, 1) := by decide +kernel
theorem d_N_perform_0 : decode c_N_perform 0 = .ok (.iload_n 1, 1) := by decide +kernel
theorem d_N_perform_1 : decode c_N_perform 1 = .ok (.invokestatic 100, 3) := by decide +kernel
theorem d_N_perform_4 : decode c_N_perform 4 = .ok (.aload_n 0, 1) := by decide +kernel
theorem d_N_perform_5 : decode c_N_perform 5 = .ok (.iload_n 2, 1) := by decide +kernel
theorem d_N_perform_6 : decode c_N_perform 6 = .ok (.invokevirtual 128, 3) := by decide +kernel
theorem d_N_perform_9 : decode c_N_perform 9 = .ok (.aload_n 0, 1) := by decide +kernel
theorem d_N_perform_10 : decode c_N_perform 10 = .ok (.invokevirtual 113, 3) := by decide +kernel
theorem d_N_perform_13 : decode c_N_perform 13 = .ok (.new 116, 3) := by decide +kernel
theorem d_N_perform_16 : decode c_N_perform 16 = .ok (.dup, 1) := by decide +kernel
theorem d_N_perform_17 : decode c_N_perform 17 = .ok (.bipush 11, 2) := by decide +kernel
theorem d_N_perform_19 : decode c_N_perform 19 = .ok (.invokespecial 118, 3) := by decide +kernel
theorem d_N_perform_22 : decode c_N_perform 22 = .ok (.astore_n 3, 1) := by decide +kernel
theorem d_N_perform_23 : decode c_N_perform 23 = .ok (.aload_n 3, 1) := by decide +kernel
theorem d_N_perform_24 : decode c_N_perform 24 = .ok (.iload_n 1, 1) := by decide +kernel
theorem d_N_perform_25 : decode c_N_perform 25 = .ok (.putfield 120, 3) := by decide +kernel
theorem d_N_perform_28 : decode c_N_perform 28 = .ok (.aload_n 3, 1) := by decide +kernel
theorem d_N_perform_29 : decode c_N_perform 29 = .ok (.iload_n 2, 1) := by decide +kernel
theorem d_N_perform_30 : decode c_N_perform 30 = .ok (.putfield 134, 3) := by decide +kernel
theorem d_N_perform_33 : decode c_N_perform 33 = .ok (.aload_n 0, 1) := by decide +kernel
theorem d_N_perform_34 : decode c_N_perform 34 = .ok (.getfield 19, 3) := by decide +kernel
theorem d_N_perform_37 : decode c_N_perform 37 = .ok (.aload_n 3, 1) := by decide +kernel
theorem d_N_perform_38 : decode c_N_perform 38 = .ok (.invokevirtual 124, 3) := by decide +kernel
theorem d_N_perform_41 : decode c_N_perform 41 = .ok (.ireturn, 1) := by decide +kernel
theorem d_N_check_0 : decode c_N_check 0 = .ok (.aload_n 0, 1) := by decide +kernel
theorem d_N_check_1 : decode c_N_check 1 = .ok (.iload_n 1, 1) := by decide +kernel
theorem d_N_check_2 : decode c_N_check 2 = .ok (.invokevirtual 128, 3) := by decide +kernel
theorem d_N_check_5 : decode c_N_check 5 = .ok (.aload_n 0, 1) := by decide +kernel
theorem d_N_check_6 : decode c_N_check 6 = .ok (.getfield 19, 3) := by decide +kernel
theorem d_N_check_9 : decode c_N_check 9 = .ok (.iload_n 1, 1) := by decide +kernel
theorem d_N_check_10 : decode c_N_check 10 = .ok (.invokevirtual 173, 3) := by decide +kernel
theorem d_N_check_13 : decode c_N_check 13 = .ok (.astore_n 2, 1) := by decide +kernel
theorem d_N_check_14 : decode c_N_check 14 = .ok (.aload_n 2, 1) := by decide +kernel
theorem d_N_check_15 : decode c_N_check 15 = .ok (.getfield 177, 3) := by decide +kernel
theorem d_N_check_18 : decode c_N_check 18 = .ok (.sipush 400, 3) := by decide +kernel
theorem d_N_check_21 : decode c_N_check 21 = .ok (.if_icmp .gt 12, 3) := by decide +kernel
theorem d_N_check_24 : decode c_N_check 24 = .ok (.aload_n 2, 1) := by decide +kernel
theorem d_N_check_25 : decode c_N_check 25 = .ok (.getfield 180, 3) := by decide +kernel
theorem d_N_check_28 : decode c_N_check 28 = .ok (.bipush 40, 2) := by decide +kernel
theorem d_N_check_30 : decode c_N_check 30 = .ok (.if_icmp .le 13, 3) := by decide +kernel
theorem d_N_check_33 : decode c_N_check 33 = .ok (.new 90, 3) := by decide +kernel
theorem d_N_check_36 : decode c_N_check 36 = .ok (.dup, 1) := by decide +kernel
theorem d_N_check_37 : decode c_N_check 37 = .ok (.ldc 183, 2) := by decide +kernel
theorem d_N_check_39 : decode c_N_check 39 = .ok (.invokespecial 94, 3) := by decide +kernel
theorem d_N_check_42 : decode c_N_check 42 = .ok (.athrow, 1) := by decide +kernel
theorem d_N_check_43 : decode c_N_check 43 = .ok (.aload_n 0, 1) := by decide +kernel
theorem d_N_check_44 : decode c_N_check 44 = .ok (.getfield 53, 3) := by decide +kernel
theorem d_N_check_47 : decode c_N_check 47 = .ok (.invokevirtual 73, 3) := by decide +kernel
theorem d_N_check_50 : decode c_N_check 50 = .ok (.aload_n 0, 1) := by decide +kernel
theorem d_N_check_51 : decode c_N_check 51 = .ok (.getfield 35, 3) := by decide +kernel
theorem d_N_check_54 : decode c_N_check 54 = .ok (.iload_n 1, 1) := by decide +kernel
theorem d_N_check_55 : decode c_N_check 55 = .ok (.invokevirtual 185, 3) := by decide +kernel
theorem d_N_check_58 : decode c_N_check 58 = .ok (.istore_n 3, 1) := by decide +kernel
theorem d_N_check_59 : decode c_N_check 59 = .ok (.iload_n 3, 1) := by decide +kernel
theorem d_N_check_60 : decode c_N_check 60 = .ok (.iconst (-1), 1) := by decide +kernel
theorem d_N_check_61 : decode c_N_check 61 = .ok (.if_icmp .ne 13, 3) := by decide +kernel
theorem d_N_check_64 : decode c_N_check 64 = .ok (.new 189, 3) := by decide +kernel
theorem d_N_check_67 : decode c_N_check 67 = .ok (.dup, 1) := by decide +kernel
theorem d_N_check_68 : decode c_N_check 68 = .ok (.ldc 191, 2) := by decide +kernel
theorem d_N_check_70 : decode c_N_check 70 = .ok (.invokespecial 193, 3) := by decide +kernel
theorem d_N_check_73 : decode c_N_check 73 = .ok (.athrow, 1) := by decide +kernel
theorem d_N_check_74 : decode c_N_check 74 = .ok (.aload_n 0, 1) := by decide +kernel
theorem d_N_check_75 : decode c_N_check 75 = .ok (.getfield 44, 3) := by decide +kernel
theorem d_N_check_78 : decode c_N_check 78 = .ok (.iload_n 1, 1) := by decide +kernel
theorem d_N_check_79 : decode c_N_check 79 = .ok (.invokevirtual 194, 3) := by decide +kernel
theorem d_N_check_82 : decode c_N_check 82 = .ok (.aload_n 0, 1) := by decide +kernel
theorem d_N_check_83 : decode c_N_check 83 = .ok (.getfield 53, 3) := by decide +kernel
theorem d_N_check_86 : decode c_N_check 86 = .ok (.iload_n 3, 1) := by decide +kernel
theorem d_N_check_87 : decode c_N_check 87 = .ok (.iconst 3, 1) := by decide +kernel
theorem d_N_check_88 : decode c_N_check 88 = .ok (.if_icmp .ge 7, 3) := by decide +kernel
theorem d_N_check_91 : decode c_N_check 91 = .ok (.iconst 1, 1) := by decide +kernel
theorem d_N_check_92 : decode c_N_check 92 = .ok (.goto 4, 3) := by decide +kernel
theorem d_N_check_95 : decode c_N_check 95 = .ok (.iconst 0, 1) := by decide +kernel
theorem d_N_check_96 : decode c_N_check 96 = .ok (.invokevirtual 197, 3) := by decide +kernel
theorem d_N_check_99 : decode c_N_check 99 = .ok (.iload_n 3, 1) := by decide +kernel
theorem d_N_check_100 : decode c_N_check 100 = .ok (.ireturn, 1) := by decide +kernel
theorem d_N_fault_0 : decode c_N_fault 0 = .ok (.iload_n 1, 1) := by decide +kernel
theorem d_N_fault_1 : decode c_N_fault 1 = .ok (.tableswitch 51 0 2 #[27, 35, 43], 27) := by decide +kernel
theorem d_N_fault_28 : decode c_N_fault 28 = .ok (.aload_n 0, 1) := by decide +kernel
theorem d_N_fault_29 : decode c_N_fault 29 = .ok (.getfield 35, 3) := by decide +kernel
theorem d_N_fault_32 : decode c_N_fault 32 = .ok (.getfield 201, 3) := by decide +kernel
theorem d_N_fault_35 : decode c_N_fault 35 = .ok (.ireturn, 1) := by decide +kernel
theorem d_N_fault_36 : decode c_N_fault 36 = .ok (.aload_n 0, 1) := by decide +kernel
theorem d_N_fault_37 : decode c_N_fault 37 = .ok (.getfield 35, 3) := by decide +kernel
theorem d_N_fault_40 : decode c_N_fault 40 = .ok (.getfield 204, 3) := by decide +kernel
theorem d_N_fault_43 : decode c_N_fault 43 = .ok (.ireturn, 1) := by decide +kernel
theorem d_N_fault_44 : decode c_N_fault 44 = .ok (.aload_n 0, 1) := by decide +kernel
theorem d_N_fault_45 : decode c_N_fault 45 = .ok (.getfield 35, 3) := by decide +kernel
theorem d_N_fault_48 : decode c_N_fault 48 = .ok (.getfield 207, 3) := by decide +kernel
theorem d_N_fault_51 : decode c_N_fault 51 = .ok (.ireturn, 1) := by decide +kernel
theorem d_N_fault_52 : decode c_N_fault 52 = .ok (.iconst (-1), 1) := by decide +kernel
theorem d_N_fault_53 : decode c_N_fault 53 = .ok (.ireturn, 1) := by decide +kernel
theorem d_N_type_0 : decode c_N_type 0 = .ok (.aload_n 0, 1) := by decide +kernel
theorem d_N_type_1 : decode c_N_type 1 = .ok (.getfield 10, 3) := by decide +kernel
theorem d_N_type_4 : decode c_N_type 4 = .ok (.iload_n 1, 1) := by decide +kernel
theorem d_N_type_5 : decode c_N_type 5 = .ok (.invokevirtual 140, 3) := by decide +kernel
theorem d_N_type_8 : decode c_N_type 8 = .ok (.ifCond .ne 5, 3) := by decide +kernel
theorem d_N_type_11 : decode c_N_type 11 = .ok (.iconst (-1), 1) := by decide +kernel
theorem d_N_type_12 : decode c_N_type 12 = .ok (.ireturn, 1) := by decide +kernel
theorem d_N_type_13 : decode c_N_type 13 = .ok (.iload_n 2, 1) := by decide +kernel
theorem d_N_type_14 : decode c_N_type 14 = .ok (.tableswitch 53 0 2 #[26, 35, 44], 26) := by decide +kernel
theorem d_N_type_40 : decode c_N_type 40 = .ok (.aload_n 0, 1) := by decide +kernel
theorem d_N_type_41 : decode c_N_type 41 = .ok (.getfield 10, 3) := by decide +kernel
theorem d_N_type_44 : decode c_N_type 44 = .ok (.iload_n 1, 1) := by decide +kernel
theorem d_N_type_45 : decode c_N_type 45 = .ok (.invokevirtual 210, 3) := by decide +kernel
theorem d_N_type_48 : decode c_N_type 48 = .ok (.ireturn, 1) := by decide +kernel
theorem d_N_type_49 : decode c_N_type 49 = .ok (.aload_n 0, 1) := by decide +kernel
theorem d_N_type_50 : decode c_N_type 50 = .ok (.getfield 10, 3) := by decide +kernel
theorem d_N_type_53 : decode c_N_type 53 = .ok (.iload_n 1, 1) := by decide +kernel
theorem d_N_type_54 : decode c_N_type 54 = .ok (.invokevirtual 213, 3) := by decide +kernel
theorem d_N_type_57 : decode c_N_type 57 = .ok (.ireturn, 1) := by decide +kernel
theorem d_N_type_58 : decode c_N_type 58 = .ok (.aload_n 0, 1) := by decide +kernel
theorem d_N_type_59 : decode c_N_type 59 = .ok (.getfield 10, 3) := by decide +kernel
theorem d_N_type_62 : decode c_N_type 62 = .ok (.iload_n 1, 1) := by decide +kernel
theorem d_N_type_63 : decode c_N_type 63 = .ok (.invokevirtual 216, 3) := by decide +kernel
theorem d_N_type_66 : decode c_N_type 66 = .ok (.ireturn, 1) := by decide +kernel
theorem d_N_type_67 : decode c_N_type 67 = .ok (.iconst (-1), 1) := by decide +kernel
theorem d_N_type_68 : decode c_N_type 68 = .ok (.ireturn, 1) := by decide +kernel
theorem d_N_fits_0 : decode c_N_fits 0 = .ok (.aload_n 0, 1) := by decide +kernel
theorem d_N_fits_1 : decode c_N_fits 1 = .ok (.getfield 10, 3) := by decide +kernel
theorem d_N_fits_4 : decode c_N_fits 4 = .ok (.iload_n 1, 1) := by decide +kernel
theorem d_N_fits_5 : decode c_N_fits 5 = .ok (.invokevirtual 219, 3) := by decide +kernel
theorem d_N_fits_8 : decode c_N_fits 8 = .ok (.ifCond .eq 30, 3) := by decide +kernel
theorem d_N_fits_11 : decode c_N_fits 11 = .ok (.aload_n 0, 1) := by decide +kernel
theorem d_N_fits_12 : decode c_N_fits 12 = .ok (.getfield 10, 3) := by decide +kernel
theorem d_N_fits_15 : decode c_N_fits 15 = .ok (.iload_n 2, 1) := by decide +kernel
theorem d_N_fits_16 : decode c_N_fits 16 = .ok (.invokevirtual 219, 3) := by decide +kernel
theorem d_N_fits_19 : decode c_N_fits 19 = .ok (.ifCond .eq 19, 3) := by decide +kernel
theorem d_N_fits_22 : decode c_N_fits 22 = .ok (.aload_n 0, 1) := by decide +kernel
theorem d_N_fits_23 : decode c_N_fits 23 = .ok (.getfield 10, 3) := by decide +kernel
theorem d_N_fits_26 : decode c_N_fits 26 = .ok (.iload_n 1, 1) := by decide +kernel
theorem d_N_fits_27 : decode c_N_fits 27 = .ok (.iload_n 2, 1) := by decide +kernel
theorem d_N_fits_28 : decode c_N_fits 28 = .ok (.invokevirtual 222, 3) := by decide +kernel
theorem d_N_fits_31 : decode c_N_fits 31 = .ok (.ifCond .eq 7, 3) := by decide +kernel
theorem d_N_fits_34 : decode c_N_fits 34 = .ok (.iconst 1, 1) := by decide +kernel
theorem d_N_fits_35 : decode c_N_fits 35 = .ok (.goto 4, 3) := by decide +kernel
theorem d_N_fits_38 : decode c_N_fits 38 = .ok (.iconst 0, 1) := by decide +kernel
theorem d_N_fits_39 : decode c_N_fits 39 = .ok (.ireturn, 1) := by decide +kernel
theorem d_N_start_0 : decode c_N_start 0 = .ok (.aload_n 0, 1) := by decide +kernel
theorem d_N_start_1 : decode c_N_start 1 = .ok (.getfield 53, 3) := by decide +kernel
theorem d_N_start_4 : decode c_N_start 4 = .ok (.getfield 226, 3) := by decide +kernel
theorem d_N_start_7 : decode c_N_start 7 = .ok (.ifCond .ne 13, 3) := by decide +kernel
theorem d_N_start_10 : decode c_N_start 10 = .ok (.new 90, 3) := by decide +kernel
theorem d_N_start_13 : decode c_N_start 13 = .ok (.dup, 1) := by decide +kernel
theorem d_N_start_14 : decode c_N_start 14 = .ok (.ldc 230, 2) := by decide +kernel
theorem d_N_start_16 : decode c_N_start 16 = .ok (.invokespecial 94, 3) := by decide +kernel
theorem d_N_start_19 : decode c_N_start 19 = .ok (.athrow, 1) := by decide +kernel
theorem d_N_start_20 : decode c_N_start 20 = .ok (.aload_n 0, 1) := by decide +kernel
theorem d_N_start_21 : decode c_N_start 21 = .ok (.getfield 53, 3) := by decide +kernel
theorem d_N_start_24 : decode c_N_start 24 = .ok (.invokevirtual 232, 3) := by decide +kernel
theorem d_N_start_27 : decode c_N_start 27 = .ok (.return_, 1) := by decide +kernel
theorem d_N_run_0 : decode c_N_run 0 = .ok (.aload_n 0, 1) := by decide +kernel
theorem d_N_run_1 : decode c_N_run 1 = .ok (.getfield 53, 3) := by decide +kernel
theorem d_N_run_4 : decode c_N_run 4 = .ok (.getfield 235, 3) := by decide +kernel
theorem d_N_run_7 : decode c_N_run 7 = .ok (.ifCond .ne 13, 3) := by decide +kernel
theorem d_N_run_10 : decode c_N_run 10 = .ok (.new 90, 3) := by decide +kernel
theorem d_N_run_13 : decode c_N_run 13 = .ok (.dup, 1) := by decide +kernel
theorem d_N_run_14 : decode c_N_run 14 = .ok (.ldc 238, 2) := by decide +kernel
theorem d_N_run_16 : decode c_N_run 16 = .ok (.invokespecial 94, 3) := by decide +kernel
theorem d_N_run_19 : decode c_N_run 19 = .ok (.athrow, 1) := by decide +kernel
theorem d_N_run_20 : decode c_N_run 20 = .ok (.iload_n 1, 1) := by decide +kernel
theorem d_N_run_21 : decode c_N_run 21 = .ok (.ifCond .lt 10, 3) := by decide +kernel
theorem d_N_run_24 : decode c_N_run 24 = .ok (.iload_n 1, 1) := by decide +kernel
theorem d_N_run_25 : decode c_N_run 25 = .ok (.sipush 200, 3) := by decide +kernel
theorem d_N_run_28 : decode c_N_run 28 = .ok (.if_icmp .le 13, 3) := by decide +kernel
theorem d_N_run_31 : decode c_N_run 31 = .ok (.new 189, 3) := by decide +kernel
theorem d_N_run_34 : decode c_N_run 34 = .ok (.dup, 1) := by decide +kernel
theorem d_N_run_35 : decode c_N_run 35 = .ok (.ldc 240, 2) := by decide +kernel
theorem d_N_run_37 : decode c_N_run 37 = .ok (.invokespecial 193, 3) := by decide +kernel
theorem d_N_run_40 : decode c_N_run 40 = .ok (.athrow, 1) := by decide +kernel
theorem d_N_run_41 : decode c_N_run 41 = .ok (.aload_n 0, 1) := by decide +kernel
theorem d_N_run_42 : decode c_N_run 42 = .ok (.getfield 53, 3) := by decide +kernel
theorem d_N_run_45 : decode c_N_run 45 = .ok (.iload_n 1, 1) := by decide +kernel
theorem d_N_run_46 : decode c_N_run 46 = .ok (.invokevirtual 242, 3) := by decide +kernel
theorem d_N_run_49 : decode c_N_run 49 = .ok (.ireturn, 1) := by decide +kernel
theorem d_N_state_0 : decode c_N_state 0 = .ok (.iload_n 1, 1) := by decide +kernel
theorem d_N_state_1 : decode c_N_state 1 = .ok (.tableswitch 87 0 5 #[39, 47, 55, 63, 71, 79], 39) := by decide +kernel
theorem d_N_state_40 : decode c_N_state 40 = .ok (.aload_n 0, 1) := by decide +kernel
theorem d_N_state_41 : decode c_N_state 41 = .ok (.getfield 53, 3) := by decide +kernel
theorem d_N_state_44 : decode c_N_state 44 = .ok (.getfield 235, 3) := by decide +kernel
theorem d_N_state_47 : decode c_N_state 47 = .ok (.ireturn, 1) := by decide +kernel
theorem d_N_state_48 : decode c_N_state 48 = .ok (.aload_n 0, 1) := by decide +kernel
theorem d_N_state_49 : decode c_N_state 49 = .ok (.getfield 53, 3) := by decide +kernel
theorem d_N_state_52 : decode c_N_state 52 = .ok (.getfield 245, 3) := by decide +kernel
theorem d_N_state_55 : decode c_N_state 55 = .ok (.ireturn, 1) := by decide +kernel
theorem d_N_state_56 : decode c_N_state 56 = .ok (.aload_n 0, 1) := by decide +kernel
theorem d_N_state_57 : decode c_N_state 57 = .ok (.getfield 53, 3) := by decide +kernel
theorem d_N_state_60 : decode c_N_state 60 = .ok (.getfield 246, 3) := by decide +kernel
theorem d_N_state_63 : decode c_N_state 63 = .ok (.ireturn, 1) := by decide +kernel
theorem d_N_state_64 : decode c_N_state 64 = .ok (.aload_n 0, 1) := by decide +kernel
theorem d_N_state_65 : decode c_N_state 65 = .ok (.getfield 53, 3) := by decide +kernel
theorem d_N_state_68 : decode c_N_state 68 = .ok (.getfield 249, 3) := by decide +kernel
theorem d_N_state_71 : decode c_N_state 71 = .ok (.ireturn, 1) := by decide +kernel
theorem d_N_state_72 : decode c_N_state 72 = .ok (.aload_n 0, 1) := by decide +kernel
theorem d_N_state_73 : decode c_N_state 73 = .ok (.getfield 53, 3) := by decide +kernel
theorem d_N_state_76 : decode c_N_state 76 = .ok (.getfield 252, 3) := by decide +kernel
theorem d_N_state_79 : decode c_N_state 79 = .ok (.ireturn, 1) := by decide +kernel
theorem d_N_state_80 : decode c_N_state 80 = .ok (.aload_n 0, 1) := by decide +kernel
theorem d_N_state_81 : decode c_N_state 81 = .ok (.getfield 53, 3) := by decide +kernel
theorem d_N_state_84 : decode c_N_state 84 = .ok (.getfield 255, 3) := by decide +kernel
theorem d_N_state_87 : decode c_N_state 87 = .ok (.ireturn, 1) := by decide +kernel
theorem d_N_state_88 : decode c_N_state 88 = .ok (.iconst (-1), 1) := by decide +kernel
theorem d_N_state_89 : decode c_N_state 89 = .ok (.ireturn, 1) := by decide +kernel
theorem d_N_needType_0 : decode c_N_needType 0 = .ok (.aload_n 0, 1) := by decide +kernel
theorem d_N_needType_1 : decode c_N_needType 1 = .ok (.getfield 10, 3) := by decide +kernel
theorem d_N_needType_4 : decode c_N_needType 4 = .ok (.iload_n 1, 1) := by decide +kernel
theorem d_N_needType_5 : decode c_N_needType 5 = .ok (.invokevirtual 219, 3) := by decide +kernel
theorem d_N_needType_8 : decode c_N_needType 8 = .ok (.ifCond .ne 14, 3) := by decide +kernel
theorem d_N_needType_11 : decode c_N_needType 11 = .ok (.new 103, 3) := by decide +kernel
theorem d_N_needType_14 : decode c_N_needType 14 = .ok (.dup, 1) := by decide +kernel
theorem d_N_needType_15 : decode c_N_needType 15 = .ok (.ldc_w 258, 3) := by decide +kernel
theorem d_N_needType_18 : decode c_N_needType 18 = .ok (.invokespecial 107, 3) := by decide +kernel
theorem d_N_needType_21 : decode c_N_needType 21 = .ok (.athrow, 1) := by decide +kernel
theorem d_N_needType_22 : decode c_N_needType 22 = .ok (.return_, 1) := by decide +kernel
theorem d_N_needNode_0 : decode c_N_needNode 0 = .ok (.aload_n 0, 1) := by decide +kernel
theorem d_N_needNode_1 : decode c_N_needNode 1 = .ok (.getfield 19, 3) := by decide +kernel
theorem d_N_needNode_4 : decode c_N_needNode 4 = .ok (.iload_n 1, 1) := by decide +kernel
theorem d_N_needNode_5 : decode c_N_needNode 5 = .ok (.invokevirtual 260, 3) := by decide +kernel
theorem d_N_needNode_8 : decode c_N_needNode 8 = .ok (.ifCond .ne 14, 3) := by decide +kernel
theorem d_N_needNode_11 : decode c_N_needNode 11 = .ok (.new 103, 3) := by decide +kernel
theorem d_N_needNode_14 : decode c_N_needNode 14 = .ok (.dup, 1) := by decide +kernel
theorem d_N_needNode_15 : decode c_N_needNode 15 = .ok (.ldc_w 263, 3) := by decide +kernel
theorem d_N_needNode_18 : decode c_N_needNode 18 = .ok (.invokespecial 107, 3) := by decide +kernel
theorem d_N_needNode_21 : decode c_N_needNode 21 = .ok (.athrow, 1) := by decide +kernel
theorem d_N_needNode_22 : decode c_N_needNode 22 = .ok (.return_, 1) := by decide +kernel
theorem d_N_needRoom_0 : decode c_N_needRoom 0 = .ok (.aload_n 0, 1) := by decide +kernel
theorem d_N_needRoom_1 : decode c_N_needRoom 1 = .ok (.getfield 19, 3) := by decide +kernel
theorem d_N_needRoom_4 : decode c_N_needRoom 4 = .ok (.invokevirtual 265, 3) := by decide +kernel
theorem d_N_needRoom_7 : decode c_N_needRoom 7 = .ok (.ifCond .ne 14, 3) := by decide +kernel
theorem d_N_needRoom_10 : decode c_N_needRoom 10 = .ok (.new 90, 3) := by decide +kernel
theorem d_N_needRoom_13 : decode c_N_needRoom 13 = .ok (.dup, 1) := by decide +kernel
theorem d_N_needRoom_14 : decode c_N_needRoom 14 = .ok (.ldc_w 268, 3) := by decide +kernel
theorem d_N_needRoom_17 : decode c_N_needRoom 17 = .ok (.invokespecial 94, 3) := by decide +kernel
theorem d_N_needRoom_20 : decode c_N_needRoom 20 = .ok (.athrow, 1) := by decide +kernel
theorem d_N_needRoom_21 : decode c_N_needRoom 21 = .ok (.return_, 1) := by decide +kernel
theorem d_N_needRow_0 : decode c_N_needRow 0 = .ok (.iload_n 0, 1) := by decide +kernel
theorem d_N_needRow_1 : decode c_N_needRow 1 = .ok (.ifCond .lt 10, 3) := by decide +kernel
theorem d_N_needRow_4 : decode c_N_needRow 4 = .ok (.iload_n 0, 1) := by decide +kernel
theorem d_N_needRow_5 : decode c_N_needRow 5 = .ok (.sipush 255, 3) := by decide +kernel
theorem d_N_needRow_8 : decode c_N_needRow 8 = .ok (.if_icmp .le 14, 3) := by decide +kernel
theorem d_N_needRow_11 : decode c_N_needRow 11 = .ok (.new 103, 3) := by decide +kernel
theorem d_N_needRow_14 : decode c_N_needRow 14 = .ok (.dup, 1) := by decide +kernel
theorem d_N_needRow_15 : decode c_N_needRow 15 = .ok (.ldc_w 270, 3) := by decide +kernel
theorem d_N_needRow_18 : decode c_N_needRow 18 = .ok (.invokespecial 107, 3) := by decide +kernel
theorem d_N_needRow_21 : decode c_N_needRow 21 = .ok (.athrow, 1) := by decide +kernel
theorem d_N_needRow_22 : decode c_N_needRow 22 = .ok (.return_, 1) := by decide +kernel
theorem d_N_needName_0 : decode c_N_needName 0 = .ok (.iload_n 0, 1) := by decide +kernel
theorem d_N_needName_1 : decode c_N_needName 1 = .ok (.ifCond .lt 9, 3) := by decide +kernel
theorem d_N_needName_4 : decode c_N_needName 4 = .ok (.iload_n 0, 1) := by decide +kernel
theorem d_N_needName_5 : decode c_N_needName 5 = .ok (.bipush 10, 2) := by decide +kernel
theorem d_N_needName_7 : decode c_N_needName 7 = .ok (.if_icmp .lt 14, 3) := by decide +kernel
theorem d_N_needName_10 : decode c_N_needName 10 = .ok (.new 103, 3) := by decide +kernel
theorem d_N_needName_13 : decode c_N_needName 13 = .ok (.dup, 1) := by decide +kernel
theorem d_N_needName_14 : decode c_N_needName 14 = .ok (.ldc_w 272, 3) := by decide +kernel
theorem d_N_needName_17 : decode c_N_needName 17 = .ok (.invokespecial 107, 3) := by decide +kernel
theorem d_N_needName_20 : decode c_N_needName 20 = .ok (.athrow, 1) := by decide +kernel
theorem d_N_needName_21 : decode c_N_needName 21 = .ok (.return_, 1) := by decide +kernel
theorem d_N_needEffect_0 : decode c_N_needEffect 0 = .ok (.iload_n 0, 1) := by decide +kernel
theorem d_N_needEffect_1 : decode c_N_needEffect 1 = .ok (.ifCond .lt 9, 3) := by decide +kernel
theorem d_N_needEffect_4 : decode c_N_needEffect 4 = .ok (.iload_n 0, 1) := by decide +kernel
theorem d_N_needEffect_5 : decode c_N_needEffect 5 = .ok (.bipush 8, 2) := by decide +kernel
theorem d_N_needEffect_7 : decode c_N_needEffect 7 = .ok (.if_icmp .lt 14, 3) := by decide +kernel
theorem d_N_needEffect_10 : decode c_N_needEffect 10 = .ok (.new 103, 3) := by decide +kernel
theorem d_N_needEffect_13 : decode c_N_needEffect 13 = .ok (.dup, 1) := by decide +kernel
theorem d_N_needEffect_14 : decode c_N_needEffect 14 = .ok (.ldc_w 274, 3) := by decide +kernel
theorem d_N_needEffect_17 : decode c_N_needEffect 17 = .ok (.invokespecial 107, 3) := by decide +kernel
theorem d_N_needEffect_20 : decode c_N_needEffect 20 = .ok (.athrow, 1) := by decide +kernel
theorem d_N_needEffect_21 : decode c_N_needEffect 21 = .ok (.return_, 1) := by decide +kernel
theorem d_N_isWithin_0 : decode c_N_isWithin 0 = .ok (.iload_n 0, 1) := by decide +kernel
theorem d_N_isWithin_1 : decode c_N_isWithin 1 = .ok (.iload_n 1, 1) := by decide +kernel
theorem d_N_isWithin_2 : decode c_N_isWithin 2 = .ok (.iconst (-1), 1) := by decide +kernel
theorem d_N_isWithin_3 : decode c_N_isWithin 3 = .ok (.ixor, 1) := by decide +kernel
theorem d_N_isWithin_4 : decode c_N_isWithin 4 = .ok (.iand, 1) := by decide +kernel
theorem d_N_isWithin_5 : decode c_N_isWithin 5 = .ok (.ifCond .ne 7, 3) := by decide +kernel
theorem d_N_isWithin_8 : decode c_N_isWithin 8 = .ok (.iconst 1, 1) := by decide +kernel
theorem d_N_isWithin_9 : decode c_N_isWithin 9 = .ok (.goto 4, 3) := by decide +kernel
theorem d_N_isWithin_12 : decode c_N_isWithin 12 = .ok (.iconst 0, 1) := by decide +kernel
theorem d_N_isWithin_13 : decode c_N_isWithin 13 = .ok (.ireturn, 1) := by decide +kernel
theorem d_Ck_init_0 : decode c_Ck_init 0 = .ok (.aload_n 0, 1) := by decide +kernel
theorem d_Ck_init_1 : decode c_Ck_init 1 = .ok (.invokespecial 3, 3) := by decide +kernel
theorem d_Ck_init_4 : decode c_Ck_init 4 = .ok (.aload_n 0, 1) := by decide +kernel
theorem d_Ck_init_5 : decode c_Ck_init 5 = .ok (.bipush 10, 2) := by decide +kernel
theorem d_Ck_init_7 : decode c_Ck_init 7 = .ok (.newarray .int, 2) := by decide +kernel
theorem d_Ck_init_9 : decode c_Ck_init 9 = .ok (.putfield 9, 3) := by decide +kernel
theorem d_Ck_init_12 : decode c_Ck_init 12 = .ok (.aload_n 0, 1) := by decide +kernel
theorem d_Ck_init_13 : decode c_Ck_init 13 = .ok (.aload_n 1, 1) := by decide +kernel
theorem d_Ck_init_14 : decode c_Ck_init 14 = .ok (.putfield 15, 3) := by decide +kernel
theorem d_Ck_init_17 : decode c_Ck_init 17 = .ok (.aload_n 0, 1) := by decide +kernel
theorem d_Ck_init_18 : decode c_Ck_init 18 = .ok (.aload_n 2, 1) := by decide +kernel
theorem d_Ck_init_19 : decode c_Ck_init 19 = .ok (.putfield 19, 3) := by decide +kernel
theorem d_Ck_init_22 : decode c_Ck_init 22 = .ok (.aload_n 0, 1) := by decide +kernel
theorem d_Ck_init_23 : decode c_Ck_init 23 = .ok (.aload_n 3, 1) := by decide +kernel
theorem d_Ck_init_24 : decode c_Ck_init 24 = .ok (.putfield 23, 3) := by decide +kernel
theorem d_Ck_init_27 : decode c_Ck_init 27 = .ok (.aload_n 0, 1) := by decide +kernel
theorem d_Ck_init_28 : decode c_Ck_init 28 = .ok (.aload 4, 2) := by decide +kernel
theorem d_Ck_init_30 : decode c_Ck_init 30 = .ok (.putfield 26, 3) := by decide +kernel
theorem d_Ck_init_33 : decode c_Ck_init 33 = .ok (.aload_n 0, 1) := by decide +kernel
theorem d_Ck_init_34 : decode c_Ck_init 34 = .ok (.iconst (-1), 1) := by decide +kernel
theorem d_Ck_init_35 : decode c_Ck_init 35 = .ok (.putfield 29, 3) := by decide +kernel
theorem d_Ck_init_38 : decode c_Ck_init 38 = .ok (.return_, 1) := by decide +kernel
theorem d_Ck_forget_0 : decode c_Ck_forget 0 = .ok (.aload_n 0, 1) := by decide +kernel
theorem d_Ck_forget_1 : decode c_Ck_forget 1 = .ok (.iconst 0, 1) := by decide +kernel
theorem d_Ck_forget_2 : decode c_Ck_forget 2 = .ok (.putfield 33, 3) := by decide +kernel
theorem d_Ck_forget_5 : decode c_Ck_forget 5 = .ok (.aload_n 0, 1) := by decide +kernel
theorem d_Ck_forget_6 : decode c_Ck_forget 6 = .ok (.iconst (-1), 1) := by decide +kernel
theorem d_Ck_forget_7 : decode c_Ck_forget 7 = .ok (.putfield 29, 3) := by decide +kernel
theorem d_Ck_forget_10 : decode c_Ck_forget 10 = .ok (.aload_n 0, 1) := by decide +kernel
theorem d_Ck_forget_11 : decode c_Ck_forget 11 = .ok (.iconst 0, 1) := by decide +kernel
theorem d_Ck_forget_12 : decode c_Ck_forget 12 = .ok (.putfield 36, 3) := by decide +kernel
theorem d_Ck_forget_15 : decode c_Ck_forget 15 = .ok (.return_, 1) := by decide +kernel
theorem d_Ck_examine_0 : decode c_Ck_examine 0 = .ok (.aload_n 0, 1) := by decide +kernel
theorem d_Ck_examine_1 : decode c_Ck_examine 1 = .ok (.invokevirtual 39, 3) := by decide +kernel
theorem d_Ck_examine_4 : decode c_Ck_examine 4 = .ok (.aload_n 0, 1) := by decide +kernel
theorem d_Ck_examine_5 : decode c_Ck_examine 5 = .ok (.getfield 9, 3) := by decide +kernel
theorem d_Ck_examine_8 : decode c_Ck_examine 8 = .ok (.iconst (-1), 1) := by decide +kernel
theorem d_Ck_examine_9 : decode c_Ck_examine 9 = .ok (.invokestatic 42, 3) := by decide +kernel
theorem d_Ck_examine_12 : decode c_Ck_examine 12 = .ok (.aload_n 0, 1) := by decide +kernel
theorem d_Ck_examine_13 : decode c_Ck_examine 13 = .ok (.getfield 19, 3) := by decide +kernel
theorem d_Ck_examine_16 : decode c_Ck_examine 16 = .ok (.invokevirtual 48, 3) := by decide +kernel
theorem d_Ck_examine_19 : decode c_Ck_examine 19 = .ok (.istore_n 2, 1) := by decide +kernel
theorem d_Ck_examine_20 : decode c_Ck_examine 20 = .ok (.aload_n 0, 1) := by decide +kernel
theorem d_Ck_examine_21 : decode c_Ck_examine 21 = .ok (.iload_n 1, 1) := by decide +kernel
theorem d_Ck_examine_22 : decode c_Ck_examine 22 = .ok (.iconst 1, 1) := by decide +kernel
theorem d_Ck_examine_23 : decode c_Ck_examine 23 = .ok (.invokevirtual 54, 3) := by decide +kernel
theorem d_Ck_examine_26 : decode c_Ck_examine 26 = .ok (.istore_n 3, 1) := by decide +kernel
theorem d_Ck_examine_27 : decode c_Ck_examine 27 = .ok (.iload_n 3, 1) := by decide +kernel
theorem d_Ck_examine_28 : decode c_Ck_examine 28 = .ok (.iconst (-1), 1) := by decide +kernel
theorem d_Ck_examine_29 : decode c_Ck_examine 29 = .ok (.if_icmp .eq 23, 3) := by decide +kernel
theorem d_Ck_examine_32 : decode c_Ck_examine 32 = .ok (.aload_n 0, 1) := by decide +kernel
theorem d_Ck_examine_33 : decode c_Ck_examine 33 = .ok (.getfield 19, 3) := by decide +kernel
theorem d_Ck_examine_36 : decode c_Ck_examine 36 = .ok (.invokevirtual 48, 3) := by decide +kernel
theorem d_Ck_examine_39 : decode c_Ck_examine 39 = .ok (.bipush 60, 2) := by decide +kernel
theorem d_Ck_examine_41 : decode c_Ck_examine 41 = .ok (.if_icmp .le 11, 3) := by decide +kernel
theorem d_Ck_examine_44 : decode c_Ck_examine 44 = .ok (.aload_n 0, 1) := by decide +kernel
theorem d_Ck_examine_45 : decode c_Ck_examine 45 = .ok (.bipush 9, 2) := by decide +kernel
theorem d_Ck_examine_47 : decode c_Ck_examine 47 = .ok (.iconst (-1), 1) := by decide +kernel
theorem d_Ck_examine_48 : decode c_Ck_examine 48 = .ok (.invokevirtual 58, 3) := by decide +kernel
theorem d_Ck_examine_51 : decode c_Ck_examine 51 = .ok (.istore_n 3, 1) := by decide +kernel
theorem d_Ck_examine_52 : decode c_Ck_examine 52 = .ok (.iload_n 3, 1) := by decide +kernel
theorem d_Ck_examine_53 : decode c_Ck_examine 53 = .ok (.iconst (-1), 1) := by decide +kernel
theorem d_Ck_examine_54 : decode c_Ck_examine 54 = .ok (.if_icmp .ne 20, 3) := by decide +kernel
theorem d_Ck_examine_57 : decode c_Ck_examine 57 = .ok (.aload_n 0, 1) := by decide +kernel
theorem d_Ck_examine_58 : decode c_Ck_examine 58 = .ok (.getfield 19, 3) := by decide +kernel
theorem d_Ck_examine_61 : decode c_Ck_examine 61 = .ok (.iconst 3, 1) := by decide +kernel
theorem d_Ck_examine_62 : decode c_Ck_examine 62 = .ok (.iload_n 2, 1) := by decide +kernel
theorem d_Ck_examine_63 : decode c_Ck_examine 63 = .ok (.iadd, 1) := by decide +kernel
theorem d_Ck_examine_64 : decode c_Ck_examine 64 = .ok (.invokevirtual 61, 3) := by decide +kernel
theorem d_Ck_examine_67 : decode c_Ck_examine 67 = .ok (.aload_n 0, 1) := by decide +kernel
theorem d_Ck_examine_68 : decode c_Ck_examine 68 = .ok (.iconst (-1), 1) := by decide +kernel
theorem d_Ck_examine_69 : decode c_Ck_examine 69 = .ok (.putfield 36, 3) := by decide +kernel
theorem d_Ck_examine_72 : decode c_Ck_examine 72 = .ok (.iconst (-1), 1) := by decide +kernel
theorem d_Ck_examine_73 : decode c_Ck_examine 73 = .ok (.ireturn, 1) := by decide +kernel
theorem d_Ck_examine_74 : decode c_Ck_examine 74 = .ok (.aload_n 0, 1) := by decide +kernel
theorem d_Ck_examine_75 : decode c_Ck_examine 75 = .ok (.iload_n 3, 1) := by decide +kernel
theorem d_Ck_examine_76 : decode c_Ck_examine 76 = .ok (.invokestatic 65, 3) := by decide +kernel
theorem d_Ck_examine_79 : decode c_Ck_examine 79 = .ok (.putfield 36, 3) := by decide +kernel
theorem d_Ck_examine_82 : decode c_Ck_examine 82 = .ok (.iload_n 3, 1) := by decide +kernel
theorem d_Ck_examine_83 : decode c_Ck_examine 83 = .ok (.invokestatic 69, 3) := by decide +kernel
theorem d_Ck_examine_86 : decode c_Ck_examine 86 = .ok (.ireturn, 1) := by decide +kernel
theorem d_Ck_seenAs_0 : decode c_Ck_seenAs 0 = .ok (.iload_n 0, 1) := by decide +kernel
theorem d_Ck_seenAs_1 : decode c_Ck_seenAs 1 = .ok (.sipush 256, 3) := by decide +kernel
theorem d_Ck_seenAs_4 : decode c_Ck_seenAs 4 = .ok (.imul, 1) := by decide +kernel
theorem d_Ck_seenAs_5 : decode c_Ck_seenAs 5 = .ok (.iload_n 1, 1) := by decide +kernel
theorem d_Ck_seenAs_6 : decode c_Ck_seenAs 6 = .ok (.iadd, 1) := by decide +kernel
theorem d_Ck_seenAs_7 : decode c_Ck_seenAs 7 = .ok (.ireturn, 1) := by decide +kernel
theorem d_Ck_typeIn_0 : decode c_Ck_typeIn 0 = .ok (.iload_n 0, 1) := by decide +kernel
theorem d_Ck_typeIn_1 : decode c_Ck_typeIn 1 = .ok (.sipush 256, 3) := by decide +kernel
theorem d_Ck_typeIn_4 : decode c_Ck_typeIn 4 = .ok (.idiv, 1) := by decide +kernel
theorem d_Ck_typeIn_5 : decode c_Ck_typeIn 5 = .ok (.ireturn, 1) := by decide +kernel
theorem d_Ck_effectsIn_0 : decode c_Ck_effectsIn 0 = .ok (.iload_n 0, 1) := by decide +kernel
theorem d_Ck_effectsIn_1 : decode c_Ck_effectsIn 1 = .ok (.sipush 255, 3) := by decide +kernel
theorem d_Ck_effectsIn_4 : decode c_Ck_effectsIn 4 = .ok (.iand, 1) := by decide +kernel
theorem d_Ck_effectsIn_5 : decode c_Ck_effectsIn 5 = .ok (.ireturn, 1) := by decide +kernel
theorem d_Ck_blame_0 : decode c_Ck_blame 0 = .ok (.aload_n 0, 1) := by decide +kernel
theorem d_Ck_blame_1 : decode c_Ck_blame 1 = .ok (.iload_n 1, 1) := by decide +kernel
theorem d_Ck_blame_2 : decode c_Ck_blame 2 = .ok (.putfield 33, 3) := by decide +kernel
theorem d_Ck_blame_5 : decode c_Ck_blame 5 = .ok (.aload_n 0, 1) := by decide +kernel
theorem d_Ck_blame_6 : decode c_Ck_blame 6 = .ok (.iload_n 2, 1) := by decide +kernel
theorem d_Ck_blame_7 : decode c_Ck_blame 7 = .ok (.putfield 29, 3) := by decide +kernel
theorem d_Ck_blame_10 : decode c_Ck_blame 10 = .ok (.iconst (-1), 1) := by decide +kernel
theorem d_Ck_blame_11 : decode c_Ck_blame 11 = .ok (.ireturn, 1) := by decide +kernel
theorem d_Ck_rename_0 : decode c_Ck_rename 0 = .ok (.iload_n 1, 1) := by decide +kernel
theorem d_Ck_rename_1 : decode c_Ck_rename 1 = .ok (.ifCond .lt 9, 3) := by decide +kernel
theorem d_Ck_rename_4 : decode c_Ck_rename 4 = .ok (.iload_n 1, 1) := by decide +kernel
theorem d_Ck_rename_5 : decode c_Ck_rename 5 = .ok (.bipush 10, 2) := by decide +kernel
theorem d_Ck_rename_7 : decode c_Ck_rename 7 = .ok (.if_icmp .lt 5, 3) := by decide +kernel
theorem d_Ck_rename_10 : decode c_Ck_rename 10 = .ok (.iconst (-1), 1) := by decide +kernel
theorem d_Ck_rename_11 : decode c_Ck_rename 11 = .ok (.ireturn, 1) := by decide +kernel
theorem d_Ck_rename_12 : decode c_Ck_rename 12 = .ok (.aload_n 0, 1) := by decide +kernel
theorem d_Ck_rename_13 : decode c_Ck_rename 13 = .ok (.getfield 9, 3) := by decide +kernel
theorem d_Ck_rename_16 : decode c_Ck_rename 16 = .ok (.iload_n 1, 1) := by decide +kernel
theorem d_Ck_rename_17 : decode c_Ck_rename 17 = .ok (.iaload, 1) := by decide +kernel
theorem d_Ck_rename_18 : decode c_Ck_rename 18 = .ok (.istore_n 3, 1) := by decide +kernel
theorem d_Ck_rename_19 : decode c_Ck_rename 19 = .ok (.aload_n 0, 1) := by decide +kernel
theorem d_Ck_rename_20 : decode c_Ck_rename 20 = .ok (.getfield 9, 3) := by decide +kernel
theorem d_Ck_rename_23 : decode c_Ck_rename 23 = .ok (.iload_n 1, 1) := by decide +kernel
theorem d_Ck_rename_24 : decode c_Ck_rename 24 = .ok (.iload_n 2, 1) := by decide +kernel
theorem d_Ck_rename_25 : decode c_Ck_rename 25 = .ok (.iastore, 1) := by decide +kernel
theorem d_Ck_rename_26 : decode c_Ck_rename 26 = .ok (.iload_n 3, 1) := by decide +kernel
theorem d_Ck_rename_27 : decode c_Ck_rename 27 = .ok (.ireturn, 1) := by decide +kernel
theorem d_Ck_look_0 : decode c_Ck_look 0 = .ok (.iload_n 2, 1) := by decide +kernel
theorem d_Ck_look_1 : decode c_Ck_look 1 = .ok (.bipush 40, 2) := by decide +kernel
theorem d_Ck_look_3 : decode c_Ck_look 3 = .ok (.if_icmp .le 5, 3) := by decide +kernel
theorem d_Ck_look_6 : decode c_Ck_look 6 = .ok (.iconst (-1), 1) := by decide +kernel
theorem d_Ck_look_7 : decode c_Ck_look 7 = .ok (.ireturn, 1) := by decide +kernel
theorem d_Ck_look_8 : decode c_Ck_look 8 = .ok (.aload_n 0, 1) := by decide +kernel
theorem d_Ck_look_9 : decode c_Ck_look 9 = .ok (.getfield 15, 3) := by decide +kernel
theorem d_Ck_look_12 : decode c_Ck_look 12 = .ok (.iload_n 1, 1) := by decide +kernel
theorem d_Ck_look_13 : decode c_Ck_look 13 = .ok (.invokevirtual 72, 3) := by decide +kernel
theorem d_Ck_look_16 : decode c_Ck_look 16 = .ok (.astore_n 3, 1) := by decide +kernel
theorem d_Ck_look_17 : decode c_Ck_look 17 = .ok (.aload_n 3, 1) := by decide +kernel
theorem d_Ck_look_18 : decode c_Ck_look 18 = .ok (.getfield 78, 3) := by decide +kernel
theorem d_Ck_look_21 : decode c_Ck_look 21 = .ok (.tableswitch 138 0 11 #[63, 69, 138, 75, 82, 89, 96, 103, 110, 117, 124, 131], 63) := by decide +kernel
theorem d_Ck_look_84 : decode c_Ck_look 84 = .ok (.iconst 0, 1) := by decide +kernel
theorem d_Ck_look_85 : decode c_Ck_look 85 = .ok (.iconst 0, 1) := by decide +kernel
theorem d_Ck_look_86 : decode c_Ck_look 86 = .ok (.invokestatic 83, 3) := by decide +kernel
theorem d_Ck_look_89 : decode c_Ck_look 89 = .ok (.ireturn, 1) := by decide +kernel
theorem d_Ck_look_90 : decode c_Ck_look 90 = .ok (.iconst 1, 1) := by decide +kernel
theorem d_Ck_look_91 : decode c_Ck_look 91 = .ok (.iconst 0, 1) := by decide +kernel
theorem d_Ck_look_92 : decode c_Ck_look 92 = .ok (.invokestatic 83, 3) := by decide +kernel
theorem d_Ck_look_95 : decode c_Ck_look 95 = .ok (.ireturn, 1) := by decide +kernel
theorem d_Ck_look_96 : decode c_Ck_look 96 = .ok (.aload_n 0, 1) := by decide +kernel
theorem d_Ck_look_97 : decode c_Ck_look 97 = .ok (.aload_n 3, 1) := by decide +kernel
theorem d_Ck_look_98 : decode c_Ck_look 98 = .ok (.iload_n 1, 1) := by decide +kernel
theorem d_Ck_look_99 : decode c_Ck_look 99 = .ok (.invokevirtual 86, 3) := by decide +kernel
theorem d_Ck_look_102 : decode c_Ck_look 102 = .ok (.ireturn, 1) := by decide +kernel
theorem d_Ck_look_103 : decode c_Ck_look 103 = .ok (.aload_n 0, 1) := by decide +kernel
theorem d_Ck_look_104 : decode c_Ck_look 104 = .ok (.aload_n 3, 1) := by decide +kernel
theorem d_Ck_look_105 : decode c_Ck_look 105 = .ok (.iload_n 2, 1) := by decide +kernel
theorem d_Ck_look_106 : decode c_Ck_look 106 = .ok (.invokevirtual 90, 3) := by decide +kernel
theorem d_Ck_look_109 : decode c_Ck_look 109 = .ok (.ireturn, 1) := by decide +kernel
theorem d_Ck_look_110 : decode c_Ck_look 110 = .ok (.aload_n 0, 1) := by decide +kernel
theorem d_Ck_look_111 : decode c_Ck_look 111 = .ok (.aload_n 3, 1) := by decide +kernel
theorem d_Ck_look_112 : decode c_Ck_look 112 = .ok (.iload_n 2, 1) := by decide +kernel
theorem d_Ck_look_113 : decode c_Ck_look 113 = .ok (.invokevirtual 93, 3) := by decide +kernel
theorem d_Ck_look_116 : decode c_Ck_look 116 = .ok (.ireturn, 1) := by decide +kernel
theorem d_Ck_look_117 : decode c_Ck_look 117 = .ok (.aload_n 0, 1) := by decide +kernel
theorem d_Ck_look_118 : decode c_Ck_look 118 = .ok (.aload_n 3, 1) := by decide +kernel
theorem d_Ck_look_119 : decode c_Ck_look 119 = .ok (.iload_n 2, 1) := by decide +kernel
theorem d_Ck_look_120 : decode c_Ck_look 120 = .ok (.invokevirtual 96, 3) := by decide +kernel
theorem d_Ck_look_123 : decode c_Ck_look 123 = .ok (.ireturn, 1) := by decide +kernel
theorem d_Ck_look_124 : decode c_Ck_look 124 = .ok (.aload_n 0, 1) := by decide +kernel
theorem d_Ck_look_125 : decode c_Ck_look 125 = .ok (.aload_n 3, 1) := by decide +kernel
theorem d_Ck_look_126 : decode c_Ck_look 126 = .ok (.iload_n 2, 1) := by decide +kernel
theorem d_Ck_look_127 : decode c_Ck_look 127 = .ok (.invokevirtual 99, 3) := by decide +kernel
theorem d_Ck_look_130 : decode c_Ck_look 130 = .ok (.ireturn, 1) := by decide +kernel
theorem d_Ck_look_131 : decode c_Ck_look 131 = .ok (.aload_n 0, 1) := by decide +kernel
theorem d_Ck_look_132 : decode c_Ck_look 132 = .ok (.aload_n 3, 1) := by decide +kernel
theorem d_Ck_look_133 : decode c_Ck_look 133 = .ok (.iload_n 2, 1) := by decide +kernel
theorem d_Ck_look_134 : decode c_Ck_look 134 = .ok (.invokevirtual 102, 3) := by decide +kernel
theorem d_Ck_look_137 : decode c_Ck_look 137 = .ok (.ireturn, 1) := by decide +kernel
theorem d_Ck_look_138 : decode c_Ck_look 138 = .ok (.aload_n 0, 1) := by decide +kernel
theorem d_Ck_look_139 : decode c_Ck_look 139 = .ok (.aload_n 3, 1) := by decide +kernel
theorem d_Ck_look_140 : decode c_Ck_look 140 = .ok (.iload_n 2, 1) := by decide +kernel
theorem d_Ck_look_141 : decode c_Ck_look 141 = .ok (.invokevirtual 105, 3) := by decide +kernel
theorem d_Ck_look_144 : decode c_Ck_look 144 = .ok (.ireturn, 1) := by decide +kernel
theorem d_Ck_look_145 : decode c_Ck_look 145 = .ok (.aload_n 0, 1) := by decide +kernel
theorem d_Ck_look_146 : decode c_Ck_look 146 = .ok (.aload_n 3, 1) := by decide +kernel
theorem d_Ck_look_147 : decode c_Ck_look 147 = .ok (.iload_n 2, 1) := by decide +kernel
theorem d_Ck_look_148 : decode c_Ck_look 148 = .ok (.invokevirtual 108, 3) := by decide +kernel
theorem d_Ck_look_151 : decode c_Ck_look 151 = .ok (.ireturn, 1) := by decide +kernel
theorem d_Ck_look_152 : decode c_Ck_look 152 = .ok (.aload_n 0, 1) := by decide +kernel
theorem d_Ck_look_153 : decode c_Ck_look 153 = .ok (.aload_n 3, 1) := by decide +kernel
theorem d_Ck_look_154 : decode c_Ck_look 154 = .ok (.iload_n 2, 1) := by decide +kernel
theorem d_Ck_look_155 : decode c_Ck_look 155 = .ok (.invokevirtual 111, 3) := by decide +kernel
theorem d_Ck_look_158 : decode c_Ck_look 158 = .ok (.ireturn, 1) := by decide +kernel
theorem d_Ck_look_159 : decode c_Ck_look 159 = .ok (.iconst 2, 1) := by decide +kernel
theorem d_Ck_look_160 : decode c_Ck_look 160 = .ok (.iconst 0, 1) := by decide +kernel
theorem d_Ck_look_161 : decode c_Ck_look 161 = .ok (.invokestatic 83, 3) := by decide +kernel
theorem d_Ck_look_164 : decode c_Ck_look 164 = .ok (.ireturn, 1) := by decide +kernel
theorem d_Ck_lookName_0 : decode c_Ck_lookName 0 = .ok (.aload_n 1, 1) := by decide +kernel
theorem d_Ck_lookName_1 : decode c_Ck_lookName 1 = .ok (.getfield 114, 3) := by decide +kernel
theorem d_Ck_lookName_4 : decode c_Ck_lookName 4 = .ok (.istore_n 3, 1) := by decide +kernel
theorem d_Ck_lookName_5 : decode c_Ck_lookName 5 = .ok (.iload_n 3, 1) := by decide +kernel
theorem d_Ck_lookName_6 : decode c_Ck_lookName 6 = .ok (.ifCond .lt 19, 3) := by decide +kernel
theorem d_Ck_lookName_9 : decode c_Ck_lookName 9 = .ok (.iload_n 3, 1) := by decide +kernel
theorem d_Ck_lookName_10 : decode c_Ck_lookName 10 = .ok (.bipush 10, 2) := by decide +kernel
theorem d_Ck_lookName_12 : decode c_Ck_lookName 12 = .ok (.if_icmp .ge 13, 3) := by decide +kernel
theorem d_Ck_lookName_15 : decode c_Ck_lookName 15 = .ok (.aload_n 0, 1) := by decide +kernel
theorem d_Ck_lookName_16 : decode c_Ck_lookName 16 = .ok (.getfield 9, 3) := by decide +kernel
theorem d_Ck_lookName_19 : decode c_Ck_lookName 19 = .ok (.iload_n 3, 1) := by decide +kernel
theorem d_Ck_lookName_20 : decode c_Ck_lookName 20 = .ok (.iaload, 1) := by decide +kernel
theorem d_Ck_lookName_21 : decode c_Ck_lookName 21 = .ok (.iconst (-1), 1) := by decide +kernel
theorem d_Ck_lookName_22 : decode c_Ck_lookName 22 = .ok (.if_icmp .ne 10, 3) := by decide +kernel
theorem d_Ck_lookName_25 : decode c_Ck_lookName 25 = .ok (.aload_n 0, 1) := by decide +kernel
theorem d_Ck_lookName_26 : decode c_Ck_lookName 26 = .ok (.iconst 5, 1) := by decide +kernel
theorem d_Ck_lookName_27 : decode c_Ck_lookName 27 = .ok (.iload_n 2, 1) := by decide +kernel
theorem d_Ck_lookName_28 : decode c_Ck_lookName 28 = .ok (.invokevirtual 58, 3) := by decide +kernel
theorem d_Ck_lookName_31 : decode c_Ck_lookName 31 = .ok (.ireturn, 1) := by decide +kernel
theorem d_Ck_lookName_32 : decode c_Ck_lookName 32 = .ok (.aload_n 0, 1) := by decide +kernel
theorem d_Ck_lookName_33 : decode c_Ck_lookName 33 = .ok (.getfield 9, 3) := by decide +kernel
theorem d_Ck_lookName_36 : decode c_Ck_lookName 36 = .ok (.iload_n 3, 1) := by decide +kernel
theorem d_Ck_lookName_37 : decode c_Ck_lookName 37 = .ok (.iaload, 1) := by decide +kernel
theorem d_Ck_lookName_38 : decode c_Ck_lookName 38 = .ok (.iconst 0, 1) := by decide +kernel
theorem d_Ck_lookName_39 : decode c_Ck_lookName 39 = .ok (.invokestatic 83, 3) := by decide +kernel
theorem d_Ck_lookName_42 : decode c_Ck_lookName 42 = .ok (.ireturn, 1) := by decide +kernel
theorem d_Ck_lookLet_0 : decode c_Ck_lookLet 0 = .ok (.aload_n 0, 1) := by decide +kernel
theorem d_Ck_lookLet_1 : decode c_Ck_lookLet 1 = .ok (.aload_n 1, 1) := by decide +kernel
theorem d_Ck_lookLet_2 : decode c_Ck_lookLet 2 = .ok (.getfield 117, 3) := by decide +kernel
theorem d_Ck_lookLet_5 : decode c_Ck_lookLet 5 = .ok (.iload_n 2, 1) := by decide +kernel
theorem d_Ck_lookLet_6 : decode c_Ck_lookLet 6 = .ok (.iconst 1, 1) := by decide +kernel
theorem d_Ck_lookLet_7 : decode c_Ck_lookLet 7 = .ok (.iadd, 1) := by decide +kernel
theorem d_Ck_lookLet_8 : decode c_Ck_lookLet 8 = .ok (.invokevirtual 54, 3) := by decide +kernel
theorem d_Ck_lookLet_11 : decode c_Ck_lookLet 11 = .ok (.istore_n 3, 1) := by decide +kernel
theorem d_Ck_lookLet_12 : decode c_Ck_lookLet 12 = .ok (.iload_n 3, 1) := by decide +kernel
theorem d_Ck_lookLet_13 : decode c_Ck_lookLet 13 = .ok (.iconst (-1), 1) := by decide +kernel
theorem d_Ck_lookLet_14 : decode c_Ck_lookLet 14 = .ok (.if_icmp .ne 5, 3) := by decide +kernel
theorem d_Ck_lookLet_17 : decode c_Ck_lookLet 17 = .ok (.iconst (-1), 1) := by decide +kernel
theorem d_Ck_lookLet_18 : decode c_Ck_lookLet 18 = .ok (.ireturn, 1) := by decide +kernel
theorem d_Ck_lookLet_19 : decode c_Ck_lookLet 19 = .ok (.aload_n 0, 1) := by decide +kernel
theorem d_Ck_lookLet_20 : decode c_Ck_lookLet 20 = .ok (.aload_n 1, 1) := by decide +kernel
theorem d_Ck_lookLet_21 : decode c_Ck_lookLet 21 = .ok (.getfield 120, 3) := by decide +kernel
theorem d_Ck_lookLet_24 : decode c_Ck_lookLet 24 = .ok (.iload_n 3, 1) := by decide +kernel
theorem d_Ck_lookLet_25 : decode c_Ck_lookLet 25 = .ok (.invokestatic 69, 3) := by decide +kernel
theorem d_Ck_lookLet_28 : decode c_Ck_lookLet 28 = .ok (.invokevirtual 123, 3) := by decide +kernel
theorem d_Ck_lookLet_31 : decode c_Ck_lookLet 31 = .ok (.istore 4, 2) := by decide +kernel
theorem d_Ck_lookLet_33 : decode c_Ck_lookLet 33 = .ok (.aload_n 0, 1) := by decide +kernel
theorem d_Ck_lookLet_34 : decode c_Ck_lookLet 34 = .ok (.aload_n 1, 1) := by decide +kernel
theorem d_Ck_lookLet_35 : decode c_Ck_lookLet 35 = .ok (.getfield 126, 3) := by decide +kernel
theorem d_Ck_lookLet_38 : decode c_Ck_lookLet 38 = .ok (.iload_n 2, 1) := by decide +kernel
theorem d_Ck_lookLet_39 : decode c_Ck_lookLet 39 = .ok (.iconst 1, 1) := by decide +kernel
theorem d_Ck_lookLet_40 : decode c_Ck_lookLet 40 = .ok (.iadd, 1) := by decide +kernel
theorem d_Ck_lookLet_41 : decode c_Ck_lookLet 41 = .ok (.invokevirtual 54, 3) := by decide +kernel
theorem d_Ck_lookLet_44 : decode c_Ck_lookLet 44 = .ok (.istore 5, 2) := by decide +kernel
theorem d_Ck_lookLet_46 : decode c_Ck_lookLet 46 = .ok (.aload_n 0, 1) := by decide +kernel
theorem d_Ck_lookLet_47 : decode c_Ck_lookLet 47 = .ok (.aload_n 1, 1) := by decide +kernel
theorem d_Ck_lookLet_48 : decode c_Ck_lookLet 48 = .ok (.getfield 120, 3) := by decide +kernel
theorem d_Ck_lookLet_51 : decode c_Ck_lookLet 51 = .ok (.iload 4, 2) := by decide +kernel
theorem d_Ck_lookLet_53 : decode c_Ck_lookLet 53 = .ok (.invokevirtual 123, 3) := by decide +kernel
theorem d_Ck_lookLet_56 : decode c_Ck_lookLet 56 = .ok (.pop, 1) := by decide +kernel
theorem d_Ck_lookLet_57 : decode c_Ck_lookLet 57 = .ok (.iload 5, 2) := by decide +kernel
theorem d_Ck_lookLet_59 : decode c_Ck_lookLet 59 = .ok (.iconst (-1), 1) := by decide +kernel
theorem d_Ck_lookLet_60 : decode c_Ck_lookLet 60 = .ok (.if_icmp .ne 5, 3) := by decide +kernel
theorem d_Ck_lookLet_63 : decode c_Ck_lookLet 63 = .ok (.iconst (-1), 1) := by decide +kernel
theorem d_Ck_lookLet_64 : decode c_Ck_lookLet 64 = .ok (.ireturn, 1) := by decide +kernel
theorem d_Ck_lookLet_65 : decode c_Ck_lookLet 65 = .ok (.iload 5, 2) := by decide +kernel
theorem d_Ck_lookLet_67 : decode c_Ck_lookLet 67 = .ok (.invokestatic 69, 3) := by decide +kernel
theorem d_Ck_lookLet_70 : decode c_Ck_lookLet 70 = .ok (.iload_n 3, 1) := by decide +kernel
theorem d_Ck_lookLet_71 : decode c_Ck_lookLet 71 = .ok (.invokestatic 65, 3) := by decide +kernel
theorem d_Ck_lookLet_74 : decode c_Ck_lookLet 74 = .ok (.iload 5, 2) := by decide +kernel
theorem d_Ck_lookLet_76 : decode c_Ck_lookLet 76 = .ok (.invokestatic 65, 3) := by decide +kernel
theorem d_Ck_lookLet_79 : decode c_Ck_lookLet 79 = .ok (.ior, 1) := by decide +kernel
theorem d_Ck_lookLet_80 : decode c_Ck_lookLet 80 = .ok (.invokestatic 83, 3) := by decide +kernel
theorem d_Ck_lookLet_83 : decode c_Ck_lookLet 83 = .ok (.ireturn, 1) := by decide +kernel
theorem d_Ck_lookRec_0 : decode c_Ck_lookRec 0 = .ok (.aload_n 1, 1) := by decide +kernel
theorem d_Ck_lookRec_1 : decode c_Ck_lookRec 1 = .ok (.getfield 114, 3) := by decide +kernel
theorem d_Ck_lookRec_4 : decode c_Ck_lookRec 4 = .ok (.istore_n 3, 1) := by decide +kernel
theorem d_Ck_lookRec_5 : decode c_Ck_lookRec 5 = .ok (.aload_n 0, 1) := by decide +kernel
theorem d_Ck_lookRec_6 : decode c_Ck_lookRec 6 = .ok (.aload_n 1, 1) := by decide +kernel
theorem d_Ck_lookRec_7 : decode c_Ck_lookRec 7 = .ok (.getfield 129, 3) := by decide +kernel
theorem d_Ck_lookRec_10 : decode c_Ck_lookRec 10 = .ok (.iload_n 3, 1) := by decide +kernel
theorem d_Ck_lookRec_11 : decode c_Ck_lookRec 11 = .ok (.invokevirtual 123, 3) := by decide +kernel
theorem d_Ck_lookRec_14 : decode c_Ck_lookRec 14 = .ok (.istore 4, 2) := by decide +kernel
theorem d_Ck_lookRec_16 : decode c_Ck_lookRec 16 = .ok (.aload_n 0, 1) := by decide +kernel
theorem d_Ck_lookRec_17 : decode c_Ck_lookRec 17 = .ok (.aload_n 1, 1) := by decide +kernel
theorem d_Ck_lookRec_18 : decode c_Ck_lookRec 18 = .ok (.getfield 120, 3) := by decide +kernel
theorem d_Ck_lookRec_21 : decode c_Ck_lookRec 21 = .ok (.aload_n 0, 1) := by decide +kernel
theorem d_Ck_lookRec_22 : decode c_Ck_lookRec 22 = .ok (.getfield 19, 3) := by decide +kernel
theorem d_Ck_lookRec_25 : decode c_Ck_lookRec 25 = .ok (.iload_n 3, 1) := by decide +kernel
theorem d_Ck_lookRec_26 : decode c_Ck_lookRec 26 = .ok (.invokevirtual 132, 3) := by decide +kernel
theorem d_Ck_lookRec_29 : decode c_Ck_lookRec 29 = .ok (.invokevirtual 123, 3) := by decide +kernel
theorem d_Ck_lookRec_32 : decode c_Ck_lookRec 32 = .ok (.istore 5, 2) := by decide +kernel
theorem d_Ck_lookRec_34 : decode c_Ck_lookRec 34 = .ok (.aload_n 0, 1) := by decide +kernel
theorem d_Ck_lookRec_35 : decode c_Ck_lookRec 35 = .ok (.aload_n 1, 1) := by decide +kernel
theorem d_Ck_lookRec_36 : decode c_Ck_lookRec 36 = .ok (.getfield 117, 3) := by decide +kernel
theorem d_Ck_lookRec_39 : decode c_Ck_lookRec 39 = .ok (.iload_n 2, 1) := by decide +kernel
theorem d_Ck_lookRec_40 : decode c_Ck_lookRec 40 = .ok (.iconst 1, 1) := by decide +kernel
theorem d_Ck_lookRec_41 : decode c_Ck_lookRec 41 = .ok (.iadd, 1) := by decide +kernel
theorem d_Ck_lookRec_42 : decode c_Ck_lookRec 42 = .ok (.invokevirtual 54, 3) := by decide +kernel
theorem d_Ck_lookRec_45 : decode c_Ck_lookRec 45 = .ok (.istore 6, 2) := by decide +kernel
theorem d_Ck_lookRec_47 : decode c_Ck_lookRec 47 = .ok (.aload_n 0, 1) := by decide +kernel
theorem d_Ck_lookRec_48 : decode c_Ck_lookRec 48 = .ok (.aload_n 1, 1) := by decide +kernel
theorem d_Ck_lookRec_49 : decode c_Ck_lookRec 49 = .ok (.getfield 120, 3) := by decide +kernel
theorem d_Ck_lookRec_52 : decode c_Ck_lookRec 52 = .ok (.iload 5, 2) := by decide +kernel
theorem d_Ck_lookRec_54 : decode c_Ck_lookRec 54 = .ok (.invokevirtual 123, 3) := by decide +kernel
theorem d_Ck_lookRec_57 : decode c_Ck_lookRec 57 = .ok (.pop, 1) := by decide +kernel
theorem d_Ck_lookRec_58 : decode c_Ck_lookRec 58 = .ok (.iconst (-1), 1) := by decide +kernel
theorem d_Ck_lookRec_59 : decode c_Ck_lookRec 59 = .ok (.istore 7, 2) := by decide +kernel
theorem d_Ck_lookRec_61 : decode c_Ck_lookRec 61 = .ok (.iload 6, 2) := by decide +kernel
theorem d_Ck_lookRec_63 : decode c_Ck_lookRec 63 = .ok (.iconst (-1), 1) := by decide +kernel
theorem d_Ck_lookRec_64 : decode c_Ck_lookRec 64 = .ok (.if_icmp .eq 30, 3) := by decide +kernel
theorem d_Ck_lookRec_67 : decode c_Ck_lookRec 67 = .ok (.aload_n 0, 1) := by decide +kernel
theorem d_Ck_lookRec_68 : decode c_Ck_lookRec 68 = .ok (.iload_n 3, 1) := by decide +kernel
theorem d_Ck_lookRec_69 : decode c_Ck_lookRec 69 = .ok (.aload_n 1, 1) := by decide +kernel
theorem d_Ck_lookRec_70 : decode c_Ck_lookRec 70 = .ok (.getfield 117, 3) := by decide +kernel
theorem d_Ck_lookRec_73 : decode c_Ck_lookRec 73 = .ok (.iload 6, 2) := by decide +kernel
theorem d_Ck_lookRec_75 : decode c_Ck_lookRec 75 = .ok (.invokevirtual 135, 3) := by decide +kernel
theorem d_Ck_lookRec_78 : decode c_Ck_lookRec 78 = .ok (.ifCond .eq 16, 3) := by decide +kernel
theorem d_Ck_lookRec_81 : decode c_Ck_lookRec 81 = .ok (.aload_n 0, 1) := by decide +kernel
theorem d_Ck_lookRec_82 : decode c_Ck_lookRec 82 = .ok (.aload_n 1, 1) := by decide +kernel
theorem d_Ck_lookRec_83 : decode c_Ck_lookRec 83 = .ok (.getfield 126, 3) := by decide +kernel
theorem d_Ck_lookRec_86 : decode c_Ck_lookRec 86 = .ok (.iload_n 2, 1) := by decide +kernel
theorem d_Ck_lookRec_87 : decode c_Ck_lookRec 87 = .ok (.iconst 1, 1) := by decide +kernel
theorem d_Ck_lookRec_88 : decode c_Ck_lookRec 88 = .ok (.iadd, 1) := by decide +kernel
theorem d_Ck_lookRec_89 : decode c_Ck_lookRec 89 = .ok (.invokevirtual 54, 3) := by decide +kernel
theorem d_Ck_lookRec_92 : decode c_Ck_lookRec 92 = .ok (.istore 7, 2) := by decide +kernel
theorem d_Ck_lookRec_94 : decode c_Ck_lookRec 94 = .ok (.aload_n 0, 1) := by decide +kernel
theorem d_Ck_lookRec_95 : decode c_Ck_lookRec 95 = .ok (.aload_n 1, 1) := by decide +kernel
theorem d_Ck_lookRec_96 : decode c_Ck_lookRec 96 = .ok (.getfield 129, 3) := by decide +kernel
theorem d_Ck_lookRec_99 : decode c_Ck_lookRec 99 = .ok (.iload 4, 2) := by decide +kernel
theorem d_Ck_lookRec_101 : decode c_Ck_lookRec 101 = .ok (.invokevirtual 123, 3) := by decide +kernel
theorem d_Ck_lookRec_104 : decode c_Ck_lookRec 104 = .ok (.pop, 1) := by decide +kernel
theorem d_Ck_lookRec_105 : decode c_Ck_lookRec 105 = .ok (.iload 7, 2) := by decide +kernel
theorem d_Ck_lookRec_107 : decode c_Ck_lookRec 107 = .ok (.ireturn, 1) := by decide +kernel
theorem d_Ck_bodyKeepsTo_0 : decode c_Ck_bodyKeepsTo 0 = .ok (.aload_n 0, 1) := by decide +kernel
theorem d_Ck_bodyKeepsTo_1 : decode c_Ck_bodyKeepsTo 1 = .ok (.getfield 19, 3) := by decide +kernel
theorem d_Ck_bodyKeepsTo_4 : decode c_Ck_bodyKeepsTo 4 = .ok (.iload_n 3, 1) := by decide +kernel
theorem d_Ck_bodyKeepsTo_5 : decode c_Ck_bodyKeepsTo 5 = .ok (.invokestatic 69, 3) := by decide +kernel
theorem d_Ck_bodyKeepsTo_8 : decode c_Ck_bodyKeepsTo 8 = .ok (.aload_n 0, 1) := by decide +kernel
theorem d_Ck_bodyKeepsTo_9 : decode c_Ck_bodyKeepsTo 9 = .ok (.getfield 19, 3) := by decide +kernel
theorem d_Ck_bodyKeepsTo_12 : decode c_Ck_bodyKeepsTo 12 = .ok (.iload_n 1, 1) := by decide +kernel
theorem d_Ck_bodyKeepsTo_13 : decode c_Ck_bodyKeepsTo 13 = .ok (.invokevirtual 139, 3) := by decide +kernel
theorem d_Ck_bodyKeepsTo_16 : decode c_Ck_bodyKeepsTo 16 = .ok (.invokevirtual 142, 3) := by decide +kernel
theorem d_Ck_bodyKeepsTo_19 : decode c_Ck_bodyKeepsTo 19 = .ok (.ifCond .ne 13, 3) := by decide +kernel
theorem d_Ck_bodyKeepsTo_22 : decode c_Ck_bodyKeepsTo 22 = .ok (.aload_n 0, 1) := by decide +kernel
theorem d_Ck_bodyKeepsTo_23 : decode c_Ck_bodyKeepsTo 23 = .ok (.bipush 6, 2) := by decide +kernel
theorem d_Ck_bodyKeepsTo_25 : decode c_Ck_bodyKeepsTo 25 = .ok (.iload_n 2, 1) := by decide +kernel
theorem d_Ck_bodyKeepsTo_26 : decode c_Ck_bodyKeepsTo 26 = .ok (.invokevirtual 58, 3) := by decide +kernel
theorem d_Ck_bodyKeepsTo_29 : decode c_Ck_bodyKeepsTo 29 = .ok (.pop, 1) := by decide +kernel
theorem d_Ck_bodyKeepsTo_30 : decode c_Ck_bodyKeepsTo 30 = .ok (.iconst 0, 1) := by decide +kernel
theorem d_Ck_bodyKeepsTo_31 : decode c_Ck_bodyKeepsTo 31 = .ok (.ireturn, 1) := by decide +kernel
theorem d_Ck_bodyKeepsTo_32 : decode c_Ck_bodyKeepsTo 32 = .ok (.iload_n 3, 1) := by decide +kernel
theorem d_Ck_bodyKeepsTo_33 : decode c_Ck_bodyKeepsTo 33 = .ok (.invokestatic 65, 3) := by decide +kernel
theorem d_Ck_bodyKeepsTo_36 : decode c_Ck_bodyKeepsTo 36 = .ok (.aload_n 0, 1) := by decide +kernel
theorem d_Ck_bodyKeepsTo_37 : decode c_Ck_bodyKeepsTo 37 = .ok (.getfield 19, 3) := by decide +kernel
theorem d_Ck_bodyKeepsTo_40 : decode c_Ck_bodyKeepsTo 40 = .ok (.iload_n 1, 1) := by decide +kernel
theorem d_Ck_bodyKeepsTo_41 : decode c_Ck_bodyKeepsTo 41 = .ok (.invokevirtual 146, 3) := by decide +kernel
theorem d_Ck_bodyKeepsTo_44 : decode c_Ck_bodyKeepsTo 44 = .ok (.invokestatic 149, 3) := by decide +kernel
theorem d_Ck_bodyKeepsTo_47 : decode c_Ck_bodyKeepsTo 47 = .ok (.ifCond .ne 13, 3) := by decide +kernel
theorem d_Ck_bodyKeepsTo_50 : decode c_Ck_bodyKeepsTo 50 = .ok (.aload_n 0, 1) := by decide +kernel
theorem d_Ck_bodyKeepsTo_51 : decode c_Ck_bodyKeepsTo 51 = .ok (.bipush 7, 2) := by decide +kernel
theorem d_Ck_bodyKeepsTo_53 : decode c_Ck_bodyKeepsTo 53 = .ok (.iload_n 2, 1) := by decide +kernel
theorem d_Ck_bodyKeepsTo_54 : decode c_Ck_bodyKeepsTo 54 = .ok (.invokevirtual 58, 3) := by decide +kernel
theorem d_Ck_bodyKeepsTo_57 : decode c_Ck_bodyKeepsTo 57 = .ok (.pop, 1) := by decide +kernel
theorem d_Ck_bodyKeepsTo_58 : decode c_Ck_bodyKeepsTo 58 = .ok (.iconst 0, 1) := by decide +kernel
theorem d_Ck_bodyKeepsTo_59 : decode c_Ck_bodyKeepsTo 59 = .ok (.ireturn, 1) := by decide +kernel
theorem d_Ck_bodyKeepsTo_60 : decode c_Ck_bodyKeepsTo 60 = .ok (.iconst 1, 1) := by decide +kernel
theorem d_Ck_bodyKeepsTo_61 : decode c_Ck_bodyKeepsTo 61 = .ok (.ireturn, 1) := by decide +kernel
theorem d_Ck_lookChoice_0 : decode c_Ck_lookChoice 0 = .ok (.aload_n 0, 1) := by decide +kernel
theorem d_Ck_lookChoice_1 : decode c_Ck_lookChoice 1 = .ok (.aload_n 1, 1) := by decide +kernel
theorem d_Ck_lookChoice_2 : decode c_Ck_lookChoice 2 = .ok (.getfield 117, 3) := by decide +kernel
theorem d_Ck_lookChoice_5 : decode c_Ck_lookChoice 5 = .ok (.iload_n 2, 1) := by decide +kernel
theorem d_Ck_lookChoice_6 : decode c_Ck_lookChoice 6 = .ok (.iconst 1, 1) := by decide +kernel
theorem d_Ck_lookChoice_7 : decode c_Ck_lookChoice 7 = .ok (.iadd, 1) := by decide +kernel
theorem d_Ck_lookChoice_8 : decode c_Ck_lookChoice 8 = .ok (.invokevirtual 54, 3) := by decide +kernel
theorem d_Ck_lookChoice_11 : decode c_Ck_lookChoice 11 = .ok (.istore_n 3, 1) := by decide +kernel
theorem d_Ck_lookChoice_12 : decode c_Ck_lookChoice 12 = .ok (.iload_n 3, 1) := by decide +kernel
theorem d_Ck_lookChoice_13 : decode c_Ck_lookChoice 13 = .ok (.iconst (-1), 1) := by decide +kernel
theorem d_Ck_lookChoice_14 : decode c_Ck_lookChoice 14 = .ok (.if_icmp .ne 5, 3) := by decide +kernel
theorem d_Ck_lookChoice_17 : decode c_Ck_lookChoice 17 = .ok (.iconst (-1), 1) := by decide +kernel
theorem d_Ck_lookChoice_18 : decode c_Ck_lookChoice 18 = .ok (.ireturn, 1) := by decide +kernel
theorem d_Ck_lookChoice_19 : decode c_Ck_lookChoice 19 = .ok (.iload_n 3, 1) := by decide +kernel
theorem d_Ck_lookChoice_20 : decode c_Ck_lookChoice 20 = .ok (.invokestatic 69, 3) := by decide +kernel
theorem d_Ck_lookChoice_23 : decode c_Ck_lookChoice 23 = .ok (.iconst 1, 1) := by decide +kernel
theorem d_Ck_lookChoice_24 : decode c_Ck_lookChoice 24 = .ok (.if_icmp .eq 14, 3) := by decide +kernel
theorem d_Ck_lookChoice_27 : decode c_Ck_lookChoice 27 = .ok (.aload_n 0, 1) := by decide +kernel
theorem d_Ck_lookChoice_28 : decode c_Ck_lookChoice 28 = .ok (.bipush 6, 2) := by decide +kernel
theorem d_Ck_lookChoice_30 : decode c_Ck_lookChoice 30 = .ok (.aload_n 1, 1) := by decide +kernel
theorem d_Ck_lookChoice_31 : decode c_Ck_lookChoice 31 = .ok (.getfield 117, 3) := by decide +kernel
theorem d_Ck_lookChoice_34 : decode c_Ck_lookChoice 34 = .ok (.invokevirtual 58, 3) := by decide +kernel
theorem d_Ck_lookChoice_37 : decode c_Ck_lookChoice 37 = .ok (.ireturn, 1) := by decide +kernel
theorem d_Ck_lookChoice_38 : decode c_Ck_lookChoice 38 = .ok (.aload_n 0, 1) := by decide +kernel
theorem d_Ck_lookChoice_39 : decode c_Ck_lookChoice 39 = .ok (.aload_n 1, 1) := by decide +kernel
theorem d_Ck_lookChoice_40 : decode c_Ck_lookChoice 40 = .ok (.getfield 126, 3) := by decide +kernel
theorem d_Ck_lookChoice_43 : decode c_Ck_lookChoice 43 = .ok (.iload_n 2, 1) := by decide +kernel
theorem d_Ck_lookChoice_44 : decode c_Ck_lookChoice 44 = .ok (.iconst 1, 1) := by decide +kernel
theorem d_Ck_lookChoice_45 : decode c_Ck_lookChoice 45 = .ok (.iadd, 1) := by decide +kernel
theorem d_Ck_lookChoice_46 : decode c_Ck_lookChoice 46 = .ok (.invokevirtual 54, 3) := by decide +kernel
theorem d_Ck_lookChoice_49 : decode c_Ck_lookChoice 49 = .ok (.istore 4, 2) := by decide +kernel
theorem d_Ck_lookChoice_51 : decode c_Ck_lookChoice 51 = .ok (.iload 4, 2) := by decide +kernel
theorem d_Ck_lookChoice_53 : decode c_Ck_lookChoice 53 = .ok (.iconst (-1), 1) := by decide +kernel
theorem d_Ck_lookChoice_54 : decode c_Ck_lookChoice 54 = .ok (.if_icmp .ne 7, 3) := by decide +kernel
theorem d_Ck_lookChoice_57 : decode c_Ck_lookChoice 57 = .ok (.iconst (-1), 1) := by decide +kernel
theorem d_Ck_lookChoice_58 : decode c_Ck_lookChoice 58 = .ok (.goto 14, 3) := by decide +kernel
theorem d_Ck_lookChoice_61 : decode c_Ck_lookChoice 61 = .ok (.aload_n 0, 1) := by decide +kernel
theorem d_Ck_lookChoice_62 : decode c_Ck_lookChoice 62 = .ok (.aload_n 1, 1) := by decide +kernel
theorem d_Ck_lookChoice_63 : decode c_Ck_lookChoice 63 = .ok (.getfield 152, 3) := by decide +kernel
theorem d_Ck_lookChoice_66 : decode c_Ck_lookChoice 66 = .ok (.iload_n 2, 1) := by decide +kernel
theorem d_Ck_lookChoice_67 : decode c_Ck_lookChoice 67 = .ok (.iconst 1, 1) := by decide +kernel
theorem d_Ck_lookChoice_68 : decode c_Ck_lookChoice 68 = .ok (.iadd, 1) := by decide +kernel
theorem d_Ck_lookChoice_69 : decode c_Ck_lookChoice 69 = .ok (.invokevirtual 54, 3) := by decide +kernel
theorem d_Ck_lookChoice_72 : decode c_Ck_lookChoice 72 = .ok (.istore 5, 2) := by decide +kernel
theorem d_Ck_lookChoice_74 : decode c_Ck_lookChoice 74 = .ok (.iload 5, 2) := by decide +kernel
theorem d_Ck_lookChoice_76 : decode c_Ck_lookChoice 76 = .ok (.iconst (-1), 1) := by decide +kernel
theorem d_Ck_lookChoice_77 : decode c_Ck_lookChoice 77 = .ok (.if_icmp .ne 5, 3) := by decide +kernel
theorem d_Ck_lookChoice_80 : decode c_Ck_lookChoice 80 = .ok (.iconst (-1), 1) := by decide +kernel
theorem d_Ck_lookChoice_81 : decode c_Ck_lookChoice 81 = .ok (.ireturn, 1) := by decide +kernel
theorem d_Ck_lookChoice_82 : decode c_Ck_lookChoice 82 = .ok (.iload 5, 2) := by decide +kernel
theorem d_Ck_lookChoice_84 : decode c_Ck_lookChoice 84 = .ok (.invokestatic 69, 3) := by decide +kernel
theorem d_Ck_lookChoice_87 : decode c_Ck_lookChoice 87 = .ok (.iload 4, 2) := by decide +kernel
theorem d_Ck_lookChoice_89 : decode c_Ck_lookChoice 89 = .ok (.invokestatic 69, 3) := by decide +kernel
theorem d_Ck_lookChoice_92 : decode c_Ck_lookChoice 92 = .ok (.if_icmp .eq 14, 3) := by decide +kernel
theorem d_Ck_lookChoice_95 : decode c_Ck_lookChoice 95 = .ok (.aload_n 0, 1) := by decide +kernel
theorem d_Ck_lookChoice_96 : decode c_Ck_lookChoice 96 = .ok (.bipush 6, 2) := by decide +kernel
theorem d_Ck_lookChoice_98 : decode c_Ck_lookChoice 98 = .ok (.aload_n 1, 1) := by decide +kernel
theorem d_Ck_lookChoice_99 : decode c_Ck_lookChoice 99 = .ok (.getfield 152, 3) := by decide +kernel
theorem d_Ck_lookChoice_102 : decode c_Ck_lookChoice 102 = .ok (.invokevirtual 58, 3) := by decide +kernel
theorem d_Ck_lookChoice_105 : decode c_Ck_lookChoice 105 = .ok (.ireturn, 1) := by decide +kernel
theorem d_Ck_lookChoice_106 : decode c_Ck_lookChoice 106 = .ok (.iload 4, 2) := by decide +kernel
theorem d_Ck_lookChoice_108 : decode c_Ck_lookChoice 108 = .ok (.invokestatic 69, 3) := by decide +kernel
theorem d_Ck_lookChoice_111 : decode c_Ck_lookChoice 111 = .ok (.iload_n 3, 1) := by decide +kernel
theorem d_Ck_lookChoice_112 : decode c_Ck_lookChoice 112 = .ok (.invokestatic 65, 3) := by decide +kernel
theorem d_Ck_lookChoice_115 : decode c_Ck_lookChoice 115 = .ok (.iload 4, 2) := by decide +kernel
theorem d_Ck_lookChoice_117 : decode c_Ck_lookChoice 117 = .ok (.invokestatic 65, 3) := by decide +kernel
theorem d_Ck_lookChoice_120 : decode c_Ck_lookChoice 120 = .ok (.ior, 1) := by decide +kernel
theorem d_Ck_lookChoice_121 : decode c_Ck_lookChoice 121 = .ok (.iload 5, 2) := by decide +kernel
theorem d_Ck_lookChoice_123 : decode c_Ck_lookChoice 123 = .ok (.invokestatic 65, 3) := by decide +kernel
theorem d_Ck_lookChoice_126 : decode c_Ck_lookChoice 126 = .ok (.ior, 1) := by decide +kernel
theorem d_Ck_lookChoice_127 : decode c_Ck_lookChoice 127 = .ok (.invokestatic 83, 3) := by decide +kernel
theorem d_Ck_lookChoice_130 : decode c_Ck_lookChoice 130 = .ok (.ireturn, 1) := by decide +kernel
theorem d_Ck_lookFn_0 : decode c_Ck_lookFn 0 = .ok (.aload_n 0, 1) := by decide +kernel
theorem d_Ck_lookFn_1 : decode c_Ck_lookFn 1 = .ok (.aload_n 1, 1) := by decide +kernel
theorem d_Ck_lookFn_2 : decode c_Ck_lookFn 2 = .ok (.getfield 120, 3) := by decide +kernel
theorem d_Ck_lookFn_5 : decode c_Ck_lookFn 5 = .ok (.aload_n 1, 1) := by decide +kernel
theorem d_Ck_lookFn_6 : decode c_Ck_lookFn 6 = .ok (.getfield 114, 3) := by decide +kernel
theorem d_Ck_lookFn_9 : decode c_Ck_lookFn 9 = .ok (.invokevirtual 123, 3) := by decide +kernel
theorem d_Ck_lookFn_12 : decode c_Ck_lookFn 12 = .ok (.istore_n 3, 1) := by decide +kernel
theorem d_Ck_lookFn_13 : decode c_Ck_lookFn 13 = .ok (.aload_n 0, 1) := by decide +kernel
theorem d_Ck_lookFn_14 : decode c_Ck_lookFn 14 = .ok (.aload_n 1, 1) := by decide +kernel
theorem d_Ck_lookFn_15 : decode c_Ck_lookFn 15 = .ok (.getfield 117, 3) := by decide +kernel
theorem d_Ck_lookFn_18 : decode c_Ck_lookFn 18 = .ok (.iload_n 2, 1) := by decide +kernel
theorem d_Ck_lookFn_19 : decode c_Ck_lookFn 19 = .ok (.iconst 1, 1) := by decide +kernel
theorem d_Ck_lookFn_20 : decode c_Ck_lookFn 20 = .ok (.iadd, 1) := by decide +kernel
theorem d_Ck_lookFn_21 : decode c_Ck_lookFn 21 = .ok (.invokevirtual 54, 3) := by decide +kernel
theorem d_Ck_lookFn_24 : decode c_Ck_lookFn 24 = .ok (.istore 4, 2) := by decide +kernel
theorem d_Ck_lookFn_26 : decode c_Ck_lookFn 26 = .ok (.aload_n 0, 1) := by decide +kernel
theorem d_Ck_lookFn_27 : decode c_Ck_lookFn 27 = .ok (.aload_n 1, 1) := by decide +kernel
theorem d_Ck_lookFn_28 : decode c_Ck_lookFn 28 = .ok (.getfield 120, 3) := by decide +kernel
theorem d_Ck_lookFn_31 : decode c_Ck_lookFn 31 = .ok (.iload_n 3, 1) := by decide +kernel
theorem d_Ck_lookFn_32 : decode c_Ck_lookFn 32 = .ok (.invokevirtual 123, 3) := by decide +kernel
theorem d_Ck_lookFn_35 : decode c_Ck_lookFn 35 = .ok (.pop, 1) := by decide +kernel
theorem d_Ck_lookFn_36 : decode c_Ck_lookFn 36 = .ok (.iload 4, 2) := by decide +kernel
theorem d_Ck_lookFn_38 : decode c_Ck_lookFn 38 = .ok (.iconst (-1), 1) := by decide +kernel
theorem d_Ck_lookFn_39 : decode c_Ck_lookFn 39 = .ok (.if_icmp .ne 5, 3) := by decide +kernel
theorem d_Ck_lookFn_42 : decode c_Ck_lookFn 42 = .ok (.iconst (-1), 1) := by decide +kernel
theorem d_Ck_lookFn_43 : decode c_Ck_lookFn 43 = .ok (.ireturn, 1) := by decide +kernel
theorem d_Ck_lookFn_44 : decode c_Ck_lookFn 44 = .ok (.aload_n 0, 1) := by decide +kernel
theorem d_Ck_lookFn_45 : decode c_Ck_lookFn 45 = .ok (.getfield 19, 3) := by decide +kernel
theorem d_Ck_lookFn_48 : decode c_Ck_lookFn 48 = .ok (.aload_n 1, 1) := by decide +kernel
theorem d_Ck_lookFn_49 : decode c_Ck_lookFn 49 = .ok (.getfield 114, 3) := by decide +kernel
theorem d_Ck_lookFn_52 : decode c_Ck_lookFn 52 = .ok (.iload 4, 2) := by decide +kernel
theorem d_Ck_lookFn_54 : decode c_Ck_lookFn 54 = .ok (.invokestatic 69, 3) := by decide +kernel
theorem d_Ck_lookFn_57 : decode c_Ck_lookFn 57 = .ok (.iload 4, 2) := by decide +kernel
theorem d_Ck_lookFn_59 : decode c_Ck_lookFn 59 = .ok (.invokestatic 65, 3) := by decide +kernel
theorem d_Ck_lookFn_62 : decode c_Ck_lookFn 62 = .ok (.invokevirtual 155, 3) := by decide +kernel
theorem d_Ck_lookFn_65 : decode c_Ck_lookFn 65 = .ok (.iconst 0, 1) := by decide +kernel
theorem d_Ck_lookFn_66 : decode c_Ck_lookFn 66 = .ok (.invokestatic 83, 3) := by decide +kernel
theorem d_Ck_lookFn_69 : decode c_Ck_lookFn 69 = .ok (.ireturn, 1) := by decide +kernel
theorem d_Ck_lookTwo_0 : decode c_Ck_lookTwo 0 = .ok (.aload_n 0, 1) := by decide +kernel
theorem d_Ck_lookTwo_1 : decode c_Ck_lookTwo 1 = .ok (.aload_n 1, 1) := by decide +kernel
theorem d_Ck_lookTwo_2 : decode c_Ck_lookTwo 2 = .ok (.getfield 117, 3) := by decide +kernel
theorem d_Ck_lookTwo_5 : decode c_Ck_lookTwo 5 = .ok (.iload_n 2, 1) := by decide +kernel
theorem d_Ck_lookTwo_6 : decode c_Ck_lookTwo 6 = .ok (.iconst 1, 1) := by decide +kernel
theorem d_Ck_lookTwo_7 : decode c_Ck_lookTwo 7 = .ok (.iadd, 1) := by decide +kernel
theorem d_Ck_lookTwo_8 : decode c_Ck_lookTwo 8 = .ok (.invokevirtual 54, 3) := by decide +kernel
theorem d_Ck_lookTwo_11 : decode c_Ck_lookTwo 11 = .ok (.istore_n 3, 1) := by decide +kernel
theorem d_Ck_lookTwo_12 : decode c_Ck_lookTwo 12 = .ok (.iload_n 3, 1) := by decide +kernel
theorem d_Ck_lookTwo_13 : decode c_Ck_lookTwo 13 = .ok (.iconst (-1), 1) := by decide +kernel
theorem d_Ck_lookTwo_14 : decode c_Ck_lookTwo 14 = .ok (.if_icmp .ne 7, 3) := by decide +kernel
theorem d_Ck_lookTwo_17 : decode c_Ck_lookTwo 17 = .ok (.iconst (-1), 1) := by decide +kernel
theorem d_Ck_lookTwo_18 : decode c_Ck_lookTwo 18 = .ok (.goto 14, 3) := by decide +kernel
theorem d_Ck_lookTwo_21 : decode c_Ck_lookTwo 21 = .ok (.aload_n 0, 1) := by decide +kernel
theorem d_Ck_lookTwo_22 : decode c_Ck_lookTwo 22 = .ok (.aload_n 1, 1) := by decide +kernel
theorem d_Ck_lookTwo_23 : decode c_Ck_lookTwo 23 = .ok (.getfield 126, 3) := by decide +kernel
theorem d_Ck_lookTwo_26 : decode c_Ck_lookTwo 26 = .ok (.iload_n 2, 1) := by decide +kernel
theorem d_Ck_lookTwo_27 : decode c_Ck_lookTwo 27 = .ok (.iconst 1, 1) := by decide +kernel
theorem d_Ck_lookTwo_28 : decode c_Ck_lookTwo 28 = .ok (.iadd, 1) := by decide +kernel
theorem d_Ck_lookTwo_29 : decode c_Ck_lookTwo 29 = .ok (.invokevirtual 54, 3) := by decide +kernel
theorem d_Ck_lookTwo_32 : decode c_Ck_lookTwo 32 = .ok (.istore 4, 2) := by decide +kernel
theorem d_Ck_lookTwo_34 : decode c_Ck_lookTwo 34 = .ok (.iload 4, 2) := by decide +kernel
theorem d_Ck_lookTwo_36 : decode c_Ck_lookTwo 36 = .ok (.iconst (-1), 1) := by decide +kernel
theorem d_Ck_lookTwo_37 : decode c_Ck_lookTwo 37 = .ok (.if_icmp .ne 5, 3) := by decide +kernel
theorem d_Ck_lookTwo_40 : decode c_Ck_lookTwo 40 = .ok (.iconst (-1), 1) := by decide +kernel
theorem d_Ck_lookTwo_41 : decode c_Ck_lookTwo 41 = .ok (.ireturn, 1) := by decide +kernel
theorem d_Ck_lookTwo_42 : decode c_Ck_lookTwo 42 = .ok (.iload_n 3, 1) := by decide +kernel
theorem d_Ck_lookTwo_43 : decode c_Ck_lookTwo 43 = .ok (.invokestatic 69, 3) := by decide +kernel
theorem d_Ck_lookTwo_46 : decode c_Ck_lookTwo 46 = .ok (.ifCond .eq 14, 3) := by decide +kernel
theorem d_Ck_lookTwo_49 : decode c_Ck_lookTwo 49 = .ok (.aload_n 0, 1) := by decide +kernel
theorem d_Ck_lookTwo_50 : decode c_Ck_lookTwo 50 = .ok (.bipush 6, 2) := by decide +kernel
theorem d_Ck_lookTwo_52 : decode c_Ck_lookTwo 52 = .ok (.aload_n 1, 1) := by decide +kernel
theorem d_Ck_lookTwo_53 : decode c_Ck_lookTwo 53 = .ok (.getfield 117, 3) := by decide +kernel
theorem d_Ck_lookTwo_56 : decode c_Ck_lookTwo 56 = .ok (.invokevirtual 58, 3) := by decide +kernel
theorem d_Ck_lookTwo_59 : decode c_Ck_lookTwo 59 = .ok (.ireturn, 1) := by decide +kernel
theorem d_Ck_lookTwo_60 : decode c_Ck_lookTwo 60 = .ok (.iload 4, 2) := by decide +kernel
theorem d_Ck_lookTwo_62 : decode c_Ck_lookTwo 62 = .ok (.invokestatic 69, 3) := by decide +kernel
theorem d_Ck_lookTwo_65 : decode c_Ck_lookTwo 65 = .ok (.ifCond .eq 14, 3) := by decide +kernel
theorem d_Ck_lookTwo_68 : decode c_Ck_lookTwo 68 = .ok (.aload_n 0, 1) := by decide +kernel
theorem d_Ck_lookTwo_69 : decode c_Ck_lookTwo 69 = .ok (.bipush 6, 2) := by decide +kernel
theorem d_Ck_lookTwo_71 : decode c_Ck_lookTwo 71 = .ok (.aload_n 1, 1) := by decide +kernel
theorem d_Ck_lookTwo_72 : decode c_Ck_lookTwo 72 = .ok (.getfield 126, 3) := by decide +kernel
theorem d_Ck_lookTwo_75 : decode c_Ck_lookTwo 75 = .ok (.invokevirtual 58, 3) := by decide +kernel
theorem d_Ck_lookTwo_78 : decode c_Ck_lookTwo 78 = .ok (.ireturn, 1) := by decide +kernel
theorem d_Ck_lookTwo_79 : decode c_Ck_lookTwo 79 = .ok (.aload_n 1, 1) := by decide +kernel
theorem d_Ck_lookTwo_80 : decode c_Ck_lookTwo 80 = .ok (.getfield 114, 3) := by decide +kernel
theorem d_Ck_lookTwo_83 : decode c_Ck_lookTwo 83 = .ok (.iconst 2, 1) := by decide +kernel
theorem d_Ck_lookTwo_84 : decode c_Ck_lookTwo 84 = .ok (.if_icmp .gt 7, 3) := by decide +kernel
theorem d_Ck_lookTwo_87 : decode c_Ck_lookTwo 87 = .ok (.iconst 0, 1) := by decide +kernel
theorem d_Ck_lookTwo_88 : decode c_Ck_lookTwo 88 = .ok (.goto 4, 3) := by decide +kernel
theorem d_Ck_lookTwo_91 : decode c_Ck_lookTwo 91 = .ok (.iconst 1, 1) := by decide +kernel
theorem d_Ck_lookTwo_92 : decode c_Ck_lookTwo 92 = .ok (.iload_n 3, 1) := by decide +kernel
theorem d_Ck_lookTwo_93 : decode c_Ck_lookTwo 93 = .ok (.invokestatic 65, 3) := by decide +kernel
theorem d_Ck_lookTwo_96 : decode c_Ck_lookTwo 96 = .ok (.iload 4, 2) := by decide +kernel
theorem d_Ck_lookTwo_98 : decode c_Ck_lookTwo 98 = .ok (.invokestatic 65, 3) := by decide +kernel
theorem d_Ck_lookTwo_101 : decode c_Ck_lookTwo 101 = .ok (.ior, 1) := by decide +kernel
theorem d_Ck_lookTwo_102 : decode c_Ck_lookTwo 102 = .ok (.invokestatic 83, 3) := by decide +kernel
theorem d_Ck_lookTwo_105 : decode c_Ck_lookTwo 105 = .ok (.ireturn, 1) := by decide +kernel
theorem d_Ck_lookCall_0 : decode c_Ck_lookCall 0 = .ok (.aload_n 0, 1) := by decide +kernel
theorem d_Ck_lookCall_1 : decode c_Ck_lookCall 1 = .ok (.aload_n 1, 1) := by decide +kernel
theorem d_Ck_lookCall_2 : decode c_Ck_lookCall 2 = .ok (.getfield 117, 3) := by decide +kernel
theorem d_Ck_lookCall_5 : decode c_Ck_lookCall 5 = .ok (.iload_n 2, 1) := by decide +kernel
theorem d_Ck_lookCall_6 : decode c_Ck_lookCall 6 = .ok (.iconst 1, 1) := by decide +kernel
theorem d_Ck_lookCall_7 : decode c_Ck_lookCall 7 = .ok (.iadd, 1) := by decide +kernel
theorem d_Ck_lookCall_8 : decode c_Ck_lookCall 8 = .ok (.invokevirtual 54, 3) := by decide +kernel
theorem d_Ck_lookCall_11 : decode c_Ck_lookCall 11 = .ok (.istore_n 3, 1) := by decide +kernel
theorem d_Ck_lookCall_12 : decode c_Ck_lookCall 12 = .ok (.iload_n 3, 1) := by decide +kernel
theorem d_Ck_lookCall_13 : decode c_Ck_lookCall 13 = .ok (.iconst (-1), 1) := by decide +kernel
theorem d_Ck_lookCall_14 : decode c_Ck_lookCall 14 = .ok (.if_icmp .ne 5, 3) := by decide +kernel
theorem d_Ck_lookCall_17 : decode c_Ck_lookCall 17 = .ok (.iconst (-1), 1) := by decide +kernel
theorem d_Ck_lookCall_18 : decode c_Ck_lookCall 18 = .ok (.ireturn, 1) := by decide +kernel
theorem d_Ck_lookCall_19 : decode c_Ck_lookCall 19 = .ok (.iload_n 3, 1) := by decide +kernel
theorem d_Ck_lookCall_20 : decode c_Ck_lookCall 20 = .ok (.invokestatic 69, 3) := by decide +kernel
theorem d_Ck_lookCall_23 : decode c_Ck_lookCall 23 = .ok (.istore 4, 2) := by decide +kernel
theorem d_Ck_lookCall_25 : decode c_Ck_lookCall 25 = .ok (.aload_n 0, 1) := by decide +kernel
theorem d_Ck_lookCall_26 : decode c_Ck_lookCall 26 = .ok (.getfield 19, 3) := by decide +kernel
theorem d_Ck_lookCall_29 : decode c_Ck_lookCall 29 = .ok (.iload 4, 2) := by decide +kernel
theorem d_Ck_lookCall_31 : decode c_Ck_lookCall 31 = .ok (.invokevirtual 159, 3) := by decide +kernel
theorem d_Ck_lookCall_34 : decode c_Ck_lookCall 34 = .ok (.ifCond .ne 14, 3) := by decide +kernel
theorem d_Ck_lookCall_37 : decode c_Ck_lookCall 37 = .ok (.aload_n 0, 1) := by decide +kernel
theorem d_Ck_lookCall_38 : decode c_Ck_lookCall 38 = .ok (.bipush 6, 2) := by decide +kernel
theorem d_Ck_lookCall_40 : decode c_Ck_lookCall 40 = .ok (.aload_n 1, 1) := by decide +kernel
theorem d_Ck_lookCall_41 : decode c_Ck_lookCall 41 = .ok (.getfield 117, 3) := by decide +kernel
theorem d_Ck_lookCall_44 : decode c_Ck_lookCall 44 = .ok (.invokevirtual 58, 3) := by decide +kernel
theorem d_Ck_lookCall_47 : decode c_Ck_lookCall 47 = .ok (.ireturn, 1) := by decide +kernel
theorem d_Ck_lookCall_48 : decode c_Ck_lookCall 48 = .ok (.aload_n 0, 1) := by decide +kernel
theorem d_Ck_lookCall_49 : decode c_Ck_lookCall 49 = .ok (.aload_n 1, 1) := by decide +kernel
theorem d_Ck_lookCall_50 : decode c_Ck_lookCall 50 = .ok (.getfield 126, 3) := by decide +kernel
theorem d_Ck_lookCall_53 : decode c_Ck_lookCall 53 = .ok (.iload_n 2, 1) := by decide +kernel
theorem d_Ck_lookCall_54 : decode c_Ck_lookCall 54 = .ok (.iconst 1, 1) := by decide +kernel
theorem d_Ck_lookCall_55 : decode c_Ck_lookCall 55 = .ok (.iadd, 1) := by decide +kernel
theorem d_Ck_lookCall_56 : decode c_Ck_lookCall 56 = .ok (.invokevirtual 54, 3) := by decide +kernel
theorem d_Ck_lookCall_59 : decode c_Ck_lookCall 59 = .ok (.istore 5, 2) := by decide +kernel
theorem d_Ck_lookCall_61 : decode c_Ck_lookCall 61 = .ok (.iload 5, 2) := by decide +kernel
theorem d_Ck_lookCall_63 : decode c_Ck_lookCall 63 = .ok (.iconst (-1), 1) := by decide +kernel
theorem d_Ck_lookCall_64 : decode c_Ck_lookCall 64 = .ok (.if_icmp .ne 5, 3) := by decide +kernel
theorem d_Ck_lookCall_67 : decode c_Ck_lookCall 67 = .ok (.iconst (-1), 1) := by decide +kernel
theorem d_Ck_lookCall_68 : decode c_Ck_lookCall 68 = .ok (.ireturn, 1) := by decide +kernel
theorem d_Ck_lookCall_69 : decode c_Ck_lookCall 69 = .ok (.aload_n 0, 1) := by decide +kernel
theorem d_Ck_lookCall_70 : decode c_Ck_lookCall 70 = .ok (.getfield 19, 3) := by decide +kernel
theorem d_Ck_lookCall_73 : decode c_Ck_lookCall 73 = .ok (.iload 5, 2) := by decide +kernel
theorem d_Ck_lookCall_75 : decode c_Ck_lookCall 75 = .ok (.invokestatic 69, 3) := by decide +kernel
theorem d_Ck_lookCall_78 : decode c_Ck_lookCall 78 = .ok (.aload_n 0, 1) := by decide +kernel
theorem d_Ck_lookCall_79 : decode c_Ck_lookCall 79 = .ok (.getfield 19, 3) := by decide +kernel
theorem d_Ck_lookCall_82 : decode c_Ck_lookCall 82 = .ok (.iload 4, 2) := by decide +kernel
theorem d_Ck_lookCall_84 : decode c_Ck_lookCall 84 = .ok (.invokevirtual 132, 3) := by decide +kernel
theorem d_Ck_lookCall_87 : decode c_Ck_lookCall 87 = .ok (.invokevirtual 142, 3) := by decide +kernel
theorem d_Ck_lookCall_90 : decode c_Ck_lookCall 90 = .ok (.ifCond .ne 14, 3) := by decide +kernel
theorem d_Ck_lookCall_93 : decode c_Ck_lookCall 93 = .ok (.aload_n 0, 1) := by decide +kernel
theorem d_Ck_lookCall_94 : decode c_Ck_lookCall 94 = .ok (.bipush 6, 2) := by decide +kernel
theorem d_Ck_lookCall_96 : decode c_Ck_lookCall 96 = .ok (.aload_n 1, 1) := by decide +kernel
theorem d_Ck_lookCall_97 : decode c_Ck_lookCall 97 = .ok (.getfield 126, 3) := by decide +kernel
theorem d_Ck_lookCall_100 : decode c_Ck_lookCall 100 = .ok (.invokevirtual 58, 3) := by decide +kernel
theorem d_Ck_lookCall_103 : decode c_Ck_lookCall 103 = .ok (.ireturn, 1) := by decide +kernel
theorem d_Ck_lookCall_104 : decode c_Ck_lookCall 104 = .ok (.iload_n 3, 1) := by decide +kernel
theorem d_Ck_lookCall_105 : decode c_Ck_lookCall 105 = .ok (.invokestatic 65, 3) := by decide +kernel
theorem d_Ck_lookCall_108 : decode c_Ck_lookCall 108 = .ok (.iload 5, 2) := by decide +kernel
theorem d_Ck_lookCall_110 : decode c_Ck_lookCall 110 = .ok (.invokestatic 65, 3) := by decide +kernel
theorem d_Ck_lookCall_113 : decode c_Ck_lookCall 113 = .ok (.ior, 1) := by decide +kernel
theorem d_Ck_lookCall_114 : decode c_Ck_lookCall 114 = .ok (.aload_n 0, 1) := by decide +kernel
theorem d_Ck_lookCall_115 : decode c_Ck_lookCall 115 = .ok (.getfield 19, 3) := by decide +kernel
theorem d_Ck_lookCall_118 : decode c_Ck_lookCall 118 = .ok (.iload 4, 2) := by decide +kernel
theorem d_Ck_lookCall_120 : decode c_Ck_lookCall 120 = .ok (.invokevirtual 146, 3) := by decide +kernel
theorem d_Ck_lookCall_123 : decode c_Ck_lookCall 123 = .ok (.ior, 1) := by decide +kernel
theorem d_Ck_lookCall_124 : decode c_Ck_lookCall 124 = .ok (.istore 6, 2) := by decide +kernel
theorem d_Ck_lookCall_126 : decode c_Ck_lookCall 126 = .ok (.aload_n 0, 1) := by decide +kernel
theorem d_Ck_lookCall_127 : decode c_Ck_lookCall 127 = .ok (.getfield 19, 3) := by decide +kernel
theorem d_Ck_lookCall_130 : decode c_Ck_lookCall 130 = .ok (.iload 4, 2) := by decide +kernel
theorem d_Ck_lookCall_132 : decode c_Ck_lookCall 132 = .ok (.invokevirtual 139, 3) := by decide +kernel
theorem d_Ck_lookCall_135 : decode c_Ck_lookCall 135 = .ok (.iload 6, 2) := by decide +kernel
theorem d_Ck_lookCall_137 : decode c_Ck_lookCall 137 = .ok (.invokestatic 83, 3) := by decide +kernel
theorem d_Ck_lookCall_140 : decode c_Ck_lookCall 140 = .ok (.ireturn, 1) := by decide +kernel
theorem d_Ck_lookPerform_0 : decode c_Ck_lookPerform 0 = .ok (.aload_n 0, 1) := by decide +kernel
theorem d_Ck_lookPerform_1 : decode c_Ck_lookPerform 1 = .ok (.aload_n 1, 1) := by decide +kernel
theorem d_Ck_lookPerform_2 : decode c_Ck_lookPerform 2 = .ok (.getfield 117, 3) := by decide +kernel
theorem d_Ck_lookPerform_5 : decode c_Ck_lookPerform 5 = .ok (.iload_n 2, 1) := by decide +kernel
theorem d_Ck_lookPerform_6 : decode c_Ck_lookPerform 6 = .ok (.iconst 1, 1) := by decide +kernel
theorem d_Ck_lookPerform_7 : decode c_Ck_lookPerform 7 = .ok (.iadd, 1) := by decide +kernel
theorem d_Ck_lookPerform_8 : decode c_Ck_lookPerform 8 = .ok (.invokevirtual 54, 3) := by decide +kernel
theorem d_Ck_lookPerform_11 : decode c_Ck_lookPerform 11 = .ok (.istore_n 3, 1) := by decide +kernel
theorem d_Ck_lookPerform_12 : decode c_Ck_lookPerform 12 = .ok (.aload_n 1, 1) := by decide +kernel
theorem d_Ck_lookPerform_13 : decode c_Ck_lookPerform 13 = .ok (.getfield 114, 3) := by decide +kernel
theorem d_Ck_lookPerform_16 : decode c_Ck_lookPerform 16 = .ok (.istore 4, 2) := by decide +kernel
theorem d_Ck_lookPerform_18 : decode c_Ck_lookPerform 18 = .ok (.iload_n 3, 1) := by decide +kernel
theorem d_Ck_lookPerform_19 : decode c_Ck_lookPerform 19 = .ok (.iconst (-1), 1) := by decide +kernel
theorem d_Ck_lookPerform_20 : decode c_Ck_lookPerform 20 = .ok (.if_icmp .eq 15, 3) := by decide +kernel
theorem d_Ck_lookPerform_23 : decode c_Ck_lookPerform 23 = .ok (.iload 4, 2) := by decide +kernel
theorem d_Ck_lookPerform_25 : decode c_Ck_lookPerform 25 = .ok (.ifCond .lt 10, 3) := by decide +kernel
theorem d_Ck_lookPerform_28 : decode c_Ck_lookPerform 28 = .ok (.iload 4, 2) := by decide +kernel
theorem d_Ck_lookPerform_30 : decode c_Ck_lookPerform 30 = .ok (.bipush 8, 2) := by decide +kernel
theorem d_Ck_lookPerform_32 : decode c_Ck_lookPerform 32 = .ok (.if_icmp .lt 5, 3) := by decide +kernel
theorem d_Ck_lookPerform_35 : decode c_Ck_lookPerform 35 = .ok (.iconst (-1), 1) := by decide +kernel
theorem d_Ck_lookPerform_36 : decode c_Ck_lookPerform 36 = .ok (.ireturn, 1) := by decide +kernel
theorem d_Ck_lookPerform_37 : decode c_Ck_lookPerform 37 = .ok (.aload_n 0, 1) := by decide +kernel
theorem d_Ck_lookPerform_38 : decode c_Ck_lookPerform 38 = .ok (.getfield 19, 3) := by decide +kernel
theorem d_Ck_lookPerform_41 : decode c_Ck_lookPerform 41 = .ok (.iload_n 3, 1) := by decide +kernel
theorem d_Ck_lookPerform_42 : decode c_Ck_lookPerform 42 = .ok (.invokestatic 69, 3) := by decide +kernel
theorem d_Ck_lookPerform_45 : decode c_Ck_lookPerform 45 = .ok (.aload_n 0, 1) := by decide +kernel
theorem d_Ck_lookPerform_46 : decode c_Ck_lookPerform 46 = .ok (.getfield 23, 3) := by decide +kernel
theorem d_Ck_lookPerform_49 : decode c_Ck_lookPerform 49 = .ok (.iload 4, 2) := by decide +kernel
theorem d_Ck_lookPerform_51 : decode c_Ck_lookPerform 51 = .ok (.iaload, 1) := by decide +kernel
theorem d_Ck_lookPerform_52 : decode c_Ck_lookPerform 52 = .ok (.invokevirtual 142, 3) := by decide +kernel
theorem d_Ck_lookPerform_55 : decode c_Ck_lookPerform 55 = .ok (.ifCond .ne 14, 3) := by decide +kernel
theorem d_Ck_lookPerform_58 : decode c_Ck_lookPerform 58 = .ok (.aload_n 0, 1) := by decide +kernel
theorem d_Ck_lookPerform_59 : decode c_Ck_lookPerform 59 = .ok (.bipush 6, 2) := by decide +kernel
theorem d_Ck_lookPerform_61 : decode c_Ck_lookPerform 61 = .ok (.aload_n 1, 1) := by decide +kernel
theorem d_Ck_lookPerform_62 : decode c_Ck_lookPerform 62 = .ok (.getfield 117, 3) := by decide +kernel
theorem d_Ck_lookPerform_65 : decode c_Ck_lookPerform 65 = .ok (.invokevirtual 58, 3) := by decide +kernel
theorem d_Ck_lookPerform_68 : decode c_Ck_lookPerform 68 = .ok (.ireturn, 1) := by decide +kernel
theorem d_Ck_lookPerform_69 : decode c_Ck_lookPerform 69 = .ok (.aload_n 0, 1) := by decide +kernel
theorem d_Ck_lookPerform_70 : decode c_Ck_lookPerform 70 = .ok (.getfield 26, 3) := by decide +kernel
theorem d_Ck_lookPerform_73 : decode c_Ck_lookPerform 73 = .ok (.iload 4, 2) := by decide +kernel
theorem d_Ck_lookPerform_75 : decode c_Ck_lookPerform 75 = .ok (.iaload, 1) := by decide +kernel
theorem d_Ck_lookPerform_76 : decode c_Ck_lookPerform 76 = .ok (.iload_n 3, 1) := by decide +kernel
theorem d_Ck_lookPerform_77 : decode c_Ck_lookPerform 77 = .ok (.invokestatic 65, 3) := by decide +kernel
theorem d_Ck_lookPerform_80 : decode c_Ck_lookPerform 80 = .ok (.iconst 1, 1) := by decide +kernel
theorem d_Ck_lookPerform_81 : decode c_Ck_lookPerform 81 = .ok (.iload 4, 2) := by decide +kernel
theorem d_Ck_lookPerform_83 : decode c_Ck_lookPerform 83 = .ok (.ishl, 1) := by decide +kernel
theorem d_Ck_lookPerform_84 : decode c_Ck_lookPerform 84 = .ok (.ior, 1) := by decide +kernel
theorem d_Ck_lookPerform_85 : decode c_Ck_lookPerform 85 = .ok (.invokestatic 83, 3) := by decide +kernel
theorem d_Ck_lookPerform_88 : decode c_Ck_lookPerform 88 = .ok (.ireturn, 1) := by decide +kernel
theorem d_Ck_lookHandle_0 : decode c_Ck_lookHandle 0 = .ok (.aload_n 0, 1) := by decide +kernel
theorem d_Ck_lookHandle_1 : decode c_Ck_lookHandle 1 = .ok (.aload_n 1, 1) := by decide +kernel
theorem d_Ck_lookHandle_2 : decode c_Ck_lookHandle 2 = .ok (.getfield 117, 3) := by decide +kernel
theorem d_Ck_lookHandle_5 : decode c_Ck_lookHandle 5 = .ok (.iload_n 2, 1) := by decide +kernel
theorem d_Ck_lookHandle_6 : decode c_Ck_lookHandle 6 = .ok (.iconst 1, 1) := by decide +kernel
theorem d_Ck_lookHandle_7 : decode c_Ck_lookHandle 7 = .ok (.iadd, 1) := by decide +kernel
theorem d_Ck_lookHandle_8 : decode c_Ck_lookHandle 8 = .ok (.invokevirtual 54, 3) := by decide +kernel
theorem d_Ck_lookHandle_11 : decode c_Ck_lookHandle 11 = .ok (.istore_n 3, 1) := by decide +kernel
theorem d_Ck_lookHandle_12 : decode c_Ck_lookHandle 12 = .ok (.iload_n 3, 1) := by decide +kernel
theorem d_Ck_lookHandle_13 : decode c_Ck_lookHandle 13 = .ok (.iconst (-1), 1) := by decide +kernel
theorem d_Ck_lookHandle_14 : decode c_Ck_lookHandle 14 = .ok (.if_icmp .ne 5, 3) := by decide +kernel
theorem d_Ck_lookHandle_17 : decode c_Ck_lookHandle 17 = .ok (.iconst (-1), 1) := by decide +kernel
theorem d_Ck_lookHandle_18 : decode c_Ck_lookHandle 18 = .ok (.ireturn, 1) := by decide +kernel
theorem d_Ck_lookHandle_19 : decode c_Ck_lookHandle 19 = .ok (.aload_n 0, 1) := by decide +kernel
theorem d_Ck_lookHandle_20 : decode c_Ck_lookHandle 20 = .ok (.aload_n 1, 1) := by decide +kernel
theorem d_Ck_lookHandle_21 : decode c_Ck_lookHandle 21 = .ok (.getfield 120, 3) := by decide +kernel
theorem d_Ck_lookHandle_24 : decode c_Ck_lookHandle 24 = .ok (.iload_n 3, 1) := by decide +kernel
theorem d_Ck_lookHandle_25 : decode c_Ck_lookHandle 25 = .ok (.invokestatic 69, 3) := by decide +kernel
theorem d_Ck_lookHandle_28 : decode c_Ck_lookHandle 28 = .ok (.invokevirtual 123, 3) := by decide +kernel
theorem d_Ck_lookHandle_31 : decode c_Ck_lookHandle 31 = .ok (.istore 4, 2) := by decide +kernel
theorem d_Ck_lookHandle_33 : decode c_Ck_lookHandle 33 = .ok (.aload_n 0, 1) := by decide +kernel
theorem d_Ck_lookHandle_34 : decode c_Ck_lookHandle 34 = .ok (.aload_n 1, 1) := by decide +kernel
theorem d_Ck_lookHandle_35 : decode c_Ck_lookHandle 35 = .ok (.getfield 126, 3) := by decide +kernel
theorem d_Ck_lookHandle_38 : decode c_Ck_lookHandle 38 = .ok (.iload_n 2, 1) := by decide +kernel
theorem d_Ck_lookHandle_39 : decode c_Ck_lookHandle 39 = .ok (.iconst 1, 1) := by decide +kernel
theorem d_Ck_lookHandle_40 : decode c_Ck_lookHandle 40 = .ok (.iadd, 1) := by decide +kernel
theorem d_Ck_lookHandle_41 : decode c_Ck_lookHandle 41 = .ok (.invokevirtual 54, 3) := by decide +kernel
theorem d_Ck_lookHandle_44 : decode c_Ck_lookHandle 44 = .ok (.istore 5, 2) := by decide +kernel
theorem d_Ck_lookHandle_46 : decode c_Ck_lookHandle 46 = .ok (.aload_n 0, 1) := by decide +kernel
theorem d_Ck_lookHandle_47 : decode c_Ck_lookHandle 47 = .ok (.aload_n 1, 1) := by decide +kernel
theorem d_Ck_lookHandle_48 : decode c_Ck_lookHandle 48 = .ok (.getfield 120, 3) := by decide +kernel
theorem d_Ck_lookHandle_51 : decode c_Ck_lookHandle 51 = .ok (.iload 4, 2) := by decide +kernel
theorem d_Ck_lookHandle_53 : decode c_Ck_lookHandle 53 = .ok (.invokevirtual 123, 3) := by decide +kernel
theorem d_Ck_lookHandle_56 : decode c_Ck_lookHandle 56 = .ok (.pop, 1) := by decide +kernel
theorem d_Ck_lookHandle_57 : decode c_Ck_lookHandle 57 = .ok (.iload 5, 2) := by decide +kernel
theorem d_Ck_lookHandle_59 : decode c_Ck_lookHandle 59 = .ok (.iconst (-1), 1) := by decide +kernel
theorem d_Ck_lookHandle_60 : decode c_Ck_lookHandle 60 = .ok (.if_icmp .ne 5, 3) := by decide +kernel
theorem d_Ck_lookHandle_63 : decode c_Ck_lookHandle 63 = .ok (.iconst (-1), 1) := by decide +kernel
theorem d_Ck_lookHandle_64 : decode c_Ck_lookHandle 64 = .ok (.ireturn, 1) := by decide +kernel
theorem d_Ck_lookHandle_65 : decode c_Ck_lookHandle 65 = .ok (.aload_n 1, 1) := by decide +kernel
theorem d_Ck_lookHandle_66 : decode c_Ck_lookHandle 66 = .ok (.getfield 114, 3) := by decide +kernel
theorem d_Ck_lookHandle_69 : decode c_Ck_lookHandle 69 = .ok (.istore 6, 2) := by decide +kernel
theorem d_Ck_lookHandle_71 : decode c_Ck_lookHandle 71 = .ok (.iload 5, 2) := by decide +kernel
theorem d_Ck_lookHandle_73 : decode c_Ck_lookHandle 73 = .ok (.invokestatic 69, 3) := by decide +kernel
theorem d_Ck_lookHandle_76 : decode c_Ck_lookHandle 76 = .ok (.istore 7, 2) := by decide +kernel
theorem d_Ck_lookHandle_78 : decode c_Ck_lookHandle 78 = .ok (.iload 5, 2) := by decide +kernel
theorem d_Ck_lookHandle_80 : decode c_Ck_lookHandle 80 = .ok (.invokestatic 65, 3) := by decide +kernel
theorem d_Ck_lookHandle_83 : decode c_Ck_lookHandle 83 = .ok (.iload 6, 2) := by decide +kernel
theorem d_Ck_lookHandle_85 : decode c_Ck_lookHandle 85 = .ok (.invokestatic 149, 3) := by decide +kernel
theorem d_Ck_lookHandle_88 : decode c_Ck_lookHandle 88 = .ok (.ifCond .ne 14, 3) := by decide +kernel
theorem d_Ck_lookHandle_91 : decode c_Ck_lookHandle 91 = .ok (.aload_n 0, 1) := by decide +kernel
theorem d_Ck_lookHandle_92 : decode c_Ck_lookHandle 92 = .ok (.bipush 7, 2) := by decide +kernel
theorem d_Ck_lookHandle_94 : decode c_Ck_lookHandle 94 = .ok (.aload_n 1, 1) := by decide +kernel
theorem d_Ck_lookHandle_95 : decode c_Ck_lookHandle 95 = .ok (.getfield 126, 3) := by decide +kernel
theorem d_Ck_lookHandle_98 : decode c_Ck_lookHandle 98 = .ok (.invokevirtual 58, 3) := by decide +kernel
theorem d_Ck_lookHandle_101 : decode c_Ck_lookHandle 101 = .ok (.ireturn, 1) := by decide +kernel
theorem d_Ck_lookHandle_102 : decode c_Ck_lookHandle 102 = .ok (.iconst 0, 1) := by decide +kernel
theorem d_Ck_lookHandle_103 : decode c_Ck_lookHandle 103 = .ok (.istore 8, 2) := by decide +kernel
theorem d_Ck_lookHandle_105 : decode c_Ck_lookHandle 105 = .ok (.aload_n 1, 1) := by decide +kernel
theorem d_Ck_lookHandle_106 : decode c_Ck_lookHandle 106 = .ok (.getfield 163, 3) := by decide +kernel
theorem d_Ck_lookHandle_109 : decode c_Ck_lookHandle 109 = .ok (.istore 9, 2) := by decide +kernel
theorem d_Ck_lookHandle_111 : decode c_Ck_lookHandle 111 = .ok (.iload 9, 2) := by decide +kernel
theorem d_Ck_lookHandle_113 : decode c_Ck_lookHandle 113 = .ok (.aload_n 1, 1) := by decide +kernel
theorem d_Ck_lookHandle_114 : decode c_Ck_lookHandle 114 = .ok (.getfield 166, 3) := by decide +kernel
theorem d_Ck_lookHandle_117 : decode c_Ck_lookHandle 117 = .ok (.if_icmp .ge 72, 3) := by decide +kernel
theorem d_Ck_lookHandle_120 : decode c_Ck_lookHandle 120 = .ok (.aload_n 0, 1) := by decide +kernel
theorem d_Ck_lookHandle_121 : decode c_Ck_lookHandle 121 = .ok (.getfield 15, 3) := by decide +kernel
theorem d_Ck_lookHandle_124 : decode c_Ck_lookHandle 124 = .ok (.iload 9, 2) := by decide +kernel
theorem d_Ck_lookHandle_126 : decode c_Ck_lookHandle 126 = .ok (.invokevirtual 169, 3) := by decide +kernel
theorem d_Ck_lookHandle_129 : decode c_Ck_lookHandle 129 = .ok (.astore 10, 2) := by decide +kernel
theorem d_Ck_lookHandle_131 : decode c_Ck_lookHandle 131 = .ok (.iconst 1, 1) := by decide +kernel
theorem d_Ck_lookHandle_132 : decode c_Ck_lookHandle 132 = .ok (.aload 10, 2) := by decide +kernel
theorem d_Ck_lookHandle_134 : decode c_Ck_lookHandle 134 = .ok (.getfield 173, 3) := by decide +kernel
theorem d_Ck_lookHandle_137 : decode c_Ck_lookHandle 137 = .ok (.ishl, 1) := by decide +kernel
theorem d_Ck_lookHandle_138 : decode c_Ck_lookHandle 138 = .ok (.istore 11, 2) := by decide +kernel
theorem d_Ck_lookHandle_140 : decode c_Ck_lookHandle 140 = .ok (.iload 8, 2) := by decide +kernel
theorem d_Ck_lookHandle_142 : decode c_Ck_lookHandle 142 = .ok (.iload 11, 2) := by decide +kernel
theorem d_Ck_lookHandle_144 : decode c_Ck_lookHandle 144 = .ok (.iand, 1) := by decide +kernel
theorem d_Ck_lookHandle_145 : decode c_Ck_lookHandle 145 = .ok (.ifCond .eq 15, 3) := by decide +kernel
theorem d_Ck_lookHandle_148 : decode c_Ck_lookHandle 148 = .ok (.aload_n 0, 1) := by decide +kernel
theorem d_Ck_lookHandle_149 : decode c_Ck_lookHandle 149 = .ok (.bipush 8, 2) := by decide +kernel
theorem d_Ck_lookHandle_151 : decode c_Ck_lookHandle 151 = .ok (.aload 10, 2) := by decide +kernel
theorem d_Ck_lookHandle_153 : decode c_Ck_lookHandle 153 = .ok (.getfield 178, 3) := by decide +kernel
theorem d_Ck_lookHandle_156 : decode c_Ck_lookHandle 156 = .ok (.invokevirtual 58, 3) := by decide +kernel
theorem d_Ck_lookHandle_159 : decode c_Ck_lookHandle 159 = .ok (.ireturn, 1) := by decide +kernel
theorem d_Ck_lookHandle_160 : decode c_Ck_lookHandle 160 = .ok (.iload 8, 2) := by decide +kernel
theorem d_Ck_lookHandle_162 : decode c_Ck_lookHandle 162 = .ok (.iload 11, 2) := by decide +kernel
theorem d_Ck_lookHandle_164 : decode c_Ck_lookHandle 164 = .ok (.ior, 1) := by decide +kernel
theorem d_Ck_lookHandle_165 : decode c_Ck_lookHandle 165 = .ok (.istore 8, 2) := by decide +kernel
theorem d_Ck_lookHandle_167 : decode c_Ck_lookHandle 167 = .ok (.aload_n 0, 1) := by decide +kernel
theorem d_Ck_lookHandle_168 : decode c_Ck_lookHandle 168 = .ok (.aload 10, 2) := by decide +kernel
theorem d_Ck_lookHandle_170 : decode c_Ck_lookHandle 170 = .ok (.iload 7, 2) := by decide +kernel
theorem d_Ck_lookHandle_172 : decode c_Ck_lookHandle 172 = .ok (.iload 6, 2) := by decide +kernel
theorem d_Ck_lookHandle_174 : decode c_Ck_lookHandle 174 = .ok (.iload_n 2, 1) := by decide +kernel
theorem d_Ck_lookHandle_175 : decode c_Ck_lookHandle 175 = .ok (.invokevirtual 181, 3) := by decide +kernel
theorem d_Ck_lookHandle_178 : decode c_Ck_lookHandle 178 = .ok (.ifCond .ne 5, 3) := by decide +kernel
theorem d_Ck_lookHandle_181 : decode c_Ck_lookHandle 181 = .ok (.iconst (-1), 1) := by decide +kernel
theorem d_Ck_lookHandle_182 : decode c_Ck_lookHandle 182 = .ok (.ireturn, 1) := by decide +kernel
theorem d_Ck_lookHandle_183 : decode c_Ck_lookHandle 183 = .ok (.iinc 9 1, 3) := by decide +kernel
theorem d_Ck_lookHandle_186 : decode c_Ck_lookHandle 186 = .ok (.goto (-75), 3) := by decide +kernel
theorem d_Ck_lookHandle_189 : decode c_Ck_lookHandle 189 = .ok (.iload_n 3, 1) := by decide +kernel
theorem d_Ck_lookHandle_190 : decode c_Ck_lookHandle 190 = .ok (.invokestatic 65, 3) := by decide +kernel
theorem d_Ck_lookHandle_193 : decode c_Ck_lookHandle 193 = .ok (.iload 8, 2) := by decide +kernel
theorem d_Ck_lookHandle_195 : decode c_Ck_lookHandle 195 = .ok (.iconst (-1), 1) := by decide +kernel
theorem d_Ck_lookHandle_196 : decode c_Ck_lookHandle 196 = .ok (.ixor, 1) := by decide +kernel
theorem d_Ck_lookHandle_197 : decode c_Ck_lookHandle 197 = .ok (.iand, 1) := by decide +kernel
theorem d_Ck_lookHandle_198 : decode c_Ck_lookHandle 198 = .ok (.iload 6, 2) := by decide +kernel
theorem d_Ck_lookHandle_200 : decode c_Ck_lookHandle 200 = .ok (.invokestatic 149, 3) := by decide +kernel
theorem d_Ck_lookHandle_203 : decode c_Ck_lookHandle 203 = .ok (.ifCond .ne 14, 3) := by decide +kernel
theorem d_Ck_lookHandle_206 : decode c_Ck_lookHandle 206 = .ok (.aload_n 0, 1) := by decide +kernel
theorem d_Ck_lookHandle_207 : decode c_Ck_lookHandle 207 = .ok (.bipush 7, 2) := by decide +kernel
theorem d_Ck_lookHandle_209 : decode c_Ck_lookHandle 209 = .ok (.aload_n 1, 1) := by decide +kernel
theorem d_Ck_lookHandle_210 : decode c_Ck_lookHandle 210 = .ok (.getfield 117, 3) := by decide +kernel
theorem d_Ck_lookHandle_213 : decode c_Ck_lookHandle 213 = .ok (.invokevirtual 58, 3) := by decide +kernel
theorem d_Ck_lookHandle_216 : decode c_Ck_lookHandle 216 = .ok (.ireturn, 1) := by decide +kernel
theorem d_Ck_lookHandle_217 : decode c_Ck_lookHandle 217 = .ok (.iload 7, 2) := by decide +kernel
theorem d_Ck_lookHandle_219 : decode c_Ck_lookHandle 219 = .ok (.iload 6, 2) := by decide +kernel
theorem d_Ck_lookHandle_221 : decode c_Ck_lookHandle 221 = .ok (.invokestatic 83, 3) := by decide +kernel
theorem d_Ck_lookHandle_224 : decode c_Ck_lookHandle 224 = .ok (.ireturn, 1) := by decide +kernel
theorem d_Ck_clauseKeepsTo_0 : decode c_Ck_clauseKeepsTo 0 = .ok (.aload_n 1, 1) := by decide +kernel
theorem d_Ck_clauseKeepsTo_1 : decode c_Ck_clauseKeepsTo 1 = .ok (.getfield 173, 3) := by decide +kernel
theorem d_Ck_clauseKeepsTo_4 : decode c_Ck_clauseKeepsTo 4 = .ok (.istore 5, 2) := by decide +kernel
theorem d_Ck_clauseKeepsTo_6 : decode c_Ck_clauseKeepsTo 6 = .ok (.iload 5, 2) := by decide +kernel
theorem d_Ck_clauseKeepsTo_8 : decode c_Ck_clauseKeepsTo 8 = .ok (.ifCond .lt 10, 3) := by decide +kernel
theorem d_Ck_clauseKeepsTo_11 : decode c_Ck_clauseKeepsTo 11 = .ok (.iload 5, 2) := by decide +kernel
theorem d_Ck_clauseKeepsTo_13 : decode c_Ck_clauseKeepsTo 13 = .ok (.bipush 8, 2) := by decide +kernel
theorem d_Ck_clauseKeepsTo_15 : decode c_Ck_clauseKeepsTo 15 = .ok (.if_icmp .lt 5, 3) := by decide +kernel
theorem d_Ck_clauseKeepsTo_18 : decode c_Ck_clauseKeepsTo 18 = .ok (.iconst 0, 1) := by decide +kernel
theorem d_Ck_clauseKeepsTo_19 : decode c_Ck_clauseKeepsTo 19 = .ok (.ireturn, 1) := by decide +kernel
theorem d_Ck_clauseKeepsTo_20 : decode c_Ck_clauseKeepsTo 20 = .ok (.aload_n 0, 1) := by decide +kernel
theorem d_Ck_clauseKeepsTo_21 : decode c_Ck_clauseKeepsTo 21 = .ok (.getfield 19, 3) := by decide +kernel
theorem d_Ck_clauseKeepsTo_24 : decode c_Ck_clauseKeepsTo 24 = .ok (.aload_n 0, 1) := by decide +kernel
theorem d_Ck_clauseKeepsTo_25 : decode c_Ck_clauseKeepsTo 25 = .ok (.getfield 26, 3) := by decide +kernel
theorem d_Ck_clauseKeepsTo_28 : decode c_Ck_clauseKeepsTo 28 = .ok (.iload 5, 2) := by decide +kernel
theorem d_Ck_clauseKeepsTo_30 : decode c_Ck_clauseKeepsTo 30 = .ok (.iaload, 1) := by decide +kernel
theorem d_Ck_clauseKeepsTo_31 : decode c_Ck_clauseKeepsTo 31 = .ok (.iload_n 2, 1) := by decide +kernel
theorem d_Ck_clauseKeepsTo_32 : decode c_Ck_clauseKeepsTo 32 = .ok (.iload_n 3, 1) := by decide +kernel
theorem d_Ck_clauseKeepsTo_33 : decode c_Ck_clauseKeepsTo 33 = .ok (.invokevirtual 155, 3) := by decide +kernel
theorem d_Ck_clauseKeepsTo_36 : decode c_Ck_clauseKeepsTo 36 = .ok (.istore 6, 2) := by decide +kernel
theorem d_Ck_clauseKeepsTo_38 : decode c_Ck_clauseKeepsTo 38 = .ok (.aload_n 0, 1) := by decide +kernel
theorem d_Ck_clauseKeepsTo_39 : decode c_Ck_clauseKeepsTo 39 = .ok (.aload_n 1, 1) := by decide +kernel
theorem d_Ck_clauseKeepsTo_40 : decode c_Ck_clauseKeepsTo 40 = .ok (.getfield 185, 3) := by decide +kernel
theorem d_Ck_clauseKeepsTo_43 : decode c_Ck_clauseKeepsTo 43 = .ok (.aload_n 0, 1) := by decide +kernel
theorem d_Ck_clauseKeepsTo_44 : decode c_Ck_clauseKeepsTo 44 = .ok (.getfield 23, 3) := by decide +kernel
theorem d_Ck_clauseKeepsTo_47 : decode c_Ck_clauseKeepsTo 47 = .ok (.iload 5, 2) := by decide +kernel
theorem d_Ck_clauseKeepsTo_49 : decode c_Ck_clauseKeepsTo 49 = .ok (.iaload, 1) := by decide +kernel
theorem d_Ck_clauseKeepsTo_50 : decode c_Ck_clauseKeepsTo 50 = .ok (.invokevirtual 123, 3) := by decide +kernel
theorem d_Ck_clauseKeepsTo_53 : decode c_Ck_clauseKeepsTo 53 = .ok (.istore 7, 2) := by decide +kernel
theorem d_Ck_clauseKeepsTo_55 : decode c_Ck_clauseKeepsTo 55 = .ok (.aload_n 0, 1) := by decide +kernel
theorem d_Ck_clauseKeepsTo_56 : decode c_Ck_clauseKeepsTo 56 = .ok (.aload_n 1, 1) := by decide +kernel
theorem d_Ck_clauseKeepsTo_57 : decode c_Ck_clauseKeepsTo 57 = .ok (.getfield 188, 3) := by decide +kernel
theorem d_Ck_clauseKeepsTo_60 : decode c_Ck_clauseKeepsTo 60 = .ok (.iload 6, 2) := by decide +kernel
theorem d_Ck_clauseKeepsTo_62 : decode c_Ck_clauseKeepsTo 62 = .ok (.invokevirtual 123, 3) := by decide +kernel
theorem d_Ck_clauseKeepsTo_65 : decode c_Ck_clauseKeepsTo 65 = .ok (.istore 8, 2) := by decide +kernel
theorem d_Ck_clauseKeepsTo_67 : decode c_Ck_clauseKeepsTo 67 = .ok (.aload_n 0, 1) := by decide +kernel
theorem d_Ck_clauseKeepsTo_68 : decode c_Ck_clauseKeepsTo 68 = .ok (.aload_n 1, 1) := by decide +kernel
theorem d_Ck_clauseKeepsTo_69 : decode c_Ck_clauseKeepsTo 69 = .ok (.getfield 178, 3) := by decide +kernel
theorem d_Ck_clauseKeepsTo_72 : decode c_Ck_clauseKeepsTo 72 = .ok (.iload 4, 2) := by decide +kernel
theorem d_Ck_clauseKeepsTo_74 : decode c_Ck_clauseKeepsTo 74 = .ok (.iconst 1, 1) := by decide +kernel
theorem d_Ck_clauseKeepsTo_75 : decode c_Ck_clauseKeepsTo 75 = .ok (.iadd, 1) := by decide +kernel
theorem d_Ck_clauseKeepsTo_76 : decode c_Ck_clauseKeepsTo 76 = .ok (.invokevirtual 54, 3) := by decide +kernel
theorem d_Ck_clauseKeepsTo_79 : decode c_Ck_clauseKeepsTo 79 = .ok (.istore 9, 2) := by decide +kernel
theorem d_Ck_clauseKeepsTo_81 : decode c_Ck_clauseKeepsTo 81 = .ok (.aload_n 0, 1) := by decide +kernel
theorem d_Ck_clauseKeepsTo_82 : decode c_Ck_clauseKeepsTo 82 = .ok (.aload_n 1, 1) := by decide +kernel
theorem d_Ck_clauseKeepsTo_83 : decode c_Ck_clauseKeepsTo 83 = .ok (.getfield 188, 3) := by decide +kernel
theorem d_Ck_clauseKeepsTo_86 : decode c_Ck_clauseKeepsTo 86 = .ok (.iload 8, 2) := by decide +kernel
theorem d_Ck_clauseKeepsTo_88 : decode c_Ck_clauseKeepsTo 88 = .ok (.invokevirtual 123, 3) := by decide +kernel
theorem d_Ck_clauseKeepsTo_91 : decode c_Ck_clauseKeepsTo 91 = .ok (.pop, 1) := by decide +kernel
theorem d_Ck_clauseKeepsTo_92 : decode c_Ck_clauseKeepsTo 92 = .ok (.aload_n 0, 1) := by decide +kernel
theorem d_Ck_clauseKeepsTo_93 : decode c_Ck_clauseKeepsTo 93 = .ok (.aload_n 1, 1) := by decide +kernel
theorem d_Ck_clauseKeepsTo_94 : decode c_Ck_clauseKeepsTo 94 = .ok (.getfield 185, 3) := by decide +kernel
theorem d_Ck_clauseKeepsTo_97 : decode c_Ck_clauseKeepsTo 97 = .ok (.iload 7, 2) := by decide +kernel
theorem d_Ck_clauseKeepsTo_99 : decode c_Ck_clauseKeepsTo 99 = .ok (.invokevirtual 123, 3) := by decide +kernel
theorem d_Ck_clauseKeepsTo_102 : decode c_Ck_clauseKeepsTo 102 = .ok (.pop, 1) := by decide +kernel
theorem d_Ck_clauseKeepsTo_103 : decode c_Ck_clauseKeepsTo 103 = .ok (.iload 9, 2) := by decide +kernel
theorem d_Ck_clauseKeepsTo_105 : decode c_Ck_clauseKeepsTo 105 = .ok (.iconst (-1), 1) := by decide +kernel
theorem d_Ck_clauseKeepsTo_106 : decode c_Ck_clauseKeepsTo 106 = .ok (.if_icmp .ne 5, 3) := by decide +kernel
theorem d_Ck_clauseKeepsTo_109 : decode c_Ck_clauseKeepsTo 109 = .ok (.iconst 0, 1) := by decide +kernel
theorem d_Ck_clauseKeepsTo_110 : decode c_Ck_clauseKeepsTo 110 = .ok (.ireturn, 1) := by decide +kernel
theorem d_Ck_clauseKeepsTo_111 : decode c_Ck_clauseKeepsTo 111 = .ok (.aload_n 0, 1) := by decide +kernel
theorem d_Ck_clauseKeepsTo_112 : decode c_Ck_clauseKeepsTo 112 = .ok (.getfield 19, 3) := by decide +kernel
theorem d_Ck_clauseKeepsTo_115 : decode c_Ck_clauseKeepsTo 115 = .ok (.iload 9, 2) := by decide +kernel
theorem d_Ck_clauseKeepsTo_117 : decode c_Ck_clauseKeepsTo 117 = .ok (.invokestatic 69, 3) := by decide +kernel
theorem d_Ck_clauseKeepsTo_120 : decode c_Ck_clauseKeepsTo 120 = .ok (.iload_n 2, 1) := by decide +kernel
theorem d_Ck_clauseKeepsTo_121 : decode c_Ck_clauseKeepsTo 121 = .ok (.invokevirtual 142, 3) := by decide +kernel
theorem d_Ck_clauseKeepsTo_124 : decode c_Ck_clauseKeepsTo 124 = .ok (.ifCond .ne 16, 3) := by decide +kernel
theorem d_Ck_clauseKeepsTo_127 : decode c_Ck_clauseKeepsTo 127 = .ok (.aload_n 0, 1) := by decide +kernel
theorem d_Ck_clauseKeepsTo_128 : decode c_Ck_clauseKeepsTo 128 = .ok (.bipush 6, 2) := by decide +kernel
theorem d_Ck_clauseKeepsTo_130 : decode c_Ck_clauseKeepsTo 130 = .ok (.aload_n 1, 1) := by decide +kernel
theorem d_Ck_clauseKeepsTo_131 : decode c_Ck_clauseKeepsTo 131 = .ok (.getfield 178, 3) := by decide +kernel
theorem d_Ck_clauseKeepsTo_134 : decode c_Ck_clauseKeepsTo 134 = .ok (.invokevirtual 58, 3) := by decide +kernel
theorem d_Ck_clauseKeepsTo_137 : decode c_Ck_clauseKeepsTo 137 = .ok (.pop, 1) := by decide +kernel
theorem d_Ck_clauseKeepsTo_138 : decode c_Ck_clauseKeepsTo 138 = .ok (.iconst 0, 1) := by decide +kernel
theorem d_Ck_clauseKeepsTo_139 : decode c_Ck_clauseKeepsTo 139 = .ok (.ireturn, 1) := by decide +kernel
theorem d_Ck_clauseKeepsTo_140 : decode c_Ck_clauseKeepsTo 140 = .ok (.iload 9, 2) := by decide +kernel
theorem d_Ck_clauseKeepsTo_142 : decode c_Ck_clauseKeepsTo 142 = .ok (.invokestatic 65, 3) := by decide +kernel
theorem d_Ck_clauseKeepsTo_145 : decode c_Ck_clauseKeepsTo 145 = .ok (.iload_n 3, 1) := by decide +kernel
theorem d_Ck_clauseKeepsTo_146 : decode c_Ck_clauseKeepsTo 146 = .ok (.invokestatic 149, 3) := by decide +kernel
theorem d_Ck_clauseKeepsTo_149 : decode c_Ck_clauseKeepsTo 149 = .ok (.ifCond .ne 16, 3) := by decide +kernel
theorem d_Ck_clauseKeepsTo_152 : decode c_Ck_clauseKeepsTo 152 = .ok (.aload_n 0, 1) := by decide +kernel
theorem d_Ck_clauseKeepsTo_153 : decode c_Ck_clauseKeepsTo 153 = .ok (.bipush 7, 2) := by decide +kernel
theorem d_Ck_clauseKeepsTo_155 : decode c_Ck_clauseKeepsTo 155 = .ok (.aload_n 1, 1) := by decide +kernel
theorem d_Ck_clauseKeepsTo_156 : decode c_Ck_clauseKeepsTo 156 = .ok (.getfield 178, 3) := by decide +kernel
theorem d_Ck_clauseKeepsTo_159 : decode c_Ck_clauseKeepsTo 159 = .ok (.invokevirtual 58, 3) := by decide +kernel
theorem d_Ck_clauseKeepsTo_162 : decode c_Ck_clauseKeepsTo 162 = .ok (.pop, 1) := by decide +kernel
theorem d_Ck_clauseKeepsTo_163 : decode c_Ck_clauseKeepsTo 163 = .ok (.iconst 0, 1) := by decide +kernel
theorem d_Ck_clauseKeepsTo_164 : decode c_Ck_clauseKeepsTo 164 = .ok (.ireturn, 1) := by decide +kernel
theorem d_Ck_clauseKeepsTo_165 : decode c_Ck_clauseKeepsTo 165 = .ok (.iconst 1, 1) := by decide +kernel
theorem d_Ck_clauseKeepsTo_166 : decode c_Ck_clauseKeepsTo 166 = .ok (.ireturn, 1) := by decide +kernel
theorem d_Co_init_0 : decode c_Co_init 0 = .ok (.aload_n 0, 1) := by decide +kernel
theorem d_Co_init_1 : decode c_Co_init 1 = .ok (.invokespecial 3, 3) := by decide +kernel
theorem d_Co_init_4 : decode c_Co_init 4 = .ok (.aload_n 0, 1) := by decide +kernel
theorem d_Co_init_5 : decode c_Co_init 5 = .ok (.new 9, 3) := by decide +kernel
theorem d_Co_init_8 : decode c_Co_init 8 = .ok (.dup, 1) := by decide +kernel
theorem d_Co_init_9 : decode c_Co_init 9 = .ok (.invokespecial 11, 3) := by decide +kernel
theorem d_Co_init_12 : decode c_Co_init 12 = .ok (.putfield 12, 3) := by decide +kernel
theorem d_Co_init_15 : decode c_Co_init 15 = .ok (.aload_n 0, 1) := by decide +kernel
theorem d_Co_init_16 : decode c_Co_init 16 = .ok (.aload_n 1, 1) := by decide +kernel
theorem d_Co_init_17 : decode c_Co_init 17 = .ok (.putfield 18, 3) := by decide +kernel
theorem d_Co_init_20 : decode c_Co_init 20 = .ok (.return_, 1) := by decide +kernel
theorem d_Co_operation_0 : decode c_Co_operation 0 = .ok (.aload_n 0, 1) := by decide +kernel
theorem d_Co_operation_1 : decode c_Co_operation 1 = .ok (.getfield 12, 3) := by decide +kernel
theorem d_Co_operation_4 : decode c_Co_operation 4 = .ok (.iload_n 1, 1) := by decide +kernel
theorem d_Co_operation_5 : decode c_Co_operation 5 = .ok (.iconst 5, 1) := by decide +kernel
theorem d_Co_operation_6 : decode c_Co_operation 6 = .ok (.imul, 1) := by decide +kernel
theorem d_Co_operation_7 : decode c_Co_operation 7 = .ok (.invokevirtual 22, 3) := by decide +kernel
theorem d_Co_operation_10 : decode c_Co_operation 10 = .ok (.ireturn, 1) := by decide +kernel
theorem d_Co_field_0 : decode c_Co_field 0 = .ok (.aload_n 0, 1) := by decide +kernel
theorem d_Co_field_1 : decode c_Co_field 1 = .ok (.getfield 12, 3) := by decide +kernel
theorem d_Co_field_4 : decode c_Co_field 4 = .ok (.iload_n 1, 1) := by decide +kernel
theorem d_Co_field_5 : decode c_Co_field 5 = .ok (.iconst 5, 1) := by decide +kernel
theorem d_Co_field_6 : decode c_Co_field 6 = .ok (.imul, 1) := by decide +kernel
theorem d_Co_field_7 : decode c_Co_field 7 = .ok (.iload_n 2, 1) := by decide +kernel
theorem d_Co_field_8 : decode c_Co_field 8 = .ok (.iadd, 1) := by decide +kernel
theorem d_Co_field_9 : decode c_Co_field 9 = .ok (.invokevirtual 22, 3) := by decide +kernel
theorem d_Co_field_12 : decode c_Co_field 12 = .ok (.ireturn, 1) := by decide +kernel
theorem d_Co_compile_0 : decode c_Co_compile 0 = .ok (.aload_n 0, 1) := by decide +kernel
theorem d_Co_compile_1 : decode c_Co_compile 1 = .ok (.iconst 0, 1) := by decide +kernel
theorem d_Co_compile_2 : decode c_Co_compile 2 = .ok (.putfield 26, 3) := by decide +kernel
theorem d_Co_compile_5 : decode c_Co_compile 5 = .ok (.aload_n 0, 1) := by decide +kernel
theorem d_Co_compile_6 : decode c_Co_compile 6 = .ok (.iload_n 1, 1) := by decide +kernel
theorem d_Co_compile_7 : decode c_Co_compile 7 = .ok (.iconst 1, 1) := by decide +kernel
theorem d_Co_compile_8 : decode c_Co_compile 8 = .ok (.invokevirtual 30, 3) := by decide +kernel
theorem d_Co_compile_11 : decode c_Co_compile 11 = .ok (.aload_n 0, 1) := by decide +kernel
theorem d_Co_compile_12 : decode c_Co_compile 12 = .ok (.iconst 0, 1) := by decide +kernel
theorem d_Co_compile_13 : decode c_Co_compile 13 = .ok (.iconst 0, 1) := by decide +kernel
theorem d_Co_compile_14 : decode c_Co_compile 14 = .ok (.invokevirtual 34, 3) := by decide +kernel
theorem d_Co_compile_17 : decode c_Co_compile 17 = .ok (.pop, 1) := by decide +kernel
theorem d_Co_compile_18 : decode c_Co_compile 18 = .ok (.return_, 1) := by decide +kernel
theorem d_Co_caseOf_0 : decode c_Co_caseOf 0 = .ok (.aload_n 1, 1) := by decide +kernel
theorem d_Co_caseOf_1 : decode c_Co_caseOf 1 = .ok (.ifnonnull 5, 3) := by decide +kernel
theorem d_Co_caseOf_4 : decode c_Co_caseOf 4 = .ok (.iconst (-1), 1) := by decide +kernel
theorem d_Co_caseOf_5 : decode c_Co_caseOf 5 = .ok (.ireturn, 1) := by decide +kernel
theorem d_Co_caseOf_6 : decode c_Co_caseOf 6 = .ok (.aload_n 1, 1) := by decide +kernel
theorem d_Co_caseOf_7 : decode c_Co_caseOf 7 = .ok (.getfield 38, 3) := by decide +kernel
theorem d_Co_caseOf_10 : decode c_Co_caseOf 10 = .ok (.istore_n 3, 1) := by decide +kernel
theorem d_Co_caseOf_11 : decode c_Co_caseOf 11 = .ok (.aload_n 0, 1) := by decide +kernel
theorem d_Co_caseOf_12 : decode c_Co_caseOf 12 = .ok (.iload_n 3, 1) := by decide +kernel
theorem d_Co_caseOf_13 : decode c_Co_caseOf 13 = .ok (.iconst 4, 1) := by decide +kernel
theorem d_Co_caseOf_14 : decode c_Co_caseOf 14 = .ok (.invokevirtual 43, 3) := by decide +kernel
theorem d_Co_caseOf_17 : decode c_Co_caseOf 17 = .ok (.istore 4, 2) := by decide +kernel
theorem d_Co_caseOf_19 : decode c_Co_caseOf 19 = .ok (.iconst 1, 1) := by decide +kernel
theorem d_Co_caseOf_20 : decode c_Co_caseOf 20 = .ok (.istore 5, 2) := by decide +kernel
theorem d_Co_caseOf_22 : decode c_Co_caseOf 22 = .ok (.iload 5, 2) := by decide +kernel
theorem d_Co_caseOf_24 : decode c_Co_caseOf 24 = .ok (.iload 4, 2) := by decide +kernel
theorem d_Co_caseOf_26 : decode c_Co_caseOf 26 = .ok (.if_icmp .gt 34, 3) := by decide +kernel
theorem d_Co_caseOf_29 : decode c_Co_caseOf 29 = .ok (.iload 5, 2) := by decide +kernel
theorem d_Co_caseOf_31 : decode c_Co_caseOf 31 = .ok (.bipush 8, 2) := by decide +kernel
theorem d_Co_caseOf_33 : decode c_Co_caseOf 33 = .ok (.if_icmp .gt 27, 3) := by decide +kernel
theorem d_Co_caseOf_36 : decode c_Co_caseOf 36 = .ok (.aload_n 0, 1) := by decide +kernel
theorem d_Co_caseOf_37 : decode c_Co_caseOf 37 = .ok (.iload_n 3, 1) := by decide +kernel
theorem d_Co_caseOf_38 : decode c_Co_caseOf 38 = .ok (.iload 5, 2) := by decide +kernel
theorem d_Co_caseOf_40 : decode c_Co_caseOf 40 = .ok (.iadd, 1) := by decide +kernel
theorem d_Co_caseOf_41 : decode c_Co_caseOf 41 = .ok (.iconst 1, 1) := by decide +kernel
theorem d_Co_caseOf_42 : decode c_Co_caseOf 42 = .ok (.invokevirtual 43, 3) := by decide +kernel
theorem d_Co_caseOf_45 : decode c_Co_caseOf 45 = .ok (.iload_n 2, 1) := by decide +kernel
theorem d_Co_caseOf_46 : decode c_Co_caseOf 46 = .ok (.if_icmp .ne 8, 3) := by decide +kernel
theorem d_Co_caseOf_49 : decode c_Co_caseOf 49 = .ok (.iload_n 3, 1) := by decide +kernel
theorem d_Co_caseOf_50 : decode c_Co_caseOf 50 = .ok (.iload 5, 2) := by decide +kernel
theorem d_Co_caseOf_52 : decode c_Co_caseOf 52 = .ok (.iadd, 1) := by decide +kernel
theorem d_Co_caseOf_53 : decode c_Co_caseOf 53 = .ok (.ireturn, 1) := by decide +kernel
theorem d_Co_caseOf_54 : decode c_Co_caseOf 54 = .ok (.iinc 5 1, 3) := by decide +kernel
theorem d_Co_caseOf_57 : decode c_Co_caseOf 57 = .ok (.goto (-35), 3) := by decide +kernel
theorem d_Co_caseOf_60 : decode c_Co_caseOf 60 = .ok (.iconst (-1), 1) := by decide +kernel
theorem d_Co_caseOf_61 : decode c_Co_caseOf 61 = .ok (.ireturn, 1) := by decide +kernel
theorem d_Co_add_0 : decode c_Co_add 0 = .ok (.aload_n 0, 1) := by decide +kernel
theorem d_Co_add_1 : decode c_Co_add 1 = .ok (.getfield 26, 3) := by decide +kernel
theorem d_Co_add_4 : decode c_Co_add 4 = .ok (.istore_n 3, 1) := by decide +kernel
theorem d_Co_add_5 : decode c_Co_add 5 = .ok (.aload_n 0, 1) := by decide +kernel
theorem d_Co_add_6 : decode c_Co_add 6 = .ok (.getfield 12, 3) := by decide +kernel
theorem d_Co_add_9 : decode c_Co_add 9 = .ok (.iload_n 3, 1) := by decide +kernel
theorem d_Co_add_10 : decode c_Co_add 10 = .ok (.iconst 5, 1) := by decide +kernel
theorem d_Co_add_11 : decode c_Co_add 11 = .ok (.imul, 1) := by decide +kernel
theorem d_Co_add_12 : decode c_Co_add 12 = .ok (.iload_n 1, 1) := by decide +kernel
theorem d_Co_add_13 : decode c_Co_add 13 = .ok (.invokevirtual 46, 3) := by decide +kernel
theorem d_Co_add_16 : decode c_Co_add 16 = .ok (.aload_n 0, 1) := by decide +kernel
theorem d_Co_add_17 : decode c_Co_add 17 = .ok (.getfield 12, 3) := by decide +kernel
theorem d_Co_add_20 : decode c_Co_add 20 = .ok (.iload_n 3, 1) := by decide +kernel
theorem d_Co_add_21 : decode c_Co_add 21 = .ok (.iconst 5, 1) := by decide +kernel
theorem d_Co_add_22 : decode c_Co_add 22 = .ok (.imul, 1) := by decide +kernel
theorem d_Co_add_23 : decode c_Co_add 23 = .ok (.iconst 1, 1) := by decide +kernel
theorem d_Co_add_24 : decode c_Co_add 24 = .ok (.iadd, 1) := by decide +kernel
theorem d_Co_add_25 : decode c_Co_add 25 = .ok (.iload_n 2, 1) := by decide +kernel
theorem d_Co_add_26 : decode c_Co_add 26 = .ok (.invokevirtual 46, 3) := by decide +kernel
theorem d_Co_add_29 : decode c_Co_add 29 = .ok (.aload_n 0, 1) := by decide +kernel
theorem d_Co_add_30 : decode c_Co_add 30 = .ok (.dup, 1) := by decide +kernel
theorem d_Co_add_31 : decode c_Co_add 31 = .ok (.getfield 26, 3) := by decide +kernel
theorem d_Co_add_34 : decode c_Co_add 34 = .ok (.iconst 1, 1) := by decide +kernel
theorem d_Co_add_35 : decode c_Co_add 35 = .ok (.iadd, 1) := by decide +kernel
theorem d_Co_add_36 : decode c_Co_add 36 = .ok (.putfield 26, 3) := by decide +kernel
theorem d_Co_add_39 : decode c_Co_add 39 = .ok (.iload_n 3, 1) := by decide +kernel
theorem d_Co_add_40 : decode c_Co_add 40 = .ok (.ireturn, 1) := by decide +kernel
theorem d_Co_fill_0 : decode c_Co_fill 0 = .ok (.aload_n 0, 1) := by decide +kernel
theorem d_Co_fill_1 : decode c_Co_fill 1 = .ok (.getfield 12, 3) := by decide +kernel
theorem d_Co_fill_4 : decode c_Co_fill 4 = .ok (.iload_n 1, 1) := by decide +kernel
theorem d_Co_fill_5 : decode c_Co_fill 5 = .ok (.iconst 5, 1) := by decide +kernel
theorem d_Co_fill_6 : decode c_Co_fill 6 = .ok (.imul, 1) := by decide +kernel
theorem d_Co_fill_7 : decode c_Co_fill 7 = .ok (.iload_n 2, 1) := by decide +kernel
theorem d_Co_fill_8 : decode c_Co_fill 8 = .ok (.iadd, 1) := by decide +kernel
theorem d_Co_fill_9 : decode c_Co_fill 9 = .ok (.iload_n 3, 1) := by decide +kernel
theorem d_Co_fill_10 : decode c_Co_fill 10 = .ok (.invokevirtual 46, 3) := by decide +kernel
theorem d_Co_fill_13 : decode c_Co_fill 13 = .ok (.return_, 1) := by decide +kernel
theorem d_Co_write_0 : decode c_Co_write 0 = .ok (.iload_n 2, 1) := by decide +kernel
theorem d_Co_write_1 : decode c_Co_write 1 = .ok (.bipush 40, 2) := by decide +kernel
theorem d_Co_write_3 : decode c_Co_write 3 = .ok (.if_icmp .le 4, 3) := by decide +kernel
theorem d_Co_write_6 : decode c_Co_write 6 = .ok (.return_, 1) := by decide +kernel
theorem d_Co_write_7 : decode c_Co_write 7 = .ok (.aload_n 0, 1) := by decide +kernel
theorem d_Co_write_8 : decode c_Co_write 8 = .ok (.getfield 18, 3) := by decide +kernel
theorem d_Co_write_11 : decode c_Co_write 11 = .ok (.iload_n 1, 1) := by decide +kernel
theorem d_Co_write_12 : decode c_Co_write 12 = .ok (.invokevirtual 49, 3) := by decide +kernel
theorem d_Co_write_15 : decode c_Co_write 15 = .ok (.astore_n 3, 1) := by decide +kernel
theorem d_Co_write_16 : decode c_Co_write 16 = .ok (.aload_n 3, 1) := by decide +kernel
theorem d_Co_write_17 : decode c_Co_write 17 = .ok (.getfield 54, 3) := by decide +kernel
theorem d_Co_write_20 : decode c_Co_write 20 = .ok (.tableswitch 235 3 11 #[52, 65, 92, 123, 114, 132, 141, 177, 210], 52) := by decide +kernel
theorem d_Co_write_72 : decode c_Co_write 72 = .ok (.aload_n 0, 1) := by decide +kernel
theorem d_Co_write_73 : decode c_Co_write 73 = .ok (.iconst 2, 1) := by decide +kernel
theorem d_Co_write_74 : decode c_Co_write 74 = .ok (.aload_n 3, 1) := by decide +kernel
theorem d_Co_write_75 : decode c_Co_write 75 = .ok (.getfield 59, 3) := by decide +kernel
theorem d_Co_write_78 : decode c_Co_write 78 = .ok (.invokevirtual 34, 3) := by decide +kernel
theorem d_Co_write_81 : decode c_Co_write 81 = .ok (.pop, 1) := by decide +kernel
theorem d_Co_write_82 : decode c_Co_write 82 = .ok (.goto 183, 3) := by decide +kernel
theorem d_Co_write_85 : decode c_Co_write 85 = .ok (.aload_n 0, 1) := by decide +kernel
theorem d_Co_write_86 : decode c_Co_write 86 = .ok (.aload_n 3, 1) := by decide +kernel
theorem d_Co_write_87 : decode c_Co_write 87 = .ok (.getfield 62, 3) := by decide +kernel
theorem d_Co_write_90 : decode c_Co_write 90 = .ok (.iload_n 2, 1) := by decide +kernel
theorem d_Co_write_91 : decode c_Co_write 91 = .ok (.iconst 1, 1) := by decide +kernel
theorem d_Co_write_92 : decode c_Co_write 92 = .ok (.iadd, 1) := by decide +kernel
theorem d_Co_write_93 : decode c_Co_write 93 = .ok (.invokevirtual 30, 3) := by decide +kernel
theorem d_Co_write_96 : decode c_Co_write 96 = .ok (.aload_n 0, 1) := by decide +kernel
theorem d_Co_write_97 : decode c_Co_write 97 = .ok (.aload_n 3, 1) := by decide +kernel
theorem d_Co_write_98 : decode c_Co_write 98 = .ok (.getfield 65, 3) := by decide +kernel
theorem d_Co_write_101 : decode c_Co_write 101 = .ok (.aload_n 3, 1) := by decide +kernel
theorem d_Co_write_102 : decode c_Co_write 102 = .ok (.getfield 68, 3) := by decide +kernel
theorem d_Co_write_105 : decode c_Co_write 105 = .ok (.iload_n 2, 1) := by decide +kernel
theorem d_Co_write_106 : decode c_Co_write 106 = .ok (.invokevirtual 71, 3) := by decide +kernel
theorem d_Co_write_109 : decode c_Co_write 109 = .ok (.goto 156, 3) := by decide +kernel
theorem d_Co_write_112 : decode c_Co_write 112 = .ok (.aload_n 0, 1) := by decide +kernel
theorem d_Co_write_113 : decode c_Co_write 113 = .ok (.aload_n 3, 1) := by decide +kernel
theorem d_Co_write_114 : decode c_Co_write 114 = .ok (.iload_n 2, 1) := by decide +kernel
theorem d_Co_write_115 : decode c_Co_write 115 = .ok (.invokevirtual 75, 3) := by decide +kernel
theorem d_Co_write_118 : decode c_Co_write 118 = .ok (.aload_n 0, 1) := by decide +kernel
theorem d_Co_write_119 : decode c_Co_write 119 = .ok (.aload_n 3, 1) := by decide +kernel
theorem d_Co_write_120 : decode c_Co_write 120 = .ok (.getfield 79, 3) := by decide +kernel
theorem d_Co_write_123 : decode c_Co_write 123 = .ok (.aload_n 3, 1) := by decide +kernel
theorem d_Co_write_124 : decode c_Co_write 124 = .ok (.getfield 68, 3) := by decide +kernel
theorem d_Co_write_127 : decode c_Co_write 127 = .ok (.iload_n 2, 1) := by decide +kernel
theorem d_Co_write_128 : decode c_Co_write 128 = .ok (.invokevirtual 71, 3) := by decide +kernel
theorem d_Co_write_131 : decode c_Co_write 131 = .ok (.goto 134, 3) := by decide +kernel
theorem d_Co_write_134 : decode c_Co_write 134 = .ok (.aload_n 0, 1) := by decide +kernel
theorem d_Co_write_135 : decode c_Co_write 135 = .ok (.aload_n 3, 1) := by decide +kernel
theorem d_Co_write_136 : decode c_Co_write 136 = .ok (.iload_n 2, 1) := by decide +kernel
theorem d_Co_write_137 : decode c_Co_write 137 = .ok (.invokevirtual 75, 3) := by decide +kernel
theorem d_Co_write_140 : decode c_Co_write 140 = .ok (.goto 125, 3) := by decide +kernel
theorem d_Co_write_143 : decode c_Co_write 143 = .ok (.aload_n 0, 1) := by decide +kernel
theorem d_Co_write_144 : decode c_Co_write 144 = .ok (.aload_n 3, 1) := by decide +kernel
theorem d_Co_write_145 : decode c_Co_write 145 = .ok (.iload_n 2, 1) := by decide +kernel
theorem d_Co_write_146 : decode c_Co_write 146 = .ok (.invokevirtual 82, 3) := by decide +kernel
theorem d_Co_write_149 : decode c_Co_write 149 = .ok (.goto 116, 3) := by decide +kernel
theorem d_Co_write_152 : decode c_Co_write 152 = .ok (.aload_n 0, 1) := by decide +kernel
theorem d_Co_write_153 : decode c_Co_write 153 = .ok (.aload_n 3, 1) := by decide +kernel
theorem d_Co_write_154 : decode c_Co_write 154 = .ok (.iload_n 2, 1) := by decide +kernel
theorem d_Co_write_155 : decode c_Co_write 155 = .ok (.invokevirtual 85, 3) := by decide +kernel
theorem d_Co_write_158 : decode c_Co_write 158 = .ok (.goto 107, 3) := by decide +kernel
theorem d_Co_write_161 : decode c_Co_write 161 = .ok (.aload_n 0, 1) := by decide +kernel
theorem d_Co_write_162 : decode c_Co_write 162 = .ok (.aload_n 3, 1) := by decide +kernel
theorem d_Co_write_163 : decode c_Co_write 163 = .ok (.getfield 62, 3) := by decide +kernel
theorem d_Co_write_166 : decode c_Co_write 166 = .ok (.iload_n 2, 1) := by decide +kernel
theorem d_Co_write_167 : decode c_Co_write 167 = .ok (.iconst 1, 1) := by decide +kernel
theorem d_Co_write_168 : decode c_Co_write 168 = .ok (.iadd, 1) := by decide +kernel
theorem d_Co_write_169 : decode c_Co_write 169 = .ok (.invokevirtual 30, 3) := by decide +kernel
theorem d_Co_write_172 : decode c_Co_write 172 = .ok (.aload_n 0, 1) := by decide +kernel
theorem d_Co_write_173 : decode c_Co_write 173 = .ok (.aload_n 3, 1) := by decide +kernel
theorem d_Co_write_174 : decode c_Co_write 174 = .ok (.getfield 68, 3) := by decide +kernel
theorem d_Co_write_177 : decode c_Co_write 177 = .ok (.iload_n 2, 1) := by decide +kernel
theorem d_Co_write_178 : decode c_Co_write 178 = .ok (.iconst 1, 1) := by decide +kernel
theorem d_Co_write_179 : decode c_Co_write 179 = .ok (.iadd, 1) := by decide +kernel
theorem d_Co_write_180 : decode c_Co_write 180 = .ok (.invokevirtual 30, 3) := by decide +kernel
theorem d_Co_write_183 : decode c_Co_write 183 = .ok (.aload_n 0, 1) := by decide +kernel
theorem d_Co_write_184 : decode c_Co_write 184 = .ok (.bipush 7, 2) := by decide +kernel
theorem d_Co_write_186 : decode c_Co_write 186 = .ok (.aload_n 3, 1) := by decide +kernel
theorem d_Co_write_187 : decode c_Co_write 187 = .ok (.getfield 59, 3) := by decide +kernel
theorem d_Co_write_190 : decode c_Co_write 190 = .ok (.invokevirtual 34, 3) := by decide +kernel
theorem d_Co_write_193 : decode c_Co_write 193 = .ok (.pop, 1) := by decide +kernel
theorem d_Co_write_194 : decode c_Co_write 194 = .ok (.goto 71, 3) := by decide +kernel
theorem d_Co_write_197 : decode c_Co_write 197 = .ok (.aload_n 0, 1) := by decide +kernel
theorem d_Co_write_198 : decode c_Co_write 198 = .ok (.aload_n 3, 1) := by decide +kernel
theorem d_Co_write_199 : decode c_Co_write 199 = .ok (.getfield 62, 3) := by decide +kernel
theorem d_Co_write_202 : decode c_Co_write 202 = .ok (.iload_n 2, 1) := by decide +kernel
theorem d_Co_write_203 : decode c_Co_write 203 = .ok (.iconst 1, 1) := by decide +kernel
theorem d_Co_write_204 : decode c_Co_write 204 = .ok (.iadd, 1) := by decide +kernel
theorem d_Co_write_205 : decode c_Co_write 205 = .ok (.invokevirtual 30, 3) := by decide +kernel
theorem d_Co_write_208 : decode c_Co_write 208 = .ok (.aload_n 0, 1) := by decide +kernel
theorem d_Co_write_209 : decode c_Co_write 209 = .ok (.aload_n 3, 1) := by decide +kernel
theorem d_Co_write_210 : decode c_Co_write 210 = .ok (.getfield 68, 3) := by decide +kernel
theorem d_Co_write_213 : decode c_Co_write 213 = .ok (.iload_n 2, 1) := by decide +kernel
theorem d_Co_write_214 : decode c_Co_write 214 = .ok (.iconst 1, 1) := by decide +kernel
theorem d_Co_write_215 : decode c_Co_write 215 = .ok (.iadd, 1) := by decide +kernel
theorem d_Co_write_216 : decode c_Co_write 216 = .ok (.invokevirtual 30, 3) := by decide +kernel
theorem d_Co_write_219 : decode c_Co_write 219 = .ok (.aload_n 0, 1) := by decide +kernel
theorem d_Co_write_220 : decode c_Co_write 220 = .ok (.bipush 12, 2) := by decide +kernel
theorem d_Co_write_222 : decode c_Co_write 222 = .ok (.iconst 0, 1) := by decide +kernel
theorem d_Co_write_223 : decode c_Co_write 223 = .ok (.invokevirtual 34, 3) := by decide +kernel
theorem d_Co_write_226 : decode c_Co_write 226 = .ok (.pop, 1) := by decide +kernel
theorem d_Co_write_227 : decode c_Co_write 227 = .ok (.goto 38, 3) := by decide +kernel
theorem d_Co_write_230 : decode c_Co_write 230 = .ok (.aload_n 0, 1) := by decide +kernel
theorem d_Co_write_231 : decode c_Co_write 231 = .ok (.aload_n 3, 1) := by decide +kernel
theorem d_Co_write_232 : decode c_Co_write 232 = .ok (.getfield 62, 3) := by decide +kernel
theorem d_Co_write_235 : decode c_Co_write 235 = .ok (.iload_n 2, 1) := by decide +kernel
theorem d_Co_write_236 : decode c_Co_write 236 = .ok (.iconst 1, 1) := by decide +kernel
theorem d_Co_write_237 : decode c_Co_write 237 = .ok (.iadd, 1) := by decide +kernel
theorem d_Co_write_238 : decode c_Co_write 238 = .ok (.invokevirtual 30, 3) := by decide +kernel
theorem d_Co_write_241 : decode c_Co_write 241 = .ok (.aload_n 0, 1) := by decide +kernel
theorem d_Co_write_242 : decode c_Co_write 242 = .ok (.bipush 13, 2) := by decide +kernel
theorem d_Co_write_244 : decode c_Co_write 244 = .ok (.aload_n 3, 1) := by decide +kernel
theorem d_Co_write_245 : decode c_Co_write 245 = .ok (.getfield 59, 3) := by decide +kernel
theorem d_Co_write_248 : decode c_Co_write 248 = .ok (.invokevirtual 34, 3) := by decide +kernel
theorem d_Co_write_251 : decode c_Co_write 251 = .ok (.pop, 1) := by decide +kernel
theorem d_Co_write_252 : decode c_Co_write 252 = .ok (.goto 13, 3) := by decide +kernel
theorem d_Co_write_255 : decode c_Co_write 255 = .ok (.aload_n 0, 1) := by decide +kernel
theorem d_Co_write_256 : decode c_Co_write 256 = .ok (.iconst 1, 1) := by decide +kernel
theorem d_Co_write_257 : decode c_Co_write 257 = .ok (.aload_n 3, 1) := by decide +kernel
theorem d_Co_write_258 : decode c_Co_write 258 = .ok (.getfield 59, 3) := by decide +kernel
theorem d_Co_write_261 : decode c_Co_write 261 = .ok (.invokevirtual 34, 3) := by decide +kernel
theorem d_Co_write_264 : decode c_Co_write 264 = .ok (.pop, 1) := by decide +kernel
theorem d_Co_write_265 : decode c_Co_write 265 = .ok (.return_, 1) := by decide +kernel
theorem d_Co_writeScope_0 : decode c_Co_writeScope 0 = .ok (.aload_n 0, 1) := by decide +kernel
theorem d_Co_writeScope_1 : decode c_Co_writeScope 1 = .ok (.iconst 3, 1) := by decide +kernel
theorem d_Co_writeScope_2 : decode c_Co_writeScope 2 = .ok (.iload_n 1, 1) := by decide +kernel
theorem d_Co_writeScope_3 : decode c_Co_writeScope 3 = .ok (.invokevirtual 34, 3) := by decide +kernel
theorem d_Co_writeScope_6 : decode c_Co_writeScope 6 = .ok (.pop, 1) := by decide +kernel
theorem d_Co_writeScope_7 : decode c_Co_writeScope 7 = .ok (.aload_n 0, 1) := by decide +kernel
theorem d_Co_writeScope_8 : decode c_Co_writeScope 8 = .ok (.iload_n 2, 1) := by decide +kernel
theorem d_Co_writeScope_9 : decode c_Co_writeScope 9 = .ok (.iload_n 3, 1) := by decide +kernel
theorem d_Co_writeScope_10 : decode c_Co_writeScope 10 = .ok (.iconst 1, 1) := by decide +kernel
theorem d_Co_writeScope_11 : decode c_Co_writeScope 11 = .ok (.iadd, 1) := by decide +kernel
theorem d_Co_writeScope_12 : decode c_Co_writeScope 12 = .ok (.invokevirtual 30, 3) := by decide +kernel
theorem d_Co_writeScope_15 : decode c_Co_writeScope 15 = .ok (.aload_n 0, 1) := by decide +kernel
theorem d_Co_writeScope_16 : decode c_Co_writeScope 16 = .ok (.iconst 4, 1) := by decide +kernel
theorem d_Co_writeScope_17 : decode c_Co_writeScope 17 = .ok (.iload_n 1, 1) := by decide +kernel
theorem d_Co_writeScope_18 : decode c_Co_writeScope 18 = .ok (.invokevirtual 34, 3) := by decide +kernel
theorem d_Co_writeScope_21 : decode c_Co_writeScope 21 = .ok (.pop, 1) := by decide +kernel
theorem d_Co_writeScope_22 : decode c_Co_writeScope 22 = .ok (.return_, 1) := by decide +kernel
theorem d_Co_writeBody_0 : decode c_Co_writeBody 0 = .ok (.aload_n 0, 1) := by decide +kernel
theorem d_Co_writeBody_1 : decode c_Co_writeBody 1 = .ok (.iload_n 1, 1) := by decide +kernel
theorem d_Co_writeBody_2 : decode c_Co_writeBody 2 = .ok (.iload_n 2, 1) := by decide +kernel
theorem d_Co_writeBody_3 : decode c_Co_writeBody 3 = .ok (.iconst 1, 1) := by decide +kernel
theorem d_Co_writeBody_4 : decode c_Co_writeBody 4 = .ok (.iadd, 1) := by decide +kernel
theorem d_Co_writeBody_5 : decode c_Co_writeBody 5 = .ok (.invokevirtual 30, 3) := by decide +kernel
theorem d_Co_writeBody_8 : decode c_Co_writeBody 8 = .ok (.aload_n 0, 1) := by decide +kernel
theorem d_Co_writeBody_9 : decode c_Co_writeBody 9 = .ok (.iconst 0, 1) := by decide +kernel
theorem d_Co_writeBody_10 : decode c_Co_writeBody 10 = .ok (.iconst 0, 1) := by decide +kernel
theorem d_Co_writeBody_11 : decode c_Co_writeBody 11 = .ok (.invokevirtual 34, 3) := by decide +kernel
theorem d_Co_writeBody_14 : decode c_Co_writeBody 14 = .ok (.pop, 1) := by decide +kernel
theorem d_Co_writeBody_15 : decode c_Co_writeBody 15 = .ok (.return_, 1) := by decide +kernel
theorem d_Co_writeFunction_0 : decode c_Co_writeFunction 0 = .ok (.aload_n 0, 1) := by decide +kernel
theorem d_Co_writeFunction_1 : decode c_Co_writeFunction 1 = .ok (.bipush 8, 2) := by decide +kernel
theorem d_Co_writeFunction_3 : decode c_Co_writeFunction 3 = .ok (.aload_n 1, 1) := by decide +kernel
theorem d_Co_writeFunction_4 : decode c_Co_writeFunction 4 = .ok (.getfield 65, 3) := by decide +kernel
theorem d_Co_writeFunction_7 : decode c_Co_writeFunction 7 = .ok (.invokevirtual 34, 3) := by decide +kernel
theorem d_Co_writeFunction_10 : decode c_Co_writeFunction 10 = .ok (.istore_n 3, 1) := by decide +kernel
theorem d_Co_writeFunction_11 : decode c_Co_writeFunction 11 = .ok (.aload_n 0, 1) := by decide +kernel
theorem d_Co_writeFunction_12 : decode c_Co_writeFunction 12 = .ok (.iload_n 3, 1) := by decide +kernel
theorem d_Co_writeFunction_13 : decode c_Co_writeFunction 13 = .ok (.iconst 2, 1) := by decide +kernel
theorem d_Co_writeFunction_14 : decode c_Co_writeFunction 14 = .ok (.aload_n 1, 1) := by decide +kernel
theorem d_Co_writeFunction_15 : decode c_Co_writeFunction 15 = .ok (.getfield 79, 3) := by decide +kernel
theorem d_Co_writeFunction_18 : decode c_Co_writeFunction 18 = .ok (.invokevirtual 88, 3) := by decide +kernel
theorem d_Co_writeFunction_21 : decode c_Co_writeFunction 21 = .ok (.aload_n 0, 1) := by decide +kernel
theorem d_Co_writeFunction_22 : decode c_Co_writeFunction 22 = .ok (.aload_n 1, 1) := by decide +kernel
theorem d_Co_writeFunction_23 : decode c_Co_writeFunction 23 = .ok (.getfield 62, 3) := by decide +kernel
theorem d_Co_writeFunction_26 : decode c_Co_writeFunction 26 = .ok (.iload_n 2, 1) := by decide +kernel
theorem d_Co_writeFunction_27 : decode c_Co_writeFunction 27 = .ok (.invokevirtual 91, 3) := by decide +kernel
theorem d_Co_writeFunction_30 : decode c_Co_writeFunction 30 = .ok (.aload_n 0, 1) := by decide +kernel
theorem d_Co_writeFunction_31 : decode c_Co_writeFunction 31 = .ok (.iload_n 3, 1) := by decide +kernel
theorem d_Co_writeFunction_32 : decode c_Co_writeFunction 32 = .ok (.iconst 3, 1) := by decide +kernel
theorem d_Co_writeFunction_33 : decode c_Co_writeFunction 33 = .ok (.aload_n 0, 1) := by decide +kernel
theorem d_Co_writeFunction_34 : decode c_Co_writeFunction 34 = .ok (.getfield 26, 3) := by decide +kernel
theorem d_Co_writeFunction_37 : decode c_Co_writeFunction 37 = .ok (.invokevirtual 88, 3) := by decide +kernel
theorem d_Co_writeFunction_40 : decode c_Co_writeFunction 40 = .ok (.return_, 1) := by decide +kernel
theorem d_Co_writeChoice_0 : decode c_Co_writeChoice 0 = .ok (.aload_n 0, 1) := by decide +kernel
theorem d_Co_writeChoice_1 : decode c_Co_writeChoice 1 = .ok (.aload_n 1, 1) := by decide +kernel
theorem d_Co_writeChoice_2 : decode c_Co_writeChoice 2 = .ok (.getfield 62, 3) := by decide +kernel
theorem d_Co_writeChoice_5 : decode c_Co_writeChoice 5 = .ok (.iload_n 2, 1) := by decide +kernel
theorem d_Co_writeChoice_6 : decode c_Co_writeChoice 6 = .ok (.iconst 1, 1) := by decide +kernel
theorem d_Co_writeChoice_7 : decode c_Co_writeChoice 7 = .ok (.iadd, 1) := by decide +kernel
theorem d_Co_writeChoice_8 : decode c_Co_writeChoice 8 = .ok (.invokevirtual 30, 3) := by decide +kernel
theorem d_Co_writeChoice_11 : decode c_Co_writeChoice 11 = .ok (.aload_n 0, 1) := by decide +kernel
theorem d_Co_writeChoice_12 : decode c_Co_writeChoice 12 = .ok (.bipush 6, 2) := by decide +kernel
theorem d_Co_writeChoice_14 : decode c_Co_writeChoice 14 = .ok (.iconst 0, 1) := by decide +kernel
theorem d_Co_writeChoice_15 : decode c_Co_writeChoice 15 = .ok (.invokevirtual 34, 3) := by decide +kernel
theorem d_Co_writeChoice_18 : decode c_Co_writeChoice 18 = .ok (.istore_n 3, 1) := by decide +kernel
theorem d_Co_writeChoice_19 : decode c_Co_writeChoice 19 = .ok (.aload_n 0, 1) := by decide +kernel
theorem d_Co_writeChoice_20 : decode c_Co_writeChoice 20 = .ok (.aload_n 1, 1) := by decide +kernel
theorem d_Co_writeChoice_21 : decode c_Co_writeChoice 21 = .ok (.getfield 68, 3) := by decide +kernel
theorem d_Co_writeChoice_24 : decode c_Co_writeChoice 24 = .ok (.iload_n 2, 1) := by decide +kernel
theorem d_Co_writeChoice_25 : decode c_Co_writeChoice 25 = .ok (.iconst 1, 1) := by decide +kernel
theorem d_Co_writeChoice_26 : decode c_Co_writeChoice 26 = .ok (.iadd, 1) := by decide +kernel
theorem d_Co_writeChoice_27 : decode c_Co_writeChoice 27 = .ok (.invokevirtual 30, 3) := by decide +kernel
theorem d_Co_writeChoice_30 : decode c_Co_writeChoice 30 = .ok (.aload_n 0, 1) := by decide +kernel
theorem d_Co_writeChoice_31 : decode c_Co_writeChoice 31 = .ok (.iconst 5, 1) := by decide +kernel
theorem d_Co_writeChoice_32 : decode c_Co_writeChoice 32 = .ok (.iconst 0, 1) := by decide +kernel
theorem d_Co_writeChoice_33 : decode c_Co_writeChoice 33 = .ok (.invokevirtual 34, 3) := by decide +kernel
theorem d_Co_writeChoice_36 : decode c_Co_writeChoice 36 = .ok (.istore 4, 2) := by decide +kernel
theorem d_Co_writeChoice_38 : decode c_Co_writeChoice 38 = .ok (.aload_n 0, 1) := by decide +kernel
theorem d_Co_writeChoice_39 : decode c_Co_writeChoice 39 = .ok (.iload_n 3, 1) := by decide +kernel
theorem d_Co_writeChoice_40 : decode c_Co_writeChoice 40 = .ok (.iconst 1, 1) := by decide +kernel
theorem d_Co_writeChoice_41 : decode c_Co_writeChoice 41 = .ok (.aload_n 0, 1) := by decide +kernel
theorem d_Co_writeChoice_42 : decode c_Co_writeChoice 42 = .ok (.getfield 26, 3) := by decide +kernel
theorem d_Co_writeChoice_45 : decode c_Co_writeChoice 45 = .ok (.invokevirtual 88, 3) := by decide +kernel
theorem d_Co_writeChoice_48 : decode c_Co_writeChoice 48 = .ok (.aload_n 0, 1) := by decide +kernel
theorem d_Co_writeChoice_49 : decode c_Co_writeChoice 49 = .ok (.aload_n 1, 1) := by decide +kernel
theorem d_Co_writeChoice_50 : decode c_Co_writeChoice 50 = .ok (.getfield 94, 3) := by decide +kernel
theorem d_Co_writeChoice_53 : decode c_Co_writeChoice 53 = .ok (.iload_n 2, 1) := by decide +kernel
theorem d_Co_writeChoice_54 : decode c_Co_writeChoice 54 = .ok (.iconst 1, 1) := by decide +kernel
theorem d_Co_writeChoice_55 : decode c_Co_writeChoice 55 = .ok (.iadd, 1) := by decide +kernel
theorem d_Co_writeChoice_56 : decode c_Co_writeChoice 56 = .ok (.invokevirtual 30, 3) := by decide +kernel
theorem d_Co_writeChoice_59 : decode c_Co_writeChoice 59 = .ok (.aload_n 0, 1) := by decide +kernel
theorem d_Co_writeChoice_60 : decode c_Co_writeChoice 60 = .ok (.iload 4, 2) := by decide +kernel
theorem d_Co_writeChoice_62 : decode c_Co_writeChoice 62 = .ok (.iconst 1, 1) := by decide +kernel
theorem d_Co_writeChoice_63 : decode c_Co_writeChoice 63 = .ok (.aload_n 0, 1) := by decide +kernel
theorem d_Co_writeChoice_64 : decode c_Co_writeChoice 64 = .ok (.getfield 26, 3) := by decide +kernel
theorem d_Co_writeChoice_67 : decode c_Co_writeChoice 67 = .ok (.invokevirtual 88, 3) := by decide +kernel
theorem d_Co_writeChoice_70 : decode c_Co_writeChoice 70 = .ok (.return_, 1) := by decide +kernel
theorem d_Co_writeHandle_0 : decode c_Co_writeHandle 0 = .ok (.aload_n 0, 1) := by decide +kernel
theorem d_Co_writeHandle_1 : decode c_Co_writeHandle 1 = .ok (.bipush 9, 2) := by decide +kernel
theorem d_Co_writeHandle_3 : decode c_Co_writeHandle 3 = .ok (.iconst 0, 1) := by decide +kernel
theorem d_Co_writeHandle_4 : decode c_Co_writeHandle 4 = .ok (.invokevirtual 34, 3) := by decide +kernel
theorem d_Co_writeHandle_7 : decode c_Co_writeHandle 7 = .ok (.istore_n 3, 1) := by decide +kernel
theorem d_Co_writeHandle_8 : decode c_Co_writeHandle 8 = .ok (.aload_n 0, 1) := by decide +kernel
theorem d_Co_writeHandle_9 : decode c_Co_writeHandle 9 = .ok (.iload_n 3, 1) := by decide +kernel
theorem d_Co_writeHandle_10 : decode c_Co_writeHandle 10 = .ok (.iconst 3, 1) := by decide +kernel
theorem d_Co_writeHandle_11 : decode c_Co_writeHandle 11 = .ok (.aload_n 1, 1) := by decide +kernel
theorem d_Co_writeHandle_12 : decode c_Co_writeHandle 12 = .ok (.getfield 65, 3) := by decide +kernel
theorem d_Co_writeHandle_15 : decode c_Co_writeHandle 15 = .ok (.invokevirtual 88, 3) := by decide +kernel
theorem d_Co_writeHandle_18 : decode c_Co_writeHandle 18 = .ok (.aload_n 0, 1) := by decide +kernel
theorem d_Co_writeHandle_19 : decode c_Co_writeHandle 19 = .ok (.iload_n 3, 1) := by decide +kernel
theorem d_Co_writeHandle_20 : decode c_Co_writeHandle 20 = .ok (.iconst 4, 1) := by decide +kernel
theorem d_Co_writeHandle_21 : decode c_Co_writeHandle 21 = .ok (.aload_n 1, 1) := by decide +kernel
theorem d_Co_writeHandle_22 : decode c_Co_writeHandle 22 = .ok (.getfield 97, 3) := by decide +kernel
theorem d_Co_writeHandle_25 : decode c_Co_writeHandle 25 = .ok (.aload_n 1, 1) := by decide +kernel
theorem d_Co_writeHandle_26 : decode c_Co_writeHandle 26 = .ok (.getfield 100, 3) := by decide +kernel
theorem d_Co_writeHandle_29 : decode c_Co_writeHandle 29 = .ok (.isub, 1) := by decide +kernel
theorem d_Co_writeHandle_30 : decode c_Co_writeHandle 30 = .ok (.invokevirtual 88, 3) := by decide +kernel
theorem d_Co_writeHandle_33 : decode c_Co_writeHandle 33 = .ok (.aload_n 1, 1) := by decide +kernel
theorem d_Co_writeHandle_34 : decode c_Co_writeHandle 34 = .ok (.getfield 100, 3) := by decide +kernel
theorem d_Co_writeHandle_37 : decode c_Co_writeHandle 37 = .ok (.istore 4, 2) := by decide +kernel
theorem d_Co_writeHandle_39 : decode c_Co_writeHandle 39 = .ok (.iload 4, 2) := by decide +kernel
theorem d_Co_writeHandle_41 : decode c_Co_writeHandle 41 = .ok (.aload_n 1, 1) := by decide +kernel
theorem d_Co_writeHandle_42 : decode c_Co_writeHandle 42 = .ok (.getfield 97, 3) := by decide +kernel
theorem d_Co_writeHandle_45 : decode c_Co_writeHandle 45 = .ok (.if_icmp .ge 57, 3) := by decide +kernel
theorem d_Co_writeHandle_48 : decode c_Co_writeHandle 48 = .ok (.aload_n 0, 1) := by decide +kernel
theorem d_Co_writeHandle_49 : decode c_Co_writeHandle 49 = .ok (.getfield 18, 3) := by decide +kernel
theorem d_Co_writeHandle_52 : decode c_Co_writeHandle 52 = .ok (.iload 4, 2) := by decide +kernel
theorem d_Co_writeHandle_54 : decode c_Co_writeHandle 54 = .ok (.invokevirtual 103, 3) := by decide +kernel
theorem d_Co_writeHandle_57 : decode c_Co_writeHandle 57 = .ok (.astore 5, 2) := by decide +kernel
theorem d_Co_writeHandle_59 : decode c_Co_writeHandle 59 = .ok (.aload_n 0, 1) := by decide +kernel
theorem d_Co_writeHandle_60 : decode c_Co_writeHandle 60 = .ok (.bipush 10, 2) := by decide +kernel
theorem d_Co_writeHandle_62 : decode c_Co_writeHandle 62 = .ok (.aload 5, 2) := by decide +kernel
theorem d_Co_writeHandle_64 : decode c_Co_writeHandle 64 = .ok (.getfield 107, 3) := by decide +kernel
theorem d_Co_writeHandle_67 : decode c_Co_writeHandle 67 = .ok (.invokevirtual 34, 3) := by decide +kernel
theorem d_Co_writeHandle_70 : decode c_Co_writeHandle 70 = .ok (.istore 6, 2) := by decide +kernel
theorem d_Co_writeHandle_72 : decode c_Co_writeHandle 72 = .ok (.aload_n 0, 1) := by decide +kernel
theorem d_Co_writeHandle_73 : decode c_Co_writeHandle 73 = .ok (.iload 6, 2) := by decide +kernel
theorem d_Co_writeHandle_75 : decode c_Co_writeHandle 75 = .ok (.iconst 3, 1) := by decide +kernel
theorem d_Co_writeHandle_76 : decode c_Co_writeHandle 76 = .ok (.aload 5, 2) := by decide +kernel
theorem d_Co_writeHandle_78 : decode c_Co_writeHandle 78 = .ok (.getfield 112, 3) := by decide +kernel
theorem d_Co_writeHandle_81 : decode c_Co_writeHandle 81 = .ok (.invokevirtual 88, 3) := by decide +kernel
theorem d_Co_writeHandle_84 : decode c_Co_writeHandle 84 = .ok (.aload_n 0, 1) := by decide +kernel
theorem d_Co_writeHandle_85 : decode c_Co_writeHandle 85 = .ok (.iload 6, 2) := by decide +kernel
theorem d_Co_writeHandle_87 : decode c_Co_writeHandle 87 = .ok (.iconst 4, 1) := by decide +kernel
theorem d_Co_writeHandle_88 : decode c_Co_writeHandle 88 = .ok (.aload 5, 2) := by decide +kernel
theorem d_Co_writeHandle_90 : decode c_Co_writeHandle 90 = .ok (.getfield 115, 3) := by decide +kernel
theorem d_Co_writeHandle_93 : decode c_Co_writeHandle 93 = .ok (.invokevirtual 88, 3) := by decide +kernel
theorem d_Co_writeHandle_96 : decode c_Co_writeHandle 96 = .ok (.iinc 4 1, 3) := by decide +kernel
theorem d_Co_writeHandle_99 : decode c_Co_writeHandle 99 = .ok (.goto (-60), 3) := by decide +kernel
theorem d_Co_writeHandle_102 : decode c_Co_writeHandle 102 = .ok (.aload_n 0, 1) := by decide +kernel
theorem d_Co_writeHandle_103 : decode c_Co_writeHandle 103 = .ok (.aload_n 1, 1) := by decide +kernel
theorem d_Co_writeHandle_104 : decode c_Co_writeHandle 104 = .ok (.getfield 62, 3) := by decide +kernel
theorem d_Co_writeHandle_107 : decode c_Co_writeHandle 107 = .ok (.iload_n 2, 1) := by decide +kernel
theorem d_Co_writeHandle_108 : decode c_Co_writeHandle 108 = .ok (.iconst 1, 1) := by decide +kernel
theorem d_Co_writeHandle_109 : decode c_Co_writeHandle 109 = .ok (.iadd, 1) := by decide +kernel
theorem d_Co_writeHandle_110 : decode c_Co_writeHandle 110 = .ok (.invokevirtual 30, 3) := by decide +kernel
theorem d_Co_writeHandle_113 : decode c_Co_writeHandle 113 = .ok (.aload_n 0, 1) := by decide +kernel
theorem d_Co_writeHandle_114 : decode c_Co_writeHandle 114 = .ok (.bipush 11, 2) := by decide +kernel
theorem d_Co_writeHandle_116 : decode c_Co_writeHandle 116 = .ok (.iconst 0, 1) := by decide +kernel
theorem d_Co_writeHandle_117 : decode c_Co_writeHandle 117 = .ok (.invokevirtual 34, 3) := by decide +kernel
theorem d_Co_writeHandle_120 : decode c_Co_writeHandle 120 = .ok (.pop, 1) := by decide +kernel
theorem d_Co_writeHandle_121 : decode c_Co_writeHandle 121 = .ok (.aload_n 0, 1) := by decide +kernel
theorem d_Co_writeHandle_122 : decode c_Co_writeHandle 122 = .ok (.iload_n 3, 1) := by decide +kernel
theorem d_Co_writeHandle_123 : decode c_Co_writeHandle 123 = .ok (.iconst 2, 1) := by decide +kernel
theorem d_Co_writeHandle_124 : decode c_Co_writeHandle 124 = .ok (.aload_n 0, 1) := by decide +kernel
theorem d_Co_writeHandle_125 : decode c_Co_writeHandle 125 = .ok (.getfield 26, 3) := by decide +kernel
theorem d_Co_writeHandle_128 : decode c_Co_writeHandle 128 = .ok (.invokevirtual 88, 3) := by decide +kernel
theorem d_Co_writeHandle_131 : decode c_Co_writeHandle 131 = .ok (.aload_n 0, 1) := by decide +kernel
theorem d_Co_writeHandle_132 : decode c_Co_writeHandle 132 = .ok (.aload_n 1, 1) := by decide +kernel
theorem d_Co_writeHandle_133 : decode c_Co_writeHandle 133 = .ok (.getfield 68, 3) := by decide +kernel
theorem d_Co_writeHandle_136 : decode c_Co_writeHandle 136 = .ok (.iload_n 2, 1) := by decide +kernel
theorem d_Co_writeHandle_137 : decode c_Co_writeHandle 137 = .ok (.invokevirtual 91, 3) := by decide +kernel
theorem d_Co_writeHandle_140 : decode c_Co_writeHandle 140 = .ok (.aload_n 1, 1) := by decide +kernel
theorem d_Co_writeHandle_141 : decode c_Co_writeHandle 141 = .ok (.getfield 100, 3) := by decide +kernel
theorem d_Co_writeHandle_144 : decode c_Co_writeHandle 144 = .ok (.istore 4, 2) := by decide +kernel
theorem d_Co_writeHandle_146 : decode c_Co_writeHandle 146 = .ok (.iload 4, 2) := by decide +kernel
theorem d_Co_writeHandle_148 : decode c_Co_writeHandle 148 = .ok (.aload_n 1, 1) := by decide +kernel
theorem d_Co_writeHandle_149 : decode c_Co_writeHandle 149 = .ok (.getfield 97, 3) := by decide +kernel
theorem d_Co_writeHandle_152 : decode c_Co_writeHandle 152 = .ok (.if_icmp .ge 46, 3) := by decide +kernel
theorem d_Co_writeHandle_155 : decode c_Co_writeHandle 155 = .ok (.aload_n 0, 1) := by decide +kernel
theorem d_Co_writeHandle_156 : decode c_Co_writeHandle 156 = .ok (.iload_n 3, 1) := by decide +kernel
theorem d_Co_writeHandle_157 : decode c_Co_writeHandle 157 = .ok (.iconst 1, 1) := by decide +kernel
theorem d_Co_writeHandle_158 : decode c_Co_writeHandle 158 = .ok (.iadd, 1) := by decide +kernel
theorem d_Co_writeHandle_159 : decode c_Co_writeHandle 159 = .ok (.iload 4, 2) := by decide +kernel
theorem d_Co_writeHandle_161 : decode c_Co_writeHandle 161 = .ok (.iadd, 1) := by decide +kernel
theorem d_Co_writeHandle_162 : decode c_Co_writeHandle 162 = .ok (.aload_n 1, 1) := by decide +kernel
theorem d_Co_writeHandle_163 : decode c_Co_writeHandle 163 = .ok (.getfield 100, 3) := by decide +kernel
theorem d_Co_writeHandle_166 : decode c_Co_writeHandle 166 = .ok (.isub, 1) := by decide +kernel
theorem d_Co_writeHandle_167 : decode c_Co_writeHandle 167 = .ok (.iconst 2, 1) := by decide +kernel
theorem d_Co_writeHandle_168 : decode c_Co_writeHandle 168 = .ok (.aload_n 0, 1) := by decide +kernel
theorem d_Co_writeHandle_169 : decode c_Co_writeHandle 169 = .ok (.getfield 26, 3) := by decide +kernel
theorem d_Co_writeHandle_172 : decode c_Co_writeHandle 172 = .ok (.invokevirtual 88, 3) := by decide +kernel
theorem d_Co_writeHandle_175 : decode c_Co_writeHandle 175 = .ok (.aload_n 0, 1) := by decide +kernel
theorem d_Co_writeHandle_176 : decode c_Co_writeHandle 176 = .ok (.aload_n 0, 1) := by decide +kernel
theorem d_Co_writeHandle_177 : decode c_Co_writeHandle 177 = .ok (.getfield 18, 3) := by decide +kernel
theorem d_Co_writeHandle_180 : decode c_Co_writeHandle 180 = .ok (.iload 4, 2) := by decide +kernel
theorem d_Co_writeHandle_182 : decode c_Co_writeHandle 182 = .ok (.invokevirtual 103, 3) := by decide +kernel
theorem d_Co_writeHandle_185 : decode c_Co_writeHandle 185 = .ok (.getfield 118, 3) := by decide +kernel
theorem d_Co_writeHandle_188 : decode c_Co_writeHandle 188 = .ok (.iload_n 2, 1) := by decide +kernel
theorem d_Co_writeHandle_189 : decode c_Co_writeHandle 189 = .ok (.invokevirtual 91, 3) := by decide +kernel
theorem d_Co_writeHandle_192 : decode c_Co_writeHandle 192 = .ok (.iinc 4 1, 3) := by decide +kernel
theorem d_Co_writeHandle_195 : decode c_Co_writeHandle 195 = .ok (.goto (-49), 3) := by decide +kernel
theorem d_Co_writeHandle_198 : decode c_Co_writeHandle 198 = .ok (.aload_n 0, 1) := by decide +kernel
theorem d_Co_writeHandle_199 : decode c_Co_writeHandle 199 = .ok (.iload_n 3, 1) := by decide +kernel
theorem d_Co_writeHandle_200 : decode c_Co_writeHandle 200 = .ok (.iconst 1, 1) := by decide +kernel
theorem d_Co_writeHandle_201 : decode c_Co_writeHandle 201 = .ok (.aload_n 0, 1) := by decide +kernel
theorem d_Co_writeHandle_202 : decode c_Co_writeHandle 202 = .ok (.getfield 26, 3) := by decide +kernel
theorem d_Co_writeHandle_205 : decode c_Co_writeHandle 205 = .ok (.invokevirtual 88, 3) := by decide +kernel
theorem d_Co_writeHandle_208 : decode c_Co_writeHandle 208 = .ok (.return_, 1) := by decide +kernel
theorem d_Ma_init_0 : decode c_Ma_init 0 = .ok (.aload_n 0, 1) := by decide +kernel
theorem d_Ma_init_1 : decode c_Ma_init 1 = .ok (.invokespecial 3, 3) := by decide +kernel
theorem d_Ma_init_4 : decode c_Ma_init 4 = .ok (.aload_n 0, 1) := by decide +kernel
theorem d_Ma_init_5 : decode c_Ma_init 5 = .ok (.new 9, 3) := by decide +kernel
theorem d_Ma_init_8 : decode c_Ma_init 8 = .ok (.dup, 1) := by decide +kernel
theorem d_Ma_init_9 : decode c_Ma_init 9 = .ok (.invokespecial 11, 3) := by decide +kernel
theorem d_Ma_init_12 : decode c_Ma_init 12 = .ok (.putfield 12, 3) := by decide +kernel
theorem d_Ma_init_15 : decode c_Ma_init 15 = .ok (.aload_n 0, 1) := by decide +kernel
theorem d_Ma_init_16 : decode c_Ma_init 16 = .ok (.aload_n 1, 1) := by decide +kernel
theorem d_Ma_init_17 : decode c_Ma_init 17 = .ok (.putfield 18, 3) := by decide +kernel
theorem d_Ma_init_20 : decode c_Ma_init 20 = .ok (.aload_n 0, 1) := by decide +kernel
theorem d_Ma_init_21 : decode c_Ma_init 21 = .ok (.iconst (-1), 1) := by decide +kernel
theorem d_Ma_init_22 : decode c_Ma_init 22 = .ok (.putfield 22, 3) := by decide +kernel
theorem d_Ma_init_25 : decode c_Ma_init 25 = .ok (.return_, 1) := by decide +kernel
theorem d_Ma_unload_0 : decode c_Ma_unload 0 = .ok (.aload_n 0, 1) := by decide +kernel
theorem d_Ma_unload_1 : decode c_Ma_unload 1 = .ok (.iconst 0, 1) := by decide +kernel
theorem d_Ma_unload_2 : decode c_Ma_unload 2 = .ok (.putfield 26, 3) := by decide +kernel
theorem d_Ma_unload_5 : decode c_Ma_unload 5 = .ok (.aload_n 0, 1) := by decide +kernel
theorem d_Ma_unload_6 : decode c_Ma_unload 6 = .ok (.invokevirtual 30, 3) := by decide +kernel
theorem d_Ma_unload_9 : decode c_Ma_unload 9 = .ok (.return_, 1) := by decide +kernel
theorem d_Ma_load_0 : decode c_Ma_load 0 = .ok (.aload_n 0, 1) := by decide +kernel
theorem d_Ma_load_1 : decode c_Ma_load 1 = .ok (.iconst 1, 1) := by decide +kernel
theorem d_Ma_load_2 : decode c_Ma_load 2 = .ok (.putfield 26, 3) := by decide +kernel
theorem d_Ma_load_5 : decode c_Ma_load 5 = .ok (.aload_n 0, 1) := by decide +kernel
theorem d_Ma_load_6 : decode c_Ma_load 6 = .ok (.iload_n 1, 1) := by decide +kernel
theorem d_Ma_load_7 : decode c_Ma_load 7 = .ok (.putfield 33, 3) := by decide +kernel
theorem d_Ma_load_10 : decode c_Ma_load 10 = .ok (.aload_n 0, 1) := by decide +kernel
theorem d_Ma_load_11 : decode c_Ma_load 11 = .ok (.invokevirtual 30, 3) := by decide +kernel
theorem d_Ma_load_14 : decode c_Ma_load 14 = .ok (.return_, 1) := by decide +kernel
theorem d_Ma_begin_0 : decode c_Ma_begin 0 = .ok (.aload_n 0, 1) := by decide +kernel
theorem d_Ma_begin_1 : decode c_Ma_begin 1 = .ok (.invokevirtual 30, 3) := by decide +kernel
theorem d_Ma_begin_4 : decode c_Ma_begin 4 = .ok (.aload_n 0, 1) := by decide +kernel
theorem d_Ma_begin_5 : decode c_Ma_begin 5 = .ok (.getfield 12, 3) := by decide +kernel
theorem d_Ma_begin_8 : decode c_Ma_begin 8 = .ok (.invokevirtual 36, 3) := by decide +kernel
theorem d_Ma_begin_11 : decode c_Ma_begin 11 = .ok (.aload_n 0, 1) := by decide +kernel
theorem d_Ma_begin_12 : decode c_Ma_begin 12 = .ok (.aload_n 0, 1) := by decide +kernel
theorem d_Ma_begin_13 : decode c_Ma_begin 13 = .ok (.getfield 12, 3) := by decide +kernel
theorem d_Ma_begin_16 : decode c_Ma_begin 16 = .ok (.invokevirtual 37, 3) := by decide +kernel
theorem d_Ma_begin_19 : decode c_Ma_begin 19 = .ok (.putfield 41, 3) := by decide +kernel
theorem d_Ma_begin_22 : decode c_Ma_begin 22 = .ok (.aload_n 0, 1) := by decide +kernel
theorem d_Ma_begin_23 : decode c_Ma_begin 23 = .ok (.getfield 41, 3) := by decide +kernel
theorem d_Ma_begin_26 : decode c_Ma_begin 26 = .ok (.aconst_null, 1) := by decide +kernel
theorem d_Ma_begin_27 : decode c_Ma_begin 27 = .ok (.iconst 0, 1) := by decide +kernel
theorem d_Ma_begin_28 : decode c_Ma_begin 28 = .ok (.invokevirtual 45, 3) := by decide +kernel
theorem d_Ma_begin_31 : decode c_Ma_begin 31 = .ok (.aload_n 0, 1) := by decide +kernel
theorem d_Ma_begin_32 : decode c_Ma_begin 32 = .ok (.getfield 41, 3) := by decide +kernel
theorem d_Ma_begin_35 : decode c_Ma_begin 35 = .ok (.aconst_null, 1) := by decide +kernel
theorem d_Ma_begin_36 : decode c_Ma_begin 36 = .ok (.putfield 51, 3) := by decide +kernel
theorem d_Ma_begin_39 : decode c_Ma_begin 39 = .ok (.aload_n 0, 1) := by decide +kernel
theorem d_Ma_begin_40 : decode c_Ma_begin 40 = .ok (.iconst 1, 1) := by decide +kernel
theorem d_Ma_begin_41 : decode c_Ma_begin 41 = .ok (.putfield 54, 3) := by decide +kernel
theorem d_Ma_begin_44 : decode c_Ma_begin 44 = .ok (.return_, 1) := by decide +kernel
theorem d_Ma_goOnFor_0 : decode c_Ma_goOnFor 0 = .ok (.aload_n 0, 1) := by decide +kernel
theorem d_Ma_goOnFor_1 : decode c_Ma_goOnFor 1 = .ok (.iload_n 1, 1) := by decide +kernel
theorem d_Ma_goOnFor_2 : decode c_Ma_goOnFor 2 = .ok (.putfield 57, 3) := by decide +kernel
theorem d_Ma_goOnFor_5 : decode c_Ma_goOnFor 5 = .ok (.aload_n 0, 1) := by decide +kernel
theorem d_Ma_goOnFor_6 : decode c_Ma_goOnFor 6 = .ok (.iconst 0, 1) := by decide +kernel
theorem d_Ma_goOnFor_7 : decode c_Ma_goOnFor 7 = .ok (.putfield 60, 3) := by decide +kernel
theorem d_Ma_goOnFor_10 : decode c_Ma_goOnFor 10 = .ok (.aload_n 0, 1) := by decide +kernel
theorem d_Ma_goOnFor_11 : decode c_Ma_goOnFor 11 = .ok (.iconst 0, 1) := by decide +kernel
theorem d_Ma_goOnFor_12 : decode c_Ma_goOnFor 12 = .ok (.putfield 63, 3) := by decide +kernel
theorem d_Ma_goOnFor_15 : decode c_Ma_goOnFor 15 = .ok (.iconst 0, 1) := by decide +kernel
theorem d_Ma_goOnFor_16 : decode c_Ma_goOnFor 16 = .ok (.istore_n 2, 1) := by decide +kernel
theorem d_Ma_goOnFor_17 : decode c_Ma_goOnFor 17 = .ok (.iload_n 2, 1) := by decide +kernel
theorem d_Ma_goOnFor_18 : decode c_Ma_goOnFor 18 = .ok (.ldc 66, 2) := by decide +kernel
theorem d_Ma_goOnFor_20 : decode c_Ma_goOnFor 20 = .ok (.if_icmp .ge 46, 3) := by decide +kernel
theorem d_Ma_goOnFor_23 : decode c_Ma_goOnFor 23 = .ok (.aload_n 0, 1) := by decide +kernel
theorem d_Ma_goOnFor_24 : decode c_Ma_goOnFor 24 = .ok (.getfield 54, 3) := by decide +kernel
theorem d_Ma_goOnFor_27 : decode c_Ma_goOnFor 27 = .ok (.iconst 1, 1) := by decide +kernel
theorem d_Ma_goOnFor_28 : decode c_Ma_goOnFor 28 = .ok (.if_icmp .ne 38, 3) := by decide +kernel
theorem d_Ma_goOnFor_31 : decode c_Ma_goOnFor 31 = .ok (.aload_n 0, 1) := by decide +kernel
theorem d_Ma_goOnFor_32 : decode c_Ma_goOnFor 32 = .ok (.getfield 63, 3) := by decide +kernel
theorem d_Ma_goOnFor_35 : decode c_Ma_goOnFor 35 = .ok (.ifCond .ne 31, 3) := by decide +kernel
theorem d_Ma_goOnFor_38 : decode c_Ma_goOnFor 38 = .ok (.aload_n 0, 1) := by decide +kernel
theorem d_Ma_goOnFor_39 : decode c_Ma_goOnFor 39 = .ok (.getfield 41, 3) := by decide +kernel
theorem d_Ma_goOnFor_42 : decode c_Ma_goOnFor 42 = .ok (.ifnull 24, 3) := by decide +kernel
theorem d_Ma_goOnFor_45 : decode c_Ma_goOnFor 45 = .ok (.aload_n 0, 1) := by decide +kernel
theorem d_Ma_goOnFor_46 : decode c_Ma_goOnFor 46 = .ok (.aload_n 0, 1) := by decide +kernel
theorem d_Ma_goOnFor_47 : decode c_Ma_goOnFor 47 = .ok (.getfield 41, 3) := by decide +kernel
theorem d_Ma_goOnFor_50 : decode c_Ma_goOnFor 50 = .ok (.aload_n 0, 1) := by decide +kernel
theorem d_Ma_goOnFor_51 : decode c_Ma_goOnFor 51 = .ok (.getfield 41, 3) := by decide +kernel
theorem d_Ma_goOnFor_54 : decode c_Ma_goOnFor 54 = .ok (.getfield 67, 3) := by decide +kernel
theorem d_Ma_goOnFor_57 : decode c_Ma_goOnFor 57 = .ok (.invokevirtual 70, 3) := by decide +kernel
theorem d_Ma_goOnFor_60 : decode c_Ma_goOnFor 60 = .ok (.iinc 2 1, 3) := by decide +kernel
theorem d_Ma_goOnFor_63 : decode c_Ma_goOnFor 63 = .ok (.goto (-46), 3) := by decide +kernel
theorem d_Ma_goOnFor_66 : decode c_Ma_goOnFor 66 = .ok (.aload_n 0, 1) := by decide +kernel
theorem d_Ma_goOnFor_67 : decode c_Ma_goOnFor 67 = .ok (.getfield 60, 3) := by decide +kernel
theorem d_Ma_goOnFor_70 : decode c_Ma_goOnFor 70 = .ok (.ireturn, 1) := by decide +kernel
theorem d_Ma_reset_0 : decode c_Ma_reset 0 = .ok (.aload_n 0, 1) := by decide +kernel
theorem d_Ma_reset_1 : decode c_Ma_reset 1 = .ok (.iconst 0, 1) := by decide +kernel
theorem d_Ma_reset_2 : decode c_Ma_reset 2 = .ok (.putfield 54, 3) := by decide +kernel
theorem d_Ma_reset_5 : decode c_Ma_reset 5 = .ok (.aload_n 0, 1) := by decide +kernel
theorem d_Ma_reset_6 : decode c_Ma_reset 6 = .ok (.iconst 0, 1) := by decide +kernel
theorem d_Ma_reset_7 : decode c_Ma_reset 7 = .ok (.putfield 74, 3) := by decide +kernel
theorem d_Ma_reset_10 : decode c_Ma_reset 10 = .ok (.aload_n 0, 1) := by decide +kernel
theorem d_Ma_reset_11 : decode c_Ma_reset 11 = .ok (.iconst 0, 1) := by decide +kernel
theorem d_Ma_reset_12 : decode c_Ma_reset 12 = .ok (.putfield 77, 3) := by decide +kernel
theorem d_Ma_reset_15 : decode c_Ma_reset 15 = .ok (.aload_n 0, 1) := by decide +kernel
theorem d_Ma_reset_16 : decode c_Ma_reset 16 = .ok (.iconst 0, 1) := by decide +kernel
theorem d_Ma_reset_17 : decode c_Ma_reset 17 = .ok (.putfield 80, 3) := by decide +kernel
theorem d_Ma_reset_20 : decode c_Ma_reset 20 = .ok (.aload_n 0, 1) := by decide +kernel
theorem d_Ma_reset_21 : decode c_Ma_reset 21 = .ok (.iconst 0, 1) := by decide +kernel
theorem d_Ma_reset_22 : decode c_Ma_reset 22 = .ok (.putfield 83, 3) := by decide +kernel
theorem d_Ma_reset_25 : decode c_Ma_reset 25 = .ok (.aload_n 0, 1) := by decide +kernel
theorem d_Ma_reset_26 : decode c_Ma_reset 26 = .ok (.iconst (-1), 1) := by decide +kernel
theorem d_Ma_reset_27 : decode c_Ma_reset 27 = .ok (.putfield 22, 3) := by decide +kernel
theorem d_Ma_reset_30 : decode c_Ma_reset 30 = .ok (.aload_n 0, 1) := by decide +kernel
theorem d_Ma_reset_31 : decode c_Ma_reset 31 = .ok (.aconst_null, 1) := by decide +kernel
theorem d_Ma_reset_32 : decode c_Ma_reset 32 = .ok (.putfield 41, 3) := by decide +kernel
theorem d_Ma_reset_35 : decode c_Ma_reset 35 = .ok (.return_, 1) := by decide +kernel
theorem d_Ma_work_0 : decode c_Ma_work 0 = .ok (.aload_n 0, 1) := by decide +kernel
theorem d_Ma_work_1 : decode c_Ma_work 1 = .ok (.getfield 18, 3) := by decide +kernel
theorem d_Ma_work_4 : decode c_Ma_work 4 = .ok (.iload_n 2, 1) := by decide +kernel
theorem d_Ma_work_5 : decode c_Ma_work 5 = .ok (.iconst 1, 1) := by decide +kernel
theorem d_Ma_work_6 : decode c_Ma_work 6 = .ok (.invokevirtual 86, 3) := by decide +kernel
theorem d_Ma_work_9 : decode c_Ma_work 9 = .ok (.istore_n 3, 1) := by decide +kernel
theorem d_Ma_work_10 : decode c_Ma_work 10 = .ok (.aload_n 1, 1) := by decide +kernel
theorem d_Ma_work_11 : decode c_Ma_work 11 = .ok (.iload_n 2, 1) := by decide +kernel
theorem d_Ma_work_12 : decode c_Ma_work 12 = .ok (.iconst 1, 1) := by decide +kernel
theorem d_Ma_work_13 : decode c_Ma_work 13 = .ok (.iadd, 1) := by decide +kernel
theorem d_Ma_work_14 : decode c_Ma_work 14 = .ok (.putfield 67, 3) := by decide +kernel
theorem d_Ma_work_17 : decode c_Ma_work 17 = .ok (.aload_n 0, 1) := by decide +kernel
theorem d_Ma_work_18 : decode c_Ma_work 18 = .ok (.getfield 18, 3) := by decide +kernel
theorem d_Ma_work_21 : decode c_Ma_work 21 = .ok (.iload_n 2, 1) := by decide +kernel
theorem d_Ma_work_22 : decode c_Ma_work 22 = .ok (.invokevirtual 92, 3) := by decide +kernel
theorem d_Ma_work_25 : decode c_Ma_work 25 = .ok (.tableswitch 188 1 13 #[67, 75, 87, 96, 105, 113, 134, 143, 152, 188, 161, 169, 178], 67) := by decide +kernel
theorem d_Ma_work_92 : decode c_Ma_work 92 = .ok (.aload_n 1, 1) := by decide +kernel
theorem d_Ma_work_93 : decode c_Ma_work 93 = .ok (.iload_n 3, 1) := by decide +kernel
theorem d_Ma_work_94 : decode c_Ma_work 94 = .ok (.invokevirtual 96, 3) := by decide +kernel
theorem d_Ma_work_97 : decode c_Ma_work 97 = .ok (.goto 121, 3) := by decide +kernel
theorem d_Ma_work_100 : decode c_Ma_work 100 = .ok (.aload_n 1, 1) := by decide +kernel
theorem d_Ma_work_101 : decode c_Ma_work 101 = .ok (.aload_n 1, 1) := by decide +kernel
theorem d_Ma_work_102 : decode c_Ma_work 102 = .ok (.iload_n 3, 1) := by decide +kernel
theorem d_Ma_work_103 : decode c_Ma_work 103 = .ok (.invokevirtual 100, 3) := by decide +kernel
theorem d_Ma_work_106 : decode c_Ma_work 106 = .ok (.invokevirtual 96, 3) := by decide +kernel
theorem d_Ma_work_109 : decode c_Ma_work 109 = .ok (.goto 109, 3) := by decide +kernel
theorem d_Ma_work_112 : decode c_Ma_work 112 = .ok (.aload_n 0, 1) := by decide +kernel
theorem d_Ma_work_113 : decode c_Ma_work 113 = .ok (.aload_n 1, 1) := by decide +kernel
theorem d_Ma_work_114 : decode c_Ma_work 114 = .ok (.iload_n 3, 1) := by decide +kernel
theorem d_Ma_work_115 : decode c_Ma_work 115 = .ok (.invokevirtual 103, 3) := by decide +kernel
theorem d_Ma_work_118 : decode c_Ma_work 118 = .ok (.goto 100, 3) := by decide +kernel
theorem d_Ma_work_121 : decode c_Ma_work 121 = .ok (.aload_n 0, 1) := by decide +kernel
theorem d_Ma_work_122 : decode c_Ma_work 122 = .ok (.aload_n 1, 1) := by decide +kernel
theorem d_Ma_work_123 : decode c_Ma_work 123 = .ok (.iload_n 3, 1) := by decide +kernel
theorem d_Ma_work_124 : decode c_Ma_work 124 = .ok (.invokevirtual 106, 3) := by decide +kernel
theorem d_Ma_work_127 : decode c_Ma_work 127 = .ok (.goto 91, 3) := by decide +kernel
theorem d_Ma_work_130 : decode c_Ma_work 130 = .ok (.aload_n 1, 1) := by decide +kernel
theorem d_Ma_work_131 : decode c_Ma_work 131 = .ok (.iload_n 3, 1) := by decide +kernel
theorem d_Ma_work_132 : decode c_Ma_work 132 = .ok (.putfield 67, 3) := by decide +kernel
theorem d_Ma_work_135 : decode c_Ma_work 135 = .ok (.goto 83, 3) := by decide +kernel
theorem d_Ma_work_138 : decode c_Ma_work 138 = .ok (.aload_n 1, 1) := by decide +kernel
theorem d_Ma_work_139 : decode c_Ma_work 139 = .ok (.aload_n 1, 1) := by decide +kernel
theorem d_Ma_work_140 : decode c_Ma_work 140 = .ok (.invokevirtual 109, 3) := by decide +kernel
theorem d_Ma_work_143 : decode c_Ma_work 143 = .ok (.ifCond .ne 7, 3) := by decide +kernel
theorem d_Ma_work_146 : decode c_Ma_work 146 = .ok (.iload_n 3, 1) := by decide +kernel
theorem d_Ma_work_147 : decode c_Ma_work 147 = .ok (.goto 6, 3) := by decide +kernel
theorem d_Ma_work_150 : decode c_Ma_work 150 = .ok (.iload_n 2, 1) := by decide +kernel
theorem d_Ma_work_151 : decode c_Ma_work 151 = .ok (.iconst 1, 1) := by decide +kernel
theorem d_Ma_work_152 : decode c_Ma_work 152 = .ok (.iadd, 1) := by decide +kernel
theorem d_Ma_work_153 : decode c_Ma_work 153 = .ok (.putfield 67, 3) := by decide +kernel
theorem d_Ma_work_156 : decode c_Ma_work 156 = .ok (.goto 62, 3) := by decide +kernel
theorem d_Ma_work_159 : decode c_Ma_work 159 = .ok (.aload_n 0, 1) := by decide +kernel
theorem d_Ma_work_160 : decode c_Ma_work 160 = .ok (.aload_n 1, 1) := by decide +kernel
theorem d_Ma_work_161 : decode c_Ma_work 161 = .ok (.iload_n 3, 1) := by decide +kernel
theorem d_Ma_work_162 : decode c_Ma_work 162 = .ok (.invokevirtual 113, 3) := by decide +kernel
theorem d_Ma_work_165 : decode c_Ma_work 165 = .ok (.goto 53, 3) := by decide +kernel
theorem d_Ma_work_168 : decode c_Ma_work 168 = .ok (.aload_n 0, 1) := by decide +kernel
theorem d_Ma_work_169 : decode c_Ma_work 169 = .ok (.aload_n 1, 1) := by decide +kernel
theorem d_Ma_work_170 : decode c_Ma_work 170 = .ok (.iload_n 2, 1) := by decide +kernel
theorem d_Ma_work_171 : decode c_Ma_work 171 = .ok (.invokevirtual 116, 3) := by decide +kernel
theorem d_Ma_work_174 : decode c_Ma_work 174 = .ok (.goto 44, 3) := by decide +kernel
theorem d_Ma_work_177 : decode c_Ma_work 177 = .ok (.aload_n 0, 1) := by decide +kernel
theorem d_Ma_work_178 : decode c_Ma_work 178 = .ok (.aload_n 1, 1) := by decide +kernel
theorem d_Ma_work_179 : decode c_Ma_work 179 = .ok (.iload_n 2, 1) := by decide +kernel
theorem d_Ma_work_180 : decode c_Ma_work 180 = .ok (.invokevirtual 119, 3) := by decide +kernel
theorem d_Ma_work_183 : decode c_Ma_work 183 = .ok (.goto 35, 3) := by decide +kernel
theorem d_Ma_work_186 : decode c_Ma_work 186 = .ok (.aload_n 0, 1) := by decide +kernel
theorem d_Ma_work_187 : decode c_Ma_work 187 = .ok (.aload_n 1, 1) := by decide +kernel
theorem d_Ma_work_188 : decode c_Ma_work 188 = .ok (.invokevirtual 122, 3) := by decide +kernel
theorem d_Ma_work_191 : decode c_Ma_work 191 = .ok (.goto 27, 3) := by decide +kernel
theorem d_Ma_work_194 : decode c_Ma_work 194 = .ok (.aload_n 0, 1) := by decide +kernel
theorem d_Ma_work_195 : decode c_Ma_work 195 = .ok (.aload_n 1, 1) := by decide +kernel
theorem d_Ma_work_196 : decode c_Ma_work 196 = .ok (.iload_n 2, 1) := by decide +kernel
theorem d_Ma_work_197 : decode c_Ma_work 197 = .ok (.invokevirtual 126, 3) := by decide +kernel
theorem d_Ma_work_200 : decode c_Ma_work 200 = .ok (.goto 18, 3) := by decide +kernel
theorem d_Ma_work_203 : decode c_Ma_work 203 = .ok (.aload_n 0, 1) := by decide +kernel
theorem d_Ma_work_204 : decode c_Ma_work 204 = .ok (.aload_n 1, 1) := by decide +kernel
theorem d_Ma_work_205 : decode c_Ma_work 205 = .ok (.iload_n 2, 1) := by decide +kernel
theorem d_Ma_work_206 : decode c_Ma_work 206 = .ok (.iload_n 3, 1) := by decide +kernel
theorem d_Ma_work_207 : decode c_Ma_work 207 = .ok (.invokevirtual 129, 3) := by decide +kernel
theorem d_Ma_work_210 : decode c_Ma_work 210 = .ok (.goto 8, 3) := by decide +kernel
theorem d_Ma_work_213 : decode c_Ma_work 213 = .ok (.aload_n 0, 1) := by decide +kernel
theorem d_Ma_work_214 : decode c_Ma_work 214 = .ok (.aload_n 1, 1) := by decide +kernel
theorem d_Ma_work_215 : decode c_Ma_work 215 = .ok (.invokevirtual 133, 3) := by decide +kernel
theorem d_Ma_work_218 : decode c_Ma_work 218 = .ok (.return_, 1) := by decide +kernel
theorem d_Ma_bind_0 : decode c_Ma_bind 0 = .ok (.aload_n 1, 1) := by decide +kernel
theorem d_Ma_bind_1 : decode c_Ma_bind 1 = .ok (.invokevirtual 109, 3) := by decide +kernel
theorem d_Ma_bind_4 : decode c_Ma_bind 4 = .ok (.istore_n 3, 1) := by decide +kernel
theorem d_Ma_bind_5 : decode c_Ma_bind 5 = .ok (.aload_n 1, 1) := by decide +kernel
theorem d_Ma_bind_6 : decode c_Ma_bind 6 = .ok (.aload_n 1, 1) := by decide +kernel
theorem d_Ma_bind_7 : decode c_Ma_bind 7 = .ok (.iload_n 2, 1) := by decide +kernel
theorem d_Ma_bind_8 : decode c_Ma_bind 8 = .ok (.invokevirtual 100, 3) := by decide +kernel
theorem d_Ma_bind_11 : decode c_Ma_bind 11 = .ok (.invokevirtual 96, 3) := by decide +kernel
theorem d_Ma_bind_14 : decode c_Ma_bind 14 = .ok (.aload_n 1, 1) := by decide +kernel
theorem d_Ma_bind_15 : decode c_Ma_bind 15 = .ok (.iload_n 2, 1) := by decide +kernel
theorem d_Ma_bind_16 : decode c_Ma_bind 16 = .ok (.iload_n 3, 1) := by decide +kernel
theorem d_Ma_bind_17 : decode c_Ma_bind 17 = .ok (.invokevirtual 136, 3) := by decide +kernel
theorem d_Ma_bind_20 : decode c_Ma_bind 20 = .ok (.return_, 1) := by decide +kernel
theorem d_Ma_unbind_0 : decode c_Ma_unbind 0 = .ok (.aload_n 1, 1) := by decide +kernel
theorem d_Ma_unbind_1 : decode c_Ma_unbind 1 = .ok (.invokevirtual 109, 3) := by decide +kernel
theorem d_Ma_unbind_4 : decode c_Ma_unbind 4 = .ok (.istore_n 3, 1) := by decide +kernel
theorem d_Ma_unbind_5 : decode c_Ma_unbind 5 = .ok (.aload_n 1, 1) := by decide +kernel
theorem d_Ma_unbind_6 : decode c_Ma_unbind 6 = .ok (.iload_n 2, 1) := by decide +kernel
theorem d_Ma_unbind_7 : decode c_Ma_unbind 7 = .ok (.aload_n 1, 1) := by decide +kernel
theorem d_Ma_unbind_8 : decode c_Ma_unbind 8 = .ok (.invokevirtual 109, 3) := by decide +kernel
theorem d_Ma_unbind_11 : decode c_Ma_unbind 11 = .ok (.invokevirtual 136, 3) := by decide +kernel
theorem d_Ma_unbind_14 : decode c_Ma_unbind 14 = .ok (.aload_n 1, 1) := by decide +kernel
theorem d_Ma_unbind_15 : decode c_Ma_unbind 15 = .ok (.iload_n 3, 1) := by decide +kernel
theorem d_Ma_unbind_16 : decode c_Ma_unbind 16 = .ok (.invokevirtual 96, 3) := by decide +kernel
theorem d_Ma_unbind_19 : decode c_Ma_unbind 19 = .ok (.return_, 1) := by decide +kernel
theorem d_Ma_combine_0 : decode c_Ma_combine 0 = .ok (.aload_n 1, 1) := by decide +kernel
theorem d_Ma_combine_1 : decode c_Ma_combine 1 = .ok (.invokevirtual 109, 3) := by decide +kernel
theorem d_Ma_combine_4 : decode c_Ma_combine 4 = .ok (.istore_n 3, 1) := by decide +kernel
theorem d_Ma_combine_5 : decode c_Ma_combine 5 = .ok (.aload_n 1, 1) := by decide +kernel
theorem d_Ma_combine_6 : decode c_Ma_combine 6 = .ok (.invokevirtual 109, 3) := by decide +kernel
theorem d_Ma_combine_9 : decode c_Ma_combine 9 = .ok (.istore 4, 2) := by decide +kernel
theorem d_Ma_combine_11 : decode c_Ma_combine 11 = .ok (.iload_n 2, 1) := by decide +kernel
theorem d_Ma_combine_12 : decode c_Ma_combine 12 = .ok (.tableswitch 83 0 3 #[32, 43, 54, 65], 32) := by decide +kernel
theorem d_Ma_combine_44 : decode c_Ma_combine 44 = .ok (.aload_n 1, 1) := by decide +kernel
theorem d_Ma_combine_45 : decode c_Ma_combine 45 = .ok (.iload 4, 2) := by decide +kernel
theorem d_Ma_combine_47 : decode c_Ma_combine 47 = .ok (.iload_n 3, 1) := by decide +kernel
theorem d_Ma_combine_48 : decode c_Ma_combine 48 = .ok (.iadd, 1) := by decide +kernel
theorem d_Ma_combine_49 : decode c_Ma_combine 49 = .ok (.invokevirtual 96, 3) := by decide +kernel
theorem d_Ma_combine_52 : decode c_Ma_combine 52 = .ok (.goto 58, 3) := by decide +kernel
theorem d_Ma_combine_55 : decode c_Ma_combine 55 = .ok (.aload_n 1, 1) := by decide +kernel
theorem d_Ma_combine_56 : decode c_Ma_combine 56 = .ok (.iload 4, 2) := by decide +kernel
theorem d_Ma_combine_58 : decode c_Ma_combine 58 = .ok (.iload_n 3, 1) := by decide +kernel
theorem d_Ma_combine_59 : decode c_Ma_combine 59 = .ok (.isub, 1) := by decide +kernel
theorem d_Ma_combine_60 : decode c_Ma_combine 60 = .ok (.invokevirtual 96, 3) := by decide +kernel
theorem d_Ma_combine_63 : decode c_Ma_combine 63 = .ok (.goto 47, 3) := by decide +kernel
theorem d_Ma_combine_66 : decode c_Ma_combine 66 = .ok (.aload_n 1, 1) := by decide +kernel
theorem d_Ma_combine_67 : decode c_Ma_combine 67 = .ok (.iload 4, 2) := by decide +kernel
theorem d_Ma_combine_69 : decode c_Ma_combine 69 = .ok (.iload_n 3, 1) := by decide +kernel
theorem d_Ma_combine_70 : decode c_Ma_combine 70 = .ok (.imul, 1) := by decide +kernel
theorem d_Ma_combine_71 : decode c_Ma_combine 71 = .ok (.invokevirtual 96, 3) := by decide +kernel
theorem d_Ma_combine_74 : decode c_Ma_combine 74 = .ok (.goto 36, 3) := by decide +kernel
theorem d_Ma_combine_77 : decode c_Ma_combine 77 = .ok (.aload_n 1, 1) := by decide +kernel
theorem d_Ma_combine_78 : decode c_Ma_combine 78 = .ok (.iload 4, 2) := by decide +kernel
theorem d_Ma_combine_80 : decode c_Ma_combine 80 = .ok (.iload_n 3, 1) := by decide +kernel
theorem d_Ma_combine_81 : decode c_Ma_combine 81 = .ok (.if_icmp .ge 7, 3) := by decide +kernel
theorem d_Ma_combine_84 : decode c_Ma_combine 84 = .ok (.iconst 1, 1) := by decide +kernel
theorem d_Ma_combine_85 : decode c_Ma_combine 85 = .ok (.goto 4, 3) := by decide +kernel
theorem d_Ma_combine_88 : decode c_Ma_combine 88 = .ok (.iconst 0, 1) := by decide +kernel
theorem d_Ma_combine_89 : decode c_Ma_combine 89 = .ok (.invokevirtual 96, 3) := by decide +kernel
theorem d_Ma_combine_92 : decode c_Ma_combine 92 = .ok (.goto 18, 3) := by decide +kernel
theorem d_Ma_combine_95 : decode c_Ma_combine 95 = .ok (.aload_n 1, 1) := by decide +kernel
theorem d_Ma_combine_96 : decode c_Ma_combine 96 = .ok (.iload 4, 2) := by decide +kernel
theorem d_Ma_combine_98 : decode c_Ma_combine 98 = .ok (.iload_n 3, 1) := by decide +kernel
theorem d_Ma_combine_99 : decode c_Ma_combine 99 = .ok (.if_icmp .ne 7, 3) := by decide +kernel
theorem d_Ma_combine_102 : decode c_Ma_combine 102 = .ok (.iconst 1, 1) := by decide +kernel
theorem d_Ma_combine_103 : decode c_Ma_combine 103 = .ok (.goto 4, 3) := by decide +kernel
theorem d_Ma_combine_106 : decode c_Ma_combine 106 = .ok (.iconst 0, 1) := by decide +kernel
theorem d_Ma_combine_107 : decode c_Ma_combine 107 = .ok (.invokevirtual 96, 3) := by decide +kernel
theorem d_Ma_combine_110 : decode c_Ma_combine 110 = .ok (.return_, 1) := by decide +kernel
theorem d_Ma_isFull_0 : decode c_Ma_isFull 0 = .ok (.aload_n 0, 1) := by decide +kernel
theorem d_Ma_isFull_1 : decode c_Ma_isFull 1 = .ok (.getfield 80, 3) := by decide +kernel
theorem d_Ma_isFull_4 : decode c_Ma_isFull 4 = .ok (.iload_n 1, 1) := by decide +kernel
theorem d_Ma_isFull_5 : decode c_Ma_isFull 5 = .ok (.iadd, 1) := by decide +kernel
theorem d_Ma_isFull_6 : decode c_Ma_isFull 6 = .ok (.sipush 1000, 3) := by decide +kernel
theorem d_Ma_isFull_9 : decode c_Ma_isFull 9 = .ok (.if_icmp .gt 5, 3) := by decide +kernel
theorem d_Ma_isFull_12 : decode c_Ma_isFull 12 = .ok (.iconst 0, 1) := by decide +kernel
theorem d_Ma_isFull_13 : decode c_Ma_isFull 13 = .ok (.ireturn, 1) := by decide +kernel
theorem d_Ma_isFull_14 : decode c_Ma_isFull 14 = .ok (.aload_n 0, 1) := by decide +kernel
theorem d_Ma_isFull_15 : decode c_Ma_isFull 15 = .ok (.iconst 5, 1) := by decide +kernel
theorem d_Ma_isFull_16 : decode c_Ma_isFull 16 = .ok (.putfield 54, 3) := by decide +kernel
theorem d_Ma_isFull_19 : decode c_Ma_isFull 19 = .ok (.iconst 1, 1) := by decide +kernel
theorem d_Ma_isFull_20 : decode c_Ma_isFull 20 = .ok (.ireturn, 1) := by decide +kernel
theorem d_Ma_isDeep_0 : decode c_Ma_isDeep 0 = .ok (.aload_n 0, 1) := by decide +kernel
theorem d_Ma_isDeep_1 : decode c_Ma_isDeep 1 = .ok (.getfield 83, 3) := by decide +kernel
theorem d_Ma_isDeep_4 : decode c_Ma_isDeep 4 = .ok (.iload_n 1, 1) := by decide +kernel
theorem d_Ma_isDeep_5 : decode c_Ma_isDeep 5 = .ok (.iadd, 1) := by decide +kernel
theorem d_Ma_isDeep_6 : decode c_Ma_isDeep 6 = .ok (.sipush 400, 3) := by decide +kernel
theorem d_Ma_isDeep_9 : decode c_Ma_isDeep 9 = .ok (.if_icmp .gt 5, 3) := by decide +kernel
theorem d_Ma_isDeep_12 : decode c_Ma_isDeep 12 = .ok (.iconst 0, 1) := by decide +kernel
theorem d_Ma_isDeep_13 : decode c_Ma_isDeep 13 = .ok (.ireturn, 1) := by decide +kernel
theorem d_Ma_isDeep_14 : decode c_Ma_isDeep 14 = .ok (.aload_n 0, 1) := by decide +kernel
theorem d_Ma_isDeep_15 : decode c_Ma_isDeep 15 = .ok (.bipush 6, 2) := by decide +kernel
theorem d_Ma_isDeep_17 : decode c_Ma_isDeep 17 = .ok (.putfield 54, 3) := by decide +kernel
theorem d_Ma_isDeep_20 : decode c_Ma_isDeep 20 = .ok (.iconst 1, 1) := by decide +kernel
theorem d_Ma_isDeep_21 : decode c_Ma_isDeep 21 = .ok (.ireturn, 1) := by decide +kernel
theorem d_Ma_takesFuel_0 : decode c_Ma_takesFuel 0 = .ok (.aload_n 0, 1) := by decide +kernel
theorem d_Ma_takesFuel_1 : decode c_Ma_takesFuel 1 = .ok (.getfield 60, 3) := by decide +kernel
theorem d_Ma_takesFuel_4 : decode c_Ma_takesFuel 4 = .ok (.aload_n 0, 1) := by decide +kernel
theorem d_Ma_takesFuel_5 : decode c_Ma_takesFuel 5 = .ok (.getfield 57, 3) := by decide +kernel
theorem d_Ma_takesFuel_8 : decode c_Ma_takesFuel 8 = .ok (.if_icmp .lt 15, 3) := by decide +kernel
theorem d_Ma_takesFuel_11 : decode c_Ma_takesFuel 11 = .ok (.aload_n 0, 1) := by decide +kernel
theorem d_Ma_takesFuel_12 : decode c_Ma_takesFuel 12 = .ok (.iconst 1, 1) := by decide +kernel
theorem d_Ma_takesFuel_13 : decode c_Ma_takesFuel 13 = .ok (.putfield 63, 3) := by decide +kernel
theorem d_Ma_takesFuel_16 : decode c_Ma_takesFuel 16 = .ok (.aload_n 1, 1) := by decide +kernel
theorem d_Ma_takesFuel_17 : decode c_Ma_takesFuel 17 = .ok (.iload_n 2, 1) := by decide +kernel
theorem d_Ma_takesFuel_18 : decode c_Ma_takesFuel 18 = .ok (.putfield 67, 3) := by decide +kernel
theorem d_Ma_takesFuel_21 : decode c_Ma_takesFuel 21 = .ok (.iconst 0, 1) := by decide +kernel
theorem d_Ma_takesFuel_22 : decode c_Ma_takesFuel 22 = .ok (.ireturn, 1) := by decide +kernel
theorem d_Ma_takesFuel_23 : decode c_Ma_takesFuel 23 = .ok (.aload_n 0, 1) := by decide +kernel
theorem d_Ma_takesFuel_24 : decode c_Ma_takesFuel 24 = .ok (.dup, 1) := by decide +kernel
theorem d_Ma_takesFuel_25 : decode c_Ma_takesFuel 25 = .ok (.getfield 60, 3) := by decide +kernel
theorem d_Ma_takesFuel_28 : decode c_Ma_takesFuel 28 = .ok (.iconst 1, 1) := by decide +kernel
theorem d_Ma_takesFuel_29 : decode c_Ma_takesFuel 29 = .ok (.iadd, 1) := by decide +kernel
theorem d_Ma_takesFuel_30 : decode c_Ma_takesFuel 30 = .ok (.putfield 60, 3) := by decide +kernel
theorem d_Ma_takesFuel_33 : decode c_Ma_takesFuel 33 = .ok (.aload_n 0, 1) := by decide +kernel
theorem d_Ma_takesFuel_34 : decode c_Ma_takesFuel 34 = .ok (.dup, 1) := by decide +kernel
theorem d_Ma_takesFuel_35 : decode c_Ma_takesFuel 35 = .ok (.getfield 77, 3) := by decide +kernel
theorem d_Ma_takesFuel_38 : decode c_Ma_takesFuel 38 = .ok (.iconst 1, 1) := by decide +kernel
theorem d_Ma_takesFuel_39 : decode c_Ma_takesFuel 39 = .ok (.iadd, 1) := by decide +kernel
theorem d_Ma_takesFuel_40 : decode c_Ma_takesFuel 40 = .ok (.putfield 77, 3) := by decide +kernel
theorem d_Ma_takesFuel_43 : decode c_Ma_takesFuel 43 = .ok (.iconst 1, 1) := by decide +kernel
theorem d_Ma_takesFuel_44 : decode c_Ma_takesFuel 44 = .ok (.ireturn, 1) := by decide +kernel
theorem d_Ma_close_0 : decode c_Ma_close 0 = .ok (.aload_n 0, 1) := by decide +kernel
theorem d_Ma_close_1 : decode c_Ma_close 1 = .ok (.iconst 1, 1) := by decide +kernel
theorem d_Ma_close_2 : decode c_Ma_close 2 = .ok (.invokevirtual 140, 3) := by decide +kernel
theorem d_Ma_close_5 : decode c_Ma_close 5 = .ok (.ifCond .eq 4, 3) := by decide +kernel
theorem d_Ma_close_8 : decode c_Ma_close 8 = .ok (.return_, 1) := by decide +kernel
theorem d_Ma_close_9 : decode c_Ma_close 9 = .ok (.aload_n 0, 1) := by decide +kernel
theorem d_Ma_close_10 : decode c_Ma_close 10 = .ok (.dup, 1) := by decide +kernel
theorem d_Ma_close_11 : decode c_Ma_close 11 = .ok (.getfield 80, 3) := by decide +kernel
theorem d_Ma_close_14 : decode c_Ma_close 14 = .ok (.iconst 1, 1) := by decide +kernel
theorem d_Ma_close_15 : decode c_Ma_close 15 = .ok (.iadd, 1) := by decide +kernel
theorem d_Ma_close_16 : decode c_Ma_close 16 = .ok (.putfield 80, 3) := by decide +kernel
theorem d_Ma_close_19 : decode c_Ma_close 19 = .ok (.aload_n 0, 1) := by decide +kernel
theorem d_Ma_close_20 : decode c_Ma_close 20 = .ok (.getfield 12, 3) := by decide +kernel
theorem d_Ma_close_23 : decode c_Ma_close 23 = .ok (.invokevirtual 144, 3) := by decide +kernel
theorem d_Ma_close_26 : decode c_Ma_close 26 = .ok (.istore_n 3, 1) := by decide +kernel
theorem d_Ma_close_27 : decode c_Ma_close 27 = .ok (.aload_n 0, 1) := by decide +kernel
theorem d_Ma_close_28 : decode c_Ma_close 28 = .ok (.getfield 12, 3) := by decide +kernel
theorem d_Ma_close_31 : decode c_Ma_close 31 = .ok (.iload_n 3, 1) := by decide +kernel
theorem d_Ma_close_32 : decode c_Ma_close 32 = .ok (.invokevirtual 147, 3) := by decide +kernel
theorem d_Ma_close_35 : decode c_Ma_close 35 = .ok (.astore 4, 2) := by decide +kernel
theorem d_Ma_close_37 : decode c_Ma_close 37 = .ok (.aload 4, 2) := by decide +kernel
theorem d_Ma_close_39 : decode c_Ma_close 39 = .ok (.ifnonnull 4, 3) := by decide +kernel
theorem d_Ma_close_42 : decode c_Ma_close 42 = .ok (.return_, 1) := by decide +kernel
theorem d_Ma_close_43 : decode c_Ma_close 43 = .ok (.aload 4, 2) := by decide +kernel
theorem d_Ma_close_45 : decode c_Ma_close 45 = .ok (.iload_n 2, 1) := by decide +kernel
theorem d_Ma_close_46 : decode c_Ma_close 46 = .ok (.invokevirtual 151, 3) := by decide +kernel
theorem d_Ma_close_49 : decode c_Ma_close 49 = .ok (.aload_n 1, 1) := by decide +kernel
theorem d_Ma_close_50 : decode c_Ma_close 50 = .ok (.aload 4, 2) := by decide +kernel
theorem d_Ma_close_52 : decode c_Ma_close 52 = .ok (.invokevirtual 156, 3) := by decide +kernel
theorem d_Ma_close_55 : decode c_Ma_close 55 = .ok (.aload 4, 2) := by decide +kernel
theorem d_Ma_close_57 : decode c_Ma_close 57 = .ok (.aload_n 0, 1) := by decide +kernel
theorem d_Ma_close_58 : decode c_Ma_close 58 = .ok (.getfield 18, 3) := by decide +kernel
theorem d_Ma_close_61 : decode c_Ma_close 61 = .ok (.iload_n 2, 1) := by decide +kernel
theorem d_Ma_close_62 : decode c_Ma_close 62 = .ok (.iconst 2, 1) := by decide +kernel
theorem d_Ma_close_63 : decode c_Ma_close 63 = .ok (.invokevirtual 86, 3) := by decide +kernel
theorem d_Ma_close_66 : decode c_Ma_close 66 = .ok (.iload_n 3, 1) := by decide +kernel
theorem d_Ma_close_67 : decode c_Ma_close 67 = .ok (.invokevirtual 160, 3) := by decide +kernel
theorem d_Ma_close_70 : decode c_Ma_close 70 = .ok (.aload_n 1, 1) := by decide +kernel
theorem d_Ma_close_71 : decode c_Ma_close 71 = .ok (.iload_n 3, 1) := by decide +kernel
theorem d_Ma_close_72 : decode c_Ma_close 72 = .ok (.invokevirtual 96, 3) := by decide +kernel
theorem d_Ma_close_75 : decode c_Ma_close 75 = .ok (.aload_n 1, 1) := by decide +kernel
theorem d_Ma_close_76 : decode c_Ma_close 76 = .ok (.aload_n 0, 1) := by decide +kernel
theorem d_Ma_close_77 : decode c_Ma_close 77 = .ok (.getfield 18, 3) := by decide +kernel
theorem d_Ma_close_80 : decode c_Ma_close 80 = .ok (.iload_n 2, 1) := by decide +kernel
theorem d_Ma_close_81 : decode c_Ma_close 81 = .ok (.iconst 3, 1) := by decide +kernel
theorem d_Ma_close_82 : decode c_Ma_close 82 = .ok (.invokevirtual 86, 3) := by decide +kernel
theorem d_Ma_close_85 : decode c_Ma_close 85 = .ok (.putfield 67, 3) := by decide +kernel
theorem d_Ma_close_88 : decode c_Ma_close 88 = .ok (.return_, 1) := by decide +kernel
theorem d_Ma_install_0 : decode c_Ma_install 0 = .ok (.aload_n 0, 1) := by decide +kernel
theorem d_Ma_install_1 : decode c_Ma_install 1 = .ok (.iconst 1, 1) := by decide +kernel
theorem d_Ma_install_2 : decode c_Ma_install 2 = .ok (.invokevirtual 140, 3) := by decide +kernel
theorem d_Ma_install_5 : decode c_Ma_install 5 = .ok (.ifCond .ne 11, 3) := by decide +kernel
theorem d_Ma_install_8 : decode c_Ma_install 8 = .ok (.aload_n 0, 1) := by decide +kernel
theorem d_Ma_install_9 : decode c_Ma_install 9 = .ok (.iconst 1, 1) := by decide +kernel
theorem d_Ma_install_10 : decode c_Ma_install 10 = .ok (.invokevirtual 161, 3) := by decide +kernel
theorem d_Ma_install_13 : decode c_Ma_install 13 = .ok (.ifCond .eq 4, 3) := by decide +kernel
theorem d_Ma_install_16 : decode c_Ma_install 16 = .ok (.return_, 1) := by decide +kernel
theorem d_Ma_install_17 : decode c_Ma_install 17 = .ok (.aload_n 0, 1) := by decide +kernel
theorem d_Ma_install_18 : decode c_Ma_install 18 = .ok (.dup, 1) := by decide +kernel
theorem d_Ma_install_19 : decode c_Ma_install 19 = .ok (.getfield 80, 3) := by decide +kernel
theorem d_Ma_install_22 : decode c_Ma_install 22 = .ok (.iconst 1, 1) := by decide +kernel
theorem d_Ma_install_23 : decode c_Ma_install 23 = .ok (.iadd, 1) := by decide +kernel
theorem d_Ma_install_24 : decode c_Ma_install 24 = .ok (.putfield 80, 3) := by decide +kernel
theorem d_Ma_install_27 : decode c_Ma_install 27 = .ok (.aload_n 0, 1) := by decide +kernel
theorem d_Ma_install_28 : decode c_Ma_install 28 = .ok (.getfield 12, 3) := by decide +kernel
theorem d_Ma_install_31 : decode c_Ma_install 31 = .ok (.aload_n 0, 1) := by decide +kernel
theorem d_Ma_install_32 : decode c_Ma_install 32 = .ok (.getfield 12, 3) := by decide +kernel
theorem d_Ma_install_35 : decode c_Ma_install 35 = .ok (.invokevirtual 144, 3) := by decide +kernel
theorem d_Ma_install_38 : decode c_Ma_install 38 = .ok (.invokevirtual 147, 3) := by decide +kernel
theorem d_Ma_install_41 : decode c_Ma_install 41 = .ok (.astore_n 3, 1) := by decide +kernel
theorem d_Ma_install_42 : decode c_Ma_install 42 = .ok (.aload_n 3, 1) := by decide +kernel
theorem d_Ma_install_43 : decode c_Ma_install 43 = .ok (.ifnonnull 4, 3) := by decide +kernel
theorem d_Ma_install_46 : decode c_Ma_install 46 = .ok (.return_, 1) := by decide +kernel
theorem d_Ma_install_47 : decode c_Ma_install 47 = .ok (.aload_n 3, 1) := by decide +kernel
theorem d_Ma_install_48 : decode c_Ma_install 48 = .ok (.iload_n 2, 1) := by decide +kernel
theorem d_Ma_install_49 : decode c_Ma_install 49 = .ok (.invokevirtual 151, 3) := by decide +kernel
theorem d_Ma_install_52 : decode c_Ma_install 52 = .ok (.aload_n 1, 1) := by decide +kernel
theorem d_Ma_install_53 : decode c_Ma_install 53 = .ok (.aload_n 3, 1) := by decide +kernel
theorem d_Ma_install_54 : decode c_Ma_install 54 = .ok (.invokevirtual 156, 3) := by decide +kernel
theorem d_Ma_install_57 : decode c_Ma_install 57 = .ok (.aload_n 1, 1) := by decide +kernel
theorem d_Ma_install_58 : decode c_Ma_install 58 = .ok (.aload_n 0, 1) := by decide +kernel
theorem d_Ma_install_59 : decode c_Ma_install 59 = .ok (.getfield 18, 3) := by decide +kernel
theorem d_Ma_install_62 : decode c_Ma_install 62 = .ok (.iload_n 2, 1) := by decide +kernel
theorem d_Ma_install_63 : decode c_Ma_install 63 = .ok (.iconst 1, 1) := by decide +kernel
theorem d_Ma_install_64 : decode c_Ma_install 64 = .ok (.invokevirtual 86, 3) := by decide +kernel
theorem d_Ma_install_67 : decode c_Ma_install 67 = .ok (.putfield 67, 3) := by decide +kernel
theorem d_Ma_install_70 : decode c_Ma_install 70 = .ok (.aload_n 0, 1) := by decide +kernel
theorem d_Ma_install_71 : decode c_Ma_install 71 = .ok (.aload_n 1, 1) := by decide +kernel
theorem d_Ma_install_72 : decode c_Ma_install 72 = .ok (.aload_n 3, 1) := by decide +kernel
theorem d_Ma_install_73 : decode c_Ma_install 73 = .ok (.iload_n 2, 1) := by decide +kernel
theorem d_Ma_install_74 : decode c_Ma_install 74 = .ok (.iconst 1, 1) := by decide +kernel
theorem d_Ma_install_75 : decode c_Ma_install 75 = .ok (.iadd, 1) := by decide +kernel
theorem d_Ma_install_76 : decode c_Ma_install 76 = .ok (.aload_n 0, 1) := by decide +kernel
theorem d_Ma_install_77 : decode c_Ma_install 77 = .ok (.getfield 18, 3) := by decide +kernel
theorem d_Ma_install_80 : decode c_Ma_install 80 = .ok (.iload_n 2, 1) := by decide +kernel
theorem d_Ma_install_81 : decode c_Ma_install 81 = .ok (.iconst 4, 1) := by decide +kernel
theorem d_Ma_install_82 : decode c_Ma_install 82 = .ok (.invokevirtual 86, 3) := by decide +kernel
theorem d_Ma_install_85 : decode c_Ma_install 85 = .ok (.iadd, 1) := by decide +kernel
theorem d_Ma_install_86 : decode c_Ma_install 86 = .ok (.invokevirtual 164, 3) := by decide +kernel
theorem d_Ma_install_89 : decode c_Ma_install 89 = .ok (.aload_n 0, 1) := by decide +kernel
theorem d_Ma_install_90 : decode c_Ma_install 90 = .ok (.getfield 41, 3) := by decide +kernel
theorem d_Ma_install_93 : decode c_Ma_install 93 = .ok (.aload_n 3, 1) := by decide +kernel
theorem d_Ma_install_94 : decode c_Ma_install 94 = .ok (.putfield 168, 3) := by decide +kernel
theorem d_Ma_install_97 : decode c_Ma_install 97 = .ok (.return_, 1) := by decide +kernel
theorem d_Ma_enter_0 : decode c_Ma_enter 0 = .ok (.aload_n 0, 1) := by decide +kernel
theorem d_Ma_enter_1 : decode c_Ma_enter 1 = .ok (.getfield 12, 3) := by decide +kernel
theorem d_Ma_enter_4 : decode c_Ma_enter 4 = .ok (.invokevirtual 37, 3) := by decide +kernel
theorem d_Ma_enter_7 : decode c_Ma_enter 7 = .ok (.astore 4, 2) := by decide +kernel
theorem d_Ma_enter_9 : decode c_Ma_enter 9 = .ok (.aload 4, 2) := by decide +kernel
theorem d_Ma_enter_11 : decode c_Ma_enter 11 = .ok (.aload_n 2, 1) := by decide +kernel
theorem d_Ma_enter_12 : decode c_Ma_enter 12 = .ok (.iload_n 3, 1) := by decide +kernel
theorem d_Ma_enter_13 : decode c_Ma_enter 13 = .ok (.invokevirtual 45, 3) := by decide +kernel
theorem d_Ma_enter_16 : decode c_Ma_enter 16 = .ok (.aload 4, 2) := by decide +kernel
theorem d_Ma_enter_18 : decode c_Ma_enter 18 = .ok (.aload_n 1, 1) := by decide +kernel
theorem d_Ma_enter_19 : decode c_Ma_enter 19 = .ok (.putfield 51, 3) := by decide +kernel
theorem d_Ma_enter_22 : decode c_Ma_enter 22 = .ok (.aload_n 0, 1) := by decide +kernel
theorem d_Ma_enter_23 : decode c_Ma_enter 23 = .ok (.aload 4, 2) := by decide +kernel
theorem d_Ma_enter_25 : decode c_Ma_enter 25 = .ok (.putfield 41, 3) := by decide +kernel
theorem d_Ma_enter_28 : decode c_Ma_enter 28 = .ok (.aload_n 0, 1) := by decide +kernel
theorem d_Ma_enter_29 : decode c_Ma_enter 29 = .ok (.dup, 1) := by decide +kernel
theorem d_Ma_enter_30 : decode c_Ma_enter 30 = .ok (.getfield 83, 3) := by decide +kernel
theorem d_Ma_enter_33 : decode c_Ma_enter 33 = .ok (.iconst 1, 1) := by decide +kernel
theorem d_Ma_enter_34 : decode c_Ma_enter 34 = .ok (.iadd, 1) := by decide +kernel
theorem d_Ma_enter_35 : decode c_Ma_enter 35 = .ok (.putfield 83, 3) := by decide +kernel
theorem d_Ma_enter_38 : decode c_Ma_enter 38 = .ok (.return_, 1) := by decide +kernel
theorem d_Ma_endBody_0 : decode c_Ma_endBody 0 = .ok (.aload_n 1, 1) := by decide +kernel
theorem d_Ma_endBody_1 : decode c_Ma_endBody 1 = .ok (.getfield 168, 3) := by decide +kernel
theorem d_Ma_endBody_4 : decode c_Ma_endBody 4 = .ok (.astore_n 2, 1) := by decide +kernel
theorem d_Ma_endBody_5 : decode c_Ma_endBody 5 = .ok (.aload_n 2, 1) := by decide +kernel
theorem d_Ma_endBody_6 : decode c_Ma_endBody 6 = .ok (.ifnonnull 4, 3) := by decide +kernel
theorem d_Ma_endBody_9 : decode c_Ma_endBody 9 = .ok (.return_, 1) := by decide +kernel
theorem d_Ma_endBody_10 : decode c_Ma_endBody 10 = .ok (.aload_n 1, 1) := by decide +kernel
theorem d_Ma_endBody_11 : decode c_Ma_endBody 11 = .ok (.invokevirtual 109, 3) := by decide +kernel
theorem d_Ma_endBody_14 : decode c_Ma_endBody 14 = .ok (.istore_n 3, 1) := by decide +kernel
theorem d_Ma_endBody_15 : decode c_Ma_endBody 15 = .ok (.aload_n 1, 1) := by decide +kernel
theorem d_Ma_endBody_16 : decode c_Ma_endBody 16 = .ok (.aload_n 2, 1) := by decide +kernel
theorem d_Ma_endBody_17 : decode c_Ma_endBody 17 = .ok (.aload_n 0, 1) := by decide +kernel
theorem d_Ma_endBody_18 : decode c_Ma_endBody 18 = .ok (.getfield 18, 3) := by decide +kernel
theorem d_Ma_endBody_21 : decode c_Ma_endBody 21 = .ok (.aload_n 2, 1) := by decide +kernel
theorem d_Ma_endBody_22 : decode c_Ma_endBody 22 = .ok (.getfield 172, 3) := by decide +kernel
theorem d_Ma_endBody_25 : decode c_Ma_endBody 25 = .ok (.iconst 2, 1) := by decide +kernel
theorem d_Ma_endBody_26 : decode c_Ma_endBody 26 = .ok (.invokevirtual 86, 3) := by decide +kernel
theorem d_Ma_endBody_29 : decode c_Ma_endBody 29 = .ok (.invokevirtual 45, 3) := by decide +kernel
theorem d_Ma_endBody_32 : decode c_Ma_endBody 32 = .ok (.aload_n 1, 1) := by decide +kernel
theorem d_Ma_endBody_33 : decode c_Ma_endBody 33 = .ok (.aload_n 0, 1) := by decide +kernel
theorem d_Ma_endBody_34 : decode c_Ma_endBody 34 = .ok (.getfield 18, 3) := by decide +kernel
theorem d_Ma_endBody_37 : decode c_Ma_endBody 37 = .ok (.aload_n 2, 1) := by decide +kernel
theorem d_Ma_endBody_38 : decode c_Ma_endBody 38 = .ok (.getfield 172, 3) := by decide +kernel
theorem d_Ma_endBody_41 : decode c_Ma_endBody 41 = .ok (.iconst 3, 1) := by decide +kernel
theorem d_Ma_endBody_42 : decode c_Ma_endBody 42 = .ok (.invokevirtual 86, 3) := by decide +kernel
theorem d_Ma_endBody_45 : decode c_Ma_endBody 45 = .ok (.iload_n 3, 1) := by decide +kernel
theorem d_Ma_endBody_46 : decode c_Ma_endBody 46 = .ok (.invokevirtual 136, 3) := by decide +kernel
theorem d_Ma_endBody_49 : decode c_Ma_endBody 49 = .ok (.return_, 1) := by decide +kernel
theorem d_Ma_apply_0 : decode c_Ma_apply 0 = .ok (.aload_n 0, 1) := by decide +kernel
theorem d_Ma_apply_1 : decode c_Ma_apply 1 = .ok (.aload_n 1, 1) := by decide +kernel
theorem d_Ma_apply_2 : decode c_Ma_apply 2 = .ok (.iload_n 2, 1) := by decide +kernel
theorem d_Ma_apply_3 : decode c_Ma_apply 3 = .ok (.invokevirtual 173, 3) := by decide +kernel
theorem d_Ma_apply_6 : decode c_Ma_apply 6 = .ok (.ifCond .ne 4, 3) := by decide +kernel
theorem d_Ma_apply_9 : decode c_Ma_apply 9 = .ok (.return_, 1) := by decide +kernel
theorem d_Ma_apply_10 : decode c_Ma_apply 10 = .ok (.aload_n 1, 1) := by decide +kernel
theorem d_Ma_apply_11 : decode c_Ma_apply 11 = .ok (.invokevirtual 109, 3) := by decide +kernel
theorem d_Ma_apply_14 : decode c_Ma_apply 14 = .ok (.istore_n 3, 1) := by decide +kernel
theorem d_Ma_apply_15 : decode c_Ma_apply 15 = .ok (.aload_n 0, 1) := by decide +kernel
theorem d_Ma_apply_16 : decode c_Ma_apply 16 = .ok (.getfield 12, 3) := by decide +kernel
theorem d_Ma_apply_19 : decode c_Ma_apply 19 = .ok (.aload_n 1, 1) := by decide +kernel
theorem d_Ma_apply_20 : decode c_Ma_apply 20 = .ok (.invokevirtual 109, 3) := by decide +kernel
theorem d_Ma_apply_23 : decode c_Ma_apply 23 = .ok (.invokevirtual 147, 3) := by decide +kernel
theorem d_Ma_apply_26 : decode c_Ma_apply 26 = .ok (.astore 4, 2) := by decide +kernel
theorem d_Ma_apply_28 : decode c_Ma_apply 28 = .ok (.aload 4, 2) := by decide +kernel
theorem d_Ma_apply_30 : decode c_Ma_apply 30 = .ok (.ifnonnull 4, 3) := by decide +kernel
theorem d_Ma_apply_33 : decode c_Ma_apply 33 = .ok (.return_, 1) := by decide +kernel
theorem d_Ma_apply_34 : decode c_Ma_apply 34 = .ok (.aload 4, 2) := by decide +kernel
theorem d_Ma_apply_36 : decode c_Ma_apply 36 = .ok (.getfield 177, 3) := by decide +kernel
theorem d_Ma_apply_39 : decode c_Ma_apply 39 = .ok (.ifCond .eq 14, 3) := by decide +kernel
theorem d_Ma_apply_42 : decode c_Ma_apply 42 = .ok (.aload_n 0, 1) := by decide +kernel
theorem d_Ma_apply_43 : decode c_Ma_apply 43 = .ok (.aload_n 1, 1) := by decide +kernel
theorem d_Ma_apply_44 : decode c_Ma_apply 44 = .ok (.aload 4, 2) := by decide +kernel
theorem d_Ma_apply_46 : decode c_Ma_apply 46 = .ok (.iload_n 3, 1) := by decide +kernel
theorem d_Ma_apply_47 : decode c_Ma_apply 47 = .ok (.invokevirtual 180, 3) := by decide +kernel
theorem d_Ma_apply_50 : decode c_Ma_apply 50 = .ok (.goto 46, 3) := by decide +kernel
theorem d_Ma_apply_53 : decode c_Ma_apply 53 = .ok (.aload_n 0, 1) := by decide +kernel
theorem d_Ma_apply_54 : decode c_Ma_apply 54 = .ok (.iconst 1, 1) := by decide +kernel
theorem d_Ma_apply_55 : decode c_Ma_apply 55 = .ok (.invokevirtual 161, 3) := by decide +kernel
theorem d_Ma_apply_58 : decode c_Ma_apply 58 = .ok (.ifCond .ne 38, 3) := by decide +kernel
theorem d_Ma_apply_61 : decode c_Ma_apply 61 = .ok (.aload_n 0, 1) := by decide +kernel
theorem d_Ma_apply_62 : decode c_Ma_apply 62 = .ok (.aload_n 1, 1) := by decide +kernel
theorem d_Ma_apply_63 : decode c_Ma_apply 63 = .ok (.aload 4, 2) := by decide +kernel
theorem d_Ma_apply_65 : decode c_Ma_apply 65 = .ok (.aload 4, 2) := by decide +kernel
theorem d_Ma_apply_67 : decode c_Ma_apply 67 = .ok (.getfield 172, 3) := by decide +kernel
theorem d_Ma_apply_70 : decode c_Ma_apply 70 = .ok (.iconst 1, 1) := by decide +kernel
theorem d_Ma_apply_71 : decode c_Ma_apply 71 = .ok (.iadd, 1) := by decide +kernel
theorem d_Ma_apply_72 : decode c_Ma_apply 72 = .ok (.invokevirtual 164, 3) := by decide +kernel
theorem d_Ma_apply_75 : decode c_Ma_apply 75 = .ok (.aload_n 0, 1) := by decide +kernel
theorem d_Ma_apply_76 : decode c_Ma_apply 76 = .ok (.getfield 41, 3) := by decide +kernel
theorem d_Ma_apply_79 : decode c_Ma_apply 79 = .ok (.aload_n 0, 1) := by decide +kernel
theorem d_Ma_apply_80 : decode c_Ma_apply 80 = .ok (.getfield 18, 3) := by decide +kernel
theorem d_Ma_apply_83 : decode c_Ma_apply 83 = .ok (.aload 4, 2) := by decide +kernel
theorem d_Ma_apply_85 : decode c_Ma_apply 85 = .ok (.getfield 172, 3) := by decide +kernel
theorem d_Ma_apply_88 : decode c_Ma_apply 88 = .ok (.iconst 1, 1) := by decide +kernel
theorem d_Ma_apply_89 : decode c_Ma_apply 89 = .ok (.invokevirtual 86, 3) := by decide +kernel
theorem d_Ma_apply_92 : decode c_Ma_apply 92 = .ok (.iload_n 3, 1) := by decide +kernel
theorem d_Ma_apply_93 : decode c_Ma_apply 93 = .ok (.invokevirtual 136, 3) := by decide +kernel
theorem d_Ma_apply_96 : decode c_Ma_apply 96 = .ok (.return_, 1) := by decide +kernel
theorem d_Ma_resume_0 : decode c_Ma_resume 0 = .ok (.aload_n 2, 1) := by decide +kernel
theorem d_Ma_resume_1 : decode c_Ma_resume 1 = .ok (.getfield 183, 3) := by decide +kernel
theorem d_Ma_resume_4 : decode c_Ma_resume 4 = .ok (.ifCond .eq 9, 3) := by decide +kernel
theorem d_Ma_resume_7 : decode c_Ma_resume 7 = .ok (.aload_n 0, 1) := by decide +kernel
theorem d_Ma_resume_8 : decode c_Ma_resume 8 = .ok (.iconst 3, 1) := by decide +kernel
theorem d_Ma_resume_9 : decode c_Ma_resume 9 = .ok (.putfield 54, 3) := by decide +kernel
theorem d_Ma_resume_12 : decode c_Ma_resume 12 = .ok (.return_, 1) := by decide +kernel
theorem d_Ma_resume_13 : decode c_Ma_resume 13 = .ok (.aload_n 0, 1) := by decide +kernel
theorem d_Ma_resume_14 : decode c_Ma_resume 14 = .ok (.aload_n 2, 1) := by decide +kernel
theorem d_Ma_resume_15 : decode c_Ma_resume 15 = .ok (.getfield 186, 3) := by decide +kernel
theorem d_Ma_resume_18 : decode c_Ma_resume 18 = .ok (.invokevirtual 161, 3) := by decide +kernel
theorem d_Ma_resume_21 : decode c_Ma_resume 21 = .ok (.ifCond .ne 17, 3) := by decide +kernel
theorem d_Ma_resume_24 : decode c_Ma_resume 24 = .ok (.aload_n 2, 1) := by decide +kernel
theorem d_Ma_resume_25 : decode c_Ma_resume 25 = .ok (.getfield 189, 3) := by decide +kernel
theorem d_Ma_resume_28 : decode c_Ma_resume 28 = .ok (.ifnull 10, 3) := by decide +kernel
theorem d_Ma_resume_31 : decode c_Ma_resume 31 = .ok (.aload_n 2, 1) := by decide +kernel
theorem d_Ma_resume_32 : decode c_Ma_resume 32 = .ok (.getfield 192, 3) := by decide +kernel
theorem d_Ma_resume_35 : decode c_Ma_resume 35 = .ok (.ifnonnull 4, 3) := by decide +kernel
theorem d_Ma_resume_38 : decode c_Ma_resume 38 = .ok (.return_, 1) := by decide +kernel
theorem d_Ma_resume_39 : decode c_Ma_resume 39 = .ok (.aload_n 2, 1) := by decide +kernel
theorem d_Ma_resume_40 : decode c_Ma_resume 40 = .ok (.iconst 1, 1) := by decide +kernel
theorem d_Ma_resume_41 : decode c_Ma_resume 41 = .ok (.putfield 183, 3) := by decide +kernel
theorem d_Ma_resume_44 : decode c_Ma_resume 44 = .ok (.aload_n 0, 1) := by decide +kernel
theorem d_Ma_resume_45 : decode c_Ma_resume 45 = .ok (.dup, 1) := by decide +kernel
theorem d_Ma_resume_46 : decode c_Ma_resume 46 = .ok (.getfield 83, 3) := by decide +kernel
theorem d_Ma_resume_49 : decode c_Ma_resume 49 = .ok (.aload_n 2, 1) := by decide +kernel
theorem d_Ma_resume_50 : decode c_Ma_resume 50 = .ok (.getfield 186, 3) := by decide +kernel
theorem d_Ma_resume_53 : decode c_Ma_resume 53 = .ok (.iadd, 1) := by decide +kernel
theorem d_Ma_resume_54 : decode c_Ma_resume 54 = .ok (.putfield 83, 3) := by decide +kernel
theorem d_Ma_resume_57 : decode c_Ma_resume 57 = .ok (.aload_n 2, 1) := by decide +kernel
theorem d_Ma_resume_58 : decode c_Ma_resume 58 = .ok (.getfield 189, 3) := by decide +kernel
theorem d_Ma_resume_61 : decode c_Ma_resume 61 = .ok (.aload_n 1, 1) := by decide +kernel
theorem d_Ma_resume_62 : decode c_Ma_resume 62 = .ok (.putfield 51, 3) := by decide +kernel
theorem d_Ma_resume_65 : decode c_Ma_resume 65 = .ok (.aload_n 0, 1) := by decide +kernel
theorem d_Ma_resume_66 : decode c_Ma_resume 66 = .ok (.aload_n 2, 1) := by decide +kernel
theorem d_Ma_resume_67 : decode c_Ma_resume 67 = .ok (.getfield 192, 3) := by decide +kernel
theorem d_Ma_resume_70 : decode c_Ma_resume 70 = .ok (.putfield 41, 3) := by decide +kernel
theorem d_Ma_resume_73 : decode c_Ma_resume 73 = .ok (.aload_n 0, 1) := by decide +kernel
theorem d_Ma_resume_74 : decode c_Ma_resume 74 = .ok (.getfield 41, 3) := by decide +kernel
theorem d_Ma_resume_77 : decode c_Ma_resume 77 = .ok (.iload_n 3, 1) := by decide +kernel
theorem d_Ma_resume_78 : decode c_Ma_resume 78 = .ok (.invokevirtual 96, 3) := by decide +kernel
theorem d_Ma_resume_81 : decode c_Ma_resume 81 = .ok (.return_, 1) := by decide +kernel
theorem d_Ma_raise_0 : decode c_Ma_raise 0 = .ok (.aload_n 0, 1) := by decide +kernel
theorem d_Ma_raise_1 : decode c_Ma_raise 1 = .ok (.aload_n 1, 1) := by decide +kernel
theorem d_Ma_raise_2 : decode c_Ma_raise 2 = .ok (.iload_n 2, 1) := by decide +kernel
theorem d_Ma_raise_3 : decode c_Ma_raise 3 = .ok (.invokevirtual 173, 3) := by decide +kernel
theorem d_Ma_raise_6 : decode c_Ma_raise 6 = .ok (.ifCond .ne 4, 3) := by decide +kernel
theorem d_Ma_raise_9 : decode c_Ma_raise 9 = .ok (.return_, 1) := by decide +kernel
theorem d_Ma_raise_10 : decode c_Ma_raise 10 = .ok (.aload_n 1, 1) := by decide +kernel
theorem d_Ma_raise_11 : decode c_Ma_raise 11 = .ok (.invokevirtual 109, 3) := by decide +kernel
theorem d_Ma_raise_14 : decode c_Ma_raise 14 = .ok (.istore 4, 2) := by decide +kernel
theorem d_Ma_raise_16 : decode c_Ma_raise 16 = .ok (.aload_n 1, 1) := by decide +kernel
theorem d_Ma_raise_17 : decode c_Ma_raise 17 = .ok (.astore 5, 2) := by decide +kernel
theorem d_Ma_raise_19 : decode c_Ma_raise 19 = .ok (.aload_n 0, 1) := by decide +kernel
theorem d_Ma_raise_20 : decode c_Ma_raise 20 = .ok (.getfield 18, 3) := by decide +kernel
theorem d_Ma_raise_23 : decode c_Ma_raise 23 = .ok (.aload 5, 2) := by decide +kernel
theorem d_Ma_raise_25 : decode c_Ma_raise 25 = .ok (.getfield 168, 3) := by decide +kernel
theorem d_Ma_raise_28 : decode c_Ma_raise 28 = .ok (.iload_n 3, 1) := by decide +kernel
theorem d_Ma_raise_29 : decode c_Ma_raise 29 = .ok (.invokevirtual 195, 3) := by decide +kernel
theorem d_Ma_raise_32 : decode c_Ma_raise 32 = .ok (.istore 6, 2) := by decide +kernel
theorem d_Ma_raise_34 : decode c_Ma_raise 34 = .ok (.iconst 1, 1) := by decide +kernel
theorem d_Ma_raise_35 : decode c_Ma_raise 35 = .ok (.istore 7, 2) := by decide +kernel
theorem d_Ma_raise_37 : decode c_Ma_raise 37 = .ok (.iload 6, 2) := by decide +kernel
theorem d_Ma_raise_39 : decode c_Ma_raise 39 = .ok (.iconst (-1), 1) := by decide +kernel
theorem d_Ma_raise_40 : decode c_Ma_raise 40 = .ok (.if_icmp .ne 47, 3) := by decide +kernel
theorem d_Ma_raise_43 : decode c_Ma_raise 43 = .ok (.aload 5, 2) := by decide +kernel
theorem d_Ma_raise_45 : decode c_Ma_raise 45 = .ok (.getfield 51, 3) := by decide +kernel
theorem d_Ma_raise_48 : decode c_Ma_raise 48 = .ok (.ifnull 39, 3) := by decide +kernel
theorem d_Ma_raise_51 : decode c_Ma_raise 51 = .ok (.iload 7, 2) := by decide +kernel
theorem d_Ma_raise_53 : decode c_Ma_raise 53 = .ok (.sipush 400, 3) := by decide +kernel
theorem d_Ma_raise_56 : decode c_Ma_raise 56 = .ok (.if_icmp .gt 31, 3) := by decide +kernel
theorem d_Ma_raise_59 : decode c_Ma_raise 59 = .ok (.aload 5, 2) := by decide +kernel
theorem d_Ma_raise_61 : decode c_Ma_raise 61 = .ok (.getfield 51, 3) := by decide +kernel
theorem d_Ma_raise_64 : decode c_Ma_raise 64 = .ok (.astore 5, 2) := by decide +kernel
theorem d_Ma_raise_66 : decode c_Ma_raise 66 = .ok (.aload_n 0, 1) := by decide +kernel
theorem d_Ma_raise_67 : decode c_Ma_raise 67 = .ok (.getfield 18, 3) := by decide +kernel
theorem d_Ma_raise_70 : decode c_Ma_raise 70 = .ok (.aload 5, 2) := by decide +kernel
theorem d_Ma_raise_72 : decode c_Ma_raise 72 = .ok (.getfield 168, 3) := by decide +kernel
theorem d_Ma_raise_75 : decode c_Ma_raise 75 = .ok (.iload_n 3, 1) := by decide +kernel
theorem d_Ma_raise_76 : decode c_Ma_raise 76 = .ok (.invokevirtual 195, 3) := by decide +kernel
theorem d_Ma_raise_79 : decode c_Ma_raise 79 = .ok (.istore 6, 2) := by decide +kernel
theorem d_Ma_raise_81 : decode c_Ma_raise 81 = .ok (.iinc 7 1, 3) := by decide +kernel
theorem d_Ma_raise_84 : decode c_Ma_raise 84 = .ok (.goto (-47), 3) := by decide +kernel
theorem d_Ma_raise_87 : decode c_Ma_raise 87 = .ok (.iload 6, 2) := by decide +kernel
theorem d_Ma_raise_89 : decode c_Ma_raise 89 = .ok (.iconst (-1), 1) := by decide +kernel
theorem d_Ma_raise_90 : decode c_Ma_raise 90 = .ok (.if_icmp .ne 16, 3) := by decide +kernel
theorem d_Ma_raise_93 : decode c_Ma_raise 93 = .ok (.aload_n 0, 1) := by decide +kernel
theorem d_Ma_raise_94 : decode c_Ma_raise 94 = .ok (.iload_n 3, 1) := by decide +kernel
theorem d_Ma_raise_95 : decode c_Ma_raise 95 = .ok (.putfield 22, 3) := by decide +kernel
theorem d_Ma_raise_98 : decode c_Ma_raise 98 = .ok (.aload_n 0, 1) := by decide +kernel
theorem d_Ma_raise_99 : decode c_Ma_raise 99 = .ok (.iconst 4, 1) := by decide +kernel
theorem d_Ma_raise_100 : decode c_Ma_raise 100 = .ok (.putfield 54, 3) := by decide +kernel
theorem d_Ma_raise_103 : decode c_Ma_raise 103 = .ok (.goto 90, 3) := by decide +kernel
theorem d_Ma_raise_106 : decode c_Ma_raise 106 = .ok (.aload_n 0, 1) := by decide +kernel
theorem d_Ma_raise_107 : decode c_Ma_raise 107 = .ok (.iconst 1, 1) := by decide +kernel
theorem d_Ma_raise_108 : decode c_Ma_raise 108 = .ok (.iload 7, 2) := by decide +kernel
theorem d_Ma_raise_110 : decode c_Ma_raise 110 = .ok (.iadd, 1) := by decide +kernel
theorem d_Ma_raise_111 : decode c_Ma_raise 111 = .ok (.invokevirtual 140, 3) := by decide +kernel
theorem d_Ma_raise_114 : decode c_Ma_raise 114 = .ok (.ifCond .ne 79, 3) := by decide +kernel
theorem d_Ma_raise_117 : decode c_Ma_raise 117 = .ok (.aload 5, 2) := by decide +kernel
theorem d_Ma_raise_119 : decode c_Ma_raise 119 = .ok (.getfield 51, 3) := by decide +kernel
theorem d_Ma_raise_122 : decode c_Ma_raise 122 = .ok (.astore 8, 2) := by decide +kernel
theorem d_Ma_raise_124 : decode c_Ma_raise 124 = .ok (.aload_n 0, 1) := by decide +kernel
theorem d_Ma_raise_125 : decode c_Ma_raise 125 = .ok (.aload 5, 2) := by decide +kernel
theorem d_Ma_raise_127 : decode c_Ma_raise 127 = .ok (.iload 7, 2) := by decide +kernel
theorem d_Ma_raise_129 : decode c_Ma_raise 129 = .ok (.invokevirtual 199, 3) := by decide +kernel
theorem d_Ma_raise_132 : decode c_Ma_raise 132 = .ok (.istore 9, 2) := by decide +kernel
theorem d_Ma_raise_134 : decode c_Ma_raise 134 = .ok (.aload_n 0, 1) := by decide +kernel
theorem d_Ma_raise_135 : decode c_Ma_raise 135 = .ok (.aload 8, 2) := by decide +kernel
theorem d_Ma_raise_137 : decode c_Ma_raise 137 = .ok (.aload 5, 2) := by decide +kernel
theorem d_Ma_raise_139 : decode c_Ma_raise 139 = .ok (.getfield 168, 3) := by decide +kernel
theorem d_Ma_raise_142 : decode c_Ma_raise 142 = .ok (.aload_n 0, 1) := by decide +kernel
theorem d_Ma_raise_143 : decode c_Ma_raise 143 = .ok (.getfield 18, 3) := by decide +kernel
theorem d_Ma_raise_146 : decode c_Ma_raise 146 = .ok (.iload 6, 2) := by decide +kernel
theorem d_Ma_raise_148 : decode c_Ma_raise 148 = .ok (.iconst 2, 1) := by decide +kernel
theorem d_Ma_raise_149 : decode c_Ma_raise 149 = .ok (.invokevirtual 86, 3) := by decide +kernel
theorem d_Ma_raise_152 : decode c_Ma_raise 152 = .ok (.invokevirtual 164, 3) := by decide +kernel
theorem d_Ma_raise_155 : decode c_Ma_raise 155 = .ok (.aload_n 0, 1) := by decide +kernel
theorem d_Ma_raise_156 : decode c_Ma_raise 156 = .ok (.getfield 41, 3) := by decide +kernel
theorem d_Ma_raise_159 : decode c_Ma_raise 159 = .ok (.aload_n 0, 1) := by decide +kernel
theorem d_Ma_raise_160 : decode c_Ma_raise 160 = .ok (.getfield 18, 3) := by decide +kernel
theorem d_Ma_raise_163 : decode c_Ma_raise 163 = .ok (.iload 6, 2) := by decide +kernel
theorem d_Ma_raise_165 : decode c_Ma_raise 165 = .ok (.iconst 3, 1) := by decide +kernel
theorem d_Ma_raise_166 : decode c_Ma_raise 166 = .ok (.invokevirtual 86, 3) := by decide +kernel
theorem d_Ma_raise_169 : decode c_Ma_raise 169 = .ok (.iload 4, 2) := by decide +kernel
theorem d_Ma_raise_171 : decode c_Ma_raise 171 = .ok (.invokevirtual 136, 3) := by decide +kernel
theorem d_Ma_raise_174 : decode c_Ma_raise 174 = .ok (.aload_n 0, 1) := by decide +kernel
theorem d_Ma_raise_175 : decode c_Ma_raise 175 = .ok (.getfield 41, 3) := by decide +kernel
theorem d_Ma_raise_178 : decode c_Ma_raise 178 = .ok (.aload_n 0, 1) := by decide +kernel
theorem d_Ma_raise_179 : decode c_Ma_raise 179 = .ok (.getfield 18, 3) := by decide +kernel
theorem d_Ma_raise_182 : decode c_Ma_raise 182 = .ok (.iload 6, 2) := by decide +kernel
theorem d_Ma_raise_184 : decode c_Ma_raise 184 = .ok (.iconst 4, 1) := by decide +kernel
theorem d_Ma_raise_185 : decode c_Ma_raise 185 = .ok (.invokevirtual 86, 3) := by decide +kernel
theorem d_Ma_raise_188 : decode c_Ma_raise 188 = .ok (.iload 9, 2) := by decide +kernel
theorem d_Ma_raise_190 : decode c_Ma_raise 190 = .ok (.invokevirtual 136, 3) := by decide +kernel
theorem d_Ma_raise_193 : decode c_Ma_raise 193 = .ok (.return_, 1) := by decide +kernel
theorem d_Ma_holdFrames_0 : decode c_Ma_holdFrames 0 = .ok (.aload_n 0, 1) := by decide +kernel
theorem d_Ma_holdFrames_1 : decode c_Ma_holdFrames 1 = .ok (.dup, 1) := by decide +kernel
theorem d_Ma_holdFrames_2 : decode c_Ma_holdFrames 2 = .ok (.getfield 80, 3) := by decide +kernel
theorem d_Ma_holdFrames_5 : decode c_Ma_holdFrames 5 = .ok (.iconst 1, 1) := by decide +kernel
theorem d_Ma_holdFrames_6 : decode c_Ma_holdFrames 6 = .ok (.iload_n 2, 1) := by decide +kernel
theorem d_Ma_holdFrames_7 : decode c_Ma_holdFrames 7 = .ok (.iadd, 1) := by decide +kernel
theorem d_Ma_holdFrames_8 : decode c_Ma_holdFrames 8 = .ok (.iadd, 1) := by decide +kernel
theorem d_Ma_holdFrames_9 : decode c_Ma_holdFrames 9 = .ok (.putfield 80, 3) := by decide +kernel
theorem d_Ma_holdFrames_12 : decode c_Ma_holdFrames 12 = .ok (.aload_n 0, 1) := by decide +kernel
theorem d_Ma_holdFrames_13 : decode c_Ma_holdFrames 13 = .ok (.dup, 1) := by decide +kernel
theorem d_Ma_holdFrames_14 : decode c_Ma_holdFrames 14 = .ok (.getfield 83, 3) := by decide +kernel
theorem d_Ma_holdFrames_17 : decode c_Ma_holdFrames 17 = .ok (.iload_n 2, 1) := by decide +kernel
theorem d_Ma_holdFrames_18 : decode c_Ma_holdFrames 18 = .ok (.isub, 1) := by decide +kernel
theorem d_Ma_holdFrames_19 : decode c_Ma_holdFrames 19 = .ok (.putfield 83, 3) := by decide +kernel
theorem d_Ma_holdFrames_22 : decode c_Ma_holdFrames 22 = .ok (.aload_n 0, 1) := by decide +kernel
theorem d_Ma_holdFrames_23 : decode c_Ma_holdFrames 23 = .ok (.getfield 12, 3) := by decide +kernel
theorem d_Ma_holdFrames_26 : decode c_Ma_holdFrames 26 = .ok (.invokevirtual 144, 3) := by decide +kernel
theorem d_Ma_holdFrames_29 : decode c_Ma_holdFrames 29 = .ok (.istore_n 3, 1) := by decide +kernel
theorem d_Ma_holdFrames_30 : decode c_Ma_holdFrames 30 = .ok (.aload_n 0, 1) := by decide +kernel
theorem d_Ma_holdFrames_31 : decode c_Ma_holdFrames 31 = .ok (.getfield 12, 3) := by decide +kernel
theorem d_Ma_holdFrames_34 : decode c_Ma_holdFrames 34 = .ok (.iload_n 3, 1) := by decide +kernel
theorem d_Ma_holdFrames_35 : decode c_Ma_holdFrames 35 = .ok (.invokevirtual 147, 3) := by decide +kernel
theorem d_Ma_holdFrames_38 : decode c_Ma_holdFrames 38 = .ok (.astore 4, 2) := by decide +kernel
theorem d_Ma_holdFrames_40 : decode c_Ma_holdFrames 40 = .ok (.aload 4, 2) := by decide +kernel
theorem d_Ma_holdFrames_42 : decode c_Ma_holdFrames 42 = .ok (.ifnull 14, 3) := by decide +kernel
theorem d_Ma_holdFrames_45 : decode c_Ma_holdFrames 45 = .ok (.aload 4, 2) := by decide +kernel
theorem d_Ma_holdFrames_47 : decode c_Ma_holdFrames 47 = .ok (.aload_n 0, 1) := by decide +kernel
theorem d_Ma_holdFrames_48 : decode c_Ma_holdFrames 48 = .ok (.getfield 41, 3) := by decide +kernel
theorem d_Ma_holdFrames_51 : decode c_Ma_holdFrames 51 = .ok (.aload_n 1, 1) := by decide +kernel
theorem d_Ma_holdFrames_52 : decode c_Ma_holdFrames 52 = .ok (.iload_n 2, 1) := by decide +kernel
theorem d_Ma_holdFrames_53 : decode c_Ma_holdFrames 53 = .ok (.invokevirtual 203, 3) := by decide +kernel
theorem d_Ma_holdFrames_56 : decode c_Ma_holdFrames 56 = .ok (.aload_n 1, 1) := by decide +kernel
theorem d_Ma_holdFrames_57 : decode c_Ma_holdFrames 57 = .ok (.aconst_null, 1) := by decide +kernel
theorem d_Ma_holdFrames_58 : decode c_Ma_holdFrames 58 = .ok (.putfield 51, 3) := by decide +kernel
theorem d_Ma_holdFrames_61 : decode c_Ma_holdFrames 61 = .ok (.iload_n 3, 1) := by decide +kernel
theorem d_Ma_holdFrames_62 : decode c_Ma_holdFrames 62 = .ok (.ireturn, 1) := by decide +kernel
theorem d_Ma_end_0 : decode c_Ma_end 0 = .ok (.aload_n 1, 1) := by decide +kernel
theorem d_Ma_end_1 : decode c_Ma_end 1 = .ok (.invokevirtual 109, 3) := by decide +kernel
theorem d_Ma_end_4 : decode c_Ma_end 4 = .ok (.istore_n 2, 1) := by decide +kernel
theorem d_Ma_end_5 : decode c_Ma_end 5 = .ok (.aload_n 1, 1) := by decide +kernel
theorem d_Ma_end_6 : decode c_Ma_end 6 = .ok (.getfield 51, 3) := by decide +kernel
theorem d_Ma_end_9 : decode c_Ma_end 9 = .ok (.astore_n 3, 1) := by decide +kernel
theorem d_Ma_end_10 : decode c_Ma_end 10 = .ok (.aload_n 3, 1) := by decide +kernel
theorem d_Ma_end_11 : decode c_Ma_end 11 = .ok (.ifnonnull 25, 3) := by decide +kernel
theorem d_Ma_end_14 : decode c_Ma_end 14 = .ok (.aload_n 0, 1) := by decide +kernel
theorem d_Ma_end_15 : decode c_Ma_end 15 = .ok (.iconst 2, 1) := by decide +kernel
theorem d_Ma_end_16 : decode c_Ma_end 16 = .ok (.putfield 54, 3) := by decide +kernel
theorem d_Ma_end_19 : decode c_Ma_end 19 = .ok (.aload_n 0, 1) := by decide +kernel
theorem d_Ma_end_20 : decode c_Ma_end 20 = .ok (.aload_n 0, 1) := by decide +kernel
theorem d_Ma_end_21 : decode c_Ma_end 21 = .ok (.getfield 33, 3) := by decide +kernel
theorem d_Ma_end_24 : decode c_Ma_end 24 = .ok (.ifCond .eq 7, 3) := by decide +kernel
theorem d_Ma_end_27 : decode c_Ma_end 27 = .ok (.iload_n 2, 1) := by decide +kernel
theorem d_Ma_end_28 : decode c_Ma_end 28 = .ok (.goto 4, 3) := by decide +kernel
theorem d_Ma_end_31 : decode c_Ma_end 31 = .ok (.iconst 0, 1) := by decide +kernel
theorem d_Ma_end_32 : decode c_Ma_end 32 = .ok (.putfield 74, 3) := by decide +kernel
theorem d_Ma_end_35 : decode c_Ma_end 35 = .ok (.return_, 1) := by decide +kernel
theorem d_Ma_end_36 : decode c_Ma_end 36 = .ok (.aload_n 3, 1) := by decide +kernel
theorem d_Ma_end_37 : decode c_Ma_end 37 = .ok (.iload_n 2, 1) := by decide +kernel
theorem d_Ma_end_38 : decode c_Ma_end 38 = .ok (.invokevirtual 96, 3) := by decide +kernel
theorem d_Ma_end_41 : decode c_Ma_end 41 = .ok (.aload_n 0, 1) := by decide +kernel
theorem d_Ma_end_42 : decode c_Ma_end 42 = .ok (.aload_n 3, 1) := by decide +kernel
theorem d_Ma_end_43 : decode c_Ma_end 43 = .ok (.putfield 41, 3) := by decide +kernel
theorem d_Ma_end_46 : decode c_Ma_end 46 = .ok (.aload_n 0, 1) := by decide +kernel
theorem d_Ma_end_47 : decode c_Ma_end 47 = .ok (.dup, 1) := by decide +kernel
theorem d_Ma_end_48 : decode c_Ma_end 48 = .ok (.getfield 83, 3) := by decide +kernel
theorem d_Ma_end_51 : decode c_Ma_end 51 = .ok (.iconst 1, 1) := by decide +kernel
theorem d_Ma_end_52 : decode c_Ma_end 52 = .ok (.isub, 1) := by decide +kernel
theorem d_Ma_end_53 : decode c_Ma_end 53 = .ok (.putfield 83, 3) := by decide +kernel
theorem d_Ma_end_56 : decode c_Ma_end 56 = .ok (.aload_n 0, 1) := by decide +kernel
theorem d_Ma_end_57 : decode c_Ma_end 57 = .ok (.getfield 12, 3) := by decide +kernel
theorem d_Ma_end_60 : decode c_Ma_end 60 = .ok (.aload_n 1, 1) := by decide +kernel
theorem d_Ma_end_61 : decode c_Ma_end 61 = .ok (.invokevirtual 207, 3) := by decide +kernel
theorem d_Ma_end_64 : decode c_Ma_end 64 = .ok (.return_, 1) := by decide +kernel
