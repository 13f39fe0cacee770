/-! decode rows: by program -/
theorem d_Ce_init_0 : decode c_Ce_init 0 = .ok (.aload_n 0, 1) := by decide +kernel
theorem d_Ce_init_1 : decode c_Ce_init 1 = .ok (.invokespecial 1, 3) := by decide +kernel
theorem d_Ce_init_4 : decode c_Ce_init 4 = .ok (.aload_n 0, 1) := by decide +kernel
theorem d_Ce_init_5 : decode c_Ce_init 5 = .ok (.bipush 16, 2) := by decide +kernel
theorem d_Ce_init_7 : decode c_Ce_init 7 = .ok (.newarray .int, 2) := by decide +kernel
theorem d_Ce_init_9 : decode c_Ce_init 9 = .ok (.putfield 7, 3) := by decide +kernel
theorem d_Ce_init_12 : decode c_Ce_init 12 = .ok (.return_, 1) := by decide +kernel
theorem d_Ce_at_0 : decode c_Ce_at 0 = .ok (.iload_n 1, 1) := by decide +kernel
theorem d_Ce_at_1 : decode c_Ce_at 1 = .ok (.ifCond .lt 21, 3) := by decide +kernel
theorem d_Ce_at_4 : decode c_Ce_at 4 = .ok (.iload_n 1, 1) := by decide +kernel
theorem d_Ce_at_5 : decode c_Ce_at 5 = .ok (.aload_n 0, 1) := by decide +kernel
theorem d_Ce_at_6 : decode c_Ce_at 6 = .ok (.getfield 7, 3) := by decide +kernel
theorem d_Ce_at_9 : decode c_Ce_at 9 = .ok (.arraylength, 1) := by decide +kernel
theorem d_Ce_at_10 : decode c_Ce_at 10 = .ok (.if_icmp .ge 12, 3) := by decide +kernel
theorem d_Ce_at_13 : decode c_Ce_at 13 = .ok (.aload_n 0, 1) := by decide +kernel
theorem d_Ce_at_14 : decode c_Ce_at 14 = .ok (.getfield 7, 3) := by decide +kernel
theorem d_Ce_at_17 : decode c_Ce_at 17 = .ok (.iload_n 1, 1) := by decide +kernel
theorem d_Ce_at_18 : decode c_Ce_at 18 = .ok (.iaload, 1) := by decide +kernel
theorem d_Ce_at_19 : decode c_Ce_at 19 = .ok (.goto 4, 3) := by decide +kernel
theorem d_Ce_at_22 : decode c_Ce_at 22 = .ok (.iconst 0, 1) := by decide +kernel
theorem d_Ce_at_23 : decode c_Ce_at 23 = .ok (.ireturn, 1) := by decide +kernel
theorem d_Ce_put_0 : decode c_Ce_put 0 = .ok (.iload_n 1, 1) := by decide +kernel
theorem d_Ce_put_1 : decode c_Ce_put 1 = .ok (.ifCond .lt 9, 3) := by decide +kernel
theorem d_Ce_put_4 : decode c_Ce_put 4 = .ok (.iload_n 1, 1) := by decide +kernel
theorem d_Ce_put_5 : decode c_Ce_put 5 = .ok (.ldc 13, 2) := by decide +kernel
theorem d_Ce_put_7 : decode c_Ce_put 7 = .ok (.if_icmp .lt 4, 3) := by decide +kernel
theorem d_Ce_put_10 : decode c_Ce_put 10 = .ok (.return_, 1) := by decide +kernel
theorem d_Ce_put_11 : decode c_Ce_put 11 = .ok (.iload_n 1, 1) := by decide +kernel
theorem d_Ce_put_12 : decode c_Ce_put 12 = .ok (.aload_n 0, 1) := by decide +kernel
theorem d_Ce_put_13 : decode c_Ce_put 13 = .ok (.getfield 7, 3) := by decide +kernel
theorem d_Ce_put_16 : decode c_Ce_put 16 = .ok (.arraylength, 1) := by decide +kernel
theorem d_Ce_put_17 : decode c_Ce_put 17 = .ok (.if_icmp .lt 27, 3) := by decide +kernel
theorem d_Ce_put_20 : decode c_Ce_put 20 = .ok (.aload_n 0, 1) := by decide +kernel
theorem d_Ce_put_21 : decode c_Ce_put 21 = .ok (.aload_n 0, 1) := by decide +kernel
theorem d_Ce_put_22 : decode c_Ce_put 22 = .ok (.getfield 7, 3) := by decide +kernel
theorem d_Ce_put_25 : decode c_Ce_put 25 = .ok (.iload_n 1, 1) := by decide +kernel
theorem d_Ce_put_26 : decode c_Ce_put 26 = .ok (.iconst 1, 1) := by decide +kernel
theorem d_Ce_put_27 : decode c_Ce_put 27 = .ok (.iadd, 1) := by decide +kernel
theorem d_Ce_put_28 : decode c_Ce_put 28 = .ok (.iconst 2, 1) := by decide +kernel
theorem d_Ce_put_29 : decode c_Ce_put 29 = .ok (.aload_n 0, 1) := by decide +kernel
theorem d_Ce_put_30 : decode c_Ce_put 30 = .ok (.getfield 7, 3) := by decide +kernel
theorem d_Ce_put_33 : decode c_Ce_put 33 = .ok (.arraylength, 1) := by decide +kernel
theorem d_Ce_put_34 : decode c_Ce_put 34 = .ok (.imul, 1) := by decide +kernel
theorem d_Ce_put_35 : decode c_Ce_put 35 = .ok (.invokestatic 14, 3) := by decide +kernel
theorem d_Ce_put_38 : decode c_Ce_put 38 = .ok (.invokestatic 20, 3) := by decide +kernel
theorem d_Ce_put_41 : decode c_Ce_put 41 = .ok (.putfield 7, 3) := by decide +kernel
theorem d_Ce_put_44 : decode c_Ce_put 44 = .ok (.aload_n 0, 1) := by decide +kernel
theorem d_Ce_put_45 : decode c_Ce_put 45 = .ok (.getfield 7, 3) := by decide +kernel
theorem d_Ce_put_48 : decode c_Ce_put 48 = .ok (.iload_n 1, 1) := by decide +kernel
theorem d_Ce_put_49 : decode c_Ce_put 49 = .ok (.iload_n 2, 1) := by decide +kernel
theorem d_Ce_put_50 : decode c_Ce_put 50 = .ok (.iastore, 1) := by decide +kernel
theorem d_Ce_put_51 : decode c_Ce_put 51 = .ok (.return_, 1) := by decide +kernel
theorem d_Cl_init_0 : decode c_Cl_init 0 = .ok (.aload_n 0, 1) := by decide +kernel
theorem d_Cl_init_1 : decode c_Cl_init 1 = .ok (.invokespecial 1, 3) := by decide +kernel
theorem d_Cl_init_4 : decode c_Cl_init 4 = .ok (.aload_n 0, 1) := by decide +kernel
theorem d_Cl_init_5 : decode c_Cl_init 5 = .ok (.iload_n 1, 1) := by decide +kernel
theorem d_Cl_init_6 : decode c_Cl_init 6 = .ok (.putfield 7, 3) := by decide +kernel
theorem d_Cl_init_9 : decode c_Cl_init 9 = .ok (.aload_n 0, 1) := by decide +kernel
theorem d_Cl_init_10 : decode c_Cl_init 10 = .ok (.iload_n 2, 1) := by decide +kernel
theorem d_Cl_init_11 : decode c_Cl_init 11 = .ok (.putfield 13, 3) := by decide +kernel
theorem d_Cl_init_14 : decode c_Cl_init 14 = .ok (.aload_n 0, 1) := by decide +kernel
theorem d_Cl_init_15 : decode c_Cl_init 15 = .ok (.iload_n 3, 1) := by decide +kernel
theorem d_Cl_init_16 : decode c_Cl_init 16 = .ok (.putfield 16, 3) := by decide +kernel
theorem d_Cl_init_19 : decode c_Cl_init 19 = .ok (.aload_n 0, 1) := by decide +kernel
theorem d_Cl_init_20 : decode c_Cl_init 20 = .ok (.iload 4, 2) := by decide +kernel
theorem d_Cl_init_22 : decode c_Cl_init 22 = .ok (.putfield 19, 3) := by decide +kernel
theorem d_Cl_init_25 : decode c_Cl_init 25 = .ok (.return_, 1) := by decide +kernel
theorem d_Fr_init_0 : decode c_Fr_init 0 = .ok (.aload_n 0, 1) := by decide +kernel
theorem d_Fr_init_1 : decode c_Fr_init 1 = .ok (.invokespecial 3, 3) := by decide +kernel
theorem d_Fr_init_4 : decode c_Fr_init 4 = .ok (.aload_n 0, 1) := by decide +kernel
theorem d_Fr_init_5 : decode c_Fr_init 5 = .ok (.bipush 50, 2) := by decide +kernel
theorem d_Fr_init_7 : decode c_Fr_init 7 = .ok (.newarray .int, 2) := by decide +kernel
theorem d_Fr_init_9 : decode c_Fr_init 9 = .ok (.putfield 9, 3) := by decide +kernel
theorem d_Fr_init_12 : decode c_Fr_init 12 = .ok (.aload_n 0, 1) := by decide +kernel
theorem d_Fr_init_13 : decode c_Fr_init 13 = .ok (.bipush 10, 2) := by decide +kernel
theorem d_Fr_init_15 : decode c_Fr_init 15 = .ok (.putfield 15, 3) := by decide +kernel
theorem d_Fr_init_18 : decode c_Fr_init 18 = .ok (.return_, 1) := by decide +kernel
theorem d_Fr_open_0 : decode c_Fr_open 0 = .ok (.aload_n 1, 1) := by decide +kernel
theorem d_Fr_open_1 : decode c_Fr_open 1 = .ok (.ifnull 18, 3) := by decide +kernel
theorem d_Fr_open_4 : decode c_Fr_open 4 = .ok (.aload_n 1, 1) := by decide +kernel
theorem d_Fr_open_5 : decode c_Fr_open 5 = .ok (.getfield 19, 3) := by decide +kernel
theorem d_Fr_open_8 : decode c_Fr_open 8 = .ok (.iconst 0, 1) := by decide +kernel
theorem d_Fr_open_9 : decode c_Fr_open 9 = .ok (.aload_n 0, 1) := by decide +kernel
theorem d_Fr_open_10 : decode c_Fr_open 10 = .ok (.getfield 9, 3) := by decide +kernel
theorem d_Fr_open_13 : decode c_Fr_open 13 = .ok (.iconst 0, 1) := by decide +kernel
theorem d_Fr_open_14 : decode c_Fr_open 14 = .ok (.bipush 10, 2) := by decide +kernel
theorem d_Fr_open_16 : decode c_Fr_open 16 = .ok (.invokestatic 24, 3) := by decide +kernel
theorem d_Fr_open_19 : decode c_Fr_open 19 = .ok (.aload_n 0, 1) := by decide +kernel
theorem d_Fr_open_20 : decode c_Fr_open 20 = .ok (.iload_n 2, 1) := by decide +kernel
theorem d_Fr_open_21 : decode c_Fr_open 21 = .ok (.putfield 30, 3) := by decide +kernel
theorem d_Fr_open_24 : decode c_Fr_open 24 = .ok (.aload_n 0, 1) := by decide +kernel
theorem d_Fr_open_25 : decode c_Fr_open 25 = .ok (.bipush 10, 2) := by decide +kernel
theorem d_Fr_open_27 : decode c_Fr_open 27 = .ok (.putfield 15, 3) := by decide +kernel
theorem d_Fr_open_30 : decode c_Fr_open 30 = .ok (.aload_n 0, 1) := by decide +kernel
theorem d_Fr_open_31 : decode c_Fr_open 31 = .ok (.aconst_null, 1) := by decide +kernel
theorem d_Fr_open_32 : decode c_Fr_open 32 = .ok (.putfield 33, 3) := by decide +kernel
theorem d_Fr_open_35 : decode c_Fr_open 35 = .ok (.return_, 1) := by decide +kernel
theorem d_Fr_keepNames_0 : decode c_Fr_keepNames 0 = .ok (.aload_n 0, 1) := by decide +kernel
theorem d_Fr_keepNames_1 : decode c_Fr_keepNames 1 = .ok (.getfield 9, 3) := by decide +kernel
theorem d_Fr_keepNames_4 : decode c_Fr_keepNames 4 = .ok (.iconst 0, 1) := by decide +kernel
theorem d_Fr_keepNames_5 : decode c_Fr_keepNames 5 = .ok (.aload_n 1, 1) := by decide +kernel
theorem d_Fr_keepNames_6 : decode c_Fr_keepNames 6 = .ok (.getfield 19, 3) := by decide +kernel
theorem d_Fr_keepNames_9 : decode c_Fr_keepNames 9 = .ok (.iconst 0, 1) := by decide +kernel
theorem d_Fr_keepNames_10 : decode c_Fr_keepNames 10 = .ok (.bipush 10, 2) := by decide +kernel
theorem d_Fr_keepNames_12 : decode c_Fr_keepNames 12 = .ok (.invokestatic 24, 3) := by decide +kernel
theorem d_Fr_keepNames_15 : decode c_Fr_keepNames 15 = .ok (.return_, 1) := by decide +kernel
theorem d_Fr_valueOf_0 : decode c_Fr_valueOf 0 = .ok (.iload_n 1, 1) := by decide +kernel
theorem d_Fr_valueOf_1 : decode c_Fr_valueOf 1 = .ok (.ifCond .lt 18, 3) := by decide +kernel
theorem d_Fr_valueOf_4 : decode c_Fr_valueOf 4 = .ok (.iload_n 1, 1) := by decide +kernel
theorem d_Fr_valueOf_5 : decode c_Fr_valueOf 5 = .ok (.bipush 10, 2) := by decide +kernel
theorem d_Fr_valueOf_7 : decode c_Fr_valueOf 7 = .ok (.if_icmp .ge 12, 3) := by decide +kernel
theorem d_Fr_valueOf_10 : decode c_Fr_valueOf 10 = .ok (.aload_n 0, 1) := by decide +kernel
theorem d_Fr_valueOf_11 : decode c_Fr_valueOf 11 = .ok (.getfield 9, 3) := by decide +kernel
theorem d_Fr_valueOf_14 : decode c_Fr_valueOf 14 = .ok (.iload_n 1, 1) := by decide +kernel
theorem d_Fr_valueOf_15 : decode c_Fr_valueOf 15 = .ok (.iaload, 1) := by decide +kernel
theorem d_Fr_valueOf_16 : decode c_Fr_valueOf 16 = .ok (.goto 4, 3) := by decide +kernel
theorem d_Fr_valueOf_19 : decode c_Fr_valueOf 19 = .ok (.iconst 0, 1) := by decide +kernel
theorem d_Fr_valueOf_20 : decode c_Fr_valueOf 20 = .ok (.ireturn, 1) := by decide +kernel
theorem d_Fr_give_0 : decode c_Fr_give 0 = .ok (.iload_n 1, 1) := by decide +kernel
theorem d_Fr_give_1 : decode c_Fr_give 1 = .ok (.ifCond .lt 16, 3) := by decide +kernel
theorem d_Fr_give_4 : decode c_Fr_give 4 = .ok (.iload_n 1, 1) := by decide +kernel
theorem d_Fr_give_5 : decode c_Fr_give 5 = .ok (.bipush 10, 2) := by decide +kernel
theorem d_Fr_give_7 : decode c_Fr_give 7 = .ok (.if_icmp .ge 10, 3) := by decide +kernel
theorem d_Fr_give_10 : decode c_Fr_give 10 = .ok (.aload_n 0, 1) := by decide +kernel
theorem d_Fr_give_11 : decode c_Fr_give 11 = .ok (.getfield 9, 3) := by decide +kernel
theorem d_Fr_give_14 : decode c_Fr_give 14 = .ok (.iload_n 1, 1) := by decide +kernel
theorem d_Fr_give_15 : decode c_Fr_give 15 = .ok (.iload_n 2, 1) := by decide +kernel
theorem d_Fr_give_16 : decode c_Fr_give 16 = .ok (.iastore, 1) := by decide +kernel
theorem d_Fr_give_17 : decode c_Fr_give 17 = .ok (.return_, 1) := by decide +kernel
theorem d_Fr_push_0 : decode c_Fr_push 0 = .ok (.aload_n 0, 1) := by decide +kernel
theorem d_Fr_push_1 : decode c_Fr_push 1 = .ok (.getfield 15, 3) := by decide +kernel
theorem d_Fr_push_4 : decode c_Fr_push 4 = .ok (.aload_n 0, 1) := by decide +kernel
theorem d_Fr_push_5 : decode c_Fr_push 5 = .ok (.getfield 9, 3) := by decide +kernel
theorem d_Fr_push_8 : decode c_Fr_push 8 = .ok (.arraylength, 1) := by decide +kernel
theorem d_Fr_push_9 : decode c_Fr_push 9 = .ok (.if_icmp .ge 23, 3) := by decide +kernel
theorem d_Fr_push_12 : decode c_Fr_push 12 = .ok (.aload_n 0, 1) := by decide +kernel
theorem d_Fr_push_13 : decode c_Fr_push 13 = .ok (.getfield 9, 3) := by decide +kernel
theorem d_Fr_push_16 : decode c_Fr_push 16 = .ok (.aload_n 0, 1) := by decide +kernel
theorem d_Fr_push_17 : decode c_Fr_push 17 = .ok (.getfield 15, 3) := by decide +kernel
theorem d_Fr_push_20 : decode c_Fr_push 20 = .ok (.iload_n 1, 1) := by decide +kernel
theorem d_Fr_push_21 : decode c_Fr_push 21 = .ok (.iastore, 1) := by decide +kernel
theorem d_Fr_push_22 : decode c_Fr_push 22 = .ok (.aload_n 0, 1) := by decide +kernel
theorem d_Fr_push_23 : decode c_Fr_push 23 = .ok (.dup, 1) := by decide +kernel
theorem d_Fr_push_24 : decode c_Fr_push 24 = .ok (.getfield 15, 3) := by decide +kernel
theorem d_Fr_push_27 : decode c_Fr_push 27 = .ok (.iconst 1, 1) := by decide +kernel
theorem d_Fr_push_28 : decode c_Fr_push 28 = .ok (.iadd, 1) := by decide +kernel
theorem d_Fr_push_29 : decode c_Fr_push 29 = .ok (.putfield 15, 3) := by decide +kernel
theorem d_Fr_push_32 : decode c_Fr_push 32 = .ok (.return_, 1) := by decide +kernel
theorem d_Fr_pop_0 : decode c_Fr_pop 0 = .ok (.aload_n 0, 1) := by decide +kernel
theorem d_Fr_pop_1 : decode c_Fr_pop 1 = .ok (.getfield 15, 3) := by decide +kernel
theorem d_Fr_pop_4 : decode c_Fr_pop 4 = .ok (.bipush 10, 2) := by decide +kernel
theorem d_Fr_pop_6 : decode c_Fr_pop 6 = .ok (.if_icmp .gt 5, 3) := by decide +kernel
theorem d_Fr_pop_9 : decode c_Fr_pop 9 = .ok (.iconst 0, 1) := by decide +kernel
theorem d_Fr_pop_10 : decode c_Fr_pop 10 = .ok (.ireturn, 1) := by decide +kernel
theorem d_Fr_pop_11 : decode c_Fr_pop 11 = .ok (.aload_n 0, 1) := by decide +kernel
theorem d_Fr_pop_12 : decode c_Fr_pop 12 = .ok (.dup, 1) := by decide +kernel
theorem d_Fr_pop_13 : decode c_Fr_pop 13 = .ok (.getfield 15, 3) := by decide +kernel
theorem d_Fr_pop_16 : decode c_Fr_pop 16 = .ok (.iconst 1, 1) := by decide +kernel
theorem d_Fr_pop_17 : decode c_Fr_pop 17 = .ok (.isub, 1) := by decide +kernel
theorem d_Fr_pop_18 : decode c_Fr_pop 18 = .ok (.putfield 15, 3) := by decide +kernel
theorem d_Fr_pop_21 : decode c_Fr_pop 21 = .ok (.aload_n 0, 1) := by decide +kernel
theorem d_Fr_pop_22 : decode c_Fr_pop 22 = .ok (.getfield 9, 3) := by decide +kernel
theorem d_Fr_pop_25 : decode c_Fr_pop 25 = .ok (.aload_n 0, 1) := by decide +kernel
theorem d_Fr_pop_26 : decode c_Fr_pop 26 = .ok (.getfield 15, 3) := by decide +kernel
theorem d_Fr_pop_29 : decode c_Fr_pop 29 = .ok (.iaload, 1) := by decide +kernel
theorem d_Fr_pop_30 : decode c_Fr_pop 30 = .ok (.ireturn, 1) := by decide +kernel
theorem d_No_init_0 : decode c_No_init 0 = .ok (.aload_n 0, 1) := by decide +kernel
theorem d_No_init_1 : decode c_No_init 1 = .ok (.invokespecial 3, 3) := by decide +kernel
theorem d_No_init_4 : decode c_No_init 4 = .ok (.aload_n 0, 1) := by decide +kernel
theorem d_No_init_5 : decode c_No_init 5 = .ok (.iconst (-1), 1) := by decide +kernel
theorem d_No_init_6 : decode c_No_init 6 = .ok (.putfield 9, 3) := by decide +kernel
theorem d_No_init_9 : decode c_No_init 9 = .ok (.aload_n 0, 1) := by decide +kernel
theorem d_No_init_10 : decode c_No_init 10 = .ok (.iconst (-1), 1) := by decide +kernel
theorem d_No_init_11 : decode c_No_init 11 = .ok (.putfield 15, 3) := by decide +kernel
theorem d_No_init_14 : decode c_No_init 14 = .ok (.aload_n 0, 1) := by decide +kernel
theorem d_No_init_15 : decode c_No_init 15 = .ok (.iconst (-1), 1) := by decide +kernel
theorem d_No_init_16 : decode c_No_init 16 = .ok (.putfield 18, 3) := by decide +kernel
theorem d_No_init_19 : decode c_No_init 19 = .ok (.aload_n 0, 1) := by decide +kernel
theorem d_No_init_20 : decode c_No_init 20 = .ok (.iconst (-1), 1) := by decide +kernel
theorem d_No_init_21 : decode c_No_init 21 = .ok (.putfield 21, 3) := by decide +kernel
theorem d_No_init_24 : decode c_No_init 24 = .ok (.aload_n 0, 1) := by decide +kernel
theorem d_No_init_25 : decode c_No_init 25 = .ok (.iconst (-1), 1) := by decide +kernel
theorem d_No_init_26 : decode c_No_init 26 = .ok (.putfield 24, 3) := by decide +kernel
theorem d_No_init_29 : decode c_No_init 29 = .ok (.aload_n 0, 1) := by decide +kernel
theorem d_No_init_30 : decode c_No_init 30 = .ok (.iconst 1, 1) := by decide +kernel
theorem d_No_init_31 : decode c_No_init 31 = .ok (.putfield 27, 3) := by decide +kernel
theorem d_No_init_34 : decode c_No_init 34 = .ok (.aload_n 0, 1) := by decide +kernel
theorem d_No_init_35 : decode c_No_init 35 = .ok (.iconst 1, 1) := by decide +kernel
theorem d_No_init_36 : decode c_No_init 36 = .ok (.putfield 30, 3) := by decide +kernel
theorem d_No_init_39 : decode c_No_init 39 = .ok (.aload_n 0, 1) := by decide +kernel
theorem d_No_init_40 : decode c_No_init 40 = .ok (.iload_n 1, 1) := by decide +kernel
theorem d_No_init_41 : decode c_No_init 41 = .ok (.putfield 33, 3) := by decide +kernel
theorem d_No_init_44 : decode c_No_init 44 = .ok (.return_, 1) := by decide +kernel
theorem d_Ns_init_0 : decode c_Ns_init 0 = .ok (.aload_n 0, 1) := by decide +kernel
theorem d_Ns_init_1 : decode c_Ns_init 1 = .ok (.invokespecial 3, 3) := by decide +kernel
theorem d_Ns_init_4 : decode c_Ns_init 4 = .ok (.aload_n 0, 1) := by decide +kernel
theorem d_Ns_init_5 : decode c_Ns_init 5 = .ok (.sipush 200, 3) := by decide +kernel
theorem d_Ns_init_8 : decode c_Ns_init 8 = .ok (.anewarray 9, 3) := by decide +kernel
theorem d_Ns_init_11 : decode c_Ns_init 11 = .ok (.putfield 11, 3) := by decide +kernel
theorem d_Ns_init_14 : decode c_Ns_init 14 = .ok (.aload_n 0, 1) := by decide +kernel
theorem d_Ns_init_15 : decode c_Ns_init 15 = .ok (.bipush 40, 2) := by decide +kernel
theorem d_Ns_init_17 : decode c_Ns_init 17 = .ok (.anewarray 17, 3) := by decide +kernel
theorem d_Ns_init_20 : decode c_Ns_init 20 = .ok (.putfield 19, 3) := by decide +kernel
theorem d_Ns_init_23 : decode c_Ns_init 23 = .ok (.aload_n 0, 1) := by decide +kernel
theorem d_Ns_init_24 : decode c_Ns_init 24 = .ok (.new 9, 3) := by decide +kernel
theorem d_Ns_init_27 : decode c_Ns_init 27 = .ok (.dup, 1) := by decide +kernel
theorem d_Ns_init_28 : decode c_Ns_init 28 = .ok (.iconst 2, 1) := by decide +kernel
theorem d_Ns_init_29 : decode c_Ns_init 29 = .ok (.invokespecial 23, 3) := by decide +kernel
theorem d_Ns_init_32 : decode c_Ns_init 32 = .ok (.putfield 26, 3) := by decide +kernel
theorem d_Ns_init_35 : decode c_Ns_init 35 = .ok (.aload_n 0, 1) := by decide +kernel
theorem d_Ns_init_36 : decode c_Ns_init 36 = .ok (.new 17, 3) := by decide +kernel
theorem d_Ns_init_39 : decode c_Ns_init 39 = .ok (.dup, 1) := by decide +kernel
theorem d_Ns_init_40 : decode c_Ns_init 40 = .ok (.iconst 0, 1) := by decide +kernel
theorem d_Ns_init_41 : decode c_Ns_init 41 = .ok (.iconst 0, 1) := by decide +kernel
theorem d_Ns_init_42 : decode c_Ns_init 42 = .ok (.iconst 0, 1) := by decide +kernel
theorem d_Ns_init_43 : decode c_Ns_init 43 = .ok (.iconst (-1), 1) := by decide +kernel
theorem d_Ns_init_44 : decode c_Ns_init 44 = .ok (.invokespecial 30, 3) := by decide +kernel
theorem d_Ns_init_47 : decode c_Ns_init 47 = .ok (.putfield 33, 3) := by decide +kernel
theorem d_Ns_init_50 : decode c_Ns_init 50 = .ok (.return_, 1) := by decide +kernel
theorem d_Ns_dropAll_0 : decode c_Ns_dropAll 0 = .ok (.aload_n 0, 1) := by decide +kernel
theorem d_Ns_dropAll_1 : decode c_Ns_dropAll 1 = .ok (.iconst 0, 1) := by decide +kernel
theorem d_Ns_dropAll_2 : decode c_Ns_dropAll 2 = .ok (.putfield 37, 3) := by decide +kernel
theorem d_Ns_dropAll_5 : decode c_Ns_dropAll 5 = .ok (.aload_n 0, 1) := by decide +kernel
theorem d_Ns_dropAll_6 : decode c_Ns_dropAll 6 = .ok (.iconst 0, 1) := by decide +kernel
theorem d_Ns_dropAll_7 : decode c_Ns_dropAll 7 = .ok (.putfield 41, 3) := by decide +kernel
theorem d_Ns_dropAll_10 : decode c_Ns_dropAll 10 = .ok (.aload_n 0, 1) := by decide +kernel
theorem d_Ns_dropAll_11 : decode c_Ns_dropAll 11 = .ok (.iconst 0, 1) := by decide +kernel
theorem d_Ns_dropAll_12 : decode c_Ns_dropAll 12 = .ok (.putfield 44, 3) := by decide +kernel
theorem d_Ns_dropAll_15 : decode c_Ns_dropAll 15 = .ok (.return_, 1) := by decide +kernel
theorem d_Ns_has_0 : decode c_Ns_has 0 = .ok (.iload_n 1, 1) := by decide +kernel
theorem d_Ns_has_1 : decode c_Ns_has 1 = .ok (.ifCond .lt 15, 3) := by decide +kernel
theorem d_Ns_has_4 : decode c_Ns_has 4 = .ok (.iload_n 1, 1) := by decide +kernel
theorem d_Ns_has_5 : decode c_Ns_has 5 = .ok (.aload_n 0, 1) := by decide +kernel
theorem d_Ns_has_6 : decode c_Ns_has 6 = .ok (.getfield 37, 3) := by decide +kernel
theorem d_Ns_has_9 : decode c_Ns_has 9 = .ok (.if_icmp .ge 7, 3) := by decide +kernel
theorem d_Ns_has_12 : decode c_Ns_has 12 = .ok (.iconst 1, 1) := by decide +kernel
theorem d_Ns_has_13 : decode c_Ns_has 13 = .ok (.goto 4, 3) := by decide +kernel
theorem d_Ns_has_16 : decode c_Ns_has 16 = .ok (.iconst 0, 1) := by decide +kernel
theorem d_Ns_has_17 : decode c_Ns_has 17 = .ok (.ireturn, 1) := by decide +kernel
theorem d_Ns_hasRoom_0 : decode c_Ns_hasRoom 0 = .ok (.aload_n 0, 1) := by decide +kernel
theorem d_Ns_hasRoom_1 : decode c_Ns_hasRoom 1 = .ok (.getfield 37, 3) := by decide +kernel
theorem d_Ns_hasRoom_4 : decode c_Ns_hasRoom 4 = .ok (.sipush 200, 3) := by decide +kernel
theorem d_Ns_hasRoom_7 : decode c_Ns_hasRoom 7 = .ok (.if_icmp .ge 7, 3) := by decide +kernel
theorem d_Ns_hasRoom_10 : decode c_Ns_hasRoom 10 = .ok (.iconst 1, 1) := by decide +kernel
theorem d_Ns_hasRoom_11 : decode c_Ns_hasRoom 11 = .ok (.goto 4, 3) := by decide +kernel
theorem d_Ns_hasRoom_14 : decode c_Ns_hasRoom 14 = .ok (.iconst 0, 1) := by decide +kernel
theorem d_Ns_hasRoom_15 : decode c_Ns_hasRoom 15 = .ok (.ireturn, 1) := by decide +kernel
theorem d_Ns_hasRoomForClause_0 : decode c_Ns_hasRoomForClause 0 = .ok (.aload_n 0, 1) := by decide +kernel
theorem d_Ns_hasRoomForClause_1 : decode c_Ns_hasRoomForClause 1 = .ok (.getfield 41, 3) := by decide +kernel
theorem d_Ns_hasRoomForClause_4 : decode c_Ns_hasRoomForClause 4 = .ok (.bipush 40, 2) := by decide +kernel
theorem d_Ns_hasRoomForClause_6 : decode c_Ns_hasRoomForClause 6 = .ok (.if_icmp .ge 7, 3) := by decide +kernel
theorem d_Ns_hasRoomForClause_9 : decode c_Ns_hasRoomForClause 9 = .ok (.iconst 1, 1) := by decide +kernel
theorem d_Ns_hasRoomForClause_10 : decode c_Ns_hasRoomForClause 10 = .ok (.goto 4, 3) := by decide +kernel
theorem d_Ns_hasRoomForClause_13 : decode c_Ns_hasRoomForClause 13 = .ok (.iconst 0, 1) := by decide +kernel
theorem d_Ns_hasRoomForClause_14 : decode c_Ns_hasRoomForClause 14 = .ok (.ireturn, 1) := by decide +kernel
theorem d_Ns_at_0 : decode c_Ns_at 0 = .ok (.aload_n 0, 1) := by decide +kernel
theorem d_Ns_at_1 : decode c_Ns_at 1 = .ok (.iload_n 1, 1) := by decide +kernel
theorem d_Ns_at_2 : decode c_Ns_at 2 = .ok (.invokevirtual 47, 3) := by decide +kernel
theorem d_Ns_at_5 : decode c_Ns_at 5 = .ok (.ifCond .eq 12, 3) := by decide +kernel
theorem d_Ns_at_8 : decode c_Ns_at 8 = .ok (.aload_n 0, 1) := by decide +kernel
theorem d_Ns_at_9 : decode c_Ns_at 9 = .ok (.getfield 11, 3) := by decide +kernel
theorem d_Ns_at_12 : decode c_Ns_at 12 = .ok (.iload_n 1, 1) := by decide +kernel
theorem d_Ns_at_13 : decode c_Ns_at 13 = .ok (.aaload, 1) := by decide +kernel
theorem d_Ns_at_14 : decode c_Ns_at 14 = .ok (.goto 4, 3) := by decide +kernel
theorem d_Ns_at_17 : decode c_Ns_at 17 = .ok (.aconst_null, 1) := by decide +kernel
theorem d_Ns_at_18 : decode c_Ns_at 18 = .ok (.astore_n 2, 1) := by decide +kernel
theorem d_Ns_at_19 : decode c_Ns_at 19 = .ok (.aload_n 2, 1) := by decide +kernel
theorem d_Ns_at_20 : decode c_Ns_at 20 = .ok (.ifnull 7, 3) := by decide +kernel
theorem d_Ns_at_23 : decode c_Ns_at 23 = .ok (.aload_n 2, 1) := by decide +kernel
theorem d_Ns_at_24 : decode c_Ns_at 24 = .ok (.goto 7, 3) := by decide +kernel
theorem d_Ns_at_27 : decode c_Ns_at 27 = .ok (.aload_n 0, 1) := by decide +kernel
theorem d_Ns_at_28 : decode c_Ns_at 28 = .ok (.getfield 26, 3) := by decide +kernel
theorem d_Ns_at_31 : decode c_Ns_at 31 = .ok (.areturn, 1) := by decide +kernel
theorem d_Ns_clauseAt_0 : decode c_Ns_clauseAt 0 = .ok (.iload_n 1, 1) := by decide +kernel
theorem d_Ns_clauseAt_1 : decode c_Ns_clauseAt 1 = .ok (.ifCond .lt 20, 3) := by decide +kernel
theorem d_Ns_clauseAt_4 : decode c_Ns_clauseAt 4 = .ok (.iload_n 1, 1) := by decide +kernel
theorem d_Ns_clauseAt_5 : decode c_Ns_clauseAt 5 = .ok (.aload_n 0, 1) := by decide +kernel
theorem d_Ns_clauseAt_6 : decode c_Ns_clauseAt 6 = .ok (.getfield 41, 3) := by decide +kernel
theorem d_Ns_clauseAt_9 : decode c_Ns_clauseAt 9 = .ok (.if_icmp .ge 12, 3) := by decide +kernel
theorem d_Ns_clauseAt_12 : decode c_Ns_clauseAt 12 = .ok (.aload_n 0, 1) := by decide +kernel
theorem d_Ns_clauseAt_13 : decode c_Ns_clauseAt 13 = .ok (.getfield 19, 3) := by decide +kernel
theorem d_Ns_clauseAt_16 : decode c_Ns_clauseAt 16 = .ok (.iload_n 1, 1) := by decide +kernel
theorem d_Ns_clauseAt_17 : decode c_Ns_clauseAt 17 = .ok (.aaload, 1) := by decide +kernel
theorem d_Ns_clauseAt_18 : decode c_Ns_clauseAt 18 = .ok (.goto 4, 3) := by decide +kernel
theorem d_Ns_clauseAt_21 : decode c_Ns_clauseAt 21 = .ok (.aconst_null, 1) := by decide +kernel
theorem d_Ns_clauseAt_22 : decode c_Ns_clauseAt 22 = .ok (.astore_n 2, 1) := by decide +kernel
theorem d_Ns_clauseAt_23 : decode c_Ns_clauseAt 23 = .ok (.aload_n 2, 1) := by decide +kernel
theorem d_Ns_clauseAt_24 : decode c_Ns_clauseAt 24 = .ok (.ifnull 7, 3) := by decide +kernel
theorem d_Ns_clauseAt_27 : decode c_Ns_clauseAt 27 = .ok (.aload_n 2, 1) := by decide +kernel
theorem d_Ns_clauseAt_28 : decode c_Ns_clauseAt 28 = .ok (.goto 7, 3) := by decide +kernel
theorem d_Ns_clauseAt_31 : decode c_Ns_clauseAt 31 = .ok (.aload_n 0, 1) := by decide +kernel
theorem d_Ns_clauseAt_32 : decode c_Ns_clauseAt 32 = .ok (.getfield 33, 3) := by decide +kernel
theorem d_Ns_clauseAt_35 : decode c_Ns_clauseAt 35 = .ok (.areturn, 1) := by decide +kernel
theorem d_Ns_makeReady_0 : decode c_Ns_makeReady 0 = .ok (.aload_n 0, 1) := by decide +kernel
theorem d_Ns_makeReady_1 : decode c_Ns_makeReady 1 = .ok (.invokevirtual 51, 3) := by decide +kernel
theorem d_Ns_makeReady_4 : decode c_Ns_makeReady 4 = .ok (.ifCond .eq 23, 3) := by decide +kernel
theorem d_Ns_makeReady_7 : decode c_Ns_makeReady 7 = .ok (.aload_n 0, 1) := by decide +kernel
theorem d_Ns_makeReady_8 : decode c_Ns_makeReady 8 = .ok (.getfield 19, 3) := by decide +kernel
theorem d_Ns_makeReady_11 : decode c_Ns_makeReady 11 = .ok (.aload_n 0, 1) := by decide +kernel
theorem d_Ns_makeReady_12 : decode c_Ns_makeReady 12 = .ok (.getfield 41, 3) := by decide +kernel
theorem d_Ns_makeReady_15 : decode c_Ns_makeReady 15 = .ok (.aload_n 1, 1) := by decide +kernel
theorem d_Ns_makeReady_16 : decode c_Ns_makeReady 16 = .ok (.aastore, 1) := by decide +kernel
theorem d_Ns_makeReady_17 : decode c_Ns_makeReady 17 = .ok (.aload_n 0, 1) := by decide +kernel
theorem d_Ns_makeReady_18 : decode c_Ns_makeReady 18 = .ok (.dup, 1) := by decide +kernel
theorem d_Ns_makeReady_19 : decode c_Ns_makeReady 19 = .ok (.getfield 41, 3) := by decide +kernel
theorem d_Ns_makeReady_22 : decode c_Ns_makeReady 22 = .ok (.iconst 1, 1) := by decide +kernel
theorem d_Ns_makeReady_23 : decode c_Ns_makeReady 23 = .ok (.iadd, 1) := by decide +kernel
theorem d_Ns_makeReady_24 : decode c_Ns_makeReady 24 = .ok (.putfield 41, 3) := by decide +kernel
theorem d_Ns_makeReady_27 : decode c_Ns_makeReady 27 = .ok (.aload_n 0, 1) := by decide +kernel
theorem d_Ns_makeReady_28 : decode c_Ns_makeReady 28 = .ok (.getfield 41, 3) := by decide +kernel
theorem d_Ns_makeReady_31 : decode c_Ns_makeReady 31 = .ok (.aload_n 0, 1) := by decide +kernel
theorem d_Ns_makeReady_32 : decode c_Ns_makeReady 32 = .ok (.getfield 44, 3) := by decide +kernel
theorem d_Ns_makeReady_35 : decode c_Ns_makeReady 35 = .ok (.isub, 1) := by decide +kernel
theorem d_Ns_makeReady_36 : decode c_Ns_makeReady 36 = .ok (.ireturn, 1) := by decide +kernel
theorem d_Ns_giveReadyClauses_0 : decode c_Ns_giveReadyClauses 0 = .ok (.aload_n 1, 1) := by decide +kernel
theorem d_Ns_giveReadyClauses_1 : decode c_Ns_giveReadyClauses 1 = .ok (.aload_n 0, 1) := by decide +kernel
theorem d_Ns_giveReadyClauses_2 : decode c_Ns_giveReadyClauses 2 = .ok (.getfield 44, 3) := by decide +kernel
theorem d_Ns_giveReadyClauses_5 : decode c_Ns_giveReadyClauses 5 = .ok (.putfield 55, 3) := by decide +kernel
theorem d_Ns_giveReadyClauses_8 : decode c_Ns_giveReadyClauses 8 = .ok (.aload_n 1, 1) := by decide +kernel
theorem d_Ns_giveReadyClauses_9 : decode c_Ns_giveReadyClauses 9 = .ok (.aload_n 0, 1) := by decide +kernel
theorem d_Ns_giveReadyClauses_10 : decode c_Ns_giveReadyClauses 10 = .ok (.getfield 41, 3) := by decide +kernel
theorem d_Ns_giveReadyClauses_13 : decode c_Ns_giveReadyClauses 13 = .ok (.putfield 58, 3) := by decide +kernel
theorem d_Ns_giveReadyClauses_16 : decode c_Ns_giveReadyClauses 16 = .ok (.aload_n 0, 1) := by decide +kernel
theorem d_Ns_giveReadyClauses_17 : decode c_Ns_giveReadyClauses 17 = .ok (.aload_n 0, 1) := by decide +kernel
theorem d_Ns_giveReadyClauses_18 : decode c_Ns_giveReadyClauses 18 = .ok (.getfield 41, 3) := by decide +kernel
theorem d_Ns_giveReadyClauses_21 : decode c_Ns_giveReadyClauses 21 = .ok (.putfield 44, 3) := by decide +kernel
theorem d_Ns_giveReadyClauses_24 : decode c_Ns_giveReadyClauses 24 = .ok (.return_, 1) := by decide +kernel
theorem d_Ns_add_0 : decode c_Ns_add 0 = .ok (.aload_n 0, 1) := by decide +kernel
theorem d_Ns_add_1 : decode c_Ns_add 1 = .ok (.invokevirtual 61, 3) := by decide +kernel
theorem d_Ns_add_4 : decode c_Ns_add 4 = .ok (.ifCond .ne 5, 3) := by decide +kernel
theorem d_Ns_add_7 : decode c_Ns_add 7 = .ok (.iconst (-1), 1) := by decide +kernel
theorem d_Ns_add_8 : decode c_Ns_add 8 = .ok (.ireturn, 1) := by decide +kernel
theorem d_Ns_add_9 : decode c_Ns_add 9 = .ok (.aload_n 0, 1) := by decide +kernel
theorem d_Ns_add_10 : decode c_Ns_add 10 = .ok (.aload_n 1, 1) := by decide +kernel
theorem d_Ns_add_11 : decode c_Ns_add 11 = .ok (.aload_n 1, 1) := by decide +kernel
theorem d_Ns_add_12 : decode c_Ns_add 12 = .ok (.getfield 64, 3) := by decide +kernel
theorem d_Ns_add_15 : decode c_Ns_add 15 = .ok (.invokevirtual 67, 3) := by decide +kernel
theorem d_Ns_add_18 : decode c_Ns_add 18 = .ok (.aload_n 0, 1) := by decide +kernel
theorem d_Ns_add_19 : decode c_Ns_add 19 = .ok (.aload_n 1, 1) := by decide +kernel
theorem d_Ns_add_20 : decode c_Ns_add 20 = .ok (.aload_n 1, 1) := by decide +kernel
theorem d_Ns_add_21 : decode c_Ns_add 21 = .ok (.getfield 71, 3) := by decide +kernel
theorem d_Ns_add_24 : decode c_Ns_add 24 = .ok (.invokevirtual 67, 3) := by decide +kernel
theorem d_Ns_add_27 : decode c_Ns_add 27 = .ok (.aload_n 0, 1) := by decide +kernel
theorem d_Ns_add_28 : decode c_Ns_add 28 = .ok (.aload_n 1, 1) := by decide +kernel
theorem d_Ns_add_29 : decode c_Ns_add 29 = .ok (.aload_n 1, 1) := by decide +kernel
theorem d_Ns_add_30 : decode c_Ns_add 30 = .ok (.getfield 74, 3) := by decide +kernel
theorem d_Ns_add_33 : decode c_Ns_add 33 = .ok (.invokevirtual 67, 3) := by decide +kernel
theorem d_Ns_add_36 : decode c_Ns_add 36 = .ok (.aload_n 1, 1) := by decide +kernel
theorem d_Ns_add_37 : decode c_Ns_add 37 = .ok (.getfield 55, 3) := by decide +kernel
theorem d_Ns_add_40 : decode c_Ns_add 40 = .ok (.istore_n 2, 1) := by decide +kernel
theorem d_Ns_add_41 : decode c_Ns_add 41 = .ok (.iload_n 2, 1) := by decide +kernel
theorem d_Ns_add_42 : decode c_Ns_add 42 = .ok (.aload_n 1, 1) := by decide +kernel
theorem d_Ns_add_43 : decode c_Ns_add 43 = .ok (.getfield 58, 3) := by decide +kernel
theorem d_Ns_add_46 : decode c_Ns_add 46 = .ok (.if_icmp .ge 22, 3) := by decide +kernel
theorem d_Ns_add_49 : decode c_Ns_add 49 = .ok (.aload_n 0, 1) := by decide +kernel
theorem d_Ns_add_50 : decode c_Ns_add 50 = .ok (.aload_n 1, 1) := by decide +kernel
theorem d_Ns_add_51 : decode c_Ns_add 51 = .ok (.aload_n 0, 1) := by decide +kernel
theorem d_Ns_add_52 : decode c_Ns_add 52 = .ok (.iload_n 2, 1) := by decide +kernel
theorem d_Ns_add_53 : decode c_Ns_add 53 = .ok (.invokevirtual 77, 3) := by decide +kernel
theorem d_Ns_add_56 : decode c_Ns_add 56 = .ok (.getfield 81, 3) := by decide +kernel
theorem d_Ns_add_59 : decode c_Ns_add 59 = .ok (.invokevirtual 67, 3) := by decide +kernel
theorem d_Ns_add_62 : decode c_Ns_add 62 = .ok (.iinc 2 1, 3) := by decide +kernel
theorem d_Ns_add_65 : decode c_Ns_add 65 = .ok (.goto (-24), 3) := by decide +kernel
theorem d_Ns_add_68 : decode c_Ns_add 68 = .ok (.aload_n 0, 1) := by decide +kernel
theorem d_Ns_add_69 : decode c_Ns_add 69 = .ok (.getfield 11, 3) := by decide +kernel
theorem d_Ns_add_72 : decode c_Ns_add 72 = .ok (.aload_n 0, 1) := by decide +kernel
theorem d_Ns_add_73 : decode c_Ns_add 73 = .ok (.getfield 37, 3) := by decide +kernel
theorem d_Ns_add_76 : decode c_Ns_add 76 = .ok (.aload_n 1, 1) := by decide +kernel
theorem d_Ns_add_77 : decode c_Ns_add 77 = .ok (.aastore, 1) := by decide +kernel
theorem d_Ns_add_78 : decode c_Ns_add 78 = .ok (.aload_n 0, 1) := by decide +kernel
theorem d_Ns_add_79 : decode c_Ns_add 79 = .ok (.dup, 1) := by decide +kernel
theorem d_Ns_add_80 : decode c_Ns_add 80 = .ok (.getfield 37, 3) := by decide +kernel
theorem d_Ns_add_83 : decode c_Ns_add 83 = .ok (.iconst 1, 1) := by decide +kernel
theorem d_Ns_add_84 : decode c_Ns_add 84 = .ok (.iadd, 1) := by decide +kernel
theorem d_Ns_add_85 : decode c_Ns_add 85 = .ok (.putfield 37, 3) := by decide +kernel
theorem d_Ns_add_88 : decode c_Ns_add 88 = .ok (.aload_n 0, 1) := by decide +kernel
theorem d_Ns_add_89 : decode c_Ns_add 89 = .ok (.getfield 37, 3) := by decide +kernel
theorem d_Ns_add_92 : decode c_Ns_add 92 = .ok (.iconst 1, 1) := by decide +kernel
theorem d_Ns_add_93 : decode c_Ns_add 93 = .ok (.isub, 1) := by decide +kernel
theorem d_Ns_add_94 : decode c_Ns_add 94 = .ok (.ireturn, 1) := by decide +kernel
theorem d_Ns_measure_0 : decode c_Ns_measure 0 = .ok (.iload_n 2, 1) := by decide +kernel
theorem d_Ns_measure_1 : decode c_Ns_measure 1 = .ok (.iconst (-1), 1) := by decide +kernel
theorem d_Ns_measure_2 : decode c_Ns_measure 2 = .ok (.if_icmp .ne 4, 3) := by decide +kernel
theorem d_Ns_measure_5 : decode c_Ns_measure 5 = .ok (.return_, 1) := by decide +kernel
theorem d_Ns_measure_6 : decode c_Ns_measure 6 = .ok (.aload_n 1, 1) := by decide +kernel
theorem d_Ns_measure_7 : decode c_Ns_measure 7 = .ok (.ldc 84, 2) := by decide +kernel
theorem d_Ns_measure_9 : decode c_Ns_measure 9 = .ok (.aload_n 1, 1) := by decide +kernel
theorem d_Ns_measure_10 : decode c_Ns_measure 10 = .ok (.getfield 85, 3) := by decide +kernel
theorem d_Ns_measure_13 : decode c_Ns_measure 13 = .ok (.aload_n 0, 1) := by decide +kernel
theorem d_Ns_measure_14 : decode c_Ns_measure 14 = .ok (.iload_n 2, 1) := by decide +kernel
theorem d_Ns_measure_15 : decode c_Ns_measure 15 = .ok (.invokevirtual 88, 3) := by decide +kernel
theorem d_Ns_measure_18 : decode c_Ns_measure 18 = .ok (.getfield 85, 3) := by decide +kernel
theorem d_Ns_measure_21 : decode c_Ns_measure 21 = .ok (.iadd, 1) := by decide +kernel
theorem d_Ns_measure_22 : decode c_Ns_measure 22 = .ok (.invokestatic 92, 3) := by decide +kernel
theorem d_Ns_measure_25 : decode c_Ns_measure 25 = .ok (.putfield 85, 3) := by decide +kernel
theorem d_Ns_measure_28 : decode c_Ns_measure 28 = .ok (.aload_n 1, 1) := by decide +kernel
theorem d_Ns_measure_29 : decode c_Ns_measure 29 = .ok (.aload_n 1, 1) := by decide +kernel
theorem d_Ns_measure_30 : decode c_Ns_measure 30 = .ok (.getfield 98, 3) := by decide +kernel
theorem d_Ns_measure_33 : decode c_Ns_measure 33 = .ok (.iconst 1, 1) := by decide +kernel
theorem d_Ns_measure_34 : decode c_Ns_measure 34 = .ok (.aload_n 0, 1) := by decide +kernel
theorem d_Ns_measure_35 : decode c_Ns_measure 35 = .ok (.iload_n 2, 1) := by decide +kernel
theorem d_Ns_measure_36 : decode c_Ns_measure 36 = .ok (.invokevirtual 88, 3) := by decide +kernel
theorem d_Ns_measure_39 : decode c_Ns_measure 39 = .ok (.getfield 98, 3) := by decide +kernel
theorem d_Ns_measure_42 : decode c_Ns_measure 42 = .ok (.iadd, 1) := by decide +kernel
theorem d_Ns_measure_43 : decode c_Ns_measure 43 = .ok (.invokestatic 101, 3) := by decide +kernel
theorem d_Ns_measure_46 : decode c_Ns_measure 46 = .ok (.putfield 98, 3) := by decide +kernel
theorem d_Ns_measure_49 : decode c_Ns_measure 49 = .ok (.return_, 1) := by decide +kernel
theorem d_St_init_0 : decode c_St_init 0 = .ok (.aload_n 0, 1) := by decide +kernel
theorem d_St_init_1 : decode c_St_init 1 = .ok (.invokespecial 1, 3) := by decide +kernel
theorem d_St_init_4 : decode c_St_init 4 = .ok (.aload_n 0, 1) := by decide +kernel
theorem d_St_init_5 : decode c_St_init 5 = .ok (.new 7, 3) := by decide +kernel
theorem d_St_init_8 : decode c_St_init 8 = .ok (.dup, 1) := by decide +kernel
theorem d_St_init_9 : decode c_St_init 9 = .ok (.invokespecial 9, 3) := by decide +kernel
theorem d_St_init_12 : decode c_St_init 12 = .ok (.putfield 10, 3) := by decide +kernel
theorem d_St_init_15 : decode c_St_init 15 = .ok (.aload_n 0, 1) := by decide +kernel
theorem d_St_init_16 : decode c_St_init 16 = .ok (.new 7, 3) := by decide +kernel
theorem d_St_init_19 : decode c_St_init 19 = .ok (.dup, 1) := by decide +kernel
theorem d_St_init_20 : decode c_St_init 20 = .ok (.invokespecial 9, 3) := by decide +kernel
theorem d_St_init_23 : decode c_St_init 23 = .ok (.putfield 16, 3) := by decide +kernel
theorem d_St_init_26 : decode c_St_init 26 = .ok (.return_, 1) := by decide +kernel
theorem d_St_reset_0 : decode c_St_reset 0 = .ok (.aload_n 0, 1) := by decide +kernel
theorem d_St_reset_1 : decode c_St_reset 1 = .ok (.iconst 0, 1) := by decide +kernel
theorem d_St_reset_2 : decode c_St_reset 2 = .ok (.putfield 19, 3) := by decide +kernel
theorem d_St_reset_5 : decode c_St_reset 5 = .ok (.aload_n 0, 1) := by decide +kernel
theorem d_St_reset_6 : decode c_St_reset 6 = .ok (.iconst 0, 1) := by decide +kernel
theorem d_St_reset_7 : decode c_St_reset 7 = .ok (.putfield 23, 3) := by decide +kernel
theorem d_St_reset_10 : decode c_St_reset 10 = .ok (.aload_n 0, 1) := by decide +kernel
theorem d_St_reset_11 : decode c_St_reset 11 = .ok (.aconst_null, 1) := by decide +kernel
theorem d_St_reset_12 : decode c_St_reset 12 = .ok (.putfield 26, 3) := by decide +kernel
theorem d_St_reset_15 : decode c_St_reset 15 = .ok (.return_, 1) := by decide +kernel
theorem d_St_takeFrame_0 : decode c_St_takeFrame 0 = .ok (.aload_n 0, 1) := by decide +kernel
theorem d_St_takeFrame_1 : decode c_St_takeFrame 1 = .ok (.getfield 26, 3) := by decide +kernel
theorem d_St_takeFrame_4 : decode c_St_takeFrame 4 = .ok (.astore_n 1, 1) := by decide +kernel
theorem d_St_takeFrame_5 : decode c_St_takeFrame 5 = .ok (.aload_n 1, 1) := by decide +kernel
theorem d_St_takeFrame_6 : decode c_St_takeFrame 6 = .ok (.ifnull 13, 3) := by decide +kernel
theorem d_St_takeFrame_9 : decode c_St_takeFrame 9 = .ok (.aload_n 0, 1) := by decide +kernel
theorem d_St_takeFrame_10 : decode c_St_takeFrame 10 = .ok (.aload_n 1, 1) := by decide +kernel
theorem d_St_takeFrame_11 : decode c_St_takeFrame 11 = .ok (.getfield 30, 3) := by decide +kernel
theorem d_St_takeFrame_14 : decode c_St_takeFrame 14 = .ok (.putfield 26, 3) := by decide +kernel
theorem d_St_takeFrame_17 : decode c_St_takeFrame 17 = .ok (.aload_n 1, 1) := by decide +kernel
theorem d_St_takeFrame_18 : decode c_St_takeFrame 18 = .ok (.areturn, 1) := by decide +kernel
theorem d_St_takeFrame_19 : decode c_St_takeFrame 19 = .ok (.aload_n 0, 1) := by decide +kernel
theorem d_St_takeFrame_20 : decode c_St_takeFrame 20 = .ok (.getfield 19, 3) := by decide +kernel
theorem d_St_takeFrame_23 : decode c_St_takeFrame 23 = .ok (.aload_n 0, 1) := by decide +kernel
theorem d_St_takeFrame_24 : decode c_St_takeFrame 24 = .ok (.getfield 10, 3) := by decide +kernel
theorem d_St_takeFrame_27 : decode c_St_takeFrame 27 = .ok (.invokevirtual 35, 3) := by decide +kernel
theorem d_St_takeFrame_30 : decode c_St_takeFrame 30 = .ok (.if_icmp .lt 18, 3) := by decide +kernel
theorem d_St_takeFrame_33 : decode c_St_takeFrame 33 = .ok (.aload_n 0, 1) := by decide +kernel
theorem d_St_takeFrame_34 : decode c_St_takeFrame 34 = .ok (.getfield 10, 3) := by decide +kernel
theorem d_St_takeFrame_37 : decode c_St_takeFrame 37 = .ok (.new 31, 3) := by decide +kernel
theorem d_St_takeFrame_40 : decode c_St_takeFrame 40 = .ok (.dup, 1) := by decide +kernel
theorem d_St_takeFrame_41 : decode c_St_takeFrame 41 = .ok (.invokespecial 39, 3) := by decide +kernel
theorem d_St_takeFrame_44 : decode c_St_takeFrame 44 = .ok (.invokevirtual 40, 3) := by decide +kernel
theorem d_St_takeFrame_47 : decode c_St_takeFrame 47 = .ok (.pop, 1) := by decide +kernel
theorem d_St_takeFrame_48 : decode c_St_takeFrame 48 = .ok (.aload_n 0, 1) := by decide +kernel
theorem d_St_takeFrame_49 : decode c_St_takeFrame 49 = .ok (.getfield 10, 3) := by decide +kernel
theorem d_St_takeFrame_52 : decode c_St_takeFrame 52 = .ok (.aload_n 0, 1) := by decide +kernel
theorem d_St_takeFrame_53 : decode c_St_takeFrame 53 = .ok (.getfield 19, 3) := by decide +kernel
theorem d_St_takeFrame_56 : decode c_St_takeFrame 56 = .ok (.invokevirtual 44, 3) := by decide +kernel
theorem d_St_takeFrame_59 : decode c_St_takeFrame 59 = .ok (.checkcast 31, 3) := by decide +kernel
theorem d_St_takeFrame_62 : decode c_St_takeFrame 62 = .ok (.astore_n 1, 1) := by decide +kernel
theorem d_St_takeFrame_63 : decode c_St_takeFrame 63 = .ok (.aload_n 0, 1) := by decide +kernel
theorem d_St_takeFrame_64 : decode c_St_takeFrame 64 = .ok (.dup, 1) := by decide +kernel
theorem d_St_takeFrame_65 : decode c_St_takeFrame 65 = .ok (.getfield 19, 3) := by decide +kernel
theorem d_St_takeFrame_68 : decode c_St_takeFrame 68 = .ok (.iconst 1, 1) := by decide +kernel
theorem d_St_takeFrame_69 : decode c_St_takeFrame 69 = .ok (.iadd, 1) := by decide +kernel
theorem d_St_takeFrame_70 : decode c_St_takeFrame 70 = .ok (.putfield 19, 3) := by decide +kernel
theorem d_St_takeFrame_73 : decode c_St_takeFrame 73 = .ok (.aload_n 1, 1) := by decide +kernel
theorem d_St_takeFrame_74 : decode c_St_takeFrame 74 = .ok (.areturn, 1) := by decide +kernel
theorem d_St_giveBack_0 : decode c_St_giveBack 0 = .ok (.aload_n 1, 1) := by decide +kernel
theorem d_St_giveBack_1 : decode c_St_giveBack 1 = .ok (.aload_n 0, 1) := by decide +kernel
theorem d_St_giveBack_2 : decode c_St_giveBack 2 = .ok (.getfield 26, 3) := by decide +kernel
theorem d_St_giveBack_5 : decode c_St_giveBack 5 = .ok (.putfield 30, 3) := by decide +kernel
theorem d_St_giveBack_8 : decode c_St_giveBack 8 = .ok (.aload_n 1, 1) := by decide +kernel
theorem d_St_giveBack_9 : decode c_St_giveBack 9 = .ok (.aconst_null, 1) := by decide +kernel
theorem d_St_giveBack_10 : decode c_St_giveBack 10 = .ok (.putfield 48, 3) := by decide +kernel
theorem d_St_giveBack_13 : decode c_St_giveBack 13 = .ok (.aload_n 0, 1) := by decide +kernel
theorem d_St_giveBack_14 : decode c_St_giveBack 14 = .ok (.aload_n 1, 1) := by decide +kernel
theorem d_St_giveBack_15 : decode c_St_giveBack 15 = .ok (.putfield 26, 3) := by decide +kernel
theorem d_St_giveBack_18 : decode c_St_giveBack 18 = .ok (.return_, 1) := by decide +kernel
theorem d_St_takeThing_0 : decode c_St_takeThing 0 = .ok (.aload_n 0, 1) := by decide +kernel
theorem d_St_takeThing_1 : decode c_St_takeThing 1 = .ok (.getfield 23, 3) := by decide +kernel
theorem d_St_takeThing_4 : decode c_St_takeThing 4 = .ok (.aload_n 0, 1) := by decide +kernel
theorem d_St_takeThing_5 : decode c_St_takeThing 5 = .ok (.getfield 16, 3) := by decide +kernel
theorem d_St_takeThing_8 : decode c_St_takeThing 8 = .ok (.invokevirtual 35, 3) := by decide +kernel
theorem d_St_takeThing_11 : decode c_St_takeThing 11 = .ok (.if_icmp .lt 18, 3) := by decide +kernel
theorem d_St_takeThing_14 : decode c_St_takeThing 14 = .ok (.aload_n 0, 1) := by decide +kernel
theorem d_St_takeThing_15 : decode c_St_takeThing 15 = .ok (.getfield 16, 3) := by decide +kernel
theorem d_St_takeThing_18 : decode c_St_takeThing 18 = .ok (.new 52, 3) := by decide +kernel
theorem d_St_takeThing_21 : decode c_St_takeThing 21 = .ok (.dup, 1) := by decide +kernel
theorem d_St_takeThing_22 : decode c_St_takeThing 22 = .ok (.invokespecial 54, 3) := by decide +kernel
theorem d_St_takeThing_25 : decode c_St_takeThing 25 = .ok (.invokevirtual 40, 3) := by decide +kernel
theorem d_St_takeThing_28 : decode c_St_takeThing 28 = .ok (.pop, 1) := by decide +kernel
theorem d_St_takeThing_29 : decode c_St_takeThing 29 = .ok (.aload_n 0, 1) := by decide +kernel
theorem d_St_takeThing_30 : decode c_St_takeThing 30 = .ok (.dup, 1) := by decide +kernel
theorem d_St_takeThing_31 : decode c_St_takeThing 31 = .ok (.getfield 23, 3) := by decide +kernel
theorem d_St_takeThing_34 : decode c_St_takeThing 34 = .ok (.iconst 1, 1) := by decide +kernel
theorem d_St_takeThing_35 : decode c_St_takeThing 35 = .ok (.iadd, 1) := by decide +kernel
theorem d_St_takeThing_36 : decode c_St_takeThing 36 = .ok (.putfield 23, 3) := by decide +kernel
theorem d_St_takeThing_39 : decode c_St_takeThing 39 = .ok (.aload_n 0, 1) := by decide +kernel
theorem d_St_takeThing_40 : decode c_St_takeThing 40 = .ok (.getfield 23, 3) := by decide +kernel
theorem d_St_takeThing_43 : decode c_St_takeThing 43 = .ok (.iconst 1, 1) := by decide +kernel
theorem d_St_takeThing_44 : decode c_St_takeThing 44 = .ok (.isub, 1) := by decide +kernel
theorem d_St_takeThing_45 : decode c_St_takeThing 45 = .ok (.ireturn, 1) := by decide +kernel
theorem d_St_thingAt_0 : decode c_St_thingAt 0 = .ok (.iload_n 1, 1) := by decide +kernel
theorem d_St_thingAt_1 : decode c_St_thingAt 1 = .ok (.ifCond .lt 36, 3) := by decide +kernel
theorem d_St_thingAt_4 : decode c_St_thingAt 4 = .ok (.iload_n 1, 1) := by decide +kernel
theorem d_St_thingAt_5 : decode c_St_thingAt 5 = .ok (.aload_n 0, 1) := by decide +kernel
theorem d_St_thingAt_6 : decode c_St_thingAt 6 = .ok (.getfield 23, 3) := by decide +kernel
theorem d_St_thingAt_9 : decode c_St_thingAt 9 = .ok (.if_icmp .ge 28, 3) := by decide +kernel
theorem d_St_thingAt_12 : decode c_St_thingAt 12 = .ok (.iload_n 1, 1) := by decide +kernel
theorem d_St_thingAt_13 : decode c_St_thingAt 13 = .ok (.aload_n 0, 1) := by decide +kernel
theorem d_St_thingAt_14 : decode c_St_thingAt 14 = .ok (.getfield 16, 3) := by decide +kernel
theorem d_St_thingAt_17 : decode c_St_thingAt 17 = .ok (.invokevirtual 35, 3) := by decide +kernel
theorem d_St_thingAt_20 : decode c_St_thingAt 20 = .ok (.if_icmp .ge 17, 3) := by decide +kernel
theorem d_St_thingAt_23 : decode c_St_thingAt 23 = .ok (.aload_n 0, 1) := by decide +kernel
theorem d_St_thingAt_24 : decode c_St_thingAt 24 = .ok (.getfield 16, 3) := by decide +kernel
theorem d_St_thingAt_27 : decode c_St_thingAt 27 = .ok (.iload_n 1, 1) := by decide +kernel
theorem d_St_thingAt_28 : decode c_St_thingAt 28 = .ok (.invokevirtual 44, 3) := by decide +kernel
theorem d_St_thingAt_31 : decode c_St_thingAt 31 = .ok (.checkcast 52, 3) := by decide +kernel
theorem d_St_thingAt_34 : decode c_St_thingAt 34 = .ok (.goto 4, 3) := by decide +kernel
theorem d_St_thingAt_37 : decode c_St_thingAt 37 = .ok (.aconst_null, 1) := by decide +kernel
theorem d_St_thingAt_38 : decode c_St_thingAt 38 = .ok (.areturn, 1) := by decide +kernel
theorem d_Th_init_0 : decode c_Th_init 0 = .ok (.aload_n 0, 1) := by decide +kernel
theorem d_Th_init_1 : decode c_Th_init 1 = .ok (.invokespecial 3, 3) := by decide +kernel
theorem d_Th_init_4 : decode c_Th_init 4 = .ok (.aload_n 0, 1) := by decide +kernel
theorem d_Th_init_5 : decode c_Th_init 5 = .ok (.bipush 10, 2) := by decide +kernel
theorem d_Th_init_7 : decode c_Th_init 7 = .ok (.newarray .int, 2) := by decide +kernel
theorem d_Th_init_9 : decode c_Th_init 9 = .ok (.putfield 9, 3) := by decide +kernel
theorem d_Th_init_12 : decode c_Th_init 12 = .ok (.return_, 1) := by decide +kernel
theorem d_Th_make_0 : decode c_Th_make 0 = .ok (.aload_n 0, 1) := by decide +kernel
theorem d_Th_make_1 : decode c_Th_make 1 = .ok (.iload_n 1, 1) := by decide +kernel
theorem d_Th_make_2 : decode c_Th_make 2 = .ok (.putfield 15, 3) := by decide +kernel
theorem d_Th_make_5 : decode c_Th_make 5 = .ok (.aload_n 0, 1) := by decide +kernel
theorem d_Th_make_6 : decode c_Th_make 6 = .ok (.iconst 0, 1) := by decide +kernel
theorem d_Th_make_7 : decode c_Th_make 7 = .ok (.putfield 19, 3) := by decide +kernel
theorem d_Th_make_10 : decode c_Th_make 10 = .ok (.aload_n 0, 1) := by decide +kernel
theorem d_Th_make_11 : decode c_Th_make 11 = .ok (.aconst_null, 1) := by decide +kernel
theorem d_Th_make_12 : decode c_Th_make 12 = .ok (.putfield 23, 3) := by decide +kernel
theorem d_Th_make_15 : decode c_Th_make 15 = .ok (.aload_n 0, 1) := by decide +kernel
theorem d_Th_make_16 : decode c_Th_make 16 = .ok (.aconst_null, 1) := by decide +kernel
theorem d_Th_make_17 : decode c_Th_make 17 = .ok (.putfield 27, 3) := by decide +kernel
theorem d_Th_make_20 : decode c_Th_make 20 = .ok (.return_, 1) := by decide +kernel
theorem d_Th_hold_0 : decode c_Th_hold 0 = .ok (.aload_n 0, 1) := by decide +kernel
theorem d_Th_hold_1 : decode c_Th_hold 1 = .ok (.iconst 1, 1) := by decide +kernel
theorem d_Th_hold_2 : decode c_Th_hold 2 = .ok (.putfield 19, 3) := by decide +kernel
theorem d_Th_hold_5 : decode c_Th_hold 5 = .ok (.aload_n 0, 1) := by decide +kernel
theorem d_Th_hold_6 : decode c_Th_hold 6 = .ok (.iconst 0, 1) := by decide +kernel
theorem d_Th_hold_7 : decode c_Th_hold 7 = .ok (.putfield 30, 3) := by decide +kernel
theorem d_Th_hold_10 : decode c_Th_hold 10 = .ok (.aload_n 0, 1) := by decide +kernel
theorem d_Th_hold_11 : decode c_Th_hold 11 = .ok (.aload_n 1, 1) := by decide +kernel
theorem d_Th_hold_12 : decode c_Th_hold 12 = .ok (.putfield 23, 3) := by decide +kernel
theorem d_Th_hold_15 : decode c_Th_hold 15 = .ok (.aload_n 0, 1) := by decide +kernel
theorem d_Th_hold_16 : decode c_Th_hold 16 = .ok (.aload_n 2, 1) := by decide +kernel
theorem d_Th_hold_17 : decode c_Th_hold 17 = .ok (.putfield 27, 3) := by decide +kernel
theorem d_Th_hold_20 : decode c_Th_hold 20 = .ok (.aload_n 0, 1) := by decide +kernel
theorem d_Th_hold_21 : decode c_Th_hold 21 = .ok (.iload_n 3, 1) := by decide +kernel
theorem d_Th_hold_22 : decode c_Th_hold 22 = .ok (.putfield 33, 3) := by decide +kernel
theorem d_Th_hold_25 : decode c_Th_hold 25 = .ok (.return_, 1) := by decide +kernel
theorem d_Th_give_0 : decode c_Th_give 0 = .ok (.iload_n 1, 1) := by decide +kernel
theorem d_Th_give_1 : decode c_Th_give 1 = .ok (.ifCond .lt 16, 3) := by decide +kernel
theorem d_Th_give_4 : decode c_Th_give 4 = .ok (.iload_n 1, 1) := by decide +kernel
theorem d_Th_give_5 : decode c_Th_give 5 = .ok (.bipush 10, 2) := by decide +kernel
theorem d_Th_give_7 : decode c_Th_give 7 = .ok (.if_icmp .ge 10, 3) := by decide +kernel
theorem d_Th_give_10 : decode c_Th_give 10 = .ok (.aload_n 0, 1) := by decide +kernel
theorem d_Th_give_11 : decode c_Th_give 11 = .ok (.getfield 9, 3) := by decide +kernel
theorem d_Th_give_14 : decode c_Th_give 14 = .ok (.iload_n 1, 1) := by decide +kernel
theorem d_Th_give_15 : decode c_Th_give 15 = .ok (.iload_n 2, 1) := by decide +kernel
theorem d_Th_give_16 : decode c_Th_give 16 = .ok (.iastore, 1) := by decide +kernel
theorem d_Th_give_17 : decode c_Th_give 17 = .ok (.return_, 1) := by decide +kernel
theorem d_Ty_init_0 : decode c_Ty_init 0 = .ok (.aload_n 0, 1) := by decide +kernel
theorem d_Ty_init_1 : decode c_Ty_init 1 = .ok (.invokespecial 5, 3) := by decide +kernel
theorem d_Ty_init_4 : decode c_Ty_init 4 = .ok (.aload_n 0, 1) := by decide +kernel
theorem d_Ty_init_5 : decode c_Ty_init 5 = .ok (.new 11, 3) := by decide +kernel
theorem d_Ty_init_8 : decode c_Ty_init 8 = .ok (.dup, 1) := by decide +kernel
theorem d_Ty_init_9 : decode c_Ty_init 9 = .ok (.invokespecial 13, 3) := by decide +kernel
theorem d_Ty_init_12 : decode c_Ty_init 12 = .ok (.putfield 14, 3) := by decide +kernel
theorem d_Ty_init_15 : decode c_Ty_init 15 = .ok (.aload_n 0, 1) := by decide +kernel
theorem d_Ty_init_16 : decode c_Ty_init 16 = .ok (.new 11, 3) := by decide +kernel
theorem d_Ty_init_19 : decode c_Ty_init 19 = .ok (.dup, 1) := by decide +kernel
theorem d_Ty_init_20 : decode c_Ty_init 20 = .ok (.invokespecial 13, 3) := by decide +kernel
theorem d_Ty_init_23 : decode c_Ty_init 23 = .ok (.putfield 18, 3) := by decide +kernel
theorem d_Ty_init_26 : decode c_Ty_init 26 = .ok (.aload_n 0, 1) := by decide +kernel
theorem d_Ty_init_27 : decode c_Ty_init 27 = .ok (.new 11, 3) := by decide +kernel
theorem d_Ty_init_30 : decode c_Ty_init 30 = .ok (.dup, 1) := by decide +kernel
theorem d_Ty_init_31 : decode c_Ty_init 31 = .ok (.invokespecial 13, 3) := by decide +kernel
theorem d_Ty_init_34 : decode c_Ty_init 34 = .ok (.putfield 21, 3) := by decide +kernel
theorem d_Ty_init_37 : decode c_Ty_init 37 = .ok (.aload_n 0, 1) := by decide +kernel
theorem d_Ty_init_38 : decode c_Ty_init 38 = .ok (.new 11, 3) := by decide +kernel
theorem d_Ty_init_41 : decode c_Ty_init 41 = .ok (.dup, 1) := by decide +kernel
theorem d_Ty_init_42 : decode c_Ty_init 42 = .ok (.invokespecial 13, 3) := by decide +kernel
theorem d_Ty_init_45 : decode c_Ty_init 45 = .ok (.putfield 24, 3) := by decide +kernel
theorem d_Ty_init_48 : decode c_Ty_init 48 = .ok (.aload_n 0, 1) := by decide +kernel
theorem d_Ty_init_49 : decode c_Ty_init 49 = .ok (.iconst 3, 1) := by decide +kernel
theorem d_Ty_init_50 : decode c_Ty_init 50 = .ok (.putfield 27, 3) := by decide +kernel
theorem d_Ty_init_53 : decode c_Ty_init 53 = .ok (.return_, 1) := by decide +kernel
theorem d_Ty_isType_0 : decode c_Ty_isType 0 = .ok (.iload_n 1, 1) := by decide +kernel
theorem d_Ty_isType_1 : decode c_Ty_isType 1 = .ok (.ifCond .lt 15, 3) := by decide +kernel
theorem d_Ty_isType_4 : decode c_Ty_isType 4 = .ok (.iload_n 1, 1) := by decide +kernel
theorem d_Ty_isType_5 : decode c_Ty_isType 5 = .ok (.aload_n 0, 1) := by decide +kernel
theorem d_Ty_isType_6 : decode c_Ty_isType 6 = .ok (.getfield 27, 3) := by decide +kernel
theorem d_Ty_isType_9 : decode c_Ty_isType 9 = .ok (.if_icmp .ge 7, 3) := by decide +kernel
theorem d_Ty_isType_12 : decode c_Ty_isType 12 = .ok (.iconst 1, 1) := by decide +kernel
theorem d_Ty_isType_13 : decode c_Ty_isType 13 = .ok (.goto 4, 3) := by decide +kernel
theorem d_Ty_isType_16 : decode c_Ty_isType 16 = .ok (.iconst 0, 1) := by decide +kernel
theorem d_Ty_isType_17 : decode c_Ty_isType 17 = .ok (.ireturn, 1) := by decide +kernel
theorem d_Ty_isFunction_0 : decode c_Ty_isFunction 0 = .ok (.iload_n 1, 1) := by decide +kernel
theorem d_Ty_isFunction_1 : decode c_Ty_isFunction 1 = .ok (.iconst 3, 1) := by decide +kernel
theorem d_Ty_isFunction_2 : decode c_Ty_isFunction 2 = .ok (.if_icmp .lt 15, 3) := by decide +kernel
theorem d_Ty_isFunction_5 : decode c_Ty_isFunction 5 = .ok (.iload_n 1, 1) := by decide +kernel
theorem d_Ty_isFunction_6 : decode c_Ty_isFunction 6 = .ok (.aload_n 0, 1) := by decide +kernel
theorem d_Ty_isFunction_7 : decode c_Ty_isFunction 7 = .ok (.getfield 27, 3) := by decide +kernel
theorem d_Ty_isFunction_10 : decode c_Ty_isFunction 10 = .ok (.if_icmp .ge 7, 3) := by decide +kernel
theorem d_Ty_isFunction_13 : decode c_Ty_isFunction 13 = .ok (.iconst 1, 1) := by decide +kernel
theorem d_Ty_isFunction_14 : decode c_Ty_isFunction 14 = .ok (.goto 4, 3) := by decide +kernel
theorem d_Ty_isFunction_17 : decode c_Ty_isFunction 17 = .ok (.iconst 0, 1) := by decide +kernel
theorem d_Ty_isFunction_18 : decode c_Ty_isFunction 18 = .ok (.ireturn, 1) := by decide +kernel
theorem d_Ty_functions_0 : decode c_Ty_functions 0 = .ok (.aload_n 0, 1) := by decide +kernel
theorem d_Ty_functions_1 : decode c_Ty_functions 1 = .ok (.getfield 27, 3) := by decide +kernel
theorem d_Ty_functions_4 : decode c_Ty_functions 4 = .ok (.iconst 3, 1) := by decide +kernel
theorem d_Ty_functions_5 : decode c_Ty_functions 5 = .ok (.isub, 1) := by decide +kernel
theorem d_Ty_functions_6 : decode c_Ty_functions 6 = .ok (.ireturn, 1) := by decide +kernel
theorem d_Ty_argumentOf_0 : decode c_Ty_argumentOf 0 = .ok (.aload_n 0, 1) := by decide +kernel
theorem d_Ty_argumentOf_1 : decode c_Ty_argumentOf 1 = .ok (.getfield 14, 3) := by decide +kernel
theorem d_Ty_argumentOf_4 : decode c_Ty_argumentOf 4 = .ok (.iload_n 1, 1) := by decide +kernel
theorem d_Ty_argumentOf_5 : decode c_Ty_argumentOf 5 = .ok (.invokevirtual 31, 3) := by decide +kernel
theorem d_Ty_argumentOf_8 : decode c_Ty_argumentOf 8 = .ok (.ireturn, 1) := by decide +kernel
theorem d_Ty_resultOf_0 : decode c_Ty_resultOf 0 = .ok (.aload_n 0, 1) := by decide +kernel
theorem d_Ty_resultOf_1 : decode c_Ty_resultOf 1 = .ok (.getfield 18, 3) := by decide +kernel
theorem d_Ty_resultOf_4 : decode c_Ty_resultOf 4 = .ok (.iload_n 1, 1) := by decide +kernel
theorem d_Ty_resultOf_5 : decode c_Ty_resultOf 5 = .ok (.invokevirtual 31, 3) := by decide +kernel
theorem d_Ty_resultOf_8 : decode c_Ty_resultOf 8 = .ok (.ireturn, 1) := by decide +kernel
theorem d_Ty_rowOf_0 : decode c_Ty_rowOf 0 = .ok (.aload_n 0, 1) := by decide +kernel
theorem d_Ty_rowOf_1 : decode c_Ty_rowOf 1 = .ok (.getfield 21, 3) := by decide +kernel
theorem d_Ty_rowOf_4 : decode c_Ty_rowOf 4 = .ok (.iload_n 1, 1) := by decide +kernel
theorem d_Ty_rowOf_5 : decode c_Ty_rowOf 5 = .ok (.invokevirtual 31, 3) := by decide +kernel
theorem d_Ty_rowOf_8 : decode c_Ty_rowOf 8 = .ok (.ireturn, 1) := by decide +kernel
theorem d_Ty_dropBack_0 : decode c_Ty_dropBack 0 = .ok (.aload_n 0, 1) := by decide +kernel
theorem d_Ty_dropBack_1 : decode c_Ty_dropBack 1 = .ok (.iload_n 1, 1) := by decide +kernel
theorem d_Ty_dropBack_2 : decode c_Ty_dropBack 2 = .ok (.putfield 27, 3) := by decide +kernel
theorem d_Ty_dropBack_5 : decode c_Ty_dropBack 5 = .ok (.return_, 1) := by decide +kernel
theorem d_Ty_find_0 : decode c_Ty_find 0 = .ok (.iconst 3, 1) := by decide +kernel
theorem d_Ty_find_1 : decode c_Ty_find 1 = .ok (.istore 4, 2) := by decide +kernel
theorem d_Ty_find_3 : decode c_Ty_find 3 = .ok (.iload 4, 2) := by decide +kernel
theorem d_Ty_find_5 : decode c_Ty_find 5 = .ok (.aload_n 0, 1) := by decide +kernel
theorem d_Ty_find_6 : decode c_Ty_find 6 = .ok (.getfield 27, 3) := by decide +kernel
theorem d_Ty_find_9 : decode c_Ty_find 9 = .ok (.if_icmp .ge 51, 3) := by decide +kernel
theorem d_Ty_find_12 : decode c_Ty_find 12 = .ok (.aload_n 0, 1) := by decide +kernel
theorem d_Ty_find_13 : decode c_Ty_find 13 = .ok (.getfield 14, 3) := by decide +kernel
theorem d_Ty_find_16 : decode c_Ty_find 16 = .ok (.iload 4, 2) := by decide +kernel
theorem d_Ty_find_18 : decode c_Ty_find 18 = .ok (.invokevirtual 31, 3) := by decide +kernel
theorem d_Ty_find_21 : decode c_Ty_find 21 = .ok (.iload_n 1, 1) := by decide +kernel
theorem d_Ty_find_22 : decode c_Ty_find 22 = .ok (.if_icmp .ne 32, 3) := by decide +kernel
theorem d_Ty_find_25 : decode c_Ty_find 25 = .ok (.aload_n 0, 1) := by decide +kernel
theorem d_Ty_find_26 : decode c_Ty_find 26 = .ok (.getfield 18, 3) := by decide +kernel
theorem d_Ty_find_29 : decode c_Ty_find 29 = .ok (.iload 4, 2) := by decide +kernel
theorem d_Ty_find_31 : decode c_Ty_find 31 = .ok (.invokevirtual 31, 3) := by decide +kernel
theorem d_Ty_find_34 : decode c_Ty_find 34 = .ok (.iload_n 2, 1) := by decide +kernel
theorem d_Ty_find_35 : decode c_Ty_find 35 = .ok (.if_icmp .ne 19, 3) := by decide +kernel
theorem d_Ty_find_38 : decode c_Ty_find 38 = .ok (.aload_n 0, 1) := by decide +kernel
theorem d_Ty_find_39 : decode c_Ty_find 39 = .ok (.getfield 21, 3) := by decide +kernel
theorem d_Ty_find_42 : decode c_Ty_find 42 = .ok (.iload 4, 2) := by decide +kernel
theorem d_Ty_find_44 : decode c_Ty_find 44 = .ok (.invokevirtual 31, 3) := by decide +kernel
theorem d_Ty_find_47 : decode c_Ty_find 47 = .ok (.iload_n 3, 1) := by decide +kernel
theorem d_Ty_find_48 : decode c_Ty_find 48 = .ok (.if_icmp .ne 6, 3) := by decide +kernel
theorem d_Ty_find_51 : decode c_Ty_find 51 = .ok (.iload 4, 2) := by decide +kernel
theorem d_Ty_find_53 : decode c_Ty_find 53 = .ok (.ireturn, 1) := by decide +kernel
theorem d_Ty_find_54 : decode c_Ty_find 54 = .ok (.iinc 4 1, 3) := by decide +kernel
theorem d_Ty_find_57 : decode c_Ty_find 57 = .ok (.goto (-54), 3) := by decide +kernel
theorem d_Ty_find_60 : decode c_Ty_find 60 = .ok (.iconst (-1), 1) := by decide +kernel
theorem d_Ty_find_61 : decode c_Ty_find 61 = .ok (.ireturn, 1) := by decide +kernel
theorem d_Ty_numberOf_0 : decode c_Ty_numberOf 0 = .ok (.aload_n 0, 1) := by decide +kernel
theorem d_Ty_numberOf_1 : decode c_Ty_numberOf 1 = .ok (.iload_n 1, 1) := by decide +kernel
theorem d_Ty_numberOf_2 : decode c_Ty_numberOf 2 = .ok (.iload_n 2, 1) := by decide +kernel
theorem d_Ty_numberOf_3 : decode c_Ty_numberOf 3 = .ok (.iload_n 3, 1) := by decide +kernel
theorem d_Ty_numberOf_4 : decode c_Ty_numberOf 4 = .ok (.invokevirtual 35, 3) := by decide +kernel
theorem d_Ty_numberOf_7 : decode c_Ty_numberOf 7 = .ok (.istore 4, 2) := by decide +kernel
theorem d_Ty_numberOf_9 : decode c_Ty_numberOf 9 = .ok (.iload 4, 2) := by decide +kernel
theorem d_Ty_numberOf_11 : decode c_Ty_numberOf 11 = .ok (.iconst (-1), 1) := by decide +kernel
theorem d_Ty_numberOf_12 : decode c_Ty_numberOf 12 = .ok (.if_icmp .ne 13, 3) := by decide +kernel
theorem d_Ty_numberOf_15 : decode c_Ty_numberOf 15 = .ok (.aload_n 0, 1) := by decide +kernel
theorem d_Ty_numberOf_16 : decode c_Ty_numberOf 16 = .ok (.getfield 27, 3) := by decide +kernel
theorem d_Ty_numberOf_19 : decode c_Ty_numberOf 19 = .ok (.sipush 512, 3) := by decide +kernel
theorem d_Ty_numberOf_22 : decode c_Ty_numberOf 22 = .ok (.if_icmp .lt 6, 3) := by decide +kernel
theorem d_Ty_numberOf_25 : decode c_Ty_numberOf 25 = .ok (.iload 4, 2) := by decide +kernel
theorem d_Ty_numberOf_27 : decode c_Ty_numberOf 27 = .ok (.ireturn, 1) := by decide +kernel
theorem d_Ty_numberOf_28 : decode c_Ty_numberOf 28 = .ok (.aload_n 0, 1) := by decide +kernel
theorem d_Ty_numberOf_29 : decode c_Ty_numberOf 29 = .ok (.getfield 27, 3) := by decide +kernel
theorem d_Ty_numberOf_32 : decode c_Ty_numberOf 32 = .ok (.istore 5, 2) := by decide +kernel
theorem d_Ty_numberOf_34 : decode c_Ty_numberOf 34 = .ok (.aload_n 0, 1) := by decide +kernel
theorem d_Ty_numberOf_35 : decode c_Ty_numberOf 35 = .ok (.getfield 14, 3) := by decide +kernel
theorem d_Ty_numberOf_38 : decode c_Ty_numberOf 38 = .ok (.iload 5, 2) := by decide +kernel
theorem d_Ty_numberOf_40 : decode c_Ty_numberOf 40 = .ok (.iload_n 1, 1) := by decide +kernel
theorem d_Ty_numberOf_41 : decode c_Ty_numberOf 41 = .ok (.invokevirtual 39, 3) := by decide +kernel
theorem d_Ty_numberOf_44 : decode c_Ty_numberOf 44 = .ok (.aload_n 0, 1) := by decide +kernel
theorem d_Ty_numberOf_45 : decode c_Ty_numberOf 45 = .ok (.getfield 18, 3) := by decide +kernel
theorem d_Ty_numberOf_48 : decode c_Ty_numberOf 48 = .ok (.iload 5, 2) := by decide +kernel
theorem d_Ty_numberOf_50 : decode c_Ty_numberOf 50 = .ok (.iload_n 2, 1) := by decide +kernel
theorem d_Ty_numberOf_51 : decode c_Ty_numberOf 51 = .ok (.invokevirtual 39, 3) := by decide +kernel
theorem d_Ty_numberOf_54 : decode c_Ty_numberOf 54 = .ok (.aload_n 0, 1) := by decide +kernel
theorem d_Ty_numberOf_55 : decode c_Ty_numberOf 55 = .ok (.getfield 21, 3) := by decide +kernel
theorem d_Ty_numberOf_58 : decode c_Ty_numberOf 58 = .ok (.iload 5, 2) := by decide +kernel
theorem d_Ty_numberOf_60 : decode c_Ty_numberOf 60 = .ok (.iload_n 3, 1) := by decide +kernel
theorem d_Ty_numberOf_61 : decode c_Ty_numberOf 61 = .ok (.invokevirtual 39, 3) := by decide +kernel
theorem d_Ty_numberOf_64 : decode c_Ty_numberOf 64 = .ok (.aload_n 0, 1) := by decide +kernel
theorem d_Ty_numberOf_65 : decode c_Ty_numberOf 65 = .ok (.dup, 1) := by decide +kernel
theorem d_Ty_numberOf_66 : decode c_Ty_numberOf 66 = .ok (.getfield 27, 3) := by decide +kernel
theorem d_Ty_numberOf_69 : decode c_Ty_numberOf 69 = .ok (.iconst 1, 1) := by decide +kernel
theorem d_Ty_numberOf_70 : decode c_Ty_numberOf 70 = .ok (.iadd, 1) := by decide +kernel
theorem d_Ty_numberOf_71 : decode c_Ty_numberOf 71 = .ok (.putfield 27, 3) := by decide +kernel
theorem d_Ty_numberOf_74 : decode c_Ty_numberOf 74 = .ok (.iconst 3, 1) := by decide +kernel
theorem d_Ty_numberOf_75 : decode c_Ty_numberOf 75 = .ok (.istore 6, 2) := by decide +kernel
theorem d_Ty_numberOf_77 : decode c_Ty_numberOf 77 = .ok (.iload 6, 2) := by decide +kernel
theorem d_Ty_numberOf_79 : decode c_Ty_numberOf 79 = .ok (.iload 5, 2) := by decide +kernel
theorem d_Ty_numberOf_81 : decode c_Ty_numberOf 81 = .ok (.if_icmp .ge 41, 3) := by decide +kernel
theorem d_Ty_numberOf_84 : decode c_Ty_numberOf 84 = .ok (.aload_n 0, 1) := by decide +kernel
theorem d_Ty_numberOf_85 : decode c_Ty_numberOf 85 = .ok (.iload 5, 2) := by decide +kernel
theorem d_Ty_numberOf_87 : decode c_Ty_numberOf 87 = .ok (.iload 6, 2) := by decide +kernel
theorem d_Ty_numberOf_89 : decode c_Ty_numberOf 89 = .ok (.aload_n 0, 1) := by decide +kernel
theorem d_Ty_numberOf_90 : decode c_Ty_numberOf 90 = .ok (.iload 5, 2) := by decide +kernel
theorem d_Ty_numberOf_92 : decode c_Ty_numberOf 92 = .ok (.iload 6, 2) := by decide +kernel
theorem d_Ty_numberOf_94 : decode c_Ty_numberOf 94 = .ok (.invokevirtual 43, 3) := by decide +kernel
theorem d_Ty_numberOf_97 : decode c_Ty_numberOf 97 = .ok (.invokevirtual 47, 3) := by decide +kernel
theorem d_Ty_numberOf_100 : decode c_Ty_numberOf 100 = .ok (.aload_n 0, 1) := by decide +kernel
theorem d_Ty_numberOf_101 : decode c_Ty_numberOf 101 = .ok (.iload 6, 2) := by decide +kernel
theorem d_Ty_numberOf_103 : decode c_Ty_numberOf 103 = .ok (.iload 5, 2) := by decide +kernel
theorem d_Ty_numberOf_105 : decode c_Ty_numberOf 105 = .ok (.aload_n 0, 1) := by decide +kernel
theorem d_Ty_numberOf_106 : decode c_Ty_numberOf 106 = .ok (.iload 6, 2) := by decide +kernel
theorem d_Ty_numberOf_108 : decode c_Ty_numberOf 108 = .ok (.iload 5, 2) := by decide +kernel
theorem d_Ty_numberOf_110 : decode c_Ty_numberOf 110 = .ok (.invokevirtual 43, 3) := by decide +kernel
theorem d_Ty_numberOf_113 : decode c_Ty_numberOf 113 = .ok (.invokevirtual 47, 3) := by decide +kernel
theorem d_Ty_numberOf_116 : decode c_Ty_numberOf 116 = .ok (.iinc 6 1, 3) := by decide +kernel
theorem d_Ty_numberOf_119 : decode c_Ty_numberOf 119 = .ok (.goto (-42), 3) := by decide +kernel
theorem d_Ty_numberOf_122 : decode c_Ty_numberOf 122 = .ok (.iload 5, 2) := by decide +kernel
theorem d_Ty_numberOf_124 : decode c_Ty_numberOf 124 = .ok (.ireturn, 1) := by decide +kernel
theorem d_Ty_suits_0 : decode c_Ty_suits 0 = .ok (.iload_n 1, 1) := by decide +kernel
theorem d_Ty_suits_1 : decode c_Ty_suits 1 = .ok (.iload_n 2, 1) := by decide +kernel
theorem d_Ty_suits_2 : decode c_Ty_suits 2 = .ok (.if_icmp .ne 5, 3) := by decide +kernel
theorem d_Ty_suits_5 : decode c_Ty_suits 5 = .ok (.iconst 1, 1) := by decide +kernel
theorem d_Ty_suits_6 : decode c_Ty_suits 6 = .ok (.ireturn, 1) := by decide +kernel
theorem d_Ty_suits_7 : decode c_Ty_suits 7 = .ok (.iload_n 1, 1) := by decide +kernel
theorem d_Ty_suits_8 : decode c_Ty_suits 8 = .ok (.iconst 3, 1) := by decide +kernel
theorem d_Ty_suits_9 : decode c_Ty_suits 9 = .ok (.if_icmp .lt 8, 3) := by decide +kernel
theorem d_Ty_suits_12 : decode c_Ty_suits 12 = .ok (.iload_n 2, 1) := by decide +kernel
theorem d_Ty_suits_13 : decode c_Ty_suits 13 = .ok (.iconst 3, 1) := by decide +kernel
theorem d_Ty_suits_14 : decode c_Ty_suits 14 = .ok (.if_icmp .ge 5, 3) := by decide +kernel
theorem d_Ty_suits_17 : decode c_Ty_suits 17 = .ok (.iconst 0, 1) := by decide +kernel
theorem d_Ty_suits_18 : decode c_Ty_suits 18 = .ok (.ireturn, 1) := by decide +kernel
theorem d_Ty_suits_19 : decode c_Ty_suits 19 = .ok (.aload_n 0, 1) := by decide +kernel
theorem d_Ty_suits_20 : decode c_Ty_suits 20 = .ok (.getfield 24, 3) := by decide +kernel
theorem d_Ty_suits_23 : decode c_Ty_suits 23 = .ok (.iload_n 1, 1) := by decide +kernel
theorem d_Ty_suits_24 : decode c_Ty_suits 24 = .ok (.bipush 16, 2) := by decide +kernel
theorem d_Ty_suits_26 : decode c_Ty_suits 26 = .ok (.imul, 1) := by decide +kernel
theorem d_Ty_suits_27 : decode c_Ty_suits 27 = .ok (.iload_n 2, 1) := by decide +kernel
theorem d_Ty_suits_28 : decode c_Ty_suits 28 = .ok (.bipush 32, 2) := by decide +kernel
theorem d_Ty_suits_30 : decode c_Ty_suits 30 = .ok (.idiv, 1) := by decide +kernel
theorem d_Ty_suits_31 : decode c_Ty_suits 31 = .ok (.iadd, 1) := by decide +kernel
theorem d_Ty_suits_32 : decode c_Ty_suits 32 = .ok (.invokevirtual 31, 3) := by decide +kernel
theorem d_Ty_suits_35 : decode c_Ty_suits 35 = .ok (.iload_n 2, 1) := by decide +kernel
theorem d_Ty_suits_36 : decode c_Ty_suits 36 = .ok (.bipush 32, 2) := by decide +kernel
theorem d_Ty_suits_38 : decode c_Ty_suits 38 = .ok (.irem, 1) := by decide +kernel
theorem d_Ty_suits_39 : decode c_Ty_suits 39 = .ok (.iushr, 1) := by decide +kernel
theorem d_Ty_suits_40 : decode c_Ty_suits 40 = .ok (.iconst 1, 1) := by decide +kernel
theorem d_Ty_suits_41 : decode c_Ty_suits 41 = .ok (.iand, 1) := by decide +kernel
theorem d_Ty_suits_42 : decode c_Ty_suits 42 = .ok (.iconst 1, 1) := by decide +kernel
theorem d_Ty_suits_43 : decode c_Ty_suits 43 = .ok (.if_icmp .ne 7, 3) := by decide +kernel
theorem d_Ty_suits_46 : decode c_Ty_suits 46 = .ok (.iconst 1, 1) := by decide +kernel
theorem d_Ty_suits_47 : decode c_Ty_suits 47 = .ok (.goto 4, 3) := by decide +kernel
theorem d_Ty_suits_50 : decode c_Ty_suits 50 = .ok (.iconst 0, 1) := by decide +kernel
theorem d_Ty_suits_51 : decode c_Ty_suits 51 = .ok (.ireturn, 1) := by decide +kernel
theorem d_Ty_partsSuit_0 : decode c_Ty_partsSuit 0 = .ok (.aload_n 0, 1) := by decide +kernel
theorem d_Ty_partsSuit_1 : decode c_Ty_partsSuit 1 = .ok (.aload_n 0, 1) := by decide +kernel
theorem d_Ty_partsSuit_2 : decode c_Ty_partsSuit 2 = .ok (.getfield 14, 3) := by decide +kernel
theorem d_Ty_partsSuit_5 : decode c_Ty_partsSuit 5 = .ok (.iload_n 2, 1) := by decide +kernel
theorem d_Ty_partsSuit_6 : decode c_Ty_partsSuit 6 = .ok (.invokevirtual 31, 3) := by decide +kernel
theorem d_Ty_partsSuit_9 : decode c_Ty_partsSuit 9 = .ok (.aload_n 0, 1) := by decide +kernel
theorem d_Ty_partsSuit_10 : decode c_Ty_partsSuit 10 = .ok (.getfield 14, 3) := by decide +kernel
theorem d_Ty_partsSuit_13 : decode c_Ty_partsSuit 13 = .ok (.iload_n 1, 1) := by decide +kernel
theorem d_Ty_partsSuit_14 : decode c_Ty_partsSuit 14 = .ok (.invokevirtual 31, 3) := by decide +kernel
theorem d_Ty_partsSuit_17 : decode c_Ty_partsSuit 17 = .ok (.invokevirtual 51, 3) := by decide +kernel
theorem d_Ty_partsSuit_20 : decode c_Ty_partsSuit 20 = .ok (.ifCond .eq 52, 3) := by decide +kernel
theorem d_Ty_partsSuit_23 : decode c_Ty_partsSuit 23 = .ok (.aload_n 0, 1) := by decide +kernel
theorem d_Ty_partsSuit_24 : decode c_Ty_partsSuit 24 = .ok (.aload_n 0, 1) := by decide +kernel
theorem d_Ty_partsSuit_25 : decode c_Ty_partsSuit 25 = .ok (.getfield 18, 3) := by decide +kernel
theorem d_Ty_partsSuit_28 : decode c_Ty_partsSuit 28 = .ok (.iload_n 1, 1) := by decide +kernel
theorem d_Ty_partsSuit_29 : decode c_Ty_partsSuit 29 = .ok (.invokevirtual 31, 3) := by decide +kernel
theorem d_Ty_partsSuit_32 : decode c_Ty_partsSuit 32 = .ok (.aload_n 0, 1) := by decide +kernel
theorem d_Ty_partsSuit_33 : decode c_Ty_partsSuit 33 = .ok (.getfield 18, 3) := by decide +kernel
theorem d_Ty_partsSuit_36 : decode c_Ty_partsSuit 36 = .ok (.iload_n 2, 1) := by decide +kernel
theorem d_Ty_partsSuit_37 : decode c_Ty_partsSuit 37 = .ok (.invokevirtual 31, 3) := by decide +kernel
theorem d_Ty_partsSuit_40 : decode c_Ty_partsSuit 40 = .ok (.invokevirtual 51, 3) := by decide +kernel
theorem d_Ty_partsSuit_43 : decode c_Ty_partsSuit 43 = .ok (.ifCond .eq 29, 3) := by decide +kernel
theorem d_Ty_partsSuit_46 : decode c_Ty_partsSuit 46 = .ok (.aload_n 0, 1) := by decide +kernel
theorem d_Ty_partsSuit_47 : decode c_Ty_partsSuit 47 = .ok (.getfield 21, 3) := by decide +kernel
theorem d_Ty_partsSuit_50 : decode c_Ty_partsSuit 50 = .ok (.iload_n 1, 1) := by decide +kernel
theorem d_Ty_partsSuit_51 : decode c_Ty_partsSuit 51 = .ok (.invokevirtual 31, 3) := by decide +kernel
theorem d_Ty_partsSuit_54 : decode c_Ty_partsSuit 54 = .ok (.aload_n 0, 1) := by decide +kernel
theorem d_Ty_partsSuit_55 : decode c_Ty_partsSuit 55 = .ok (.getfield 21, 3) := by decide +kernel
theorem d_Ty_partsSuit_58 : decode c_Ty_partsSuit 58 = .ok (.iload_n 2, 1) := by decide +kernel
theorem d_Ty_partsSuit_59 : decode c_Ty_partsSuit 59 = .ok (.invokevirtual 31, 3) := by decide +kernel
theorem d_Ty_partsSuit_62 : decode c_Ty_partsSuit 62 = .ok (.invokestatic 54, 3) := by decide +kernel
theorem d_Ty_partsSuit_65 : decode c_Ty_partsSuit 65 = .ok (.ifCond .eq 7, 3) := by decide +kernel
theorem d_Ty_partsSuit_68 : decode c_Ty_partsSuit 68 = .ok (.iconst 1, 1) := by decide +kernel
theorem d_Ty_partsSuit_69 : decode c_Ty_partsSuit 69 = .ok (.goto 4, 3) := by decide +kernel
theorem d_Ty_partsSuit_72 : decode c_Ty_partsSuit 72 = .ok (.iconst 0, 1) := by decide +kernel
theorem d_Ty_partsSuit_73 : decode c_Ty_partsSuit 73 = .ok (.ireturn, 1) := by decide +kernel
theorem d_Ty_write_0 : decode c_Ty_write 0 = .ok (.iload_n 1, 1) := by decide +kernel
theorem d_Ty_write_1 : decode c_Ty_write 1 = .ok (.bipush 16, 2) := by decide +kernel
theorem d_Ty_write_3 : decode c_Ty_write 3 = .ok (.imul, 1) := by decide +kernel
theorem d_Ty_write_4 : decode c_Ty_write 4 = .ok (.iload_n 2, 1) := by decide +kernel
theorem d_Ty_write_5 : decode c_Ty_write 5 = .ok (.bipush 32, 2) := by decide +kernel
theorem d_Ty_write_7 : decode c_Ty_write 7 = .ok (.idiv, 1) := by decide +kernel
theorem d_Ty_write_8 : decode c_Ty_write 8 = .ok (.iadd, 1) := by decide +kernel
theorem d_Ty_write_9 : decode c_Ty_write 9 = .ok (.istore 4, 2) := by decide +kernel
theorem d_Ty_write_11 : decode c_Ty_write 11 = .ok (.iconst 1, 1) := by decide +kernel
theorem d_Ty_write_12 : decode c_Ty_write 12 = .ok (.iload_n 2, 1) := by decide +kernel
theorem d_Ty_write_13 : decode c_Ty_write 13 = .ok (.bipush 32, 2) := by decide +kernel
theorem d_Ty_write_15 : decode c_Ty_write 15 = .ok (.irem, 1) := by decide +kernel
theorem d_Ty_write_16 : decode c_Ty_write 16 = .ok (.ishl, 1) := by decide +kernel
theorem d_Ty_write_17 : decode c_Ty_write 17 = .ok (.istore 5, 2) := by decide +kernel
theorem d_Ty_write_19 : decode c_Ty_write 19 = .ok (.aload_n 0, 1) := by decide +kernel
theorem d_Ty_write_20 : decode c_Ty_write 20 = .ok (.getfield 24, 3) := by decide +kernel
theorem d_Ty_write_23 : decode c_Ty_write 23 = .ok (.iload 4, 2) := by decide +kernel
theorem d_Ty_write_25 : decode c_Ty_write 25 = .ok (.iload_n 3, 1) := by decide +kernel
theorem d_Ty_write_26 : decode c_Ty_write 26 = .ok (.ifCond .eq 18, 3) := by decide +kernel
theorem d_Ty_write_29 : decode c_Ty_write 29 = .ok (.aload_n 0, 1) := by decide +kernel
theorem d_Ty_write_30 : decode c_Ty_write 30 = .ok (.getfield 24, 3) := by decide +kernel
theorem d_Ty_write_33 : decode c_Ty_write 33 = .ok (.iload 4, 2) := by decide +kernel
theorem d_Ty_write_35 : decode c_Ty_write 35 = .ok (.invokevirtual 31, 3) := by decide +kernel
theorem d_Ty_write_38 : decode c_Ty_write 38 = .ok (.iload 5, 2) := by decide +kernel
theorem d_Ty_write_40 : decode c_Ty_write 40 = .ok (.ior, 1) := by decide +kernel
theorem d_Ty_write_41 : decode c_Ty_write 41 = .ok (.goto 17, 3) := by decide +kernel
theorem d_Ty_write_44 : decode c_Ty_write 44 = .ok (.aload_n 0, 1) := by decide +kernel
theorem d_Ty_write_45 : decode c_Ty_write 45 = .ok (.getfield 24, 3) := by decide +kernel
theorem d_Ty_write_48 : decode c_Ty_write 48 = .ok (.iload 4, 2) := by decide +kernel
theorem d_Ty_write_50 : decode c_Ty_write 50 = .ok (.invokevirtual 31, 3) := by decide +kernel
theorem d_Ty_write_53 : decode c_Ty_write 53 = .ok (.iload 5, 2) := by decide +kernel
theorem d_Ty_write_55 : decode c_Ty_write 55 = .ok (.iconst (-1), 1) := by decide +kernel
theorem d_Ty_write_56 : decode c_Ty_write 56 = .ok (.ixor, 1) := by decide +kernel
theorem d_Ty_write_57 : decode c_Ty_write 57 = .ok (.iand, 1) := by decide +kernel
theorem d_Ty_write_58 : decode c_Ty_write 58 = .ok (.invokevirtual 39, 3) := by decide +kernel
theorem d_Ty_write_61 : decode c_Ty_write 61 = .ok (.return_, 1) := by decide +kernel
theorem d_AL_init_0 : decode c_AL_init 0 = .ok (.aload_n 0, 1) := by decide +kernel
theorem d_AL_init_1 : decode c_AL_init 1 = .ok (.invokespecial 1, 3) := by decide +kernel
theorem d_AL_init_4 : decode c_AL_init 4 = .ok (.aload_n 0, 1) := by decide +kernel
theorem d_AL_init_5 : decode c_AL_init 5 = .ok (.getstatic 39, 3) := by decide +kernel
theorem d_AL_init_8 : decode c_AL_init 8 = .ok (.putfield 9, 3) := by decide +kernel
theorem d_AL_init_11 : decode c_AL_init 11 = .ok (.return_, 1) := by decide +kernel
theorem d_AbL_init_0 : decode c_AbL_init 0 = .ok (.aload_n 0, 1) := by decide +kernel
theorem d_AbL_init_1 : decode c_AbL_init 1 = .ok (.invokespecial 1, 3) := by decide +kernel
theorem d_AbL_init_4 : decode c_AbL_init 4 = .ok (.aload_n 0, 1) := by decide +kernel
theorem d_AbL_init_5 : decode c_AbL_init 5 = .ok (.iconst 0, 1) := by decide +kernel
theorem d_AbL_init_6 : decode c_AbL_init 6 = .ok (.putfield 7, 3) := by decide +kernel
theorem d_AbL_init_9 : decode c_AbL_init 9 = .ok (.return_, 1) := by decide +kernel
theorem d_AbC_init_0 : decode c_AbC_init 0 = .ok (.aload_n 0, 1) := by decide +kernel
theorem d_AbC_init_1 : decode c_AbC_init 1 = .ok (.invokespecial 1, 3) := by decide +kernel
theorem d_AbC_init_4 : decode c_AbC_init 4 = .ok (.return_, 1) := by decide +kernel
theorem d_Ar_fill_0 : decode c_Ar_fill 0 = .ok (.iconst 0, 1) := by decide +kernel
theorem d_Ar_fill_1 : decode c_Ar_fill 1 = .ok (.istore_n 2, 1) := by decide +kernel
theorem d_Ar_fill_2 : decode c_Ar_fill 2 = .ok (.aload_n 0, 1) := by decide +kernel
theorem d_Ar_fill_3 : decode c_Ar_fill 3 = .ok (.arraylength, 1) := by decide +kernel
theorem d_Ar_fill_4 : decode c_Ar_fill 4 = .ok (.istore_n 3, 1) := by decide +kernel
theorem d_Ar_fill_5 : decode c_Ar_fill 5 = .ok (.iload_n 2, 1) := by decide +kernel
theorem d_Ar_fill_6 : decode c_Ar_fill 6 = .ok (.iload_n 3, 1) := by decide +kernel
theorem d_Ar_fill_7 : decode c_Ar_fill 7 = .ok (.if_icmp .ge 13, 3) := by decide +kernel
theorem d_Ar_fill_10 : decode c_Ar_fill 10 = .ok (.aload_n 0, 1) := by decide +kernel
theorem d_Ar_fill_11 : decode c_Ar_fill 11 = .ok (.iload_n 2, 1) := by decide +kernel
theorem d_Ar_fill_12 : decode c_Ar_fill 12 = .ok (.iload_n 1, 1) := by decide +kernel
theorem d_Ar_fill_13 : decode c_Ar_fill 13 = .ok (.iastore, 1) := by decide +kernel
theorem d_Ar_fill_14 : decode c_Ar_fill 14 = .ok (.iinc 2 1, 3) := by decide +kernel
theorem d_Ar_fill_17 : decode c_Ar_fill 17 = .ok (.goto (-12), 3) := by decide +kernel
theorem d_Ar_fill_20 : decode c_Ar_fill 20 = .ok (.return_, 1) := by decide +kernel
theorem d_Ar_copyOf_0 : decode c_Ar_copyOf 0 = .ok (.iload_n 1, 1) := by decide +kernel
theorem d_Ar_copyOf_1 : decode c_Ar_copyOf 1 = .ok (.aload_n 0, 1) := by decide +kernel
theorem d_Ar_copyOf_2 : decode c_Ar_copyOf 2 = .ok (.arraylength, 1) := by decide +kernel
theorem d_Ar_copyOf_3 : decode c_Ar_copyOf 3 = .ok (.if_icmp .ne 11, 3) := by decide +kernel
theorem d_Ar_copyOf_6 : decode c_Ar_copyOf 6 = .ok (.aload_n 0, 1) := by decide +kernel
theorem d_Ar_copyOf_7 : decode c_Ar_copyOf 7 = .ok (.invokevirtual 316, 3) := by decide +kernel
theorem d_Ar_copyOf_10 : decode c_Ar_copyOf 10 = .ok (.checkcast 317, 3) := by decide +kernel
theorem d_Ar_copyOf_13 : decode c_Ar_copyOf 13 = .ok (.areturn, 1) := by decide +kernel
theorem d_Ar_copyOf_14 : decode c_Ar_copyOf 14 = .ok (.iload_n 1, 1) := by decide +kernel
theorem d_Ar_copyOf_15 : decode c_Ar_copyOf 15 = .ok (.newarray .int, 2) := by decide +kernel
theorem d_Ar_copyOf_17 : decode c_Ar_copyOf 17 = .ok (.astore_n 2, 1) := by decide +kernel
theorem d_Ar_copyOf_18 : decode c_Ar_copyOf 18 = .ok (.aload_n 0, 1) := by decide +kernel
theorem d_Ar_copyOf_19 : decode c_Ar_copyOf 19 = .ok (.iconst 0, 1) := by decide +kernel
theorem d_Ar_copyOf_20 : decode c_Ar_copyOf 20 = .ok (.aload_n 2, 1) := by decide +kernel
theorem d_Ar_copyOf_21 : decode c_Ar_copyOf 21 = .ok (.iconst 0, 1) := by decide +kernel
theorem d_Ar_copyOf_22 : decode c_Ar_copyOf 22 = .ok (.aload_n 0, 1) := by decide +kernel
theorem d_Ar_copyOf_23 : decode c_Ar_copyOf 23 = .ok (.arraylength, 1) := by decide +kernel
theorem d_Ar_copyOf_24 : decode c_Ar_copyOf 24 = .ok (.iload_n 1, 1) := by decide +kernel
theorem d_Ar_copyOf_25 : decode c_Ar_copyOf 25 = .ok (.invokestatic 304, 3) := by decide +kernel
theorem d_Ar_copyOf_28 : decode c_Ar_copyOf 28 = .ok (.invokestatic 150, 3) := by decide +kernel
theorem d_Ar_copyOf_31 : decode c_Ar_copyOf 31 = .ok (.aload_n 2, 1) := by decide +kernel
theorem d_Ar_copyOf_32 : decode c_Ar_copyOf 32 = .ok (.areturn, 1) := by decide +kernel
theorem d_AL_size_0 : decode c_AL_size 0 = .ok (.aload_n 0, 1) := by decide +kernel
theorem d_AL_size_1 : decode c_AL_size 1 = .ok (.getfield 48, 3) := by decide +kernel
theorem d_AL_size_4 : decode c_AL_size 4 = .ok (.ireturn, 1) := by decide +kernel
theorem d_AL_add_0 : decode c_AL_add 0 = .ok (.aload_n 0, 1) := by decide +kernel
theorem d_AL_add_1 : decode c_AL_add 1 = .ok (.dup, 1) := by decide +kernel
theorem d_AL_add_2 : decode c_AL_add 2 = .ok (.getfield 63, 3) := by decide +kernel
theorem d_AL_add_5 : decode c_AL_add 5 = .ok (.iconst 1, 1) := by decide +kernel
theorem d_AL_add_6 : decode c_AL_add 6 = .ok (.iadd, 1) := by decide +kernel
theorem d_AL_add_7 : decode c_AL_add 7 = .ok (.putfield 63, 3) := by decide +kernel
theorem d_AL_add_10 : decode c_AL_add 10 = .ok (.aload_n 0, 1) := by decide +kernel
theorem d_AL_add_11 : decode c_AL_add 11 = .ok (.aload_n 1, 1) := by decide +kernel
theorem d_AL_add_12 : decode c_AL_add 12 = .ok (.aload_n 0, 1) := by decide +kernel
theorem d_AL_add_13 : decode c_AL_add 13 = .ok (.getfield 9, 3) := by decide +kernel
theorem d_AL_add_16 : decode c_AL_add 16 = .ok (.aload_n 0, 1) := by decide +kernel
theorem d_AL_add_17 : decode c_AL_add 17 = .ok (.getfield 48, 3) := by decide +kernel
theorem d_AL_add_20 : decode c_AL_add 20 = .ok (.invokevirtual 131, 3) := by decide +kernel
theorem d_AL_add_23 : decode c_AL_add 23 = .ok (.iconst 1, 1) := by decide +kernel
theorem d_AL_add_24 : decode c_AL_add 24 = .ok (.ireturn, 1) := by decide +kernel
theorem d_AL_add2_0 : decode c_AL_add2 0 = .ok (.iload_n 3, 1) := by decide +kernel
theorem d_AL_add2_1 : decode c_AL_add2 1 = .ok (.aload_n 2, 1) := by decide +kernel
theorem d_AL_add2_2 : decode c_AL_add2 2 = .ok (.arraylength, 1) := by decide +kernel
theorem d_AL_add2_3 : decode c_AL_add2 3 = .ok (.if_icmp .ne 8, 3) := by decide +kernel
theorem d_AL_add2_6 : decode c_AL_add2 6 = .ok (.aload_n 0, 1) := by decide +kernel
theorem d_AL_add2_7 : decode c_AL_add2 7 = .ok (.invokevirtual 129, 3) := by decide +kernel
theorem d_AL_add2_10 : decode c_AL_add2 10 = .ok (.astore_n 2, 1) := by decide +kernel
theorem d_AL_add2_11 : decode c_AL_add2 11 = .ok (.aload_n 2, 1) := by decide +kernel
theorem d_AL_add2_12 : decode c_AL_add2 12 = .ok (.iload_n 3, 1) := by decide +kernel
theorem d_AL_add2_13 : decode c_AL_add2 13 = .ok (.aload_n 1, 1) := by decide +kernel
theorem d_AL_add2_14 : decode c_AL_add2 14 = .ok (.aastore, 1) := by decide +kernel
theorem d_AL_add2_15 : decode c_AL_add2 15 = .ok (.aload_n 0, 1) := by decide +kernel
theorem d_AL_add2_16 : decode c_AL_add2 16 = .ok (.iload_n 3, 1) := by decide +kernel
theorem d_AL_add2_17 : decode c_AL_add2 17 = .ok (.iconst 1, 1) := by decide +kernel
theorem d_AL_add2_18 : decode c_AL_add2 18 = .ok (.iadd, 1) := by decide +kernel
theorem d_AL_add2_19 : decode c_AL_add2 19 = .ok (.putfield 48, 3) := by decide +kernel
theorem d_AL_add2_22 : decode c_AL_add2 22 = .ok (.return_, 1) := by decide +kernel
theorem d_AL_grow_0 : decode c_AL_grow 0 = .ok (.aload_n 0, 1) := by decide +kernel
theorem d_AL_grow_1 : decode c_AL_grow 1 = .ok (.aload_n 0, 1) := by decide +kernel
theorem d_AL_grow_2 : decode c_AL_grow 2 = .ok (.getfield 48, 3) := by decide +kernel
theorem d_AL_grow_5 : decode c_AL_grow 5 = .ok (.iconst 1, 1) := by decide +kernel
theorem d_AL_grow_6 : decode c_AL_grow 6 = .ok (.iadd, 1) := by decide +kernel
theorem d_AL_grow_7 : decode c_AL_grow 7 = .ok (.invokevirtual 69, 3) := by decide +kernel
theorem d_AL_grow_10 : decode c_AL_grow 10 = .ok (.areturn, 1) := by decide +kernel
theorem d_AL_grow2_0 : decode c_AL_grow2 0 = .ok (.aload_n 0, 1) := by decide +kernel
theorem d_AL_grow2_1 : decode c_AL_grow2 1 = .ok (.getfield 9, 3) := by decide +kernel
theorem d_AL_grow2_4 : decode c_AL_grow2 4 = .ok (.arraylength, 1) := by decide +kernel
theorem d_AL_grow2_5 : decode c_AL_grow2 5 = .ok (.istore_n 2, 1) := by decide +kernel
theorem d_AL_grow2_6 : decode c_AL_grow2 6 = .ok (.iload_n 2, 1) := by decide +kernel
theorem d_AL_grow2_7 : decode c_AL_grow2 7 = .ok (.ifCond .gt 13, 3) := by decide +kernel
theorem d_AL_grow2_10 : decode c_AL_grow2 10 = .ok (.aload_n 0, 1) := by decide +kernel
theorem d_AL_grow2_11 : decode c_AL_grow2 11 = .ok (.getfield 9, 3) := by decide +kernel
theorem d_AL_grow2_14 : decode c_AL_grow2 14 = .ok (.getstatic 39, 3) := by decide +kernel
theorem d_AL_grow2_17 : decode c_AL_grow2 17 = .ok (.if_acmp .eq 28, 3) := by decide +kernel
theorem d_AL_grow2_20 : decode c_AL_grow2 20 = .ok (.iload_n 2, 1) := by decide +kernel
theorem d_AL_grow2_21 : decode c_AL_grow2 21 = .ok (.iload_n 1, 1) := by decide +kernel
theorem d_AL_grow2_22 : decode c_AL_grow2 22 = .ok (.iload_n 2, 1) := by decide +kernel
theorem d_AL_grow2_23 : decode c_AL_grow2 23 = .ok (.isub, 1) := by decide +kernel
theorem d_AL_grow2_24 : decode c_AL_grow2 24 = .ok (.iload_n 2, 1) := by decide +kernel
theorem d_AL_grow2_25 : decode c_AL_grow2 25 = .ok (.iconst 1, 1) := by decide +kernel
theorem d_AL_grow2_26 : decode c_AL_grow2 26 = .ok (.ishr, 1) := by decide +kernel
theorem d_AL_grow2_27 : decode c_AL_grow2 27 = .ok (.invokestatic 73, 3) := by decide +kernel
theorem d_AL_grow2_30 : decode c_AL_grow2 30 = .ok (.istore_n 3, 1) := by decide +kernel
theorem d_AL_grow2_31 : decode c_AL_grow2 31 = .ok (.aload_n 0, 1) := by decide +kernel
theorem d_AL_grow2_32 : decode c_AL_grow2 32 = .ok (.aload_n 0, 1) := by decide +kernel
theorem d_AL_grow2_33 : decode c_AL_grow2 33 = .ok (.getfield 9, 3) := by decide +kernel
theorem d_AL_grow2_36 : decode c_AL_grow2 36 = .ok (.iload_n 3, 1) := by decide +kernel
theorem d_AL_grow2_37 : decode c_AL_grow2 37 = .ok (.invokestatic 66, 3) := by decide +kernel
theorem d_AL_grow2_40 : decode c_AL_grow2 40 = .ok (.dup_x1, 1) := by decide +kernel
theorem d_AL_grow2_41 : decode c_AL_grow2 41 = .ok (.putfield 9, 3) := by decide +kernel
theorem d_AL_grow2_44 : decode c_AL_grow2 44 = .ok (.areturn, 1) := by decide +kernel
theorem d_AL_grow2_45 : decode c_AL_grow2 45 = .ok (.aload_n 0, 1) := by decide +kernel
theorem d_AL_grow2_46 : decode c_AL_grow2 46 = .ok (.bipush 10, 2) := by decide +kernel
theorem d_AL_grow2_48 : decode c_AL_grow2 48 = .ok (.iload_n 1, 1) := by decide +kernel
theorem d_AL_grow2_49 : decode c_AL_grow2 49 = .ok (.invokestatic 79, 3) := by decide +kernel
theorem d_AL_grow2_52 : decode c_AL_grow2 52 = .ok (.anewarray 7, 3) := by decide +kernel
theorem d_AL_grow2_55 : decode c_AL_grow2 55 = .ok (.dup_x1, 1) := by decide +kernel
theorem d_AL_grow2_56 : decode c_AL_grow2 56 = .ok (.putfield 9, 3) := by decide +kernel
theorem d_AL_grow2_59 : decode c_AL_grow2 59 = .ok (.areturn, 1) := by decide +kernel
theorem d_ArraysSupport_newLength_0 : decode c_ArraysSupport_newLength 0 = .ok (.iload_n 0, 1) := by decide +kernel
theorem d_ArraysSupport_newLength_1 : decode c_ArraysSupport_newLength 1 = .ok (.iload_n 1, 1) := by decide +kernel
theorem d_ArraysSupport_newLength_2 : decode c_ArraysSupport_newLength 2 = .ok (.iload_n 2, 1) := by decide +kernel
theorem d_ArraysSupport_newLength_3 : decode c_ArraysSupport_newLength 3 = .ok (.invokestatic 194, 3) := by decide +kernel
theorem d_ArraysSupport_newLength_6 : decode c_ArraysSupport_newLength 6 = .ok (.iadd, 1) := by decide +kernel
theorem d_ArraysSupport_newLength_7 : decode c_ArraysSupport_newLength 7 = .ok (.istore_n 3, 1) := by decide +kernel
theorem d_ArraysSupport_newLength_8 : decode c_ArraysSupport_newLength 8 = .ok (.iconst 0, 1) := by decide +kernel
theorem d_ArraysSupport_newLength_9 : decode c_ArraysSupport_newLength 9 = .ok (.iload_n 3, 1) := by decide +kernel
theorem d_ArraysSupport_newLength_10 : decode c_ArraysSupport_newLength 10 = .ok (.if_icmp .ge 11, 3) := by decide +kernel
theorem d_ArraysSupport_newLength_13 : decode c_ArraysSupport_newLength 13 = .ok (.iload_n 3, 1) := by decide +kernel
theorem d_ArraysSupport_newLength_14 : decode c_ArraysSupport_newLength 14 = .ok (.ldc 200, 2) := by decide +kernel
theorem d_ArraysSupport_newLength_16 : decode c_ArraysSupport_newLength 16 = .ok (.if_icmp .gt 5, 3) := by decide +kernel
theorem d_ArraysSupport_newLength_19 : decode c_ArraysSupport_newLength 19 = .ok (.iload_n 3, 1) := by decide +kernel
theorem d_ArraysSupport_newLength_20 : decode c_ArraysSupport_newLength 20 = .ok (.ireturn, 1) := by decide +kernel
theorem d_ArraysSupport_newLength_21 : decode c_ArraysSupport_newLength 21 = .ok (.iload_n 0, 1) := by decide +kernel
theorem d_ArraysSupport_newLength_22 : decode c_ArraysSupport_newLength 22 = .ok (.iload_n 1, 1) := by decide +kernel
theorem d_ArraysSupport_newLength_23 : decode c_ArraysSupport_newLength 23 = .ok (.invokestatic 201, 3) := by decide +kernel
theorem d_ArraysSupport_newLength_26 : decode c_ArraysSupport_newLength 26 = .ok (.ireturn, 1) := by decide +kernel
theorem d_ArraysSupport_hugeLength_0 : decode c_ArraysSupport_hugeLength 0 = .ok (.iload_n 0, 1) := by decide +kernel
theorem d_ArraysSupport_hugeLength_1 : decode c_ArraysSupport_hugeLength 1 = .ok (.iload_n 1, 1) := by decide +kernel
theorem d_ArraysSupport_hugeLength_2 : decode c_ArraysSupport_hugeLength 2 = .ok (.iadd, 1) := by decide +kernel
theorem d_ArraysSupport_hugeLength_3 : decode c_ArraysSupport_hugeLength 3 = .ok (.istore_n 2, 1) := by decide +kernel
theorem d_ArraysSupport_hugeLength_4 : decode c_ArraysSupport_hugeLength 4 = .ok (.iload_n 2, 1) := by decide +kernel
theorem d_ArraysSupport_hugeLength_5 : decode c_ArraysSupport_hugeLength 5 = .ok (.ifCond .ge 44, 3) := by decide +kernel
theorem d_ArraysSupport_hugeLength_8 : decode c_ArraysSupport_hugeLength 8 = .ok (.new 204, 3) := by decide +kernel
theorem d_ArraysSupport_hugeLength_11 : decode c_ArraysSupport_hugeLength 11 = .ok (.dup, 1) := by decide +kernel
theorem d_ArraysSupport_hugeLength_12 : decode c_ArraysSupport_hugeLength 12 = .ok (.new 89, 3) := by decide +kernel
theorem d_ArraysSupport_hugeLength_15 : decode c_ArraysSupport_hugeLength 15 = .ok (.dup, 1) := by decide +kernel
theorem d_ArraysSupport_hugeLength_16 : decode c_ArraysSupport_hugeLength 16 = .ok (.invokespecial 91, 3) := by decide +kernel
theorem d_ArraysSupport_hugeLength_19 : decode c_ArraysSupport_hugeLength 19 = .ok (.ldc 206, 2) := by decide +kernel
theorem d_ArraysSupport_hugeLength_21 : decode c_ArraysSupport_hugeLength 21 = .ok (.invokevirtual 94, 3) := by decide +kernel
theorem d_ArraysSupport_hugeLength_24 : decode c_ArraysSupport_hugeLength 24 = .ok (.iload_n 0, 1) := by decide +kernel
theorem d_ArraysSupport_hugeLength_25 : decode c_ArraysSupport_hugeLength 25 = .ok (.invokevirtual 98, 3) := by decide +kernel
theorem d_ArraysSupport_hugeLength_28 : decode c_ArraysSupport_hugeLength 28 = .ok (.ldc 208, 2) := by decide +kernel
theorem d_ArraysSupport_hugeLength_30 : decode c_ArraysSupport_hugeLength 30 = .ok (.invokevirtual 94, 3) := by decide +kernel
theorem d_ArraysSupport_hugeLength_33 : decode c_ArraysSupport_hugeLength 33 = .ok (.iload_n 1, 1) := by decide +kernel
theorem d_ArraysSupport_hugeLength_34 : decode c_ArraysSupport_hugeLength 34 = .ok (.invokevirtual 98, 3) := by decide +kernel
theorem d_ArraysSupport_hugeLength_37 : decode c_ArraysSupport_hugeLength 37 = .ok (.ldc 210, 2) := by decide +kernel
theorem d_ArraysSupport_hugeLength_39 : decode c_ArraysSupport_hugeLength 39 = .ok (.invokevirtual 94, 3) := by decide +kernel
theorem d_ArraysSupport_hugeLength_42 : decode c_ArraysSupport_hugeLength 42 = .ok (.invokevirtual 101, 3) := by decide +kernel
theorem d_ArraysSupport_hugeLength_45 : decode c_ArraysSupport_hugeLength 45 = .ok (.invokespecial 212, 3) := by decide +kernel
theorem d_ArraysSupport_hugeLength_48 : decode c_ArraysSupport_hugeLength 48 = .ok (.athrow, 1) := by decide +kernel
theorem d_ArraysSupport_hugeLength_49 : decode c_ArraysSupport_hugeLength 49 = .ok (.iload_n 2, 1) := by decide +kernel
theorem d_ArraysSupport_hugeLength_50 : decode c_ArraysSupport_hugeLength 50 = .ok (.ldc 200, 2) := by decide +kernel
theorem d_ArraysSupport_hugeLength_52 : decode c_ArraysSupport_hugeLength 52 = .ok (.if_icmp .gt 6, 3) := by decide +kernel
theorem d_ArraysSupport_hugeLength_55 : decode c_ArraysSupport_hugeLength 55 = .ok (.ldc 200, 2) := by decide +kernel
theorem d_ArraysSupport_hugeLength_57 : decode c_ArraysSupport_hugeLength 57 = .ok (.ireturn, 1) := by decide +kernel
theorem d_ArraysSupport_hugeLength_58 : decode c_ArraysSupport_hugeLength 58 = .ok (.iload_n 2, 1) := by decide +kernel
theorem d_ArraysSupport_hugeLength_59 : decode c_ArraysSupport_hugeLength 59 = .ok (.ireturn, 1) := by decide +kernel
theorem d_Ar_copyOf2_0 : decode c_Ar_copyOf2 0 = .ok (.aload_n 0, 1) := by decide +kernel
theorem d_Ar_copyOf2_1 : decode c_Ar_copyOf2 1 = .ok (.iload_n 1, 1) := by decide +kernel
theorem d_Ar_copyOf2_2 : decode c_Ar_copyOf2 2 = .ok (.aload_n 0, 1) := by decide +kernel
theorem d_Ar_copyOf2_3 : decode c_Ar_copyOf2 3 = .ok (.invokevirtual 86, 3) := by decide +kernel
theorem d_Ar_copyOf2_6 : decode c_Ar_copyOf2 6 = .ok (.invokestatic 300, 3) := by decide +kernel
theorem d_Ar_copyOf2_9 : decode c_Ar_copyOf2 9 = .ok (.areturn, 1) := by decide +kernel
theorem d_Ar_copyOf3_0 : decode c_Ar_copyOf3 0 = .ok (.aload_n 2, 1) := by decide +kernel
theorem d_Ar_copyOf3_1 : decode c_Ar_copyOf3 1 = .ok (.ldc 110, 2) := by decide +kernel
theorem d_Ar_copyOf3_3 : decode c_Ar_copyOf3 3 = .ok (.if_acmp .ne 10, 3) := by decide +kernel
theorem d_Ar_copyOf3_6 : decode c_Ar_copyOf3 6 = .ok (.iload_n 1, 1) := by decide +kernel
theorem d_Ar_copyOf3_7 : decode c_Ar_copyOf3 7 = .ok (.anewarray 2, 3) := by decide +kernel
theorem d_Ar_copyOf3_10 : decode c_Ar_copyOf3 10 = .ok (.goto 14, 3) := by decide +kernel
theorem d_Ar_copyOf3_13 : decode c_Ar_copyOf3 13 = .ok (.aload_n 2, 1) := by decide +kernel
theorem d_Ar_copyOf3_14 : decode c_Ar_copyOf3 14 = .ok (.invokevirtual 90, 3) := by decide +kernel
theorem d_Ar_copyOf3_17 : decode c_Ar_copyOf3 17 = .ok (.iload_n 1, 1) := by decide +kernel
theorem d_Ar_copyOf3_18 : decode c_Ar_copyOf3 18 = .ok (.invokestatic 95, 3) := by decide +kernel
theorem d_Ar_copyOf3_21 : decode c_Ar_copyOf3 21 = .ok (.checkcast 110, 3) := by decide +kernel
theorem d_Ar_copyOf3_24 : decode c_Ar_copyOf3 24 = .ok (.astore_n 3, 1) := by decide +kernel
theorem d_Ar_copyOf3_25 : decode c_Ar_copyOf3 25 = .ok (.aload_n 0, 1) := by decide +kernel
theorem d_Ar_copyOf3_26 : decode c_Ar_copyOf3 26 = .ok (.iconst 0, 1) := by decide +kernel
theorem d_Ar_copyOf3_27 : decode c_Ar_copyOf3 27 = .ok (.aload_n 3, 1) := by decide +kernel
theorem d_Ar_copyOf3_28 : decode c_Ar_copyOf3 28 = .ok (.iconst 0, 1) := by decide +kernel
theorem d_Ar_copyOf3_29 : decode c_Ar_copyOf3 29 = .ok (.aload_n 0, 1) := by decide +kernel
theorem d_Ar_copyOf3_30 : decode c_Ar_copyOf3 30 = .ok (.arraylength, 1) := by decide +kernel
theorem d_Ar_copyOf3_31 : decode c_Ar_copyOf3 31 = .ok (.iload_n 1, 1) := by decide +kernel
theorem d_Ar_copyOf3_32 : decode c_Ar_copyOf3 32 = .ok (.invokestatic 304, 3) := by decide +kernel
theorem d_Ar_copyOf3_35 : decode c_Ar_copyOf3 35 = .ok (.invokestatic 150, 3) := by decide +kernel
theorem d_Ar_copyOf3_38 : decode c_Ar_copyOf3 38 = .ok (.aload_n 3, 1) := by decide +kernel
theorem d_Ar_copyOf3_39 : decode c_Ar_copyOf3 39 = .ok (.areturn, 1) := by decide +kernel
theorem d_AL_get_0 : decode c_AL_get 0 = .ok (.iload_n 1, 1) := by decide +kernel
theorem d_AL_get_1 : decode c_AL_get 1 = .ok (.aload_n 0, 1) := by decide +kernel
theorem d_AL_get_2 : decode c_AL_get 2 = .ok (.getfield 48, 3) := by decide +kernel
theorem d_AL_get_5 : decode c_AL_get 5 = .ok (.invokestatic 118, 3) := by decide +kernel
theorem d_AL_get_8 : decode c_AL_get 8 = .ok (.pop, 1) := by decide +kernel
theorem d_AL_get_9 : decode c_AL_get 9 = .ok (.aload_n 0, 1) := by decide +kernel
theorem d_AL_get_10 : decode c_AL_get 10 = .ok (.iload_n 1, 1) := by decide +kernel
theorem d_AL_get_11 : decode c_AL_get 11 = .ok (.invokevirtual 123, 3) := by decide +kernel
theorem d_AL_get_14 : decode c_AL_get 14 = .ok (.areturn, 1) := by decide +kernel
theorem d_Os_checkIndex_0 : decode c_Os_checkIndex 0 = .ok (.iload_n 0, 1) := by decide +kernel
theorem d_Os_checkIndex_1 : decode c_Os_checkIndex 1 = .ok (.iload_n 1, 1) := by decide +kernel
theorem d_Os_checkIndex_2 : decode c_Os_checkIndex 2 = .ok (.aconst_null, 1) := by decide +kernel
theorem d_Os_checkIndex_3 : decode c_Os_checkIndex 3 = .ok (.invokestatic 105, 3) := by decide +kernel
theorem d_Os_checkIndex_6 : decode c_Os_checkIndex 6 = .ok (.ireturn, 1) := by decide +kernel
theorem d_Preconditions_checkIndex_0 : decode c_Preconditions_checkIndex 0 = .ok (.iload_n 0, 1) := by decide +kernel
theorem d_Preconditions_checkIndex_1 : decode c_Preconditions_checkIndex 1 = .ok (.ifCond .lt 8, 3) := by decide +kernel
theorem d_Preconditions_checkIndex_4 : decode c_Preconditions_checkIndex 4 = .ok (.iload_n 0, 1) := by decide +kernel
theorem d_Preconditions_checkIndex_5 : decode c_Preconditions_checkIndex 5 = .ok (.iload_n 1, 1) := by decide +kernel
theorem d_Preconditions_checkIndex_6 : decode c_Preconditions_checkIndex 6 = .ok (.if_icmp .lt 10, 3) := by decide +kernel
theorem d_Preconditions_checkIndex_9 : decode c_Preconditions_checkIndex 9 = .ok (.aload_n 2, 1) := by decide +kernel
theorem d_Preconditions_checkIndex_10 : decode c_Preconditions_checkIndex 10 = .ok (.iload_n 0, 1) := by decide +kernel
theorem d_Preconditions_checkIndex_11 : decode c_Preconditions_checkIndex 11 = .ok (.iload_n 1, 1) := by decide +kernel
theorem d_Preconditions_checkIndex_12 : decode c_Preconditions_checkIndex 12 = .ok (.invokestatic 95, 3) := by decide +kernel
theorem d_Preconditions_checkIndex_15 : decode c_Preconditions_checkIndex 15 = .ok (.athrow, 1) := by decide +kernel
theorem d_Preconditions_checkIndex_16 : decode c_Preconditions_checkIndex 16 = .ok (.iload_n 0, 1) := by decide +kernel
theorem d_Preconditions_checkIndex_17 : decode c_Preconditions_checkIndex 17 = .ok (.ireturn, 1) := by decide +kernel
theorem d_AL_elementData_0 : decode c_AL_elementData 0 = .ok (.aload_n 0, 1) := by decide +kernel
theorem d_AL_elementData_1 : decode c_AL_elementData 1 = .ok (.getfield 9, 3) := by decide +kernel
theorem d_AL_elementData_4 : decode c_AL_elementData 4 = .ok (.iload_n 1, 1) := by decide +kernel
theorem d_AL_elementData_5 : decode c_AL_elementData 5 = .ok (.aaload, 1) := by decide +kernel
theorem d_AL_elementData_6 : decode c_AL_elementData 6 = .ok (.areturn, 1) := by decide +kernel
