/-! decode rows: by program -/
theorem d_L_function_0 : decode c_L_function 0 = .ok (.aload 4, 2) := by decide +kernel
theorem d_L_function_2 : decode c_L_function 2 = .ok (.iconst 0, 1) := by decide +kernel
theorem d_L_function_3 : decode c_L_function 3 = .ok (.aload_n 0, 1) := by decide +kernel
theorem d_L_function_4 : decode c_L_function 4 = .ok (.iload_n 1, 1) := by decide +kernel
theorem d_L_function_5 : decode c_L_function 5 = .ok (.iload_n 2, 1) := by decide +kernel
theorem d_L_function_6 : decode c_L_function 6 = .ok (.iload_n 3, 1) := by decide +kernel
theorem d_L_function_7 : decode c_L_function 7 = .ok (.invokevirtual 7, 3) := by decide +kernel
theorem d_L_function_10 : decode c_L_function 10 = .ok (.i2l, 1) := by decide +kernel
theorem d_L_function_11 : decode c_L_function 11 = .ok (.lastore, 1) := by decide +kernel
theorem d_L_function_12 : decode c_L_function 12 = .ok (.goto 11, 3) := by decide +kernel
theorem d_L_function_15 : decode c_L_function 15 = .ok (.astore 5, 2) := by decide +kernel
theorem d_L_function_17 : decode c_L_function 17 = .ok (.iconst 1, 1) := by decide +kernel
theorem d_L_function_18 : decode c_L_function 18 = .ok (.ireturn, 1) := by decide +kernel
theorem d_L_function_19 : decode c_L_function 19 = .ok (.astore 5, 2) := by decide +kernel
theorem d_L_function_21 : decode c_L_function 21 = .ok (.iconst 2, 1) := by decide +kernel
theorem d_L_function_22 : decode c_L_function 22 = .ok (.ireturn, 1) := by decide +kernel
theorem d_L_function_23 : decode c_L_function 23 = .ok (.iconst 0, 1) := by decide +kernel
theorem d_L_function_24 : decode c_L_function 24 = .ok (.ireturn, 1) := by decide +kernel
theorem d_L_effect_0 : decode c_L_effect 0 = .ok (.aload_n 0, 1) := by decide +kernel
theorem d_L_effect_1 : decode c_L_effect 1 = .ok (.iload_n 1, 1) := by decide +kernel
theorem d_L_effect_2 : decode c_L_effect 2 = .ok (.iload_n 2, 1) := by decide +kernel
theorem d_L_effect_3 : decode c_L_effect 3 = .ok (.iload_n 3, 1) := by decide +kernel
theorem d_L_effect_4 : decode c_L_effect 4 = .ok (.invokevirtual 17, 3) := by decide +kernel
theorem d_L_effect_7 : decode c_L_effect 7 = .ok (.goto 7, 3) := by decide +kernel
theorem d_L_effect_10 : decode c_L_effect 10 = .ok (.astore 4, 2) := by decide +kernel
theorem d_L_effect_12 : decode c_L_effect 12 = .ok (.iconst 1, 1) := by decide +kernel
theorem d_L_effect_13 : decode c_L_effect 13 = .ok (.ireturn, 1) := by decide +kernel
theorem d_L_effect_14 : decode c_L_effect 14 = .ok (.iconst 0, 1) := by decide +kernel
theorem d_L_effect_15 : decode c_L_effect 15 = .ok (.ireturn, 1) := by decide +kernel
theorem d_L_atom_0 : decode c_L_atom 0 = .ok (.aload_n 3, 1) := by decide +kernel
theorem d_L_atom_1 : decode c_L_atom 1 = .ok (.iconst 0, 1) := by decide +kernel
theorem d_L_atom_2 : decode c_L_atom 2 = .ok (.aload_n 0, 1) := by decide +kernel
theorem d_L_atom_3 : decode c_L_atom 3 = .ok (.iload_n 1, 1) := by decide +kernel
theorem d_L_atom_4 : decode c_L_atom 4 = .ok (.iload_n 2, 1) := by decide +kernel
theorem d_L_atom_5 : decode c_L_atom 5 = .ok (.invokevirtual 21, 3) := by decide +kernel
theorem d_L_atom_8 : decode c_L_atom 8 = .ok (.i2l, 1) := by decide +kernel
theorem d_L_atom_9 : decode c_L_atom 9 = .ok (.lastore, 1) := by decide +kernel
theorem d_L_atom_10 : decode c_L_atom 10 = .ok (.goto 11, 3) := by decide +kernel
theorem d_L_atom_13 : decode c_L_atom 13 = .ok (.astore 4, 2) := by decide +kernel
theorem d_L_atom_15 : decode c_L_atom 15 = .ok (.iconst 1, 1) := by decide +kernel
theorem d_L_atom_16 : decode c_L_atom 16 = .ok (.ireturn, 1) := by decide +kernel
theorem d_L_atom_17 : decode c_L_atom 17 = .ok (.astore 4, 2) := by decide +kernel
theorem d_L_atom_19 : decode c_L_atom 19 = .ok (.iconst 2, 1) := by decide +kernel
theorem d_L_atom_20 : decode c_L_atom 20 = .ok (.ireturn, 1) := by decide +kernel
theorem d_L_atom_21 : decode c_L_atom 21 = .ok (.iconst 0, 1) := by decide +kernel
theorem d_L_atom_22 : decode c_L_atom 22 = .ok (.ireturn, 1) := by decide +kernel
theorem d_L_let_0 : decode c_L_let 0 = .ok (.aload 4, 2) := by decide +kernel
theorem d_L_let_2 : decode c_L_let 2 = .ok (.iconst 0, 1) := by decide +kernel
theorem d_L_let_3 : decode c_L_let 3 = .ok (.aload_n 0, 1) := by decide +kernel
theorem d_L_let_4 : decode c_L_let 4 = .ok (.iload_n 1, 1) := by decide +kernel
theorem d_L_let_5 : decode c_L_let 5 = .ok (.iload_n 2, 1) := by decide +kernel
theorem d_L_let_6 : decode c_L_let 6 = .ok (.iload_n 3, 1) := by decide +kernel
theorem d_L_let_7 : decode c_L_let 7 = .ok (.invokevirtual 25, 3) := by decide +kernel
theorem d_L_let_10 : decode c_L_let 10 = .ok (.i2l, 1) := by decide +kernel
theorem d_L_let_11 : decode c_L_let 11 = .ok (.lastore, 1) := by decide +kernel
theorem d_L_let_12 : decode c_L_let 12 = .ok (.goto 11, 3) := by decide +kernel
theorem d_L_let_15 : decode c_L_let 15 = .ok (.astore 5, 2) := by decide +kernel
theorem d_L_let_17 : decode c_L_let 17 = .ok (.iconst 1, 1) := by decide +kernel
theorem d_L_let_18 : decode c_L_let 18 = .ok (.ireturn, 1) := by decide +kernel
theorem d_L_let_19 : decode c_L_let 19 = .ok (.astore 5, 2) := by decide +kernel
theorem d_L_let_21 : decode c_L_let 21 = .ok (.iconst 2, 1) := by decide +kernel
theorem d_L_let_22 : decode c_L_let 22 = .ok (.ireturn, 1) := by decide +kernel
theorem d_L_let_23 : decode c_L_let 23 = .ok (.iconst 0, 1) := by decide +kernel
theorem d_L_let_24 : decode c_L_let 24 = .ok (.ireturn, 1) := by decide +kernel
theorem d_L_rec_0 : decode c_L_rec 0 = .ok (.aload 6, 2) := by decide +kernel
theorem d_L_rec_2 : decode c_L_rec 2 = .ok (.iconst 0, 1) := by decide +kernel
theorem d_L_rec_3 : decode c_L_rec 3 = .ok (.aload_n 0, 1) := by decide +kernel
theorem d_L_rec_4 : decode c_L_rec 4 = .ok (.iload_n 1, 1) := by decide +kernel
theorem d_L_rec_5 : decode c_L_rec 5 = .ok (.iload_n 2, 1) := by decide +kernel
theorem d_L_rec_6 : decode c_L_rec 6 = .ok (.iload_n 3, 1) := by decide +kernel
theorem d_L_rec_7 : decode c_L_rec 7 = .ok (.iload 4, 2) := by decide +kernel
theorem d_L_rec_9 : decode c_L_rec 9 = .ok (.iload 5, 2) := by decide +kernel
theorem d_L_rec_11 : decode c_L_rec 11 = .ok (.invokevirtual 28, 3) := by decide +kernel
theorem d_L_rec_14 : decode c_L_rec 14 = .ok (.i2l, 1) := by decide +kernel
theorem d_L_rec_15 : decode c_L_rec 15 = .ok (.lastore, 1) := by decide +kernel
theorem d_L_rec_16 : decode c_L_rec 16 = .ok (.goto 11, 3) := by decide +kernel
theorem d_L_rec_19 : decode c_L_rec 19 = .ok (.astore 7, 2) := by decide +kernel
theorem d_L_rec_21 : decode c_L_rec 21 = .ok (.iconst 1, 1) := by decide +kernel
theorem d_L_rec_22 : decode c_L_rec 22 = .ok (.ireturn, 1) := by decide +kernel
theorem d_L_rec_23 : decode c_L_rec 23 = .ok (.astore 7, 2) := by decide +kernel
theorem d_L_rec_25 : decode c_L_rec 25 = .ok (.iconst 2, 1) := by decide +kernel
theorem d_L_rec_26 : decode c_L_rec 26 = .ok (.ireturn, 1) := by decide +kernel
theorem d_L_rec_27 : decode c_L_rec 27 = .ok (.iconst 0, 1) := by decide +kernel
theorem d_L_rec_28 : decode c_L_rec 28 = .ok (.ireturn, 1) := by decide +kernel
theorem d_L_choice_0 : decode c_L_choice 0 = .ok (.aload 4, 2) := by decide +kernel
theorem d_L_choice_2 : decode c_L_choice 2 = .ok (.iconst 0, 1) := by decide +kernel
theorem d_L_choice_3 : decode c_L_choice 3 = .ok (.aload_n 0, 1) := by decide +kernel
theorem d_L_choice_4 : decode c_L_choice 4 = .ok (.iload_n 1, 1) := by decide +kernel
theorem d_L_choice_5 : decode c_L_choice 5 = .ok (.iload_n 2, 1) := by decide +kernel
theorem d_L_choice_6 : decode c_L_choice 6 = .ok (.iload_n 3, 1) := by decide +kernel
theorem d_L_choice_7 : decode c_L_choice 7 = .ok (.invokevirtual 32, 3) := by decide +kernel
theorem d_L_choice_10 : decode c_L_choice 10 = .ok (.i2l, 1) := by decide +kernel
theorem d_L_choice_11 : decode c_L_choice 11 = .ok (.lastore, 1) := by decide +kernel
theorem d_L_choice_12 : decode c_L_choice 12 = .ok (.goto 11, 3) := by decide +kernel
theorem d_L_choice_15 : decode c_L_choice 15 = .ok (.astore 5, 2) := by decide +kernel
theorem d_L_choice_17 : decode c_L_choice 17 = .ok (.iconst 1, 1) := by decide +kernel
theorem d_L_choice_18 : decode c_L_choice 18 = .ok (.ireturn, 1) := by decide +kernel
theorem d_L_choice_19 : decode c_L_choice 19 = .ok (.astore 5, 2) := by decide +kernel
theorem d_L_choice_21 : decode c_L_choice 21 = .ok (.iconst 2, 1) := by decide +kernel
theorem d_L_choice_22 : decode c_L_choice 22 = .ok (.ireturn, 1) := by decide +kernel
theorem d_L_choice_23 : decode c_L_choice 23 = .ok (.iconst 0, 1) := by decide +kernel
theorem d_L_choice_24 : decode c_L_choice 24 = .ok (.ireturn, 1) := by decide +kernel
theorem d_L_fn_0 : decode c_L_fn 0 = .ok (.aload 4, 2) := by decide +kernel
theorem d_L_fn_2 : decode c_L_fn 2 = .ok (.iconst 0, 1) := by decide +kernel
theorem d_L_fn_3 : decode c_L_fn 3 = .ok (.aload_n 0, 1) := by decide +kernel
theorem d_L_fn_4 : decode c_L_fn 4 = .ok (.iload_n 1, 1) := by decide +kernel
theorem d_L_fn_5 : decode c_L_fn 5 = .ok (.iload_n 2, 1) := by decide +kernel
theorem d_L_fn_6 : decode c_L_fn 6 = .ok (.iload_n 3, 1) := by decide +kernel
theorem d_L_fn_7 : decode c_L_fn 7 = .ok (.invokevirtual 35, 3) := by decide +kernel
theorem d_L_fn_10 : decode c_L_fn 10 = .ok (.i2l, 1) := by decide +kernel
theorem d_L_fn_11 : decode c_L_fn 11 = .ok (.lastore, 1) := by decide +kernel
theorem d_L_fn_12 : decode c_L_fn 12 = .ok (.goto 11, 3) := by decide +kernel
theorem d_L_fn_15 : decode c_L_fn 15 = .ok (.astore 5, 2) := by decide +kernel
theorem d_L_fn_17 : decode c_L_fn 17 = .ok (.iconst 1, 1) := by decide +kernel
theorem d_L_fn_18 : decode c_L_fn 18 = .ok (.ireturn, 1) := by decide +kernel
theorem d_L_fn_19 : decode c_L_fn 19 = .ok (.astore 5, 2) := by decide +kernel
theorem d_L_fn_21 : decode c_L_fn 21 = .ok (.iconst 2, 1) := by decide +kernel
theorem d_L_fn_22 : decode c_L_fn 22 = .ok (.ireturn, 1) := by decide +kernel
theorem d_L_fn_23 : decode c_L_fn 23 = .ok (.iconst 0, 1) := by decide +kernel
theorem d_L_fn_24 : decode c_L_fn 24 = .ok (.ireturn, 1) := by decide +kernel
theorem d_L_clause_0 : decode c_L_clause 0 = .ok (.aload 5, 2) := by decide +kernel
theorem d_L_clause_2 : decode c_L_clause 2 = .ok (.iconst 0, 1) := by decide +kernel
theorem d_L_clause_3 : decode c_L_clause 3 = .ok (.aload_n 0, 1) := by decide +kernel
theorem d_L_clause_4 : decode c_L_clause 4 = .ok (.iload_n 1, 1) := by decide +kernel
theorem d_L_clause_5 : decode c_L_clause 5 = .ok (.iload_n 2, 1) := by decide +kernel
theorem d_L_clause_6 : decode c_L_clause 6 = .ok (.iload_n 3, 1) := by decide +kernel
theorem d_L_clause_7 : decode c_L_clause 7 = .ok (.iload 4, 2) := by decide +kernel
theorem d_L_clause_9 : decode c_L_clause 9 = .ok (.invokevirtual 38, 3) := by decide +kernel
theorem d_L_clause_12 : decode c_L_clause 12 = .ok (.i2l, 1) := by decide +kernel
theorem d_L_clause_13 : decode c_L_clause 13 = .ok (.lastore, 1) := by decide +kernel
theorem d_L_clause_14 : decode c_L_clause 14 = .ok (.goto 11, 3) := by decide +kernel
theorem d_L_clause_17 : decode c_L_clause 17 = .ok (.astore 6, 2) := by decide +kernel
theorem d_L_clause_19 : decode c_L_clause 19 = .ok (.iconst 1, 1) := by decide +kernel
theorem d_L_clause_20 : decode c_L_clause 20 = .ok (.ireturn, 1) := by decide +kernel
theorem d_L_clause_21 : decode c_L_clause 21 = .ok (.astore 6, 2) := by decide +kernel
theorem d_L_clause_23 : decode c_L_clause 23 = .ok (.iconst 2, 1) := by decide +kernel
theorem d_L_clause_24 : decode c_L_clause 24 = .ok (.ireturn, 1) := by decide +kernel
theorem d_L_clause_25 : decode c_L_clause 25 = .ok (.iconst 0, 1) := by decide +kernel
theorem d_L_clause_26 : decode c_L_clause 26 = .ok (.ireturn, 1) := by decide +kernel
theorem d_L_handle_0 : decode c_L_handle 0 = .ok (.aload 5, 2) := by decide +kernel
theorem d_L_handle_2 : decode c_L_handle 2 = .ok (.iconst 0, 1) := by decide +kernel
theorem d_L_handle_3 : decode c_L_handle 3 = .ok (.aload_n 0, 1) := by decide +kernel
theorem d_L_handle_4 : decode c_L_handle 4 = .ok (.iload_n 1, 1) := by decide +kernel
theorem d_L_handle_5 : decode c_L_handle 5 = .ok (.iload_n 2, 1) := by decide +kernel
theorem d_L_handle_6 : decode c_L_handle 6 = .ok (.iload_n 3, 1) := by decide +kernel
theorem d_L_handle_7 : decode c_L_handle 7 = .ok (.iload 4, 2) := by decide +kernel
theorem d_L_handle_9 : decode c_L_handle 9 = .ok (.invokevirtual 42, 3) := by decide +kernel
theorem d_L_handle_12 : decode c_L_handle 12 = .ok (.i2l, 1) := by decide +kernel
theorem d_L_handle_13 : decode c_L_handle 13 = .ok (.lastore, 1) := by decide +kernel
theorem d_L_handle_14 : decode c_L_handle 14 = .ok (.goto 11, 3) := by decide +kernel
theorem d_L_handle_17 : decode c_L_handle 17 = .ok (.astore 6, 2) := by decide +kernel
theorem d_L_handle_19 : decode c_L_handle 19 = .ok (.iconst 1, 1) := by decide +kernel
theorem d_L_handle_20 : decode c_L_handle 20 = .ok (.ireturn, 1) := by decide +kernel
theorem d_L_handle_21 : decode c_L_handle 21 = .ok (.astore 6, 2) := by decide +kernel
theorem d_L_handle_23 : decode c_L_handle 23 = .ok (.iconst 2, 1) := by decide +kernel
theorem d_L_handle_24 : decode c_L_handle 24 = .ok (.ireturn, 1) := by decide +kernel
theorem d_L_handle_25 : decode c_L_handle 25 = .ok (.iconst 0, 1) := by decide +kernel
theorem d_L_handle_26 : decode c_L_handle 26 = .ok (.ireturn, 1) := by decide +kernel
theorem d_L_two_0 : decode c_L_two 0 = .ok (.aload 4, 2) := by decide +kernel
theorem d_L_two_2 : decode c_L_two 2 = .ok (.iconst 0, 1) := by decide +kernel
theorem d_L_two_3 : decode c_L_two 3 = .ok (.aload_n 0, 1) := by decide +kernel
theorem d_L_two_4 : decode c_L_two 4 = .ok (.iload_n 1, 1) := by decide +kernel
theorem d_L_two_5 : decode c_L_two 5 = .ok (.iload_n 2, 1) := by decide +kernel
theorem d_L_two_6 : decode c_L_two 6 = .ok (.iload_n 3, 1) := by decide +kernel
theorem d_L_two_7 : decode c_L_two 7 = .ok (.invokevirtual 45, 3) := by decide +kernel
theorem d_L_two_10 : decode c_L_two 10 = .ok (.i2l, 1) := by decide +kernel
theorem d_L_two_11 : decode c_L_two 11 = .ok (.lastore, 1) := by decide +kernel
theorem d_L_two_12 : decode c_L_two 12 = .ok (.goto 11, 3) := by decide +kernel
theorem d_L_two_15 : decode c_L_two 15 = .ok (.astore 5, 2) := by decide +kernel
theorem d_L_two_17 : decode c_L_two 17 = .ok (.iconst 1, 1) := by decide +kernel
theorem d_L_two_18 : decode c_L_two 18 = .ok (.ireturn, 1) := by decide +kernel
theorem d_L_two_19 : decode c_L_two 19 = .ok (.astore 5, 2) := by decide +kernel
theorem d_L_two_21 : decode c_L_two 21 = .ok (.iconst 2, 1) := by decide +kernel
theorem d_L_two_22 : decode c_L_two 22 = .ok (.ireturn, 1) := by decide +kernel
theorem d_L_two_23 : decode c_L_two 23 = .ok (.iconst 0, 1) := by decide +kernel
theorem d_L_two_24 : decode c_L_two 24 = .ok (.ireturn, 1) := by decide +kernel
theorem d_L_call_0 : decode c_L_call 0 = .ok (.aload_n 3, 1) := by decide +kernel
theorem d_L_call_1 : decode c_L_call 1 = .ok (.iconst 0, 1) := by decide +kernel
theorem d_L_call_2 : decode c_L_call 2 = .ok (.aload_n 0, 1) := by decide +kernel
theorem d_L_call_3 : decode c_L_call 3 = .ok (.iload_n 1, 1) := by decide +kernel
theorem d_L_call_4 : decode c_L_call 4 = .ok (.iload_n 2, 1) := by decide +kernel
theorem d_L_call_5 : decode c_L_call 5 = .ok (.invokevirtual 48, 3) := by decide +kernel
theorem d_L_call_8 : decode c_L_call 8 = .ok (.i2l, 1) := by decide +kernel
theorem d_L_call_9 : decode c_L_call 9 = .ok (.lastore, 1) := by decide +kernel
theorem d_L_call_10 : decode c_L_call 10 = .ok (.goto 11, 3) := by decide +kernel
theorem d_L_call_13 : decode c_L_call 13 = .ok (.astore 4, 2) := by decide +kernel
theorem d_L_call_15 : decode c_L_call 15 = .ok (.iconst 1, 1) := by decide +kernel
theorem d_L_call_16 : decode c_L_call 16 = .ok (.ireturn, 1) := by decide +kernel
theorem d_L_call_17 : decode c_L_call 17 = .ok (.astore 4, 2) := by decide +kernel
theorem d_L_call_19 : decode c_L_call 19 = .ok (.iconst 2, 1) := by decide +kernel
theorem d_L_call_20 : decode c_L_call 20 = .ok (.ireturn, 1) := by decide +kernel
theorem d_L_call_21 : decode c_L_call 21 = .ok (.iconst 0, 1) := by decide +kernel
theorem d_L_call_22 : decode c_L_call 22 = .ok (.ireturn, 1) := by decide +kernel
theorem d_L_perform_0 : decode c_L_perform 0 = .ok (.aload_n 3, 1) := by decide +kernel
theorem d_L_perform_1 : decode c_L_perform 1 = .ok (.iconst 0, 1) := by decide +kernel
theorem d_L_perform_2 : decode c_L_perform 2 = .ok (.aload_n 0, 1) := by decide +kernel
theorem d_L_perform_3 : decode c_L_perform 3 = .ok (.iload_n 1, 1) := by decide +kernel
theorem d_L_perform_4 : decode c_L_perform 4 = .ok (.iload_n 2, 1) := by decide +kernel
theorem d_L_perform_5 : decode c_L_perform 5 = .ok (.invokevirtual 51, 3) := by decide +kernel
theorem d_L_perform_8 : decode c_L_perform 8 = .ok (.i2l, 1) := by decide +kernel
theorem d_L_perform_9 : decode c_L_perform 9 = .ok (.lastore, 1) := by decide +kernel
theorem d_L_perform_10 : decode c_L_perform 10 = .ok (.goto 11, 3) := by decide +kernel
theorem d_L_perform_13 : decode c_L_perform 13 = .ok (.astore 4, 2) := by decide +kernel
theorem d_L_perform_15 : decode c_L_perform 15 = .ok (.iconst 1, 1) := by decide +kernel
theorem d_L_perform_16 : decode c_L_perform 16 = .ok (.ireturn, 1) := by decide +kernel
theorem d_L_perform_17 : decode c_L_perform 17 = .ok (.astore 4, 2) := by decide +kernel
theorem d_L_perform_19 : decode c_L_perform 19 = .ok (.iconst 2, 1) := by decide +kernel
theorem d_L_perform_20 : decode c_L_perform 20 = .ok (.ireturn, 1) := by decide +kernel
theorem d_L_perform_21 : decode c_L_perform 21 = .ok (.iconst 0, 1) := by decide +kernel
theorem d_L_perform_22 : decode c_L_perform 22 = .ok (.ireturn, 1) := by decide +kernel
theorem d_L_check_0 : decode c_L_check 0 = .ok (.aload_n 2, 1) := by decide +kernel
theorem d_L_check_1 : decode c_L_check 1 = .ok (.iconst 0, 1) := by decide +kernel
theorem d_L_check_2 : decode c_L_check 2 = .ok (.aload_n 0, 1) := by decide +kernel
theorem d_L_check_3 : decode c_L_check 3 = .ok (.iload_n 1, 1) := by decide +kernel
theorem d_L_check_4 : decode c_L_check 4 = .ok (.invokevirtual 54, 3) := by decide +kernel
theorem d_L_check_7 : decode c_L_check 7 = .ok (.i2l, 1) := by decide +kernel
theorem d_L_check_8 : decode c_L_check 8 = .ok (.lastore, 1) := by decide +kernel
theorem d_L_check_9 : decode c_L_check 9 = .ok (.goto 12, 3) := by decide +kernel
theorem d_L_check_12 : decode c_L_check 12 = .ok (.astore_n 3, 1) := by decide +kernel
theorem d_L_check_13 : decode c_L_check 13 = .ok (.iconst 1, 1) := by decide +kernel
theorem d_L_check_14 : decode c_L_check 14 = .ok (.ireturn, 1) := by decide +kernel
theorem d_L_check_15 : decode c_L_check 15 = .ok (.astore_n 3, 1) := by decide +kernel
theorem d_L_check_16 : decode c_L_check 16 = .ok (.iconst 2, 1) := by decide +kernel
theorem d_L_check_17 : decode c_L_check 17 = .ok (.ireturn, 1) := by decide +kernel
theorem d_L_check_18 : decode c_L_check 18 = .ok (.astore_n 3, 1) := by decide +kernel
theorem d_L_check_19 : decode c_L_check 19 = .ok (.iconst 3, 1) := by decide +kernel
theorem d_L_check_20 : decode c_L_check 20 = .ok (.ireturn, 1) := by decide +kernel
theorem d_L_check_21 : decode c_L_check 21 = .ok (.iconst 0, 1) := by decide +kernel
theorem d_L_check_22 : decode c_L_check 22 = .ok (.ireturn, 1) := by decide +kernel
theorem d_L_start_0 : decode c_L_start 0 = .ok (.aload_n 0, 1) := by decide +kernel
theorem d_L_start_1 : decode c_L_start 1 = .ok (.invokevirtual 60, 3) := by decide +kernel
theorem d_L_start_4 : decode c_L_start 4 = .ok (.goto 6, 3) := by decide +kernel
theorem d_L_start_7 : decode c_L_start 7 = .ok (.astore_n 1, 1) := by decide +kernel
theorem d_L_start_8 : decode c_L_start 8 = .ok (.iconst 1, 1) := by decide +kernel
theorem d_L_start_9 : decode c_L_start 9 = .ok (.ireturn, 1) := by decide +kernel
theorem d_L_start_10 : decode c_L_start 10 = .ok (.iconst 0, 1) := by decide +kernel
theorem d_L_start_11 : decode c_L_start 11 = .ok (.ireturn, 1) := by decide +kernel
theorem d_L_run_0 : decode c_L_run 0 = .ok (.aload_n 2, 1) := by decide +kernel
theorem d_L_run_1 : decode c_L_run 1 = .ok (.iconst 0, 1) := by decide +kernel
theorem d_L_run_2 : decode c_L_run 2 = .ok (.aload_n 0, 1) := by decide +kernel
theorem d_L_run_3 : decode c_L_run 3 = .ok (.iload_n 1, 1) := by decide +kernel
theorem d_L_run_4 : decode c_L_run 4 = .ok (.invokevirtual 63, 3) := by decide +kernel
theorem d_L_run_7 : decode c_L_run 7 = .ok (.i2l, 1) := by decide +kernel
theorem d_L_run_8 : decode c_L_run 8 = .ok (.lastore, 1) := by decide +kernel
theorem d_L_run_9 : decode c_L_run 9 = .ok (.goto 9, 3) := by decide +kernel
theorem d_L_run_12 : decode c_L_run 12 = .ok (.astore_n 3, 1) := by decide +kernel
theorem d_L_run_13 : decode c_L_run 13 = .ok (.iconst 1, 1) := by decide +kernel
theorem d_L_run_14 : decode c_L_run 14 = .ok (.ireturn, 1) := by decide +kernel
theorem d_L_run_15 : decode c_L_run 15 = .ok (.astore_n 3, 1) := by decide +kernel
theorem d_L_run_16 : decode c_L_run 16 = .ok (.iconst 2, 1) := by decide +kernel
theorem d_L_run_17 : decode c_L_run 17 = .ok (.ireturn, 1) := by decide +kernel
theorem d_L_run_18 : decode c_L_run 18 = .ok (.iconst 0, 1) := by decide +kernel
theorem d_L_run_19 : decode c_L_run 19 = .ok (.ireturn, 1) := by decide +kernel
