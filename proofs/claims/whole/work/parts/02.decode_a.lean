theorem d_QP_init_0 : decode b_QP_init 0 = .ok (.aload_n 0, 1) := by decide +kernel
theorem d_QP_init_1 : decode b_QP_init 1 = .ok (.invokespecial 1, 3) := by decide +kernel
theorem d_QP_init_4 : decode b_QP_init 4 = .ok (.aload_n 0, 1) := by decide +kernel
theorem d_QP_init_5 : decode b_QP_init 5 = .ok (.new 7, 3) := by decide +kernel
theorem d_QP_init_8 : decode b_QP_init 8 = .ok (.dup, 1) := by decide +kernel
theorem d_QP_init_9 : decode b_QP_init 9 = .ok (.invokespecial 9, 3) := by decide +kernel
theorem d_QP_init_12 : decode b_QP_init 12 = .ok (.putfield 10, 3) := by decide +kernel
theorem d_QP_init_15 : decode b_QP_init 15 = .ok (.aload_n 0, 1) := by decide +kernel
theorem d_QP_init_16 : decode b_QP_init 16 = .ok (.new 16, 3) := by decide +kernel
theorem d_QP_init_19 : decode b_QP_init 19 = .ok (.dup, 1) := by decide +kernel
theorem d_QP_init_20 : decode b_QP_init 20 = .ok (.invokespecial 18, 3) := by decide +kernel
theorem d_QP_init_23 : decode b_QP_init 23 = .ok (.putfield 19, 3) := by decide +kernel
theorem d_QP_init_26 : decode b_QP_init 26 = .ok (.aload_n 0, 1) := by decide +kernel
theorem d_QP_init_27 : decode b_QP_init 27 = .ok (.new 23, 3) := by decide +kernel
theorem d_QP_init_30 : decode b_QP_init 30 = .ok (.dup, 1) := by decide +kernel
theorem d_QP_init_31 : decode b_QP_init 31 = .ok (.invokespecial 25, 3) := by decide +kernel
theorem d_QP_init_34 : decode b_QP_init 34 = .ok (.putfield 26, 3) := by decide +kernel
theorem d_QP_init_37 : decode b_QP_init 37 = .ok (.aload_n 0, 1) := by decide +kernel
theorem d_QP_init_38 : decode b_QP_init 38 = .ok (.aload_n 0, 1) := by decide +kernel
theorem d_QP_init_39 : decode b_QP_init 39 = .ok (.getfield 26, 3) := by decide +kernel
theorem d_QP_init_42 : decode b_QP_init 42 = .ok (.getfield 30, 3) := by decide +kernel
theorem d_QP_init_45 : decode b_QP_init 45 = .ok (.putfield 34, 3) := by decide +kernel
theorem d_QP_init_48 : decode b_QP_init 48 = .ok (.aload_n 0, 1) := by decide +kernel
theorem d_QP_init_49 : decode b_QP_init 49 = .ok (.aload_n 0, 1) := by decide +kernel
theorem d_QP_init_50 : decode b_QP_init 50 = .ok (.getfield 26, 3) := by decide +kernel
theorem d_QP_init_53 : decode b_QP_init 53 = .ok (.getfield 35, 3) := by decide +kernel
theorem d_QP_init_56 : decode b_QP_init 56 = .ok (.putfield 39, 3) := by decide +kernel
theorem d_QP_init_59 : decode b_QP_init 59 = .ok (.return_, 1) := by decide +kernel
theorem d_QP_type_0 : decode b_QP_type 0 = .ok (.aload_n 0, 1) := by decide +kernel
theorem d_QP_type_1 : decode b_QP_type 1 = .ok (.getfield 10, 3) := by decide +kernel
theorem d_QP_type_4 : decode b_QP_type 4 = .ok (.iload_n 1, 1) := by decide +kernel
theorem d_QP_type_5 : decode b_QP_type 5 = .ok (.invokevirtual 42, 3) := by decide +kernel
theorem d_QP_type_8 : decode b_QP_type 8 = .ok (.ireturn, 1) := by decide +kernel
theorem d_QP_formula_0 : decode b_QP_formula 0 = .ok (.aload_n 0, 1) := by decide +kernel
theorem d_QP_formula_1 : decode b_QP_formula 1 = .ok (.getfield 19, 3) := by decide +kernel
theorem d_QP_formula_4 : decode b_QP_formula 4 = .ok (.invokevirtual 46, 3) := by decide +kernel
theorem d_QP_formula_7 : decode b_QP_formula 7 = .ok (.aload_n 0, 1) := by decide +kernel
theorem d_QP_formula_8 : decode b_QP_formula 8 = .ok (.aload_n 0, 1) := by decide +kernel
theorem d_QP_formula_9 : decode b_QP_formula 9 = .ok (.getfield 19, 3) := by decide +kernel
theorem d_QP_formula_12 : decode b_QP_formula 12 = .ok (.invokevirtual 49, 3) := by decide +kernel
theorem d_QP_formula_15 : decode b_QP_formula 15 = .ok (.istore_n 1, 1) := by decide +kernel
theorem d_QP_formula_16 : decode b_QP_formula 16 = .ok (.iload_n 1, 1) := by decide +kernel
theorem d_QP_formula_17 : decode b_QP_formula 17 = .ok (.ifCond .ne 25, 3) := by decide +kernel
theorem d_QP_formula_20 : decode b_QP_formula 20 = .ok (.aload_n 0, 1) := by decide +kernel
theorem d_QP_formula_21 : decode b_QP_formula 21 = .ok (.aload_n 0, 1) := by decide +kernel
theorem d_QP_formula_22 : decode b_QP_formula 22 = .ok (.getfield 19, 3) := by decide +kernel
theorem d_QP_formula_25 : decode b_QP_formula 25 = .ok (.aload_n 0, 1) := by decide +kernel
theorem d_QP_formula_26 : decode b_QP_formula 26 = .ok (.getfield 39, 3) := by decide +kernel
theorem d_QP_formula_29 : decode b_QP_formula 29 = .ok (.invokevirtual 53, 3) := by decide +kernel
theorem d_QP_formula_32 : decode b_QP_formula 32 = .ok (.putfield 39, 3) := by decide +kernel
theorem d_QP_formula_35 : decode b_QP_formula 35 = .ok (.aload_n 0, 1) := by decide +kernel
theorem d_QP_formula_36 : decode b_QP_formula 36 = .ok (.getfield 34, 3) := by decide +kernel
theorem d_QP_formula_39 : decode b_QP_formula 39 = .ok (.invokevirtual 57, 3) := by decide +kernel
theorem d_QP_formula_42 : decode b_QP_formula 42 = .ok (.iload_n 1, 1) := by decide +kernel
theorem d_QP_formula_43 : decode b_QP_formula 43 = .ok (.ireturn, 1) := by decide +kernel
theorem d_QP_trace_0 : decode b_QP_trace 0 = .ok (.aload_n 0, 1) := by decide +kernel
theorem d_QP_trace_1 : decode b_QP_trace 1 = .ok (.getfield 34, 3) := by decide +kernel
theorem d_QP_trace_4 : decode b_QP_trace 4 = .ok (.getfield 62, 3) := by decide +kernel
theorem d_QP_trace_7 : decode b_QP_trace 7 = .ok (.istore_n 1, 1) := by decide +kernel
theorem d_QP_trace_8 : decode b_QP_trace 8 = .ok (.aload_n 0, 1) := by decide +kernel
theorem d_QP_trace_9 : decode b_QP_trace 9 = .ok (.getfield 26, 3) := by decide +kernel
theorem d_QP_trace_12 : decode b_QP_trace 12 = .ok (.aload_n 0, 1) := by decide +kernel
theorem d_QP_trace_13 : decode b_QP_trace 13 = .ok (.getfield 39, 3) := by decide +kernel
theorem d_QP_trace_16 : decode b_QP_trace 16 = .ok (.invokevirtual 66, 3) := by decide +kernel
theorem d_QP_trace_19 : decode b_QP_trace 19 = .ok (.aload_n 0, 1) := by decide +kernel
theorem d_QP_trace_20 : decode b_QP_trace 20 = .ok (.aload_n 0, 1) := by decide +kernel
theorem d_QP_trace_21 : decode b_QP_trace 21 = .ok (.getfield 26, 3) := by decide +kernel
theorem d_QP_trace_24 : decode b_QP_trace 24 = .ok (.invokevirtual 49, 3) := by decide +kernel
theorem d_QP_trace_27 : decode b_QP_trace 27 = .ok (.istore_n 2, 1) := by decide +kernel
theorem d_QP_trace_28 : decode b_QP_trace 28 = .ok (.iload_n 2, 1) := by decide +kernel
theorem d_QP_trace_29 : decode b_QP_trace 29 = .ok (.ifCond .ne 15, 3) := by decide +kernel
theorem d_QP_trace_32 : decode b_QP_trace 32 = .ok (.aload_n 0, 1) := by decide +kernel
theorem d_QP_trace_33 : decode b_QP_trace 33 = .ok (.getfield 34, 3) := by decide +kernel
theorem d_QP_trace_36 : decode b_QP_trace 36 = .ok (.getfield 62, 3) := by decide +kernel
theorem d_QP_trace_39 : decode b_QP_trace 39 = .ok (.iload_n 1, 1) := by decide +kernel
theorem d_QP_trace_40 : decode b_QP_trace 40 = .ok (.isub, 1) := by decide +kernel
theorem d_QP_trace_41 : decode b_QP_trace 41 = .ok (.goto 4, 3) := by decide +kernel
theorem d_QP_trace_44 : decode b_QP_trace 44 = .ok (.iload_n 2, 1) := by decide +kernel
theorem d_QP_trace_45 : decode b_QP_trace 45 = .ok (.ireturn, 1) := by decide +kernel
theorem d_QP_variables_0 : decode b_QP_variables 0 = .ok (.aload_n 0, 1) := by decide +kernel
theorem d_QP_variables_1 : decode b_QP_variables 1 = .ok (.getfield 39, 3) := by decide +kernel
theorem d_QP_variables_4 : decode b_QP_variables 4 = .ok (.getfield 69, 3) := by decide +kernel
theorem d_QP_variables_7 : decode b_QP_variables 7 = .ok (.ireturn, 1) := by decide +kernel
theorem d_QP_variable_0 : decode b_QP_variable 0 = .ok (.iload_n 1, 1) := by decide +kernel
theorem d_QP_variable_1 : decode b_QP_variable 1 = .ok (.ifCond .lt 14, 3) := by decide +kernel
theorem d_QP_variable_4 : decode b_QP_variable 4 = .ok (.iload_n 1, 1) := by decide +kernel
theorem d_QP_variable_5 : decode b_QP_variable 5 = .ok (.aload_n 0, 1) := by decide +kernel
theorem d_QP_variable_6 : decode b_QP_variable 6 = .ok (.getfield 39, 3) := by decide +kernel
theorem d_QP_variable_9 : decode b_QP_variable 9 = .ok (.getfield 69, 3) := by decide +kernel
theorem d_QP_variable_12 : decode b_QP_variable 12 = .ok (.if_icmp .lt 5, 3) := by decide +kernel
theorem d_QP_variable_15 : decode b_QP_variable 15 = .ok (.iconst (-1), 1) := by decide +kernel
theorem d_QP_variable_16 : decode b_QP_variable 16 = .ok (.ireturn, 1) := by decide +kernel
theorem d_QP_variable_17 : decode b_QP_variable 17 = .ok (.aload_n 0, 1) := by decide +kernel
theorem d_QP_variable_18 : decode b_QP_variable 18 = .ok (.getfield 39, 3) := by decide +kernel
theorem d_QP_variable_21 : decode b_QP_variable 21 = .ok (.getfield 74, 3) := by decide +kernel
theorem d_QP_variable_24 : decode b_QP_variable 24 = .ok (.iload_n 1, 1) := by decide +kernel
theorem d_QP_variable_25 : decode b_QP_variable 25 = .ok (.iaload, 1) := by decide +kernel
theorem d_QP_variable_26 : decode b_QP_variable 26 = .ok (.istore_n 2, 1) := by decide +kernel
theorem d_QP_variable_27 : decode b_QP_variable 27 = .ok (.aload_n 0, 1) := by decide +kernel
theorem d_QP_variable_28 : decode b_QP_variable 28 = .ok (.getfield 39, 3) := by decide +kernel
theorem d_QP_variable_31 : decode b_QP_variable 31 = .ok (.iload_n 2, 1) := by decide +kernel
theorem d_QP_variable_32 : decode b_QP_variable 32 = .ok (.invokevirtual 78, 3) := by decide +kernel
theorem d_QP_variable_35 : decode b_QP_variable 35 = .ok (.ifCond .eq 10, 3) := by decide +kernel
theorem d_QP_variable_38 : decode b_QP_variable 38 = .ok (.iload_n 2, 1) := by decide +kernel
theorem d_QP_variable_39 : decode b_QP_variable 39 = .ok (.bipush 10, 2) := by decide +kernel
theorem d_QP_variable_41 : decode b_QP_variable 41 = .ok (.iadd, 1) := by decide +kernel
theorem d_QP_variable_42 : decode b_QP_variable 42 = .ok (.goto 4, 3) := by decide +kernel
theorem d_QP_variable_45 : decode b_QP_variable 45 = .ok (.iload_n 2, 1) := by decide +kernel
theorem d_QP_variable_46 : decode b_QP_variable 46 = .ok (.ireturn, 1) := by decide +kernel
theorem d_QP_clauses_0 : decode b_QP_clauses 0 = .ok (.aload_n 0, 1) := by decide +kernel
theorem d_QP_clauses_1 : decode b_QP_clauses 1 = .ok (.getfield 39, 3) := by decide +kernel
theorem d_QP_clauses_4 : decode b_QP_clauses 4 = .ok (.getfield 82, 3) := by decide +kernel
theorem d_QP_clauses_7 : decode b_QP_clauses 7 = .ok (.ireturn, 1) := by decide +kernel
theorem d_QP_clause_0 : decode b_QP_clause 0 = .ok (.iload_n 1, 1) := by decide +kernel
theorem d_QP_clause_1 : decode b_QP_clause 1 = .ok (.ifCond .lt 14, 3) := by decide +kernel
theorem d_QP_clause_4 : decode b_QP_clause 4 = .ok (.iload_n 1, 1) := by decide +kernel
theorem d_QP_clause_5 : decode b_QP_clause 5 = .ok (.aload_n 0, 1) := by decide +kernel
theorem d_QP_clause_6 : decode b_QP_clause 6 = .ok (.getfield 39, 3) := by decide +kernel
theorem d_QP_clause_9 : decode b_QP_clause 9 = .ok (.getfield 82, 3) := by decide +kernel
theorem d_QP_clause_12 : decode b_QP_clause 12 = .ok (.if_icmp .lt 7, 3) := by decide +kernel
theorem d_QP_clause_15 : decode b_QP_clause 15 = .ok (.iconst (-1), 1) := by decide +kernel
theorem d_QP_clause_16 : decode b_QP_clause 16 = .ok (.goto 12, 3) := by decide +kernel
theorem d_QP_clause_19 : decode b_QP_clause 19 = .ok (.aload_n 0, 1) := by decide +kernel
theorem d_QP_clause_20 : decode b_QP_clause 20 = .ok (.getfield 39, 3) := by decide +kernel
theorem d_QP_clause_23 : decode b_QP_clause 23 = .ok (.getfield 85, 3) := by decide +kernel
theorem d_QP_clause_26 : decode b_QP_clause 26 = .ok (.iload_n 1, 1) := by decide +kernel
theorem d_QP_clause_27 : decode b_QP_clause 27 = .ok (.iaload, 1) := by decide +kernel
theorem d_QP_clause_28 : decode b_QP_clause 28 = .ok (.ireturn, 1) := by decide +kernel
theorem d_QP_steps_0 : decode b_QP_steps 0 = .ok (.aload_n 0, 1) := by decide +kernel
theorem d_QP_steps_1 : decode b_QP_steps 1 = .ok (.getfield 34, 3) := by decide +kernel
theorem d_QP_steps_4 : decode b_QP_steps 4 = .ok (.getfield 62, 3) := by decide +kernel
theorem d_QP_steps_7 : decode b_QP_steps 7 = .ok (.ireturn, 1) := by decide +kernel
theorem d_QP_step_0 : decode b_QP_step 0 = .ok (.aload_n 0, 1) := by decide +kernel
theorem d_QP_step_1 : decode b_QP_step 1 = .ok (.getfield 34, 3) := by decide +kernel
theorem d_QP_step_4 : decode b_QP_step 4 = .ok (.iload_n 1, 1) := by decide +kernel
theorem d_QP_step_5 : decode b_QP_step 5 = .ok (.invokevirtual 88, 3) := by decide +kernel
theorem d_QP_step_8 : decode b_QP_step 8 = .ok (.ifCond .ne 5, 3) := by decide +kernel
theorem d_QP_step_11 : decode b_QP_step 11 = .ok (.iconst (-1), 1) := by decide +kernel
theorem d_QP_step_12 : decode b_QP_step 12 = .ok (.ireturn, 1) := by decide +kernel
theorem d_QP_step_13 : decode b_QP_step 13 = .ok (.aload_n 0, 1) := by decide +kernel
theorem d_QP_step_14 : decode b_QP_step 14 = .ok (.getfield 34, 3) := by decide +kernel
theorem d_QP_step_17 : decode b_QP_step 17 = .ok (.getfield 91, 3) := by decide +kernel
theorem d_QP_step_20 : decode b_QP_step 20 = .ok (.iload_n 1, 1) := by decide +kernel
theorem d_QP_step_21 : decode b_QP_step 21 = .ok (.baload, 1) := by decide +kernel
theorem d_QP_step_22 : decode b_QP_step 22 = .ok (.ifCond .eq 18, 3) := by decide +kernel
theorem d_QP_step_25 : decode b_QP_step 25 = .ok (.aload_n 0, 1) := by decide +kernel
theorem d_QP_step_26 : decode b_QP_step 26 = .ok (.getfield 34, 3) := by decide +kernel
theorem d_QP_step_29 : decode b_QP_step 29 = .ok (.getfield 95, 3) := by decide +kernel
theorem d_QP_step_32 : decode b_QP_step 32 = .ok (.iload_n 1, 1) := by decide +kernel
theorem d_QP_step_33 : decode b_QP_step 33 = .ok (.iaload, 1) := by decide +kernel
theorem d_QP_step_34 : decode b_QP_step 34 = .ok (.ldc 98, 2) := by decide +kernel
theorem d_QP_step_36 : decode b_QP_step 36 = .ok (.iadd, 1) := by decide +kernel
theorem d_QP_step_37 : decode b_QP_step 37 = .ok (.goto 12, 3) := by decide +kernel
theorem d_QP_step_40 : decode b_QP_step 40 = .ok (.aload_n 0, 1) := by decide +kernel
theorem d_QP_step_41 : decode b_QP_step 41 = .ok (.getfield 34, 3) := by decide +kernel
theorem d_QP_step_44 : decode b_QP_step 44 = .ok (.getfield 95, 3) := by decide +kernel
theorem d_QP_step_47 : decode b_QP_step 47 = .ok (.iload_n 1, 1) := by decide +kernel
theorem d_QP_step_48 : decode b_QP_step 48 = .ok (.iaload, 1) := by decide +kernel
theorem d_QP_step_49 : decode b_QP_step 49 = .ok (.ireturn, 1) := by decide +kernel
theorem d_QP_rests_0 : decode b_QP_rests 0 = .ok (.aload_n 0, 1) := by decide +kernel
theorem d_QP_rests_1 : decode b_QP_rests 1 = .ok (.getfield 34, 3) := by decide +kernel
theorem d_QP_rests_4 : decode b_QP_rests 4 = .ok (.iload_n 1, 1) := by decide +kernel
theorem d_QP_rests_5 : decode b_QP_rests 5 = .ok (.invokevirtual 88, 3) := by decide +kernel
theorem d_QP_rests_8 : decode b_QP_rests 8 = .ok (.ifCond .eq 15, 3) := by decide +kernel
theorem d_QP_rests_11 : decode b_QP_rests 11 = .ok (.aload_n 0, 1) := by decide +kernel
theorem d_QP_rests_12 : decode b_QP_rests 12 = .ok (.getfield 34, 3) := by decide +kernel
theorem d_QP_rests_15 : decode b_QP_rests 15 = .ok (.getfield 99, 3) := by decide +kernel
theorem d_QP_rests_18 : decode b_QP_rests 18 = .ok (.iload_n 1, 1) := by decide +kernel
theorem d_QP_rests_19 : decode b_QP_rests 19 = .ok (.iaload, 1) := by decide +kernel
theorem d_QP_rests_20 : decode b_QP_rests 20 = .ok (.goto 4, 3) := by decide +kernel
theorem d_QP_rests_23 : decode b_QP_rests 23 = .ok (.iconst (-1), 1) := by decide +kernel
theorem d_QP_rests_24 : decode b_QP_rests 24 = .ok (.ireturn, 1) := by decide +kernel
theorem d_QP_empty_0 : decode b_QP_empty 0 = .ok (.iconst 0, 1) := by decide +kernel
theorem d_QP_empty_1 : decode b_QP_empty 1 = .ok (.istore_n 1, 1) := by decide +kernel
theorem d_QP_empty_2 : decode b_QP_empty 2 = .ok (.iload_n 1, 1) := by decide +kernel
theorem d_QP_empty_3 : decode b_QP_empty 3 = .ok (.aload_n 0, 1) := by decide +kernel
theorem d_QP_empty_4 : decode b_QP_empty 4 = .ok (.getfield 34, 3) := by decide +kernel
theorem d_QP_empty_7 : decode b_QP_empty 7 = .ok (.getfield 62, 3) := by decide +kernel
theorem d_QP_empty_10 : decode b_QP_empty 10 = .ok (.if_icmp .ge 23, 3) := by decide +kernel
theorem d_QP_empty_13 : decode b_QP_empty 13 = .ok (.aload_n 0, 1) := by decide +kernel
theorem d_QP_empty_14 : decode b_QP_empty 14 = .ok (.getfield 34, 3) := by decide +kernel
theorem d_QP_empty_17 : decode b_QP_empty 17 = .ok (.getfield 95, 3) := by decide +kernel
theorem d_QP_empty_20 : decode b_QP_empty 20 = .ok (.iload_n 1, 1) := by decide +kernel
theorem d_QP_empty_21 : decode b_QP_empty 21 = .ok (.iaload, 1) := by decide +kernel
theorem d_QP_empty_22 : decode b_QP_empty 22 = .ok (.ifCond .ne 5, 3) := by decide +kernel
theorem d_QP_empty_25 : decode b_QP_empty 25 = .ok (.iload_n 1, 1) := by decide +kernel
theorem d_QP_empty_26 : decode b_QP_empty 26 = .ok (.ireturn, 1) := by decide +kernel
theorem d_QP_empty_27 : decode b_QP_empty 27 = .ok (.iinc 1 1, 3) := by decide +kernel
theorem d_QP_empty_30 : decode b_QP_empty 30 = .ok (.goto (-28), 3) := by decide +kernel
theorem d_QP_empty_33 : decode b_QP_empty 33 = .ok (.iconst (-1), 1) := by decide +kernel
theorem d_QP_empty_34 : decode b_QP_empty 34 = .ok (.ireturn, 1) := by decide +kernel
theorem d_QP_won_0 : decode b_QP_won 0 = .ok (.iload_n 1, 1) := by decide +kernel
theorem d_QP_won_1 : decode b_QP_won 1 = .ok (.ifCond .lt 30, 3) := by decide +kernel
theorem d_QP_won_4 : decode b_QP_won 4 = .ok (.iload_n 1, 1) := by decide +kernel
theorem d_QP_won_5 : decode b_QP_won 5 = .ok (.aload_n 0, 1) := by decide +kernel
theorem d_QP_won_6 : decode b_QP_won 6 = .ok (.getfield 39, 3) := by decide +kernel
theorem d_QP_won_9 : decode b_QP_won 9 = .ok (.getfield 69, 3) := by decide +kernel
theorem d_QP_won_12 : decode b_QP_won 12 = .ok (.if_icmp .gt 19, 3) := by decide +kernel
theorem d_QP_won_15 : decode b_QP_won 15 = .ok (.aload_n 0, 1) := by decide +kernel
theorem d_QP_won_16 : decode b_QP_won 16 = .ok (.getfield 39, 3) := by decide +kernel
theorem d_QP_won_19 : decode b_QP_won 19 = .ok (.iload_n 1, 1) := by decide +kernel
theorem d_QP_won_20 : decode b_QP_won 20 = .ok (.iload_n 2, 1) := by decide +kernel
theorem d_QP_won_21 : decode b_QP_won 21 = .ok (.invokevirtual 102, 3) := by decide +kernel
theorem d_QP_won_24 : decode b_QP_won 24 = .ok (.ifCond .eq 7, 3) := by decide +kernel
theorem d_QP_won_27 : decode b_QP_won 27 = .ok (.iconst 1, 1) := by decide +kernel
theorem d_QP_won_28 : decode b_QP_won 28 = .ok (.goto 4, 3) := by decide +kernel
theorem d_QP_won_31 : decode b_QP_won 31 = .ok (.iconst 0, 1) := by decide +kernel
theorem d_QP_won_32 : decode b_QP_won 32 = .ok (.ireturn, 1) := by decide +kernel
theorem d_QP_play_0 : decode b_QP_play 0 = .ok (.iconst 0, 1) := by decide +kernel
theorem d_QP_play_1 : decode b_QP_play 1 = .ok (.istore_n 2, 1) := by decide +kernel
theorem d_QP_play_2 : decode b_QP_play 2 = .ok (.iconst 0, 1) := by decide +kernel
theorem d_QP_play_3 : decode b_QP_play 3 = .ok (.istore_n 3, 1) := by decide +kernel
theorem d_QP_play_4 : decode b_QP_play 4 = .ok (.iload_n 3, 1) := by decide +kernel
theorem d_QP_play_5 : decode b_QP_play 5 = .ok (.aload_n 0, 1) := by decide +kernel
theorem d_QP_play_6 : decode b_QP_play 6 = .ok (.getfield 39, 3) := by decide +kernel
theorem d_QP_play_9 : decode b_QP_play 9 = .ok (.getfield 69, 3) := by decide +kernel
theorem d_QP_play_12 : decode b_QP_play 12 = .ok (.if_icmp .ge 58, 3) := by decide +kernel
theorem d_QP_play_15 : decode b_QP_play 15 = .ok (.aload_n 0, 1) := by decide +kernel
theorem d_QP_play_16 : decode b_QP_play 16 = .ok (.getfield 39, 3) := by decide +kernel
theorem d_QP_play_19 : decode b_QP_play 19 = .ok (.aload_n 0, 1) := by decide +kernel
theorem d_QP_play_20 : decode b_QP_play 20 = .ok (.getfield 39, 3) := by decide +kernel
theorem d_QP_play_23 : decode b_QP_play 23 = .ok (.getfield 74, 3) := by decide +kernel
theorem d_QP_play_26 : decode b_QP_play 26 = .ok (.iload_n 3, 1) := by decide +kernel
theorem d_QP_play_27 : decode b_QP_play 27 = .ok (.iaload, 1) := by decide +kernel
theorem d_QP_play_28 : decode b_QP_play 28 = .ok (.invokevirtual 78, 3) := by decide +kernel
theorem d_QP_play_31 : decode b_QP_play 31 = .ok (.istore 4, 2) := by decide +kernel
theorem d_QP_play_33 : decode b_QP_play 33 = .ok (.iload 4, 2) := by decide +kernel
theorem d_QP_play_35 : decode b_QP_play 35 = .ok (.ifCond .eq 15, 3) := by decide +kernel
theorem d_QP_play_38 : decode b_QP_play 38 = .ok (.aload_n 0, 1) := by decide +kernel
theorem d_QP_play_39 : decode b_QP_play 39 = .ok (.getfield 39, 3) := by decide +kernel
theorem d_QP_play_42 : decode b_QP_play 42 = .ok (.iload_n 3, 1) := by decide +kernel
theorem d_QP_play_43 : decode b_QP_play 43 = .ok (.iload_n 2, 1) := by decide +kernel
theorem d_QP_play_44 : decode b_QP_play 44 = .ok (.invokevirtual 106, 3) := by decide +kernel
theorem d_QP_play_47 : decode b_QP_play 47 = .ok (.goto 8, 3) := by decide +kernel
theorem d_QP_play_50 : decode b_QP_play 50 = .ok (.iload_n 1, 1) := by decide +kernel
theorem d_QP_play_51 : decode b_QP_play 51 = .ok (.iload_n 3, 1) := by decide +kernel
theorem d_QP_play_52 : decode b_QP_play 52 = .ok (.ishr, 1) := by decide +kernel
theorem d_QP_play_53 : decode b_QP_play 53 = .ok (.iconst 1, 1) := by decide +kernel
theorem d_QP_play_54 : decode b_QP_play 54 = .ok (.iand, 1) := by decide +kernel
theorem d_QP_play_55 : decode b_QP_play 55 = .ok (.istore 5, 2) := by decide +kernel
theorem d_QP_play_57 : decode b_QP_play 57 = .ok (.iload_n 2, 1) := by decide +kernel
theorem d_QP_play_58 : decode b_QP_play 58 = .ok (.iload 5, 2) := by decide +kernel
theorem d_QP_play_60 : decode b_QP_play 60 = .ok (.iload_n 3, 1) := by decide +kernel
theorem d_QP_play_61 : decode b_QP_play 61 = .ok (.ishl, 1) := by decide +kernel
theorem d_QP_play_62 : decode b_QP_play 62 = .ok (.ior, 1) := by decide +kernel
theorem d_QP_play_63 : decode b_QP_play 63 = .ok (.istore_n 2, 1) := by decide +kernel
theorem d_QP_play_64 : decode b_QP_play 64 = .ok (.iinc 3 1, 3) := by decide +kernel
theorem d_QP_play_67 : decode b_QP_play 67 = .ok (.goto (-63), 3) := by decide +kernel
theorem d_QP_play_70 : decode b_QP_play 70 = .ok (.aload_n 0, 1) := by decide +kernel
theorem d_QP_play_71 : decode b_QP_play 71 = .ok (.getfield 39, 3) := by decide +kernel
theorem d_QP_play_74 : decode b_QP_play 74 = .ok (.aload_n 0, 1) := by decide +kernel
theorem d_QP_play_75 : decode b_QP_play 75 = .ok (.getfield 39, 3) := by decide +kernel
theorem d_QP_play_78 : decode b_QP_play 78 = .ok (.getfield 69, 3) := by decide +kernel
theorem d_QP_play_81 : decode b_QP_play 81 = .ok (.iload_n 2, 1) := by decide +kernel
theorem d_QP_play_82 : decode b_QP_play 82 = .ok (.invokevirtual 102, 3) := by decide +kernel
theorem d_QP_play_85 : decode b_QP_play 85 = .ok (.istore_n 3, 1) := by decide +kernel
theorem d_QP_play_86 : decode b_QP_play 86 = .ok (.iload_n 3, 1) := by decide +kernel
theorem d_QP_play_87 : decode b_QP_play 87 = .ok (.ifCond .eq 11, 3) := by decide +kernel
theorem d_QP_play_90 : decode b_QP_play 90 = .ok (.iload_n 2, 1) := by decide +kernel
theorem d_QP_play_91 : decode b_QP_play 91 = .ok (.sipush 256, 3) := by decide +kernel
theorem d_QP_play_94 : decode b_QP_play 94 = .ok (.iadd, 1) := by decide +kernel
theorem d_QP_play_95 : decode b_QP_play 95 = .ok (.goto 4, 3) := by decide +kernel
theorem d_QP_play_98 : decode b_QP_play 98 = .ok (.iload_n 2, 1) := by decide +kernel
theorem d_QP_play_99 : decode b_QP_play 99 = .ok (.ireturn, 1) := by decide +kernel
theorem d_QP_readBuffer_0 : decode b_QP_readBuffer 0 = .ok (.iconst 0, 1) := by decide +kernel
theorem d_QP_readBuffer_1 : decode b_QP_readBuffer 1 = .ok (.istore_n 2, 1) := by decide +kernel
theorem d_QP_readBuffer_2 : decode b_QP_readBuffer 2 = .ok (.aload_n 0, 1) := by decide +kernel
theorem d_QP_readBuffer_3 : decode b_QP_readBuffer 3 = .ok (.getfield 10, 3) := by decide +kernel
theorem d_QP_readBuffer_6 : decode b_QP_readBuffer 6 = .ok (.invokevirtual 110, 3) := by decide +kernel
theorem d_QP_readBuffer_9 : decode b_QP_readBuffer 9 = .ok (.iconst 0, 1) := by decide +kernel
theorem d_QP_readBuffer_10 : decode b_QP_readBuffer 10 = .ok (.istore_n 3, 1) := by decide +kernel
theorem d_QP_readBuffer_11 : decode b_QP_readBuffer 11 = .ok (.iload_n 3, 1) := by decide +kernel
theorem d_QP_readBuffer_12 : decode b_QP_readBuffer 12 = .ok (.sipush 200, 3) := by decide +kernel
theorem d_QP_readBuffer_15 : decode b_QP_readBuffer 15 = .ok (.if_icmp .ge 34, 3) := by decide +kernel
theorem d_QP_readBuffer_18 : decode b_QP_readBuffer 18 = .ok (.iload_n 2, 1) := by decide +kernel
theorem d_QP_readBuffer_19 : decode b_QP_readBuffer 19 = .ok (.ifCond .ne 30, 3) := by decide +kernel
theorem d_QP_readBuffer_22 : decode b_QP_readBuffer 22 = .ok (.aload_n 0, 1) := by decide +kernel
theorem d_QP_readBuffer_23 : decode b_QP_readBuffer 23 = .ok (.getfield 10, 3) := by decide +kernel
theorem d_QP_readBuffer_26 : decode b_QP_readBuffer 26 = .ok (.invokevirtual 113, 3) := by decide +kernel
theorem d_QP_readBuffer_29 : decode b_QP_readBuffer 29 = .ok (.ifCond .eq 20, 3) := by decide +kernel
theorem d_QP_readBuffer_32 : decode b_QP_readBuffer 32 = .ok (.aload_n 1, 1) := by decide +kernel
theorem d_QP_readBuffer_33 : decode b_QP_readBuffer 33 = .ok (.aload_n 0, 1) := by decide +kernel
theorem d_QP_readBuffer_34 : decode b_QP_readBuffer 34 = .ok (.getfield 10, 3) := by decide +kernel
theorem d_QP_readBuffer_37 : decode b_QP_readBuffer 37 = .ok (.invokeinterface 117 2, 5) := by decide +kernel
theorem d_QP_readBuffer_42 : decode b_QP_readBuffer 42 = .ok (.istore_n 2, 1) := by decide +kernel
theorem d_QP_readBuffer_43 : decode b_QP_readBuffer 43 = .ok (.iinc 3 1, 3) := by decide +kernel
theorem d_QP_readBuffer_46 : decode b_QP_readBuffer 46 = .ok (.goto (-35), 3) := by decide +kernel
theorem d_QP_readBuffer_49 : decode b_QP_readBuffer 49 = .ok (.iload_n 2, 1) := by decide +kernel
theorem d_QP_readBuffer_50 : decode b_QP_readBuffer 50 = .ok (.ifCond .ne 14, 3) := by decide +kernel
theorem d_QP_readBuffer_53 : decode b_QP_readBuffer 53 = .ok (.aload_n 1, 1) := by decide +kernel
theorem d_QP_readBuffer_54 : decode b_QP_readBuffer 54 = .ok (.invokeinterface 123 1, 5) := by decide +kernel
theorem d_QP_readBuffer_59 : decode b_QP_readBuffer 59 = .ok (.ifCond .ne 5, 3) := by decide +kernel
theorem d_QP_readBuffer_62 : decode b_QP_readBuffer 62 = .ok (.iconst 1, 1) := by decide +kernel
theorem d_QP_readBuffer_63 : decode b_QP_readBuffer 63 = .ok (.istore_n 2, 1) := by decide +kernel
theorem d_QP_readBuffer_64 : decode b_QP_readBuffer 64 = .ok (.iload_n 2, 1) := by decide +kernel
theorem d_QP_readBuffer_65 : decode b_QP_readBuffer 65 = .ok (.ifCond .ne 7, 3) := by decide +kernel
theorem d_QP_readBuffer_68 : decode b_QP_readBuffer 68 = .ok (.iconst 0, 1) := by decide +kernel
theorem d_QP_readBuffer_69 : decode b_QP_readBuffer 69 = .ok (.goto 16, 3) := by decide +kernel
theorem d_QP_readBuffer_72 : decode b_QP_readBuffer 72 = .ok (.sipush (-1000), 3) := by decide +kernel
theorem d_QP_readBuffer_75 : decode b_QP_readBuffer 75 = .ok (.iload_n 2, 1) := by decide +kernel
theorem d_QP_readBuffer_76 : decode b_QP_readBuffer 76 = .ok (.imul, 1) := by decide +kernel
theorem d_QP_readBuffer_77 : decode b_QP_readBuffer 77 = .ok (.aload_n 0, 1) := by decide +kernel
theorem d_QP_readBuffer_78 : decode b_QP_readBuffer 78 = .ok (.getfield 10, 3) := by decide +kernel
theorem d_QP_readBuffer_81 : decode b_QP_readBuffer 81 = .ok (.invokevirtual 126, 3) := by decide +kernel
theorem d_QP_readBuffer_84 : decode b_QP_readBuffer 84 = .ok (.isub, 1) := by decide +kernel
theorem d_QP_readBuffer_85 : decode b_QP_readBuffer 85 = .ok (.istore_n 3, 1) := by decide +kernel
theorem d_QP_readBuffer_86 : decode b_QP_readBuffer 86 = .ok (.aload_n 0, 1) := by decide +kernel
theorem d_QP_readBuffer_87 : decode b_QP_readBuffer 87 = .ok (.getfield 10, 3) := by decide +kernel
theorem d_QP_readBuffer_90 : decode b_QP_readBuffer 90 = .ok (.invokevirtual 130, 3) := by decide +kernel
theorem d_QP_readBuffer_93 : decode b_QP_readBuffer 93 = .ok (.iload_n 3, 1) := by decide +kernel
theorem d_QP_readBuffer_94 : decode b_QP_readBuffer 94 = .ok (.ireturn, 1) := by decide +kernel
theorem d_QP_setOf_0 : decode b_QP_setOf 0 = .ok (.iload_n 0, 1) := by decide +kernel
theorem d_QP_setOf_1 : decode b_QP_setOf 1 = .ok (.ifCond .le 11, 3) := by decide +kernel
theorem d_QP_setOf_4 : decode b_QP_setOf 4 = .ok (.iconst 1, 1) := by decide +kernel
theorem d_QP_setOf_5 : decode b_QP_setOf 5 = .ok (.iload_n 0, 1) := by decide +kernel
theorem d_QP_setOf_6 : decode b_QP_setOf 6 = .ok (.iconst 1, 1) := by decide +kernel
theorem d_QP_setOf_7 : decode b_QP_setOf 7 = .ok (.isub, 1) := by decide +kernel
theorem d_QP_setOf_8 : decode b_QP_setOf 8 = .ok (.ishl, 1) := by decide +kernel
theorem d_QP_setOf_9 : decode b_QP_setOf 9 = .ok (.goto 9, 3) := by decide +kernel
theorem d_QP_setOf_12 : decode b_QP_setOf 12 = .ok (.iconst 1, 1) := by decide +kernel
theorem d_QP_setOf_13 : decode b_QP_setOf 13 = .ok (.bipush 7, 2) := by decide +kernel
theorem d_QP_setOf_15 : decode b_QP_setOf 15 = .ok (.iload_n 0, 1) := by decide +kernel
theorem d_QP_setOf_16 : decode b_QP_setOf 16 = .ok (.isub, 1) := by decide +kernel
theorem d_QP_setOf_17 : decode b_QP_setOf 17 = .ok (.ishl, 1) := by decide +kernel
theorem d_QP_setOf_18 : decode b_QP_setOf 18 = .ok (.ireturn, 1) := by decide +kernel
theorem d_QP_variablesIn_0 : decode b_QP_variablesIn 0 = .ok (.iload_n 0, 1) := by decide +kernel
theorem d_QP_variablesIn_1 : decode b_QP_variablesIn 1 = .ok (.iload_n 0, 1) := by decide +kernel
theorem d_QP_variablesIn_2 : decode b_QP_variablesIn 2 = .ok (.bipush 8, 2) := by decide +kernel
theorem d_QP_variablesIn_4 : decode b_QP_variablesIn 4 = .ok (.ishr, 1) := by decide +kernel
theorem d_QP_variablesIn_5 : decode b_QP_variablesIn 5 = .ok (.ior, 1) := by decide +kernel
theorem d_QP_variablesIn_6 : decode b_QP_variablesIn 6 = .ok (.sipush 255, 3) := by decide +kernel
theorem d_QP_variablesIn_9 : decode b_QP_variablesIn 9 = .ok (.iand, 1) := by decide +kernel
theorem d_QP_variablesIn_10 : decode b_QP_variablesIn 10 = .ok (.ireturn, 1) := by decide +kernel
theorem d_QP_bothWaysIn_0 : decode b_QP_bothWaysIn 0 = .ok (.iload_n 0, 1) := by decide +kernel
theorem d_QP_bothWaysIn_1 : decode b_QP_bothWaysIn 1 = .ok (.iload_n 0, 1) := by decide +kernel
theorem d_QP_bothWaysIn_2 : decode b_QP_bothWaysIn 2 = .ok (.bipush 8, 2) := by decide +kernel
theorem d_QP_bothWaysIn_4 : decode b_QP_bothWaysIn 4 = .ok (.ishr, 1) := by decide +kernel
theorem d_QP_bothWaysIn_5 : decode b_QP_bothWaysIn 5 = .ok (.iand, 1) := by decide +kernel
theorem d_QP_bothWaysIn_6 : decode b_QP_bothWaysIn 6 = .ok (.sipush 255, 3) := by decide +kernel
theorem d_QP_bothWaysIn_9 : decode b_QP_bothWaysIn 9 = .ok (.iand, 1) := by decide +kernel
theorem d_QP_bothWaysIn_10 : decode b_QP_bothWaysIn 10 = .ok (.ireturn, 1) := by decide +kernel
theorem d_QP_literalsOf_0 : decode b_QP_literalsOf 0 = .ok (.iload_n 0, 1) := by decide +kernel
theorem d_QP_literalsOf_1 : decode b_QP_literalsOf 1 = .ok (.iload_n 0, 1) := by decide +kernel
theorem d_QP_literalsOf_2 : decode b_QP_literalsOf 2 = .ok (.bipush 8, 2) := by decide +kernel
theorem d_QP_literalsOf_4 : decode b_QP_literalsOf 4 = .ok (.ishl, 1) := by decide +kernel
theorem d_QP_literalsOf_5 : decode b_QP_literalsOf 5 = .ok (.ior, 1) := by decide +kernel
theorem d_QP_literalsOf_6 : decode b_QP_literalsOf 6 = .ok (.ireturn, 1) := by decide +kernel
theorem d_Words_init_0 : decode b_Words_init 0 = .ok (.aload_n 0, 1) := by decide +kernel
theorem d_Words_init_1 : decode b_Words_init 1 = .ok (.invokespecial 3, 3) := by decide +kernel
theorem d_Words_init_4 : decode b_Words_init 4 = .ok (.aload_n 0, 1) := by decide +kernel
theorem d_Words_init_5 : decode b_Words_init 5 = .ok (.sipush 200, 3) := by decide +kernel
theorem d_Words_init_8 : decode b_Words_init 8 = .ok (.newarray .char, 2) := by decide +kernel
theorem d_Words_init_10 : decode b_Words_init 10 = .ok (.putfield 9, 3) := by decide +kernel
theorem d_Words_init_13 : decode b_Words_init 13 = .ok (.return_, 1) := by decide +kernel
theorem d_Words_append_0 : decode b_Words_append 0 = .ok (.iload_n 1, 1) := by decide +kernel
theorem d_Words_append_1 : decode b_Words_append 1 = .ok (.bipush 32, 2) := by decide +kernel
theorem d_Words_append_3 : decode b_Words_append 3 = .ok (.if_icmp .lt 19, 3) := by decide +kernel
theorem d_Words_append_6 : decode b_Words_append 6 = .ok (.iload_n 1, 1) := by decide +kernel
theorem d_Words_append_7 : decode b_Words_append 7 = .ok (.bipush 126, 2) := by decide +kernel
theorem d_Words_append_9 : decode b_Words_append 9 = .ok (.if_icmp .gt 13, 3) := by decide +kernel
theorem d_Words_append_12 : decode b_Words_append 12 = .ok (.aload_n 0, 1) := by decide +kernel
theorem d_Words_append_13 : decode b_Words_append 13 = .ok (.getfield 15, 3) := by decide +kernel
theorem d_Words_append_16 : decode b_Words_append 16 = .ok (.sipush 200, 3) := by decide +kernel
theorem d_Words_append_19 : decode b_Words_append 19 = .ok (.if_icmp .lt 5, 3) := by decide +kernel
theorem d_Words_append_22 : decode b_Words_append 22 = .ok (.iconst 0, 1) := by decide +kernel
theorem d_Words_append_23 : decode b_Words_append 23 = .ok (.ireturn, 1) := by decide +kernel
theorem d_Words_append_24 : decode b_Words_append 24 = .ok (.aload_n 0, 1) := by decide +kernel
theorem d_Words_append_25 : decode b_Words_append 25 = .ok (.getfield 9, 3) := by decide +kernel
theorem d_Words_append_28 : decode b_Words_append 28 = .ok (.aload_n 0, 1) := by decide +kernel
theorem d_Words_append_29 : decode b_Words_append 29 = .ok (.getfield 15, 3) := by decide +kernel
theorem d_Words_append_32 : decode b_Words_append 32 = .ok (.iload_n 1, 1) := by decide +kernel
theorem d_Words_append_33 : decode b_Words_append 33 = .ok (.castore, 1) := by decide +kernel
theorem d_Words_append_34 : decode b_Words_append 34 = .ok (.aload_n 0, 1) := by decide +kernel
theorem d_Words_append_35 : decode b_Words_append 35 = .ok (.dup, 1) := by decide +kernel
theorem d_Words_append_36 : decode b_Words_append 36 = .ok (.getfield 15, 3) := by decide +kernel
theorem d_Words_append_39 : decode b_Words_append 39 = .ok (.iconst 1, 1) := by decide +kernel
theorem d_Words_append_40 : decode b_Words_append 40 = .ok (.iadd, 1) := by decide +kernel
theorem d_Words_append_41 : decode b_Words_append 41 = .ok (.putfield 15, 3) := by decide +kernel
theorem d_Words_append_44 : decode b_Words_append 44 = .ok (.iconst 1, 1) := by decide +kernel
theorem d_Words_append_45 : decode b_Words_append 45 = .ok (.ireturn, 1) := by decide +kernel
theorem d_Words_forget_0 : decode b_Words_forget 0 = .ok (.aload_n 0, 1) := by decide +kernel
theorem d_Words_forget_1 : decode b_Words_forget 1 = .ok (.iconst 0, 1) := by decide +kernel
theorem d_Words_forget_2 : decode b_Words_forget 2 = .ok (.putfield 15, 3) := by decide +kernel
theorem d_Words_forget_5 : decode b_Words_forget 5 = .ok (.return_, 1) := by decide +kernel
theorem d_Words_rewind_0 : decode b_Words_rewind 0 = .ok (.aload_n 0, 1) := by decide +kernel
theorem d_Words_rewind_1 : decode b_Words_rewind 1 = .ok (.iconst 0, 1) := by decide +kernel
theorem d_Words_rewind_2 : decode b_Words_rewind 2 = .ok (.putfield 19, 3) := by decide +kernel
theorem d_Words_rewind_5 : decode b_Words_rewind 5 = .ok (.return_, 1) := by decide +kernel
theorem d_Words_advance_0 : decode b_Words_advance 0 = .ok (.aload_n 0, 1) := by decide +kernel
theorem d_Words_advance_1 : decode b_Words_advance 1 = .ok (.aload_n 0, 1) := by decide +kernel
theorem d_Words_advance_2 : decode b_Words_advance 2 = .ok (.getfield 19, 3) := by decide +kernel
theorem d_Words_advance_5 : decode b_Words_advance 5 = .ok (.putfield 22, 3) := by decide +kernel
theorem d_Words_advance_8 : decode b_Words_advance 8 = .ok (.aload_n 0, 1) := by decide +kernel
theorem d_Words_advance_9 : decode b_Words_advance 9 = .ok (.getfield 22, 3) := by decide +kernel
theorem d_Words_advance_12 : decode b_Words_advance 12 = .ok (.aload_n 0, 1) := by decide +kernel
theorem d_Words_advance_13 : decode b_Words_advance 13 = .ok (.getfield 15, 3) := by decide +kernel
theorem d_Words_advance_16 : decode b_Words_advance 16 = .ok (.if_icmp .ge 30, 3) := by decide +kernel
theorem d_Words_advance_19 : decode b_Words_advance 19 = .ok (.aload_n 0, 1) := by decide +kernel
theorem d_Words_advance_20 : decode b_Words_advance 20 = .ok (.getfield 9, 3) := by decide +kernel
theorem d_Words_advance_23 : decode b_Words_advance 23 = .ok (.aload_n 0, 1) := by decide +kernel
theorem d_Words_advance_24 : decode b_Words_advance 24 = .ok (.getfield 22, 3) := by decide +kernel
theorem d_Words_advance_27 : decode b_Words_advance 27 = .ok (.caload, 1) := by decide +kernel
theorem d_Words_advance_28 : decode b_Words_advance 28 = .ok (.bipush 32, 2) := by decide +kernel
theorem d_Words_advance_30 : decode b_Words_advance 30 = .ok (.if_icmp .ne 16, 3) := by decide +kernel
theorem d_Words_advance_33 : decode b_Words_advance 33 = .ok (.aload_n 0, 1) := by decide +kernel
theorem d_Words_advance_34 : decode b_Words_advance 34 = .ok (.dup, 1) := by decide +kernel
theorem d_Words_advance_35 : decode b_Words_advance 35 = .ok (.getfield 22, 3) := by decide +kernel
theorem d_Words_advance_38 : decode b_Words_advance 38 = .ok (.iconst 1, 1) := by decide +kernel
theorem d_Words_advance_39 : decode b_Words_advance 39 = .ok (.iadd, 1) := by decide +kernel
theorem d_Words_advance_40 : decode b_Words_advance 40 = .ok (.putfield 22, 3) := by decide +kernel
theorem d_Words_advance_43 : decode b_Words_advance 43 = .ok (.goto (-35), 3) := by decide +kernel
theorem d_Words_advance_46 : decode b_Words_advance 46 = .ok (.aload_n 0, 1) := by decide +kernel
theorem d_Words_advance_47 : decode b_Words_advance 47 = .ok (.aload_n 0, 1) := by decide +kernel
theorem d_Words_advance_48 : decode b_Words_advance 48 = .ok (.getfield 22, 3) := by decide +kernel
theorem d_Words_advance_51 : decode b_Words_advance 51 = .ok (.putfield 19, 3) := by decide +kernel
theorem d_Words_advance_54 : decode b_Words_advance 54 = .ok (.aload_n 0, 1) := by decide +kernel
theorem d_Words_advance_55 : decode b_Words_advance 55 = .ok (.getfield 19, 3) := by decide +kernel
theorem d_Words_advance_58 : decode b_Words_advance 58 = .ok (.aload_n 0, 1) := by decide +kernel
theorem d_Words_advance_59 : decode b_Words_advance 59 = .ok (.getfield 15, 3) := by decide +kernel
theorem d_Words_advance_62 : decode b_Words_advance 62 = .ok (.if_icmp .ge 30, 3) := by decide +kernel
theorem d_Words_advance_65 : decode b_Words_advance 65 = .ok (.aload_n 0, 1) := by decide +kernel
theorem d_Words_advance_66 : decode b_Words_advance 66 = .ok (.getfield 9, 3) := by decide +kernel
theorem d_Words_advance_69 : decode b_Words_advance 69 = .ok (.aload_n 0, 1) := by decide +kernel
theorem d_Words_advance_70 : decode b_Words_advance 70 = .ok (.getfield 19, 3) := by decide +kernel
theorem d_Words_advance_73 : decode b_Words_advance 73 = .ok (.caload, 1) := by decide +kernel
theorem d_Words_advance_74 : decode b_Words_advance 74 = .ok (.bipush 32, 2) := by decide +kernel
theorem d_Words_advance_76 : decode b_Words_advance 76 = .ok (.if_icmp .eq 16, 3) := by decide +kernel
theorem d_Words_advance_79 : decode b_Words_advance 79 = .ok (.aload_n 0, 1) := by decide +kernel
theorem d_Words_advance_80 : decode b_Words_advance 80 = .ok (.dup, 1) := by decide +kernel
theorem d_Words_advance_81 : decode b_Words_advance 81 = .ok (.getfield 19, 3) := by decide +kernel
theorem d_Words_advance_84 : decode b_Words_advance 84 = .ok (.iconst 1, 1) := by decide +kernel
theorem d_Words_advance_85 : decode b_Words_advance 85 = .ok (.iadd, 1) := by decide +kernel
theorem d_Words_advance_86 : decode b_Words_advance 86 = .ok (.putfield 19, 3) := by decide +kernel
theorem d_Words_advance_89 : decode b_Words_advance 89 = .ok (.goto (-35), 3) := by decide +kernel
theorem d_Words_advance_92 : decode b_Words_advance 92 = .ok (.aload_n 0, 1) := by decide +kernel
theorem d_Words_advance_93 : decode b_Words_advance 93 = .ok (.invokevirtual 25, 3) := by decide +kernel
theorem d_Words_advance_96 : decode b_Words_advance 96 = .ok (.aload_n 0, 1) := by decide +kernel
theorem d_Words_advance_97 : decode b_Words_advance 97 = .ok (.getfield 22, 3) := by decide +kernel
theorem d_Words_advance_100 : decode b_Words_advance 100 = .ok (.aload_n 0, 1) := by decide +kernel
theorem d_Words_advance_101 : decode b_Words_advance 101 = .ok (.getfield 19, 3) := by decide +kernel
theorem d_Words_advance_104 : decode b_Words_advance 104 = .ok (.if_icmp .ge 7, 3) := by decide +kernel
theorem d_Words_advance_107 : decode b_Words_advance 107 = .ok (.iconst 1, 1) := by decide +kernel
theorem d_Words_advance_108 : decode b_Words_advance 108 = .ok (.goto 4, 3) := by decide +kernel
theorem d_Words_advance_111 : decode b_Words_advance 111 = .ok (.iconst 0, 1) := by decide +kernel
theorem d_Words_advance_112 : decode b_Words_advance 112 = .ok (.ireturn, 1) := by decide +kernel
theorem d_Words_place_0 : decode b_Words_place 0 = .ok (.aload_n 0, 1) := by decide +kernel
theorem d_Words_place_1 : decode b_Words_place 1 = .ok (.getfield 22, 3) := by decide +kernel
theorem d_Words_place_4 : decode b_Words_place 4 = .ok (.ireturn, 1) := by decide +kernel
theorem d_Words_isLetter_0 : decode b_Words_isLetter 0 = .ok (.aload_n 0, 1) := by decide +kernel
theorem d_Words_isLetter_1 : decode b_Words_isLetter 1 = .ok (.getfield 19, 3) := by decide +kernel
theorem d_Words_isLetter_4 : decode b_Words_isLetter 4 = .ok (.aload_n 0, 1) := by decide +kernel
theorem d_Words_isLetter_5 : decode b_Words_isLetter 5 = .ok (.getfield 22, 3) := by decide +kernel
theorem d_Words_isLetter_8 : decode b_Words_isLetter 8 = .ok (.isub, 1) := by decide +kernel
theorem d_Words_isLetter_9 : decode b_Words_isLetter 9 = .ok (.iconst 1, 1) := by decide +kernel
theorem d_Words_isLetter_10 : decode b_Words_isLetter 10 = .ok (.if_icmp .ne 20, 3) := by decide +kernel
theorem d_Words_isLetter_13 : decode b_Words_isLetter 13 = .ok (.aload_n 0, 1) := by decide +kernel
theorem d_Words_isLetter_14 : decode b_Words_isLetter 14 = .ok (.getfield 9, 3) := by decide +kernel
theorem d_Words_isLetter_17 : decode b_Words_isLetter 17 = .ok (.aload_n 0, 1) := by decide +kernel
theorem d_Words_isLetter_18 : decode b_Words_isLetter 18 = .ok (.getfield 22, 3) := by decide +kernel
theorem d_Words_isLetter_21 : decode b_Words_isLetter 21 = .ok (.caload, 1) := by decide +kernel
theorem d_Words_isLetter_22 : decode b_Words_isLetter 22 = .ok (.iload_n 1, 1) := by decide +kernel
theorem d_Words_isLetter_23 : decode b_Words_isLetter 23 = .ok (.if_icmp .ne 7, 3) := by decide +kernel
theorem d_Words_isLetter_26 : decode b_Words_isLetter 26 = .ok (.iconst 1, 1) := by decide +kernel
theorem d_Words_isLetter_27 : decode b_Words_isLetter 27 = .ok (.goto 4, 3) := by decide +kernel
theorem d_Words_isLetter_30 : decode b_Words_isLetter 30 = .ok (.iconst 0, 1) := by decide +kernel
theorem d_Words_isLetter_31 : decode b_Words_isLetter 31 = .ok (.ireturn, 1) := by decide +kernel
theorem d_Words_isNumber_0 : decode b_Words_isNumber 0 = .ok (.aload_n 0, 1) := by decide +kernel
theorem d_Words_isNumber_1 : decode b_Words_isNumber 1 = .ok (.getfield 28, 3) := by decide +kernel
theorem d_Words_isNumber_4 : decode b_Words_isNumber 4 = .ok (.ireturn, 1) := by decide +kernel
theorem d_Words_value_0 : decode b_Words_value 0 = .ok (.aload_n 0, 1) := by decide +kernel
theorem d_Words_value_1 : decode b_Words_value 1 = .ok (.getfield 32, 3) := by decide +kernel
theorem d_Words_value_4 : decode b_Words_value 4 = .ok (.ireturn, 1) := by decide +kernel
theorem d_Words_readNumber_0 : decode b_Words_readNumber 0 = .ok (.aload_n 0, 1) := by decide +kernel
theorem d_Words_readNumber_1 : decode b_Words_readNumber 1 = .ok (.getfield 22, 3) := by decide +kernel
theorem d_Words_readNumber_4 : decode b_Words_readNumber 4 = .ok (.aload_n 0, 1) := by decide +kernel
theorem d_Words_readNumber_5 : decode b_Words_readNumber 5 = .ok (.getfield 19, 3) := by decide +kernel
theorem d_Words_readNumber_8 : decode b_Words_readNumber 8 = .ok (.if_icmp .ge 21, 3) := by decide +kernel
theorem d_Words_readNumber_11 : decode b_Words_readNumber 11 = .ok (.aload_n 0, 1) := by decide +kernel
theorem d_Words_readNumber_12 : decode b_Words_readNumber 12 = .ok (.getfield 9, 3) := by decide +kernel
theorem d_Words_readNumber_15 : decode b_Words_readNumber 15 = .ok (.aload_n 0, 1) := by decide +kernel
theorem d_Words_readNumber_16 : decode b_Words_readNumber 16 = .ok (.getfield 22, 3) := by decide +kernel
theorem d_Words_readNumber_19 : decode b_Words_readNumber 19 = .ok (.caload, 1) := by decide +kernel
theorem d_Words_readNumber_20 : decode b_Words_readNumber 20 = .ok (.bipush 45, 2) := by decide +kernel
theorem d_Words_readNumber_22 : decode b_Words_readNumber 22 = .ok (.if_icmp .ne 7, 3) := by decide +kernel
theorem d_Words_readNumber_25 : decode b_Words_readNumber 25 = .ok (.iconst 1, 1) := by decide +kernel
theorem d_Words_readNumber_26 : decode b_Words_readNumber 26 = .ok (.goto 4, 3) := by decide +kernel
theorem d_Words_readNumber_29 : decode b_Words_readNumber 29 = .ok (.iconst 0, 1) := by decide +kernel
theorem d_Words_readNumber_30 : decode b_Words_readNumber 30 = .ok (.istore_n 1, 1) := by decide +kernel
theorem d_Words_readNumber_31 : decode b_Words_readNumber 31 = .ok (.iload_n 1, 1) := by decide +kernel
theorem d_Words_readNumber_32 : decode b_Words_readNumber 32 = .ok (.ifCond .eq 12, 3) := by decide +kernel
theorem d_Words_readNumber_35 : decode b_Words_readNumber 35 = .ok (.aload_n 0, 1) := by decide +kernel
theorem d_Words_readNumber_36 : decode b_Words_readNumber 36 = .ok (.getfield 22, 3) := by decide +kernel
theorem d_Words_readNumber_39 : decode b_Words_readNumber 39 = .ok (.iconst 1, 1) := by decide +kernel
theorem d_Words_readNumber_40 : decode b_Words_readNumber 40 = .ok (.iadd, 1) := by decide +kernel
theorem d_Words_readNumber_41 : decode b_Words_readNumber 41 = .ok (.goto 7, 3) := by decide +kernel
theorem d_Words_readNumber_44 : decode b_Words_readNumber 44 = .ok (.aload_n 0, 1) := by decide +kernel
theorem d_Words_readNumber_45 : decode b_Words_readNumber 45 = .ok (.getfield 22, 3) := by decide +kernel
theorem d_Words_readNumber_48 : decode b_Words_readNumber 48 = .ok (.istore_n 2, 1) := by decide +kernel
theorem d_Words_readNumber_49 : decode b_Words_readNumber 49 = .ok (.aload_n 0, 1) := by decide +kernel
theorem d_Words_readNumber_50 : decode b_Words_readNumber 50 = .ok (.getfield 19, 3) := by decide +kernel
theorem d_Words_readNumber_53 : decode b_Words_readNumber 53 = .ok (.iload_n 2, 1) := by decide +kernel
theorem d_Words_readNumber_54 : decode b_Words_readNumber 54 = .ok (.isub, 1) := by decide +kernel
theorem d_Words_readNumber_55 : decode b_Words_readNumber 55 = .ok (.istore_n 3, 1) := by decide +kernel
theorem d_Words_readNumber_56 : decode b_Words_readNumber 56 = .ok (.aload_n 0, 1) := by decide +kernel
theorem d_Words_readNumber_57 : decode b_Words_readNumber 57 = .ok (.iload_n 3, 1) := by decide +kernel
theorem d_Words_readNumber_58 : decode b_Words_readNumber 58 = .ok (.iconst 1, 1) := by decide +kernel
theorem d_Words_readNumber_59 : decode b_Words_readNumber 59 = .ok (.if_icmp .lt 22, 3) := by decide +kernel
theorem d_Words_readNumber_62 : decode b_Words_readNumber 62 = .ok (.iload_n 3, 1) := by decide +kernel
theorem d_Words_readNumber_63 : decode b_Words_readNumber 63 = .ok (.iconst 3, 1) := by decide +kernel
theorem d_Words_readNumber_64 : decode b_Words_readNumber 64 = .ok (.if_icmp .gt 17, 3) := by decide +kernel
theorem d_Words_readNumber_67 : decode b_Words_readNumber 67 = .ok (.aload_n 0, 1) := by decide +kernel
theorem d_Words_readNumber_68 : decode b_Words_readNumber 68 = .ok (.iload_n 2, 1) := by decide +kernel
theorem d_Words_readNumber_69 : decode b_Words_readNumber 69 = .ok (.iload_n 3, 1) := by decide +kernel
theorem d_Words_readNumber_70 : decode b_Words_readNumber 70 = .ok (.iload_n 1, 1) := by decide +kernel
theorem d_Words_readNumber_71 : decode b_Words_readNumber 71 = .ok (.invokevirtual 35, 3) := by decide +kernel
theorem d_Words_readNumber_74 : decode b_Words_readNumber 74 = .ok (.ifCond .ne 7, 3) := by decide +kernel
theorem d_Words_readNumber_77 : decode b_Words_readNumber 77 = .ok (.iconst 1, 1) := by decide +kernel
theorem d_Words_readNumber_78 : decode b_Words_readNumber 78 = .ok (.goto 4, 3) := by decide +kernel
theorem d_Words_readNumber_81 : decode b_Words_readNumber 81 = .ok (.iconst 0, 1) := by decide +kernel
theorem d_Words_readNumber_82 : decode b_Words_readNumber 82 = .ok (.putfield 28, 3) := by decide +kernel
theorem d_Words_readNumber_85 : decode b_Words_readNumber 85 = .ok (.iconst 0, 1) := by decide +kernel
theorem d_Words_readNumber_86 : decode b_Words_readNumber 86 = .ok (.istore 4, 2) := by decide +kernel
theorem d_Words_readNumber_88 : decode b_Words_readNumber 88 = .ok (.iload_n 2, 1) := by decide +kernel
theorem d_Words_readNumber_89 : decode b_Words_readNumber 89 = .ok (.istore 5, 2) := by decide +kernel
theorem d_Words_readNumber_91 : decode b_Words_readNumber 91 = .ok (.iload 5, 2) := by decide +kernel
theorem d_Words_readNumber_93 : decode b_Words_readNumber 93 = .ok (.aload_n 0, 1) := by decide +kernel
theorem d_Words_readNumber_94 : decode b_Words_readNumber 94 = .ok (.getfield 19, 3) := by decide +kernel
theorem d_Words_readNumber_97 : decode b_Words_readNumber 97 = .ok (.if_icmp .ge 61, 3) := by decide +kernel
theorem d_Words_readNumber_100 : decode b_Words_readNumber 100 = .ok (.aload_n 0, 1) := by decide +kernel
theorem d_Words_readNumber_101 : decode b_Words_readNumber 101 = .ok (.getfield 28, 3) := by decide +kernel
theorem d_Words_readNumber_104 : decode b_Words_readNumber 104 = .ok (.ifCond .eq 54, 3) := by decide +kernel
theorem d_Words_readNumber_107 : decode b_Words_readNumber 107 = .ok (.aload_n 0, 1) := by decide +kernel
theorem d_Words_readNumber_108 : decode b_Words_readNumber 108 = .ok (.getfield 9, 3) := by decide +kernel
theorem d_Words_readNumber_111 : decode b_Words_readNumber 111 = .ok (.iload 5, 2) := by decide +kernel
theorem d_Words_readNumber_113 : decode b_Words_readNumber 113 = .ok (.caload, 1) := by decide +kernel
theorem d_Words_readNumber_114 : decode b_Words_readNumber 114 = .ok (.istore 6, 2) := by decide +kernel
theorem d_Words_readNumber_116 : decode b_Words_readNumber 116 = .ok (.aload_n 0, 1) := by decide +kernel
theorem d_Words_readNumber_117 : decode b_Words_readNumber 117 = .ok (.iload 6, 2) := by decide +kernel
theorem d_Words_readNumber_119 : decode b_Words_readNumber 119 = .ok (.bipush 48, 2) := by decide +kernel
theorem d_Words_readNumber_121 : decode b_Words_readNumber 121 = .ok (.if_icmp .lt 14, 3) := by decide +kernel
theorem d_Words_readNumber_124 : decode b_Words_readNumber 124 = .ok (.iload 6, 2) := by decide +kernel
theorem d_Words_readNumber_126 : decode b_Words_readNumber 126 = .ok (.bipush 57, 2) := by decide +kernel
theorem d_Words_readNumber_128 : decode b_Words_readNumber 128 = .ok (.if_icmp .gt 7, 3) := by decide +kernel
theorem d_Words_readNumber_131 : decode b_Words_readNumber 131 = .ok (.iconst 1, 1) := by decide +kernel
theorem d_Words_readNumber_132 : decode b_Words_readNumber 132 = .ok (.goto 4, 3) := by decide +kernel
theorem d_Words_readNumber_135 : decode b_Words_readNumber 135 = .ok (.iconst 0, 1) := by decide +kernel
theorem d_Words_readNumber_136 : decode b_Words_readNumber 136 = .ok (.putfield 28, 3) := by decide +kernel
theorem d_Words_readNumber_139 : decode b_Words_readNumber 139 = .ok (.iload 4, 2) := by decide +kernel
theorem d_Words_readNumber_141 : decode b_Words_readNumber 141 = .ok (.bipush 10, 2) := by decide +kernel
theorem d_Words_readNumber_143 : decode b_Words_readNumber 143 = .ok (.imul, 1) := by decide +kernel
theorem d_Words_readNumber_144 : decode b_Words_readNumber 144 = .ok (.iload 6, 2) := by decide +kernel
theorem d_Words_readNumber_146 : decode b_Words_readNumber 146 = .ok (.bipush 48, 2) := by decide +kernel
theorem d_Words_readNumber_148 : decode b_Words_readNumber 148 = .ok (.isub, 1) := by decide +kernel
theorem d_Words_readNumber_149 : decode b_Words_readNumber 149 = .ok (.iadd, 1) := by decide +kernel
theorem d_Words_readNumber_150 : decode b_Words_readNumber 150 = .ok (.istore 4, 2) := by decide +kernel
theorem d_Words_readNumber_152 : decode b_Words_readNumber 152 = .ok (.iinc 5 1, 3) := by decide +kernel
theorem d_Words_readNumber_155 : decode b_Words_readNumber 155 = .ok (.goto (-64), 3) := by decide +kernel
theorem d_Words_readNumber_158 : decode b_Words_readNumber 158 = .ok (.aload_n 0, 1) := by decide +kernel
theorem d_Words_readNumber_159 : decode b_Words_readNumber 159 = .ok (.iload_n 1, 1) := by decide +kernel
theorem d_Words_readNumber_160 : decode b_Words_readNumber 160 = .ok (.ifCond .eq 9, 3) := by decide +kernel
theorem d_Words_readNumber_163 : decode b_Words_readNumber 163 = .ok (.iload 4, 2) := by decide +kernel
theorem d_Words_readNumber_165 : decode b_Words_readNumber 165 = .ok (.ineg, 1) := by decide +kernel
theorem d_Words_readNumber_166 : decode b_Words_readNumber 166 = .ok (.goto 5, 3) := by decide +kernel
theorem d_Words_readNumber_169 : decode b_Words_readNumber 169 = .ok (.iload 4, 2) := by decide +kernel
theorem d_Words_readNumber_171 : decode b_Words_readNumber 171 = .ok (.putfield 32, 3) := by decide +kernel
theorem d_Words_readNumber_174 : decode b_Words_readNumber 174 = .ok (.return_, 1) := by decide +kernel
theorem d_Words_hasIdleZero_0 : decode b_Words_hasIdleZero 0 = .ok (.aload_n 0, 1) := by decide +kernel
theorem d_Words_hasIdleZero_1 : decode b_Words_hasIdleZero 1 = .ok (.getfield 9, 3) := by decide +kernel
theorem d_Words_hasIdleZero_4 : decode b_Words_hasIdleZero 4 = .ok (.iload_n 1, 1) := by decide +kernel
theorem d_Words_hasIdleZero_5 : decode b_Words_hasIdleZero 5 = .ok (.caload, 1) := by decide +kernel
theorem d_Words_hasIdleZero_6 : decode b_Words_hasIdleZero 6 = .ok (.bipush 48, 2) := by decide +kernel
theorem d_Words_hasIdleZero_8 : decode b_Words_hasIdleZero 8 = .ok (.if_icmp .ne 16, 3) := by decide +kernel
theorem d_Words_hasIdleZero_11 : decode b_Words_hasIdleZero 11 = .ok (.iload_n 3, 1) := by decide +kernel
theorem d_Words_hasIdleZero_12 : decode b_Words_hasIdleZero 12 = .ok (.ifCond .ne 8, 3) := by decide +kernel
theorem d_Words_hasIdleZero_15 : decode b_Words_hasIdleZero 15 = .ok (.iload_n 2, 1) := by decide +kernel
theorem d_Words_hasIdleZero_16 : decode b_Words_hasIdleZero 16 = .ok (.iconst 1, 1) := by decide +kernel
theorem d_Words_hasIdleZero_17 : decode b_Words_hasIdleZero 17 = .ok (.if_icmp .le 7, 3) := by decide +kernel
theorem d_Words_hasIdleZero_20 : decode b_Words_hasIdleZero 20 = .ok (.iconst 1, 1) := by decide +kernel
theorem d_Words_hasIdleZero_21 : decode b_Words_hasIdleZero 21 = .ok (.goto 4, 3) := by decide +kernel
theorem d_Words_hasIdleZero_24 : decode b_Words_hasIdleZero 24 = .ok (.iconst 0, 1) := by decide +kernel
theorem d_Words_hasIdleZero_25 : decode b_Words_hasIdleZero 25 = .ok (.ireturn, 1) := by decide +kernel
theorem d_Formula_init_0 : decode b_Formula_init 0 = .ok (.aload_n 0, 1) := by decide +kernel
theorem d_Formula_init_1 : decode b_Formula_init 1 = .ok (.invokespecial 3, 3) := by decide +kernel
theorem d_Formula_init_4 : decode b_Formula_init 4 = .ok (.aload_n 0, 1) := by decide +kernel
theorem d_Formula_init_5 : decode b_Formula_init 5 = .ok (.bipush 8, 2) := by decide +kernel
theorem d_Formula_init_7 : decode b_Formula_init 7 = .ok (.newarray .int, 2) := by decide +kernel
theorem d_Formula_init_9 : decode b_Formula_init 9 = .ok (.putfield 9, 3) := by decide +kernel
theorem d_Formula_init_12 : decode b_Formula_init 12 = .ok (.aload_n 0, 1) := by decide +kernel
theorem d_Formula_init_13 : decode b_Formula_init 13 = .ok (.bipush 12, 2) := by decide +kernel
theorem d_Formula_init_15 : decode b_Formula_init 15 = .ok (.newarray .int, 2) := by decide +kernel
theorem d_Formula_init_17 : decode b_Formula_init 17 = .ok (.putfield 15, 3) := by decide +kernel
theorem d_Formula_init_20 : decode b_Formula_init 20 = .ok (.return_, 1) := by decide +kernel
theorem d_Formula_forget_0 : decode b_Formula_forget 0 = .ok (.aload_n 0, 1) := by decide +kernel
theorem d_Formula_forget_1 : decode b_Formula_forget 1 = .ok (.iconst 0, 1) := by decide +kernel
theorem d_Formula_forget_2 : decode b_Formula_forget 2 = .ok (.putfield 18, 3) := by decide +kernel
theorem d_Formula_forget_5 : decode b_Formula_forget 5 = .ok (.aload_n 0, 1) := by decide +kernel
theorem d_Formula_forget_6 : decode b_Formula_forget 6 = .ok (.iconst 0, 1) := by decide +kernel
theorem d_Formula_forget_7 : decode b_Formula_forget 7 = .ok (.putfield 22, 3) := by decide +kernel
theorem d_Formula_forget_10 : decode b_Formula_forget 10 = .ok (.aload_n 0, 1) := by decide +kernel
theorem d_Formula_forget_11 : decode b_Formula_forget 11 = .ok (.iconst 0, 1) := by decide +kernel
theorem d_Formula_forget_12 : decode b_Formula_forget 12 = .ok (.putfield 25, 3) := by decide +kernel
theorem d_Formula_forget_15 : decode b_Formula_forget 15 = .ok (.aload_n 0, 1) := by decide +kernel
theorem d_Formula_forget_16 : decode b_Formula_forget 16 = .ok (.iconst 0, 1) := by decide +kernel
theorem d_Formula_forget_17 : decode b_Formula_forget 17 = .ok (.putfield 28, 3) := by decide +kernel
theorem d_Formula_forget_20 : decode b_Formula_forget 20 = .ok (.return_, 1) := by decide +kernel
theorem d_Formula_hasLiteral_0 : decode b_Formula_hasLiteral 0 = .ok (.iload_n 1, 1) := by decide +kernel
theorem d_Formula_hasLiteral_1 : decode b_Formula_hasLiteral 1 = .ok (.ifCond .eq 39, 3) := by decide +kernel
theorem d_Formula_hasLiteral_4 : decode b_Formula_hasLiteral 4 = .ok (.iload_n 1, 1) := by decide +kernel
theorem d_Formula_hasLiteral_5 : decode b_Formula_hasLiteral 5 = .ok (.bipush (-8), 2) := by decide +kernel
theorem d_Formula_hasLiteral_7 : decode b_Formula_hasLiteral 7 = .ok (.if_icmp .lt 33, 3) := by decide +kernel
theorem d_Formula_hasLiteral_10 : decode b_Formula_hasLiteral 10 = .ok (.iload_n 1, 1) := by decide +kernel
theorem d_Formula_hasLiteral_11 : decode b_Formula_hasLiteral 11 = .ok (.bipush 8, 2) := by decide +kernel
theorem d_Formula_hasLiteral_13 : decode b_Formula_hasLiteral 13 = .ok (.if_icmp .gt 27, 3) := by decide +kernel
theorem d_Formula_hasLiteral_16 : decode b_Formula_hasLiteral 16 = .ok (.aload_n 0, 1) := by decide +kernel
theorem d_Formula_hasLiteral_17 : decode b_Formula_hasLiteral 17 = .ok (.getfield 25, 3) := by decide +kernel
theorem d_Formula_hasLiteral_20 : decode b_Formula_hasLiteral 20 = .ok (.aload_n 0, 1) := by decide +kernel
theorem d_Formula_hasLiteral_21 : decode b_Formula_hasLiteral 21 = .ok (.getfield 28, 3) := by decide +kernel
theorem d_Formula_hasLiteral_24 : decode b_Formula_hasLiteral 24 = .ok (.ior, 1) := by decide +kernel
theorem d_Formula_hasLiteral_25 : decode b_Formula_hasLiteral 25 = .ok (.invokestatic 31, 3) := by decide +kernel
theorem d_Formula_hasLiteral_28 : decode b_Formula_hasLiteral 28 = .ok (.iload_n 1, 1) := by decide +kernel
theorem d_Formula_hasLiteral_29 : decode b_Formula_hasLiteral 29 = .ok (.invokestatic 35, 3) := by decide +kernel
theorem d_Formula_hasLiteral_32 : decode b_Formula_hasLiteral 32 = .ok (.iand, 1) := by decide +kernel
theorem d_Formula_hasLiteral_33 : decode b_Formula_hasLiteral 33 = .ok (.ifCond .eq 7, 3) := by decide +kernel
theorem d_Formula_hasLiteral_36 : decode b_Formula_hasLiteral 36 = .ok (.iconst 1, 1) := by decide +kernel
theorem d_Formula_hasLiteral_37 : decode b_Formula_hasLiteral 37 = .ok (.goto 4, 3) := by decide +kernel
theorem d_Formula_hasLiteral_40 : decode b_Formula_hasLiteral 40 = .ok (.iconst 0, 1) := by decide +kernel
theorem d_Formula_hasLiteral_41 : decode b_Formula_hasLiteral 41 = .ok (.ireturn, 1) := by decide +kernel
theorem d_Formula_isForAll_0 : decode b_Formula_isForAll 0 = .ok (.aload_n 0, 1) := by decide +kernel
theorem d_Formula_isForAll_1 : decode b_Formula_isForAll 1 = .ok (.getfield 25, 3) := by decide +kernel
theorem d_Formula_isForAll_4 : decode b_Formula_isForAll 4 = .ok (.iload_n 1, 1) := by decide +kernel
theorem d_Formula_isForAll_5 : decode b_Formula_isForAll 5 = .ok (.invokestatic 35, 3) := by decide +kernel
theorem d_Formula_isForAll_8 : decode b_Formula_isForAll 8 = .ok (.iand, 1) := by decide +kernel
theorem d_Formula_isForAll_9 : decode b_Formula_isForAll 9 = .ok (.ifCond .eq 7, 3) := by decide +kernel
theorem d_Formula_isForAll_12 : decode b_Formula_isForAll 12 = .ok (.iconst 1, 1) := by decide +kernel
theorem d_Formula_isForAll_13 : decode b_Formula_isForAll 13 = .ok (.goto 4, 3) := by decide +kernel
theorem d_Formula_isForAll_16 : decode b_Formula_isForAll 16 = .ok (.iconst 0, 1) := by decide +kernel
theorem d_Formula_isForAll_17 : decode b_Formula_isForAll 17 = .ok (.ireturn, 1) := by decide +kernel
theorem d_Formula_addVariable_0 : decode b_Formula_addVariable 0 = .ok (.aload_n 0, 1) := by decide +kernel
theorem d_Formula_addVariable_1 : decode b_Formula_addVariable 1 = .ok (.getfield 18, 3) := by decide +kernel
theorem d_Formula_addVariable_4 : decode b_Formula_addVariable 4 = .ok (.bipush 8, 2) := by decide +kernel
theorem d_Formula_addVariable_6 : decode b_Formula_addVariable 6 = .ok (.if_icmp .lt 4, 3) := by decide +kernel
theorem d_Formula_addVariable_9 : decode b_Formula_addVariable 9 = .ok (.return_, 1) := by decide +kernel
theorem d_Formula_addVariable_10 : decode b_Formula_addVariable 10 = .ok (.aload_n 0, 1) := by decide +kernel
theorem d_Formula_addVariable_11 : decode b_Formula_addVariable 11 = .ok (.getfield 9, 3) := by decide +kernel
theorem d_Formula_addVariable_14 : decode b_Formula_addVariable 14 = .ok (.aload_n 0, 1) := by decide +kernel
theorem d_Formula_addVariable_15 : decode b_Formula_addVariable 15 = .ok (.getfield 18, 3) := by decide +kernel
theorem d_Formula_addVariable_18 : decode b_Formula_addVariable 18 = .ok (.iload_n 1, 1) := by decide +kernel
theorem d_Formula_addVariable_19 : decode b_Formula_addVariable 19 = .ok (.iastore, 1) := by decide +kernel
theorem d_Formula_addVariable_20 : decode b_Formula_addVariable 20 = .ok (.aload_n 0, 1) := by decide +kernel
theorem d_Formula_addVariable_21 : decode b_Formula_addVariable 21 = .ok (.dup, 1) := by decide +kernel
theorem d_Formula_addVariable_22 : decode b_Formula_addVariable 22 = .ok (.getfield 18, 3) := by decide +kernel
theorem d_Formula_addVariable_25 : decode b_Formula_addVariable 25 = .ok (.iconst 1, 1) := by decide +kernel
theorem d_Formula_addVariable_26 : decode b_Formula_addVariable 26 = .ok (.iadd, 1) := by decide +kernel
theorem d_Formula_addVariable_27 : decode b_Formula_addVariable 27 = .ok (.putfield 18, 3) := by decide +kernel
theorem d_Formula_addVariable_30 : decode b_Formula_addVariable 30 = .ok (.iload_n 2, 1) := by decide +kernel
theorem d_Formula_addVariable_31 : decode b_Formula_addVariable 31 = .ok (.ifCond .eq 19, 3) := by decide +kernel
theorem d_Formula_addVariable_34 : decode b_Formula_addVariable 34 = .ok (.aload_n 0, 1) := by decide +kernel
theorem d_Formula_addVariable_35 : decode b_Formula_addVariable 35 = .ok (.dup, 1) := by decide +kernel
theorem d_Formula_addVariable_36 : decode b_Formula_addVariable 36 = .ok (.getfield 25, 3) := by decide +kernel
theorem d_Formula_addVariable_39 : decode b_Formula_addVariable 39 = .ok (.iload_n 1, 1) := by decide +kernel
theorem d_Formula_addVariable_40 : decode b_Formula_addVariable 40 = .ok (.invokestatic 35, 3) := by decide +kernel
theorem d_Formula_addVariable_43 : decode b_Formula_addVariable 43 = .ok (.ior, 1) := by decide +kernel
theorem d_Formula_addVariable_44 : decode b_Formula_addVariable 44 = .ok (.putfield 25, 3) := by decide +kernel
theorem d_Formula_addVariable_47 : decode b_Formula_addVariable 47 = .ok (.goto 16, 3) := by decide +kernel
theorem d_Formula_addVariable_50 : decode b_Formula_addVariable 50 = .ok (.aload_n 0, 1) := by decide +kernel
theorem d_Formula_addVariable_51 : decode b_Formula_addVariable 51 = .ok (.dup, 1) := by decide +kernel
theorem d_Formula_addVariable_52 : decode b_Formula_addVariable 52 = .ok (.getfield 28, 3) := by decide +kernel
theorem d_Formula_addVariable_55 : decode b_Formula_addVariable 55 = .ok (.iload_n 1, 1) := by decide +kernel
theorem d_Formula_addVariable_56 : decode b_Formula_addVariable 56 = .ok (.invokestatic 35, 3) := by decide +kernel
theorem d_Formula_addVariable_59 : decode b_Formula_addVariable 59 = .ok (.ior, 1) := by decide +kernel
theorem d_Formula_addVariable_60 : decode b_Formula_addVariable 60 = .ok (.putfield 28, 3) := by decide +kernel
theorem d_Formula_addVariable_63 : decode b_Formula_addVariable 63 = .ok (.return_, 1) := by decide +kernel
theorem d_Formula_addClause_0 : decode b_Formula_addClause 0 = .ok (.aload_n 0, 1) := by decide +kernel
theorem d_Formula_addClause_1 : decode b_Formula_addClause 1 = .ok (.getfield 22, 3) := by decide +kernel
theorem d_Formula_addClause_4 : decode b_Formula_addClause 4 = .ok (.bipush 12, 2) := by decide +kernel
theorem d_Formula_addClause_6 : decode b_Formula_addClause 6 = .ok (.if_icmp .lt 5, 3) := by decide +kernel
theorem d_Formula_addClause_9 : decode b_Formula_addClause 9 = .ok (.iconst 0, 1) := by decide +kernel
theorem d_Formula_addClause_10 : decode b_Formula_addClause 10 = .ok (.ireturn, 1) := by decide +kernel
theorem d_Formula_addClause_11 : decode b_Formula_addClause 11 = .ok (.aload_n 0, 1) := by decide +kernel
theorem d_Formula_addClause_12 : decode b_Formula_addClause 12 = .ok (.getfield 15, 3) := by decide +kernel
theorem d_Formula_addClause_15 : decode b_Formula_addClause 15 = .ok (.aload_n 0, 1) := by decide +kernel
theorem d_Formula_addClause_16 : decode b_Formula_addClause 16 = .ok (.getfield 22, 3) := by decide +kernel
theorem d_Formula_addClause_19 : decode b_Formula_addClause 19 = .ok (.iload_n 1, 1) := by decide +kernel
theorem d_Formula_addClause_20 : decode b_Formula_addClause 20 = .ok (.iastore, 1) := by decide +kernel
theorem d_Formula_addClause_21 : decode b_Formula_addClause 21 = .ok (.aload_n 0, 1) := by decide +kernel
theorem d_Formula_addClause_22 : decode b_Formula_addClause 22 = .ok (.dup, 1) := by decide +kernel
theorem d_Formula_addClause_23 : decode b_Formula_addClause 23 = .ok (.getfield 22, 3) := by decide +kernel
theorem d_Formula_addClause_26 : decode b_Formula_addClause 26 = .ok (.iconst 1, 1) := by decide +kernel
theorem d_Formula_addClause_27 : decode b_Formula_addClause 27 = .ok (.iadd, 1) := by decide +kernel
theorem d_Formula_addClause_28 : decode b_Formula_addClause 28 = .ok (.putfield 22, 3) := by decide +kernel
theorem d_Formula_addClause_31 : decode b_Formula_addClause 31 = .ok (.iconst 1, 1) := by decide +kernel
theorem d_Formula_addClause_32 : decode b_Formula_addClause 32 = .ok (.ireturn, 1) := by decide +kernel
theorem d_Formula_hasClause_0 : decode b_Formula_hasClause 0 = .ok (.iconst 0, 1) := by decide +kernel
theorem d_Formula_hasClause_1 : decode b_Formula_hasClause 1 = .ok (.istore_n 2, 1) := by decide +kernel
theorem d_Formula_hasClause_2 : decode b_Formula_hasClause 2 = .ok (.iload_n 2, 1) := by decide +kernel
theorem d_Formula_hasClause_3 : decode b_Formula_hasClause 3 = .ok (.aload_n 0, 1) := by decide +kernel
theorem d_Formula_hasClause_4 : decode b_Formula_hasClause 4 = .ok (.getfield 22, 3) := by decide +kernel
theorem d_Formula_hasClause_7 : decode b_Formula_hasClause 7 = .ok (.if_icmp .ge 21, 3) := by decide +kernel
theorem d_Formula_hasClause_10 : decode b_Formula_hasClause 10 = .ok (.aload_n 0, 1) := by decide +kernel
theorem d_Formula_hasClause_11 : decode b_Formula_hasClause 11 = .ok (.getfield 15, 3) := by decide +kernel
theorem d_Formula_hasClause_14 : decode b_Formula_hasClause 14 = .ok (.iload_n 2, 1) := by decide +kernel
theorem d_Formula_hasClause_15 : decode b_Formula_hasClause 15 = .ok (.iaload, 1) := by decide +kernel
theorem d_Formula_hasClause_16 : decode b_Formula_hasClause 16 = .ok (.iload_n 1, 1) := by decide +kernel
theorem d_Formula_hasClause_17 : decode b_Formula_hasClause 17 = .ok (.if_icmp .ne 5, 3) := by decide +kernel
theorem d_Formula_hasClause_20 : decode b_Formula_hasClause 20 = .ok (.iconst 1, 1) := by decide +kernel
theorem d_Formula_hasClause_21 : decode b_Formula_hasClause 21 = .ok (.ireturn, 1) := by decide +kernel
theorem d_Formula_hasClause_22 : decode b_Formula_hasClause 22 = .ok (.iinc 2 1, 3) := by decide +kernel
theorem d_Formula_hasClause_25 : decode b_Formula_hasClause 25 = .ok (.goto (-23), 3) := by decide +kernel
theorem d_Formula_hasClause_28 : decode b_Formula_hasClause 28 = .ok (.iconst 0, 1) := by decide +kernel
theorem d_Formula_hasClause_29 : decode b_Formula_hasClause 29 = .ok (.ireturn, 1) := by decide +kernel
theorem d_Formula_isMetBy_0 : decode b_Formula_isMetBy 0 = .ok (.iconst 0, 1) := by decide +kernel
theorem d_Formula_isMetBy_1 : decode b_Formula_isMetBy 1 = .ok (.istore_n 2, 1) := by decide +kernel
theorem d_Formula_isMetBy_2 : decode b_Formula_isMetBy 2 = .ok (.iload_n 2, 1) := by decide +kernel
theorem d_Formula_isMetBy_3 : decode b_Formula_isMetBy 3 = .ok (.aload_n 0, 1) := by decide +kernel
theorem d_Formula_isMetBy_4 : decode b_Formula_isMetBy 4 = .ok (.getfield 22, 3) := by decide +kernel
theorem d_Formula_isMetBy_7 : decode b_Formula_isMetBy 7 = .ok (.if_icmp .ge 22, 3) := by decide +kernel
theorem d_Formula_isMetBy_10 : decode b_Formula_isMetBy 10 = .ok (.aload_n 0, 1) := by decide +kernel
theorem d_Formula_isMetBy_11 : decode b_Formula_isMetBy 11 = .ok (.getfield 15, 3) := by decide +kernel
theorem d_Formula_isMetBy_14 : decode b_Formula_isMetBy 14 = .ok (.iload_n 2, 1) := by decide +kernel
theorem d_Formula_isMetBy_15 : decode b_Formula_isMetBy 15 = .ok (.iaload, 1) := by decide +kernel
theorem d_Formula_isMetBy_16 : decode b_Formula_isMetBy 16 = .ok (.iload_n 1, 1) := by decide +kernel
theorem d_Formula_isMetBy_17 : decode b_Formula_isMetBy 17 = .ok (.iand, 1) := by decide +kernel
theorem d_Formula_isMetBy_18 : decode b_Formula_isMetBy 18 = .ok (.ifCond .ne 5, 3) := by decide +kernel
theorem d_Formula_isMetBy_21 : decode b_Formula_isMetBy 21 = .ok (.iconst 0, 1) := by decide +kernel
theorem d_Formula_isMetBy_22 : decode b_Formula_isMetBy 22 = .ok (.ireturn, 1) := by decide +kernel
theorem d_Formula_isMetBy_23 : decode b_Formula_isMetBy 23 = .ok (.iinc 2 1, 3) := by decide +kernel
theorem d_Formula_isMetBy_26 : decode b_Formula_isMetBy 26 = .ok (.goto (-24), 3) := by decide +kernel
theorem d_Formula_isMetBy_29 : decode b_Formula_isMetBy 29 = .ok (.iconst 1, 1) := by decide +kernel
theorem d_Formula_isMetBy_30 : decode b_Formula_isMetBy 30 = .ok (.ireturn, 1) := by decide +kernel
theorem d_Formula_innerToAll_0 : decode b_Formula_innerToAll 0 = .ok (.iconst 0, 1) := by decide +kernel
theorem d_Formula_innerToAll_1 : decode b_Formula_innerToAll 1 = .ok (.istore_n 2, 1) := by decide +kernel
theorem d_Formula_innerToAll_2 : decode b_Formula_innerToAll 2 = .ok (.aload_n 0, 1) := by decide +kernel
theorem d_Formula_innerToAll_3 : decode b_Formula_innerToAll 3 = .ok (.getfield 18, 3) := by decide +kernel
theorem d_Formula_innerToAll_6 : decode b_Formula_innerToAll 6 = .ok (.iconst 1, 1) := by decide +kernel
theorem d_Formula_innerToAll_7 : decode b_Formula_innerToAll 7 = .ok (.isub, 1) := by decide +kernel
theorem d_Formula_innerToAll_8 : decode b_Formula_innerToAll 8 = .ok (.istore_n 3, 1) := by decide +kernel
theorem d_Formula_innerToAll_9 : decode b_Formula_innerToAll 9 = .ok (.iload_n 3, 1) := by decide +kernel
theorem d_Formula_innerToAll_10 : decode b_Formula_innerToAll 10 = .ok (.ifCond .lt 34, 3) := by decide +kernel
theorem d_Formula_innerToAll_13 : decode b_Formula_innerToAll 13 = .ok (.aload_n 0, 1) := by decide +kernel
theorem d_Formula_innerToAll_14 : decode b_Formula_innerToAll 14 = .ok (.getfield 9, 3) := by decide +kernel
theorem d_Formula_innerToAll_17 : decode b_Formula_innerToAll 17 = .ok (.iload_n 3, 1) := by decide +kernel
theorem d_Formula_innerToAll_18 : decode b_Formula_innerToAll 18 = .ok (.iaload, 1) := by decide +kernel
theorem d_Formula_innerToAll_19 : decode b_Formula_innerToAll 19 = .ok (.invokestatic 35, 3) := by decide +kernel
theorem d_Formula_innerToAll_22 : decode b_Formula_innerToAll 22 = .ok (.istore 4, 2) := by decide +kernel
theorem d_Formula_innerToAll_24 : decode b_Formula_innerToAll 24 = .ok (.iload_n 1, 1) := by decide +kernel
theorem d_Formula_innerToAll_25 : decode b_Formula_innerToAll 25 = .ok (.iload 4, 2) := by decide +kernel
theorem d_Formula_innerToAll_27 : decode b_Formula_innerToAll 27 = .ok (.iand, 1) := by decide +kernel
theorem d_Formula_innerToAll_28 : decode b_Formula_innerToAll 28 = .ok (.ifCond .eq 5, 3) := by decide +kernel
theorem d_Formula_innerToAll_31 : decode b_Formula_innerToAll 31 = .ok (.iload_n 2, 1) := by decide +kernel
theorem d_Formula_innerToAll_32 : decode b_Formula_innerToAll 32 = .ok (.ireturn, 1) := by decide +kernel
theorem d_Formula_innerToAll_33 : decode b_Formula_innerToAll 33 = .ok (.iload_n 2, 1) := by decide +kernel
theorem d_Formula_innerToAll_34 : decode b_Formula_innerToAll 34 = .ok (.iload 4, 2) := by decide +kernel
theorem d_Formula_innerToAll_36 : decode b_Formula_innerToAll 36 = .ok (.ior, 1) := by decide +kernel
theorem d_Formula_innerToAll_37 : decode b_Formula_innerToAll 37 = .ok (.istore_n 2, 1) := by decide +kernel
theorem d_Formula_innerToAll_38 : decode b_Formula_innerToAll 38 = .ok (.iinc 3 (-1), 3) := by decide +kernel
theorem d_Formula_innerToAll_41 : decode b_Formula_innerToAll 41 = .ok (.goto (-32), 3) := by decide +kernel
theorem d_Formula_innerToAll_44 : decode b_Formula_innerToAll 44 = .ok (.iload_n 2, 1) := by decide +kernel
theorem d_Formula_innerToAll_45 : decode b_Formula_innerToAll 45 = .ok (.ireturn, 1) := by decide +kernel
theorem d_Formula_isWon_0 : decode b_Formula_isWon 0 = .ok (.iconst 0, 1) := by decide +kernel
theorem d_Formula_isWon_1 : decode b_Formula_isWon 1 = .ok (.istore_n 3, 1) := by decide +kernel
theorem d_Formula_isWon_2 : decode b_Formula_isWon 2 = .ok (.iconst 0, 1) := by decide +kernel
theorem d_Formula_isWon_3 : decode b_Formula_isWon 3 = .ok (.istore 4, 2) := by decide +kernel
theorem d_Formula_isWon_5 : decode b_Formula_isWon 5 = .ok (.iload 4, 2) := by decide +kernel
theorem d_Formula_isWon_7 : decode b_Formula_isWon 7 = .ok (.iload_n 1, 1) := by decide +kernel
theorem d_Formula_isWon_8 : decode b_Formula_isWon 8 = .ok (.if_icmp .ge 33, 3) := by decide +kernel
theorem d_Formula_isWon_11 : decode b_Formula_isWon 11 = .ok (.iload 4, 2) := by decide +kernel
theorem d_Formula_isWon_13 : decode b_Formula_isWon 13 = .ok (.aload_n 0, 1) := by decide +kernel
theorem d_Formula_isWon_14 : decode b_Formula_isWon 14 = .ok (.getfield 18, 3) := by decide +kernel
theorem d_Formula_isWon_17 : decode b_Formula_isWon 17 = .ok (.if_icmp .ge 24, 3) := by decide +kernel
theorem d_Formula_isWon_20 : decode b_Formula_isWon 20 = .ok (.iload_n 3, 1) := by decide +kernel
theorem d_Formula_isWon_21 : decode b_Formula_isWon 21 = .ok (.aload_n 0, 1) := by decide +kernel
theorem d_Formula_isWon_22 : decode b_Formula_isWon 22 = .ok (.iload 4, 2) := by decide +kernel
theorem d_Formula_isWon_24 : decode b_Formula_isWon 24 = .ok (.iload_n 2, 1) := by decide +kernel
theorem d_Formula_isWon_25 : decode b_Formula_isWon 25 = .ok (.iload 4, 2) := by decide +kernel
theorem d_Formula_isWon_27 : decode b_Formula_isWon 27 = .ok (.ishr, 1) := by decide +kernel
theorem d_Formula_isWon_28 : decode b_Formula_isWon 28 = .ok (.iconst 1, 1) := by decide +kernel
theorem d_Formula_isWon_29 : decode b_Formula_isWon 29 = .ok (.iand, 1) := by decide +kernel
theorem d_Formula_isWon_30 : decode b_Formula_isWon 30 = .ok (.invokevirtual 38, 3) := by decide +kernel
theorem d_Formula_isWon_33 : decode b_Formula_isWon 33 = .ok (.ior, 1) := by decide +kernel
theorem d_Formula_isWon_34 : decode b_Formula_isWon 34 = .ok (.istore_n 3, 1) := by decide +kernel
theorem d_Formula_isWon_35 : decode b_Formula_isWon 35 = .ok (.iinc 4 1, 3) := by decide +kernel
theorem d_Formula_isWon_38 : decode b_Formula_isWon 38 = .ok (.goto (-33), 3) := by decide +kernel
theorem d_Formula_isWon_41 : decode b_Formula_isWon 41 = .ok (.aload_n 0, 1) := by decide +kernel
theorem d_Formula_isWon_42 : decode b_Formula_isWon 42 = .ok (.iload_n 1, 1) := by decide +kernel
theorem d_Formula_isWon_43 : decode b_Formula_isWon 43 = .ok (.iload_n 3, 1) := by decide +kernel
theorem d_Formula_isWon_44 : decode b_Formula_isWon 44 = .ok (.invokestatic 42, 3) := by decide +kernel
theorem d_Formula_isWon_47 : decode b_Formula_isWon 47 = .ok (.ireturn, 1) := by decide +kernel
theorem d_Formula_choiceOfAll_0 : decode b_Formula_choiceOfAll 0 = .ok (.aload_n 0, 1) := by decide +kernel
theorem d_Formula_choiceOfAll_1 : decode b_Formula_choiceOfAll 1 = .ok (.iload_n 1, 1) := by decide +kernel
theorem d_Formula_choiceOfAll_2 : decode b_Formula_choiceOfAll 2 = .ok (.iconst 1, 1) := by decide +kernel
theorem d_Formula_choiceOfAll_3 : decode b_Formula_choiceOfAll 3 = .ok (.iadd, 1) := by decide +kernel
theorem d_Formula_choiceOfAll_4 : decode b_Formula_choiceOfAll 4 = .ok (.iload_n 2, 1) := by decide +kernel
theorem d_Formula_choiceOfAll_5 : decode b_Formula_choiceOfAll 5 = .ok (.invokevirtual 46, 3) := by decide +kernel
theorem d_Formula_choiceOfAll_8 : decode b_Formula_choiceOfAll 8 = .ok (.ifCond .eq 22, 3) := by decide +kernel
theorem d_Formula_choiceOfAll_11 : decode b_Formula_choiceOfAll 11 = .ok (.aload_n 0, 1) := by decide +kernel
theorem d_Formula_choiceOfAll_12 : decode b_Formula_choiceOfAll 12 = .ok (.iload_n 1, 1) := by decide +kernel
theorem d_Formula_choiceOfAll_13 : decode b_Formula_choiceOfAll 13 = .ok (.iconst 1, 1) := by decide +kernel
theorem d_Formula_choiceOfAll_14 : decode b_Formula_choiceOfAll 14 = .ok (.iadd, 1) := by decide +kernel
theorem d_Formula_choiceOfAll_15 : decode b_Formula_choiceOfAll 15 = .ok (.iload_n 2, 1) := by decide +kernel
theorem d_Formula_choiceOfAll_16 : decode b_Formula_choiceOfAll 16 = .ok (.iconst 1, 1) := by decide +kernel
theorem d_Formula_choiceOfAll_17 : decode b_Formula_choiceOfAll 17 = .ok (.iload_n 1, 1) := by decide +kernel
theorem d_Formula_choiceOfAll_18 : decode b_Formula_choiceOfAll 18 = .ok (.ishl, 1) := by decide +kernel
theorem d_Formula_choiceOfAll_19 : decode b_Formula_choiceOfAll 19 = .ok (.ior, 1) := by decide +kernel
theorem d_Formula_choiceOfAll_20 : decode b_Formula_choiceOfAll 20 = .ok (.invokevirtual 46, 3) := by decide +kernel
theorem d_Formula_choiceOfAll_23 : decode b_Formula_choiceOfAll 23 = .ok (.ifCond .ne 7, 3) := by decide +kernel
theorem d_Formula_choiceOfAll_26 : decode b_Formula_choiceOfAll 26 = .ok (.iconst 1, 1) := by decide +kernel
theorem d_Formula_choiceOfAll_27 : decode b_Formula_choiceOfAll 27 = .ok (.goto 4, 3) := by decide +kernel
theorem d_Formula_choiceOfAll_30 : decode b_Formula_choiceOfAll 30 = .ok (.iconst 0, 1) := by decide +kernel
theorem d_Formula_choiceOfAll_31 : decode b_Formula_choiceOfAll 31 = .ok (.istore_n 3, 1) := by decide +kernel
theorem d_Formula_choiceOfAll_32 : decode b_Formula_choiceOfAll 32 = .ok (.iload_n 3, 1) := by decide +kernel
theorem d_Formula_choiceOfAll_33 : decode b_Formula_choiceOfAll 33 = .ok (.ifCond .eq 7, 3) := by decide +kernel
theorem d_Formula_choiceOfAll_36 : decode b_Formula_choiceOfAll 36 = .ok (.iconst 1, 1) := by decide +kernel
theorem d_Formula_choiceOfAll_37 : decode b_Formula_choiceOfAll 37 = .ok (.goto 4, 3) := by decide +kernel
theorem d_Formula_choiceOfAll_40 : decode b_Formula_choiceOfAll 40 = .ok (.iconst 0, 1) := by decide +kernel
theorem d_Formula_choiceOfAll_41 : decode b_Formula_choiceOfAll 41 = .ok (.ireturn, 1) := by decide +kernel
theorem d_Formula_truth_0 : decode b_Formula_truth 0 = .ok (.iload_n 2, 1) := by decide +kernel
theorem d_Formula_truth_1 : decode b_Formula_truth 1 = .ok (.iconst 1, 1) := by decide +kernel
theorem d_Formula_truth_2 : decode b_Formula_truth 2 = .ok (.if_icmp .ne 12, 3) := by decide +kernel
theorem d_Formula_truth_5 : decode b_Formula_truth 5 = .ok (.aload_n 0, 1) := by decide +kernel
theorem d_Formula_truth_6 : decode b_Formula_truth 6 = .ok (.getfield 9, 3) := by decide +kernel
theorem d_Formula_truth_9 : decode b_Formula_truth 9 = .ok (.iload_n 1, 1) := by decide +kernel
theorem d_Formula_truth_10 : decode b_Formula_truth 10 = .ok (.iaload, 1) := by decide +kernel
theorem d_Formula_truth_11 : decode b_Formula_truth 11 = .ok (.goto 10, 3) := by decide +kernel
theorem d_Formula_truth_14 : decode b_Formula_truth 14 = .ok (.aload_n 0, 1) := by decide +kernel
theorem d_Formula_truth_15 : decode b_Formula_truth 15 = .ok (.getfield 9, 3) := by decide +kernel
theorem d_Formula_truth_18 : decode b_Formula_truth 18 = .ok (.iload_n 1, 1) := by decide +kernel
theorem d_Formula_truth_19 : decode b_Formula_truth 19 = .ok (.iaload, 1) := by decide +kernel
theorem d_Formula_truth_20 : decode b_Formula_truth 20 = .ok (.ineg, 1) := by decide +kernel
theorem d_Formula_truth_21 : decode b_Formula_truth 21 = .ok (.invokestatic 35, 3) := by decide +kernel
theorem d_Formula_truth_24 : decode b_Formula_truth 24 = .ok (.ireturn, 1) := by decide +kernel
theorem d_Formula_someCanWin_0 : decode b_Formula_someCanWin 0 = .ok (.aload_n 0, 1) := by decide +kernel
theorem d_Formula_someCanWin_1 : decode b_Formula_someCanWin 1 = .ok (.iload_n 2, 1) := by decide +kernel
theorem d_Formula_someCanWin_2 : decode b_Formula_someCanWin 2 = .ok (.invokevirtual 50, 3) := by decide +kernel
theorem d_Formula_someCanWin_5 : decode b_Formula_someCanWin 5 = .ok (.ifCond .eq 5, 3) := by decide +kernel
theorem d_Formula_someCanWin_8 : decode b_Formula_someCanWin 8 = .ok (.iconst 1, 1) := by decide +kernel
theorem d_Formula_someCanWin_9 : decode b_Formula_someCanWin 9 = .ok (.ireturn, 1) := by decide +kernel
theorem d_Formula_someCanWin_10 : decode b_Formula_someCanWin 10 = .ok (.iload_n 1, 1) := by decide +kernel
theorem d_Formula_someCanWin_11 : decode b_Formula_someCanWin 11 = .ok (.ifCond .lt 11, 3) := by decide +kernel
theorem d_Formula_someCanWin_14 : decode b_Formula_someCanWin 14 = .ok (.iload_n 1, 1) := by decide +kernel
theorem d_Formula_someCanWin_15 : decode b_Formula_someCanWin 15 = .ok (.aload_n 0, 1) := by decide +kernel
theorem d_Formula_someCanWin_16 : decode b_Formula_someCanWin 16 = .ok (.getfield 18, 3) := by decide +kernel
theorem d_Formula_someCanWin_19 : decode b_Formula_someCanWin 19 = .ok (.if_icmp .lt 5, 3) := by decide +kernel
theorem d_Formula_someCanWin_22 : decode b_Formula_someCanWin 22 = .ok (.iconst 0, 1) := by decide +kernel
theorem d_Formula_someCanWin_23 : decode b_Formula_someCanWin 23 = .ok (.ireturn, 1) := by decide +kernel
theorem d_Formula_someCanWin_24 : decode b_Formula_someCanWin 24 = .ok (.aload_n 0, 1) := by decide +kernel
theorem d_Formula_someCanWin_25 : decode b_Formula_someCanWin 25 = .ok (.aload_n 0, 1) := by decide +kernel
theorem d_Formula_someCanWin_26 : decode b_Formula_someCanWin 26 = .ok (.getfield 9, 3) := by decide +kernel
theorem d_Formula_someCanWin_29 : decode b_Formula_someCanWin 29 = .ok (.iload_n 1, 1) := by decide +kernel
theorem d_Formula_someCanWin_30 : decode b_Formula_someCanWin 30 = .ok (.iaload, 1) := by decide +kernel
theorem d_Formula_someCanWin_31 : decode b_Formula_someCanWin 31 = .ok (.invokevirtual 54, 3) := by decide +kernel
theorem d_Formula_someCanWin_34 : decode b_Formula_someCanWin 34 = .ok (.istore_n 3, 1) := by decide +kernel
theorem d_Formula_someCanWin_35 : decode b_Formula_someCanWin 35 = .ok (.aload_n 0, 1) := by decide +kernel
theorem d_Formula_someCanWin_36 : decode b_Formula_someCanWin 36 = .ok (.iload_n 1, 1) := by decide +kernel
theorem d_Formula_someCanWin_37 : decode b_Formula_someCanWin 37 = .ok (.iconst 1, 1) := by decide +kernel
theorem d_Formula_someCanWin_38 : decode b_Formula_someCanWin 38 = .ok (.iadd, 1) := by decide +kernel
theorem d_Formula_someCanWin_39 : decode b_Formula_someCanWin 39 = .ok (.iload_n 2, 1) := by decide +kernel
theorem d_Formula_someCanWin_40 : decode b_Formula_someCanWin 40 = .ok (.aload_n 0, 1) := by decide +kernel
theorem d_Formula_someCanWin_41 : decode b_Formula_someCanWin 41 = .ok (.iload_n 1, 1) := by decide +kernel
theorem d_Formula_someCanWin_42 : decode b_Formula_someCanWin 42 = .ok (.iconst 0, 1) := by decide +kernel
theorem d_Formula_someCanWin_43 : decode b_Formula_someCanWin 43 = .ok (.invokevirtual 38, 3) := by decide +kernel
theorem d_Formula_someCanWin_46 : decode b_Formula_someCanWin 46 = .ok (.ior, 1) := by decide +kernel
theorem d_Formula_someCanWin_47 : decode b_Formula_someCanWin 47 = .ok (.invokestatic 42, 3) := by decide +kernel
theorem d_Formula_someCanWin_50 : decode b_Formula_someCanWin 50 = .ok (.istore 4, 2) := by decide +kernel
theorem d_Formula_someCanWin_52 : decode b_Formula_someCanWin 52 = .ok (.iload 4, 2) := by decide +kernel
theorem d_Formula_someCanWin_54 : decode b_Formula_someCanWin 54 = .ok (.iload_n 3, 1) := by decide +kernel
theorem d_Formula_someCanWin_55 : decode b_Formula_someCanWin 55 = .ok (.if_icmp .eq 6, 3) := by decide +kernel
theorem d_Formula_someCanWin_58 : decode b_Formula_someCanWin 58 = .ok (.iload 4, 2) := by decide +kernel
theorem d_Formula_someCanWin_60 : decode b_Formula_someCanWin 60 = .ok (.ireturn, 1) := by decide +kernel
theorem d_Formula_someCanWin_61 : decode b_Formula_someCanWin 61 = .ok (.aload_n 0, 1) := by decide +kernel
theorem d_Formula_someCanWin_62 : decode b_Formula_someCanWin 62 = .ok (.iload_n 1, 1) := by decide +kernel
theorem d_Formula_someCanWin_63 : decode b_Formula_someCanWin 63 = .ok (.iconst 1, 1) := by decide +kernel
theorem d_Formula_someCanWin_64 : decode b_Formula_someCanWin 64 = .ok (.iadd, 1) := by decide +kernel
theorem d_Formula_someCanWin_65 : decode b_Formula_someCanWin 65 = .ok (.iload_n 2, 1) := by decide +kernel
theorem d_Formula_someCanWin_66 : decode b_Formula_someCanWin 66 = .ok (.aload_n 0, 1) := by decide +kernel
theorem d_Formula_someCanWin_67 : decode b_Formula_someCanWin 67 = .ok (.iload_n 1, 1) := by decide +kernel
theorem d_Formula_someCanWin_68 : decode b_Formula_someCanWin 68 = .ok (.iconst 1, 1) := by decide +kernel
theorem d_Formula_someCanWin_69 : decode b_Formula_someCanWin 69 = .ok (.invokevirtual 38, 3) := by decide +kernel
theorem d_Formula_someCanWin_72 : decode b_Formula_someCanWin 72 = .ok (.ior, 1) := by decide +kernel
theorem d_Formula_someCanWin_73 : decode b_Formula_someCanWin 73 = .ok (.invokestatic 42, 3) := by decide +kernel
theorem d_Formula_someCanWin_76 : decode b_Formula_someCanWin 76 = .ok (.ireturn, 1) := by decide +kernel
theorem d_JI_bitCount_0 : decode b_JI_bitCount 0 = .ok (.iload_n 0, 1) := by decide +kernel
theorem d_JI_bitCount_1 : decode b_JI_bitCount 1 = .ok (.iload_n 0, 1) := by decide +kernel
theorem d_JI_bitCount_2 : decode b_JI_bitCount 2 = .ok (.iconst 1, 1) := by decide +kernel
theorem d_JI_bitCount_3 : decode b_JI_bitCount 3 = .ok (.iushr, 1) := by decide +kernel
theorem d_JI_bitCount_4 : decode b_JI_bitCount 4 = .ok (.ldc_w 265, 3) := by decide +kernel
theorem d_JI_bitCount_7 : decode b_JI_bitCount 7 = .ok (.iand, 1) := by decide +kernel
theorem d_JI_bitCount_8 : decode b_JI_bitCount 8 = .ok (.isub, 1) := by decide +kernel
theorem d_JI_bitCount_9 : decode b_JI_bitCount 9 = .ok (.istore_n 0, 1) := by decide +kernel
theorem d_JI_bitCount_10 : decode b_JI_bitCount 10 = .ok (.iload_n 0, 1) := by decide +kernel
theorem d_JI_bitCount_11 : decode b_JI_bitCount 11 = .ok (.ldc_w 266, 3) := by decide +kernel
theorem d_JI_bitCount_14 : decode b_JI_bitCount 14 = .ok (.iand, 1) := by decide +kernel
theorem d_JI_bitCount_15 : decode b_JI_bitCount 15 = .ok (.iload_n 0, 1) := by decide +kernel
theorem d_JI_bitCount_16 : decode b_JI_bitCount 16 = .ok (.iconst 2, 1) := by decide +kernel
theorem d_JI_bitCount_17 : decode b_JI_bitCount 17 = .ok (.iushr, 1) := by decide +kernel
theorem d_JI_bitCount_18 : decode b_JI_bitCount 18 = .ok (.ldc_w 266, 3) := by decide +kernel
theorem d_JI_bitCount_21 : decode b_JI_bitCount 21 = .ok (.iand, 1) := by decide +kernel
theorem d_JI_bitCount_22 : decode b_JI_bitCount 22 = .ok (.iadd, 1) := by decide +kernel
theorem d_JI_bitCount_23 : decode b_JI_bitCount 23 = .ok (.istore_n 0, 1) := by decide +kernel
theorem d_JI_bitCount_24 : decode b_JI_bitCount 24 = .ok (.iload_n 0, 1) := by decide +kernel
theorem d_JI_bitCount_25 : decode b_JI_bitCount 25 = .ok (.iload_n 0, 1) := by decide +kernel
theorem d_JI_bitCount_26 : decode b_JI_bitCount 26 = .ok (.iconst 4, 1) := by decide +kernel
theorem d_JI_bitCount_27 : decode b_JI_bitCount 27 = .ok (.iushr, 1) := by decide +kernel
theorem d_JI_bitCount_28 : decode b_JI_bitCount 28 = .ok (.iadd, 1) := by decide +kernel
theorem d_JI_bitCount_29 : decode b_JI_bitCount 29 = .ok (.ldc_w 267, 3) := by decide +kernel
theorem d_JI_bitCount_32 : decode b_JI_bitCount 32 = .ok (.iand, 1) := by decide +kernel
theorem d_JI_bitCount_33 : decode b_JI_bitCount 33 = .ok (.istore_n 0, 1) := by decide +kernel
theorem d_JI_bitCount_34 : decode b_JI_bitCount 34 = .ok (.iload_n 0, 1) := by decide +kernel
theorem d_JI_bitCount_35 : decode b_JI_bitCount 35 = .ok (.iload_n 0, 1) := by decide +kernel
theorem d_JI_bitCount_36 : decode b_JI_bitCount 36 = .ok (.bipush 8, 2) := by decide +kernel
theorem d_JI_bitCount_38 : decode b_JI_bitCount 38 = .ok (.iushr, 1) := by decide +kernel
theorem d_JI_bitCount_39 : decode b_JI_bitCount 39 = .ok (.iadd, 1) := by decide +kernel
theorem d_JI_bitCount_40 : decode b_JI_bitCount 40 = .ok (.istore_n 0, 1) := by decide +kernel
theorem d_JI_bitCount_41 : decode b_JI_bitCount 41 = .ok (.iload_n 0, 1) := by decide +kernel
theorem d_JI_bitCount_42 : decode b_JI_bitCount 42 = .ok (.iload_n 0, 1) := by decide +kernel
theorem d_JI_bitCount_43 : decode b_JI_bitCount 43 = .ok (.bipush 16, 2) := by decide +kernel
theorem d_JI_bitCount_45 : decode b_JI_bitCount 45 = .ok (.iushr, 1) := by decide +kernel
theorem d_JI_bitCount_46 : decode b_JI_bitCount 46 = .ok (.iadd, 1) := by decide +kernel
theorem d_JI_bitCount_47 : decode b_JI_bitCount 47 = .ok (.istore_n 0, 1) := by decide +kernel
theorem d_JI_bitCount_48 : decode b_JI_bitCount 48 = .ok (.iload_n 0, 1) := by decide +kernel
theorem d_JI_bitCount_49 : decode b_JI_bitCount 49 = .ok (.bipush 63, 2) := by decide +kernel
theorem d_JI_bitCount_51 : decode b_JI_bitCount 51 = .ok (.iand, 1) := by decide +kernel
theorem d_JI_bitCount_52 : decode b_JI_bitCount 52 = .ok (.ireturn, 1) := by decide +kernel
