theorem d_Proof_init_0 : decode b_Proof_init 0 = .ok (.aload_n 0, 1) := by decide +kernel
theorem d_Proof_init_1 : decode b_Proof_init 1 = .ok (.invokespecial 3, 3) := by decide +kernel
theorem d_Proof_init_4 : decode b_Proof_init 4 = .ok (.aload_n 0, 1) := by decide +kernel
theorem d_Proof_init_5 : decode b_Proof_init 5 = .ok (.bipush 24, 2) := by decide +kernel
theorem d_Proof_init_7 : decode b_Proof_init 7 = .ok (.newarray .int, 2) := by decide +kernel
theorem d_Proof_init_9 : decode b_Proof_init 9 = .ok (.putfield 9, 3) := by decide +kernel
theorem d_Proof_init_12 : decode b_Proof_init 12 = .ok (.aload_n 0, 1) := by decide +kernel
theorem d_Proof_init_13 : decode b_Proof_init 13 = .ok (.bipush 24, 2) := by decide +kernel
theorem d_Proof_init_15 : decode b_Proof_init 15 = .ok (.newarray .int, 2) := by decide +kernel
theorem d_Proof_init_17 : decode b_Proof_init 17 = .ok (.putfield 15, 3) := by decide +kernel
theorem d_Proof_init_20 : decode b_Proof_init 20 = .ok (.aload_n 0, 1) := by decide +kernel
theorem d_Proof_init_21 : decode b_Proof_init 21 = .ok (.bipush 24, 2) := by decide +kernel
theorem d_Proof_init_23 : decode b_Proof_init 23 = .ok (.newarray .int, 2) := by decide +kernel
theorem d_Proof_init_25 : decode b_Proof_init 25 = .ok (.putfield 18, 3) := by decide +kernel
theorem d_Proof_init_28 : decode b_Proof_init 28 = .ok (.aload_n 0, 1) := by decide +kernel
theorem d_Proof_init_29 : decode b_Proof_init 29 = .ok (.bipush 24, 2) := by decide +kernel
theorem d_Proof_init_31 : decode b_Proof_init 31 = .ok (.newarray .boolean, 2) := by decide +kernel
theorem d_Proof_init_33 : decode b_Proof_init 33 = .ok (.putfield 21, 3) := by decide +kernel
theorem d_Proof_init_36 : decode b_Proof_init 36 = .ok (.return_, 1) := by decide +kernel
theorem d_Proof_forget_0 : decode b_Proof_forget 0 = .ok (.aload_n 0, 1) := by decide +kernel
theorem d_Proof_forget_1 : decode b_Proof_forget 1 = .ok (.iconst 0, 1) := by decide +kernel
theorem d_Proof_forget_2 : decode b_Proof_forget 2 = .ok (.putfield 25, 3) := by decide +kernel
theorem d_Proof_forget_5 : decode b_Proof_forget 5 = .ok (.return_, 1) := by decide +kernel
theorem d_Proof_has_0 : decode b_Proof_has 0 = .ok (.iload_n 1, 1) := by decide +kernel
theorem d_Proof_has_1 : decode b_Proof_has 1 = .ok (.ifCond .lt 15, 3) := by decide +kernel
theorem d_Proof_has_4 : decode b_Proof_has 4 = .ok (.iload_n 1, 1) := by decide +kernel
theorem d_Proof_has_5 : decode b_Proof_has 5 = .ok (.aload_n 0, 1) := by decide +kernel
theorem d_Proof_has_6 : decode b_Proof_has 6 = .ok (.getfield 25, 3) := by decide +kernel
theorem d_Proof_has_9 : decode b_Proof_has 9 = .ok (.if_icmp .ge 7, 3) := by decide +kernel
theorem d_Proof_has_12 : decode b_Proof_has 12 = .ok (.iconst 1, 1) := by decide +kernel
theorem d_Proof_has_13 : decode b_Proof_has 13 = .ok (.goto 4, 3) := by decide +kernel
theorem d_Proof_has_16 : decode b_Proof_has 16 = .ok (.iconst 0, 1) := by decide +kernel
theorem d_Proof_has_17 : decode b_Proof_has 17 = .ok (.ireturn, 1) := by decide +kernel
theorem d_Proof_isFull_0 : decode b_Proof_isFull 0 = .ok (.aload_n 0, 1) := by decide +kernel
theorem d_Proof_isFull_1 : decode b_Proof_isFull 1 = .ok (.getfield 25, 3) := by decide +kernel
theorem d_Proof_isFull_4 : decode b_Proof_isFull 4 = .ok (.bipush 24, 2) := by decide +kernel
theorem d_Proof_isFull_6 : decode b_Proof_isFull 6 = .ok (.if_icmp .lt 7, 3) := by decide +kernel
theorem d_Proof_isFull_9 : decode b_Proof_isFull 9 = .ok (.iconst 1, 1) := by decide +kernel
theorem d_Proof_isFull_10 : decode b_Proof_isFull 10 = .ok (.goto 4, 3) := by decide +kernel
theorem d_Proof_isFull_13 : decode b_Proof_isFull 13 = .ok (.iconst 0, 1) := by decide +kernel
theorem d_Proof_isFull_14 : decode b_Proof_isFull 14 = .ok (.ireturn, 1) := by decide +kernel
theorem d_Proof_find_0 : decode b_Proof_find 0 = .ok (.iconst 0, 1) := by decide +kernel
theorem d_Proof_find_1 : decode b_Proof_find 1 = .ok (.istore_n 2, 1) := by decide +kernel
theorem d_Proof_find_2 : decode b_Proof_find 2 = .ok (.iload_n 2, 1) := by decide +kernel
theorem d_Proof_find_3 : decode b_Proof_find 3 = .ok (.aload_n 0, 1) := by decide +kernel
theorem d_Proof_find_4 : decode b_Proof_find 4 = .ok (.getfield 25, 3) := by decide +kernel
theorem d_Proof_find_7 : decode b_Proof_find 7 = .ok (.if_icmp .ge 21, 3) := by decide +kernel
theorem d_Proof_find_10 : decode b_Proof_find 10 = .ok (.aload_n 0, 1) := by decide +kernel
theorem d_Proof_find_11 : decode b_Proof_find 11 = .ok (.getfield 9, 3) := by decide +kernel
theorem d_Proof_find_14 : decode b_Proof_find 14 = .ok (.iload_n 2, 1) := by decide +kernel
theorem d_Proof_find_15 : decode b_Proof_find 15 = .ok (.iaload, 1) := by decide +kernel
theorem d_Proof_find_16 : decode b_Proof_find 16 = .ok (.iload_n 1, 1) := by decide +kernel
theorem d_Proof_find_17 : decode b_Proof_find 17 = .ok (.if_icmp .ne 5, 3) := by decide +kernel
theorem d_Proof_find_20 : decode b_Proof_find 20 = .ok (.iload_n 2, 1) := by decide +kernel
theorem d_Proof_find_21 : decode b_Proof_find 21 = .ok (.ireturn, 1) := by decide +kernel
theorem d_Proof_find_22 : decode b_Proof_find 22 = .ok (.iinc 2 1, 3) := by decide +kernel
theorem d_Proof_find_25 : decode b_Proof_find 25 = .ok (.goto (-23), 3) := by decide +kernel
theorem d_Proof_find_28 : decode b_Proof_find 28 = .ok (.iconst (-1), 1) := by decide +kernel
theorem d_Proof_find_29 : decode b_Proof_find 29 = .ok (.ireturn, 1) := by decide +kernel
theorem d_Proof_add_0 : decode b_Proof_add 0 = .ok (.aload_n 0, 1) := by decide +kernel
theorem d_Proof_add_1 : decode b_Proof_add 1 = .ok (.invokevirtual 29, 3) := by decide +kernel
theorem d_Proof_add_4 : decode b_Proof_add 4 = .ok (.ifCond .eq 4, 3) := by decide +kernel
theorem d_Proof_add_7 : decode b_Proof_add 7 = .ok (.return_, 1) := by decide +kernel
theorem d_Proof_add_8 : decode b_Proof_add 8 = .ok (.aload_n 0, 1) := by decide +kernel
theorem d_Proof_add_9 : decode b_Proof_add 9 = .ok (.getfield 9, 3) := by decide +kernel
theorem d_Proof_add_12 : decode b_Proof_add 12 = .ok (.aload_n 0, 1) := by decide +kernel
theorem d_Proof_add_13 : decode b_Proof_add 13 = .ok (.getfield 25, 3) := by decide +kernel
theorem d_Proof_add_16 : decode b_Proof_add 16 = .ok (.iload_n 1, 1) := by decide +kernel
theorem d_Proof_add_17 : decode b_Proof_add 17 = .ok (.iastore, 1) := by decide +kernel
theorem d_Proof_add_18 : decode b_Proof_add 18 = .ok (.aload_n 0, 1) := by decide +kernel
theorem d_Proof_add_19 : decode b_Proof_add 19 = .ok (.getfield 15, 3) := by decide +kernel
theorem d_Proof_add_22 : decode b_Proof_add 22 = .ok (.aload_n 0, 1) := by decide +kernel
theorem d_Proof_add_23 : decode b_Proof_add 23 = .ok (.getfield 25, 3) := by decide +kernel
theorem d_Proof_add_26 : decode b_Proof_add 26 = .ok (.iload_n 2, 1) := by decide +kernel
theorem d_Proof_add_27 : decode b_Proof_add 27 = .ok (.iastore, 1) := by decide +kernel
theorem d_Proof_add_28 : decode b_Proof_add 28 = .ok (.aload_n 0, 1) := by decide +kernel
theorem d_Proof_add_29 : decode b_Proof_add 29 = .ok (.getfield 21, 3) := by decide +kernel
theorem d_Proof_add_32 : decode b_Proof_add 32 = .ok (.aload_n 0, 1) := by decide +kernel
theorem d_Proof_add_33 : decode b_Proof_add 33 = .ok (.getfield 25, 3) := by decide +kernel
theorem d_Proof_add_36 : decode b_Proof_add 36 = .ok (.iload_n 3, 1) := by decide +kernel
theorem d_Proof_add_37 : decode b_Proof_add 37 = .ok (.bastore, 1) := by decide +kernel
theorem d_Proof_add_38 : decode b_Proof_add 38 = .ok (.aload_n 0, 1) := by decide +kernel
theorem d_Proof_add_39 : decode b_Proof_add 39 = .ok (.getfield 18, 3) := by decide +kernel
theorem d_Proof_add_42 : decode b_Proof_add 42 = .ok (.aload_n 0, 1) := by decide +kernel
theorem d_Proof_add_43 : decode b_Proof_add 43 = .ok (.getfield 25, 3) := by decide +kernel
theorem d_Proof_add_46 : decode b_Proof_add 46 = .ok (.iload 4, 2) := by decide +kernel
theorem d_Proof_add_48 : decode b_Proof_add 48 = .ok (.iconst 1, 1) := by decide +kernel
theorem d_Proof_add_49 : decode b_Proof_add 49 = .ok (.aload_n 0, 1) := by decide +kernel
theorem d_Proof_add_50 : decode b_Proof_add 50 = .ok (.getfield 25, 3) := by decide +kernel
theorem d_Proof_add_53 : decode b_Proof_add 53 = .ok (.ishl, 1) := by decide +kernel
theorem d_Proof_add_54 : decode b_Proof_add 54 = .ok (.ior, 1) := by decide +kernel
theorem d_Proof_add_55 : decode b_Proof_add 55 = .ok (.iastore, 1) := by decide +kernel
theorem d_Proof_add_56 : decode b_Proof_add 56 = .ok (.aload_n 0, 1) := by decide +kernel
theorem d_Proof_add_57 : decode b_Proof_add 57 = .ok (.dup, 1) := by decide +kernel
theorem d_Proof_add_58 : decode b_Proof_add 58 = .ok (.getfield 25, 3) := by decide +kernel
theorem d_Proof_add_61 : decode b_Proof_add 61 = .ok (.iconst 1, 1) := by decide +kernel
theorem d_Proof_add_62 : decode b_Proof_add 62 = .ok (.iadd, 1) := by decide +kernel
theorem d_Proof_add_63 : decode b_Proof_add 63 = .ok (.putfield 25, 3) := by decide +kernel
theorem d_Proof_add_66 : decode b_Proof_add 66 = .ok (.return_, 1) := by decide +kernel
theorem d_FormulaReader_init_0 : decode b_FormulaReader_init 0 = .ok (.aload_n 0, 1) := by decide +kernel
theorem d_FormulaReader_init_1 : decode b_FormulaReader_init 1 = .ok (.invokespecial 3, 3) := by decide +kernel
theorem d_FormulaReader_init_4 : decode b_FormulaReader_init 4 = .ok (.aload_n 0, 1) := by decide +kernel
theorem d_FormulaReader_init_5 : decode b_FormulaReader_init 5 = .ok (.new 9, 3) := by decide +kernel
theorem d_FormulaReader_init_8 : decode b_FormulaReader_init 8 = .ok (.dup, 1) := by decide +kernel
theorem d_FormulaReader_init_9 : decode b_FormulaReader_init 9 = .ok (.invokespecial 11, 3) := by decide +kernel
theorem d_FormulaReader_init_12 : decode b_FormulaReader_init 12 = .ok (.putfield 12, 3) := by decide +kernel
theorem d_FormulaReader_init_15 : decode b_FormulaReader_init 15 = .ok (.return_, 1) := by decide +kernel
theorem d_FormulaReader_begin_0 : decode b_FormulaReader_begin 0 = .ok (.aload_n 0, 1) := by decide +kernel
theorem d_FormulaReader_begin_1 : decode b_FormulaReader_begin 1 = .ok (.getfield 12, 3) := by decide +kernel
theorem d_FormulaReader_begin_4 : decode b_FormulaReader_begin 4 = .ok (.invokevirtual 18, 3) := by decide +kernel
theorem d_FormulaReader_begin_7 : decode b_FormulaReader_begin 7 = .ok (.aload_n 0, 1) := by decide +kernel
theorem d_FormulaReader_begin_8 : decode b_FormulaReader_begin 8 = .ok (.iconst 1, 1) := by decide +kernel
theorem d_FormulaReader_begin_9 : decode b_FormulaReader_begin 9 = .ok (.putfield 21, 3) := by decide +kernel
theorem d_FormulaReader_begin_12 : decode b_FormulaReader_begin 12 = .ok (.aload_n 0, 1) := by decide +kernel
theorem d_FormulaReader_begin_13 : decode b_FormulaReader_begin 13 = .ok (.iconst 0, 1) := by decide +kernel
theorem d_FormulaReader_begin_14 : decode b_FormulaReader_begin 14 = .ok (.putfield 25, 3) := by decide +kernel
theorem d_FormulaReader_begin_17 : decode b_FormulaReader_begin 17 = .ok (.aload_n 0, 1) := by decide +kernel
theorem d_FormulaReader_begin_18 : decode b_FormulaReader_begin 18 = .ok (.iconst 0, 1) := by decide +kernel
theorem d_FormulaReader_begin_19 : decode b_FormulaReader_begin 19 = .ok (.putfield 28, 3) := by decide +kernel
theorem d_FormulaReader_begin_22 : decode b_FormulaReader_begin 22 = .ok (.return_, 1) := by decide +kernel
theorem d_FormulaReader_exchange_0 : decode b_FormulaReader_exchange 0 = .ok (.aload_n 0, 1) := by decide +kernel
theorem d_FormulaReader_exchange_1 : decode b_FormulaReader_exchange 1 = .ok (.getfield 12, 3) := by decide +kernel
theorem d_FormulaReader_exchange_4 : decode b_FormulaReader_exchange 4 = .ok (.astore_n 2, 1) := by decide +kernel
theorem d_FormulaReader_exchange_5 : decode b_FormulaReader_exchange 5 = .ok (.aload_n 0, 1) := by decide +kernel
theorem d_FormulaReader_exchange_6 : decode b_FormulaReader_exchange 6 = .ok (.aload_n 1, 1) := by decide +kernel
theorem d_FormulaReader_exchange_7 : decode b_FormulaReader_exchange 7 = .ok (.putfield 12, 3) := by decide +kernel
theorem d_FormulaReader_exchange_10 : decode b_FormulaReader_exchange 10 = .ok (.aload_n 2, 1) := by decide +kernel
theorem d_FormulaReader_exchange_11 : decode b_FormulaReader_exchange 11 = .ok (.areturn, 1) := by decide +kernel
theorem d_FormulaReader_take_0 : decode b_FormulaReader_take 0 = .ok (.aload_n 1, 1) := by decide +kernel
theorem d_FormulaReader_take_1 : decode b_FormulaReader_take 1 = .ok (.invokevirtual 32, 3) := by decide +kernel
theorem d_FormulaReader_take_4 : decode b_FormulaReader_take 4 = .ok (.ifCond .ne 9, 3) := by decide +kernel
theorem d_FormulaReader_take_7 : decode b_FormulaReader_take 7 = .ok (.aload_n 0, 1) := by decide +kernel
theorem d_FormulaReader_take_8 : decode b_FormulaReader_take 8 = .ok (.aload_n 1, 1) := by decide +kernel
theorem d_FormulaReader_take_9 : decode b_FormulaReader_take 9 = .ok (.invokevirtual 38, 3) := by decide +kernel
theorem d_FormulaReader_take_12 : decode b_FormulaReader_take 12 = .ok (.ireturn, 1) := by decide +kernel
theorem d_FormulaReader_take_13 : decode b_FormulaReader_take 13 = .ok (.aload_n 0, 1) := by decide +kernel
theorem d_FormulaReader_take_14 : decode b_FormulaReader_take 14 = .ok (.getfield 25, 3) := by decide +kernel
theorem d_FormulaReader_take_17 : decode b_FormulaReader_take 17 = .ok (.ifCond .eq 12, 3) := by decide +kernel
theorem d_FormulaReader_take_20 : decode b_FormulaReader_take 20 = .ok (.aload_n 0, 1) := by decide +kernel
theorem d_FormulaReader_take_21 : decode b_FormulaReader_take 21 = .ok (.aload_n 1, 1) := by decide +kernel
theorem d_FormulaReader_take_22 : decode b_FormulaReader_take 22 = .ok (.invokevirtual 42, 3) := by decide +kernel
theorem d_FormulaReader_take_25 : decode b_FormulaReader_take 25 = .ok (.invokevirtual 46, 3) := by decide +kernel
theorem d_FormulaReader_take_28 : decode b_FormulaReader_take 28 = .ok (.ireturn, 1) := by decide +kernel
theorem d_FormulaReader_take_29 : decode b_FormulaReader_take 29 = .ok (.aload_n 0, 1) := by decide +kernel
theorem d_FormulaReader_take_30 : decode b_FormulaReader_take 30 = .ok (.iconst 0, 1) := by decide +kernel
theorem d_FormulaReader_take_31 : decode b_FormulaReader_take 31 = .ok (.putfield 21, 3) := by decide +kernel
theorem d_FormulaReader_take_34 : decode b_FormulaReader_take 34 = .ok (.aload_n 0, 1) := by decide +kernel
theorem d_FormulaReader_take_35 : decode b_FormulaReader_take 35 = .ok (.aload_n 1, 1) := by decide +kernel
theorem d_FormulaReader_take_36 : decode b_FormulaReader_take 36 = .ok (.invokevirtual 42, 3) := by decide +kernel
theorem d_FormulaReader_take_39 : decode b_FormulaReader_take 39 = .ok (.invokevirtual 50, 3) := by decide +kernel
theorem d_FormulaReader_take_42 : decode b_FormulaReader_take 42 = .ok (.ireturn, 1) := by decide +kernel
theorem d_FormulaReader_mayEnd_0 : decode b_FormulaReader_mayEnd 0 = .ok (.aload_n 0, 1) := by decide +kernel
theorem d_FormulaReader_mayEnd_1 : decode b_FormulaReader_mayEnd 1 = .ok (.getfield 25, 3) := by decide +kernel
theorem d_FormulaReader_mayEnd_4 : decode b_FormulaReader_mayEnd 4 = .ok (.ifCond .ne 14, 3) := by decide +kernel
theorem d_FormulaReader_mayEnd_7 : decode b_FormulaReader_mayEnd 7 = .ok (.aload_n 0, 1) := by decide +kernel
theorem d_FormulaReader_mayEnd_8 : decode b_FormulaReader_mayEnd 8 = .ok (.getfield 28, 3) := by decide +kernel
theorem d_FormulaReader_mayEnd_11 : decode b_FormulaReader_mayEnd 11 = .ok (.ifCond .ne 7, 3) := by decide +kernel
theorem d_FormulaReader_mayEnd_14 : decode b_FormulaReader_mayEnd 14 = .ok (.iconst 1, 1) := by decide +kernel
theorem d_FormulaReader_mayEnd_15 : decode b_FormulaReader_mayEnd 15 = .ok (.goto 4, 3) := by decide +kernel
theorem d_FormulaReader_mayEnd_18 : decode b_FormulaReader_mayEnd 18 = .ok (.iconst 0, 1) := by decide +kernel
theorem d_FormulaReader_mayEnd_19 : decode b_FormulaReader_mayEnd 19 = .ok (.ireturn, 1) := by decide +kernel
theorem d_FormulaReader_takeLetter_0 : decode b_FormulaReader_takeLetter 0 = .ok (.aload_n 1, 1) := by decide +kernel
theorem d_FormulaReader_takeLetter_1 : decode b_FormulaReader_takeLetter 1 = .ok (.bipush 97, 2) := by decide +kernel
theorem d_FormulaReader_takeLetter_3 : decode b_FormulaReader_takeLetter 3 = .ok (.invokevirtual 53, 3) := by decide +kernel
theorem d_FormulaReader_takeLetter_6 : decode b_FormulaReader_takeLetter 6 = .ok (.istore_n 2, 1) := by decide +kernel
theorem d_FormulaReader_takeLetter_7 : decode b_FormulaReader_takeLetter 7 = .ok (.aload_n 0, 1) := by decide +kernel
theorem d_FormulaReader_takeLetter_8 : decode b_FormulaReader_takeLetter 8 = .ok (.getfield 21, 3) := by decide +kernel
theorem d_FormulaReader_takeLetter_11 : decode b_FormulaReader_takeLetter 11 = .ok (.ifCond .eq 16, 3) := by decide +kernel
theorem d_FormulaReader_takeLetter_14 : decode b_FormulaReader_takeLetter 14 = .ok (.iload_n 2, 1) := by decide +kernel
theorem d_FormulaReader_takeLetter_15 : decode b_FormulaReader_takeLetter 15 = .ok (.ifCond .ne 14, 3) := by decide +kernel
theorem d_FormulaReader_takeLetter_18 : decode b_FormulaReader_takeLetter 18 = .ok (.aload_n 1, 1) := by decide +kernel
theorem d_FormulaReader_takeLetter_19 : decode b_FormulaReader_takeLetter 19 = .ok (.bipush 101, 2) := by decide +kernel
theorem d_FormulaReader_takeLetter_21 : decode b_FormulaReader_takeLetter 21 = .ok (.invokevirtual 53, 3) := by decide +kernel
theorem d_FormulaReader_takeLetter_24 : decode b_FormulaReader_takeLetter 24 = .ok (.ifCond .ne 5, 3) := by decide +kernel
theorem d_FormulaReader_takeLetter_27 : decode b_FormulaReader_takeLetter 27 = .ok (.iconst 1, 1) := by decide +kernel
theorem d_FormulaReader_takeLetter_28 : decode b_FormulaReader_takeLetter 28 = .ok (.ireturn, 1) := by decide +kernel
theorem d_FormulaReader_takeLetter_29 : decode b_FormulaReader_takeLetter 29 = .ok (.aload_n 0, 1) := by decide +kernel
theorem d_FormulaReader_takeLetter_30 : decode b_FormulaReader_takeLetter 30 = .ok (.iconst 0, 1) := by decide +kernel
theorem d_FormulaReader_takeLetter_31 : decode b_FormulaReader_takeLetter 31 = .ok (.putfield 21, 3) := by decide +kernel
theorem d_FormulaReader_takeLetter_34 : decode b_FormulaReader_takeLetter 34 = .ok (.aload_n 0, 1) := by decide +kernel
theorem d_FormulaReader_takeLetter_35 : decode b_FormulaReader_takeLetter 35 = .ok (.iconst 1, 1) := by decide +kernel
theorem d_FormulaReader_takeLetter_36 : decode b_FormulaReader_takeLetter 36 = .ok (.putfield 25, 3) := by decide +kernel
theorem d_FormulaReader_takeLetter_39 : decode b_FormulaReader_takeLetter 39 = .ok (.aload_n 0, 1) := by decide +kernel
theorem d_FormulaReader_takeLetter_40 : decode b_FormulaReader_takeLetter 40 = .ok (.iconst 0, 1) := by decide +kernel
theorem d_FormulaReader_takeLetter_41 : decode b_FormulaReader_takeLetter 41 = .ok (.putfield 57, 3) := by decide +kernel
theorem d_FormulaReader_takeLetter_44 : decode b_FormulaReader_takeLetter 44 = .ok (.aload_n 0, 1) := by decide +kernel
theorem d_FormulaReader_takeLetter_45 : decode b_FormulaReader_takeLetter 45 = .ok (.iload_n 2, 1) := by decide +kernel
theorem d_FormulaReader_takeLetter_46 : decode b_FormulaReader_takeLetter 46 = .ok (.putfield 60, 3) := by decide +kernel
theorem d_FormulaReader_takeLetter_49 : decode b_FormulaReader_takeLetter 49 = .ok (.iconst 0, 1) := by decide +kernel
theorem d_FormulaReader_takeLetter_50 : decode b_FormulaReader_takeLetter 50 = .ok (.ireturn, 1) := by decide +kernel
theorem d_FormulaReader_takeInBlock_0 : decode b_FormulaReader_takeInBlock 0 = .ok (.iload_n 1, 1) := by decide +kernel
theorem d_FormulaReader_takeInBlock_1 : decode b_FormulaReader_takeInBlock 1 = .ok (.ifCond .ge 5, 3) := by decide +kernel
theorem d_FormulaReader_takeInBlock_4 : decode b_FormulaReader_takeInBlock 4 = .ok (.iconst 1, 1) := by decide +kernel
theorem d_FormulaReader_takeInBlock_5 : decode b_FormulaReader_takeInBlock 5 = .ok (.ireturn, 1) := by decide +kernel
theorem d_FormulaReader_takeInBlock_6 : decode b_FormulaReader_takeInBlock 6 = .ok (.iload_n 1, 1) := by decide +kernel
theorem d_FormulaReader_takeInBlock_7 : decode b_FormulaReader_takeInBlock 7 = .ok (.ifCond .ne 8, 3) := by decide +kernel
theorem d_FormulaReader_takeInBlock_10 : decode b_FormulaReader_takeInBlock 10 = .ok (.aload_n 0, 1) := by decide +kernel
theorem d_FormulaReader_takeInBlock_11 : decode b_FormulaReader_takeInBlock 11 = .ok (.invokevirtual 63, 3) := by decide +kernel
theorem d_FormulaReader_takeInBlock_14 : decode b_FormulaReader_takeInBlock 14 = .ok (.ireturn, 1) := by decide +kernel
theorem d_FormulaReader_takeInBlock_15 : decode b_FormulaReader_takeInBlock 15 = .ok (.iload_n 1, 1) := by decide +kernel
theorem d_FormulaReader_takeInBlock_16 : decode b_FormulaReader_takeInBlock 16 = .ok (.bipush 8, 2) := by decide +kernel
theorem d_FormulaReader_takeInBlock_18 : decode b_FormulaReader_takeInBlock 18 = .ok (.if_icmp .gt 14, 3) := by decide +kernel
theorem d_FormulaReader_takeInBlock_21 : decode b_FormulaReader_takeInBlock 21 = .ok (.aload_n 0, 1) := by decide +kernel
theorem d_FormulaReader_takeInBlock_22 : decode b_FormulaReader_takeInBlock 22 = .ok (.getfield 12, 3) := by decide +kernel
theorem d_FormulaReader_takeInBlock_25 : decode b_FormulaReader_takeInBlock 25 = .ok (.iload_n 1, 1) := by decide +kernel
theorem d_FormulaReader_takeInBlock_26 : decode b_FormulaReader_takeInBlock 26 = .ok (.invokevirtual 66, 3) := by decide +kernel
theorem d_FormulaReader_takeInBlock_29 : decode b_FormulaReader_takeInBlock 29 = .ok (.ifCond .eq 5, 3) := by decide +kernel
theorem d_FormulaReader_takeInBlock_32 : decode b_FormulaReader_takeInBlock 32 = .ok (.iconst 2, 1) := by decide +kernel
theorem d_FormulaReader_takeInBlock_33 : decode b_FormulaReader_takeInBlock 33 = .ok (.ireturn, 1) := by decide +kernel
theorem d_FormulaReader_takeInBlock_34 : decode b_FormulaReader_takeInBlock 34 = .ok (.aload_n 0, 1) := by decide +kernel
theorem d_FormulaReader_takeInBlock_35 : decode b_FormulaReader_takeInBlock 35 = .ok (.getfield 12, 3) := by decide +kernel
theorem d_FormulaReader_takeInBlock_38 : decode b_FormulaReader_takeInBlock 38 = .ok (.iload_n 1, 1) := by decide +kernel
theorem d_FormulaReader_takeInBlock_39 : decode b_FormulaReader_takeInBlock 39 = .ok (.aload_n 0, 1) := by decide +kernel
theorem d_FormulaReader_takeInBlock_40 : decode b_FormulaReader_takeInBlock 40 = .ok (.getfield 60, 3) := by decide +kernel
theorem d_FormulaReader_takeInBlock_43 : decode b_FormulaReader_takeInBlock 43 = .ok (.invokevirtual 70, 3) := by decide +kernel
theorem d_FormulaReader_takeInBlock_46 : decode b_FormulaReader_takeInBlock 46 = .ok (.aload_n 0, 1) := by decide +kernel
theorem d_FormulaReader_takeInBlock_47 : decode b_FormulaReader_takeInBlock 47 = .ok (.iconst 1, 1) := by decide +kernel
theorem d_FormulaReader_takeInBlock_48 : decode b_FormulaReader_takeInBlock 48 = .ok (.putfield 57, 3) := by decide +kernel
theorem d_FormulaReader_takeInBlock_51 : decode b_FormulaReader_takeInBlock 51 = .ok (.iconst 0, 1) := by decide +kernel
theorem d_FormulaReader_takeInBlock_52 : decode b_FormulaReader_takeInBlock 52 = .ok (.ireturn, 1) := by decide +kernel
theorem d_FormulaReader_endBlock_0 : decode b_FormulaReader_endBlock 0 = .ok (.aload_n 0, 1) := by decide +kernel
theorem d_FormulaReader_endBlock_1 : decode b_FormulaReader_endBlock 1 = .ok (.getfield 57, 3) := by decide +kernel
theorem d_FormulaReader_endBlock_4 : decode b_FormulaReader_endBlock 4 = .ok (.ifCond .ne 5, 3) := by decide +kernel
theorem d_FormulaReader_endBlock_7 : decode b_FormulaReader_endBlock 7 = .ok (.iconst 1, 1) := by decide +kernel
theorem d_FormulaReader_endBlock_8 : decode b_FormulaReader_endBlock 8 = .ok (.ireturn, 1) := by decide +kernel
theorem d_FormulaReader_endBlock_9 : decode b_FormulaReader_endBlock 9 = .ok (.aload_n 0, 1) := by decide +kernel
theorem d_FormulaReader_endBlock_10 : decode b_FormulaReader_endBlock 10 = .ok (.iconst 0, 1) := by decide +kernel
theorem d_FormulaReader_endBlock_11 : decode b_FormulaReader_endBlock 11 = .ok (.putfield 25, 3) := by decide +kernel
theorem d_FormulaReader_endBlock_14 : decode b_FormulaReader_endBlock 14 = .ok (.aload_n 0, 1) := by decide +kernel
theorem d_FormulaReader_endBlock_15 : decode b_FormulaReader_endBlock 15 = .ok (.iconst 1, 1) := by decide +kernel
theorem d_FormulaReader_endBlock_16 : decode b_FormulaReader_endBlock 16 = .ok (.putfield 21, 3) := by decide +kernel
theorem d_FormulaReader_endBlock_19 : decode b_FormulaReader_endBlock 19 = .ok (.iconst 0, 1) := by decide +kernel
theorem d_FormulaReader_endBlock_20 : decode b_FormulaReader_endBlock 20 = .ok (.ireturn, 1) := by decide +kernel
theorem d_FormulaReader_takeInClause_0 : decode b_FormulaReader_takeInClause 0 = .ok (.iload_n 1, 1) := by decide +kernel
theorem d_FormulaReader_takeInClause_1 : decode b_FormulaReader_takeInClause 1 = .ok (.ifCond .ne 8, 3) := by decide +kernel
theorem d_FormulaReader_takeInClause_4 : decode b_FormulaReader_takeInClause 4 = .ok (.aload_n 0, 1) := by decide +kernel
theorem d_FormulaReader_takeInClause_5 : decode b_FormulaReader_takeInClause 5 = .ok (.invokevirtual 74, 3) := by decide +kernel
theorem d_FormulaReader_takeInClause_8 : decode b_FormulaReader_takeInClause 8 = .ok (.ireturn, 1) := by decide +kernel
theorem d_FormulaReader_takeInClause_9 : decode b_FormulaReader_takeInClause 9 = .ok (.aload_n 0, 1) := by decide +kernel
theorem d_FormulaReader_takeInClause_10 : decode b_FormulaReader_takeInClause 10 = .ok (.getfield 12, 3) := by decide +kernel
theorem d_FormulaReader_takeInClause_13 : decode b_FormulaReader_takeInClause 13 = .ok (.iload_n 1, 1) := by decide +kernel
theorem d_FormulaReader_takeInClause_14 : decode b_FormulaReader_takeInClause 14 = .ok (.invokevirtual 66, 3) := by decide +kernel
theorem d_FormulaReader_takeInClause_17 : decode b_FormulaReader_takeInClause 17 = .ok (.ifCond .ne 5, 3) := by decide +kernel
theorem d_FormulaReader_takeInClause_20 : decode b_FormulaReader_takeInClause 20 = .ok (.iconst 2, 1) := by decide +kernel
theorem d_FormulaReader_takeInClause_21 : decode b_FormulaReader_takeInClause 21 = .ok (.ireturn, 1) := by decide +kernel
theorem d_FormulaReader_takeInClause_22 : decode b_FormulaReader_takeInClause 22 = .ok (.aload_n 0, 1) := by decide +kernel
theorem d_FormulaReader_takeInClause_23 : decode b_FormulaReader_takeInClause 23 = .ok (.getfield 28, 3) := by decide +kernel
theorem d_FormulaReader_takeInClause_26 : decode b_FormulaReader_takeInClause 26 = .ok (.iload_n 1, 1) := by decide +kernel
theorem d_FormulaReader_takeInClause_27 : decode b_FormulaReader_takeInClause 27 = .ok (.invokestatic 77, 3) := by decide +kernel
theorem d_FormulaReader_takeInClause_30 : decode b_FormulaReader_takeInClause 30 = .ok (.iload_n 1, 1) := by decide +kernel
theorem d_FormulaReader_takeInClause_31 : decode b_FormulaReader_takeInClause 31 = .ok (.ineg, 1) := by decide +kernel
theorem d_FormulaReader_takeInClause_32 : decode b_FormulaReader_takeInClause 32 = .ok (.invokestatic 77, 3) := by decide +kernel
theorem d_FormulaReader_takeInClause_35 : decode b_FormulaReader_takeInClause 35 = .ok (.ior, 1) := by decide +kernel
theorem d_FormulaReader_takeInClause_36 : decode b_FormulaReader_takeInClause 36 = .ok (.iand, 1) := by decide +kernel
theorem d_FormulaReader_takeInClause_37 : decode b_FormulaReader_takeInClause 37 = .ok (.ifCond .eq 5, 3) := by decide +kernel
theorem d_FormulaReader_takeInClause_40 : decode b_FormulaReader_takeInClause 40 = .ok (.iconst 3, 1) := by decide +kernel
theorem d_FormulaReader_takeInClause_41 : decode b_FormulaReader_takeInClause 41 = .ok (.ireturn, 1) := by decide +kernel
theorem d_FormulaReader_takeInClause_42 : decode b_FormulaReader_takeInClause 42 = .ok (.aload_n 0, 1) := by decide +kernel
theorem d_FormulaReader_takeInClause_43 : decode b_FormulaReader_takeInClause 43 = .ok (.dup, 1) := by decide +kernel
theorem d_FormulaReader_takeInClause_44 : decode b_FormulaReader_takeInClause 44 = .ok (.getfield 28, 3) := by decide +kernel
theorem d_FormulaReader_takeInClause_47 : decode b_FormulaReader_takeInClause 47 = .ok (.iload_n 1, 1) := by decide +kernel
theorem d_FormulaReader_takeInClause_48 : decode b_FormulaReader_takeInClause 48 = .ok (.invokestatic 77, 3) := by decide +kernel
theorem d_FormulaReader_takeInClause_51 : decode b_FormulaReader_takeInClause 51 = .ok (.ior, 1) := by decide +kernel
theorem d_FormulaReader_takeInClause_52 : decode b_FormulaReader_takeInClause 52 = .ok (.putfield 28, 3) := by decide +kernel
theorem d_FormulaReader_takeInClause_55 : decode b_FormulaReader_takeInClause 55 = .ok (.iconst 0, 1) := by decide +kernel
theorem d_FormulaReader_takeInClause_56 : decode b_FormulaReader_takeInClause 56 = .ok (.ireturn, 1) := by decide +kernel
theorem d_FormulaReader_endClause_0 : decode b_FormulaReader_endClause 0 = .ok (.aload_n 0, 1) := by decide +kernel
theorem d_FormulaReader_endClause_1 : decode b_FormulaReader_endClause 1 = .ok (.getfield 12, 3) := by decide +kernel
theorem d_FormulaReader_endClause_4 : decode b_FormulaReader_endClause 4 = .ok (.aload_n 0, 1) := by decide +kernel
theorem d_FormulaReader_endClause_5 : decode b_FormulaReader_endClause 5 = .ok (.getfield 28, 3) := by decide +kernel
theorem d_FormulaReader_endClause_8 : decode b_FormulaReader_endClause 8 = .ok (.invokevirtual 80, 3) := by decide +kernel
theorem d_FormulaReader_endClause_11 : decode b_FormulaReader_endClause 11 = .ok (.istore_n 1, 1) := by decide +kernel
theorem d_FormulaReader_endClause_12 : decode b_FormulaReader_endClause 12 = .ok (.aload_n 0, 1) := by decide +kernel
theorem d_FormulaReader_endClause_13 : decode b_FormulaReader_endClause 13 = .ok (.iconst 0, 1) := by decide +kernel
theorem d_FormulaReader_endClause_14 : decode b_FormulaReader_endClause 14 = .ok (.putfield 28, 3) := by decide +kernel
theorem d_FormulaReader_endClause_17 : decode b_FormulaReader_endClause 17 = .ok (.iload_n 1, 1) := by decide +kernel
theorem d_FormulaReader_endClause_18 : decode b_FormulaReader_endClause 18 = .ok (.ifCond .eq 7, 3) := by decide +kernel
theorem d_FormulaReader_endClause_21 : decode b_FormulaReader_endClause 21 = .ok (.iconst 0, 1) := by decide +kernel
theorem d_FormulaReader_endClause_22 : decode b_FormulaReader_endClause 22 = .ok (.goto 4, 3) := by decide +kernel
theorem d_FormulaReader_endClause_25 : decode b_FormulaReader_endClause 25 = .ok (.iconst 4, 1) := by decide +kernel
theorem d_FormulaReader_endClause_26 : decode b_FormulaReader_endClause 26 = .ok (.ireturn, 1) := by decide +kernel
theorem d_TraceReader_init_0 : decode b_TraceReader_init 0 = .ok (.aload_n 0, 1) := by decide +kernel
theorem d_TraceReader_init_1 : decode b_TraceReader_init 1 = .ok (.invokespecial 3, 3) := by decide +kernel
theorem d_TraceReader_init_4 : decode b_TraceReader_init 4 = .ok (.aload_n 0, 1) := by decide +kernel
theorem d_TraceReader_init_5 : decode b_TraceReader_init 5 = .ok (.new 9, 3) := by decide +kernel
theorem d_TraceReader_init_8 : decode b_TraceReader_init 8 = .ok (.dup, 1) := by decide +kernel
theorem d_TraceReader_init_9 : decode b_TraceReader_init 9 = .ok (.invokespecial 11, 3) := by decide +kernel
theorem d_TraceReader_init_12 : decode b_TraceReader_init 12 = .ok (.putfield 12, 3) := by decide +kernel
theorem d_TraceReader_init_15 : decode b_TraceReader_init 15 = .ok (.aload_n 0, 1) := by decide +kernel
theorem d_TraceReader_init_16 : decode b_TraceReader_init 16 = .ok (.iconst 2, 1) := by decide +kernel
theorem d_TraceReader_init_17 : decode b_TraceReader_init 17 = .ok (.newarray .int, 2) := by decide +kernel
theorem d_TraceReader_init_19 : decode b_TraceReader_init 19 = .ok (.putfield 18, 3) := by decide +kernel
theorem d_TraceReader_init_22 : decode b_TraceReader_init 22 = .ok (.aload_n 0, 1) := by decide +kernel
theorem d_TraceReader_init_23 : decode b_TraceReader_init 23 = .ok (.new 22, 3) := by decide +kernel
theorem d_TraceReader_init_26 : decode b_TraceReader_init 26 = .ok (.dup, 1) := by decide +kernel
theorem d_TraceReader_init_27 : decode b_TraceReader_init 27 = .ok (.invokespecial 24, 3) := by decide +kernel
theorem d_TraceReader_init_30 : decode b_TraceReader_init 30 = .ok (.putfield 25, 3) := by decide +kernel
theorem d_TraceReader_init_33 : decode b_TraceReader_init 33 = .ok (.return_, 1) := by decide +kernel
theorem d_TraceReader_begin_0 : decode b_TraceReader_begin 0 = .ok (.aload_n 0, 1) := by decide +kernel
theorem d_TraceReader_begin_1 : decode b_TraceReader_begin 1 = .ok (.aload_n 1, 1) := by decide +kernel
theorem d_TraceReader_begin_2 : decode b_TraceReader_begin 2 = .ok (.putfield 25, 3) := by decide +kernel
theorem d_TraceReader_begin_5 : decode b_TraceReader_begin 5 = .ok (.aload_n 0, 1) := by decide +kernel
theorem d_TraceReader_begin_6 : decode b_TraceReader_begin 6 = .ok (.iconst 0, 1) := by decide +kernel
theorem d_TraceReader_begin_7 : decode b_TraceReader_begin 7 = .ok (.putfield 29, 3) := by decide +kernel
theorem d_TraceReader_begin_10 : decode b_TraceReader_begin 10 = .ok (.return_, 1) := by decide +kernel
theorem d_TraceReader_take_0 : decode b_TraceReader_take 0 = .ok (.aload_n 0, 1) := by decide +kernel
theorem d_TraceReader_take_1 : decode b_TraceReader_take 1 = .ok (.getfield 29, 3) := by decide +kernel
theorem d_TraceReader_take_4 : decode b_TraceReader_take 4 = .ok (.ifCond .ne 9, 3) := by decide +kernel
theorem d_TraceReader_take_7 : decode b_TraceReader_take 7 = .ok (.aload_n 0, 1) := by decide +kernel
theorem d_TraceReader_take_8 : decode b_TraceReader_take 8 = .ok (.aload_n 1, 1) := by decide +kernel
theorem d_TraceReader_take_9 : decode b_TraceReader_take 9 = .ok (.invokevirtual 33, 3) := by decide +kernel
theorem d_TraceReader_take_12 : decode b_TraceReader_take 12 = .ok (.ireturn, 1) := by decide +kernel
theorem d_TraceReader_take_13 : decode b_TraceReader_take 13 = .ok (.aload_n 1, 1) := by decide +kernel
theorem d_TraceReader_take_14 : decode b_TraceReader_take 14 = .ok (.invokevirtual 37, 3) := by decide +kernel
theorem d_TraceReader_take_17 : decode b_TraceReader_take 17 = .ok (.ifCond .ne 5, 3) := by decide +kernel
theorem d_TraceReader_take_20 : decode b_TraceReader_take 20 = .ok (.iconst 1, 1) := by decide +kernel
theorem d_TraceReader_take_21 : decode b_TraceReader_take 21 = .ok (.ireturn, 1) := by decide +kernel
theorem d_TraceReader_take_22 : decode b_TraceReader_take 22 = .ok (.aload_n 1, 1) := by decide +kernel
theorem d_TraceReader_take_23 : decode b_TraceReader_take 23 = .ok (.invokevirtual 43, 3) := by decide +kernel
theorem d_TraceReader_take_26 : decode b_TraceReader_take 26 = .ok (.istore_n 2, 1) := by decide +kernel
theorem d_TraceReader_take_27 : decode b_TraceReader_take 27 = .ok (.aload_n 0, 1) := by decide +kernel
theorem d_TraceReader_take_28 : decode b_TraceReader_take 28 = .ok (.getfield 29, 3) := by decide +kernel
theorem d_TraceReader_take_31 : decode b_TraceReader_take 31 = .ok (.iconst 1, 1) := by decide +kernel
theorem d_TraceReader_take_32 : decode b_TraceReader_take 32 = .ok (.if_icmp .ne 9, 3) := by decide +kernel
theorem d_TraceReader_take_35 : decode b_TraceReader_take 35 = .ok (.aload_n 0, 1) := by decide +kernel
theorem d_TraceReader_take_36 : decode b_TraceReader_take 36 = .ok (.iload_n 2, 1) := by decide +kernel
theorem d_TraceReader_take_37 : decode b_TraceReader_take 37 = .ok (.invokevirtual 47, 3) := by decide +kernel
theorem d_TraceReader_take_40 : decode b_TraceReader_take 40 = .ok (.ireturn, 1) := by decide +kernel
theorem d_TraceReader_take_41 : decode b_TraceReader_take 41 = .ok (.aload_n 0, 1) := by decide +kernel
theorem d_TraceReader_take_42 : decode b_TraceReader_take 42 = .ok (.getfield 29, 3) := by decide +kernel
theorem d_TraceReader_take_45 : decode b_TraceReader_take 45 = .ok (.iconst 2, 1) := by decide +kernel
theorem d_TraceReader_take_46 : decode b_TraceReader_take 46 = .ok (.if_icmp .ne 9, 3) := by decide +kernel
theorem d_TraceReader_take_49 : decode b_TraceReader_take 49 = .ok (.aload_n 0, 1) := by decide +kernel
theorem d_TraceReader_take_50 : decode b_TraceReader_take 50 = .ok (.iload_n 2, 1) := by decide +kernel
theorem d_TraceReader_take_51 : decode b_TraceReader_take 51 = .ok (.invokevirtual 51, 3) := by decide +kernel
theorem d_TraceReader_take_54 : decode b_TraceReader_take 54 = .ok (.ireturn, 1) := by decide +kernel
theorem d_TraceReader_take_55 : decode b_TraceReader_take 55 = .ok (.iload_n 2, 1) := by decide +kernel
theorem d_TraceReader_take_56 : decode b_TraceReader_take 56 = .ok (.ifCond .eq 9, 3) := by decide +kernel
theorem d_TraceReader_take_59 : decode b_TraceReader_take 59 = .ok (.aload_n 0, 1) := by decide +kernel
theorem d_TraceReader_take_60 : decode b_TraceReader_take 60 = .ok (.iload_n 2, 1) := by decide +kernel
theorem d_TraceReader_take_61 : decode b_TraceReader_take 61 = .ok (.invokevirtual 54, 3) := by decide +kernel
theorem d_TraceReader_take_64 : decode b_TraceReader_take 64 = .ok (.ireturn, 1) := by decide +kernel
theorem d_TraceReader_take_65 : decode b_TraceReader_take 65 = .ok (.aload_n 0, 1) := by decide +kernel
theorem d_TraceReader_take_66 : decode b_TraceReader_take 66 = .ok (.invokevirtual 57, 3) := by decide +kernel
theorem d_TraceReader_take_69 : decode b_TraceReader_take 69 = .ok (.ifCond .ne 5, 3) := by decide +kernel
theorem d_TraceReader_take_72 : decode b_TraceReader_take 72 = .ok (.iconst 5, 1) := by decide +kernel
theorem d_TraceReader_take_73 : decode b_TraceReader_take 73 = .ok (.ireturn, 1) := by decide +kernel
theorem d_TraceReader_take_74 : decode b_TraceReader_take 74 = .ok (.aload_n 0, 1) := by decide +kernel
theorem d_TraceReader_take_75 : decode b_TraceReader_take 75 = .ok (.invokevirtual 60, 3) := by decide +kernel
theorem d_TraceReader_take_78 : decode b_TraceReader_take 78 = .ok (.iconst 0, 1) := by decide +kernel
theorem d_TraceReader_take_79 : decode b_TraceReader_take 79 = .ok (.ireturn, 1) := by decide +kernel
theorem d_TraceReader_mayEnd_0 : decode b_TraceReader_mayEnd 0 = .ok (.aload_n 0, 1) := by decide +kernel
theorem d_TraceReader_mayEnd_1 : decode b_TraceReader_mayEnd 1 = .ok (.getfield 29, 3) := by decide +kernel
theorem d_TraceReader_mayEnd_4 : decode b_TraceReader_mayEnd 4 = .ok (.iconst 1, 1) := by decide +kernel
theorem d_TraceReader_mayEnd_5 : decode b_TraceReader_mayEnd 5 = .ok (.if_icmp .ne 7, 3) := by decide +kernel
theorem d_TraceReader_mayEnd_8 : decode b_TraceReader_mayEnd 8 = .ok (.iconst 1, 1) := by decide +kernel
theorem d_TraceReader_mayEnd_9 : decode b_TraceReader_mayEnd 9 = .ok (.goto 4, 3) := by decide +kernel
theorem d_TraceReader_mayEnd_12 : decode b_TraceReader_mayEnd 12 = .ok (.iconst 0, 1) := by decide +kernel
theorem d_TraceReader_mayEnd_13 : decode b_TraceReader_mayEnd 13 = .ok (.ireturn, 1) := by decide +kernel
theorem d_TraceReader_takeLetter_0 : decode b_TraceReader_takeLetter 0 = .ok (.aload_n 0, 1) := by decide +kernel
theorem d_TraceReader_takeLetter_1 : decode b_TraceReader_takeLetter 1 = .ok (.aload_n 1, 1) := by decide +kernel
theorem d_TraceReader_takeLetter_2 : decode b_TraceReader_takeLetter 2 = .ok (.bipush 115, 2) := by decide +kernel
theorem d_TraceReader_takeLetter_4 : decode b_TraceReader_takeLetter 4 = .ok (.invokevirtual 63, 3) := by decide +kernel
theorem d_TraceReader_takeLetter_7 : decode b_TraceReader_takeLetter 7 = .ok (.putfield 67, 3) := by decide +kernel
theorem d_TraceReader_takeLetter_10 : decode b_TraceReader_takeLetter 10 = .ok (.aload_n 0, 1) := by decide +kernel
theorem d_TraceReader_takeLetter_11 : decode b_TraceReader_takeLetter 11 = .ok (.getfield 67, 3) := by decide +kernel
theorem d_TraceReader_takeLetter_14 : decode b_TraceReader_takeLetter 14 = .ok (.ifCond .ne 14, 3) := by decide +kernel
theorem d_TraceReader_takeLetter_17 : decode b_TraceReader_takeLetter 17 = .ok (.aload_n 1, 1) := by decide +kernel
theorem d_TraceReader_takeLetter_18 : decode b_TraceReader_takeLetter 18 = .ok (.bipush 114, 2) := by decide +kernel
theorem d_TraceReader_takeLetter_20 : decode b_TraceReader_takeLetter 20 = .ok (.invokevirtual 63, 3) := by decide +kernel
theorem d_TraceReader_takeLetter_23 : decode b_TraceReader_takeLetter 23 = .ok (.ifCond .ne 5, 3) := by decide +kernel
theorem d_TraceReader_takeLetter_26 : decode b_TraceReader_takeLetter 26 = .ok (.iconst 1, 1) := by decide +kernel
theorem d_TraceReader_takeLetter_27 : decode b_TraceReader_takeLetter 27 = .ok (.ireturn, 1) := by decide +kernel
theorem d_TraceReader_takeLetter_28 : decode b_TraceReader_takeLetter 28 = .ok (.aload_n 0, 1) := by decide +kernel
theorem d_TraceReader_takeLetter_29 : decode b_TraceReader_takeLetter 29 = .ok (.iconst 1, 1) := by decide +kernel
theorem d_TraceReader_takeLetter_30 : decode b_TraceReader_takeLetter 30 = .ok (.putfield 29, 3) := by decide +kernel
theorem d_TraceReader_takeLetter_33 : decode b_TraceReader_takeLetter 33 = .ok (.iconst 0, 1) := by decide +kernel
theorem d_TraceReader_takeLetter_34 : decode b_TraceReader_takeLetter 34 = .ok (.ireturn, 1) := by decide +kernel
theorem d_TraceReader_beginStep_0 : decode b_TraceReader_beginStep 0 = .ok (.iload_n 1, 1) := by decide +kernel
theorem d_TraceReader_beginStep_1 : decode b_TraceReader_beginStep 1 = .ok (.iconst 1, 1) := by decide +kernel
theorem d_TraceReader_beginStep_2 : decode b_TraceReader_beginStep 2 = .ok (.if_icmp .ge 5, 3) := by decide +kernel
theorem d_TraceReader_beginStep_5 : decode b_TraceReader_beginStep 5 = .ok (.iconst 1, 1) := by decide +kernel
theorem d_TraceReader_beginStep_6 : decode b_TraceReader_beginStep 6 = .ok (.ireturn, 1) := by decide +kernel
theorem d_TraceReader_beginStep_7 : decode b_TraceReader_beginStep 7 = .ok (.iload_n 1, 1) := by decide +kernel
theorem d_TraceReader_beginStep_8 : decode b_TraceReader_beginStep 8 = .ok (.bipush 99, 2) := by decide +kernel
theorem d_TraceReader_beginStep_10 : decode b_TraceReader_beginStep 10 = .ok (.if_icmp .gt 15, 3) := by decide +kernel
theorem d_TraceReader_beginStep_13 : decode b_TraceReader_beginStep 13 = .ok (.aload_n 0, 1) := by decide +kernel
theorem d_TraceReader_beginStep_14 : decode b_TraceReader_beginStep 14 = .ok (.getfield 12, 3) := by decide +kernel
theorem d_TraceReader_beginStep_17 : decode b_TraceReader_beginStep 17 = .ok (.iload_n 1, 1) := by decide +kernel
theorem d_TraceReader_beginStep_18 : decode b_TraceReader_beginStep 18 = .ok (.invokevirtual 71, 3) := by decide +kernel
theorem d_TraceReader_beginStep_21 : decode b_TraceReader_beginStep 21 = .ok (.iconst (-1), 1) := by decide +kernel
theorem d_TraceReader_beginStep_22 : decode b_TraceReader_beginStep 22 = .ok (.if_icmp .eq 5, 3) := by decide +kernel
theorem d_TraceReader_beginStep_25 : decode b_TraceReader_beginStep 25 = .ok (.iconst 2, 1) := by decide +kernel
theorem d_TraceReader_beginStep_26 : decode b_TraceReader_beginStep 26 = .ok (.ireturn, 1) := by decide +kernel
theorem d_TraceReader_beginStep_27 : decode b_TraceReader_beginStep 27 = .ok (.aload_n 0, 1) := by decide +kernel
theorem d_TraceReader_beginStep_28 : decode b_TraceReader_beginStep 28 = .ok (.getfield 12, 3) := by decide +kernel
theorem d_TraceReader_beginStep_31 : decode b_TraceReader_beginStep 31 = .ok (.invokevirtual 74, 3) := by decide +kernel
theorem d_TraceReader_beginStep_34 : decode b_TraceReader_beginStep 34 = .ok (.ifCond .eq 5, 3) := by decide +kernel
theorem d_TraceReader_beginStep_37 : decode b_TraceReader_beginStep 37 = .ok (.iconst 4, 1) := by decide +kernel
theorem d_TraceReader_beginStep_38 : decode b_TraceReader_beginStep 38 = .ok (.ireturn, 1) := by decide +kernel
theorem d_TraceReader_beginStep_39 : decode b_TraceReader_beginStep 39 = .ok (.aload_n 0, 1) := by decide +kernel
theorem d_TraceReader_beginStep_40 : decode b_TraceReader_beginStep 40 = .ok (.iload_n 1, 1) := by decide +kernel
theorem d_TraceReader_beginStep_41 : decode b_TraceReader_beginStep 41 = .ok (.putfield 77, 3) := by decide +kernel
theorem d_TraceReader_beginStep_44 : decode b_TraceReader_beginStep 44 = .ok (.aload_n 0, 1) := by decide +kernel
theorem d_TraceReader_beginStep_45 : decode b_TraceReader_beginStep 45 = .ok (.iconst 0, 1) := by decide +kernel
theorem d_TraceReader_beginStep_46 : decode b_TraceReader_beginStep 46 = .ok (.putfield 80, 3) := by decide +kernel
theorem d_TraceReader_beginStep_49 : decode b_TraceReader_beginStep 49 = .ok (.aload_n 0, 1) := by decide +kernel
theorem d_TraceReader_beginStep_50 : decode b_TraceReader_beginStep 50 = .ok (.iconst 0, 1) := by decide +kernel
theorem d_TraceReader_beginStep_51 : decode b_TraceReader_beginStep 51 = .ok (.putfield 83, 3) := by decide +kernel
theorem d_TraceReader_beginStep_54 : decode b_TraceReader_beginStep 54 = .ok (.aload_n 0, 1) := by decide +kernel
theorem d_TraceReader_beginStep_55 : decode b_TraceReader_beginStep 55 = .ok (.iconst 2, 1) := by decide +kernel
theorem d_TraceReader_beginStep_56 : decode b_TraceReader_beginStep 56 = .ok (.putfield 29, 3) := by decide +kernel
theorem d_TraceReader_beginStep_59 : decode b_TraceReader_beginStep 59 = .ok (.iconst 0, 1) := by decide +kernel
theorem d_TraceReader_beginStep_60 : decode b_TraceReader_beginStep 60 = .ok (.ireturn, 1) := by decide +kernel
theorem d_TraceReader_takeLiteral_0 : decode b_TraceReader_takeLiteral 0 = .ok (.iload_n 1, 1) := by decide +kernel
theorem d_TraceReader_takeLiteral_1 : decode b_TraceReader_takeLiteral 1 = .ok (.ifCond .ne 10, 3) := by decide +kernel
theorem d_TraceReader_takeLiteral_4 : decode b_TraceReader_takeLiteral 4 = .ok (.aload_n 0, 1) := by decide +kernel
theorem d_TraceReader_takeLiteral_5 : decode b_TraceReader_takeLiteral 5 = .ok (.iconst 3, 1) := by decide +kernel
theorem d_TraceReader_takeLiteral_6 : decode b_TraceReader_takeLiteral 6 = .ok (.putfield 29, 3) := by decide +kernel
theorem d_TraceReader_takeLiteral_9 : decode b_TraceReader_takeLiteral 9 = .ok (.iconst 0, 1) := by decide +kernel
theorem d_TraceReader_takeLiteral_10 : decode b_TraceReader_takeLiteral 10 = .ok (.ireturn, 1) := by decide +kernel
theorem d_TraceReader_takeLiteral_11 : decode b_TraceReader_takeLiteral 11 = .ok (.aload_n 0, 1) := by decide +kernel
theorem d_TraceReader_takeLiteral_12 : decode b_TraceReader_takeLiteral 12 = .ok (.getfield 25, 3) := by decide +kernel
theorem d_TraceReader_takeLiteral_15 : decode b_TraceReader_takeLiteral 15 = .ok (.iload_n 1, 1) := by decide +kernel
theorem d_TraceReader_takeLiteral_16 : decode b_TraceReader_takeLiteral 16 = .ok (.invokevirtual 86, 3) := by decide +kernel
theorem d_TraceReader_takeLiteral_19 : decode b_TraceReader_takeLiteral 19 = .ok (.ifCond .ne 5, 3) := by decide +kernel
theorem d_TraceReader_takeLiteral_22 : decode b_TraceReader_takeLiteral 22 = .ok (.iconst 2, 1) := by decide +kernel
theorem d_TraceReader_takeLiteral_23 : decode b_TraceReader_takeLiteral 23 = .ok (.ireturn, 1) := by decide +kernel
theorem d_TraceReader_takeLiteral_24 : decode b_TraceReader_takeLiteral 24 = .ok (.aload_n 0, 1) := by decide +kernel
theorem d_TraceReader_takeLiteral_25 : decode b_TraceReader_takeLiteral 25 = .ok (.getfield 80, 3) := by decide +kernel
theorem d_TraceReader_takeLiteral_28 : decode b_TraceReader_takeLiteral 28 = .ok (.iload_n 1, 1) := by decide +kernel
theorem d_TraceReader_takeLiteral_29 : decode b_TraceReader_takeLiteral 29 = .ok (.invokestatic 90, 3) := by decide +kernel
theorem d_TraceReader_takeLiteral_32 : decode b_TraceReader_takeLiteral 32 = .ok (.iand, 1) := by decide +kernel
theorem d_TraceReader_takeLiteral_33 : decode b_TraceReader_takeLiteral 33 = .ok (.ifCond .eq 5, 3) := by decide +kernel
theorem d_TraceReader_takeLiteral_36 : decode b_TraceReader_takeLiteral 36 = .ok (.iconst 3, 1) := by decide +kernel
theorem d_TraceReader_takeLiteral_37 : decode b_TraceReader_takeLiteral 37 = .ok (.ireturn, 1) := by decide +kernel
theorem d_TraceReader_takeLiteral_38 : decode b_TraceReader_takeLiteral 38 = .ok (.aload_n 0, 1) := by decide +kernel
theorem d_TraceReader_takeLiteral_39 : decode b_TraceReader_takeLiteral 39 = .ok (.dup, 1) := by decide +kernel
theorem d_TraceReader_takeLiteral_40 : decode b_TraceReader_takeLiteral 40 = .ok (.getfield 80, 3) := by decide +kernel
theorem d_TraceReader_takeLiteral_43 : decode b_TraceReader_takeLiteral 43 = .ok (.iload_n 1, 1) := by decide +kernel
theorem d_TraceReader_takeLiteral_44 : decode b_TraceReader_takeLiteral 44 = .ok (.invokestatic 90, 3) := by decide +kernel
theorem d_TraceReader_takeLiteral_47 : decode b_TraceReader_takeLiteral 47 = .ok (.ior, 1) := by decide +kernel
theorem d_TraceReader_takeLiteral_48 : decode b_TraceReader_takeLiteral 48 = .ok (.putfield 80, 3) := by decide +kernel
theorem d_TraceReader_takeLiteral_51 : decode b_TraceReader_takeLiteral 51 = .ok (.iconst 0, 1) := by decide +kernel
theorem d_TraceReader_takeLiteral_52 : decode b_TraceReader_takeLiteral 52 = .ok (.ireturn, 1) := by decide +kernel
theorem d_TraceReader_takePremise_0 : decode b_TraceReader_takePremise 0 = .ok (.aload_n 0, 1) := by decide +kernel
theorem d_TraceReader_takePremise_1 : decode b_TraceReader_takePremise 1 = .ok (.getfield 12, 3) := by decide +kernel
theorem d_TraceReader_takePremise_4 : decode b_TraceReader_takePremise 4 = .ok (.iload_n 1, 1) := by decide +kernel
theorem d_TraceReader_takePremise_5 : decode b_TraceReader_takePremise 5 = .ok (.invokevirtual 71, 3) := by decide +kernel
theorem d_TraceReader_takePremise_8 : decode b_TraceReader_takePremise 8 = .ok (.istore_n 2, 1) := by decide +kernel
theorem d_TraceReader_takePremise_9 : decode b_TraceReader_takePremise 9 = .ok (.aload_n 0, 1) := by decide +kernel
theorem d_TraceReader_takePremise_10 : decode b_TraceReader_takePremise 10 = .ok (.getfield 12, 3) := by decide +kernel
theorem d_TraceReader_takePremise_13 : decode b_TraceReader_takePremise 13 = .ok (.iload_n 2, 1) := by decide +kernel
theorem d_TraceReader_takePremise_14 : decode b_TraceReader_takePremise 14 = .ok (.invokevirtual 93, 3) := by decide +kernel
theorem d_TraceReader_takePremise_17 : decode b_TraceReader_takePremise 17 = .ok (.ifCond .eq 19, 3) := by decide +kernel
theorem d_TraceReader_takePremise_20 : decode b_TraceReader_takePremise 20 = .ok (.aload_n 0, 1) := by decide +kernel
theorem d_TraceReader_takePremise_21 : decode b_TraceReader_takePremise 21 = .ok (.getfield 12, 3) := by decide +kernel
theorem d_TraceReader_takePremise_24 : decode b_TraceReader_takePremise 24 = .ok (.getfield 96, 3) := by decide +kernel
theorem d_TraceReader_takePremise_27 : decode b_TraceReader_takePremise 27 = .ok (.iload_n 2, 1) := by decide +kernel
theorem d_TraceReader_takePremise_28 : decode b_TraceReader_takePremise 28 = .ok (.baload, 1) := by decide +kernel
theorem d_TraceReader_takePremise_29 : decode b_TraceReader_takePremise 29 = .ok (.aload_n 0, 1) := by decide +kernel
theorem d_TraceReader_takePremise_30 : decode b_TraceReader_takePremise 30 = .ok (.getfield 67, 3) := by decide +kernel
theorem d_TraceReader_takePremise_33 : decode b_TraceReader_takePremise 33 = .ok (.if_icmp .eq 5, 3) := by decide +kernel
theorem d_TraceReader_takePremise_36 : decode b_TraceReader_takePremise 36 = .ok (.iconst 2, 1) := by decide +kernel
theorem d_TraceReader_takePremise_37 : decode b_TraceReader_takePremise 37 = .ok (.ireturn, 1) := by decide +kernel
theorem d_TraceReader_takePremise_38 : decode b_TraceReader_takePremise 38 = .ok (.aload_n 0, 1) := by decide +kernel
theorem d_TraceReader_takePremise_39 : decode b_TraceReader_takePremise 39 = .ok (.getfield 83, 3) := by decide +kernel
theorem d_TraceReader_takePremise_42 : decode b_TraceReader_takePremise 42 = .ok (.iconst 2, 1) := by decide +kernel
theorem d_TraceReader_takePremise_43 : decode b_TraceReader_takePremise 43 = .ok (.if_icmp .lt 5, 3) := by decide +kernel
theorem d_TraceReader_takePremise_46 : decode b_TraceReader_takePremise 46 = .ok (.iconst 4, 1) := by decide +kernel
theorem d_TraceReader_takePremise_47 : decode b_TraceReader_takePremise 47 = .ok (.ireturn, 1) := by decide +kernel
theorem d_TraceReader_takePremise_48 : decode b_TraceReader_takePremise 48 = .ok (.aload_n 0, 1) := by decide +kernel
theorem d_TraceReader_takePremise_49 : decode b_TraceReader_takePremise 49 = .ok (.getfield 18, 3) := by decide +kernel
theorem d_TraceReader_takePremise_52 : decode b_TraceReader_takePremise 52 = .ok (.aload_n 0, 1) := by decide +kernel
theorem d_TraceReader_takePremise_53 : decode b_TraceReader_takePremise 53 = .ok (.getfield 83, 3) := by decide +kernel
theorem d_TraceReader_takePremise_56 : decode b_TraceReader_takePremise 56 = .ok (.iload_n 2, 1) := by decide +kernel
theorem d_TraceReader_takePremise_57 : decode b_TraceReader_takePremise 57 = .ok (.iastore, 1) := by decide +kernel
theorem d_TraceReader_takePremise_58 : decode b_TraceReader_takePremise 58 = .ok (.aload_n 0, 1) := by decide +kernel
theorem d_TraceReader_takePremise_59 : decode b_TraceReader_takePremise 59 = .ok (.dup, 1) := by decide +kernel
theorem d_TraceReader_takePremise_60 : decode b_TraceReader_takePremise 60 = .ok (.getfield 83, 3) := by decide +kernel
theorem d_TraceReader_takePremise_63 : decode b_TraceReader_takePremise 63 = .ok (.iconst 1, 1) := by decide +kernel
theorem d_TraceReader_takePremise_64 : decode b_TraceReader_takePremise 64 = .ok (.iadd, 1) := by decide +kernel
theorem d_TraceReader_takePremise_65 : decode b_TraceReader_takePremise 65 = .ok (.putfield 83, 3) := by decide +kernel
theorem d_TraceReader_takePremise_68 : decode b_TraceReader_takePremise 68 = .ok (.iconst 0, 1) := by decide +kernel
theorem d_TraceReader_takePremise_69 : decode b_TraceReader_takePremise 69 = .ok (.ireturn, 1) := by decide +kernel
theorem d_TraceReader_endStep_0 : decode b_TraceReader_endStep 0 = .ok (.iconst 0, 1) := by decide +kernel
theorem d_TraceReader_endStep_1 : decode b_TraceReader_endStep 1 = .ok (.istore_n 1, 1) := by decide +kernel
theorem d_TraceReader_endStep_2 : decode b_TraceReader_endStep 2 = .ok (.iconst 0, 1) := by decide +kernel
theorem d_TraceReader_endStep_3 : decode b_TraceReader_endStep 3 = .ok (.istore_n 2, 1) := by decide +kernel
theorem d_TraceReader_endStep_4 : decode b_TraceReader_endStep 4 = .ok (.iload_n 2, 1) := by decide +kernel
theorem d_TraceReader_endStep_5 : decode b_TraceReader_endStep 5 = .ok (.aload_n 0, 1) := by decide +kernel
theorem d_TraceReader_endStep_6 : decode b_TraceReader_endStep 6 = .ok (.getfield 83, 3) := by decide +kernel
theorem d_TraceReader_endStep_9 : decode b_TraceReader_endStep 9 = .ok (.if_icmp .ge 26, 3) := by decide +kernel
theorem d_TraceReader_endStep_12 : decode b_TraceReader_endStep 12 = .ok (.iload_n 1, 1) := by decide +kernel
theorem d_TraceReader_endStep_13 : decode b_TraceReader_endStep 13 = .ok (.aload_n 0, 1) := by decide +kernel
theorem d_TraceReader_endStep_14 : decode b_TraceReader_endStep 14 = .ok (.getfield 12, 3) := by decide +kernel
theorem d_TraceReader_endStep_17 : decode b_TraceReader_endStep 17 = .ok (.getfield 100, 3) := by decide +kernel
theorem d_TraceReader_endStep_20 : decode b_TraceReader_endStep 20 = .ok (.aload_n 0, 1) := by decide +kernel
theorem d_TraceReader_endStep_21 : decode b_TraceReader_endStep 21 = .ok (.getfield 18, 3) := by decide +kernel
theorem d_TraceReader_endStep_24 : decode b_TraceReader_endStep 24 = .ok (.iload_n 2, 1) := by decide +kernel
theorem d_TraceReader_endStep_25 : decode b_TraceReader_endStep 25 = .ok (.iaload, 1) := by decide +kernel
theorem d_TraceReader_endStep_26 : decode b_TraceReader_endStep 26 = .ok (.iaload, 1) := by decide +kernel
theorem d_TraceReader_endStep_27 : decode b_TraceReader_endStep 27 = .ok (.ior, 1) := by decide +kernel
theorem d_TraceReader_endStep_28 : decode b_TraceReader_endStep 28 = .ok (.istore_n 1, 1) := by decide +kernel
theorem d_TraceReader_endStep_29 : decode b_TraceReader_endStep 29 = .ok (.iinc 2 1, 3) := by decide +kernel
theorem d_TraceReader_endStep_32 : decode b_TraceReader_endStep 32 = .ok (.goto (-28), 3) := by decide +kernel
theorem d_TraceReader_endStep_35 : decode b_TraceReader_endStep 35 = .ok (.aload_n 0, 1) := by decide +kernel
theorem d_TraceReader_endStep_36 : decode b_TraceReader_endStep 36 = .ok (.getfield 12, 3) := by decide +kernel
theorem d_TraceReader_endStep_39 : decode b_TraceReader_endStep 39 = .ok (.aload_n 0, 1) := by decide +kernel
theorem d_TraceReader_endStep_40 : decode b_TraceReader_endStep 40 = .ok (.getfield 77, 3) := by decide +kernel
theorem d_TraceReader_endStep_43 : decode b_TraceReader_endStep 43 = .ok (.aload_n 0, 1) := by decide +kernel
theorem d_TraceReader_endStep_44 : decode b_TraceReader_endStep 44 = .ok (.getfield 80, 3) := by decide +kernel
theorem d_TraceReader_endStep_47 : decode b_TraceReader_endStep 47 = .ok (.aload_n 0, 1) := by decide +kernel
theorem d_TraceReader_endStep_48 : decode b_TraceReader_endStep 48 = .ok (.getfield 67, 3) := by decide +kernel
theorem d_TraceReader_endStep_51 : decode b_TraceReader_endStep 51 = .ok (.iload_n 1, 1) := by decide +kernel
theorem d_TraceReader_endStep_52 : decode b_TraceReader_endStep 52 = .ok (.invokevirtual 103, 3) := by decide +kernel
theorem d_TraceReader_endStep_55 : decode b_TraceReader_endStep 55 = .ok (.aload_n 0, 1) := by decide +kernel
theorem d_TraceReader_endStep_56 : decode b_TraceReader_endStep 56 = .ok (.iconst 1, 1) := by decide +kernel
theorem d_TraceReader_endStep_57 : decode b_TraceReader_endStep 57 = .ok (.putfield 29, 3) := by decide +kernel
theorem d_TraceReader_endStep_60 : decode b_TraceReader_endStep 60 = .ok (.return_, 1) := by decide +kernel
theorem d_TraceReader_follows_0 : decode b_TraceReader_follows 0 = .ok (.aload_n 0, 1) := by decide +kernel
theorem d_TraceReader_follows_1 : decode b_TraceReader_follows 1 = .ok (.getfield 83, 3) := by decide +kernel
theorem d_TraceReader_follows_4 : decode b_TraceReader_follows 4 = .ok (.lookupswitch 73 #[(0, 28), (1, 54)], 28) := by decide +kernel
theorem d_TraceReader_follows_32 : decode b_TraceReader_follows 32 = .ok (.aload_n 0, 1) := by decide +kernel
theorem d_TraceReader_follows_33 : decode b_TraceReader_follows 33 = .ok (.getfield 67, 3) := by decide +kernel
theorem d_TraceReader_follows_36 : decode b_TraceReader_follows 36 = .ok (.ifCond .eq 10, 3) := by decide +kernel
theorem d_TraceReader_follows_39 : decode b_TraceReader_follows 39 = .ok (.aload_n 0, 1) := by decide +kernel
theorem d_TraceReader_follows_40 : decode b_TraceReader_follows 40 = .ok (.invokevirtual 107, 3) := by decide +kernel
theorem d_TraceReader_follows_43 : decode b_TraceReader_follows 43 = .ok (.goto 14, 3) := by decide +kernel
theorem d_TraceReader_follows_46 : decode b_TraceReader_follows 46 = .ok (.aload_n 0, 1) := by decide +kernel
theorem d_TraceReader_follows_47 : decode b_TraceReader_follows 47 = .ok (.getfield 25, 3) := by decide +kernel
theorem d_TraceReader_follows_50 : decode b_TraceReader_follows 50 = .ok (.aload_n 0, 1) := by decide +kernel
theorem d_TraceReader_follows_51 : decode b_TraceReader_follows 51 = .ok (.getfield 80, 3) := by decide +kernel
theorem d_TraceReader_follows_54 : decode b_TraceReader_follows 54 = .ok (.invokevirtual 110, 3) := by decide +kernel
theorem d_TraceReader_follows_57 : decode b_TraceReader_follows 57 = .ok (.ireturn, 1) := by decide +kernel
theorem d_TraceReader_follows_58 : decode b_TraceReader_follows 58 = .ok (.aload_n 0, 1) := by decide +kernel
theorem d_TraceReader_follows_59 : decode b_TraceReader_follows 59 = .ok (.aload_n 0, 1) := by decide +kernel
theorem d_TraceReader_follows_60 : decode b_TraceReader_follows 60 = .ok (.getfield 12, 3) := by decide +kernel
theorem d_TraceReader_follows_63 : decode b_TraceReader_follows 63 = .ok (.getfield 113, 3) := by decide +kernel
theorem d_TraceReader_follows_66 : decode b_TraceReader_follows 66 = .ok (.aload_n 0, 1) := by decide +kernel
theorem d_TraceReader_follows_67 : decode b_TraceReader_follows 67 = .ok (.getfield 18, 3) := by decide +kernel
theorem d_TraceReader_follows_70 : decode b_TraceReader_follows 70 = .ok (.iconst 0, 1) := by decide +kernel
theorem d_TraceReader_follows_71 : decode b_TraceReader_follows 71 = .ok (.iaload, 1) := by decide +kernel
theorem d_TraceReader_follows_72 : decode b_TraceReader_follows 72 = .ok (.iaload, 1) := by decide +kernel
theorem d_TraceReader_follows_73 : decode b_TraceReader_follows 73 = .ok (.invokevirtual 115, 3) := by decide +kernel
theorem d_TraceReader_follows_76 : decode b_TraceReader_follows 76 = .ok (.ireturn, 1) := by decide +kernel
theorem d_TraceReader_follows_77 : decode b_TraceReader_follows 77 = .ok (.aload_n 0, 1) := by decide +kernel
theorem d_TraceReader_follows_78 : decode b_TraceReader_follows 78 = .ok (.aload_n 0, 1) := by decide +kernel
theorem d_TraceReader_follows_79 : decode b_TraceReader_follows 79 = .ok (.getfield 12, 3) := by decide +kernel
theorem d_TraceReader_follows_82 : decode b_TraceReader_follows 82 = .ok (.getfield 113, 3) := by decide +kernel
theorem d_TraceReader_follows_85 : decode b_TraceReader_follows 85 = .ok (.aload_n 0, 1) := by decide +kernel
theorem d_TraceReader_follows_86 : decode b_TraceReader_follows 86 = .ok (.getfield 18, 3) := by decide +kernel
theorem d_TraceReader_follows_89 : decode b_TraceReader_follows 89 = .ok (.iconst 0, 1) := by decide +kernel
theorem d_TraceReader_follows_90 : decode b_TraceReader_follows 90 = .ok (.iaload, 1) := by decide +kernel
theorem d_TraceReader_follows_91 : decode b_TraceReader_follows 91 = .ok (.iaload, 1) := by decide +kernel
theorem d_TraceReader_follows_92 : decode b_TraceReader_follows 92 = .ok (.aload_n 0, 1) := by decide +kernel
theorem d_TraceReader_follows_93 : decode b_TraceReader_follows 93 = .ok (.getfield 12, 3) := by decide +kernel
theorem d_TraceReader_follows_96 : decode b_TraceReader_follows 96 = .ok (.getfield 113, 3) := by decide +kernel
theorem d_TraceReader_follows_99 : decode b_TraceReader_follows 99 = .ok (.aload_n 0, 1) := by decide +kernel
theorem d_TraceReader_follows_100 : decode b_TraceReader_follows 100 = .ok (.getfield 18, 3) := by decide +kernel
theorem d_TraceReader_follows_103 : decode b_TraceReader_follows 103 = .ok (.iconst 1, 1) := by decide +kernel
theorem d_TraceReader_follows_104 : decode b_TraceReader_follows 104 = .ok (.iaload, 1) := by decide +kernel
theorem d_TraceReader_follows_105 : decode b_TraceReader_follows 105 = .ok (.iaload, 1) := by decide +kernel
theorem d_TraceReader_follows_106 : decode b_TraceReader_follows 106 = .ok (.invokevirtual 118, 3) := by decide +kernel
theorem d_TraceReader_follows_109 : decode b_TraceReader_follows 109 = .ok (.ireturn, 1) := by decide +kernel
theorem d_TraceReader_mainVariables_0 : decode b_TraceReader_mainVariables 0 = .ok (.aload_n 0, 1) := by decide +kernel
theorem d_TraceReader_mainVariables_1 : decode b_TraceReader_mainVariables 1 = .ok (.getfield 67, 3) := by decide +kernel
theorem d_TraceReader_mainVariables_4 : decode b_TraceReader_mainVariables 4 = .ok (.ifCond .eq 13, 3) := by decide +kernel
theorem d_TraceReader_mainVariables_7 : decode b_TraceReader_mainVariables 7 = .ok (.aload_n 0, 1) := by decide +kernel
theorem d_TraceReader_mainVariables_8 : decode b_TraceReader_mainVariables 8 = .ok (.getfield 25, 3) := by decide +kernel
theorem d_TraceReader_mainVariables_11 : decode b_TraceReader_mainVariables 11 = .ok (.getfield 122, 3) := by decide +kernel
theorem d_TraceReader_mainVariables_14 : decode b_TraceReader_mainVariables 14 = .ok (.goto 10, 3) := by decide +kernel
theorem d_TraceReader_mainVariables_17 : decode b_TraceReader_mainVariables 17 = .ok (.aload_n 0, 1) := by decide +kernel
theorem d_TraceReader_mainVariables_18 : decode b_TraceReader_mainVariables 18 = .ok (.getfield 25, 3) := by decide +kernel
theorem d_TraceReader_mainVariables_21 : decode b_TraceReader_mainVariables 21 = .ok (.getfield 125, 3) := by decide +kernel
theorem d_TraceReader_mainVariables_24 : decode b_TraceReader_mainVariables 24 = .ok (.ireturn, 1) := by decide +kernel
theorem d_TraceReader_sideVariables_0 : decode b_TraceReader_sideVariables 0 = .ok (.aload_n 0, 1) := by decide +kernel
theorem d_TraceReader_sideVariables_1 : decode b_TraceReader_sideVariables 1 = .ok (.getfield 67, 3) := by decide +kernel
theorem d_TraceReader_sideVariables_4 : decode b_TraceReader_sideVariables 4 = .ok (.ifCond .eq 13, 3) := by decide +kernel
theorem d_TraceReader_sideVariables_7 : decode b_TraceReader_sideVariables 7 = .ok (.aload_n 0, 1) := by decide +kernel
theorem d_TraceReader_sideVariables_8 : decode b_TraceReader_sideVariables 8 = .ok (.getfield 25, 3) := by decide +kernel
theorem d_TraceReader_sideVariables_11 : decode b_TraceReader_sideVariables 11 = .ok (.getfield 125, 3) := by decide +kernel
theorem d_TraceReader_sideVariables_14 : decode b_TraceReader_sideVariables 14 = .ok (.goto 10, 3) := by decide +kernel
theorem d_TraceReader_sideVariables_17 : decode b_TraceReader_sideVariables 17 = .ok (.aload_n 0, 1) := by decide +kernel
theorem d_TraceReader_sideVariables_18 : decode b_TraceReader_sideVariables 18 = .ok (.getfield 25, 3) := by decide +kernel
theorem d_TraceReader_sideVariables_21 : decode b_TraceReader_sideVariables 21 = .ok (.getfield 122, 3) := by decide +kernel
theorem d_TraceReader_sideVariables_24 : decode b_TraceReader_sideVariables 24 = .ok (.ireturn, 1) := by decide +kernel
theorem d_TraceReader_isStartCube_0 : decode b_TraceReader_isStartCube 0 = .ok (.aload_n 0, 1) := by decide +kernel
theorem d_TraceReader_isStartCube_1 : decode b_TraceReader_isStartCube 1 = .ok (.getfield 80, 3) := by decide +kernel
theorem d_TraceReader_isStartCube_4 : decode b_TraceReader_isStartCube 4 = .ok (.invokestatic 128, 3) := by decide +kernel
theorem d_TraceReader_isStartCube_7 : decode b_TraceReader_isStartCube 7 = .ok (.ifCond .ne 21, 3) := by decide +kernel
theorem d_TraceReader_isStartCube_10 : decode b_TraceReader_isStartCube 10 = .ok (.aload_n 0, 1) := by decide +kernel
theorem d_TraceReader_isStartCube_11 : decode b_TraceReader_isStartCube 11 = .ok (.getfield 25, 3) := by decide +kernel
theorem d_TraceReader_isStartCube_14 : decode b_TraceReader_isStartCube 14 = .ok (.aload_n 0, 1) := by decide +kernel
theorem d_TraceReader_isStartCube_15 : decode b_TraceReader_isStartCube 15 = .ok (.getfield 80, 3) := by decide +kernel
theorem d_TraceReader_isStartCube_18 : decode b_TraceReader_isStartCube 18 = .ok (.invokevirtual 131, 3) := by decide +kernel
theorem d_TraceReader_isStartCube_21 : decode b_TraceReader_isStartCube 21 = .ok (.ifCond .eq 7, 3) := by decide +kernel
theorem d_TraceReader_isStartCube_24 : decode b_TraceReader_isStartCube 24 = .ok (.iconst 1, 1) := by decide +kernel
theorem d_TraceReader_isStartCube_25 : decode b_TraceReader_isStartCube 25 = .ok (.goto 4, 3) := by decide +kernel
theorem d_TraceReader_isStartCube_28 : decode b_TraceReader_isStartCube 28 = .ok (.iconst 0, 1) := by decide +kernel
theorem d_TraceReader_isStartCube_29 : decode b_TraceReader_isStartCube 29 = .ok (.ireturn, 1) := by decide +kernel
theorem d_TraceReader_isReductionOf_0 : decode b_TraceReader_isReductionOf 0 = .ok (.aload_n 0, 1) := by decide +kernel
theorem d_TraceReader_isReductionOf_1 : decode b_TraceReader_isReductionOf 1 = .ok (.getfield 25, 3) := by decide +kernel
theorem d_TraceReader_isReductionOf_4 : decode b_TraceReader_isReductionOf 4 = .ok (.iload_n 1, 1) := by decide +kernel
theorem d_TraceReader_isReductionOf_5 : decode b_TraceReader_isReductionOf 5 = .ok (.invokestatic 134, 3) := by decide +kernel
theorem d_TraceReader_isReductionOf_8 : decode b_TraceReader_isReductionOf 8 = .ok (.aload_n 0, 1) := by decide +kernel
theorem d_TraceReader_isReductionOf_9 : decode b_TraceReader_isReductionOf 9 = .ok (.invokevirtual 137, 3) := by decide +kernel
theorem d_TraceReader_isReductionOf_12 : decode b_TraceReader_isReductionOf 12 = .ok (.iand, 1) := by decide +kernel
theorem d_TraceReader_isReductionOf_13 : decode b_TraceReader_isReductionOf 13 = .ok (.invokevirtual 140, 3) := by decide +kernel
theorem d_TraceReader_isReductionOf_16 : decode b_TraceReader_isReductionOf 16 = .ok (.istore_n 2, 1) := by decide +kernel
theorem d_TraceReader_isReductionOf_17 : decode b_TraceReader_isReductionOf 17 = .ok (.aload_n 0, 1) := by decide +kernel
theorem d_TraceReader_isReductionOf_18 : decode b_TraceReader_isReductionOf 18 = .ok (.getfield 80, 3) := by decide +kernel
theorem d_TraceReader_isReductionOf_21 : decode b_TraceReader_isReductionOf 21 = .ok (.iload_n 1, 1) := by decide +kernel
theorem d_TraceReader_isReductionOf_22 : decode b_TraceReader_isReductionOf 22 = .ok (.iload_n 2, 1) := by decide +kernel
theorem d_TraceReader_isReductionOf_23 : decode b_TraceReader_isReductionOf 23 = .ok (.aload_n 0, 1) := by decide +kernel
theorem d_TraceReader_isReductionOf_24 : decode b_TraceReader_isReductionOf 24 = .ok (.invokevirtual 143, 3) := by decide +kernel
theorem d_TraceReader_isReductionOf_27 : decode b_TraceReader_isReductionOf 27 = .ok (.iand, 1) := by decide +kernel
theorem d_TraceReader_isReductionOf_28 : decode b_TraceReader_isReductionOf 28 = .ok (.invokestatic 146, 3) := by decide +kernel
theorem d_TraceReader_isReductionOf_31 : decode b_TraceReader_isReductionOf 31 = .ok (.iconst (-1), 1) := by decide +kernel
theorem d_TraceReader_isReductionOf_32 : decode b_TraceReader_isReductionOf 32 = .ok (.ixor, 1) := by decide +kernel
theorem d_TraceReader_isReductionOf_33 : decode b_TraceReader_isReductionOf 33 = .ok (.iand, 1) := by decide +kernel
theorem d_TraceReader_isReductionOf_34 : decode b_TraceReader_isReductionOf 34 = .ok (.if_icmp .ne 7, 3) := by decide +kernel
theorem d_TraceReader_isReductionOf_37 : decode b_TraceReader_isReductionOf 37 = .ok (.iconst 1, 1) := by decide +kernel
theorem d_TraceReader_isReductionOf_38 : decode b_TraceReader_isReductionOf 38 = .ok (.goto 4, 3) := by decide +kernel
theorem d_TraceReader_isReductionOf_41 : decode b_TraceReader_isReductionOf 41 = .ok (.iconst 0, 1) := by decide +kernel
theorem d_TraceReader_isReductionOf_42 : decode b_TraceReader_isReductionOf 42 = .ok (.ireturn, 1) := by decide +kernel
theorem d_TraceReader_isResolventOf_0 : decode b_TraceReader_isResolventOf 0 = .ok (.iload_n 1, 1) := by decide +kernel
theorem d_TraceReader_isResolventOf_1 : decode b_TraceReader_isResolventOf 1 = .ok (.iload_n 2, 1) := by decide +kernel
theorem d_TraceReader_isResolventOf_2 : decode b_TraceReader_isResolventOf 2 = .ok (.bipush 8, 2) := by decide +kernel
theorem d_TraceReader_isResolventOf_4 : decode b_TraceReader_isResolventOf 4 = .ok (.ishr, 1) := by decide +kernel
theorem d_TraceReader_isResolventOf_5 : decode b_TraceReader_isResolventOf 5 = .ok (.iand, 1) := by decide +kernel
theorem d_TraceReader_isResolventOf_6 : decode b_TraceReader_isResolventOf 6 = .ok (.iload_n 1, 1) := by decide +kernel
theorem d_TraceReader_isResolventOf_7 : decode b_TraceReader_isResolventOf 7 = .ok (.bipush 8, 2) := by decide +kernel
theorem d_TraceReader_isResolventOf_9 : decode b_TraceReader_isResolventOf 9 = .ok (.ishr, 1) := by decide +kernel
theorem d_TraceReader_isResolventOf_10 : decode b_TraceReader_isResolventOf 10 = .ok (.iload_n 2, 1) := by decide +kernel
theorem d_TraceReader_isResolventOf_11 : decode b_TraceReader_isResolventOf 11 = .ok (.iand, 1) := by decide +kernel
theorem d_TraceReader_isResolventOf_12 : decode b_TraceReader_isResolventOf 12 = .ok (.ior, 1) := by decide +kernel
theorem d_TraceReader_isResolventOf_13 : decode b_TraceReader_isResolventOf 13 = .ok (.aload_n 0, 1) := by decide +kernel
theorem d_TraceReader_isResolventOf_14 : decode b_TraceReader_isResolventOf 14 = .ok (.invokevirtual 137, 3) := by decide +kernel
theorem d_TraceReader_isResolventOf_17 : decode b_TraceReader_isResolventOf 17 = .ok (.iand, 1) := by decide +kernel
theorem d_TraceReader_isResolventOf_18 : decode b_TraceReader_isResolventOf 18 = .ok (.istore_n 3, 1) := by decide +kernel
theorem d_TraceReader_isResolventOf_19 : decode b_TraceReader_isResolventOf 19 = .ok (.iload_n 3, 1) := by decide +kernel
theorem d_TraceReader_isResolventOf_20 : decode b_TraceReader_isResolventOf 20 = .ok (.invokestatic 149, 3) := by decide +kernel
theorem d_TraceReader_isResolventOf_23 : decode b_TraceReader_isResolventOf 23 = .ok (.iconst 1, 1) := by decide +kernel
theorem d_TraceReader_isResolventOf_24 : decode b_TraceReader_isResolventOf 24 = .ok (.if_icmp .eq 5, 3) := by decide +kernel
theorem d_TraceReader_isResolventOf_27 : decode b_TraceReader_isResolventOf 27 = .ok (.iconst 0, 1) := by decide +kernel
theorem d_TraceReader_isResolventOf_28 : decode b_TraceReader_isResolventOf 28 = .ok (.ireturn, 1) := by decide +kernel
theorem d_TraceReader_isResolventOf_29 : decode b_TraceReader_isResolventOf 29 = .ok (.iload_n 1, 1) := by decide +kernel
theorem d_TraceReader_isResolventOf_30 : decode b_TraceReader_isResolventOf 30 = .ok (.iload_n 2, 1) := by decide +kernel
theorem d_TraceReader_isResolventOf_31 : decode b_TraceReader_isResolventOf 31 = .ok (.ior, 1) := by decide +kernel
theorem d_TraceReader_isResolventOf_32 : decode b_TraceReader_isResolventOf 32 = .ok (.iload_n 3, 1) := by decide +kernel
theorem d_TraceReader_isResolventOf_33 : decode b_TraceReader_isResolventOf 33 = .ok (.invokestatic 146, 3) := by decide +kernel
theorem d_TraceReader_isResolventOf_36 : decode b_TraceReader_isResolventOf 36 = .ok (.iconst (-1), 1) := by decide +kernel
theorem d_TraceReader_isResolventOf_37 : decode b_TraceReader_isResolventOf 37 = .ok (.ixor, 1) := by decide +kernel
theorem d_TraceReader_isResolventOf_38 : decode b_TraceReader_isResolventOf 38 = .ok (.iand, 1) := by decide +kernel
theorem d_TraceReader_isResolventOf_39 : decode b_TraceReader_isResolventOf 39 = .ok (.istore 4, 2) := by decide +kernel
theorem d_TraceReader_isResolventOf_41 : decode b_TraceReader_isResolventOf 41 = .ok (.iload 4, 2) := by decide +kernel
theorem d_TraceReader_isResolventOf_43 : decode b_TraceReader_isResolventOf 43 = .ok (.invokestatic 128, 3) := by decide +kernel
theorem d_TraceReader_isResolventOf_46 : decode b_TraceReader_isResolventOf 46 = .ok (.istore 5, 2) := by decide +kernel
theorem d_TraceReader_isResolventOf_48 : decode b_TraceReader_isResolventOf 48 = .ok (.iload_n 1, 1) := by decide +kernel
theorem d_TraceReader_isResolventOf_49 : decode b_TraceReader_isResolventOf 49 = .ok (.invokestatic 134, 3) := by decide +kernel
theorem d_TraceReader_isResolventOf_52 : decode b_TraceReader_isResolventOf 52 = .ok (.iload_n 2, 1) := by decide +kernel
theorem d_TraceReader_isResolventOf_53 : decode b_TraceReader_isResolventOf 53 = .ok (.invokestatic 134, 3) := by decide +kernel
theorem d_TraceReader_isResolventOf_56 : decode b_TraceReader_isResolventOf 56 = .ok (.iand, 1) := by decide +kernel
theorem d_TraceReader_isResolventOf_57 : decode b_TraceReader_isResolventOf 57 = .ok (.iload 5, 2) := by decide +kernel
theorem d_TraceReader_isResolventOf_59 : decode b_TraceReader_isResolventOf 59 = .ok (.iand, 1) := by decide +kernel
theorem d_TraceReader_isResolventOf_60 : decode b_TraceReader_isResolventOf 60 = .ok (.aload_n 0, 1) := by decide +kernel
theorem d_TraceReader_isResolventOf_61 : decode b_TraceReader_isResolventOf 61 = .ok (.invokevirtual 143, 3) := by decide +kernel
theorem d_TraceReader_isResolventOf_64 : decode b_TraceReader_isResolventOf 64 = .ok (.iand, 1) := by decide +kernel
theorem d_TraceReader_isResolventOf_65 : decode b_TraceReader_isResolventOf 65 = .ok (.istore 6, 2) := by decide +kernel
theorem d_TraceReader_isResolventOf_67 : decode b_TraceReader_isResolventOf 67 = .ok (.aload_n 0, 1) := by decide +kernel
theorem d_TraceReader_isResolventOf_68 : decode b_TraceReader_isResolventOf 68 = .ok (.getfield 80, 3) := by decide +kernel
theorem d_TraceReader_isResolventOf_71 : decode b_TraceReader_isResolventOf 71 = .ok (.iload 4, 2) := by decide +kernel
theorem d_TraceReader_isResolventOf_73 : decode b_TraceReader_isResolventOf 73 = .ok (.if_icmp .ne 33, 3) := by decide +kernel
theorem d_TraceReader_isResolventOf_76 : decode b_TraceReader_isResolventOf 76 = .ok (.iload 5, 2) := by decide +kernel
theorem d_TraceReader_isResolventOf_78 : decode b_TraceReader_isResolventOf 78 = .ok (.aload_n 0, 1) := by decide +kernel
theorem d_TraceReader_isResolventOf_79 : decode b_TraceReader_isResolventOf 79 = .ok (.invokevirtual 137, 3) := by decide +kernel
theorem d_TraceReader_isResolventOf_82 : decode b_TraceReader_isResolventOf 82 = .ok (.iand, 1) := by decide +kernel
theorem d_TraceReader_isResolventOf_83 : decode b_TraceReader_isResolventOf 83 = .ok (.ifCond .ne 23, 3) := by decide +kernel
theorem d_TraceReader_isResolventOf_86 : decode b_TraceReader_isResolventOf 86 = .ok (.iload 6, 2) := by decide +kernel
theorem d_TraceReader_isResolventOf_88 : decode b_TraceReader_isResolventOf 88 = .ok (.aload_n 0, 1) := by decide +kernel
theorem d_TraceReader_isResolventOf_89 : decode b_TraceReader_isResolventOf 89 = .ok (.getfield 25, 3) := by decide +kernel
theorem d_TraceReader_isResolventOf_92 : decode b_TraceReader_isResolventOf 92 = .ok (.iload_n 3, 1) := by decide +kernel
theorem d_TraceReader_isResolventOf_93 : decode b_TraceReader_isResolventOf 93 = .ok (.invokevirtual 140, 3) := by decide +kernel
theorem d_TraceReader_isResolventOf_96 : decode b_TraceReader_isResolventOf 96 = .ok (.iconst (-1), 1) := by decide +kernel
theorem d_TraceReader_isResolventOf_97 : decode b_TraceReader_isResolventOf 97 = .ok (.ixor, 1) := by decide +kernel
theorem d_TraceReader_isResolventOf_98 : decode b_TraceReader_isResolventOf 98 = .ok (.iand, 1) := by decide +kernel
theorem d_TraceReader_isResolventOf_99 : decode b_TraceReader_isResolventOf 99 = .ok (.ifCond .ne 7, 3) := by decide +kernel
theorem d_TraceReader_isResolventOf_102 : decode b_TraceReader_isResolventOf 102 = .ok (.iconst 1, 1) := by decide +kernel
theorem d_TraceReader_isResolventOf_103 : decode b_TraceReader_isResolventOf 103 = .ok (.goto 4, 3) := by decide +kernel
theorem d_TraceReader_isResolventOf_106 : decode b_TraceReader_isResolventOf 106 = .ok (.iconst 0, 1) := by decide +kernel
theorem d_TraceReader_isResolventOf_107 : decode b_TraceReader_isResolventOf 107 = .ok (.ireturn, 1) := by decide +kernel
theorem d_LA_law_0 : decode code 0 = .ok (.new 7, 3) := by decide +kernel
theorem d_LA_law_3 : decode code 3 = .ok (.dup, 1) := by decide +kernel
theorem d_LA_law_4 : decode code 4 = .ok (.invokespecial 9, 3) := by decide +kernel
theorem d_LA_law_7 : decode code 7 = .ok (.astore_n 1, 1) := by decide +kernel
theorem d_LA_law_8 : decode code 8 = .ok (.new 10, 3) := by decide +kernel
theorem d_LA_law_11 : decode code 11 = .ok (.dup, 1) := by decide +kernel
theorem d_LA_law_12 : decode code 12 = .ok (.invokespecial 12, 3) := by decide +kernel
theorem d_LA_law_15 : decode code 15 = .ok (.astore_n 2, 1) := by decide +kernel
theorem d_LA_law_16 : decode code 16 = .ok (.iconst 0, 1) := by decide +kernel
theorem d_LA_law_17 : decode code 17 = .ok (.istore_n 3, 1) := by decide +kernel
theorem d_LA_law_18 : decode code 18 = .ok (.iload_n 3, 1) := by decide +kernel
theorem d_LA_law_19 : decode code 19 = .ok (.aload_n 0, 1) := by decide +kernel
theorem d_LA_law_20 : decode code 20 = .ok (.arraylength, 1) := by decide +kernel
theorem d_LA_law_21 : decode code 21 = .ok (.iconst 3, 1) := by decide +kernel
theorem d_LA_law_22 : decode code 22 = .ok (.isub, 1) := by decide +kernel
theorem d_LA_law_23 : decode code 23 = .ok (.if_icmp .gt 334, 3) := by decide +kernel
theorem d_LA_law_26 : decode code 26 = .ok (.aload_n 0, 1) := by decide +kernel
theorem d_LA_law_27 : decode code 27 = .ok (.iload_n 3, 1) := by decide +kernel
theorem d_LA_law_28 : decode code 28 = .ok (.iaload, 1) := by decide +kernel
theorem d_LA_law_29 : decode code 29 = .ok (.bipush 15, 2) := by decide +kernel
theorem d_LA_law_31 : decode code 31 = .ok (.iand, 1) := by decide +kernel
theorem d_LA_law_32 : decode code 32 = .ok (.tableswitch 319 0 12 #[68, 93, 106, 119, 132, 155, 168, 191, 204, 227, 250, 263, 296], 68) := by decide +kernel
theorem d_LA_law_100 : decode code 100 = .ok (.aload_n 1, 1) := by decide +kernel
theorem d_LA_law_101 : decode code 101 = .ok (.aload_n 0, 1) := by decide +kernel
theorem d_LA_law_102 : decode code 102 = .ok (.iload_n 3, 1) := by decide +kernel
theorem d_LA_law_103 : decode code 103 = .ok (.iconst 1, 1) := by decide +kernel
theorem d_LA_law_104 : decode code 104 = .ok (.iadd, 1) := by decide +kernel
theorem d_LA_law_105 : decode code 105 = .ok (.iaload, 1) := by decide +kernel
theorem d_LA_law_106 : decode code 106 = .ok (.i2c, 1) := by decide +kernel
theorem d_LA_law_107 : decode code 107 = .ok (.invokevirtual 13, 3) := by decide +kernel
theorem d_LA_law_110 : decode code 110 = .ok (.aload_n 2, 1) := by decide +kernel
theorem d_LA_law_111 : decode code 111 = .ok (.aload_n 0, 1) := by decide +kernel
theorem d_LA_law_112 : decode code 112 = .ok (.iload_n 3, 1) := by decide +kernel
theorem d_LA_law_113 : decode code 113 = .ok (.iconst 1, 1) := by decide +kernel
theorem d_LA_law_114 : decode code 114 = .ok (.iadd, 1) := by decide +kernel
theorem d_LA_law_115 : decode code 115 = .ok (.iaload, 1) := by decide +kernel
theorem d_LA_law_116 : decode code 116 = .ok (.i2c, 1) := by decide +kernel
theorem d_LA_law_117 : decode code 117 = .ok (.invokevirtual 17, 3) := by decide +kernel
theorem d_LA_law_120 : decode code 120 = .ok (.if_icmp .eq 231, 3) := by decide +kernel
theorem d_LA_law_123 : decode code 123 = .ok (.iconst 0, 1) := by decide +kernel
theorem d_LA_law_124 : decode code 124 = .ok (.ireturn, 1) := by decide +kernel
theorem d_LA_law_125 : decode code 125 = .ok (.aload_n 1, 1) := by decide +kernel
theorem d_LA_law_126 : decode code 126 = .ok (.invokevirtual 18, 3) := by decide +kernel
theorem d_LA_law_129 : decode code 129 = .ok (.aload_n 2, 1) := by decide +kernel
theorem d_LA_law_130 : decode code 130 = .ok (.invokevirtual 22, 3) := by decide +kernel
theorem d_LA_law_133 : decode code 133 = .ok (.if_icmp .eq 218, 3) := by decide +kernel
theorem d_LA_law_136 : decode code 136 = .ok (.iconst 0, 1) := by decide +kernel
theorem d_LA_law_137 : decode code 137 = .ok (.ireturn, 1) := by decide +kernel
theorem d_LA_law_138 : decode code 138 = .ok (.aload_n 1, 1) := by decide +kernel
theorem d_LA_law_139 : decode code 139 = .ok (.invokevirtual 23, 3) := by decide +kernel
theorem d_LA_law_142 : decode code 142 = .ok (.aload_n 2, 1) := by decide +kernel
theorem d_LA_law_143 : decode code 143 = .ok (.invokevirtual 26, 3) := by decide +kernel
theorem d_LA_law_146 : decode code 146 = .ok (.if_icmp .eq 205, 3) := by decide +kernel
theorem d_LA_law_149 : decode code 149 = .ok (.iconst 0, 1) := by decide +kernel
theorem d_LA_law_150 : decode code 150 = .ok (.ireturn, 1) := by decide +kernel
theorem d_LA_law_151 : decode code 151 = .ok (.aload_n 1, 1) := by decide +kernel
theorem d_LA_law_152 : decode code 152 = .ok (.invokevirtual 27, 3) := by decide +kernel
theorem d_LA_law_155 : decode code 155 = .ok (.aload_n 2, 1) := by decide +kernel
theorem d_LA_law_156 : decode code 156 = .ok (.invokevirtual 30, 3) := by decide +kernel
theorem d_LA_law_159 : decode code 159 = .ok (.if_icmp .eq 192, 3) := by decide +kernel
theorem d_LA_law_162 : decode code 162 = .ok (.iconst 0, 1) := by decide +kernel
theorem d_LA_law_163 : decode code 163 = .ok (.ireturn, 1) := by decide +kernel
theorem d_LA_law_164 : decode code 164 = .ok (.aload_n 1, 1) := by decide +kernel
theorem d_LA_law_165 : decode code 165 = .ok (.aload_n 0, 1) := by decide +kernel
theorem d_LA_law_166 : decode code 166 = .ok (.iload_n 3, 1) := by decide +kernel
theorem d_LA_law_167 : decode code 167 = .ok (.iconst 1, 1) := by decide +kernel
theorem d_LA_law_168 : decode code 168 = .ok (.iadd, 1) := by decide +kernel
theorem d_LA_law_169 : decode code 169 = .ok (.iaload, 1) := by decide +kernel
theorem d_LA_law_170 : decode code 170 = .ok (.invokevirtual 31, 3) := by decide +kernel
theorem d_LA_law_173 : decode code 173 = .ok (.aload_n 2, 1) := by decide +kernel
theorem d_LA_law_174 : decode code 174 = .ok (.aload_n 0, 1) := by decide +kernel
theorem d_LA_law_175 : decode code 175 = .ok (.iload_n 3, 1) := by decide +kernel
theorem d_LA_law_176 : decode code 176 = .ok (.iconst 1, 1) := by decide +kernel
theorem d_LA_law_177 : decode code 177 = .ok (.iadd, 1) := by decide +kernel
theorem d_LA_law_178 : decode code 178 = .ok (.iaload, 1) := by decide +kernel
theorem d_LA_law_179 : decode code 179 = .ok (.invokevirtual 35, 3) := by decide +kernel
theorem d_LA_law_182 : decode code 182 = .ok (.if_icmp .eq 169, 3) := by decide +kernel
theorem d_LA_law_185 : decode code 185 = .ok (.iconst 0, 1) := by decide +kernel
theorem d_LA_law_186 : decode code 186 = .ok (.ireturn, 1) := by decide +kernel
theorem d_LA_law_187 : decode code 187 = .ok (.aload_n 1, 1) := by decide +kernel
theorem d_LA_law_188 : decode code 188 = .ok (.invokevirtual 36, 3) := by decide +kernel
theorem d_LA_law_191 : decode code 191 = .ok (.aload_n 2, 1) := by decide +kernel
theorem d_LA_law_192 : decode code 192 = .ok (.invokevirtual 39, 3) := by decide +kernel
theorem d_LA_law_195 : decode code 195 = .ok (.if_icmp .eq 156, 3) := by decide +kernel
theorem d_LA_law_198 : decode code 198 = .ok (.iconst 0, 1) := by decide +kernel
theorem d_LA_law_199 : decode code 199 = .ok (.ireturn, 1) := by decide +kernel
theorem d_LA_law_200 : decode code 200 = .ok (.aload_n 1, 1) := by decide +kernel
theorem d_LA_law_201 : decode code 201 = .ok (.aload_n 0, 1) := by decide +kernel
theorem d_LA_law_202 : decode code 202 = .ok (.iload_n 3, 1) := by decide +kernel
theorem d_LA_law_203 : decode code 203 = .ok (.iconst 1, 1) := by decide +kernel
theorem d_LA_law_204 : decode code 204 = .ok (.iadd, 1) := by decide +kernel
theorem d_LA_law_205 : decode code 205 = .ok (.iaload, 1) := by decide +kernel
theorem d_LA_law_206 : decode code 206 = .ok (.invokevirtual 40, 3) := by decide +kernel
theorem d_LA_law_209 : decode code 209 = .ok (.aload_n 2, 1) := by decide +kernel
theorem d_LA_law_210 : decode code 210 = .ok (.aload_n 0, 1) := by decide +kernel
theorem d_LA_law_211 : decode code 211 = .ok (.iload_n 3, 1) := by decide +kernel
theorem d_LA_law_212 : decode code 212 = .ok (.iconst 1, 1) := by decide +kernel
theorem d_LA_law_213 : decode code 213 = .ok (.iadd, 1) := by decide +kernel
theorem d_LA_law_214 : decode code 214 = .ok (.iaload, 1) := by decide +kernel
theorem d_LA_law_215 : decode code 215 = .ok (.invokevirtual 43, 3) := by decide +kernel
theorem d_LA_law_218 : decode code 218 = .ok (.if_icmp .eq 133, 3) := by decide +kernel
theorem d_LA_law_221 : decode code 221 = .ok (.iconst 0, 1) := by decide +kernel
theorem d_LA_law_222 : decode code 222 = .ok (.ireturn, 1) := by decide +kernel
theorem d_LA_law_223 : decode code 223 = .ok (.aload_n 1, 1) := by decide +kernel
theorem d_LA_law_224 : decode code 224 = .ok (.invokevirtual 44, 3) := by decide +kernel
theorem d_LA_law_227 : decode code 227 = .ok (.aload_n 2, 1) := by decide +kernel
theorem d_LA_law_228 : decode code 228 = .ok (.invokevirtual 47, 3) := by decide +kernel
theorem d_LA_law_231 : decode code 231 = .ok (.if_icmp .eq 120, 3) := by decide +kernel
theorem d_LA_law_234 : decode code 234 = .ok (.iconst 0, 1) := by decide +kernel
theorem d_LA_law_235 : decode code 235 = .ok (.ireturn, 1) := by decide +kernel
theorem d_LA_law_236 : decode code 236 = .ok (.aload_n 1, 1) := by decide +kernel
theorem d_LA_law_237 : decode code 237 = .ok (.aload_n 0, 1) := by decide +kernel
theorem d_LA_law_238 : decode code 238 = .ok (.iload_n 3, 1) := by decide +kernel
theorem d_LA_law_239 : decode code 239 = .ok (.iconst 1, 1) := by decide +kernel
theorem d_LA_law_240 : decode code 240 = .ok (.iadd, 1) := by decide +kernel
theorem d_LA_law_241 : decode code 241 = .ok (.iaload, 1) := by decide +kernel
theorem d_LA_law_242 : decode code 242 = .ok (.invokevirtual 48, 3) := by decide +kernel
theorem d_LA_law_245 : decode code 245 = .ok (.aload_n 2, 1) := by decide +kernel
theorem d_LA_law_246 : decode code 246 = .ok (.aload_n 0, 1) := by decide +kernel
theorem d_LA_law_247 : decode code 247 = .ok (.iload_n 3, 1) := by decide +kernel
theorem d_LA_law_248 : decode code 248 = .ok (.iconst 1, 1) := by decide +kernel
theorem d_LA_law_249 : decode code 249 = .ok (.iadd, 1) := by decide +kernel
theorem d_LA_law_250 : decode code 250 = .ok (.iaload, 1) := by decide +kernel
theorem d_LA_law_251 : decode code 251 = .ok (.invokevirtual 51, 3) := by decide +kernel
theorem d_LA_law_254 : decode code 254 = .ok (.if_icmp .eq 97, 3) := by decide +kernel
theorem d_LA_law_257 : decode code 257 = .ok (.iconst 0, 1) := by decide +kernel
theorem d_LA_law_258 : decode code 258 = .ok (.ireturn, 1) := by decide +kernel
theorem d_LA_law_259 : decode code 259 = .ok (.aload_n 1, 1) := by decide +kernel
theorem d_LA_law_260 : decode code 260 = .ok (.aload_n 0, 1) := by decide +kernel
theorem d_LA_law_261 : decode code 261 = .ok (.iload_n 3, 1) := by decide +kernel
theorem d_LA_law_262 : decode code 262 = .ok (.iconst 1, 1) := by decide +kernel
theorem d_LA_law_263 : decode code 263 = .ok (.iadd, 1) := by decide +kernel
theorem d_LA_law_264 : decode code 264 = .ok (.iaload, 1) := by decide +kernel
theorem d_LA_law_265 : decode code 265 = .ok (.invokevirtual 52, 3) := by decide +kernel
theorem d_LA_law_268 : decode code 268 = .ok (.aload_n 2, 1) := by decide +kernel
theorem d_LA_law_269 : decode code 269 = .ok (.aload_n 0, 1) := by decide +kernel
theorem d_LA_law_270 : decode code 270 = .ok (.iload_n 3, 1) := by decide +kernel
theorem d_LA_law_271 : decode code 271 = .ok (.iconst 1, 1) := by decide +kernel
theorem d_LA_law_272 : decode code 272 = .ok (.iadd, 1) := by decide +kernel
theorem d_LA_law_273 : decode code 273 = .ok (.iaload, 1) := by decide +kernel
theorem d_LA_law_274 : decode code 274 = .ok (.invokevirtual 55, 3) := by decide +kernel
theorem d_LA_law_277 : decode code 277 = .ok (.if_icmp .eq 74, 3) := by decide +kernel
theorem d_LA_law_280 : decode code 280 = .ok (.iconst 0, 1) := by decide +kernel
theorem d_LA_law_281 : decode code 281 = .ok (.ireturn, 1) := by decide +kernel
theorem d_LA_law_282 : decode code 282 = .ok (.aload_n 1, 1) := by decide +kernel
theorem d_LA_law_283 : decode code 283 = .ok (.invokevirtual 56, 3) := by decide +kernel
theorem d_LA_law_286 : decode code 286 = .ok (.aload_n 2, 1) := by decide +kernel
theorem d_LA_law_287 : decode code 287 = .ok (.invokevirtual 59, 3) := by decide +kernel
theorem d_LA_law_290 : decode code 290 = .ok (.if_icmp .eq 61, 3) := by decide +kernel
theorem d_LA_law_293 : decode code 293 = .ok (.iconst 0, 1) := by decide +kernel
theorem d_LA_law_294 : decode code 294 = .ok (.ireturn, 1) := by decide +kernel
theorem d_LA_law_295 : decode code 295 = .ok (.aload_n 1, 1) := by decide +kernel
theorem d_LA_law_296 : decode code 296 = .ok (.aload_n 0, 1) := by decide +kernel
theorem d_LA_law_297 : decode code 297 = .ok (.iload_n 3, 1) := by decide +kernel
theorem d_LA_law_298 : decode code 298 = .ok (.iconst 1, 1) := by decide +kernel
theorem d_LA_law_299 : decode code 299 = .ok (.iadd, 1) := by decide +kernel
theorem d_LA_law_300 : decode code 300 = .ok (.iaload, 1) := by decide +kernel
theorem d_LA_law_301 : decode code 301 = .ok (.aload_n 0, 1) := by decide +kernel
theorem d_LA_law_302 : decode code 302 = .ok (.iload_n 3, 1) := by decide +kernel
theorem d_LA_law_303 : decode code 303 = .ok (.iconst 2, 1) := by decide +kernel
theorem d_LA_law_304 : decode code 304 = .ok (.iadd, 1) := by decide +kernel
theorem d_LA_law_305 : decode code 305 = .ok (.iaload, 1) := by decide +kernel
theorem d_LA_law_306 : decode code 306 = .ok (.invokevirtual 60, 3) := by decide +kernel
theorem d_LA_law_309 : decode code 309 = .ok (.aload_n 2, 1) := by decide +kernel
theorem d_LA_law_310 : decode code 310 = .ok (.aload_n 0, 1) := by decide +kernel
theorem d_LA_law_311 : decode code 311 = .ok (.iload_n 3, 1) := by decide +kernel
theorem d_LA_law_312 : decode code 312 = .ok (.iconst 1, 1) := by decide +kernel
theorem d_LA_law_313 : decode code 313 = .ok (.iadd, 1) := by decide +kernel
theorem d_LA_law_314 : decode code 314 = .ok (.iaload, 1) := by decide +kernel
theorem d_LA_law_315 : decode code 315 = .ok (.aload_n 0, 1) := by decide +kernel
theorem d_LA_law_316 : decode code 316 = .ok (.iload_n 3, 1) := by decide +kernel
theorem d_LA_law_317 : decode code 317 = .ok (.iconst 2, 1) := by decide +kernel
theorem d_LA_law_318 : decode code 318 = .ok (.iadd, 1) := by decide +kernel
theorem d_LA_law_319 : decode code 319 = .ok (.iaload, 1) := by decide +kernel
theorem d_LA_law_320 : decode code 320 = .ok (.invokevirtual 64, 3) := by decide +kernel
theorem d_LA_law_323 : decode code 323 = .ok (.if_icmp .eq 28, 3) := by decide +kernel
theorem d_LA_law_326 : decode code 326 = .ok (.iconst 0, 1) := by decide +kernel
theorem d_LA_law_327 : decode code 327 = .ok (.ireturn, 1) := by decide +kernel
theorem d_LA_law_328 : decode code 328 = .ok (.aload_n 1, 1) := by decide +kernel
theorem d_LA_law_329 : decode code 329 = .ok (.aload_n 0, 1) := by decide +kernel
theorem d_LA_law_330 : decode code 330 = .ok (.iload_n 3, 1) := by decide +kernel
theorem d_LA_law_331 : decode code 331 = .ok (.iconst 1, 1) := by decide +kernel
theorem d_LA_law_332 : decode code 332 = .ok (.iadd, 1) := by decide +kernel
theorem d_LA_law_333 : decode code 333 = .ok (.iaload, 1) := by decide +kernel
theorem d_LA_law_334 : decode code 334 = .ok (.invokevirtual 65, 3) := by decide +kernel
theorem d_LA_law_337 : decode code 337 = .ok (.aload_n 2, 1) := by decide +kernel
theorem d_LA_law_338 : decode code 338 = .ok (.aload_n 0, 1) := by decide +kernel
theorem d_LA_law_339 : decode code 339 = .ok (.iload_n 3, 1) := by decide +kernel
theorem d_LA_law_340 : decode code 340 = .ok (.iconst 1, 1) := by decide +kernel
theorem d_LA_law_341 : decode code 341 = .ok (.iadd, 1) := by decide +kernel
theorem d_LA_law_342 : decode code 342 = .ok (.iaload, 1) := by decide +kernel
theorem d_LA_law_343 : decode code 343 = .ok (.invokevirtual 68, 3) := by decide +kernel
theorem d_LA_law_346 : decode code 346 = .ok (.if_icmp .eq 5, 3) := by decide +kernel
theorem d_LA_law_349 : decode code 349 = .ok (.iconst 0, 1) := by decide +kernel
theorem d_LA_law_350 : decode code 350 = .ok (.ireturn, 1) := by decide +kernel
theorem d_LA_law_351 : decode code 351 = .ok (.iinc 3 3, 3) := by decide +kernel
theorem d_LA_law_354 : decode code 354 = .ok (.goto (-336), 3) := by decide +kernel
theorem d_LA_law_357 : decode code 357 = .ok (.iconst 1, 1) := by decide +kernel
theorem d_LA_law_358 : decode code 358 = .ok (.ireturn, 1) := by decide +kernel
