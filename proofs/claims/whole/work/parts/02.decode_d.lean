theorem d_MO_takeId_59 : decode b_MO_takeId 59 = .ok (.iconst 1, 1) := by decide +kernel
theorem d_MO_takeId_60 : decode b_MO_takeId 60 = .ok (.if_icmp .ne 7, 3) := by decide +kernel
theorem d_MO_takeId_63 : decode b_MO_takeId 63 = .ok (.iload_n 2, 1) := by decide +kernel
theorem d_MO_takeId_64 : decode b_MO_takeId 64 = .ok (.goto 7, 3) := by decide +kernel
theorem d_MO_takeId_67 : decode b_MO_takeId 67 = .ok (.aload_n 0, 1) := by decide +kernel
theorem d_MO_takeId_68 : decode b_MO_takeId 68 = .ok (.getfield 120, 3) := by decide +kernel
theorem d_MO_takeId_71 : decode b_MO_takeId 71 = .ok (.putfield 120, 3) := by decide +kernel
theorem d_MO_takeId_74 : decode b_MO_takeId 74 = .ok (.aload_n 0, 1) := by decide +kernel
theorem d_MO_takeId_75 : decode b_MO_takeId 75 = .ok (.dup, 1) := by decide +kernel
theorem d_MO_takeId_76 : decode b_MO_takeId 76 = .ok (.getfield 64, 3) := by decide +kernel
theorem d_MO_takeId_79 : decode b_MO_takeId 79 = .ok (.iconst 1, 1) := by decide +kernel
theorem d_MO_takeId_80 : decode b_MO_takeId 80 = .ok (.iadd, 1) := by decide +kernel
theorem d_MO_takeId_81 : decode b_MO_takeId 81 = .ok (.putfield 64, 3) := by decide +kernel
theorem d_MO_takeId_84 : decode b_MO_takeId 84 = .ok (.iconst 0, 1) := by decide +kernel
theorem d_MO_takeId_85 : decode b_MO_takeId 85 = .ok (.ireturn, 1) := by decide +kernel
theorem d_MO_close_0 : decode b_MO_close 0 = .ok (.aload_n 0, 1) := by decide +kernel
theorem d_MO_close_1 : decode b_MO_close 1 = .ok (.invokevirtual 134, 3) := by decide +kernel
theorem d_MO_close_4 : decode b_MO_close 4 = .ok (.ifCond .ne 5, 3) := by decide +kernel
theorem d_MO_close_7 : decode b_MO_close 7 = .ok (.iconst 5, 1) := by decide +kernel
theorem d_MO_close_8 : decode b_MO_close 8 = .ok (.ireturn, 1) := by decide +kernel
theorem d_MO_close_9 : decode b_MO_close 9 = .ok (.aload_n 0, 1) := by decide +kernel
theorem d_MO_close_10 : decode b_MO_close 10 = .ok (.getfield 38, 3) := by decide +kernel
theorem d_MO_close_13 : decode b_MO_close 13 = .ok (.aload_n 0, 1) := by decide +kernel
theorem d_MO_close_14 : decode b_MO_close 14 = .ok (.getfield 105, 3) := by decide +kernel
theorem d_MO_close_17 : decode b_MO_close 17 = .ok (.aload_n 0, 1) := by decide +kernel
theorem d_MO_close_18 : decode b_MO_close 18 = .ok (.getfield 114, 3) := by decide +kernel
theorem d_MO_close_21 : decode b_MO_close 21 = .ok (.iastore, 1) := by decide +kernel
theorem d_MO_close_22 : decode b_MO_close 22 = .ok (.aload_n 0, 1) := by decide +kernel
theorem d_MO_close_23 : decode b_MO_close 23 = .ok (.getfield 41, 3) := by decide +kernel
theorem d_MO_close_26 : decode b_MO_close 26 = .ok (.aload_n 0, 1) := by decide +kernel
theorem d_MO_close_27 : decode b_MO_close 27 = .ok (.getfield 105, 3) := by decide +kernel
theorem d_MO_close_30 : decode b_MO_close 30 = .ok (.aload_n 0, 1) := by decide +kernel
theorem d_MO_close_31 : decode b_MO_close 31 = .ok (.getfield 71, 3) := by decide +kernel
theorem d_MO_close_34 : decode b_MO_close 34 = .ok (.iastore, 1) := by decide +kernel
theorem d_MO_close_35 : decode b_MO_close 35 = .ok (.aload_n 0, 1) := by decide +kernel
theorem d_MO_close_36 : decode b_MO_close 36 = .ok (.getfield 44, 3) := by decide +kernel
theorem d_MO_close_39 : decode b_MO_close 39 = .ok (.aload_n 0, 1) := by decide +kernel
theorem d_MO_close_40 : decode b_MO_close 40 = .ok (.getfield 105, 3) := by decide +kernel
theorem d_MO_close_43 : decode b_MO_close 43 = .ok (.aload_n 0, 1) := by decide +kernel
theorem d_MO_close_44 : decode b_MO_close 44 = .ok (.getfield 108, 3) := by decide +kernel
theorem d_MO_close_47 : decode b_MO_close 47 = .ok (.bastore, 1) := by decide +kernel
theorem d_MO_close_48 : decode b_MO_close 48 = .ok (.aload_n 0, 1) := by decide +kernel
theorem d_MO_close_49 : decode b_MO_close 49 = .ok (.getfield 47, 3) := by decide +kernel
theorem d_MO_close_52 : decode b_MO_close 52 = .ok (.aload_n 0, 1) := by decide +kernel
theorem d_MO_close_53 : decode b_MO_close 53 = .ok (.getfield 105, 3) := by decide +kernel
theorem d_MO_close_56 : decode b_MO_close 56 = .ok (.iconst 1, 1) := by decide +kernel
theorem d_MO_close_57 : decode b_MO_close 57 = .ok (.aload_n 0, 1) := by decide +kernel
theorem d_MO_close_58 : decode b_MO_close 58 = .ok (.getfield 105, 3) := by decide +kernel
theorem d_MO_close_61 : decode b_MO_close 61 = .ok (.ishl, 1) := by decide +kernel
theorem d_MO_close_62 : decode b_MO_close 62 = .ok (.aload_n 0, 1) := by decide +kernel
theorem d_MO_close_63 : decode b_MO_close 63 = .ok (.getfield 117, 3) := by decide +kernel
theorem d_MO_close_66 : decode b_MO_close 66 = .ok (.ifCond .ge 7, 3) := by decide +kernel
theorem d_MO_close_69 : decode b_MO_close 69 = .ok (.iconst 0, 1) := by decide +kernel
theorem d_MO_close_70 : decode b_MO_close 70 = .ok (.goto 12, 3) := by decide +kernel
theorem d_MO_close_73 : decode b_MO_close 73 = .ok (.aload_n 0, 1) := by decide +kernel
theorem d_MO_close_74 : decode b_MO_close 74 = .ok (.getfield 47, 3) := by decide +kernel
theorem d_MO_close_77 : decode b_MO_close 77 = .ok (.aload_n 0, 1) := by decide +kernel
theorem d_MO_close_78 : decode b_MO_close 78 = .ok (.getfield 117, 3) := by decide +kernel
theorem d_MO_close_81 : decode b_MO_close 81 = .ok (.iaload, 1) := by decide +kernel
theorem d_MO_close_82 : decode b_MO_close 82 = .ok (.ior, 1) := by decide +kernel
theorem d_MO_close_83 : decode b_MO_close 83 = .ok (.aload_n 0, 1) := by decide +kernel
theorem d_MO_close_84 : decode b_MO_close 84 = .ok (.getfield 120, 3) := by decide +kernel
theorem d_MO_close_87 : decode b_MO_close 87 = .ok (.ifCond .ge 7, 3) := by decide +kernel
theorem d_MO_close_90 : decode b_MO_close 90 = .ok (.iconst 0, 1) := by decide +kernel
theorem d_MO_close_91 : decode b_MO_close 91 = .ok (.goto 12, 3) := by decide +kernel
theorem d_MO_close_94 : decode b_MO_close 94 = .ok (.aload_n 0, 1) := by decide +kernel
theorem d_MO_close_95 : decode b_MO_close 95 = .ok (.getfield 47, 3) := by decide +kernel
theorem d_MO_close_98 : decode b_MO_close 98 = .ok (.aload_n 0, 1) := by decide +kernel
theorem d_MO_close_99 : decode b_MO_close 99 = .ok (.getfield 120, 3) := by decide +kernel
theorem d_MO_close_102 : decode b_MO_close 102 = .ok (.iaload, 1) := by decide +kernel
theorem d_MO_close_103 : decode b_MO_close 103 = .ok (.ior, 1) := by decide +kernel
theorem d_MO_close_104 : decode b_MO_close 104 = .ok (.iastore, 1) := by decide +kernel
theorem d_MO_close_105 : decode b_MO_close 105 = .ok (.aload_n 0, 1) := by decide +kernel
theorem d_MO_close_106 : decode b_MO_close 106 = .ok (.dup, 1) := by decide +kernel
theorem d_MO_close_107 : decode b_MO_close 107 = .ok (.getfield 105, 3) := by decide +kernel
theorem d_MO_close_110 : decode b_MO_close 110 = .ok (.iconst 1, 1) := by decide +kernel
theorem d_MO_close_111 : decode b_MO_close 111 = .ok (.iadd, 1) := by decide +kernel
theorem d_MO_close_112 : decode b_MO_close 112 = .ok (.putfield 105, 3) := by decide +kernel
theorem d_MO_close_115 : decode b_MO_close 115 = .ok (.aload_n 0, 1) := by decide +kernel
theorem d_MO_close_116 : decode b_MO_close 116 = .ok (.iconst 4, 1) := by decide +kernel
theorem d_MO_close_117 : decode b_MO_close 117 = .ok (.putfield 57, 3) := by decide +kernel
theorem d_MO_close_120 : decode b_MO_close 120 = .ok (.iconst 0, 1) := by decide +kernel
theorem d_MO_close_121 : decode b_MO_close 121 = .ok (.ireturn, 1) := by decide +kernel
theorem d_MO_trace_0 : decode b_MO_trace 0 = .ok (.aload_n 0, 1) := by decide +kernel
theorem d_MO_trace_1 : decode b_MO_trace 1 = .ok (.iconst 3, 1) := by decide +kernel
theorem d_MO_trace_2 : decode b_MO_trace 2 = .ok (.putfield 57, 3) := by decide +kernel
theorem d_MO_trace_5 : decode b_MO_trace 5 = .ok (.aload_n 0, 1) := by decide +kernel
theorem d_MO_trace_6 : decode b_MO_trace 6 = .ok (.getfield 105, 3) := by decide +kernel
theorem d_MO_trace_9 : decode b_MO_trace 9 = .ok (.istore_n 1, 1) := by decide +kernel
theorem d_MO_trace_10 : decode b_MO_trace 10 = .ok (.aload_n 0, 1) := by decide +kernel
theorem d_MO_trace_11 : decode b_MO_trace 11 = .ok (.iconst 0, 1) := by decide +kernel
theorem d_MO_trace_12 : decode b_MO_trace 12 = .ok (.invokevirtual 86, 3) := by decide +kernel
theorem d_MO_trace_15 : decode b_MO_trace 15 = .ok (.istore_n 2, 1) := by decide +kernel
theorem d_MO_trace_16 : decode b_MO_trace 16 = .ok (.iconst 0, 1) := by decide +kernel
theorem d_MO_trace_17 : decode b_MO_trace 17 = .ok (.istore_n 3, 1) := by decide +kernel
theorem d_MO_trace_18 : decode b_MO_trace 18 = .ok (.iload_n 2, 1) := by decide +kernel
theorem d_MO_trace_19 : decode b_MO_trace 19 = .ok (.aload_n 0, 1) := by decide +kernel
theorem d_MO_trace_20 : decode b_MO_trace 20 = .ok (.getfield 53, 3) := by decide +kernel
theorem d_MO_trace_23 : decode b_MO_trace 23 = .ok (.if_icmp .ge 44, 3) := by decide +kernel
theorem d_MO_trace_26 : decode b_MO_trace 26 = .ok (.iload_n 3, 1) := by decide +kernel
theorem d_MO_trace_27 : decode b_MO_trace 27 = .ok (.ifCond .ne 40, 3) := by decide +kernel
theorem d_MO_trace_30 : decode b_MO_trace 30 = .ok (.aload_n 0, 1) := by decide +kernel
theorem d_MO_trace_31 : decode b_MO_trace 31 = .ok (.iload_n 2, 1) := by decide +kernel
theorem d_MO_trace_32 : decode b_MO_trace 32 = .ok (.invokevirtual 89, 3) := by decide +kernel
theorem d_MO_trace_35 : decode b_MO_trace 35 = .ok (.istore 4, 2) := by decide +kernel
theorem d_MO_trace_37 : decode b_MO_trace 37 = .ok (.aload_n 0, 1) := by decide +kernel
theorem d_MO_trace_38 : decode b_MO_trace 38 = .ok (.aload_n 0, 1) := by decide +kernel
theorem d_MO_trace_39 : decode b_MO_trace 39 = .ok (.iload_n 2, 1) := by decide +kernel
theorem d_MO_trace_40 : decode b_MO_trace 40 = .ok (.iload 4, 2) := by decide +kernel
theorem d_MO_trace_42 : decode b_MO_trace 42 = .ok (.invokevirtual 92, 3) := by decide +kernel
theorem d_MO_trace_45 : decode b_MO_trace 45 = .ok (.invokevirtual 138, 3) := by decide +kernel
theorem d_MO_trace_48 : decode b_MO_trace 48 = .ok (.istore_n 3, 1) := by decide +kernel
theorem d_MO_trace_49 : decode b_MO_trace 49 = .ok (.iload_n 3, 1) := by decide +kernel
theorem d_MO_trace_50 : decode b_MO_trace 50 = .ok (.ifCond .ne 12, 3) := by decide +kernel
theorem d_MO_trace_53 : decode b_MO_trace 53 = .ok (.aload_n 0, 1) := by decide +kernel
theorem d_MO_trace_54 : decode b_MO_trace 54 = .ok (.iload 4, 2) := by decide +kernel
theorem d_MO_trace_56 : decode b_MO_trace 56 = .ok (.invokevirtual 86, 3) := by decide +kernel
theorem d_MO_trace_59 : decode b_MO_trace 59 = .ok (.goto 4, 3) := by decide +kernel
theorem d_MO_trace_62 : decode b_MO_trace 62 = .ok (.iload_n 2, 1) := by decide +kernel
theorem d_MO_trace_63 : decode b_MO_trace 63 = .ok (.istore_n 2, 1) := by decide +kernel
theorem d_MO_trace_64 : decode b_MO_trace 64 = .ok (.goto (-46), 3) := by decide +kernel
theorem d_MO_trace_67 : decode b_MO_trace 67 = .ok (.aload_n 0, 1) := by decide +kernel
theorem d_MO_trace_68 : decode b_MO_trace 68 = .ok (.getfield 53, 3) := by decide +kernel
theorem d_MO_trace_71 : decode b_MO_trace 71 = .ok (.istore 4, 2) := by decide +kernel
theorem d_MO_trace_73 : decode b_MO_trace 73 = .ok (.aload_n 0, 1) := by decide +kernel
theorem d_MO_trace_74 : decode b_MO_trace 74 = .ok (.iconst 0, 1) := by decide +kernel
theorem d_MO_trace_75 : decode b_MO_trace 75 = .ok (.putfield 53, 3) := by decide +kernel
theorem d_MO_trace_78 : decode b_MO_trace 78 = .ok (.iload_n 3, 1) := by decide +kernel
theorem d_MO_trace_79 : decode b_MO_trace 79 = .ok (.ifCond .le 11, 3) := by decide +kernel
theorem d_MO_trace_82 : decode b_MO_trace 82 = .ok (.sipush (-1000), 3) := by decide +kernel
theorem d_MO_trace_85 : decode b_MO_trace 85 = .ok (.iload_n 3, 1) := by decide +kernel
theorem d_MO_trace_86 : decode b_MO_trace 86 = .ok (.imul, 1) := by decide +kernel
theorem d_MO_trace_87 : decode b_MO_trace 87 = .ok (.iload_n 2, 1) := by decide +kernel
theorem d_MO_trace_88 : decode b_MO_trace 88 = .ok (.isub, 1) := by decide +kernel
theorem d_MO_trace_89 : decode b_MO_trace 89 = .ok (.ireturn, 1) := by decide +kernel
theorem d_MO_trace_90 : decode b_MO_trace 90 = .ok (.aload_n 0, 1) := by decide +kernel
theorem d_MO_trace_91 : decode b_MO_trace 91 = .ok (.getfield 57, 3) := by decide +kernel
theorem d_MO_trace_94 : decode b_MO_trace 94 = .ok (.iconst 4, 1) := by decide +kernel
theorem d_MO_trace_95 : decode b_MO_trace 95 = .ok (.if_icmp .ne 12, 3) := by decide +kernel
theorem d_MO_trace_98 : decode b_MO_trace 98 = .ok (.aload_n 0, 1) := by decide +kernel
theorem d_MO_trace_99 : decode b_MO_trace 99 = .ok (.getfield 105, 3) := by decide +kernel
theorem d_MO_trace_102 : decode b_MO_trace 102 = .ok (.iload_n 1, 1) := by decide +kernel
theorem d_MO_trace_103 : decode b_MO_trace 103 = .ok (.isub, 1) := by decide +kernel
theorem d_MO_trace_104 : decode b_MO_trace 104 = .ok (.goto 9, 3) := by decide +kernel
theorem d_MO_trace_107 : decode b_MO_trace 107 = .ok (.sipush (-1000), 3) := by decide +kernel
theorem d_MO_trace_110 : decode b_MO_trace 110 = .ok (.iload 4, 2) := by decide +kernel
theorem d_MO_trace_112 : decode b_MO_trace 112 = .ok (.isub, 1) := by decide +kernel
theorem d_MO_trace_113 : decode b_MO_trace 113 = .ok (.ireturn, 1) := by decide +kernel
theorem d_MO_isMain_0 : decode b_MO_isMain 0 = .ok (.aload_n 0, 1) := by decide +kernel
theorem d_MO_isMain_1 : decode b_MO_isMain 1 = .ok (.getfield 16, 3) := by decide +kernel
theorem d_MO_isMain_4 : decode b_MO_isMain 4 = .ok (.aload_n 0, 1) := by decide +kernel
theorem d_MO_isMain_5 : decode b_MO_isMain 5 = .ok (.getfield 20, 3) := by decide +kernel
theorem d_MO_isMain_8 : decode b_MO_isMain 8 = .ok (.iload_n 1, 1) := by decide +kernel
theorem d_MO_isMain_9 : decode b_MO_isMain 9 = .ok (.iaload, 1) := by decide +kernel
theorem d_MO_isMain_10 : decode b_MO_isMain 10 = .ok (.baload, 1) := by decide +kernel
theorem d_MO_isMain_11 : decode b_MO_isMain 11 = .ok (.aload_n 0, 1) := by decide +kernel
theorem d_MO_isMain_12 : decode b_MO_isMain 12 = .ok (.getfield 108, 3) := by decide +kernel
theorem d_MO_isMain_15 : decode b_MO_isMain 15 = .ok (.if_icmp .ne 7, 3) := by decide +kernel
theorem d_MO_isMain_18 : decode b_MO_isMain 18 = .ok (.iconst 1, 1) := by decide +kernel
theorem d_MO_isMain_19 : decode b_MO_isMain 19 = .ok (.goto 4, 3) := by decide +kernel
theorem d_MO_isMain_22 : decode b_MO_isMain 22 = .ok (.iconst 0, 1) := by decide +kernel
theorem d_MO_isMain_23 : decode b_MO_isMain 23 = .ok (.ireturn, 1) := by decide +kernel
theorem d_MO_hasWay_0 : decode b_MO_hasWay 0 = .ok (.iload_n 0, 1) := by decide +kernel
theorem d_MO_hasWay_1 : decode b_MO_hasWay 1 = .ok (.iload_n 1, 1) := by decide +kernel
theorem d_MO_hasWay_2 : decode b_MO_hasWay 2 = .ok (.iconst 1, 1) := by decide +kernel
theorem d_MO_hasWay_3 : decode b_MO_hasWay 3 = .ok (.isub, 1) := by decide +kernel
theorem d_MO_hasWay_4 : decode b_MO_hasWay 4 = .ok (.ishr, 1) := by decide +kernel
theorem d_MO_hasWay_5 : decode b_MO_hasWay 5 = .ok (.iconst 1, 1) := by decide +kernel
theorem d_MO_hasWay_6 : decode b_MO_hasWay 6 = .ok (.iand, 1) := by decide +kernel
theorem d_MO_hasWay_7 : decode b_MO_hasWay 7 = .ok (.iconst 1, 1) := by decide +kernel
theorem d_MO_hasWay_8 : decode b_MO_hasWay 8 = .ok (.if_icmp .eq 15, 3) := by decide +kernel
theorem d_MO_hasWay_11 : decode b_MO_hasWay 11 = .ok (.iload_n 0, 1) := by decide +kernel
theorem d_MO_hasWay_12 : decode b_MO_hasWay 12 = .ok (.iload_n 1, 1) := by decide +kernel
theorem d_MO_hasWay_13 : decode b_MO_hasWay 13 = .ok (.bipush 7, 2) := by decide +kernel
theorem d_MO_hasWay_15 : decode b_MO_hasWay 15 = .ok (.iadd, 1) := by decide +kernel
theorem d_MO_hasWay_16 : decode b_MO_hasWay 16 = .ok (.ishr, 1) := by decide +kernel
theorem d_MO_hasWay_17 : decode b_MO_hasWay 17 = .ok (.iconst 1, 1) := by decide +kernel
theorem d_MO_hasWay_18 : decode b_MO_hasWay 18 = .ok (.iand, 1) := by decide +kernel
theorem d_MO_hasWay_19 : decode b_MO_hasWay 19 = .ok (.iconst 1, 1) := by decide +kernel
theorem d_MO_hasWay_20 : decode b_MO_hasWay 20 = .ok (.if_icmp .ne 7, 3) := by decide +kernel
theorem d_MO_hasWay_23 : decode b_MO_hasWay 23 = .ok (.iconst 1, 1) := by decide +kernel
theorem d_MO_hasWay_24 : decode b_MO_hasWay 24 = .ok (.goto 4, 3) := by decide +kernel
theorem d_MO_hasWay_27 : decode b_MO_hasWay 27 = .ok (.iconst 0, 1) := by decide +kernel
theorem d_MO_hasWay_28 : decode b_MO_hasWay 28 = .ok (.ireturn, 1) := by decide +kernel
theorem d_MO_hasBoth_0 : decode b_MO_hasBoth 0 = .ok (.iload_n 0, 1) := by decide +kernel
theorem d_MO_hasBoth_1 : decode b_MO_hasBoth 1 = .ok (.iload_n 1, 1) := by decide +kernel
theorem d_MO_hasBoth_2 : decode b_MO_hasBoth 2 = .ok (.iconst 1, 1) := by decide +kernel
theorem d_MO_hasBoth_3 : decode b_MO_hasBoth 3 = .ok (.isub, 1) := by decide +kernel
theorem d_MO_hasBoth_4 : decode b_MO_hasBoth 4 = .ok (.ishr, 1) := by decide +kernel
theorem d_MO_hasBoth_5 : decode b_MO_hasBoth 5 = .ok (.iconst 1, 1) := by decide +kernel
theorem d_MO_hasBoth_6 : decode b_MO_hasBoth 6 = .ok (.iand, 1) := by decide +kernel
theorem d_MO_hasBoth_7 : decode b_MO_hasBoth 7 = .ok (.iconst 1, 1) := by decide +kernel
theorem d_MO_hasBoth_8 : decode b_MO_hasBoth 8 = .ok (.if_icmp .ne 19, 3) := by decide +kernel
theorem d_MO_hasBoth_11 : decode b_MO_hasBoth 11 = .ok (.iload_n 0, 1) := by decide +kernel
theorem d_MO_hasBoth_12 : decode b_MO_hasBoth 12 = .ok (.iload_n 1, 1) := by decide +kernel
theorem d_MO_hasBoth_13 : decode b_MO_hasBoth 13 = .ok (.bipush 7, 2) := by decide +kernel
theorem d_MO_hasBoth_15 : decode b_MO_hasBoth 15 = .ok (.iadd, 1) := by decide +kernel
theorem d_MO_hasBoth_16 : decode b_MO_hasBoth 16 = .ok (.ishr, 1) := by decide +kernel
theorem d_MO_hasBoth_17 : decode b_MO_hasBoth 17 = .ok (.iconst 1, 1) := by decide +kernel
theorem d_MO_hasBoth_18 : decode b_MO_hasBoth 18 = .ok (.iand, 1) := by decide +kernel
theorem d_MO_hasBoth_19 : decode b_MO_hasBoth 19 = .ok (.iconst 1, 1) := by decide +kernel
theorem d_MO_hasBoth_20 : decode b_MO_hasBoth 20 = .ok (.if_icmp .ne 7, 3) := by decide +kernel
theorem d_MO_hasBoth_23 : decode b_MO_hasBoth 23 = .ok (.iconst 1, 1) := by decide +kernel
theorem d_MO_hasBoth_24 : decode b_MO_hasBoth 24 = .ok (.goto 4, 3) := by decide +kernel
theorem d_MO_hasBoth_27 : decode b_MO_hasBoth 27 = .ok (.iconst 0, 1) := by decide +kernel
theorem d_MO_hasBoth_28 : decode b_MO_hasBoth 28 = .ok (.ireturn, 1) := by decide +kernel
theorem d_MO_follows_0 : decode b_MO_follows 0 = .ok (.aload_n 0, 1) := by decide +kernel
theorem d_MO_follows_1 : decode b_MO_follows 1 = .ok (.getfield 64, 3) := by decide +kernel
theorem d_MO_follows_4 : decode b_MO_follows 4 = .ok (.ifCond .ne 10, 3) := by decide +kernel
theorem d_MO_follows_7 : decode b_MO_follows 7 = .ok (.aload_n 0, 1) := by decide +kernel
theorem d_MO_follows_8 : decode b_MO_follows 8 = .ok (.invokevirtual 141, 3) := by decide +kernel
theorem d_MO_follows_11 : decode b_MO_follows 11 = .ok (.goto 61, 3) := by decide +kernel
theorem d_MO_follows_14 : decode b_MO_follows 14 = .ok (.aload_n 0, 1) := by decide +kernel
theorem d_MO_follows_15 : decode b_MO_follows 15 = .ok (.getfield 64, 3) := by decide +kernel
theorem d_MO_follows_18 : decode b_MO_follows 18 = .ok (.iconst 1, 1) := by decide +kernel
theorem d_MO_follows_19 : decode b_MO_follows 19 = .ok (.if_icmp .ne 31, 3) := by decide +kernel
theorem d_MO_follows_22 : decode b_MO_follows 22 = .ok (.aload_n 0, 1) := by decide +kernel
theorem d_MO_follows_23 : decode b_MO_follows 23 = .ok (.getfield 71, 3) := by decide +kernel
theorem d_MO_follows_26 : decode b_MO_follows 26 = .ok (.aload_n 0, 1) := by decide +kernel
theorem d_MO_follows_27 : decode b_MO_follows 27 = .ok (.aload_n 0, 1) := by decide +kernel
theorem d_MO_follows_28 : decode b_MO_follows 28 = .ok (.getfield 41, 3) := by decide +kernel
theorem d_MO_follows_31 : decode b_MO_follows 31 = .ok (.aload_n 0, 1) := by decide +kernel
theorem d_MO_follows_32 : decode b_MO_follows 32 = .ok (.getfield 117, 3) := by decide +kernel
theorem d_MO_follows_35 : decode b_MO_follows 35 = .ok (.iaload, 1) := by decide +kernel
theorem d_MO_follows_36 : decode b_MO_follows 36 = .ok (.invokevirtual 144, 3) := by decide +kernel
theorem d_MO_follows_39 : decode b_MO_follows 39 = .ok (.if_icmp .ne 7, 3) := by decide +kernel
theorem d_MO_follows_42 : decode b_MO_follows 42 = .ok (.iconst 1, 1) := by decide +kernel
theorem d_MO_follows_43 : decode b_MO_follows 43 = .ok (.goto 29, 3) := by decide +kernel
theorem d_MO_follows_46 : decode b_MO_follows 46 = .ok (.iconst 0, 1) := by decide +kernel
theorem d_MO_follows_47 : decode b_MO_follows 47 = .ok (.goto 25, 3) := by decide +kernel
theorem d_MO_follows_50 : decode b_MO_follows 50 = .ok (.aload_n 0, 1) := by decide +kernel
theorem d_MO_follows_51 : decode b_MO_follows 51 = .ok (.aload_n 0, 1) := by decide +kernel
theorem d_MO_follows_52 : decode b_MO_follows 52 = .ok (.getfield 41, 3) := by decide +kernel
theorem d_MO_follows_55 : decode b_MO_follows 55 = .ok (.aload_n 0, 1) := by decide +kernel
theorem d_MO_follows_56 : decode b_MO_follows 56 = .ok (.getfield 117, 3) := by decide +kernel
theorem d_MO_follows_59 : decode b_MO_follows 59 = .ok (.iaload, 1) := by decide +kernel
theorem d_MO_follows_60 : decode b_MO_follows 60 = .ok (.aload_n 0, 1) := by decide +kernel
theorem d_MO_follows_61 : decode b_MO_follows 61 = .ok (.getfield 41, 3) := by decide +kernel
theorem d_MO_follows_64 : decode b_MO_follows 64 = .ok (.aload_n 0, 1) := by decide +kernel
theorem d_MO_follows_65 : decode b_MO_follows 65 = .ok (.getfield 120, 3) := by decide +kernel
theorem d_MO_follows_68 : decode b_MO_follows 68 = .ok (.iaload, 1) := by decide +kernel
theorem d_MO_follows_69 : decode b_MO_follows 69 = .ok (.invokevirtual 147, 3) := by decide +kernel
theorem d_MO_follows_72 : decode b_MO_follows 72 = .ok (.ireturn, 1) := by decide +kernel
theorem d_MO_isFirst_0 : decode b_MO_isFirst 0 = .ok (.iconst 0, 1) := by decide +kernel
theorem d_MO_isFirst_1 : decode b_MO_isFirst 1 = .ok (.istore_n 1, 1) := by decide +kernel
theorem d_MO_isFirst_2 : decode b_MO_isFirst 2 = .ok (.iconst 1, 1) := by decide +kernel
theorem d_MO_isFirst_3 : decode b_MO_isFirst 3 = .ok (.istore_n 2, 1) := by decide +kernel
theorem d_MO_isFirst_4 : decode b_MO_isFirst 4 = .ok (.iconst 0, 1) := by decide +kernel
theorem d_MO_isFirst_5 : decode b_MO_isFirst 5 = .ok (.istore_n 3, 1) := by decide +kernel
theorem d_MO_isFirst_6 : decode b_MO_isFirst 6 = .ok (.iload_n 3, 1) := by decide +kernel
theorem d_MO_isFirst_7 : decode b_MO_isFirst 7 = .ok (.aload_n 0, 1) := by decide +kernel
theorem d_MO_isFirst_8 : decode b_MO_isFirst 8 = .ok (.getfield 102, 3) := by decide +kernel
theorem d_MO_isFirst_11 : decode b_MO_isFirst 11 = .ok (.if_icmp .ge 56, 3) := by decide +kernel
theorem d_MO_isFirst_14 : decode b_MO_isFirst 14 = .ok (.iload_n 1, 1) := by decide +kernel
theorem d_MO_isFirst_15 : decode b_MO_isFirst 15 = .ok (.ifCond .ne 16, 3) := by decide +kernel
theorem d_MO_isFirst_18 : decode b_MO_isFirst 18 = .ok (.aload_n 0, 1) := by decide +kernel
theorem d_MO_isFirst_19 : decode b_MO_isFirst 19 = .ok (.getfield 23, 3) := by decide +kernel
theorem d_MO_isFirst_22 : decode b_MO_isFirst 22 = .ok (.iload_n 3, 1) := by decide +kernel
theorem d_MO_isFirst_23 : decode b_MO_isFirst 23 = .ok (.iaload, 1) := by decide +kernel
theorem d_MO_isFirst_24 : decode b_MO_isFirst 24 = .ok (.aload_n 0, 1) := by decide +kernel
theorem d_MO_isFirst_25 : decode b_MO_isFirst 25 = .ok (.getfield 71, 3) := by decide +kernel
theorem d_MO_isFirst_28 : decode b_MO_isFirst 28 = .ok (.if_icmp .ne 7, 3) := by decide +kernel
theorem d_MO_isFirst_31 : decode b_MO_isFirst 31 = .ok (.iconst 1, 1) := by decide +kernel
theorem d_MO_isFirst_32 : decode b_MO_isFirst 32 = .ok (.goto 4, 3) := by decide +kernel
theorem d_MO_isFirst_35 : decode b_MO_isFirst 35 = .ok (.iconst 0, 1) := by decide +kernel
theorem d_MO_isFirst_36 : decode b_MO_isFirst 36 = .ok (.istore_n 1, 1) := by decide +kernel
theorem d_MO_isFirst_37 : decode b_MO_isFirst 37 = .ok (.iload_n 2, 1) := by decide +kernel
theorem d_MO_isFirst_38 : decode b_MO_isFirst 38 = .ok (.ifCond .eq 21, 3) := by decide +kernel
theorem d_MO_isFirst_41 : decode b_MO_isFirst 41 = .ok (.aload_n 0, 1) := by decide +kernel
theorem d_MO_isFirst_42 : decode b_MO_isFirst 42 = .ok (.getfield 23, 3) := by decide +kernel
theorem d_MO_isFirst_45 : decode b_MO_isFirst 45 = .ok (.iload_n 3, 1) := by decide +kernel
theorem d_MO_isFirst_46 : decode b_MO_isFirst 46 = .ok (.iaload, 1) := by decide +kernel
theorem d_MO_isFirst_47 : decode b_MO_isFirst 47 = .ok (.aload_n 0, 1) := by decide +kernel
theorem d_MO_isFirst_48 : decode b_MO_isFirst 48 = .ok (.getfield 71, 3) := by decide +kernel
theorem d_MO_isFirst_51 : decode b_MO_isFirst 51 = .ok (.iand, 1) := by decide +kernel
theorem d_MO_isFirst_52 : decode b_MO_isFirst 52 = .ok (.ifCond .eq 7, 3) := by decide +kernel
theorem d_MO_isFirst_55 : decode b_MO_isFirst 55 = .ok (.iconst 1, 1) := by decide +kernel
theorem d_MO_isFirst_56 : decode b_MO_isFirst 56 = .ok (.goto 4, 3) := by decide +kernel
theorem d_MO_isFirst_59 : decode b_MO_isFirst 59 = .ok (.iconst 0, 1) := by decide +kernel
theorem d_MO_isFirst_60 : decode b_MO_isFirst 60 = .ok (.istore_n 2, 1) := by decide +kernel
theorem d_MO_isFirst_61 : decode b_MO_isFirst 61 = .ok (.iinc 3 1, 3) := by decide +kernel
theorem d_MO_isFirst_64 : decode b_MO_isFirst 64 = .ok (.goto (-58), 3) := by decide +kernel
theorem d_MO_isFirst_67 : decode b_MO_isFirst 67 = .ok (.aload_n 0, 1) := by decide +kernel
theorem d_MO_isFirst_68 : decode b_MO_isFirst 68 = .ok (.getfield 108, 3) := by decide +kernel
theorem d_MO_isFirst_71 : decode b_MO_isFirst 71 = .ok (.ifCond .eq 30, 3) := by decide +kernel
theorem d_MO_isFirst_74 : decode b_MO_isFirst 74 = .ok (.iload_n 2, 1) := by decide +kernel
theorem d_MO_isFirst_75 : decode b_MO_isFirst 75 = .ok (.ifCond .eq 22, 3) := by decide +kernel
theorem d_MO_isFirst_78 : decode b_MO_isFirst 78 = .ok (.aload_n 0, 1) := by decide +kernel
theorem d_MO_isFirst_79 : decode b_MO_isFirst 79 = .ok (.getfield 71, 3) := by decide +kernel
theorem d_MO_isFirst_82 : decode b_MO_isFirst 82 = .ok (.aload_n 0, 1) := by decide +kernel
theorem d_MO_isFirst_83 : decode b_MO_isFirst 83 = .ok (.getfield 71, 3) := by decide +kernel
theorem d_MO_isFirst_86 : decode b_MO_isFirst 86 = .ok (.invokestatic 77, 3) := by decide +kernel
theorem d_MO_isFirst_89 : decode b_MO_isFirst 89 = .ok (.iand, 1) := by decide +kernel
theorem d_MO_isFirst_90 : decode b_MO_isFirst 90 = .ok (.ifCond .ne 7, 3) := by decide +kernel
theorem d_MO_isFirst_93 : decode b_MO_isFirst 93 = .ok (.iconst 1, 1) := by decide +kernel
theorem d_MO_isFirst_94 : decode b_MO_isFirst 94 = .ok (.goto 8, 3) := by decide +kernel
theorem d_MO_isFirst_97 : decode b_MO_isFirst 97 = .ok (.iconst 0, 1) := by decide +kernel
theorem d_MO_isFirst_98 : decode b_MO_isFirst 98 = .ok (.goto 4, 3) := by decide +kernel
theorem d_MO_isFirst_101 : decode b_MO_isFirst 101 = .ok (.iload_n 1, 1) := by decide +kernel
theorem d_MO_isFirst_102 : decode b_MO_isFirst 102 = .ok (.ireturn, 1) := by decide +kernel
theorem d_MO_reduced_0 : decode b_MO_reduced 0 = .ok (.iconst (-1), 1) := by decide +kernel
theorem d_MO_reduced_1 : decode b_MO_reduced 1 = .ok (.istore_n 2, 1) := by decide +kernel
theorem d_MO_reduced_2 : decode b_MO_reduced 2 = .ok (.iconst 0, 1) := by decide +kernel
theorem d_MO_reduced_3 : decode b_MO_reduced 3 = .ok (.istore_n 3, 1) := by decide +kernel
theorem d_MO_reduced_4 : decode b_MO_reduced 4 = .ok (.iload_n 3, 1) := by decide +kernel
theorem d_MO_reduced_5 : decode b_MO_reduced 5 = .ok (.aload_n 0, 1) := by decide +kernel
theorem d_MO_reduced_6 : decode b_MO_reduced 6 = .ok (.getfield 99, 3) := by decide +kernel
theorem d_MO_reduced_9 : decode b_MO_reduced 9 = .ok (.if_icmp .ge 41, 3) := by decide +kernel
theorem d_MO_reduced_12 : decode b_MO_reduced 12 = .ok (.iload_n 1, 1) := by decide +kernel
theorem d_MO_reduced_13 : decode b_MO_reduced 13 = .ok (.aload_n 0, 1) := by decide +kernel
theorem d_MO_reduced_14 : decode b_MO_reduced 14 = .ok (.getfield 13, 3) := by decide +kernel
theorem d_MO_reduced_17 : decode b_MO_reduced 17 = .ok (.iload_n 3, 1) := by decide +kernel
theorem d_MO_reduced_18 : decode b_MO_reduced 18 = .ok (.iaload, 1) := by decide +kernel
theorem d_MO_reduced_19 : decode b_MO_reduced 19 = .ok (.invokestatic 151, 3) := by decide +kernel
theorem d_MO_reduced_22 : decode b_MO_reduced 22 = .ok (.ifCond .eq 20, 3) := by decide +kernel
theorem d_MO_reduced_25 : decode b_MO_reduced 25 = .ok (.aload_n 0, 1) := by decide +kernel
theorem d_MO_reduced_26 : decode b_MO_reduced 26 = .ok (.aload_n 0, 1) := by decide +kernel
theorem d_MO_reduced_27 : decode b_MO_reduced 27 = .ok (.getfield 13, 3) := by decide +kernel
theorem d_MO_reduced_30 : decode b_MO_reduced 30 = .ok (.iload_n 3, 1) := by decide +kernel
theorem d_MO_reduced_31 : decode b_MO_reduced 31 = .ok (.iaload, 1) := by decide +kernel
theorem d_MO_reduced_32 : decode b_MO_reduced 32 = .ok (.invokevirtual 154, 3) := by decide +kernel
theorem d_MO_reduced_35 : decode b_MO_reduced 35 = .ok (.ifCond .eq 7, 3) := by decide +kernel
theorem d_MO_reduced_38 : decode b_MO_reduced 38 = .ok (.iload_n 3, 1) := by decide +kernel
theorem d_MO_reduced_39 : decode b_MO_reduced 39 = .ok (.goto 4, 3) := by decide +kernel
theorem d_MO_reduced_42 : decode b_MO_reduced 42 = .ok (.iload_n 2, 1) := by decide +kernel
theorem d_MO_reduced_43 : decode b_MO_reduced 43 = .ok (.istore_n 2, 1) := by decide +kernel
theorem d_MO_reduced_44 : decode b_MO_reduced 44 = .ok (.iinc 3 1, 3) := by decide +kernel
theorem d_MO_reduced_47 : decode b_MO_reduced 47 = .ok (.goto (-43), 3) := by decide +kernel
theorem d_MO_reduced_50 : decode b_MO_reduced 50 = .ok (.iconst 0, 1) := by decide +kernel
theorem d_MO_reduced_51 : decode b_MO_reduced 51 = .ok (.istore_n 3, 1) := by decide +kernel
theorem d_MO_reduced_52 : decode b_MO_reduced 52 = .ok (.iconst 0, 1) := by decide +kernel
theorem d_MO_reduced_53 : decode b_MO_reduced 53 = .ok (.istore 4, 2) := by decide +kernel
theorem d_MO_reduced_55 : decode b_MO_reduced 55 = .ok (.iload 4, 2) := by decide +kernel
theorem d_MO_reduced_57 : decode b_MO_reduced 57 = .ok (.aload_n 0, 1) := by decide +kernel
theorem d_MO_reduced_58 : decode b_MO_reduced 58 = .ok (.getfield 99, 3) := by decide +kernel
theorem d_MO_reduced_61 : decode b_MO_reduced 61 = .ok (.if_icmp .ge 58, 3) := by decide +kernel
theorem d_MO_reduced_64 : decode b_MO_reduced 64 = .ok (.aload_n 0, 1) := by decide +kernel
theorem d_MO_reduced_65 : decode b_MO_reduced 65 = .ok (.getfield 13, 3) := by decide +kernel
theorem d_MO_reduced_68 : decode b_MO_reduced 68 = .ok (.iload 4, 2) := by decide +kernel
theorem d_MO_reduced_70 : decode b_MO_reduced 70 = .ok (.iaload, 1) := by decide +kernel
theorem d_MO_reduced_71 : decode b_MO_reduced 71 = .ok (.istore 5, 2) := by decide +kernel
theorem d_MO_reduced_73 : decode b_MO_reduced 73 = .ok (.iload 5, 2) := by decide +kernel
theorem d_MO_reduced_75 : decode b_MO_reduced 75 = .ok (.invokestatic 80, 3) := by decide +kernel
theorem d_MO_reduced_78 : decode b_MO_reduced 78 = .ok (.iload 5, 2) := by decide +kernel
theorem d_MO_reduced_80 : decode b_MO_reduced 80 = .ok (.ineg, 1) := by decide +kernel
theorem d_MO_reduced_81 : decode b_MO_reduced 81 = .ok (.invokestatic 80, 3) := by decide +kernel
theorem d_MO_reduced_84 : decode b_MO_reduced 84 = .ok (.ior, 1) := by decide +kernel
theorem d_MO_reduced_85 : decode b_MO_reduced 85 = .ok (.istore 6, 2) := by decide +kernel
theorem d_MO_reduced_87 : decode b_MO_reduced 87 = .ok (.aload_n 0, 1) := by decide +kernel
theorem d_MO_reduced_88 : decode b_MO_reduced 88 = .ok (.iload 5, 2) := by decide +kernel
theorem d_MO_reduced_90 : decode b_MO_reduced 90 = .ok (.invokevirtual 154, 3) := by decide +kernel
theorem d_MO_reduced_93 : decode b_MO_reduced 93 = .ok (.ifCond .ne 9, 3) := by decide +kernel
theorem d_MO_reduced_96 : decode b_MO_reduced 96 = .ok (.iload 4, 2) := by decide +kernel
theorem d_MO_reduced_98 : decode b_MO_reduced 98 = .ok (.iload_n 2, 1) := by decide +kernel
theorem d_MO_reduced_99 : decode b_MO_reduced 99 = .ok (.if_icmp .ge 12, 3) := by decide +kernel
theorem d_MO_reduced_102 : decode b_MO_reduced 102 = .ok (.iload_n 3, 1) := by decide +kernel
theorem d_MO_reduced_103 : decode b_MO_reduced 103 = .ok (.iload_n 1, 1) := by decide +kernel
theorem d_MO_reduced_104 : decode b_MO_reduced 104 = .ok (.iload 6, 2) := by decide +kernel
theorem d_MO_reduced_106 : decode b_MO_reduced 106 = .ok (.iand, 1) := by decide +kernel
theorem d_MO_reduced_107 : decode b_MO_reduced 107 = .ok (.ior, 1) := by decide +kernel
theorem d_MO_reduced_108 : decode b_MO_reduced 108 = .ok (.goto 4, 3) := by decide +kernel
theorem d_MO_reduced_111 : decode b_MO_reduced 111 = .ok (.iload_n 3, 1) := by decide +kernel
theorem d_MO_reduced_112 : decode b_MO_reduced 112 = .ok (.istore_n 3, 1) := by decide +kernel
theorem d_MO_reduced_113 : decode b_MO_reduced 113 = .ok (.iinc 4 1, 3) := by decide +kernel
theorem d_MO_reduced_116 : decode b_MO_reduced 116 = .ok (.goto (-61), 3) := by decide +kernel
theorem d_MO_reduced_119 : decode b_MO_reduced 119 = .ok (.iload_n 3, 1) := by decide +kernel
theorem d_MO_reduced_120 : decode b_MO_reduced 120 = .ok (.ireturn, 1) := by decide +kernel
theorem d_MO_isResolved_0 : decode b_MO_isResolved 0 = .ok (.iconst 0, 1) := by decide +kernel
theorem d_MO_isResolved_1 : decode b_MO_isResolved 1 = .ok (.istore_n 3, 1) := by decide +kernel
theorem d_MO_isResolved_2 : decode b_MO_isResolved 2 = .ok (.iconst 0, 1) := by decide +kernel
theorem d_MO_isResolved_3 : decode b_MO_isResolved 3 = .ok (.istore 4, 2) := by decide +kernel
theorem d_MO_isResolved_5 : decode b_MO_isResolved 5 = .ok (.iconst 0, 1) := by decide +kernel
theorem d_MO_isResolved_6 : decode b_MO_isResolved 6 = .ok (.istore 5, 2) := by decide +kernel
theorem d_MO_isResolved_8 : decode b_MO_isResolved 8 = .ok (.iload 5, 2) := by decide +kernel
theorem d_MO_isResolved_10 : decode b_MO_isResolved 10 = .ok (.aload_n 0, 1) := by decide +kernel
theorem d_MO_isResolved_11 : decode b_MO_isResolved 11 = .ok (.getfield 99, 3) := by decide +kernel
theorem d_MO_isResolved_14 : decode b_MO_isResolved 14 = .ok (.if_icmp .ge 55, 3) := by decide +kernel
theorem d_MO_isResolved_17 : decode b_MO_isResolved 17 = .ok (.aload_n 0, 1) := by decide +kernel
theorem d_MO_isResolved_18 : decode b_MO_isResolved 18 = .ok (.getfield 13, 3) := by decide +kernel
theorem d_MO_isResolved_21 : decode b_MO_isResolved 21 = .ok (.iload 5, 2) := by decide +kernel
theorem d_MO_isResolved_23 : decode b_MO_isResolved 23 = .ok (.iaload, 1) := by decide +kernel
theorem d_MO_isResolved_24 : decode b_MO_isResolved 24 = .ok (.istore 6, 2) := by decide +kernel
theorem d_MO_isResolved_26 : decode b_MO_isResolved 26 = .ok (.aload_n 0, 1) := by decide +kernel
theorem d_MO_isResolved_27 : decode b_MO_isResolved 27 = .ok (.iload 6, 2) := by decide +kernel
theorem d_MO_isResolved_29 : decode b_MO_isResolved 29 = .ok (.invokevirtual 154, 3) := by decide +kernel
theorem d_MO_isResolved_32 : decode b_MO_isResolved 32 = .ok (.ifCond .eq 31, 3) := by decide +kernel
theorem d_MO_isResolved_35 : decode b_MO_isResolved 35 = .ok (.iload_n 1, 1) := by decide +kernel
theorem d_MO_isResolved_36 : decode b_MO_isResolved 36 = .ok (.invokestatic 77, 3) := by decide +kernel
theorem d_MO_isResolved_39 : decode b_MO_isResolved 39 = .ok (.iload_n 2, 1) := by decide +kernel
theorem d_MO_isResolved_40 : decode b_MO_isResolved 40 = .ok (.iand, 1) := by decide +kernel
theorem d_MO_isResolved_41 : decode b_MO_isResolved 41 = .ok (.iload 6, 2) := by decide +kernel
theorem d_MO_isResolved_43 : decode b_MO_isResolved 43 = .ok (.invokestatic 80, 3) := by decide +kernel
theorem d_MO_isResolved_46 : decode b_MO_isResolved 46 = .ok (.iload 6, 2) := by decide +kernel
theorem d_MO_isResolved_48 : decode b_MO_isResolved 48 = .ok (.ineg, 1) := by decide +kernel
theorem d_MO_isResolved_49 : decode b_MO_isResolved 49 = .ok (.invokestatic 80, 3) := by decide +kernel
theorem d_MO_isResolved_52 : decode b_MO_isResolved 52 = .ok (.ior, 1) := by decide +kernel
theorem d_MO_isResolved_53 : decode b_MO_isResolved 53 = .ok (.iand, 1) := by decide +kernel
theorem d_MO_isResolved_54 : decode b_MO_isResolved 54 = .ok (.ifCond .eq 9, 3) := by decide +kernel
theorem d_MO_isResolved_57 : decode b_MO_isResolved 57 = .ok (.iload 6, 2) := by decide +kernel
theorem d_MO_isResolved_59 : decode b_MO_isResolved 59 = .ok (.istore_n 3, 1) := by decide +kernel
theorem d_MO_isResolved_60 : decode b_MO_isResolved 60 = .ok (.iinc 4 1, 3) := by decide +kernel
theorem d_MO_isResolved_63 : decode b_MO_isResolved 63 = .ok (.iinc 5 1, 3) := by decide +kernel
theorem d_MO_isResolved_66 : decode b_MO_isResolved 66 = .ok (.goto (-58), 3) := by decide +kernel
theorem d_MO_isResolved_69 : decode b_MO_isResolved 69 = .ok (.iload 4, 2) := by decide +kernel
theorem d_MO_isResolved_71 : decode b_MO_isResolved 71 = .ok (.iconst 1, 1) := by decide +kernel
theorem d_MO_isResolved_72 : decode b_MO_isResolved 72 = .ok (.if_icmp .eq 5, 3) := by decide +kernel
theorem d_MO_isResolved_75 : decode b_MO_isResolved 75 = .ok (.iconst 0, 1) := by decide +kernel
theorem d_MO_isResolved_76 : decode b_MO_isResolved 76 = .ok (.ireturn, 1) := by decide +kernel
theorem d_MO_isResolved_77 : decode b_MO_isResolved 77 = .ok (.iload_n 1, 1) := by decide +kernel
theorem d_MO_isResolved_78 : decode b_MO_isResolved 78 = .ok (.iload_n 2, 1) := by decide +kernel
theorem d_MO_isResolved_79 : decode b_MO_isResolved 79 = .ok (.ior, 1) := by decide +kernel
theorem d_MO_isResolved_80 : decode b_MO_isResolved 80 = .ok (.iload_n 3, 1) := by decide +kernel
theorem d_MO_isResolved_81 : decode b_MO_isResolved 81 = .ok (.invokestatic 80, 3) := by decide +kernel
theorem d_MO_isResolved_84 : decode b_MO_isResolved 84 = .ok (.iload_n 3, 1) := by decide +kernel
theorem d_MO_isResolved_85 : decode b_MO_isResolved 85 = .ok (.ineg, 1) := by decide +kernel
theorem d_MO_isResolved_86 : decode b_MO_isResolved 86 = .ok (.invokestatic 80, 3) := by decide +kernel
theorem d_MO_isResolved_89 : decode b_MO_isResolved 89 = .ok (.ior, 1) := by decide +kernel
theorem d_MO_isResolved_90 : decode b_MO_isResolved 90 = .ok (.iconst (-1), 1) := by decide +kernel
theorem d_MO_isResolved_91 : decode b_MO_isResolved 91 = .ok (.ixor, 1) := by decide +kernel
theorem d_MO_isResolved_92 : decode b_MO_isResolved 92 = .ok (.iand, 1) := by decide +kernel
theorem d_MO_isResolved_93 : decode b_MO_isResolved 93 = .ok (.istore 5, 2) := by decide +kernel
theorem d_MO_isResolved_95 : decode b_MO_isResolved 95 = .ok (.aload_n 0, 1) := by decide +kernel
theorem d_MO_isResolved_96 : decode b_MO_isResolved 96 = .ok (.getfield 71, 3) := by decide +kernel
theorem d_MO_isResolved_99 : decode b_MO_isResolved 99 = .ok (.iload 5, 2) := by decide +kernel
theorem d_MO_isResolved_101 : decode b_MO_isResolved 101 = .ok (.if_icmp .ne 7, 3) := by decide +kernel
theorem d_MO_isResolved_104 : decode b_MO_isResolved 104 = .ok (.iconst 1, 1) := by decide +kernel
theorem d_MO_isResolved_105 : decode b_MO_isResolved 105 = .ok (.goto 4, 3) := by decide +kernel
theorem d_MO_isResolved_108 : decode b_MO_isResolved 108 = .ok (.iconst 0, 1) := by decide +kernel
theorem d_MO_isResolved_109 : decode b_MO_isResolved 109 = .ok (.istore 6, 2) := by decide +kernel
theorem d_MO_isResolved_111 : decode b_MO_isResolved 111 = .ok (.iconst 0, 1) := by decide +kernel
theorem d_MO_isResolved_112 : decode b_MO_isResolved 112 = .ok (.istore 7, 2) := by decide +kernel
theorem d_MO_isResolved_114 : decode b_MO_isResolved 114 = .ok (.iload 7, 2) := by decide +kernel
theorem d_MO_isResolved_116 : decode b_MO_isResolved 116 = .ok (.aload_n 0, 1) := by decide +kernel
theorem d_MO_isResolved_117 : decode b_MO_isResolved 117 = .ok (.getfield 99, 3) := by decide +kernel
theorem d_MO_isResolved_120 : decode b_MO_isResolved 120 = .ok (.if_icmp .ge 87, 3) := by decide +kernel
theorem d_MO_isResolved_123 : decode b_MO_isResolved 123 = .ok (.aload_n 0, 1) := by decide +kernel
theorem d_MO_isResolved_124 : decode b_MO_isResolved 124 = .ok (.getfield 13, 3) := by decide +kernel
theorem d_MO_isResolved_127 : decode b_MO_isResolved 127 = .ok (.iload 7, 2) := by decide +kernel
theorem d_MO_isResolved_129 : decode b_MO_isResolved 129 = .ok (.iaload, 1) := by decide +kernel
theorem d_MO_isResolved_130 : decode b_MO_isResolved 130 = .ok (.istore 8, 2) := by decide +kernel
theorem d_MO_isResolved_132 : decode b_MO_isResolved 132 = .ok (.iload 5, 2) := by decide +kernel
theorem d_MO_isResolved_134 : decode b_MO_isResolved 134 = .ok (.iload 8, 2) := by decide +kernel
theorem d_MO_isResolved_136 : decode b_MO_isResolved 136 = .ok (.invokestatic 157, 3) := by decide +kernel
theorem d_MO_isResolved_139 : decode b_MO_isResolved 139 = .ok (.istore 9, 2) := by decide +kernel
theorem d_MO_isResolved_141 : decode b_MO_isResolved 141 = .ok (.iload 6, 2) := by decide +kernel
theorem d_MO_isResolved_143 : decode b_MO_isResolved 143 = .ok (.ifCond .eq 55, 3) := by decide +kernel
theorem d_MO_isResolved_146 : decode b_MO_isResolved 146 = .ok (.iload 9, 2) := by decide +kernel
theorem d_MO_isResolved_148 : decode b_MO_isResolved 148 = .ok (.ifCond .eq 12, 3) := by decide +kernel
theorem d_MO_isResolved_151 : decode b_MO_isResolved 151 = .ok (.aload_n 0, 1) := by decide +kernel
theorem d_MO_isResolved_152 : decode b_MO_isResolved 152 = .ok (.iload 8, 2) := by decide +kernel
theorem d_MO_isResolved_154 : decode b_MO_isResolved 154 = .ok (.invokevirtual 154, 3) := by decide +kernel
theorem d_MO_isResolved_157 : decode b_MO_isResolved 157 = .ok (.ifCond .ne 41, 3) := by decide +kernel
theorem d_MO_isResolved_160 : decode b_MO_isResolved 160 = .ok (.iload 9, 2) := by decide +kernel
theorem d_MO_isResolved_162 : decode b_MO_isResolved 162 = .ok (.ifCond .eq 32, 3) := by decide +kernel
theorem d_MO_isResolved_165 : decode b_MO_isResolved 165 = .ok (.iload_n 1, 1) := by decide +kernel
theorem d_MO_isResolved_166 : decode b_MO_isResolved 166 = .ok (.iload 8, 2) := by decide +kernel
theorem d_MO_isResolved_168 : decode b_MO_isResolved 168 = .ok (.invokestatic 151, 3) := by decide +kernel
theorem d_MO_isResolved_171 : decode b_MO_isResolved 171 = .ok (.ifCond .eq 23, 3) := by decide +kernel
theorem d_MO_isResolved_174 : decode b_MO_isResolved 174 = .ok (.iload_n 2, 1) := by decide +kernel
theorem d_MO_isResolved_175 : decode b_MO_isResolved 175 = .ok (.iload 8, 2) := by decide +kernel
theorem d_MO_isResolved_177 : decode b_MO_isResolved 177 = .ok (.invokestatic 151, 3) := by decide +kernel
theorem d_MO_isResolved_180 : decode b_MO_isResolved 180 = .ok (.ifCond .eq 14, 3) := by decide +kernel
theorem d_MO_isResolved_183 : decode b_MO_isResolved 183 = .ok (.iload 7, 2) := by decide +kernel
theorem d_MO_isResolved_185 : decode b_MO_isResolved 185 = .ok (.aload_n 0, 1) := by decide +kernel
theorem d_MO_isResolved_186 : decode b_MO_isResolved 186 = .ok (.getfield 20, 3) := by decide +kernel
theorem d_MO_isResolved_189 : decode b_MO_isResolved 189 = .ok (.iload_n 3, 1) := by decide +kernel
theorem d_MO_isResolved_190 : decode b_MO_isResolved 190 = .ok (.iaload, 1) := by decide +kernel
theorem d_MO_isResolved_191 : decode b_MO_isResolved 191 = .ok (.if_icmp .lt 7, 3) := by decide +kernel
theorem d_MO_isResolved_194 : decode b_MO_isResolved 194 = .ok (.iconst 1, 1) := by decide +kernel
theorem d_MO_isResolved_195 : decode b_MO_isResolved 195 = .ok (.goto 4, 3) := by decide +kernel
theorem d_MO_isResolved_198 : decode b_MO_isResolved 198 = .ok (.iconst 0, 1) := by decide +kernel
theorem d_MO_isResolved_199 : decode b_MO_isResolved 199 = .ok (.istore 6, 2) := by decide +kernel
theorem d_MO_isResolved_201 : decode b_MO_isResolved 201 = .ok (.iinc 7 1, 3) := by decide +kernel
theorem d_MO_isResolved_204 : decode b_MO_isResolved 204 = .ok (.goto (-90), 3) := by decide +kernel
theorem d_MO_isResolved_207 : decode b_MO_isResolved 207 = .ok (.iload 6, 2) := by decide +kernel
theorem d_MO_isResolved_209 : decode b_MO_isResolved 209 = .ok (.ireturn, 1) := by decide +kernel
theorem d_MO_variables_0 : decode b_MO_variables 0 = .ok (.aload_n 0, 1) := by decide +kernel
theorem d_MO_variables_1 : decode b_MO_variables 1 = .ok (.getfield 99, 3) := by decide +kernel
theorem d_MO_variables_4 : decode b_MO_variables 4 = .ok (.ireturn, 1) := by decide +kernel
theorem d_MO_variable_0 : decode b_MO_variable 0 = .ok (.iload_n 1, 1) := by decide +kernel
theorem d_MO_variable_1 : decode b_MO_variable 1 = .ok (.ifCond .lt 36, 3) := by decide +kernel
theorem d_MO_variable_4 : decode b_MO_variable 4 = .ok (.iload_n 1, 1) := by decide +kernel
theorem d_MO_variable_5 : decode b_MO_variable 5 = .ok (.aload_n 0, 1) := by decide +kernel
theorem d_MO_variable_6 : decode b_MO_variable 6 = .ok (.getfield 99, 3) := by decide +kernel
theorem d_MO_variable_9 : decode b_MO_variable 9 = .ok (.if_icmp .ge 28, 3) := by decide +kernel
theorem d_MO_variable_12 : decode b_MO_variable 12 = .ok (.aload_n 0, 1) := by decide +kernel
theorem d_MO_variable_13 : decode b_MO_variable 13 = .ok (.getfield 13, 3) := by decide +kernel
theorem d_MO_variable_16 : decode b_MO_variable 16 = .ok (.iload_n 1, 1) := by decide +kernel
theorem d_MO_variable_17 : decode b_MO_variable 17 = .ok (.iaload, 1) := by decide +kernel
theorem d_MO_variable_18 : decode b_MO_variable 18 = .ok (.aload_n 0, 1) := by decide +kernel
theorem d_MO_variable_19 : decode b_MO_variable 19 = .ok (.getfield 16, 3) := by decide +kernel
theorem d_MO_variable_22 : decode b_MO_variable 22 = .ok (.iload_n 1, 1) := by decide +kernel
theorem d_MO_variable_23 : decode b_MO_variable 23 = .ok (.baload, 1) := by decide +kernel
theorem d_MO_variable_24 : decode b_MO_variable 24 = .ok (.ifCond .eq 8, 3) := by decide +kernel
theorem d_MO_variable_27 : decode b_MO_variable 27 = .ok (.bipush 10, 2) := by decide +kernel
theorem d_MO_variable_29 : decode b_MO_variable 29 = .ok (.goto 4, 3) := by decide +kernel
theorem d_MO_variable_32 : decode b_MO_variable 32 = .ok (.iconst 0, 1) := by decide +kernel
theorem d_MO_variable_33 : decode b_MO_variable 33 = .ok (.iadd, 1) := by decide +kernel
theorem d_MO_variable_34 : decode b_MO_variable 34 = .ok (.goto 4, 3) := by decide +kernel
theorem d_MO_variable_37 : decode b_MO_variable 37 = .ok (.iconst (-1), 1) := by decide +kernel
theorem d_MO_variable_38 : decode b_MO_variable 38 = .ok (.ireturn, 1) := by decide +kernel
theorem d_MO_clauses_0 : decode b_MO_clauses 0 = .ok (.aload_n 0, 1) := by decide +kernel
theorem d_MO_clauses_1 : decode b_MO_clauses 1 = .ok (.getfield 102, 3) := by decide +kernel
theorem d_MO_clauses_4 : decode b_MO_clauses 4 = .ok (.ireturn, 1) := by decide +kernel
theorem d_MO_clause_0 : decode b_MO_clause 0 = .ok (.iload_n 1, 1) := by decide +kernel
theorem d_MO_clause_1 : decode b_MO_clause 1 = .ok (.ifCond .lt 20, 3) := by decide +kernel
theorem d_MO_clause_4 : decode b_MO_clause 4 = .ok (.iload_n 1, 1) := by decide +kernel
theorem d_MO_clause_5 : decode b_MO_clause 5 = .ok (.aload_n 0, 1) := by decide +kernel
theorem d_MO_clause_6 : decode b_MO_clause 6 = .ok (.getfield 102, 3) := by decide +kernel
theorem d_MO_clause_9 : decode b_MO_clause 9 = .ok (.if_icmp .ge 12, 3) := by decide +kernel
theorem d_MO_clause_12 : decode b_MO_clause 12 = .ok (.aload_n 0, 1) := by decide +kernel
theorem d_MO_clause_13 : decode b_MO_clause 13 = .ok (.getfield 23, 3) := by decide +kernel
theorem d_MO_clause_16 : decode b_MO_clause 16 = .ok (.iload_n 1, 1) := by decide +kernel
theorem d_MO_clause_17 : decode b_MO_clause 17 = .ok (.iaload, 1) := by decide +kernel
theorem d_MO_clause_18 : decode b_MO_clause 18 = .ok (.goto 4, 3) := by decide +kernel
theorem d_MO_clause_21 : decode b_MO_clause 21 = .ok (.iconst (-1), 1) := by decide +kernel
theorem d_MO_clause_22 : decode b_MO_clause 22 = .ok (.ireturn, 1) := by decide +kernel
theorem d_MO_steps_0 : decode b_MO_steps 0 = .ok (.aload_n 0, 1) := by decide +kernel
theorem d_MO_steps_1 : decode b_MO_steps 1 = .ok (.getfield 105, 3) := by decide +kernel
theorem d_MO_steps_4 : decode b_MO_steps 4 = .ok (.ireturn, 1) := by decide +kernel
theorem d_MO_step_0 : decode b_MO_step 0 = .ok (.iload_n 1, 1) := by decide +kernel
theorem d_MO_step_1 : decode b_MO_step 1 = .ok (.ifCond .lt 36, 3) := by decide +kernel
theorem d_MO_step_4 : decode b_MO_step 4 = .ok (.iload_n 1, 1) := by decide +kernel
theorem d_MO_step_5 : decode b_MO_step 5 = .ok (.aload_n 0, 1) := by decide +kernel
theorem d_MO_step_6 : decode b_MO_step 6 = .ok (.getfield 105, 3) := by decide +kernel
theorem d_MO_step_9 : decode b_MO_step 9 = .ok (.if_icmp .ge 28, 3) := by decide +kernel
theorem d_MO_step_12 : decode b_MO_step 12 = .ok (.aload_n 0, 1) := by decide +kernel
theorem d_MO_step_13 : decode b_MO_step 13 = .ok (.getfield 41, 3) := by decide +kernel
theorem d_MO_step_16 : decode b_MO_step 16 = .ok (.iload_n 1, 1) := by decide +kernel
theorem d_MO_step_17 : decode b_MO_step 17 = .ok (.iaload, 1) := by decide +kernel
theorem d_MO_step_18 : decode b_MO_step 18 = .ok (.aload_n 0, 1) := by decide +kernel
theorem d_MO_step_19 : decode b_MO_step 19 = .ok (.getfield 44, 3) := by decide +kernel
theorem d_MO_step_22 : decode b_MO_step 22 = .ok (.iload_n 1, 1) := by decide +kernel
theorem d_MO_step_23 : decode b_MO_step 23 = .ok (.baload, 1) := by decide +kernel
theorem d_MO_step_24 : decode b_MO_step 24 = .ok (.ifCond .eq 8, 3) := by decide +kernel
theorem d_MO_step_27 : decode b_MO_step 27 = .ok (.ldc 160, 2) := by decide +kernel
theorem d_MO_step_29 : decode b_MO_step 29 = .ok (.goto 4, 3) := by decide +kernel
theorem d_MO_step_32 : decode b_MO_step 32 = .ok (.iconst 0, 1) := by decide +kernel
theorem d_MO_step_33 : decode b_MO_step 33 = .ok (.iadd, 1) := by decide +kernel
theorem d_MO_step_34 : decode b_MO_step 34 = .ok (.goto 4, 3) := by decide +kernel
theorem d_MO_step_37 : decode b_MO_step 37 = .ok (.iconst (-1), 1) := by decide +kernel
theorem d_MO_step_38 : decode b_MO_step 38 = .ok (.ireturn, 1) := by decide +kernel
theorem d_MO_rests_0 : decode b_MO_rests 0 = .ok (.iload_n 1, 1) := by decide +kernel
theorem d_MO_rests_1 : decode b_MO_rests 1 = .ok (.ifCond .lt 20, 3) := by decide +kernel
theorem d_MO_rests_4 : decode b_MO_rests 4 = .ok (.iload_n 1, 1) := by decide +kernel
theorem d_MO_rests_5 : decode b_MO_rests 5 = .ok (.aload_n 0, 1) := by decide +kernel
theorem d_MO_rests_6 : decode b_MO_rests 6 = .ok (.getfield 105, 3) := by decide +kernel
theorem d_MO_rests_9 : decode b_MO_rests 9 = .ok (.if_icmp .ge 12, 3) := by decide +kernel
theorem d_MO_rests_12 : decode b_MO_rests 12 = .ok (.aload_n 0, 1) := by decide +kernel
theorem d_MO_rests_13 : decode b_MO_rests 13 = .ok (.getfield 47, 3) := by decide +kernel
theorem d_MO_rests_16 : decode b_MO_rests 16 = .ok (.iload_n 1, 1) := by decide +kernel
theorem d_MO_rests_17 : decode b_MO_rests 17 = .ok (.iaload, 1) := by decide +kernel
theorem d_MO_rests_18 : decode b_MO_rests 18 = .ok (.goto 4, 3) := by decide +kernel
theorem d_MO_rests_21 : decode b_MO_rests 21 = .ok (.iconst (-1), 1) := by decide +kernel
theorem d_MO_rests_22 : decode b_MO_rests 22 = .ok (.ireturn, 1) := by decide +kernel
theorem d_MO_empty_0 : decode b_MO_empty 0 = .ok (.iconst 0, 1) := by decide +kernel
theorem d_MO_empty_1 : decode b_MO_empty 1 = .ok (.istore_n 1, 1) := by decide +kernel
theorem d_MO_empty_2 : decode b_MO_empty 2 = .ok (.iload_n 1, 1) := by decide +kernel
theorem d_MO_empty_3 : decode b_MO_empty 3 = .ok (.aload_n 0, 1) := by decide +kernel
theorem d_MO_empty_4 : decode b_MO_empty 4 = .ok (.getfield 105, 3) := by decide +kernel
theorem d_MO_empty_7 : decode b_MO_empty 7 = .ok (.if_icmp .ge 20, 3) := by decide +kernel
theorem d_MO_empty_10 : decode b_MO_empty 10 = .ok (.aload_n 0, 1) := by decide +kernel
theorem d_MO_empty_11 : decode b_MO_empty 11 = .ok (.getfield 41, 3) := by decide +kernel
theorem d_MO_empty_14 : decode b_MO_empty 14 = .ok (.iload_n 1, 1) := by decide +kernel
theorem d_MO_empty_15 : decode b_MO_empty 15 = .ok (.iaload, 1) := by decide +kernel
theorem d_MO_empty_16 : decode b_MO_empty 16 = .ok (.ifCond .ne 5, 3) := by decide +kernel
theorem d_MO_empty_19 : decode b_MO_empty 19 = .ok (.iload_n 1, 1) := by decide +kernel
theorem d_MO_empty_20 : decode b_MO_empty 20 = .ok (.ireturn, 1) := by decide +kernel
theorem d_MO_empty_21 : decode b_MO_empty 21 = .ok (.iinc 1 1, 3) := by decide +kernel
theorem d_MO_empty_24 : decode b_MO_empty 24 = .ok (.goto (-22), 3) := by decide +kernel
theorem d_MO_empty_27 : decode b_MO_empty 27 = .ok (.iconst (-1), 1) := by decide +kernel
theorem d_MO_empty_28 : decode b_MO_empty 28 = .ok (.ireturn, 1) := by decide +kernel
theorem d_MO_play0_0 : decode b_MO_play0 0 = .ok (.iconst 0, 1) := by decide +kernel
theorem d_MO_play0_1 : decode b_MO_play0 1 = .ok (.istore_n 2, 1) := by decide +kernel
theorem d_MO_play0_2 : decode b_MO_play0 2 = .ok (.iload_n 2, 1) := by decide +kernel
theorem d_MO_play0_3 : decode b_MO_play0 3 = .ok (.iconst 1, 1) := by decide +kernel
theorem d_MO_play0_4 : decode b_MO_play0 4 = .ok (.aload_n 0, 1) := by decide +kernel
theorem d_MO_play0_5 : decode b_MO_play0 5 = .ok (.getfield 99, 3) := by decide +kernel
theorem d_MO_play0_8 : decode b_MO_play0 8 = .ok (.ishl, 1) := by decide +kernel
theorem d_MO_play0_9 : decode b_MO_play0 9 = .ok (.if_icmp .ge 120, 3) := by decide +kernel
theorem d_MO_play0_12 : decode b_MO_play0 12 = .ok (.iconst 0, 1) := by decide +kernel
theorem d_MO_play0_13 : decode b_MO_play0 13 = .ok (.istore_n 3, 1) := by decide +kernel
theorem d_MO_play0_14 : decode b_MO_play0 14 = .ok (.iconst 0, 1) := by decide +kernel
theorem d_MO_play0_15 : decode b_MO_play0 15 = .ok (.istore 4, 2) := by decide +kernel
theorem d_MO_play0_17 : decode b_MO_play0 17 = .ok (.iload 4, 2) := by decide +kernel
theorem d_MO_play0_19 : decode b_MO_play0 19 = .ok (.aload_n 0, 1) := by decide +kernel
theorem d_MO_play0_20 : decode b_MO_play0 20 = .ok (.getfield 99, 3) := by decide +kernel
theorem d_MO_play0_23 : decode b_MO_play0 23 = .ok (.if_icmp .ge 43, 3) := by decide +kernel
theorem d_MO_play0_26 : decode b_MO_play0 26 = .ok (.iload_n 3, 1) := by decide +kernel
theorem d_MO_play0_27 : decode b_MO_play0 27 = .ok (.iload_n 2, 1) := by decide +kernel
theorem d_MO_play0_28 : decode b_MO_play0 28 = .ok (.iload 4, 2) := by decide +kernel
theorem d_MO_play0_30 : decode b_MO_play0 30 = .ok (.ishr, 1) := by decide +kernel
theorem d_MO_play0_31 : decode b_MO_play0 31 = .ok (.iconst 1, 1) := by decide +kernel
theorem d_MO_play0_32 : decode b_MO_play0 32 = .ok (.iand, 1) := by decide +kernel
theorem d_MO_play0_33 : decode b_MO_play0 33 = .ok (.iconst 1, 1) := by decide +kernel
theorem d_MO_play0_34 : decode b_MO_play0 34 = .ok (.if_icmp .ne 13, 3) := by decide +kernel
theorem d_MO_play0_37 : decode b_MO_play0 37 = .ok (.aload_n 0, 1) := by decide +kernel
theorem d_MO_play0_38 : decode b_MO_play0 38 = .ok (.getfield 13, 3) := by decide +kernel
theorem d_MO_play0_41 : decode b_MO_play0 41 = .ok (.iload 4, 2) := by decide +kernel
theorem d_MO_play0_43 : decode b_MO_play0 43 = .ok (.iaload, 1) := by decide +kernel
theorem d_MO_play0_44 : decode b_MO_play0 44 = .ok (.goto 11, 3) := by decide +kernel
theorem d_MO_play0_47 : decode b_MO_play0 47 = .ok (.aload_n 0, 1) := by decide +kernel
theorem d_MO_play0_48 : decode b_MO_play0 48 = .ok (.getfield 13, 3) := by decide +kernel
theorem d_MO_play0_51 : decode b_MO_play0 51 = .ok (.iload 4, 2) := by decide +kernel
theorem d_MO_play0_53 : decode b_MO_play0 53 = .ok (.iaload, 1) := by decide +kernel
theorem d_MO_play0_54 : decode b_MO_play0 54 = .ok (.ineg, 1) := by decide +kernel
theorem d_MO_play0_55 : decode b_MO_play0 55 = .ok (.invokestatic 80, 3) := by decide +kernel
theorem d_MO_play0_58 : decode b_MO_play0 58 = .ok (.ior, 1) := by decide +kernel
theorem d_MO_play0_59 : decode b_MO_play0 59 = .ok (.istore_n 3, 1) := by decide +kernel
theorem d_MO_play0_60 : decode b_MO_play0 60 = .ok (.iinc 4 1, 3) := by decide +kernel
theorem d_MO_play0_63 : decode b_MO_play0 63 = .ok (.goto (-46), 3) := by decide +kernel
theorem d_MO_play0_66 : decode b_MO_play0 66 = .ok (.aload_n 0, 1) := by decide +kernel
theorem d_MO_play0_67 : decode b_MO_play0 67 = .ok (.getfield 50, 3) := by decide +kernel
theorem d_MO_play0_70 : decode b_MO_play0 70 = .ok (.iload_n 2, 1) := by decide +kernel
theorem d_MO_play0_71 : decode b_MO_play0 71 = .ok (.iconst 1, 1) := by decide +kernel
theorem d_MO_play0_72 : decode b_MO_play0 72 = .ok (.bastore, 1) := by decide +kernel
theorem d_MO_play0_73 : decode b_MO_play0 73 = .ok (.iconst 0, 1) := by decide +kernel
theorem d_MO_play0_74 : decode b_MO_play0 74 = .ok (.istore 4, 2) := by decide +kernel
theorem d_MO_play0_76 : decode b_MO_play0 76 = .ok (.iload 4, 2) := by decide +kernel
theorem d_MO_play0_78 : decode b_MO_play0 78 = .ok (.aload_n 0, 1) := by decide +kernel
theorem d_MO_play0_79 : decode b_MO_play0 79 = .ok (.getfield 102, 3) := by decide +kernel
theorem d_MO_play0_82 : decode b_MO_play0 82 = .ok (.if_icmp .ge 41, 3) := by decide +kernel
theorem d_MO_play0_85 : decode b_MO_play0 85 = .ok (.aload_n 0, 1) := by decide +kernel
theorem d_MO_play0_86 : decode b_MO_play0 86 = .ok (.getfield 50, 3) := by decide +kernel
theorem d_MO_play0_89 : decode b_MO_play0 89 = .ok (.iload_n 2, 1) := by decide +kernel
theorem d_MO_play0_90 : decode b_MO_play0 90 = .ok (.aload_n 0, 1) := by decide +kernel
theorem d_MO_play0_91 : decode b_MO_play0 91 = .ok (.getfield 50, 3) := by decide +kernel
theorem d_MO_play0_94 : decode b_MO_play0 94 = .ok (.iload_n 2, 1) := by decide +kernel
theorem d_MO_play0_95 : decode b_MO_play0 95 = .ok (.baload, 1) := by decide +kernel
theorem d_MO_play0_96 : decode b_MO_play0 96 = .ok (.ifCond .eq 19, 3) := by decide +kernel
theorem d_MO_play0_99 : decode b_MO_play0 99 = .ok (.aload_n 0, 1) := by decide +kernel
theorem d_MO_play0_100 : decode b_MO_play0 100 = .ok (.getfield 23, 3) := by decide +kernel
theorem d_MO_play0_103 : decode b_MO_play0 103 = .ok (.iload 4, 2) := by decide +kernel
theorem d_MO_play0_105 : decode b_MO_play0 105 = .ok (.iaload, 1) := by decide +kernel
theorem d_MO_play0_106 : decode b_MO_play0 106 = .ok (.iload_n 3, 1) := by decide +kernel
theorem d_MO_play0_107 : decode b_MO_play0 107 = .ok (.iand, 1) := by decide +kernel
theorem d_MO_play0_108 : decode b_MO_play0 108 = .ok (.ifCond .eq 7, 3) := by decide +kernel
theorem d_MO_play0_111 : decode b_MO_play0 111 = .ok (.iconst 1, 1) := by decide +kernel
theorem d_MO_play0_112 : decode b_MO_play0 112 = .ok (.goto 4, 3) := by decide +kernel
theorem d_MO_play0_115 : decode b_MO_play0 115 = .ok (.iconst 0, 1) := by decide +kernel
theorem d_MO_play0_116 : decode b_MO_play0 116 = .ok (.bastore, 1) := by decide +kernel
theorem d_MO_play0_117 : decode b_MO_play0 117 = .ok (.iinc 4 1, 3) := by decide +kernel
theorem d_MO_play0_120 : decode b_MO_play0 120 = .ok (.goto (-44), 3) := by decide +kernel
theorem d_MO_play0_123 : decode b_MO_play0 123 = .ok (.iinc 2 1, 3) := by decide +kernel
theorem d_MO_play0_126 : decode b_MO_play0 126 = .ok (.goto (-124), 3) := by decide +kernel
theorem d_MO_play0_129 : decode b_MO_play0 129 = .ok (.aload_n 0, 1) := by decide +kernel
theorem d_MO_play0_130 : decode b_MO_play0 130 = .ok (.getfield 99, 3) := by decide +kernel
theorem d_MO_play0_133 : decode b_MO_play0 133 = .ok (.iconst 1, 1) := by decide +kernel
theorem d_MO_play0_134 : decode b_MO_play0 134 = .ok (.isub, 1) := by decide +kernel
theorem d_MO_play0_135 : decode b_MO_play0 135 = .ok (.istore_n 2, 1) := by decide +kernel
theorem d_MO_play0_136 : decode b_MO_play0 136 = .ok (.iload_n 2, 1) := by decide +kernel
theorem d_MO_play0_137 : decode b_MO_play0 137 = .ok (.iload_n 1, 1) := by decide +kernel
theorem d_MO_play0_138 : decode b_MO_play0 138 = .ok (.if_icmp .lt 96, 3) := by decide +kernel
theorem d_MO_play0_141 : decode b_MO_play0 141 = .ok (.iconst 0, 1) := by decide +kernel
theorem d_MO_play0_142 : decode b_MO_play0 142 = .ok (.istore_n 3, 1) := by decide +kernel
theorem d_MO_play0_143 : decode b_MO_play0 143 = .ok (.iload_n 3, 1) := by decide +kernel
theorem d_MO_play0_144 : decode b_MO_play0 144 = .ok (.iconst 1, 1) := by decide +kernel
theorem d_MO_play0_145 : decode b_MO_play0 145 = .ok (.iload_n 2, 1) := by decide +kernel
theorem d_MO_play0_146 : decode b_MO_play0 146 = .ok (.ishl, 1) := by decide +kernel
theorem d_MO_play0_147 : decode b_MO_play0 147 = .ok (.if_icmp .ge 81, 3) := by decide +kernel
theorem d_MO_play0_150 : decode b_MO_play0 150 = .ok (.aload_n 0, 1) := by decide +kernel
theorem d_MO_play0_151 : decode b_MO_play0 151 = .ok (.getfield 50, 3) := by decide +kernel
theorem d_MO_play0_154 : decode b_MO_play0 154 = .ok (.iload_n 3, 1) := by decide +kernel
theorem d_MO_play0_155 : decode b_MO_play0 155 = .ok (.aload_n 0, 1) := by decide +kernel
theorem d_MO_play0_156 : decode b_MO_play0 156 = .ok (.getfield 16, 3) := by decide +kernel
theorem d_MO_play0_159 : decode b_MO_play0 159 = .ok (.iload_n 2, 1) := by decide +kernel
theorem d_MO_play0_160 : decode b_MO_play0 160 = .ok (.baload, 1) := by decide +kernel
theorem d_MO_play0_161 : decode b_MO_play0 161 = .ok (.ifCond .eq 33, 3) := by decide +kernel
theorem d_MO_play0_164 : decode b_MO_play0 164 = .ok (.aload_n 0, 1) := by decide +kernel
theorem d_MO_play0_165 : decode b_MO_play0 165 = .ok (.getfield 50, 3) := by decide +kernel
theorem d_MO_play0_168 : decode b_MO_play0 168 = .ok (.iload_n 3, 1) := by decide +kernel
theorem d_MO_play0_169 : decode b_MO_play0 169 = .ok (.baload, 1) := by decide +kernel
theorem d_MO_play0_170 : decode b_MO_play0 170 = .ok (.ifCond .eq 20, 3) := by decide +kernel
theorem d_MO_play0_173 : decode b_MO_play0 173 = .ok (.aload_n 0, 1) := by decide +kernel
theorem d_MO_play0_174 : decode b_MO_play0 174 = .ok (.getfield 50, 3) := by decide +kernel
theorem d_MO_play0_177 : decode b_MO_play0 177 = .ok (.iload_n 3, 1) := by decide +kernel
theorem d_MO_play0_178 : decode b_MO_play0 178 = .ok (.iconst 1, 1) := by decide +kernel
theorem d_MO_play0_179 : decode b_MO_play0 179 = .ok (.iload_n 2, 1) := by decide +kernel
theorem d_MO_play0_180 : decode b_MO_play0 180 = .ok (.ishl, 1) := by decide +kernel
theorem d_MO_play0_181 : decode b_MO_play0 181 = .ok (.ior, 1) := by decide +kernel
theorem d_MO_play0_182 : decode b_MO_play0 182 = .ok (.baload, 1) := by decide +kernel
theorem d_MO_play0_183 : decode b_MO_play0 183 = .ok (.ifCond .eq 7, 3) := by decide +kernel
theorem d_MO_play0_186 : decode b_MO_play0 186 = .ok (.iconst 1, 1) := by decide +kernel
theorem d_MO_play0_187 : decode b_MO_play0 187 = .ok (.goto 34, 3) := by decide +kernel
theorem d_MO_play0_190 : decode b_MO_play0 190 = .ok (.iconst 0, 1) := by decide +kernel
theorem d_MO_play0_191 : decode b_MO_play0 191 = .ok (.goto 30, 3) := by decide +kernel
theorem d_MO_play0_194 : decode b_MO_play0 194 = .ok (.aload_n 0, 1) := by decide +kernel
theorem d_MO_play0_195 : decode b_MO_play0 195 = .ok (.getfield 50, 3) := by decide +kernel
theorem d_MO_play0_198 : decode b_MO_play0 198 = .ok (.iload_n 3, 1) := by decide +kernel
theorem d_MO_play0_199 : decode b_MO_play0 199 = .ok (.baload, 1) := by decide +kernel
theorem d_MO_play0_200 : decode b_MO_play0 200 = .ok (.ifCond .ne 16, 3) := by decide +kernel
theorem d_MO_play0_203 : decode b_MO_play0 203 = .ok (.aload_n 0, 1) := by decide +kernel
theorem d_MO_play0_204 : decode b_MO_play0 204 = .ok (.getfield 50, 3) := by decide +kernel
theorem d_MO_play0_207 : decode b_MO_play0 207 = .ok (.iload_n 3, 1) := by decide +kernel
theorem d_MO_play0_208 : decode b_MO_play0 208 = .ok (.iconst 1, 1) := by decide +kernel
theorem d_MO_play0_209 : decode b_MO_play0 209 = .ok (.iload_n 2, 1) := by decide +kernel
theorem d_MO_play0_210 : decode b_MO_play0 210 = .ok (.ishl, 1) := by decide +kernel
theorem d_MO_play0_211 : decode b_MO_play0 211 = .ok (.ior, 1) := by decide +kernel
theorem d_MO_play0_212 : decode b_MO_play0 212 = .ok (.baload, 1) := by decide +kernel
theorem d_MO_play0_213 : decode b_MO_play0 213 = .ok (.ifCond .eq 7, 3) := by decide +kernel
theorem d_MO_play0_216 : decode b_MO_play0 216 = .ok (.iconst 1, 1) := by decide +kernel
theorem d_MO_play0_217 : decode b_MO_play0 217 = .ok (.goto 4, 3) := by decide +kernel
theorem d_MO_play0_220 : decode b_MO_play0 220 = .ok (.iconst 0, 1) := by decide +kernel
theorem d_MO_play0_221 : decode b_MO_play0 221 = .ok (.bastore, 1) := by decide +kernel
theorem d_MO_play0_222 : decode b_MO_play0 222 = .ok (.iinc 3 1, 3) := by decide +kernel
theorem d_MO_play0_225 : decode b_MO_play0 225 = .ok (.goto (-82), 3) := by decide +kernel
theorem d_MO_play0_228 : decode b_MO_play0 228 = .ok (.iinc 2 (-1), 3) := by decide +kernel
theorem d_MO_play0_231 : decode b_MO_play0 231 = .ok (.goto (-95), 3) := by decide +kernel
theorem d_MO_play0_234 : decode b_MO_play0 234 = .ok (.return_, 1) := by decide +kernel
theorem d_MO_won_0 : decode b_MO_won 0 = .ok (.iload_n 1, 1) := by decide +kernel
theorem d_MO_won_1 : decode b_MO_won 1 = .ok (.ifCond .lt 11, 3) := by decide +kernel
theorem d_MO_won_4 : decode b_MO_won 4 = .ok (.iload_n 1, 1) := by decide +kernel
theorem d_MO_won_5 : decode b_MO_won 5 = .ok (.aload_n 0, 1) := by decide +kernel
theorem d_MO_won_6 : decode b_MO_won 6 = .ok (.getfield 99, 3) := by decide +kernel
theorem d_MO_won_9 : decode b_MO_won 9 = .ok (.if_icmp .le 5, 3) := by decide +kernel
theorem d_MO_won_12 : decode b_MO_won 12 = .ok (.iconst 0, 1) := by decide +kernel
theorem d_MO_won_13 : decode b_MO_won 13 = .ok (.ireturn, 1) := by decide +kernel
theorem d_MO_won_14 : decode b_MO_won 14 = .ok (.aload_n 0, 1) := by decide +kernel
theorem d_MO_won_15 : decode b_MO_won 15 = .ok (.iload_n 1, 1) := by decide +kernel
theorem d_MO_won_16 : decode b_MO_won 16 = .ok (.invokevirtual 161, 3) := by decide +kernel
theorem d_MO_won_19 : decode b_MO_won 19 = .ok (.aload_n 0, 1) := by decide +kernel
theorem d_MO_won_20 : decode b_MO_won 20 = .ok (.getfield 50, 3) := by decide +kernel
theorem d_MO_won_23 : decode b_MO_won 23 = .ok (.iload_n 2, 1) := by decide +kernel
theorem d_MO_won_24 : decode b_MO_won 24 = .ok (.iconst 1, 1) := by decide +kernel
theorem d_MO_won_25 : decode b_MO_won 25 = .ok (.iload_n 1, 1) := by decide +kernel
theorem d_MO_won_26 : decode b_MO_won 26 = .ok (.ishl, 1) := by decide +kernel
theorem d_MO_won_27 : decode b_MO_won 27 = .ok (.iconst 1, 1) := by decide +kernel
theorem d_MO_won_28 : decode b_MO_won 28 = .ok (.isub, 1) := by decide +kernel
theorem d_MO_won_29 : decode b_MO_won 29 = .ok (.iand, 1) := by decide +kernel
theorem d_MO_won_30 : decode b_MO_won 30 = .ok (.baload, 1) := by decide +kernel
theorem d_MO_won_31 : decode b_MO_won 31 = .ok (.ireturn, 1) := by decide +kernel
theorem d_MO_play_0 : decode b_MO_play 0 = .ok (.iconst 0, 1) := by decide +kernel
theorem d_MO_play_1 : decode b_MO_play 1 = .ok (.istore_n 2, 1) := by decide +kernel
theorem d_MO_play_2 : decode b_MO_play 2 = .ok (.iconst 0, 1) := by decide +kernel
theorem d_MO_play_3 : decode b_MO_play 3 = .ok (.istore_n 3, 1) := by decide +kernel
theorem d_MO_play_4 : decode b_MO_play 4 = .ok (.iload_n 3, 1) := by decide +kernel
theorem d_MO_play_5 : decode b_MO_play 5 = .ok (.aload_n 0, 1) := by decide +kernel
theorem d_MO_play_6 : decode b_MO_play 6 = .ok (.getfield 99, 3) := by decide +kernel
theorem d_MO_play_9 : decode b_MO_play 9 = .ok (.if_icmp .ge 85, 3) := by decide +kernel
theorem d_MO_play_12 : decode b_MO_play 12 = .ok (.iload_n 1, 1) := by decide +kernel
theorem d_MO_play_13 : decode b_MO_play 13 = .ok (.iload_n 3, 1) := by decide +kernel
theorem d_MO_play_14 : decode b_MO_play 14 = .ok (.ishr, 1) := by decide +kernel
theorem d_MO_play_15 : decode b_MO_play 15 = .ok (.iconst 1, 1) := by decide +kernel
theorem d_MO_play_16 : decode b_MO_play 16 = .ok (.iand, 1) := by decide +kernel
theorem d_MO_play_17 : decode b_MO_play 17 = .ok (.iconst 1, 1) := by decide +kernel
theorem d_MO_play_18 : decode b_MO_play 18 = .ok (.if_icmp .ne 7, 3) := by decide +kernel
theorem d_MO_play_21 : decode b_MO_play 21 = .ok (.iconst 1, 1) := by decide +kernel
theorem d_MO_play_22 : decode b_MO_play 22 = .ok (.goto 4, 3) := by decide +kernel
theorem d_MO_play_25 : decode b_MO_play 25 = .ok (.iconst 0, 1) := by decide +kernel
theorem d_MO_play_26 : decode b_MO_play 26 = .ok (.istore 4, 2) := by decide +kernel
theorem d_MO_play_28 : decode b_MO_play 28 = .ok (.aload_n 0, 1) := by decide +kernel
theorem d_MO_play_29 : decode b_MO_play 29 = .ok (.getfield 16, 3) := by decide +kernel
theorem d_MO_play_32 : decode b_MO_play 32 = .ok (.iload_n 3, 1) := by decide +kernel
theorem d_MO_play_33 : decode b_MO_play 33 = .ok (.baload, 1) := by decide +kernel
theorem d_MO_play_34 : decode b_MO_play 34 = .ok (.ifCond .eq 39, 3) := by decide +kernel
theorem d_MO_play_37 : decode b_MO_play 37 = .ok (.aload_n 0, 1) := by decide +kernel
theorem d_MO_play_38 : decode b_MO_play 38 = .ok (.iload_n 3, 1) := by decide +kernel
theorem d_MO_play_39 : decode b_MO_play 39 = .ok (.iconst 1, 1) := by decide +kernel
theorem d_MO_play_40 : decode b_MO_play 40 = .ok (.iadd, 1) := by decide +kernel
theorem d_MO_play_41 : decode b_MO_play 41 = .ok (.invokevirtual 161, 3) := by decide +kernel
theorem d_MO_play_44 : decode b_MO_play 44 = .ok (.aload_n 0, 1) := by decide +kernel
theorem d_MO_play_45 : decode b_MO_play 45 = .ok (.getfield 50, 3) := by decide +kernel
theorem d_MO_play_48 : decode b_MO_play 48 = .ok (.iload_n 2, 1) := by decide +kernel
theorem d_MO_play_49 : decode b_MO_play 49 = .ok (.baload, 1) := by decide +kernel
theorem d_MO_play_50 : decode b_MO_play 50 = .ok (.ifCond .eq 20, 3) := by decide +kernel
theorem d_MO_play_53 : decode b_MO_play 53 = .ok (.aload_n 0, 1) := by decide +kernel
theorem d_MO_play_54 : decode b_MO_play 54 = .ok (.getfield 50, 3) := by decide +kernel
theorem d_MO_play_57 : decode b_MO_play 57 = .ok (.iload_n 2, 1) := by decide +kernel
theorem d_MO_play_58 : decode b_MO_play 58 = .ok (.iconst 1, 1) := by decide +kernel
theorem d_MO_play_59 : decode b_MO_play 59 = .ok (.iload_n 3, 1) := by decide +kernel
theorem d_MO_play_60 : decode b_MO_play 60 = .ok (.ishl, 1) := by decide +kernel
theorem d_MO_play_61 : decode b_MO_play 61 = .ok (.ior, 1) := by decide +kernel
theorem d_MO_play_62 : decode b_MO_play 62 = .ok (.baload, 1) := by decide +kernel
theorem d_MO_play_63 : decode b_MO_play 63 = .ok (.ifCond .ne 7, 3) := by decide +kernel
theorem d_MO_play_66 : decode b_MO_play 66 = .ok (.iconst 1, 1) := by decide +kernel
theorem d_MO_play_67 : decode b_MO_play 67 = .ok (.goto 4, 3) := by decide +kernel
theorem d_MO_play_70 : decode b_MO_play 70 = .ok (.iconst 0, 1) := by decide +kernel
theorem d_MO_play_71 : decode b_MO_play 71 = .ok (.istore 4, 2) := by decide +kernel
theorem d_MO_play_73 : decode b_MO_play 73 = .ok (.iload 4, 2) := by decide +kernel
theorem d_MO_play_75 : decode b_MO_play 75 = .ok (.ifCond .eq 11, 3) := by decide +kernel
theorem d_MO_play_78 : decode b_MO_play 78 = .ok (.iload_n 2, 1) := by decide +kernel
theorem d_MO_play_79 : decode b_MO_play 79 = .ok (.iconst 1, 1) := by decide +kernel
theorem d_MO_play_80 : decode b_MO_play 80 = .ok (.iload_n 3, 1) := by decide +kernel
theorem d_MO_play_81 : decode b_MO_play 81 = .ok (.ishl, 1) := by decide +kernel
theorem d_MO_play_82 : decode b_MO_play 82 = .ok (.ior, 1) := by decide +kernel
theorem d_MO_play_83 : decode b_MO_play 83 = .ok (.goto 4, 3) := by decide +kernel
theorem d_MO_play_86 : decode b_MO_play 86 = .ok (.iload_n 2, 1) := by decide +kernel
theorem d_MO_play_87 : decode b_MO_play 87 = .ok (.istore_n 2, 1) := by decide +kernel
theorem d_MO_play_88 : decode b_MO_play 88 = .ok (.iinc 3 1, 3) := by decide +kernel
theorem d_MO_play_91 : decode b_MO_play 91 = .ok (.goto (-87), 3) := by decide +kernel
theorem d_MO_play_94 : decode b_MO_play 94 = .ok (.aload_n 0, 1) := by decide +kernel
theorem d_MO_play_95 : decode b_MO_play 95 = .ok (.aload_n 0, 1) := by decide +kernel
theorem d_MO_play_96 : decode b_MO_play 96 = .ok (.getfield 99, 3) := by decide +kernel
theorem d_MO_play_99 : decode b_MO_play 99 = .ok (.invokevirtual 161, 3) := by decide +kernel
theorem d_MO_play_102 : decode b_MO_play 102 = .ok (.aload_n 0, 1) := by decide +kernel
theorem d_MO_play_103 : decode b_MO_play 103 = .ok (.getfield 50, 3) := by decide +kernel
theorem d_MO_play_106 : decode b_MO_play 106 = .ok (.iload_n 2, 1) := by decide +kernel
theorem d_MO_play_107 : decode b_MO_play 107 = .ok (.baload, 1) := by decide +kernel
theorem d_MO_play_108 : decode b_MO_play 108 = .ok (.ifCond .eq 11, 3) := by decide +kernel
theorem d_MO_play_111 : decode b_MO_play 111 = .ok (.iload_n 2, 1) := by decide +kernel
theorem d_MO_play_112 : decode b_MO_play 112 = .ok (.sipush 256, 3) := by decide +kernel
theorem d_MO_play_115 : decode b_MO_play 115 = .ok (.iadd, 1) := by decide +kernel
theorem d_MO_play_116 : decode b_MO_play 116 = .ok (.goto 4, 3) := by decide +kernel
theorem d_MO_play_119 : decode b_MO_play 119 = .ok (.iload_n 2, 1) := by decide +kernel
theorem d_MO_play_120 : decode b_MO_play 120 = .ok (.ireturn, 1) := by decide +kernel
