theorem d_MO_init_0 : decode b_MO_init 0 = .ok (.aload_n 0, 1) := by decide +kernel
theorem d_MO_init_1 : decode b_MO_init 1 = .ok (.invokespecial 1, 3) := by decide +kernel
theorem d_MO_init_4 : decode b_MO_init 4 = .ok (.aload_n 0, 1) := by decide +kernel
theorem d_MO_init_5 : decode b_MO_init 5 = .ok (.sipush 200, 3) := by decide +kernel
theorem d_MO_init_8 : decode b_MO_init 8 = .ok (.newarray .int, 2) := by decide +kernel
theorem d_MO_init_10 : decode b_MO_init 10 = .ok (.putfield 7, 3) := by decide +kernel
theorem d_MO_init_13 : decode b_MO_init 13 = .ok (.aload_n 0, 1) := by decide +kernel
theorem d_MO_init_14 : decode b_MO_init 14 = .ok (.bipush 8, 2) := by decide +kernel
theorem d_MO_init_16 : decode b_MO_init 16 = .ok (.newarray .int, 2) := by decide +kernel
theorem d_MO_init_18 : decode b_MO_init 18 = .ok (.putfield 13, 3) := by decide +kernel
theorem d_MO_init_21 : decode b_MO_init 21 = .ok (.aload_n 0, 1) := by decide +kernel
theorem d_MO_init_22 : decode b_MO_init 22 = .ok (.bipush 8, 2) := by decide +kernel
theorem d_MO_init_24 : decode b_MO_init 24 = .ok (.newarray .boolean, 2) := by decide +kernel
theorem d_MO_init_26 : decode b_MO_init 26 = .ok (.putfield 16, 3) := by decide +kernel
theorem d_MO_init_29 : decode b_MO_init 29 = .ok (.aload_n 0, 1) := by decide +kernel
theorem d_MO_init_30 : decode b_MO_init 30 = .ok (.bipush 9, 2) := by decide +kernel
theorem d_MO_init_32 : decode b_MO_init 32 = .ok (.newarray .int, 2) := by decide +kernel
theorem d_MO_init_34 : decode b_MO_init 34 = .ok (.putfield 20, 3) := by decide +kernel
theorem d_MO_init_37 : decode b_MO_init 37 = .ok (.aload_n 0, 1) := by decide +kernel
theorem d_MO_init_38 : decode b_MO_init 38 = .ok (.bipush 12, 2) := by decide +kernel
theorem d_MO_init_40 : decode b_MO_init 40 = .ok (.newarray .int, 2) := by decide +kernel
theorem d_MO_init_42 : decode b_MO_init 42 = .ok (.putfield 23, 3) := by decide +kernel
theorem d_MO_init_45 : decode b_MO_init 45 = .ok (.aload_n 0, 1) := by decide +kernel
theorem d_MO_init_46 : decode b_MO_init 46 = .ok (.bipush 8, 2) := by decide +kernel
theorem d_MO_init_48 : decode b_MO_init 48 = .ok (.newarray .int, 2) := by decide +kernel
theorem d_MO_init_50 : decode b_MO_init 50 = .ok (.putfield 26, 3) := by decide +kernel
theorem d_MO_init_53 : decode b_MO_init 53 = .ok (.aload_n 0, 1) := by decide +kernel
theorem d_MO_init_54 : decode b_MO_init 54 = .ok (.bipush 8, 2) := by decide +kernel
theorem d_MO_init_56 : decode b_MO_init 56 = .ok (.newarray .boolean, 2) := by decide +kernel
theorem d_MO_init_58 : decode b_MO_init 58 = .ok (.putfield 29, 3) := by decide +kernel
theorem d_MO_init_61 : decode b_MO_init 61 = .ok (.aload_n 0, 1) := by decide +kernel
theorem d_MO_init_62 : decode b_MO_init 62 = .ok (.bipush 9, 2) := by decide +kernel
theorem d_MO_init_64 : decode b_MO_init 64 = .ok (.newarray .int, 2) := by decide +kernel
theorem d_MO_init_66 : decode b_MO_init 66 = .ok (.putfield 32, 3) := by decide +kernel
theorem d_MO_init_69 : decode b_MO_init 69 = .ok (.aload_n 0, 1) := by decide +kernel
theorem d_MO_init_70 : decode b_MO_init 70 = .ok (.bipush 12, 2) := by decide +kernel
theorem d_MO_init_72 : decode b_MO_init 72 = .ok (.newarray .int, 2) := by decide +kernel
theorem d_MO_init_74 : decode b_MO_init 74 = .ok (.putfield 35, 3) := by decide +kernel
theorem d_MO_init_77 : decode b_MO_init 77 = .ok (.aload_n 0, 1) := by decide +kernel
theorem d_MO_init_78 : decode b_MO_init 78 = .ok (.bipush 24, 2) := by decide +kernel
theorem d_MO_init_80 : decode b_MO_init 80 = .ok (.newarray .int, 2) := by decide +kernel
theorem d_MO_init_82 : decode b_MO_init 82 = .ok (.putfield 38, 3) := by decide +kernel
theorem d_MO_init_85 : decode b_MO_init 85 = .ok (.aload_n 0, 1) := by decide +kernel
theorem d_MO_init_86 : decode b_MO_init 86 = .ok (.bipush 24, 2) := by decide +kernel
theorem d_MO_init_88 : decode b_MO_init 88 = .ok (.newarray .int, 2) := by decide +kernel
theorem d_MO_init_90 : decode b_MO_init 90 = .ok (.putfield 41, 3) := by decide +kernel
theorem d_MO_init_93 : decode b_MO_init 93 = .ok (.aload_n 0, 1) := by decide +kernel
theorem d_MO_init_94 : decode b_MO_init 94 = .ok (.bipush 24, 2) := by decide +kernel
theorem d_MO_init_96 : decode b_MO_init 96 = .ok (.newarray .boolean, 2) := by decide +kernel
theorem d_MO_init_98 : decode b_MO_init 98 = .ok (.putfield 44, 3) := by decide +kernel
theorem d_MO_init_101 : decode b_MO_init 101 = .ok (.aload_n 0, 1) := by decide +kernel
theorem d_MO_init_102 : decode b_MO_init 102 = .ok (.bipush 24, 2) := by decide +kernel
theorem d_MO_init_104 : decode b_MO_init 104 = .ok (.newarray .int, 2) := by decide +kernel
theorem d_MO_init_106 : decode b_MO_init 106 = .ok (.putfield 47, 3) := by decide +kernel
theorem d_MO_init_109 : decode b_MO_init 109 = .ok (.aload_n 0, 1) := by decide +kernel
theorem d_MO_init_110 : decode b_MO_init 110 = .ok (.sipush 256, 3) := by decide +kernel
theorem d_MO_init_113 : decode b_MO_init 113 = .ok (.newarray .boolean, 2) := by decide +kernel
theorem d_MO_init_115 : decode b_MO_init 115 = .ok (.putfield 50, 3) := by decide +kernel
theorem d_MO_init_118 : decode b_MO_init 118 = .ok (.iconst 0, 1) := by decide +kernel
theorem d_MO_init_119 : decode b_MO_init 119 = .ok (.istore_n 1, 1) := by decide +kernel
theorem d_MO_init_120 : decode b_MO_init 120 = .ok (.iload_n 1, 1) := by decide +kernel
theorem d_MO_init_121 : decode b_MO_init 121 = .ok (.bipush 9, 2) := by decide +kernel
theorem d_MO_init_123 : decode b_MO_init 123 = .ok (.if_icmp .ge 16, 3) := by decide +kernel
theorem d_MO_init_126 : decode b_MO_init 126 = .ok (.aload_n 0, 1) := by decide +kernel
theorem d_MO_init_127 : decode b_MO_init 127 = .ok (.getfield 20, 3) := by decide +kernel
theorem d_MO_init_130 : decode b_MO_init 130 = .ok (.iload_n 1, 1) := by decide +kernel
theorem d_MO_init_131 : decode b_MO_init 131 = .ok (.iconst (-1), 1) := by decide +kernel
theorem d_MO_init_132 : decode b_MO_init 132 = .ok (.iastore, 1) := by decide +kernel
theorem d_MO_init_133 : decode b_MO_init 133 = .ok (.iinc 1 1, 3) := by decide +kernel
theorem d_MO_init_136 : decode b_MO_init 136 = .ok (.goto (-16), 3) := by decide +kernel
theorem d_MO_init_139 : decode b_MO_init 139 = .ok (.return_, 1) := by decide +kernel
theorem d_MO_type_0 : decode b_MO_type 0 = .ok (.iload_n 1, 1) := by decide +kernel
theorem d_MO_type_1 : decode b_MO_type 1 = .ok (.bipush 32, 2) := by decide +kernel
theorem d_MO_type_3 : decode b_MO_type 3 = .ok (.if_icmp .lt 19, 3) := by decide +kernel
theorem d_MO_type_6 : decode b_MO_type 6 = .ok (.iload_n 1, 1) := by decide +kernel
theorem d_MO_type_7 : decode b_MO_type 7 = .ok (.bipush 126, 2) := by decide +kernel
theorem d_MO_type_9 : decode b_MO_type 9 = .ok (.if_icmp .gt 13, 3) := by decide +kernel
theorem d_MO_type_12 : decode b_MO_type 12 = .ok (.aload_n 0, 1) := by decide +kernel
theorem d_MO_type_13 : decode b_MO_type 13 = .ok (.getfield 53, 3) := by decide +kernel
theorem d_MO_type_16 : decode b_MO_type 16 = .ok (.sipush 200, 3) := by decide +kernel
theorem d_MO_type_19 : decode b_MO_type 19 = .ok (.if_icmp .ne 5, 3) := by decide +kernel
theorem d_MO_type_22 : decode b_MO_type 22 = .ok (.iconst 0, 1) := by decide +kernel
theorem d_MO_type_23 : decode b_MO_type 23 = .ok (.ireturn, 1) := by decide +kernel
theorem d_MO_type_24 : decode b_MO_type 24 = .ok (.aload_n 0, 1) := by decide +kernel
theorem d_MO_type_25 : decode b_MO_type 25 = .ok (.getfield 7, 3) := by decide +kernel
theorem d_MO_type_28 : decode b_MO_type 28 = .ok (.aload_n 0, 1) := by decide +kernel
theorem d_MO_type_29 : decode b_MO_type 29 = .ok (.getfield 53, 3) := by decide +kernel
theorem d_MO_type_32 : decode b_MO_type 32 = .ok (.iload_n 1, 1) := by decide +kernel
theorem d_MO_type_33 : decode b_MO_type 33 = .ok (.iastore, 1) := by decide +kernel
theorem d_MO_type_34 : decode b_MO_type 34 = .ok (.aload_n 0, 1) := by decide +kernel
theorem d_MO_type_35 : decode b_MO_type 35 = .ok (.dup, 1) := by decide +kernel
theorem d_MO_type_36 : decode b_MO_type 36 = .ok (.getfield 53, 3) := by decide +kernel
theorem d_MO_type_39 : decode b_MO_type 39 = .ok (.iconst 1, 1) := by decide +kernel
theorem d_MO_type_40 : decode b_MO_type 40 = .ok (.iadd, 1) := by decide +kernel
theorem d_MO_type_41 : decode b_MO_type 41 = .ok (.putfield 53, 3) := by decide +kernel
theorem d_MO_type_44 : decode b_MO_type 44 = .ok (.iconst 1, 1) := by decide +kernel
theorem d_MO_type_45 : decode b_MO_type 45 = .ok (.ireturn, 1) := by decide +kernel
theorem d_MO_begin_0 : decode b_MO_begin 0 = .ok (.iload_n 1, 1) := by decide +kernel
theorem d_MO_begin_1 : decode b_MO_begin 1 = .ok (.istore_n 2, 1) := by decide +kernel
theorem d_MO_begin_2 : decode b_MO_begin 2 = .ok (.iload_n 2, 1) := by decide +kernel
theorem d_MO_begin_3 : decode b_MO_begin 3 = .ok (.aload_n 0, 1) := by decide +kernel
theorem d_MO_begin_4 : decode b_MO_begin 4 = .ok (.getfield 53, 3) := by decide +kernel
theorem d_MO_begin_7 : decode b_MO_begin 7 = .ok (.if_icmp .ge 20, 3) := by decide +kernel
theorem d_MO_begin_10 : decode b_MO_begin 10 = .ok (.aload_n 0, 1) := by decide +kernel
theorem d_MO_begin_11 : decode b_MO_begin 11 = .ok (.getfield 7, 3) := by decide +kernel
theorem d_MO_begin_14 : decode b_MO_begin 14 = .ok (.iload_n 2, 1) := by decide +kernel
theorem d_MO_begin_15 : decode b_MO_begin 15 = .ok (.iaload, 1) := by decide +kernel
theorem d_MO_begin_16 : decode b_MO_begin 16 = .ok (.bipush 32, 2) := by decide +kernel
theorem d_MO_begin_18 : decode b_MO_begin 18 = .ok (.if_icmp .ne 9, 3) := by decide +kernel
theorem d_MO_begin_21 : decode b_MO_begin 21 = .ok (.iinc 2 1, 3) := by decide +kernel
theorem d_MO_begin_24 : decode b_MO_begin 24 = .ok (.goto (-22), 3) := by decide +kernel
theorem d_MO_begin_27 : decode b_MO_begin 27 = .ok (.iload_n 2, 1) := by decide +kernel
theorem d_MO_begin_28 : decode b_MO_begin 28 = .ok (.ireturn, 1) := by decide +kernel
theorem d_MO_end_0 : decode b_MO_end 0 = .ok (.iload_n 1, 1) := by decide +kernel
theorem d_MO_end_1 : decode b_MO_end 1 = .ok (.istore_n 2, 1) := by decide +kernel
theorem d_MO_end_2 : decode b_MO_end 2 = .ok (.iload_n 2, 1) := by decide +kernel
theorem d_MO_end_3 : decode b_MO_end 3 = .ok (.aload_n 0, 1) := by decide +kernel
theorem d_MO_end_4 : decode b_MO_end 4 = .ok (.getfield 53, 3) := by decide +kernel
theorem d_MO_end_7 : decode b_MO_end 7 = .ok (.if_icmp .ge 20, 3) := by decide +kernel
theorem d_MO_end_10 : decode b_MO_end 10 = .ok (.aload_n 0, 1) := by decide +kernel
theorem d_MO_end_11 : decode b_MO_end 11 = .ok (.getfield 7, 3) := by decide +kernel
theorem d_MO_end_14 : decode b_MO_end 14 = .ok (.iload_n 2, 1) := by decide +kernel
theorem d_MO_end_15 : decode b_MO_end 15 = .ok (.iaload, 1) := by decide +kernel
theorem d_MO_end_16 : decode b_MO_end 16 = .ok (.bipush 32, 2) := by decide +kernel
theorem d_MO_end_18 : decode b_MO_end 18 = .ok (.if_icmp .eq 9, 3) := by decide +kernel
theorem d_MO_end_21 : decode b_MO_end 21 = .ok (.iinc 2 1, 3) := by decide +kernel
theorem d_MO_end_24 : decode b_MO_end 24 = .ok (.goto (-22), 3) := by decide +kernel
theorem d_MO_end_27 : decode b_MO_end 27 = .ok (.iload_n 2, 1) := by decide +kernel
theorem d_MO_end_28 : decode b_MO_end 28 = .ok (.ireturn, 1) := by decide +kernel
theorem d_MO_word_0 : decode b_MO_word 0 = .ok (.aload_n 0, 1) := by decide +kernel
theorem d_MO_word_1 : decode b_MO_word 1 = .ok (.getfield 7, 3) := by decide +kernel
theorem d_MO_word_4 : decode b_MO_word 4 = .ok (.iload_n 1, 1) := by decide +kernel
theorem d_MO_word_5 : decode b_MO_word 5 = .ok (.iaload, 1) := by decide +kernel
theorem d_MO_word_6 : decode b_MO_word 6 = .ok (.istore_n 3, 1) := by decide +kernel
theorem d_MO_word_7 : decode b_MO_word 7 = .ok (.iload_n 2, 1) := by decide +kernel
theorem d_MO_word_8 : decode b_MO_word 8 = .ok (.iload_n 1, 1) := by decide +kernel
theorem d_MO_word_9 : decode b_MO_word 9 = .ok (.iconst 1, 1) := by decide +kernel
theorem d_MO_word_10 : decode b_MO_word 10 = .ok (.iadd, 1) := by decide +kernel
theorem d_MO_word_11 : decode b_MO_word 11 = .ok (.if_icmp .ne 33, 3) := by decide +kernel
theorem d_MO_word_14 : decode b_MO_word 14 = .ok (.iload_n 3, 1) := by decide +kernel
theorem d_MO_word_15 : decode b_MO_word 15 = .ok (.bipush 97, 2) := by decide +kernel
theorem d_MO_word_17 : decode b_MO_word 17 = .ok (.if_icmp .eq 21, 3) := by decide +kernel
theorem d_MO_word_20 : decode b_MO_word 20 = .ok (.iload_n 3, 1) := by decide +kernel
theorem d_MO_word_21 : decode b_MO_word 21 = .ok (.bipush 101, 2) := by decide +kernel
theorem d_MO_word_23 : decode b_MO_word 23 = .ok (.if_icmp .eq 15, 3) := by decide +kernel
theorem d_MO_word_26 : decode b_MO_word 26 = .ok (.iload_n 3, 1) := by decide +kernel
theorem d_MO_word_27 : decode b_MO_word 27 = .ok (.bipush 114, 2) := by decide +kernel
theorem d_MO_word_29 : decode b_MO_word 29 = .ok (.if_icmp .eq 9, 3) := by decide +kernel
theorem d_MO_word_32 : decode b_MO_word 32 = .ok (.iload_n 3, 1) := by decide +kernel
theorem d_MO_word_33 : decode b_MO_word 33 = .ok (.bipush 115, 2) := by decide +kernel
theorem d_MO_word_35 : decode b_MO_word 35 = .ok (.if_icmp .ne 9, 3) := by decide +kernel
theorem d_MO_word_38 : decode b_MO_word 38 = .ok (.sipush 4000, 3) := by decide +kernel
theorem d_MO_word_41 : decode b_MO_word 41 = .ok (.iload_n 3, 1) := by decide +kernel
theorem d_MO_word_42 : decode b_MO_word 42 = .ok (.iadd, 1) := by decide +kernel
theorem d_MO_word_43 : decode b_MO_word 43 = .ok (.ireturn, 1) := by decide +kernel
theorem d_MO_word_44 : decode b_MO_word 44 = .ok (.iload_n 3, 1) := by decide +kernel
theorem d_MO_word_45 : decode b_MO_word 45 = .ok (.bipush 45, 2) := by decide +kernel
theorem d_MO_word_47 : decode b_MO_word 47 = .ok (.if_icmp .ne 9, 3) := by decide +kernel
theorem d_MO_word_50 : decode b_MO_word 50 = .ok (.iload_n 1, 1) := by decide +kernel
theorem d_MO_word_51 : decode b_MO_word 51 = .ok (.iconst 1, 1) := by decide +kernel
theorem d_MO_word_52 : decode b_MO_word 52 = .ok (.iadd, 1) := by decide +kernel
theorem d_MO_word_53 : decode b_MO_word 53 = .ok (.goto 4, 3) := by decide +kernel
theorem d_MO_word_56 : decode b_MO_word 56 = .ok (.iload_n 1, 1) := by decide +kernel
theorem d_MO_word_57 : decode b_MO_word 57 = .ok (.istore 4, 2) := by decide +kernel
theorem d_MO_word_59 : decode b_MO_word 59 = .ok (.iload_n 2, 1) := by decide +kernel
theorem d_MO_word_60 : decode b_MO_word 60 = .ok (.iload 4, 2) := by decide +kernel
theorem d_MO_word_62 : decode b_MO_word 62 = .ok (.isub, 1) := by decide +kernel
theorem d_MO_word_63 : decode b_MO_word 63 = .ok (.istore 5, 2) := by decide +kernel
theorem d_MO_word_65 : decode b_MO_word 65 = .ok (.iload 5, 2) := by decide +kernel
theorem d_MO_word_67 : decode b_MO_word 67 = .ok (.iconst 1, 1) := by decide +kernel
theorem d_MO_word_68 : decode b_MO_word 68 = .ok (.if_icmp .lt 33, 3) := by decide +kernel
theorem d_MO_word_71 : decode b_MO_word 71 = .ok (.iload 5, 2) := by decide +kernel
theorem d_MO_word_73 : decode b_MO_word 73 = .ok (.iconst 3, 1) := by decide +kernel
theorem d_MO_word_74 : decode b_MO_word 74 = .ok (.if_icmp .gt 27, 3) := by decide +kernel
theorem d_MO_word_77 : decode b_MO_word 77 = .ok (.aload_n 0, 1) := by decide +kernel
theorem d_MO_word_78 : decode b_MO_word 78 = .ok (.getfield 7, 3) := by decide +kernel
theorem d_MO_word_81 : decode b_MO_word 81 = .ok (.iload 4, 2) := by decide +kernel
theorem d_MO_word_83 : decode b_MO_word 83 = .ok (.iaload, 1) := by decide +kernel
theorem d_MO_word_84 : decode b_MO_word 84 = .ok (.bipush 48, 2) := by decide +kernel
theorem d_MO_word_86 : decode b_MO_word 86 = .ok (.if_icmp .ne 19, 3) := by decide +kernel
theorem d_MO_word_89 : decode b_MO_word 89 = .ok (.iload 5, 2) := by decide +kernel
theorem d_MO_word_91 : decode b_MO_word 91 = .ok (.iconst 1, 1) := by decide +kernel
theorem d_MO_word_92 : decode b_MO_word 92 = .ok (.if_icmp .gt 9, 3) := by decide +kernel
theorem d_MO_word_95 : decode b_MO_word 95 = .ok (.iload 4, 2) := by decide +kernel
theorem d_MO_word_97 : decode b_MO_word 97 = .ok (.iload_n 1, 1) := by decide +kernel
theorem d_MO_word_98 : decode b_MO_word 98 = .ok (.if_icmp .le 7, 3) := by decide +kernel
theorem d_MO_word_101 : decode b_MO_word 101 = .ok (.sipush 5000, 3) := by decide +kernel
theorem d_MO_word_104 : decode b_MO_word 104 = .ok (.ireturn, 1) := by decide +kernel
theorem d_MO_word_105 : decode b_MO_word 105 = .ok (.iconst 0, 1) := by decide +kernel
theorem d_MO_word_106 : decode b_MO_word 106 = .ok (.istore 6, 2) := by decide +kernel
theorem d_MO_word_108 : decode b_MO_word 108 = .ok (.iload 4, 2) := by decide +kernel
theorem d_MO_word_110 : decode b_MO_word 110 = .ok (.istore 7, 2) := by decide +kernel
theorem d_MO_word_112 : decode b_MO_word 112 = .ok (.iload 7, 2) := by decide +kernel
theorem d_MO_word_114 : decode b_MO_word 114 = .ok (.iload_n 2, 1) := by decide +kernel
theorem d_MO_word_115 : decode b_MO_word 115 = .ok (.if_icmp .ge 55, 3) := by decide +kernel
theorem d_MO_word_118 : decode b_MO_word 118 = .ok (.aload_n 0, 1) := by decide +kernel
theorem d_MO_word_119 : decode b_MO_word 119 = .ok (.getfield 7, 3) := by decide +kernel
theorem d_MO_word_122 : decode b_MO_word 122 = .ok (.iload 7, 2) := by decide +kernel
theorem d_MO_word_124 : decode b_MO_word 124 = .ok (.iaload, 1) := by decide +kernel
theorem d_MO_word_125 : decode b_MO_word 125 = .ok (.bipush 48, 2) := by decide +kernel
theorem d_MO_word_127 : decode b_MO_word 127 = .ok (.if_icmp .lt 15, 3) := by decide +kernel
theorem d_MO_word_130 : decode b_MO_word 130 = .ok (.aload_n 0, 1) := by decide +kernel
theorem d_MO_word_131 : decode b_MO_word 131 = .ok (.getfield 7, 3) := by decide +kernel
theorem d_MO_word_134 : decode b_MO_word 134 = .ok (.iload 7, 2) := by decide +kernel
theorem d_MO_word_136 : decode b_MO_word 136 = .ok (.iaload, 1) := by decide +kernel
theorem d_MO_word_137 : decode b_MO_word 137 = .ok (.bipush 57, 2) := by decide +kernel
theorem d_MO_word_139 : decode b_MO_word 139 = .ok (.if_icmp .le 7, 3) := by decide +kernel
theorem d_MO_word_142 : decode b_MO_word 142 = .ok (.sipush 5000, 3) := by decide +kernel
theorem d_MO_word_145 : decode b_MO_word 145 = .ok (.ireturn, 1) := by decide +kernel
theorem d_MO_word_146 : decode b_MO_word 146 = .ok (.bipush 10, 2) := by decide +kernel
theorem d_MO_word_148 : decode b_MO_word 148 = .ok (.iload 6, 2) := by decide +kernel
theorem d_MO_word_150 : decode b_MO_word 150 = .ok (.imul, 1) := by decide +kernel
theorem d_MO_word_151 : decode b_MO_word 151 = .ok (.aload_n 0, 1) := by decide +kernel
theorem d_MO_word_152 : decode b_MO_word 152 = .ok (.getfield 7, 3) := by decide +kernel
theorem d_MO_word_155 : decode b_MO_word 155 = .ok (.iload 7, 2) := by decide +kernel
theorem d_MO_word_157 : decode b_MO_word 157 = .ok (.iaload, 1) := by decide +kernel
theorem d_MO_word_158 : decode b_MO_word 158 = .ok (.iadd, 1) := by decide +kernel
theorem d_MO_word_159 : decode b_MO_word 159 = .ok (.bipush 48, 2) := by decide +kernel
theorem d_MO_word_161 : decode b_MO_word 161 = .ok (.isub, 1) := by decide +kernel
theorem d_MO_word_162 : decode b_MO_word 162 = .ok (.istore 6, 2) := by decide +kernel
theorem d_MO_word_164 : decode b_MO_word 164 = .ok (.iinc 7 1, 3) := by decide +kernel
theorem d_MO_word_167 : decode b_MO_word 167 = .ok (.goto (-55), 3) := by decide +kernel
theorem d_MO_word_170 : decode b_MO_word 170 = .ok (.iload 4, 2) := by decide +kernel
theorem d_MO_word_172 : decode b_MO_word 172 = .ok (.iload_n 1, 1) := by decide +kernel
theorem d_MO_word_173 : decode b_MO_word 173 = .ok (.if_icmp .le 9, 3) := by decide +kernel
theorem d_MO_word_176 : decode b_MO_word 176 = .ok (.iload 6, 2) := by decide +kernel
theorem d_MO_word_178 : decode b_MO_word 178 = .ok (.ineg, 1) := by decide +kernel
theorem d_MO_word_179 : decode b_MO_word 179 = .ok (.goto 5, 3) := by decide +kernel
theorem d_MO_word_182 : decode b_MO_word 182 = .ok (.iload 6, 2) := by decide +kernel
theorem d_MO_word_184 : decode b_MO_word 184 = .ok (.ireturn, 1) := by decide +kernel
theorem d_MO_bit_0 : decode b_MO_bit 0 = .ok (.iload_n 0, 1) := by decide +kernel
theorem d_MO_bit_1 : decode b_MO_bit 1 = .ok (.ifCond .le 11, 3) := by decide +kernel
theorem d_MO_bit_4 : decode b_MO_bit 4 = .ok (.iconst 1, 1) := by decide +kernel
theorem d_MO_bit_5 : decode b_MO_bit 5 = .ok (.iload_n 0, 1) := by decide +kernel
theorem d_MO_bit_6 : decode b_MO_bit 6 = .ok (.iconst 1, 1) := by decide +kernel
theorem d_MO_bit_7 : decode b_MO_bit 7 = .ok (.isub, 1) := by decide +kernel
theorem d_MO_bit_8 : decode b_MO_bit 8 = .ok (.ishl, 1) := by decide +kernel
theorem d_MO_bit_9 : decode b_MO_bit 9 = .ok (.goto 10, 3) := by decide +kernel
theorem d_MO_bit_12 : decode b_MO_bit 12 = .ok (.iconst 1, 1) := by decide +kernel
theorem d_MO_bit_13 : decode b_MO_bit 13 = .ok (.iload_n 0, 1) := by decide +kernel
theorem d_MO_bit_14 : decode b_MO_bit 14 = .ok (.ineg, 1) := by decide +kernel
theorem d_MO_bit_15 : decode b_MO_bit 15 = .ok (.bipush 7, 2) := by decide +kernel
theorem d_MO_bit_17 : decode b_MO_bit 17 = .ok (.iadd, 1) := by decide +kernel
theorem d_MO_bit_18 : decode b_MO_bit 18 = .ok (.ishl, 1) := by decide +kernel
theorem d_MO_bit_19 : decode b_MO_bit 19 = .ok (.ireturn, 1) := by decide +kernel
theorem d_MO_other_0 : decode b_MO_other 0 = .ok (.iload_n 0, 1) := by decide +kernel
theorem d_MO_other_1 : decode b_MO_other 1 = .ok (.bipush 8, 2) := by decide +kernel
theorem d_MO_other_3 : decode b_MO_other 3 = .ok (.ishr, 1) := by decide +kernel
theorem d_MO_other_4 : decode b_MO_other 4 = .ok (.sipush 255, 3) := by decide +kernel
theorem d_MO_other_7 : decode b_MO_other 7 = .ok (.iand, 1) := by decide +kernel
theorem d_MO_other_8 : decode b_MO_other 8 = .ok (.iload_n 0, 1) := by decide +kernel
theorem d_MO_other_9 : decode b_MO_other 9 = .ok (.sipush 255, 3) := by decide +kernel
theorem d_MO_other_12 : decode b_MO_other 12 = .ok (.iand, 1) := by decide +kernel
theorem d_MO_other_13 : decode b_MO_other 13 = .ok (.bipush 8, 2) := by decide +kernel
theorem d_MO_other_15 : decode b_MO_other 15 = .ok (.ishl, 1) := by decide +kernel
theorem d_MO_other_16 : decode b_MO_other 16 = .ok (.ior, 1) := by decide +kernel
theorem d_MO_other_17 : decode b_MO_other 17 = .ok (.ireturn, 1) := by decide +kernel
theorem d_MO_read_0 : decode b_MO_read 0 = .ok (.iload_n 1, 1) := by decide +kernel
theorem d_MO_read_1 : decode b_MO_read 1 = .ok (.sipush 5000, 3) := by decide +kernel
theorem d_MO_read_4 : decode b_MO_read 4 = .ok (.if_icmp .ne 5, 3) := by decide +kernel
theorem d_MO_read_7 : decode b_MO_read 7 = .ok (.iconst 1, 1) := by decide +kernel
theorem d_MO_read_8 : decode b_MO_read 8 = .ok (.ireturn, 1) := by decide +kernel
theorem d_MO_read_9 : decode b_MO_read 9 = .ok (.iload_n 1, 1) := by decide +kernel
theorem d_MO_read_10 : decode b_MO_read 10 = .ok (.sipush 1000, 3) := by decide +kernel
theorem d_MO_read_13 : decode b_MO_read 13 = .ok (.if_icmp .le 54, 3) := by decide +kernel
theorem d_MO_read_16 : decode b_MO_read 16 = .ok (.aload_n 0, 1) := by decide +kernel
theorem d_MO_read_17 : decode b_MO_read 17 = .ok (.getfield 57, 3) := by decide +kernel
theorem d_MO_read_20 : decode b_MO_read 20 = .ok (.ifCond .ne 17, 3) := by decide +kernel
theorem d_MO_read_23 : decode b_MO_read 23 = .ok (.iload_n 1, 1) := by decide +kernel
theorem d_MO_read_24 : decode b_MO_read 24 = .ok (.sipush 4097, 3) := by decide +kernel
theorem d_MO_read_27 : decode b_MO_read 27 = .ok (.if_icmp .eq 12, 3) := by decide +kernel
theorem d_MO_read_30 : decode b_MO_read 30 = .ok (.iload_n 1, 1) := by decide +kernel
theorem d_MO_read_31 : decode b_MO_read 31 = .ok (.sipush 4101, 3) := by decide +kernel
theorem d_MO_read_34 : decode b_MO_read 34 = .ok (.if_icmp .eq 5, 3) := by decide +kernel
theorem d_MO_read_37 : decode b_MO_read 37 = .ok (.iconst 1, 1) := by decide +kernel
theorem d_MO_read_38 : decode b_MO_read 38 = .ok (.ireturn, 1) := by decide +kernel
theorem d_MO_read_39 : decode b_MO_read 39 = .ok (.aload_n 0, 1) := by decide +kernel
theorem d_MO_read_40 : decode b_MO_read 40 = .ok (.iload_n 1, 1) := by decide +kernel
theorem d_MO_read_41 : decode b_MO_read 41 = .ok (.sipush 4097, 3) := by decide +kernel
theorem d_MO_read_44 : decode b_MO_read 44 = .ok (.if_icmp .ne 7, 3) := by decide +kernel
theorem d_MO_read_47 : decode b_MO_read 47 = .ok (.iconst 1, 1) := by decide +kernel
theorem d_MO_read_48 : decode b_MO_read 48 = .ok (.goto 4, 3) := by decide +kernel
theorem d_MO_read_51 : decode b_MO_read 51 = .ok (.iconst 0, 1) := by decide +kernel
theorem d_MO_read_52 : decode b_MO_read 52 = .ok (.putfield 60, 3) := by decide +kernel
theorem d_MO_read_55 : decode b_MO_read 55 = .ok (.aload_n 0, 1) := by decide +kernel
theorem d_MO_read_56 : decode b_MO_read 56 = .ok (.iconst 0, 1) := by decide +kernel
theorem d_MO_read_57 : decode b_MO_read 57 = .ok (.putfield 64, 3) := by decide +kernel
theorem d_MO_read_60 : decode b_MO_read 60 = .ok (.aload_n 0, 1) := by decide +kernel
theorem d_MO_read_61 : decode b_MO_read 61 = .ok (.iconst 1, 1) := by decide +kernel
theorem d_MO_read_62 : decode b_MO_read 62 = .ok (.putfield 57, 3) := by decide +kernel
theorem d_MO_read_65 : decode b_MO_read 65 = .ok (.iconst 0, 1) := by decide +kernel
theorem d_MO_read_66 : decode b_MO_read 66 = .ok (.ireturn, 1) := by decide +kernel
theorem d_MO_read_67 : decode b_MO_read 67 = .ok (.aload_n 0, 1) := by decide +kernel
theorem d_MO_read_68 : decode b_MO_read 68 = .ok (.getfield 57, 3) := by decide +kernel
theorem d_MO_read_71 : decode b_MO_read 71 = .ok (.iconst 1, 1) := by decide +kernel
theorem d_MO_read_72 : decode b_MO_read 72 = .ok (.if_icmp .ne 9, 3) := by decide +kernel
theorem d_MO_read_75 : decode b_MO_read 75 = .ok (.aload_n 0, 1) := by decide +kernel
theorem d_MO_read_76 : decode b_MO_read 76 = .ok (.iload_n 1, 1) := by decide +kernel
theorem d_MO_read_77 : decode b_MO_read 77 = .ok (.invokevirtual 67, 3) := by decide +kernel
theorem d_MO_read_80 : decode b_MO_read 80 = .ok (.ireturn, 1) := by decide +kernel
theorem d_MO_read_81 : decode b_MO_read 81 = .ok (.aload_n 0, 1) := by decide +kernel
theorem d_MO_read_82 : decode b_MO_read 82 = .ok (.getfield 57, 3) := by decide +kernel
theorem d_MO_read_85 : decode b_MO_read 85 = .ok (.ifCond .ne 18, 3) := by decide +kernel
theorem d_MO_read_88 : decode b_MO_read 88 = .ok (.aload_n 0, 1) := by decide +kernel
theorem d_MO_read_89 : decode b_MO_read 89 = .ok (.iconst 2, 1) := by decide +kernel
theorem d_MO_read_90 : decode b_MO_read 90 = .ok (.putfield 57, 3) := by decide +kernel
theorem d_MO_read_93 : decode b_MO_read 93 = .ok (.aload_n 0, 1) := by decide +kernel
theorem d_MO_read_94 : decode b_MO_read 94 = .ok (.iconst 0, 1) := by decide +kernel
theorem d_MO_read_95 : decode b_MO_read 95 = .ok (.putfield 71, 3) := by decide +kernel
theorem d_MO_read_98 : decode b_MO_read 98 = .ok (.aload_n 0, 1) := by decide +kernel
theorem d_MO_read_99 : decode b_MO_read 99 = .ok (.iconst 0, 1) := by decide +kernel
theorem d_MO_read_100 : decode b_MO_read 100 = .ok (.putfield 64, 3) := by decide +kernel
theorem d_MO_read_103 : decode b_MO_read 103 = .ok (.iload_n 1, 1) := by decide +kernel
theorem d_MO_read_104 : decode b_MO_read 104 = .ok (.ifCond .ne 49, 3) := by decide +kernel
theorem d_MO_read_107 : decode b_MO_read 107 = .ok (.aload_n 0, 1) := by decide +kernel
theorem d_MO_read_108 : decode b_MO_read 108 = .ok (.getfield 74, 3) := by decide +kernel
theorem d_MO_read_111 : decode b_MO_read 111 = .ok (.bipush 12, 2) := by decide +kernel
theorem d_MO_read_113 : decode b_MO_read 113 = .ok (.if_icmp .ne 5, 3) := by decide +kernel
theorem d_MO_read_116 : decode b_MO_read 116 = .ok (.iconst 4, 1) := by decide +kernel
theorem d_MO_read_117 : decode b_MO_read 117 = .ok (.ireturn, 1) := by decide +kernel
theorem d_MO_read_118 : decode b_MO_read 118 = .ok (.aload_n 0, 1) := by decide +kernel
theorem d_MO_read_119 : decode b_MO_read 119 = .ok (.getfield 35, 3) := by decide +kernel
theorem d_MO_read_122 : decode b_MO_read 122 = .ok (.aload_n 0, 1) := by decide +kernel
theorem d_MO_read_123 : decode b_MO_read 123 = .ok (.getfield 74, 3) := by decide +kernel
theorem d_MO_read_126 : decode b_MO_read 126 = .ok (.aload_n 0, 1) := by decide +kernel
theorem d_MO_read_127 : decode b_MO_read 127 = .ok (.getfield 71, 3) := by decide +kernel
theorem d_MO_read_130 : decode b_MO_read 130 = .ok (.iastore, 1) := by decide +kernel
theorem d_MO_read_131 : decode b_MO_read 131 = .ok (.aload_n 0, 1) := by decide +kernel
theorem d_MO_read_132 : decode b_MO_read 132 = .ok (.dup, 1) := by decide +kernel
theorem d_MO_read_133 : decode b_MO_read 133 = .ok (.getfield 74, 3) := by decide +kernel
theorem d_MO_read_136 : decode b_MO_read 136 = .ok (.iconst 1, 1) := by decide +kernel
theorem d_MO_read_137 : decode b_MO_read 137 = .ok (.iadd, 1) := by decide +kernel
theorem d_MO_read_138 : decode b_MO_read 138 = .ok (.putfield 74, 3) := by decide +kernel
theorem d_MO_read_141 : decode b_MO_read 141 = .ok (.aload_n 0, 1) := by decide +kernel
theorem d_MO_read_142 : decode b_MO_read 142 = .ok (.iconst 0, 1) := by decide +kernel
theorem d_MO_read_143 : decode b_MO_read 143 = .ok (.putfield 71, 3) := by decide +kernel
theorem d_MO_read_146 : decode b_MO_read 146 = .ok (.aload_n 0, 1) := by decide +kernel
theorem d_MO_read_147 : decode b_MO_read 147 = .ok (.iconst 0, 1) := by decide +kernel
theorem d_MO_read_148 : decode b_MO_read 148 = .ok (.putfield 64, 3) := by decide +kernel
theorem d_MO_read_151 : decode b_MO_read 151 = .ok (.iconst 0, 1) := by decide +kernel
theorem d_MO_read_152 : decode b_MO_read 152 = .ok (.ireturn, 1) := by decide +kernel
theorem d_MO_read_153 : decode b_MO_read 153 = .ok (.iload_n 1, 1) := by decide +kernel
theorem d_MO_read_154 : decode b_MO_read 154 = .ok (.bipush (-8), 2) := by decide +kernel
theorem d_MO_read_156 : decode b_MO_read 156 = .ok (.if_icmp .lt 27, 3) := by decide +kernel
theorem d_MO_read_159 : decode b_MO_read 159 = .ok (.iload_n 1, 1) := by decide +kernel
theorem d_MO_read_160 : decode b_MO_read 160 = .ok (.bipush 8, 2) := by decide +kernel
theorem d_MO_read_162 : decode b_MO_read 162 = .ok (.if_icmp .gt 21, 3) := by decide +kernel
theorem d_MO_read_165 : decode b_MO_read 165 = .ok (.aload_n 0, 1) := by decide +kernel
theorem d_MO_read_166 : decode b_MO_read 166 = .ok (.getfield 32, 3) := by decide +kernel
theorem d_MO_read_169 : decode b_MO_read 169 = .ok (.iload_n 1, 1) := by decide +kernel
theorem d_MO_read_170 : decode b_MO_read 170 = .ok (.ifCond .ge 8, 3) := by decide +kernel
theorem d_MO_read_173 : decode b_MO_read 173 = .ok (.iload_n 1, 1) := by decide +kernel
theorem d_MO_read_174 : decode b_MO_read 174 = .ok (.ineg, 1) := by decide +kernel
theorem d_MO_read_175 : decode b_MO_read 175 = .ok (.goto 4, 3) := by decide +kernel
theorem d_MO_read_178 : decode b_MO_read 178 = .ok (.iload_n 1, 1) := by decide +kernel
theorem d_MO_read_179 : decode b_MO_read 179 = .ok (.iaload, 1) := by decide +kernel
theorem d_MO_read_180 : decode b_MO_read 180 = .ok (.ifCond .ge 5, 3) := by decide +kernel
theorem d_MO_read_183 : decode b_MO_read 183 = .ok (.iconst 2, 1) := by decide +kernel
theorem d_MO_read_184 : decode b_MO_read 184 = .ok (.ireturn, 1) := by decide +kernel
theorem d_MO_read_185 : decode b_MO_read 185 = .ok (.aload_n 0, 1) := by decide +kernel
theorem d_MO_read_186 : decode b_MO_read 186 = .ok (.getfield 71, 3) := by decide +kernel
theorem d_MO_read_189 : decode b_MO_read 189 = .ok (.aload_n 0, 1) := by decide +kernel
theorem d_MO_read_190 : decode b_MO_read 190 = .ok (.getfield 71, 3) := by decide +kernel
theorem d_MO_read_193 : decode b_MO_read 193 = .ok (.invokestatic 77, 3) := by decide +kernel
theorem d_MO_read_196 : decode b_MO_read 196 = .ok (.ior, 1) := by decide +kernel
theorem d_MO_read_197 : decode b_MO_read 197 = .ok (.iload_n 1, 1) := by decide +kernel
theorem d_MO_read_198 : decode b_MO_read 198 = .ok (.invokestatic 80, 3) := by decide +kernel
theorem d_MO_read_201 : decode b_MO_read 201 = .ok (.iand, 1) := by decide +kernel
theorem d_MO_read_202 : decode b_MO_read 202 = .ok (.ifCond .eq 5, 3) := by decide +kernel
theorem d_MO_read_205 : decode b_MO_read 205 = .ok (.iconst 3, 1) := by decide +kernel
theorem d_MO_read_206 : decode b_MO_read 206 = .ok (.ireturn, 1) := by decide +kernel
theorem d_MO_read_207 : decode b_MO_read 207 = .ok (.aload_n 0, 1) := by decide +kernel
theorem d_MO_read_208 : decode b_MO_read 208 = .ok (.aload_n 0, 1) := by decide +kernel
theorem d_MO_read_209 : decode b_MO_read 209 = .ok (.getfield 71, 3) := by decide +kernel
theorem d_MO_read_212 : decode b_MO_read 212 = .ok (.iload_n 1, 1) := by decide +kernel
theorem d_MO_read_213 : decode b_MO_read 213 = .ok (.invokestatic 80, 3) := by decide +kernel
theorem d_MO_read_216 : decode b_MO_read 216 = .ok (.ior, 1) := by decide +kernel
theorem d_MO_read_217 : decode b_MO_read 217 = .ok (.putfield 71, 3) := by decide +kernel
theorem d_MO_read_220 : decode b_MO_read 220 = .ok (.aload_n 0, 1) := by decide +kernel
theorem d_MO_read_221 : decode b_MO_read 221 = .ok (.dup, 1) := by decide +kernel
theorem d_MO_read_222 : decode b_MO_read 222 = .ok (.getfield 64, 3) := by decide +kernel
theorem d_MO_read_225 : decode b_MO_read 225 = .ok (.iconst 1, 1) := by decide +kernel
theorem d_MO_read_226 : decode b_MO_read 226 = .ok (.iadd, 1) := by decide +kernel
theorem d_MO_read_227 : decode b_MO_read 227 = .ok (.putfield 64, 3) := by decide +kernel
theorem d_MO_read_230 : decode b_MO_read 230 = .ok (.iconst 0, 1) := by decide +kernel
theorem d_MO_read_231 : decode b_MO_read 231 = .ok (.ireturn, 1) := by decide +kernel
theorem d_MO_readInBlock_0 : decode b_MO_readInBlock 0 = .ok (.iload_n 1, 1) := by decide +kernel
theorem d_MO_readInBlock_1 : decode b_MO_readInBlock 1 = .ok (.ifCond .lt 14, 3) := by decide +kernel
theorem d_MO_readInBlock_4 : decode b_MO_readInBlock 4 = .ok (.iload_n 1, 1) := by decide +kernel
theorem d_MO_readInBlock_5 : decode b_MO_readInBlock 5 = .ok (.ifCond .ne 12, 3) := by decide +kernel
theorem d_MO_readInBlock_8 : decode b_MO_readInBlock 8 = .ok (.aload_n 0, 1) := by decide +kernel
theorem d_MO_readInBlock_9 : decode b_MO_readInBlock 9 = .ok (.getfield 64, 3) := by decide +kernel
theorem d_MO_readInBlock_12 : decode b_MO_readInBlock 12 = .ok (.ifCond .ne 5, 3) := by decide +kernel
theorem d_MO_readInBlock_15 : decode b_MO_readInBlock 15 = .ok (.iconst 1, 1) := by decide +kernel
theorem d_MO_readInBlock_16 : decode b_MO_readInBlock 16 = .ok (.ireturn, 1) := by decide +kernel
theorem d_MO_readInBlock_17 : decode b_MO_readInBlock 17 = .ok (.iload_n 1, 1) := by decide +kernel
theorem d_MO_readInBlock_18 : decode b_MO_readInBlock 18 = .ok (.ifCond .ne 10, 3) := by decide +kernel
theorem d_MO_readInBlock_21 : decode b_MO_readInBlock 21 = .ok (.aload_n 0, 1) := by decide +kernel
theorem d_MO_readInBlock_22 : decode b_MO_readInBlock 22 = .ok (.iconst 0, 1) := by decide +kernel
theorem d_MO_readInBlock_23 : decode b_MO_readInBlock 23 = .ok (.putfield 57, 3) := by decide +kernel
theorem d_MO_readInBlock_26 : decode b_MO_readInBlock 26 = .ok (.iconst 0, 1) := by decide +kernel
theorem d_MO_readInBlock_27 : decode b_MO_readInBlock 27 = .ok (.ireturn, 1) := by decide +kernel
theorem d_MO_readInBlock_28 : decode b_MO_readInBlock 28 = .ok (.iload_n 1, 1) := by decide +kernel
theorem d_MO_readInBlock_29 : decode b_MO_readInBlock 29 = .ok (.bipush 8, 2) := by decide +kernel
theorem d_MO_readInBlock_31 : decode b_MO_readInBlock 31 = .ok (.if_icmp .gt 12, 3) := by decide +kernel
theorem d_MO_readInBlock_34 : decode b_MO_readInBlock 34 = .ok (.aload_n 0, 1) := by decide +kernel
theorem d_MO_readInBlock_35 : decode b_MO_readInBlock 35 = .ok (.getfield 32, 3) := by decide +kernel
theorem d_MO_readInBlock_38 : decode b_MO_readInBlock 38 = .ok (.iload_n 1, 1) := by decide +kernel
theorem d_MO_readInBlock_39 : decode b_MO_readInBlock 39 = .ok (.iaload, 1) := by decide +kernel
theorem d_MO_readInBlock_40 : decode b_MO_readInBlock 40 = .ok (.ifCond .lt 5, 3) := by decide +kernel
theorem d_MO_readInBlock_43 : decode b_MO_readInBlock 43 = .ok (.iconst 2, 1) := by decide +kernel
theorem d_MO_readInBlock_44 : decode b_MO_readInBlock 44 = .ok (.ireturn, 1) := by decide +kernel
theorem d_MO_readInBlock_45 : decode b_MO_readInBlock 45 = .ok (.aload_n 0, 1) := by decide +kernel
theorem d_MO_readInBlock_46 : decode b_MO_readInBlock 46 = .ok (.getfield 32, 3) := by decide +kernel
theorem d_MO_readInBlock_49 : decode b_MO_readInBlock 49 = .ok (.iload_n 1, 1) := by decide +kernel
theorem d_MO_readInBlock_50 : decode b_MO_readInBlock 50 = .ok (.aload_n 0, 1) := by decide +kernel
theorem d_MO_readInBlock_51 : decode b_MO_readInBlock 51 = .ok (.getfield 83, 3) := by decide +kernel
theorem d_MO_readInBlock_54 : decode b_MO_readInBlock 54 = .ok (.iastore, 1) := by decide +kernel
theorem d_MO_readInBlock_55 : decode b_MO_readInBlock 55 = .ok (.aload_n 0, 1) := by decide +kernel
theorem d_MO_readInBlock_56 : decode b_MO_readInBlock 56 = .ok (.getfield 26, 3) := by decide +kernel
theorem d_MO_readInBlock_59 : decode b_MO_readInBlock 59 = .ok (.aload_n 0, 1) := by decide +kernel
theorem d_MO_readInBlock_60 : decode b_MO_readInBlock 60 = .ok (.getfield 83, 3) := by decide +kernel
theorem d_MO_readInBlock_63 : decode b_MO_readInBlock 63 = .ok (.iload_n 1, 1) := by decide +kernel
theorem d_MO_readInBlock_64 : decode b_MO_readInBlock 64 = .ok (.iastore, 1) := by decide +kernel
theorem d_MO_readInBlock_65 : decode b_MO_readInBlock 65 = .ok (.aload_n 0, 1) := by decide +kernel
theorem d_MO_readInBlock_66 : decode b_MO_readInBlock 66 = .ok (.getfield 29, 3) := by decide +kernel
theorem d_MO_readInBlock_69 : decode b_MO_readInBlock 69 = .ok (.aload_n 0, 1) := by decide +kernel
theorem d_MO_readInBlock_70 : decode b_MO_readInBlock 70 = .ok (.getfield 83, 3) := by decide +kernel
theorem d_MO_readInBlock_73 : decode b_MO_readInBlock 73 = .ok (.aload_n 0, 1) := by decide +kernel
theorem d_MO_readInBlock_74 : decode b_MO_readInBlock 74 = .ok (.getfield 60, 3) := by decide +kernel
theorem d_MO_readInBlock_77 : decode b_MO_readInBlock 77 = .ok (.bastore, 1) := by decide +kernel
theorem d_MO_readInBlock_78 : decode b_MO_readInBlock 78 = .ok (.aload_n 0, 1) := by decide +kernel
theorem d_MO_readInBlock_79 : decode b_MO_readInBlock 79 = .ok (.dup, 1) := by decide +kernel
theorem d_MO_readInBlock_80 : decode b_MO_readInBlock 80 = .ok (.getfield 83, 3) := by decide +kernel
theorem d_MO_readInBlock_83 : decode b_MO_readInBlock 83 = .ok (.iconst 1, 1) := by decide +kernel
theorem d_MO_readInBlock_84 : decode b_MO_readInBlock 84 = .ok (.iadd, 1) := by decide +kernel
theorem d_MO_readInBlock_85 : decode b_MO_readInBlock 85 = .ok (.putfield 83, 3) := by decide +kernel
theorem d_MO_readInBlock_88 : decode b_MO_readInBlock 88 = .ok (.aload_n 0, 1) := by decide +kernel
theorem d_MO_readInBlock_89 : decode b_MO_readInBlock 89 = .ok (.dup, 1) := by decide +kernel
theorem d_MO_readInBlock_90 : decode b_MO_readInBlock 90 = .ok (.getfield 64, 3) := by decide +kernel
theorem d_MO_readInBlock_93 : decode b_MO_readInBlock 93 = .ok (.iconst 1, 1) := by decide +kernel
theorem d_MO_readInBlock_94 : decode b_MO_readInBlock 94 = .ok (.iadd, 1) := by decide +kernel
theorem d_MO_readInBlock_95 : decode b_MO_readInBlock 95 = .ok (.putfield 64, 3) := by decide +kernel
theorem d_MO_readInBlock_98 : decode b_MO_readInBlock 98 = .ok (.iconst 0, 1) := by decide +kernel
theorem d_MO_readInBlock_99 : decode b_MO_readInBlock 99 = .ok (.ireturn, 1) := by decide +kernel
theorem d_MO_formula_0 : decode b_MO_formula 0 = .ok (.aload_n 0, 1) := by decide +kernel
theorem d_MO_formula_1 : decode b_MO_formula 1 = .ok (.iconst 0, 1) := by decide +kernel
theorem d_MO_formula_2 : decode b_MO_formula 2 = .ok (.putfield 83, 3) := by decide +kernel
theorem d_MO_formula_5 : decode b_MO_formula 5 = .ok (.aload_n 0, 1) := by decide +kernel
theorem d_MO_formula_6 : decode b_MO_formula 6 = .ok (.iconst 0, 1) := by decide +kernel
theorem d_MO_formula_7 : decode b_MO_formula 7 = .ok (.putfield 74, 3) := by decide +kernel
theorem d_MO_formula_10 : decode b_MO_formula 10 = .ok (.iconst 0, 1) := by decide +kernel
theorem d_MO_formula_11 : decode b_MO_formula 11 = .ok (.istore_n 1, 1) := by decide +kernel
theorem d_MO_formula_12 : decode b_MO_formula 12 = .ok (.iload_n 1, 1) := by decide +kernel
theorem d_MO_formula_13 : decode b_MO_formula 13 = .ok (.bipush 9, 2) := by decide +kernel
theorem d_MO_formula_15 : decode b_MO_formula 15 = .ok (.if_icmp .ge 16, 3) := by decide +kernel
theorem d_MO_formula_18 : decode b_MO_formula 18 = .ok (.aload_n 0, 1) := by decide +kernel
theorem d_MO_formula_19 : decode b_MO_formula 19 = .ok (.getfield 32, 3) := by decide +kernel
theorem d_MO_formula_22 : decode b_MO_formula 22 = .ok (.iload_n 1, 1) := by decide +kernel
theorem d_MO_formula_23 : decode b_MO_formula 23 = .ok (.iconst (-1), 1) := by decide +kernel
theorem d_MO_formula_24 : decode b_MO_formula 24 = .ok (.iastore, 1) := by decide +kernel
theorem d_MO_formula_25 : decode b_MO_formula 25 = .ok (.iinc 1 1, 3) := by decide +kernel
theorem d_MO_formula_28 : decode b_MO_formula 28 = .ok (.goto (-16), 3) := by decide +kernel
theorem d_MO_formula_31 : decode b_MO_formula 31 = .ok (.aload_n 0, 1) := by decide +kernel
theorem d_MO_formula_32 : decode b_MO_formula 32 = .ok (.iconst 0, 1) := by decide +kernel
theorem d_MO_formula_33 : decode b_MO_formula 33 = .ok (.putfield 57, 3) := by decide +kernel
theorem d_MO_formula_36 : decode b_MO_formula 36 = .ok (.aload_n 0, 1) := by decide +kernel
theorem d_MO_formula_37 : decode b_MO_formula 37 = .ok (.iconst 0, 1) := by decide +kernel
theorem d_MO_formula_38 : decode b_MO_formula 38 = .ok (.putfield 64, 3) := by decide +kernel
theorem d_MO_formula_41 : decode b_MO_formula 41 = .ok (.aload_n 0, 1) := by decide +kernel
theorem d_MO_formula_42 : decode b_MO_formula 42 = .ok (.iconst 0, 1) := by decide +kernel
theorem d_MO_formula_43 : decode b_MO_formula 43 = .ok (.invokevirtual 86, 3) := by decide +kernel
theorem d_MO_formula_46 : decode b_MO_formula 46 = .ok (.istore_n 1, 1) := by decide +kernel
theorem d_MO_formula_47 : decode b_MO_formula 47 = .ok (.iconst 0, 1) := by decide +kernel
theorem d_MO_formula_48 : decode b_MO_formula 48 = .ok (.istore_n 2, 1) := by decide +kernel
theorem d_MO_formula_49 : decode b_MO_formula 49 = .ok (.iload_n 1, 1) := by decide +kernel
theorem d_MO_formula_50 : decode b_MO_formula 50 = .ok (.aload_n 0, 1) := by decide +kernel
theorem d_MO_formula_51 : decode b_MO_formula 51 = .ok (.getfield 53, 3) := by decide +kernel
theorem d_MO_formula_54 : decode b_MO_formula 54 = .ok (.if_icmp .ge 41, 3) := by decide +kernel
theorem d_MO_formula_57 : decode b_MO_formula 57 = .ok (.iload_n 2, 1) := by decide +kernel
theorem d_MO_formula_58 : decode b_MO_formula 58 = .ok (.ifCond .ne 37, 3) := by decide +kernel
theorem d_MO_formula_61 : decode b_MO_formula 61 = .ok (.aload_n 0, 1) := by decide +kernel
theorem d_MO_formula_62 : decode b_MO_formula 62 = .ok (.iload_n 1, 1) := by decide +kernel
theorem d_MO_formula_63 : decode b_MO_formula 63 = .ok (.invokevirtual 89, 3) := by decide +kernel
theorem d_MO_formula_66 : decode b_MO_formula 66 = .ok (.istore_n 3, 1) := by decide +kernel
theorem d_MO_formula_67 : decode b_MO_formula 67 = .ok (.aload_n 0, 1) := by decide +kernel
theorem d_MO_formula_68 : decode b_MO_formula 68 = .ok (.aload_n 0, 1) := by decide +kernel
theorem d_MO_formula_69 : decode b_MO_formula 69 = .ok (.iload_n 1, 1) := by decide +kernel
theorem d_MO_formula_70 : decode b_MO_formula 70 = .ok (.iload_n 3, 1) := by decide +kernel
theorem d_MO_formula_71 : decode b_MO_formula 71 = .ok (.invokevirtual 92, 3) := by decide +kernel
theorem d_MO_formula_74 : decode b_MO_formula 74 = .ok (.invokevirtual 96, 3) := by decide +kernel
theorem d_MO_formula_77 : decode b_MO_formula 77 = .ok (.istore_n 2, 1) := by decide +kernel
theorem d_MO_formula_78 : decode b_MO_formula 78 = .ok (.iload_n 2, 1) := by decide +kernel
theorem d_MO_formula_79 : decode b_MO_formula 79 = .ok (.ifCond .ne 11, 3) := by decide +kernel
theorem d_MO_formula_82 : decode b_MO_formula 82 = .ok (.aload_n 0, 1) := by decide +kernel
theorem d_MO_formula_83 : decode b_MO_formula 83 = .ok (.iload_n 3, 1) := by decide +kernel
theorem d_MO_formula_84 : decode b_MO_formula 84 = .ok (.invokevirtual 86, 3) := by decide +kernel
theorem d_MO_formula_87 : decode b_MO_formula 87 = .ok (.goto 4, 3) := by decide +kernel
theorem d_MO_formula_90 : decode b_MO_formula 90 = .ok (.iload_n 1, 1) := by decide +kernel
theorem d_MO_formula_91 : decode b_MO_formula 91 = .ok (.istore_n 1, 1) := by decide +kernel
theorem d_MO_formula_92 : decode b_MO_formula 92 = .ok (.goto (-43), 3) := by decide +kernel
theorem d_MO_formula_95 : decode b_MO_formula 95 = .ok (.aload_n 0, 1) := by decide +kernel
theorem d_MO_formula_96 : decode b_MO_formula 96 = .ok (.getfield 53, 3) := by decide +kernel
theorem d_MO_formula_99 : decode b_MO_formula 99 = .ok (.istore_n 3, 1) := by decide +kernel
theorem d_MO_formula_100 : decode b_MO_formula 100 = .ok (.aload_n 0, 1) := by decide +kernel
theorem d_MO_formula_101 : decode b_MO_formula 101 = .ok (.iconst 0, 1) := by decide +kernel
theorem d_MO_formula_102 : decode b_MO_formula 102 = .ok (.putfield 53, 3) := by decide +kernel
theorem d_MO_formula_105 : decode b_MO_formula 105 = .ok (.iload_n 2, 1) := by decide +kernel
theorem d_MO_formula_106 : decode b_MO_formula 106 = .ok (.ifCond .le 11, 3) := by decide +kernel
theorem d_MO_formula_109 : decode b_MO_formula 109 = .ok (.sipush (-1000), 3) := by decide +kernel
theorem d_MO_formula_112 : decode b_MO_formula 112 = .ok (.iload_n 2, 1) := by decide +kernel
theorem d_MO_formula_113 : decode b_MO_formula 113 = .ok (.imul, 1) := by decide +kernel
theorem d_MO_formula_114 : decode b_MO_formula 114 = .ok (.iload_n 1, 1) := by decide +kernel
theorem d_MO_formula_115 : decode b_MO_formula 115 = .ok (.isub, 1) := by decide +kernel
theorem d_MO_formula_116 : decode b_MO_formula 116 = .ok (.ireturn, 1) := by decide +kernel
theorem d_MO_formula_117 : decode b_MO_formula 117 = .ok (.aload_n 0, 1) := by decide +kernel
theorem d_MO_formula_118 : decode b_MO_formula 118 = .ok (.getfield 57, 3) := by decide +kernel
theorem d_MO_formula_121 : decode b_MO_formula 121 = .ok (.iconst 1, 1) := by decide +kernel
theorem d_MO_formula_122 : decode b_MO_formula 122 = .ok (.if_icmp .eq 18, 3) := by decide +kernel
theorem d_MO_formula_125 : decode b_MO_formula 125 = .ok (.aload_n 0, 1) := by decide +kernel
theorem d_MO_formula_126 : decode b_MO_formula 126 = .ok (.getfield 57, 3) := by decide +kernel
theorem d_MO_formula_129 : decode b_MO_formula 129 = .ok (.iconst 2, 1) := by decide +kernel
theorem d_MO_formula_130 : decode b_MO_formula 130 = .ok (.if_icmp .ne 16, 3) := by decide +kernel
theorem d_MO_formula_133 : decode b_MO_formula 133 = .ok (.aload_n 0, 1) := by decide +kernel
theorem d_MO_formula_134 : decode b_MO_formula 134 = .ok (.getfield 64, 3) := by decide +kernel
theorem d_MO_formula_137 : decode b_MO_formula 137 = .ok (.ifCond .le 9, 3) := by decide +kernel
theorem d_MO_formula_140 : decode b_MO_formula 140 = .ok (.sipush (-1000), 3) := by decide +kernel
theorem d_MO_formula_143 : decode b_MO_formula 143 = .ok (.iload_n 3, 1) := by decide +kernel
theorem d_MO_formula_144 : decode b_MO_formula 144 = .ok (.isub, 1) := by decide +kernel
theorem d_MO_formula_145 : decode b_MO_formula 145 = .ok (.ireturn, 1) := by decide +kernel
theorem d_MO_formula_146 : decode b_MO_formula 146 = .ok (.aload_n 0, 1) := by decide +kernel
theorem d_MO_formula_147 : decode b_MO_formula 147 = .ok (.aload_n 0, 1) := by decide +kernel
theorem d_MO_formula_148 : decode b_MO_formula 148 = .ok (.getfield 83, 3) := by decide +kernel
theorem d_MO_formula_151 : decode b_MO_formula 151 = .ok (.putfield 99, 3) := by decide +kernel
theorem d_MO_formula_154 : decode b_MO_formula 154 = .ok (.aload_n 0, 1) := by decide +kernel
theorem d_MO_formula_155 : decode b_MO_formula 155 = .ok (.aload_n 0, 1) := by decide +kernel
theorem d_MO_formula_156 : decode b_MO_formula 156 = .ok (.getfield 74, 3) := by decide +kernel
theorem d_MO_formula_159 : decode b_MO_formula 159 = .ok (.putfield 102, 3) := by decide +kernel
theorem d_MO_formula_162 : decode b_MO_formula 162 = .ok (.aload_n 0, 1) := by decide +kernel
theorem d_MO_formula_163 : decode b_MO_formula 163 = .ok (.iconst 0, 1) := by decide +kernel
theorem d_MO_formula_164 : decode b_MO_formula 164 = .ok (.putfield 105, 3) := by decide +kernel
theorem d_MO_formula_167 : decode b_MO_formula 167 = .ok (.iconst 0, 1) := by decide +kernel
theorem d_MO_formula_168 : decode b_MO_formula 168 = .ok (.istore 4, 2) := by decide +kernel
theorem d_MO_formula_170 : decode b_MO_formula 170 = .ok (.iload 4, 2) := by decide +kernel
theorem d_MO_formula_172 : decode b_MO_formula 172 = .ok (.bipush 9, 2) := by decide +kernel
theorem d_MO_formula_174 : decode b_MO_formula 174 = .ok (.if_icmp .ge 23, 3) := by decide +kernel
theorem d_MO_formula_177 : decode b_MO_formula 177 = .ok (.aload_n 0, 1) := by decide +kernel
theorem d_MO_formula_178 : decode b_MO_formula 178 = .ok (.getfield 20, 3) := by decide +kernel
theorem d_MO_formula_181 : decode b_MO_formula 181 = .ok (.iload 4, 2) := by decide +kernel
theorem d_MO_formula_183 : decode b_MO_formula 183 = .ok (.aload_n 0, 1) := by decide +kernel
theorem d_MO_formula_184 : decode b_MO_formula 184 = .ok (.getfield 32, 3) := by decide +kernel
theorem d_MO_formula_187 : decode b_MO_formula 187 = .ok (.iload 4, 2) := by decide +kernel
theorem d_MO_formula_189 : decode b_MO_formula 189 = .ok (.iaload, 1) := by decide +kernel
theorem d_MO_formula_190 : decode b_MO_formula 190 = .ok (.iastore, 1) := by decide +kernel
theorem d_MO_formula_191 : decode b_MO_formula 191 = .ok (.iinc 4 1, 3) := by decide +kernel
theorem d_MO_formula_194 : decode b_MO_formula 194 = .ok (.goto (-24), 3) := by decide +kernel
theorem d_MO_formula_197 : decode b_MO_formula 197 = .ok (.iconst 0, 1) := by decide +kernel
theorem d_MO_formula_198 : decode b_MO_formula 198 = .ok (.istore 4, 2) := by decide +kernel
theorem d_MO_formula_200 : decode b_MO_formula 200 = .ok (.iload 4, 2) := by decide +kernel
theorem d_MO_formula_202 : decode b_MO_formula 202 = .ok (.bipush 8, 2) := by decide +kernel
theorem d_MO_formula_204 : decode b_MO_formula 204 = .ok (.if_icmp .ge 37, 3) := by decide +kernel
theorem d_MO_formula_207 : decode b_MO_formula 207 = .ok (.aload_n 0, 1) := by decide +kernel
theorem d_MO_formula_208 : decode b_MO_formula 208 = .ok (.getfield 13, 3) := by decide +kernel
theorem d_MO_formula_211 : decode b_MO_formula 211 = .ok (.iload 4, 2) := by decide +kernel
theorem d_MO_formula_213 : decode b_MO_formula 213 = .ok (.aload_n 0, 1) := by decide +kernel
theorem d_MO_formula_214 : decode b_MO_formula 214 = .ok (.getfield 26, 3) := by decide +kernel
theorem d_MO_formula_217 : decode b_MO_formula 217 = .ok (.iload 4, 2) := by decide +kernel
theorem d_MO_formula_219 : decode b_MO_formula 219 = .ok (.iaload, 1) := by decide +kernel
theorem d_MO_formula_220 : decode b_MO_formula 220 = .ok (.iastore, 1) := by decide +kernel
theorem d_MO_formula_221 : decode b_MO_formula 221 = .ok (.aload_n 0, 1) := by decide +kernel
theorem d_MO_formula_222 : decode b_MO_formula 222 = .ok (.getfield 16, 3) := by decide +kernel
theorem d_MO_formula_225 : decode b_MO_formula 225 = .ok (.iload 4, 2) := by decide +kernel
theorem d_MO_formula_227 : decode b_MO_formula 227 = .ok (.aload_n 0, 1) := by decide +kernel
theorem d_MO_formula_228 : decode b_MO_formula 228 = .ok (.getfield 29, 3) := by decide +kernel
theorem d_MO_formula_231 : decode b_MO_formula 231 = .ok (.iload 4, 2) := by decide +kernel
theorem d_MO_formula_233 : decode b_MO_formula 233 = .ok (.baload, 1) := by decide +kernel
theorem d_MO_formula_234 : decode b_MO_formula 234 = .ok (.bastore, 1) := by decide +kernel
theorem d_MO_formula_235 : decode b_MO_formula 235 = .ok (.iinc 4 1, 3) := by decide +kernel
theorem d_MO_formula_238 : decode b_MO_formula 238 = .ok (.goto (-38), 3) := by decide +kernel
theorem d_MO_formula_241 : decode b_MO_formula 241 = .ok (.iconst 0, 1) := by decide +kernel
theorem d_MO_formula_242 : decode b_MO_formula 242 = .ok (.istore 4, 2) := by decide +kernel
theorem d_MO_formula_244 : decode b_MO_formula 244 = .ok (.iload 4, 2) := by decide +kernel
theorem d_MO_formula_246 : decode b_MO_formula 246 = .ok (.bipush 12, 2) := by decide +kernel
theorem d_MO_formula_248 : decode b_MO_formula 248 = .ok (.if_icmp .ge 23, 3) := by decide +kernel
theorem d_MO_formula_251 : decode b_MO_formula 251 = .ok (.aload_n 0, 1) := by decide +kernel
theorem d_MO_formula_252 : decode b_MO_formula 252 = .ok (.getfield 23, 3) := by decide +kernel
theorem d_MO_formula_255 : decode b_MO_formula 255 = .ok (.iload 4, 2) := by decide +kernel
theorem d_MO_formula_257 : decode b_MO_formula 257 = .ok (.aload_n 0, 1) := by decide +kernel
theorem d_MO_formula_258 : decode b_MO_formula 258 = .ok (.getfield 35, 3) := by decide +kernel
theorem d_MO_formula_261 : decode b_MO_formula 261 = .ok (.iload 4, 2) := by decide +kernel
theorem d_MO_formula_263 : decode b_MO_formula 263 = .ok (.iaload, 1) := by decide +kernel
theorem d_MO_formula_264 : decode b_MO_formula 264 = .ok (.iastore, 1) := by decide +kernel
theorem d_MO_formula_265 : decode b_MO_formula 265 = .ok (.iinc 4 1, 3) := by decide +kernel
theorem d_MO_formula_268 : decode b_MO_formula 268 = .ok (.goto (-24), 3) := by decide +kernel
theorem d_MO_formula_271 : decode b_MO_formula 271 = .ok (.iconst 0, 1) := by decide +kernel
theorem d_MO_formula_272 : decode b_MO_formula 272 = .ok (.ireturn, 1) := by decide +kernel
theorem d_MO_stepOf_0 : decode b_MO_stepOf 0 = .ok (.iconst (-1), 1) := by decide +kernel
theorem d_MO_stepOf_1 : decode b_MO_stepOf 1 = .ok (.istore_n 2, 1) := by decide +kernel
theorem d_MO_stepOf_2 : decode b_MO_stepOf 2 = .ok (.iconst 0, 1) := by decide +kernel
theorem d_MO_stepOf_3 : decode b_MO_stepOf 3 = .ok (.istore_n 3, 1) := by decide +kernel
theorem d_MO_stepOf_4 : decode b_MO_stepOf 4 = .ok (.iload_n 3, 1) := by decide +kernel
theorem d_MO_stepOf_5 : decode b_MO_stepOf 5 = .ok (.aload_n 0, 1) := by decide +kernel
theorem d_MO_stepOf_6 : decode b_MO_stepOf 6 = .ok (.getfield 105, 3) := by decide +kernel
theorem d_MO_stepOf_9 : decode b_MO_stepOf 9 = .ok (.if_icmp .ge 25, 3) := by decide +kernel
theorem d_MO_stepOf_12 : decode b_MO_stepOf 12 = .ok (.aload_n 0, 1) := by decide +kernel
theorem d_MO_stepOf_13 : decode b_MO_stepOf 13 = .ok (.getfield 38, 3) := by decide +kernel
theorem d_MO_stepOf_16 : decode b_MO_stepOf 16 = .ok (.iload_n 3, 1) := by decide +kernel
theorem d_MO_stepOf_17 : decode b_MO_stepOf 17 = .ok (.iaload, 1) := by decide +kernel
theorem d_MO_stepOf_18 : decode b_MO_stepOf 18 = .ok (.iload_n 1, 1) := by decide +kernel
theorem d_MO_stepOf_19 : decode b_MO_stepOf 19 = .ok (.if_icmp .ne 7, 3) := by decide +kernel
theorem d_MO_stepOf_22 : decode b_MO_stepOf 22 = .ok (.iload_n 3, 1) := by decide +kernel
theorem d_MO_stepOf_23 : decode b_MO_stepOf 23 = .ok (.goto 4, 3) := by decide +kernel
theorem d_MO_stepOf_26 : decode b_MO_stepOf 26 = .ok (.iload_n 2, 1) := by decide +kernel
theorem d_MO_stepOf_27 : decode b_MO_stepOf 27 = .ok (.istore_n 2, 1) := by decide +kernel
theorem d_MO_stepOf_28 : decode b_MO_stepOf 28 = .ok (.iinc 3 1, 3) := by decide +kernel
theorem d_MO_stepOf_31 : decode b_MO_stepOf 31 = .ok (.goto (-27), 3) := by decide +kernel
theorem d_MO_stepOf_34 : decode b_MO_stepOf 34 = .ok (.iload_n 2, 1) := by decide +kernel
theorem d_MO_stepOf_35 : decode b_MO_stepOf 35 = .ok (.ireturn, 1) := by decide +kernel
theorem d_MO_isVariable_0 : decode b_MO_isVariable 0 = .ok (.iload_n 1, 1) := by decide +kernel
theorem d_MO_isVariable_1 : decode b_MO_isVariable 1 = .ok (.bipush (-8), 2) := by decide +kernel
theorem d_MO_isVariable_3 : decode b_MO_isVariable 3 = .ok (.if_icmp .lt 31, 3) := by decide +kernel
theorem d_MO_isVariable_6 : decode b_MO_isVariable 6 = .ok (.iload_n 1, 1) := by decide +kernel
theorem d_MO_isVariable_7 : decode b_MO_isVariable 7 = .ok (.bipush 8, 2) := by decide +kernel
theorem d_MO_isVariable_9 : decode b_MO_isVariable 9 = .ok (.if_icmp .gt 25, 3) := by decide +kernel
theorem d_MO_isVariable_12 : decode b_MO_isVariable 12 = .ok (.aload_n 0, 1) := by decide +kernel
theorem d_MO_isVariable_13 : decode b_MO_isVariable 13 = .ok (.getfield 20, 3) := by decide +kernel
theorem d_MO_isVariable_16 : decode b_MO_isVariable 16 = .ok (.iload_n 1, 1) := by decide +kernel
theorem d_MO_isVariable_17 : decode b_MO_isVariable 17 = .ok (.ifCond .ge 8, 3) := by decide +kernel
theorem d_MO_isVariable_20 : decode b_MO_isVariable 20 = .ok (.iload_n 1, 1) := by decide +kernel
theorem d_MO_isVariable_21 : decode b_MO_isVariable 21 = .ok (.ineg, 1) := by decide +kernel
theorem d_MO_isVariable_22 : decode b_MO_isVariable 22 = .ok (.goto 4, 3) := by decide +kernel
theorem d_MO_isVariable_25 : decode b_MO_isVariable 25 = .ok (.iload_n 1, 1) := by decide +kernel
theorem d_MO_isVariable_26 : decode b_MO_isVariable 26 = .ok (.iaload, 1) := by decide +kernel
theorem d_MO_isVariable_27 : decode b_MO_isVariable 27 = .ok (.ifCond .lt 7, 3) := by decide +kernel
theorem d_MO_isVariable_30 : decode b_MO_isVariable 30 = .ok (.iconst 1, 1) := by decide +kernel
theorem d_MO_isVariable_31 : decode b_MO_isVariable 31 = .ok (.goto 4, 3) := by decide +kernel
theorem d_MO_isVariable_34 : decode b_MO_isVariable 34 = .ok (.iconst 0, 1) := by decide +kernel
theorem d_MO_isVariable_35 : decode b_MO_isVariable 35 = .ok (.ireturn, 1) := by decide +kernel
theorem d_MO_follow_0 : decode b_MO_follow 0 = .ok (.iload_n 1, 1) := by decide +kernel
theorem d_MO_follow_1 : decode b_MO_follow 1 = .ok (.sipush 5000, 3) := by decide +kernel
theorem d_MO_follow_4 : decode b_MO_follow 4 = .ok (.if_icmp .eq 53, 3) := by decide +kernel
theorem d_MO_follow_7 : decode b_MO_follow 7 = .ok (.iload_n 1, 1) := by decide +kernel
theorem d_MO_follow_8 : decode b_MO_follow 8 = .ok (.sipush 1000, 3) := by decide +kernel
theorem d_MO_follow_11 : decode b_MO_follow 11 = .ok (.if_icmp .le 7, 3) := by decide +kernel
theorem d_MO_follow_14 : decode b_MO_follow 14 = .ok (.iconst 1, 1) := by decide +kernel
theorem d_MO_follow_15 : decode b_MO_follow 15 = .ok (.goto 4, 3) := by decide +kernel
theorem d_MO_follow_18 : decode b_MO_follow 18 = .ok (.iconst 0, 1) := by decide +kernel
theorem d_MO_follow_19 : decode b_MO_follow 19 = .ok (.aload_n 0, 1) := by decide +kernel
theorem d_MO_follow_20 : decode b_MO_follow 20 = .ok (.getfield 57, 3) := by decide +kernel
theorem d_MO_follow_23 : decode b_MO_follow 23 = .ok (.iconst 3, 1) := by decide +kernel
theorem d_MO_follow_24 : decode b_MO_follow 24 = .ok (.if_icmp .ne 7, 3) := by decide +kernel
theorem d_MO_follow_27 : decode b_MO_follow 27 = .ok (.iconst 1, 1) := by decide +kernel
theorem d_MO_follow_28 : decode b_MO_follow 28 = .ok (.goto 4, 3) := by decide +kernel
theorem d_MO_follow_31 : decode b_MO_follow 31 = .ok (.iconst 0, 1) := by decide +kernel
theorem d_MO_follow_32 : decode b_MO_follow 32 = .ok (.if_icmp .ne 25, 3) := by decide +kernel
theorem d_MO_follow_35 : decode b_MO_follow 35 = .ok (.aload_n 0, 1) := by decide +kernel
theorem d_MO_follow_36 : decode b_MO_follow 36 = .ok (.getfield 57, 3) := by decide +kernel
theorem d_MO_follow_39 : decode b_MO_follow 39 = .ok (.iconst 3, 1) := by decide +kernel
theorem d_MO_follow_40 : decode b_MO_follow 40 = .ok (.if_icmp .ne 19, 3) := by decide +kernel
theorem d_MO_follow_43 : decode b_MO_follow 43 = .ok (.iload_n 1, 1) := by decide +kernel
theorem d_MO_follow_44 : decode b_MO_follow 44 = .ok (.sipush 4114, 3) := by decide +kernel
theorem d_MO_follow_47 : decode b_MO_follow 47 = .ok (.if_icmp .eq 12, 3) := by decide +kernel
theorem d_MO_follow_50 : decode b_MO_follow 50 = .ok (.iload_n 1, 1) := by decide +kernel
theorem d_MO_follow_51 : decode b_MO_follow 51 = .ok (.sipush 4115, 3) := by decide +kernel
theorem d_MO_follow_54 : decode b_MO_follow 54 = .ok (.if_icmp .eq 5, 3) := by decide +kernel
theorem d_MO_follow_57 : decode b_MO_follow 57 = .ok (.iconst 1, 1) := by decide +kernel
theorem d_MO_follow_58 : decode b_MO_follow 58 = .ok (.ireturn, 1) := by decide +kernel
theorem d_MO_follow_59 : decode b_MO_follow 59 = .ok (.aload_n 0, 1) := by decide +kernel
theorem d_MO_follow_60 : decode b_MO_follow 60 = .ok (.getfield 57, 3) := by decide +kernel
theorem d_MO_follow_63 : decode b_MO_follow 63 = .ok (.iconst 3, 1) := by decide +kernel
theorem d_MO_follow_64 : decode b_MO_follow 64 = .ok (.if_icmp .ne 26, 3) := by decide +kernel
theorem d_MO_follow_67 : decode b_MO_follow 67 = .ok (.aload_n 0, 1) := by decide +kernel
theorem d_MO_follow_68 : decode b_MO_follow 68 = .ok (.iload_n 1, 1) := by decide +kernel
theorem d_MO_follow_69 : decode b_MO_follow 69 = .ok (.sipush 4115, 3) := by decide +kernel
theorem d_MO_follow_72 : decode b_MO_follow 72 = .ok (.if_icmp .ne 7, 3) := by decide +kernel
theorem d_MO_follow_75 : decode b_MO_follow 75 = .ok (.iconst 1, 1) := by decide +kernel
theorem d_MO_follow_76 : decode b_MO_follow 76 = .ok (.goto 4, 3) := by decide +kernel
theorem d_MO_follow_79 : decode b_MO_follow 79 = .ok (.iconst 0, 1) := by decide +kernel
theorem d_MO_follow_80 : decode b_MO_follow 80 = .ok (.putfield 108, 3) := by decide +kernel
theorem d_MO_follow_83 : decode b_MO_follow 83 = .ok (.aload_n 0, 1) := by decide +kernel
theorem d_MO_follow_84 : decode b_MO_follow 84 = .ok (.iconst 4, 1) := by decide +kernel
theorem d_MO_follow_85 : decode b_MO_follow 85 = .ok (.putfield 57, 3) := by decide +kernel
theorem d_MO_follow_88 : decode b_MO_follow 88 = .ok (.iconst 0, 1) := by decide +kernel
theorem d_MO_follow_89 : decode b_MO_follow 89 = .ok (.ireturn, 1) := by decide +kernel
theorem d_MO_follow_90 : decode b_MO_follow 90 = .ok (.aload_n 0, 1) := by decide +kernel
theorem d_MO_follow_91 : decode b_MO_follow 91 = .ok (.getfield 57, 3) := by decide +kernel
theorem d_MO_follow_94 : decode b_MO_follow 94 = .ok (.iconst 4, 1) := by decide +kernel
theorem d_MO_follow_95 : decode b_MO_follow 95 = .ok (.if_icmp .ne 71, 3) := by decide +kernel
theorem d_MO_follow_98 : decode b_MO_follow 98 = .ok (.iload_n 1, 1) := by decide +kernel
theorem d_MO_follow_99 : decode b_MO_follow 99 = .ok (.iconst 1, 1) := by decide +kernel
theorem d_MO_follow_100 : decode b_MO_follow 100 = .ok (.if_icmp .ge 5, 3) := by decide +kernel
theorem d_MO_follow_103 : decode b_MO_follow 103 = .ok (.iconst 1, 1) := by decide +kernel
theorem d_MO_follow_104 : decode b_MO_follow 104 = .ok (.ireturn, 1) := by decide +kernel
theorem d_MO_follow_105 : decode b_MO_follow 105 = .ok (.iload_n 1, 1) := by decide +kernel
theorem d_MO_follow_106 : decode b_MO_follow 106 = .ok (.bipush 99, 2) := by decide +kernel
theorem d_MO_follow_108 : decode b_MO_follow 108 = .ok (.if_icmp .gt 11, 3) := by decide +kernel
theorem d_MO_follow_111 : decode b_MO_follow 111 = .ok (.aload_n 0, 1) := by decide +kernel
theorem d_MO_follow_112 : decode b_MO_follow 112 = .ok (.iload_n 1, 1) := by decide +kernel
theorem d_MO_follow_113 : decode b_MO_follow 113 = .ok (.invokevirtual 111, 3) := by decide +kernel
theorem d_MO_follow_116 : decode b_MO_follow 116 = .ok (.ifCond .lt 5, 3) := by decide +kernel
theorem d_MO_follow_119 : decode b_MO_follow 119 = .ok (.iconst 2, 1) := by decide +kernel
theorem d_MO_follow_120 : decode b_MO_follow 120 = .ok (.ireturn, 1) := by decide +kernel
theorem d_MO_follow_121 : decode b_MO_follow 121 = .ok (.aload_n 0, 1) := by decide +kernel
theorem d_MO_follow_122 : decode b_MO_follow 122 = .ok (.iload_n 1, 1) := by decide +kernel
theorem d_MO_follow_123 : decode b_MO_follow 123 = .ok (.putfield 114, 3) := by decide +kernel
theorem d_MO_follow_126 : decode b_MO_follow 126 = .ok (.aload_n 0, 1) := by decide +kernel
theorem d_MO_follow_127 : decode b_MO_follow 127 = .ok (.iconst 0, 1) := by decide +kernel
theorem d_MO_follow_128 : decode b_MO_follow 128 = .ok (.putfield 71, 3) := by decide +kernel
theorem d_MO_follow_131 : decode b_MO_follow 131 = .ok (.aload_n 0, 1) := by decide +kernel
theorem d_MO_follow_132 : decode b_MO_follow 132 = .ok (.iconst 0, 1) := by decide +kernel
theorem d_MO_follow_133 : decode b_MO_follow 133 = .ok (.putfield 64, 3) := by decide +kernel
theorem d_MO_follow_136 : decode b_MO_follow 136 = .ok (.aload_n 0, 1) := by decide +kernel
theorem d_MO_follow_137 : decode b_MO_follow 137 = .ok (.iconst (-1), 1) := by decide +kernel
theorem d_MO_follow_138 : decode b_MO_follow 138 = .ok (.putfield 117, 3) := by decide +kernel
theorem d_MO_follow_141 : decode b_MO_follow 141 = .ok (.aload_n 0, 1) := by decide +kernel
theorem d_MO_follow_142 : decode b_MO_follow 142 = .ok (.iconst (-1), 1) := by decide +kernel
theorem d_MO_follow_143 : decode b_MO_follow 143 = .ok (.putfield 120, 3) := by decide +kernel
theorem d_MO_follow_146 : decode b_MO_follow 146 = .ok (.aload_n 0, 1) := by decide +kernel
theorem d_MO_follow_147 : decode b_MO_follow 147 = .ok (.iconst 5, 1) := by decide +kernel
theorem d_MO_follow_148 : decode b_MO_follow 148 = .ok (.putfield 57, 3) := by decide +kernel
theorem d_MO_follow_151 : decode b_MO_follow 151 = .ok (.aload_n 0, 1) := by decide +kernel
theorem d_MO_follow_152 : decode b_MO_follow 152 = .ok (.getfield 105, 3) := by decide +kernel
theorem d_MO_follow_155 : decode b_MO_follow 155 = .ok (.bipush 24, 2) := by decide +kernel
theorem d_MO_follow_157 : decode b_MO_follow 157 = .ok (.if_icmp .ne 7, 3) := by decide +kernel
theorem d_MO_follow_160 : decode b_MO_follow 160 = .ok (.iconst 4, 1) := by decide +kernel
theorem d_MO_follow_161 : decode b_MO_follow 161 = .ok (.goto 4, 3) := by decide +kernel
theorem d_MO_follow_164 : decode b_MO_follow 164 = .ok (.iconst 0, 1) := by decide +kernel
theorem d_MO_follow_165 : decode b_MO_follow 165 = .ok (.ireturn, 1) := by decide +kernel
theorem d_MO_follow_166 : decode b_MO_follow 166 = .ok (.aload_n 0, 1) := by decide +kernel
theorem d_MO_follow_167 : decode b_MO_follow 167 = .ok (.getfield 57, 3) := by decide +kernel
theorem d_MO_follow_170 : decode b_MO_follow 170 = .ok (.iconst 5, 1) := by decide +kernel
theorem d_MO_follow_171 : decode b_MO_follow 171 = .ok (.if_icmp .ne 54, 3) := by decide +kernel
theorem d_MO_follow_174 : decode b_MO_follow 174 = .ok (.iload_n 1, 1) := by decide +kernel
theorem d_MO_follow_175 : decode b_MO_follow 175 = .ok (.ifCond .ne 11, 3) := by decide +kernel
theorem d_MO_follow_178 : decode b_MO_follow 178 = .ok (.aload_n 0, 1) := by decide +kernel
theorem d_MO_follow_179 : decode b_MO_follow 179 = .ok (.bipush 6, 2) := by decide +kernel
theorem d_MO_follow_181 : decode b_MO_follow 181 = .ok (.putfield 57, 3) := by decide +kernel
theorem d_MO_follow_184 : decode b_MO_follow 184 = .ok (.iconst 0, 1) := by decide +kernel
theorem d_MO_follow_185 : decode b_MO_follow 185 = .ok (.ireturn, 1) := by decide +kernel
theorem d_MO_follow_186 : decode b_MO_follow 186 = .ok (.aload_n 0, 1) := by decide +kernel
theorem d_MO_follow_187 : decode b_MO_follow 187 = .ok (.iload_n 1, 1) := by decide +kernel
theorem d_MO_follow_188 : decode b_MO_follow 188 = .ok (.invokevirtual 123, 3) := by decide +kernel
theorem d_MO_follow_191 : decode b_MO_follow 191 = .ok (.ifCond .ne 5, 3) := by decide +kernel
theorem d_MO_follow_194 : decode b_MO_follow 194 = .ok (.iconst 2, 1) := by decide +kernel
theorem d_MO_follow_195 : decode b_MO_follow 195 = .ok (.ireturn, 1) := by decide +kernel
theorem d_MO_follow_196 : decode b_MO_follow 196 = .ok (.aload_n 0, 1) := by decide +kernel
theorem d_MO_follow_197 : decode b_MO_follow 197 = .ok (.getfield 71, 3) := by decide +kernel
theorem d_MO_follow_200 : decode b_MO_follow 200 = .ok (.iload_n 1, 1) := by decide +kernel
theorem d_MO_follow_201 : decode b_MO_follow 201 = .ok (.invokestatic 80, 3) := by decide +kernel
theorem d_MO_follow_204 : decode b_MO_follow 204 = .ok (.iand, 1) := by decide +kernel
theorem d_MO_follow_205 : decode b_MO_follow 205 = .ok (.ifCond .eq 5, 3) := by decide +kernel
theorem d_MO_follow_208 : decode b_MO_follow 208 = .ok (.iconst 3, 1) := by decide +kernel
theorem d_MO_follow_209 : decode b_MO_follow 209 = .ok (.ireturn, 1) := by decide +kernel
theorem d_MO_follow_210 : decode b_MO_follow 210 = .ok (.aload_n 0, 1) := by decide +kernel
theorem d_MO_follow_211 : decode b_MO_follow 211 = .ok (.aload_n 0, 1) := by decide +kernel
theorem d_MO_follow_212 : decode b_MO_follow 212 = .ok (.getfield 71, 3) := by decide +kernel
theorem d_MO_follow_215 : decode b_MO_follow 215 = .ok (.iload_n 1, 1) := by decide +kernel
theorem d_MO_follow_216 : decode b_MO_follow 216 = .ok (.invokestatic 80, 3) := by decide +kernel
theorem d_MO_follow_219 : decode b_MO_follow 219 = .ok (.ior, 1) := by decide +kernel
theorem d_MO_follow_220 : decode b_MO_follow 220 = .ok (.putfield 71, 3) := by decide +kernel
theorem d_MO_follow_223 : decode b_MO_follow 223 = .ok (.iconst 0, 1) := by decide +kernel
theorem d_MO_follow_224 : decode b_MO_follow 224 = .ok (.ireturn, 1) := by decide +kernel
theorem d_MO_follow_225 : decode b_MO_follow 225 = .ok (.iload_n 1, 1) := by decide +kernel
theorem d_MO_follow_226 : decode b_MO_follow 226 = .ok (.ifCond .ne 10, 3) := by decide +kernel
theorem d_MO_follow_229 : decode b_MO_follow 229 = .ok (.aload_n 0, 1) := by decide +kernel
theorem d_MO_follow_230 : decode b_MO_follow 230 = .ok (.invokevirtual 127, 3) := by decide +kernel
theorem d_MO_follow_233 : decode b_MO_follow 233 = .ok (.goto 8, 3) := by decide +kernel
theorem d_MO_follow_236 : decode b_MO_follow 236 = .ok (.aload_n 0, 1) := by decide +kernel
theorem d_MO_follow_237 : decode b_MO_follow 237 = .ok (.iload_n 1, 1) := by decide +kernel
theorem d_MO_follow_238 : decode b_MO_follow 238 = .ok (.invokevirtual 131, 3) := by decide +kernel
theorem d_MO_follow_241 : decode b_MO_follow 241 = .ok (.ireturn, 1) := by decide +kernel
theorem d_MO_takeId_0 : decode b_MO_takeId 0 = .ok (.aload_n 0, 1) := by decide +kernel
theorem d_MO_takeId_1 : decode b_MO_takeId 1 = .ok (.iload_n 1, 1) := by decide +kernel
theorem d_MO_takeId_2 : decode b_MO_takeId 2 = .ok (.invokevirtual 111, 3) := by decide +kernel
theorem d_MO_takeId_5 : decode b_MO_takeId 5 = .ok (.istore_n 2, 1) := by decide +kernel
theorem d_MO_takeId_6 : decode b_MO_takeId 6 = .ok (.iload_n 2, 1) := by decide +kernel
theorem d_MO_takeId_7 : decode b_MO_takeId 7 = .ok (.ifCond .lt 16, 3) := by decide +kernel
theorem d_MO_takeId_10 : decode b_MO_takeId 10 = .ok (.aload_n 0, 1) := by decide +kernel
theorem d_MO_takeId_11 : decode b_MO_takeId 11 = .ok (.getfield 44, 3) := by decide +kernel
theorem d_MO_takeId_14 : decode b_MO_takeId 14 = .ok (.iload_n 2, 1) := by decide +kernel
theorem d_MO_takeId_15 : decode b_MO_takeId 15 = .ok (.baload, 1) := by decide +kernel
theorem d_MO_takeId_16 : decode b_MO_takeId 16 = .ok (.aload_n 0, 1) := by decide +kernel
theorem d_MO_takeId_17 : decode b_MO_takeId 17 = .ok (.getfield 108, 3) := by decide +kernel
theorem d_MO_takeId_20 : decode b_MO_takeId 20 = .ok (.if_icmp .eq 5, 3) := by decide +kernel
theorem d_MO_takeId_23 : decode b_MO_takeId 23 = .ok (.iconst 2, 1) := by decide +kernel
theorem d_MO_takeId_24 : decode b_MO_takeId 24 = .ok (.ireturn, 1) := by decide +kernel
theorem d_MO_takeId_25 : decode b_MO_takeId 25 = .ok (.aload_n 0, 1) := by decide +kernel
theorem d_MO_takeId_26 : decode b_MO_takeId 26 = .ok (.getfield 64, 3) := by decide +kernel
theorem d_MO_takeId_29 : decode b_MO_takeId 29 = .ok (.iconst 2, 1) := by decide +kernel
theorem d_MO_takeId_30 : decode b_MO_takeId 30 = .ok (.if_icmp .ne 5, 3) := by decide +kernel
theorem d_MO_takeId_33 : decode b_MO_takeId 33 = .ok (.iconst 4, 1) := by decide +kernel
theorem d_MO_takeId_34 : decode b_MO_takeId 34 = .ok (.ireturn, 1) := by decide +kernel
theorem d_MO_takeId_35 : decode b_MO_takeId 35 = .ok (.aload_n 0, 1) := by decide +kernel
theorem d_MO_takeId_36 : decode b_MO_takeId 36 = .ok (.aload_n 0, 1) := by decide +kernel
theorem d_MO_takeId_37 : decode b_MO_takeId 37 = .ok (.getfield 64, 3) := by decide +kernel
theorem d_MO_takeId_40 : decode b_MO_takeId 40 = .ok (.ifCond .ne 7, 3) := by decide +kernel
theorem d_MO_takeId_43 : decode b_MO_takeId 43 = .ok (.iload_n 2, 1) := by decide +kernel
theorem d_MO_takeId_44 : decode b_MO_takeId 44 = .ok (.goto 7, 3) := by decide +kernel
theorem d_MO_takeId_47 : decode b_MO_takeId 47 = .ok (.aload_n 0, 1) := by decide +kernel
theorem d_MO_takeId_48 : decode b_MO_takeId 48 = .ok (.getfield 117, 3) := by decide +kernel
theorem d_MO_takeId_51 : decode b_MO_takeId 51 = .ok (.putfield 117, 3) := by decide +kernel
theorem d_MO_takeId_54 : decode b_MO_takeId 54 = .ok (.aload_n 0, 1) := by decide +kernel
theorem d_MO_takeId_55 : decode b_MO_takeId 55 = .ok (.aload_n 0, 1) := by decide +kernel
theorem d_MO_takeId_56 : decode b_MO_takeId 56 = .ok (.getfield 64, 3) := by decide +kernel
