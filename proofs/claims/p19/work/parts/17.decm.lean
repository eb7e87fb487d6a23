abbrev b_Mo_init : ByteArray := prog_8_method_1_code
abbrev n_Mo_init : MethodName := ⟨"BeltRowsModel", "<init>", "()V"⟩
theorem d_Mo_init_0 : decode b_Mo_init 0 = .ok (.aload_n 0, 1) := by decide +kernel
theorem d_Mo_init_1 : decode b_Mo_init 1 = .ok (.invokespecial 1, 3) := by decide +kernel
theorem d_Mo_init_4 : decode b_Mo_init 4 = .ok (.aload_n 0, 1) := by decide +kernel
theorem d_Mo_init_5 : decode b_Mo_init 5 = .ok (.bipush 100, 2) := by decide +kernel
theorem d_Mo_init_7 : decode b_Mo_init 7 = .ok (.putfield 7, 3) := by decide +kernel
theorem d_Mo_init_10 : decode b_Mo_init 10 = .ok (.aload_n 0, 1) := by decide +kernel
theorem d_Mo_init_11 : decode b_Mo_init 11 = .ok (.bipush 8, 2) := by decide +kernel
theorem d_Mo_init_13 : decode b_Mo_init 13 = .ok (.newarray .int, 2) := by decide +kernel
theorem d_Mo_init_15 : decode b_Mo_init 15 = .ok (.putfield 13, 3) := by decide +kernel
theorem d_Mo_init_18 : decode b_Mo_init 18 = .ok (.aload_n 0, 1) := by decide +kernel
theorem d_Mo_init_19 : decode b_Mo_init 19 = .ok (.bipush 8, 2) := by decide +kernel
theorem d_Mo_init_21 : decode b_Mo_init 21 = .ok (.newarray .int, 2) := by decide +kernel
theorem d_Mo_init_23 : decode b_Mo_init 23 = .ok (.putfield 17, 3) := by decide +kernel
theorem d_Mo_init_26 : decode b_Mo_init 26 = .ok (.aload_n 0, 1) := by decide +kernel
theorem d_Mo_init_27 : decode b_Mo_init 27 = .ok (.bipush 8, 2) := by decide +kernel
theorem d_Mo_init_29 : decode b_Mo_init 29 = .ok (.newarray .boolean, 2) := by decide +kernel
theorem d_Mo_init_31 : decode b_Mo_init 31 = .ok (.putfield 20, 3) := by decide +kernel
theorem d_Mo_init_34 : decode b_Mo_init 34 = .ok (.aload_n 0, 1) := by decide +kernel
theorem d_Mo_init_35 : decode b_Mo_init 35 = .ok (.bipush 16, 2) := by decide +kernel
theorem d_Mo_init_37 : decode b_Mo_init 37 = .ok (.newarray .int, 2) := by decide +kernel
theorem d_Mo_init_39 : decode b_Mo_init 39 = .ok (.putfield 24, 3) := by decide +kernel
theorem d_Mo_init_42 : decode b_Mo_init 42 = .ok (.aload_n 0, 1) := by decide +kernel
theorem d_Mo_init_43 : decode b_Mo_init 43 = .ok (.bipush 16, 2) := by decide +kernel
theorem d_Mo_init_45 : decode b_Mo_init 45 = .ok (.newarray .int, 2) := by decide +kernel
theorem d_Mo_init_47 : decode b_Mo_init 47 = .ok (.putfield 27, 3) := by decide +kernel
theorem d_Mo_init_50 : decode b_Mo_init 50 = .ok (.aload_n 0, 1) := by decide +kernel
theorem d_Mo_init_51 : decode b_Mo_init 51 = .ok (.bipush 16, 2) := by decide +kernel
theorem d_Mo_init_53 : decode b_Mo_init 53 = .ok (.newarray .int, 2) := by decide +kernel
theorem d_Mo_init_55 : decode b_Mo_init 55 = .ok (.putfield 30, 3) := by decide +kernel
theorem d_Mo_init_58 : decode b_Mo_init 58 = .ok (.aload_n 0, 1) := by decide +kernel
theorem d_Mo_init_59 : decode b_Mo_init 59 = .ok (.bipush 8, 2) := by decide +kernel
theorem d_Mo_init_61 : decode b_Mo_init 61 = .ok (.newarray .int, 2) := by decide +kernel
theorem d_Mo_init_63 : decode b_Mo_init 63 = .ok (.putfield 33, 3) := by decide +kernel
theorem d_Mo_init_66 : decode b_Mo_init 66 = .ok (.aload_n 0, 1) := by decide +kernel
theorem d_Mo_init_67 : decode b_Mo_init 67 = .ok (.sipush 480, 3) := by decide +kernel
theorem d_Mo_init_70 : decode b_Mo_init 70 = .ok (.newarray .int, 2) := by decide +kernel
theorem d_Mo_init_72 : decode b_Mo_init 72 = .ok (.putfield 36, 3) := by decide +kernel
theorem d_Mo_init_75 : decode b_Mo_init 75 = .ok (.aload_n 0, 1) := by decide +kernel
theorem d_Mo_init_76 : decode b_Mo_init 76 = .ok (.bipush 61, 2) := by decide +kernel
theorem d_Mo_init_78 : decode b_Mo_init 78 = .ok (.newarray .int, 2) := by decide +kernel
theorem d_Mo_init_80 : decode b_Mo_init 80 = .ok (.putfield 39, 3) := by decide +kernel
theorem d_Mo_init_83 : decode b_Mo_init 83 = .ok (.aload_n 0, 1) := by decide +kernel
theorem d_Mo_init_84 : decode b_Mo_init 84 = .ok (.bipush 61, 2) := by decide +kernel
theorem d_Mo_init_86 : decode b_Mo_init 86 = .ok (.newarray .int, 2) := by decide +kernel
theorem d_Mo_init_88 : decode b_Mo_init 88 = .ok (.putfield 42, 3) := by decide +kernel
theorem d_Mo_init_91 : decode b_Mo_init 91 = .ok (.aload_n 0, 1) := by decide +kernel
theorem d_Mo_init_92 : decode b_Mo_init 92 = .ok (.bipush 61, 2) := by decide +kernel
theorem d_Mo_init_94 : decode b_Mo_init 94 = .ok (.newarray .int, 2) := by decide +kernel
theorem d_Mo_init_96 : decode b_Mo_init 96 = .ok (.putfield 45, 3) := by decide +kernel
theorem d_Mo_init_99 : decode b_Mo_init 99 = .ok (.aload_n 0, 1) := by decide +kernel
theorem d_Mo_init_100 : decode b_Mo_init 100 = .ok (.bipush 61, 2) := by decide +kernel
theorem d_Mo_init_102 : decode b_Mo_init 102 = .ok (.newarray .int, 2) := by decide +kernel
theorem d_Mo_init_104 : decode b_Mo_init 104 = .ok (.putfield 48, 3) := by decide +kernel
theorem d_Mo_init_107 : decode b_Mo_init 107 = .ok (.aload_n 0, 1) := by decide +kernel
theorem d_Mo_init_108 : decode b_Mo_init 108 = .ok (.bipush 61, 2) := by decide +kernel
theorem d_Mo_init_110 : decode b_Mo_init 110 = .ok (.newarray .int, 2) := by decide +kernel
theorem d_Mo_init_112 : decode b_Mo_init 112 = .ok (.putfield 51, 3) := by decide +kernel
theorem d_Mo_init_115 : decode b_Mo_init 115 = .ok (.aload_n 0, 1) := by decide +kernel
theorem d_Mo_init_116 : decode b_Mo_init 116 = .ok (.bipush 61, 2) := by decide +kernel
theorem d_Mo_init_118 : decode b_Mo_init 118 = .ok (.newarray .boolean, 2) := by decide +kernel
theorem d_Mo_init_120 : decode b_Mo_init 120 = .ok (.putfield 54, 3) := by decide +kernel
theorem d_Mo_init_123 : decode b_Mo_init 123 = .ok (.aload_n 0, 1) := by decide +kernel
theorem d_Mo_init_124 : decode b_Mo_init 124 = .ok (.bipush 61, 2) := by decide +kernel
theorem d_Mo_init_126 : decode b_Mo_init 126 = .ok (.newarray .int, 2) := by decide +kernel
theorem d_Mo_init_128 : decode b_Mo_init 128 = .ok (.putfield 57, 3) := by decide +kernel
theorem d_Mo_init_131 : decode b_Mo_init 131 = .ok (.aload_n 0, 1) := by decide +kernel
theorem d_Mo_init_132 : decode b_Mo_init 132 = .ok (.bipush 61, 2) := by decide +kernel
theorem d_Mo_init_134 : decode b_Mo_init 134 = .ok (.newarray .int, 2) := by decide +kernel
theorem d_Mo_init_136 : decode b_Mo_init 136 = .ok (.putfield 60, 3) := by decide +kernel
theorem d_Mo_init_139 : decode b_Mo_init 139 = .ok (.aload_n 0, 1) := by decide +kernel
theorem d_Mo_init_140 : decode b_Mo_init 140 = .ok (.iconst 4, 1) := by decide +kernel
theorem d_Mo_init_141 : decode b_Mo_init 141 = .ok (.newarray .int, 2) := by decide +kernel
theorem d_Mo_init_143 : decode b_Mo_init 143 = .ok (.putfield 63, 3) := by decide +kernel
theorem d_Mo_init_146 : decode b_Mo_init 146 = .ok (.aload_n 0, 1) := by decide +kernel
theorem d_Mo_init_147 : decode b_Mo_init 147 = .ok (.iconst 4, 1) := by decide +kernel
theorem d_Mo_init_148 : decode b_Mo_init 148 = .ok (.newarray .int, 2) := by decide +kernel
theorem d_Mo_init_150 : decode b_Mo_init 150 = .ok (.putfield 66, 3) := by decide +kernel
theorem d_Mo_init_153 : decode b_Mo_init 153 = .ok (.aload_n 0, 1) := by decide +kernel
theorem d_Mo_init_154 : decode b_Mo_init 154 = .ok (.iconst 4, 1) := by decide +kernel
theorem d_Mo_init_155 : decode b_Mo_init 155 = .ok (.newarray .int, 2) := by decide +kernel
theorem d_Mo_init_157 : decode b_Mo_init 157 = .ok (.putfield 69, 3) := by decide +kernel
theorem d_Mo_init_160 : decode b_Mo_init 160 = .ok (.aload_n 0, 1) := by decide +kernel
theorem d_Mo_init_161 : decode b_Mo_init 161 = .ok (.sipush 3000, 3) := by decide +kernel
theorem d_Mo_init_164 : decode b_Mo_init 164 = .ok (.newarray .long, 2) := by decide +kernel
theorem d_Mo_init_166 : decode b_Mo_init 166 = .ok (.putfield 72, 3) := by decide +kernel
theorem d_Mo_init_169 : decode b_Mo_init 169 = .ok (.aload_n 0, 1) := by decide +kernel
theorem d_Mo_init_170 : decode b_Mo_init 170 = .ok (.sipush 6000, 3) := by decide +kernel
theorem d_Mo_init_173 : decode b_Mo_init 173 = .ok (.newarray .long, 2) := by decide +kernel
theorem d_Mo_init_175 : decode b_Mo_init 175 = .ok (.putfield 76, 3) := by decide +kernel
theorem d_Mo_init_178 : decode b_Mo_init 178 = .ok (.aload_n 0, 1) := by decide +kernel
theorem d_Mo_init_179 : decode b_Mo_init 179 = .ok (.bipush 60, 2) := by decide +kernel
theorem d_Mo_init_181 : decode b_Mo_init 181 = .ok (.newarray .int, 2) := by decide +kernel
theorem d_Mo_init_183 : decode b_Mo_init 183 = .ok (.putfield 79, 3) := by decide +kernel
theorem d_Mo_init_186 : decode b_Mo_init 186 = .ok (.return_, 1) := by decide +kernel
abbrev b_Mo_belt : ByteArray := prog_8_method_6_code
abbrev n_Mo_belt : MethodName := ⟨"BeltRowsModel", "belt", "(II)I"⟩
theorem d_Mo_belt_0 : decode b_Mo_belt 0 = .ok (.aload_n 0, 1) := by decide +kernel
theorem d_Mo_belt_1 : decode b_Mo_belt 1 = .ok (.iload_n 1, 1) := by decide +kernel
theorem d_Mo_belt_2 : decode b_Mo_belt 2 = .ok (.iconst 1, 1) := by decide +kernel
theorem d_Mo_belt_3 : decode b_Mo_belt 3 = .ok (.sipush 10000, 3) := by decide +kernel
theorem d_Mo_belt_6 : decode b_Mo_belt 6 = .ok (.invokestatic 88, 3) := by decide +kernel
theorem d_Mo_belt_9 : decode b_Mo_belt 9 = .ok (.ifCond .eq 14, 3) := by decide +kernel
theorem d_Mo_belt_12 : decode b_Mo_belt 12 = .ok (.iload_n 2, 1) := by decide +kernel
theorem d_Mo_belt_13 : decode b_Mo_belt 13 = .ok (.iconst 0, 1) := by decide +kernel
theorem d_Mo_belt_14 : decode b_Mo_belt 14 = .ok (.sipush 1000, 3) := by decide +kernel
theorem d_Mo_belt_17 : decode b_Mo_belt 17 = .ok (.invokestatic 88, 3) := by decide +kernel
theorem d_Mo_belt_20 : decode b_Mo_belt 20 = .ok (.ifCond .ne 7, 3) := by decide +kernel
theorem d_Mo_belt_23 : decode b_Mo_belt 23 = .ok (.iconst 1, 1) := by decide +kernel
theorem d_Mo_belt_24 : decode b_Mo_belt 24 = .ok (.goto 17, 3) := by decide +kernel
theorem d_Mo_belt_27 : decode b_Mo_belt 27 = .ok (.aload_n 0, 1) := by decide +kernel
theorem d_Mo_belt_28 : decode b_Mo_belt 28 = .ok (.getfield 85, 3) := by decide +kernel
theorem d_Mo_belt_31 : decode b_Mo_belt 31 = .ok (.bipush 8, 2) := by decide +kernel
theorem d_Mo_belt_33 : decode b_Mo_belt 33 = .ok (.if_icmp .ne 7, 3) := by decide +kernel
theorem d_Mo_belt_36 : decode b_Mo_belt 36 = .ok (.iconst 2, 1) := by decide +kernel
theorem d_Mo_belt_37 : decode b_Mo_belt 37 = .ok (.goto 4, 3) := by decide +kernel
theorem d_Mo_belt_40 : decode b_Mo_belt 40 = .ok (.iconst 0, 1) := by decide +kernel
theorem d_Mo_belt_41 : decode b_Mo_belt 41 = .ok (.putfield 82, 3) := by decide +kernel
theorem d_Mo_belt_44 : decode b_Mo_belt 44 = .ok (.aload_n 0, 1) := by decide +kernel
theorem d_Mo_belt_45 : decode b_Mo_belt 45 = .ok (.getfield 82, 3) := by decide +kernel
theorem d_Mo_belt_48 : decode b_Mo_belt 48 = .ok (.ifCond .le 5, 3) := by decide +kernel
theorem d_Mo_belt_51 : decode b_Mo_belt 51 = .ok (.iconst 0, 1) := by decide +kernel
theorem d_Mo_belt_52 : decode b_Mo_belt 52 = .ok (.ireturn, 1) := by decide +kernel
theorem d_Mo_belt_53 : decode b_Mo_belt 53 = .ok (.aload_n 0, 1) := by decide +kernel
theorem d_Mo_belt_54 : decode b_Mo_belt 54 = .ok (.getfield 13, 3) := by decide +kernel
theorem d_Mo_belt_57 : decode b_Mo_belt 57 = .ok (.aload_n 0, 1) := by decide +kernel
theorem d_Mo_belt_58 : decode b_Mo_belt 58 = .ok (.getfield 85, 3) := by decide +kernel
theorem d_Mo_belt_61 : decode b_Mo_belt 61 = .ok (.iload_n 1, 1) := by decide +kernel
theorem d_Mo_belt_62 : decode b_Mo_belt 62 = .ok (.iastore, 1) := by decide +kernel
theorem d_Mo_belt_63 : decode b_Mo_belt 63 = .ok (.aload_n 0, 1) := by decide +kernel
theorem d_Mo_belt_64 : decode b_Mo_belt 64 = .ok (.getfield 17, 3) := by decide +kernel
theorem d_Mo_belt_67 : decode b_Mo_belt 67 = .ok (.aload_n 0, 1) := by decide +kernel
theorem d_Mo_belt_68 : decode b_Mo_belt 68 = .ok (.getfield 85, 3) := by decide +kernel
theorem d_Mo_belt_71 : decode b_Mo_belt 71 = .ok (.iload_n 2, 1) := by decide +kernel
theorem d_Mo_belt_72 : decode b_Mo_belt 72 = .ok (.iastore, 1) := by decide +kernel
theorem d_Mo_belt_73 : decode b_Mo_belt 73 = .ok (.aload_n 0, 1) := by decide +kernel
theorem d_Mo_belt_74 : decode b_Mo_belt 74 = .ok (.getfield 20, 3) := by decide +kernel
theorem d_Mo_belt_77 : decode b_Mo_belt 77 = .ok (.aload_n 0, 1) := by decide +kernel
theorem d_Mo_belt_78 : decode b_Mo_belt 78 = .ok (.getfield 85, 3) := by decide +kernel
theorem d_Mo_belt_81 : decode b_Mo_belt 81 = .ok (.iconst 1, 1) := by decide +kernel
theorem d_Mo_belt_82 : decode b_Mo_belt 82 = .ok (.bastore, 1) := by decide +kernel
theorem d_Mo_belt_83 : decode b_Mo_belt 83 = .ok (.aload_n 0, 1) := by decide +kernel
theorem d_Mo_belt_84 : decode b_Mo_belt 84 = .ok (.getfield 24, 3) := by decide +kernel
theorem d_Mo_belt_87 : decode b_Mo_belt 87 = .ok (.iconst 2, 1) := by decide +kernel
theorem d_Mo_belt_88 : decode b_Mo_belt 88 = .ok (.aload_n 0, 1) := by decide +kernel
theorem d_Mo_belt_89 : decode b_Mo_belt 89 = .ok (.getfield 85, 3) := by decide +kernel
theorem d_Mo_belt_92 : decode b_Mo_belt 92 = .ok (.imul, 1) := by decide +kernel
theorem d_Mo_belt_93 : decode b_Mo_belt 93 = .ok (.iconst (-1), 1) := by decide +kernel
theorem d_Mo_belt_94 : decode b_Mo_belt 94 = .ok (.iastore, 1) := by decide +kernel
theorem d_Mo_belt_95 : decode b_Mo_belt 95 = .ok (.aload_n 0, 1) := by decide +kernel
theorem d_Mo_belt_96 : decode b_Mo_belt 96 = .ok (.getfield 24, 3) := by decide +kernel
theorem d_Mo_belt_99 : decode b_Mo_belt 99 = .ok (.iconst 2, 1) := by decide +kernel
theorem d_Mo_belt_100 : decode b_Mo_belt 100 = .ok (.aload_n 0, 1) := by decide +kernel
theorem d_Mo_belt_101 : decode b_Mo_belt 101 = .ok (.getfield 85, 3) := by decide +kernel
theorem d_Mo_belt_104 : decode b_Mo_belt 104 = .ok (.imul, 1) := by decide +kernel
theorem d_Mo_belt_105 : decode b_Mo_belt 105 = .ok (.iconst 1, 1) := by decide +kernel
theorem d_Mo_belt_106 : decode b_Mo_belt 106 = .ok (.iadd, 1) := by decide +kernel
theorem d_Mo_belt_107 : decode b_Mo_belt 107 = .ok (.iconst (-1), 1) := by decide +kernel
theorem d_Mo_belt_108 : decode b_Mo_belt 108 = .ok (.iastore, 1) := by decide +kernel
theorem d_Mo_belt_109 : decode b_Mo_belt 109 = .ok (.aload_n 0, 1) := by decide +kernel
theorem d_Mo_belt_110 : decode b_Mo_belt 110 = .ok (.dup, 1) := by decide +kernel
theorem d_Mo_belt_111 : decode b_Mo_belt 111 = .ok (.getfield 85, 3) := by decide +kernel
theorem d_Mo_belt_114 : decode b_Mo_belt 114 = .ok (.iconst 1, 1) := by decide +kernel
theorem d_Mo_belt_115 : decode b_Mo_belt 115 = .ok (.iadd, 1) := by decide +kernel
theorem d_Mo_belt_116 : decode b_Mo_belt 116 = .ok (.putfield 85, 3) := by decide +kernel
theorem d_Mo_belt_119 : decode b_Mo_belt 119 = .ok (.aload_n 0, 1) := by decide +kernel
theorem d_Mo_belt_120 : decode b_Mo_belt 120 = .ok (.getfield 85, 3) := by decide +kernel
theorem d_Mo_belt_123 : decode b_Mo_belt 123 = .ok (.iconst 1, 1) := by decide +kernel
theorem d_Mo_belt_124 : decode b_Mo_belt 124 = .ok (.isub, 1) := by decide +kernel
theorem d_Mo_belt_125 : decode b_Mo_belt 125 = .ok (.ireturn, 1) := by decide +kernel
abbrev b_Mo_in : ByteArray := prog_8_method_3_code
abbrev n_Mo_in : MethodName := ⟨"BeltRowsModel", "in", "(III)Z"⟩
theorem d_Mo_in_0 : decode b_Mo_in 0 = .ok (.iload_n 0, 1) := by decide +kernel
theorem d_Mo_in_1 : decode b_Mo_in 1 = .ok (.iload_n 1, 1) := by decide +kernel
theorem d_Mo_in_2 : decode b_Mo_in 2 = .ok (.if_icmp .lt 12, 3) := by decide +kernel
theorem d_Mo_in_5 : decode b_Mo_in 5 = .ok (.iload_n 0, 1) := by decide +kernel
theorem d_Mo_in_6 : decode b_Mo_in 6 = .ok (.iload_n 2, 1) := by decide +kernel
theorem d_Mo_in_7 : decode b_Mo_in 7 = .ok (.if_icmp .gt 7, 3) := by decide +kernel
theorem d_Mo_in_10 : decode b_Mo_in 10 = .ok (.iconst 1, 1) := by decide +kernel
theorem d_Mo_in_11 : decode b_Mo_in 11 = .ok (.goto 4, 3) := by decide +kernel
theorem d_Mo_in_14 : decode b_Mo_in 14 = .ok (.iconst 0, 1) := by decide +kernel
theorem d_Mo_in_15 : decode b_Mo_in 15 = .ok (.ireturn, 1) := by decide +kernel
abbrev b_Mo_join : ByteArray := prog_8_method_7_code
abbrev n_Mo_join : MethodName := ⟨"BeltRowsModel", "join", "(IIII)I"⟩
theorem d_Mo_join_0 : decode b_Mo_join 0 = .ok (.aload_n 0, 1) := by decide +kernel
theorem d_Mo_join_1 : decode b_Mo_join 1 = .ok (.aload_n 0, 1) := by decide +kernel
theorem d_Mo_join_2 : decode b_Mo_join 2 = .ok (.iload_n 1, 1) := by decide +kernel
theorem d_Mo_join_3 : decode b_Mo_join 3 = .ok (.invokevirtual 95, 3) := by decide +kernel
theorem d_Mo_join_6 : decode b_Mo_join 6 = .ok (.ifCond .eq 11, 3) := by decide +kernel
theorem d_Mo_join_9 : decode b_Mo_join 9 = .ok (.aload_n 0, 1) := by decide +kernel
theorem d_Mo_join_10 : decode b_Mo_join 10 = .ok (.iload_n 3, 1) := by decide +kernel
theorem d_Mo_join_11 : decode b_Mo_join 11 = .ok (.invokevirtual 95, 3) := by decide +kernel
theorem d_Mo_join_14 : decode b_Mo_join 14 = .ok (.ifCond .ne 7, 3) := by decide +kernel
theorem d_Mo_join_17 : decode b_Mo_join 17 = .ok (.iconst 1, 1) := by decide +kernel
theorem d_Mo_join_18 : decode b_Mo_join 18 = .ok (.goto 33, 3) := by decide +kernel
theorem d_Mo_join_21 : decode b_Mo_join 21 = .ok (.iload_n 2, 1) := by decide +kernel
theorem d_Mo_join_22 : decode b_Mo_join 22 = .ok (.iconst 0, 1) := by decide +kernel
theorem d_Mo_join_23 : decode b_Mo_join 23 = .ok (.iconst 1, 1) := by decide +kernel
theorem d_Mo_join_24 : decode b_Mo_join 24 = .ok (.invokestatic 88, 3) := by decide +kernel
theorem d_Mo_join_27 : decode b_Mo_join 27 = .ok (.ifCond .eq 19, 3) := by decide +kernel
theorem d_Mo_join_30 : decode b_Mo_join 30 = .ok (.iload 4, 2) := by decide +kernel
theorem d_Mo_join_32 : decode b_Mo_join 32 = .ok (.iconst 1, 1) := by decide +kernel
theorem d_Mo_join_33 : decode b_Mo_join 33 = .ok (.bipush 9, 2) := by decide +kernel
theorem d_Mo_join_35 : decode b_Mo_join 35 = .ok (.invokestatic 88, 3) := by decide +kernel
theorem d_Mo_join_38 : decode b_Mo_join 38 = .ok (.ifCond .eq 8, 3) := by decide +kernel
theorem d_Mo_join_41 : decode b_Mo_join 41 = .ok (.iload_n 3, 1) := by decide +kernel
theorem d_Mo_join_42 : decode b_Mo_join 42 = .ok (.iload_n 1, 1) := by decide +kernel
theorem d_Mo_join_43 : decode b_Mo_join 43 = .ok (.if_icmp .gt 7, 3) := by decide +kernel
theorem d_Mo_join_46 : decode b_Mo_join 46 = .ok (.iconst 2, 1) := by decide +kernel
theorem d_Mo_join_47 : decode b_Mo_join 47 = .ok (.goto 4, 3) := by decide +kernel
theorem d_Mo_join_50 : decode b_Mo_join 50 = .ok (.iconst 0, 1) := by decide +kernel
theorem d_Mo_join_51 : decode b_Mo_join 51 = .ok (.putfield 82, 3) := by decide +kernel
theorem d_Mo_join_54 : decode b_Mo_join 54 = .ok (.aload_n 0, 1) := by decide +kernel
theorem d_Mo_join_55 : decode b_Mo_join 55 = .ok (.getfield 82, 3) := by decide +kernel
theorem d_Mo_join_58 : decode b_Mo_join 58 = .ok (.ifCond .le 5, 3) := by decide +kernel
theorem d_Mo_join_61 : decode b_Mo_join 61 = .ok (.iconst 0, 1) := by decide +kernel
theorem d_Mo_join_62 : decode b_Mo_join 62 = .ok (.ireturn, 1) := by decide +kernel
theorem d_Mo_join_63 : decode b_Mo_join 63 = .ok (.aload_n 0, 1) := by decide +kernel
theorem d_Mo_join_64 : decode b_Mo_join 64 = .ok (.getfield 24, 3) := by decide +kernel
theorem d_Mo_join_67 : decode b_Mo_join 67 = .ok (.iconst 2, 1) := by decide +kernel
theorem d_Mo_join_68 : decode b_Mo_join 68 = .ok (.iload_n 1, 1) := by decide +kernel
theorem d_Mo_join_69 : decode b_Mo_join 69 = .ok (.imul, 1) := by decide +kernel
theorem d_Mo_join_70 : decode b_Mo_join 70 = .ok (.iload_n 2, 1) := by decide +kernel
theorem d_Mo_join_71 : decode b_Mo_join 71 = .ok (.iadd, 1) := by decide +kernel
theorem d_Mo_join_72 : decode b_Mo_join 72 = .ok (.iload_n 3, 1) := by decide +kernel
theorem d_Mo_join_73 : decode b_Mo_join 73 = .ok (.iastore, 1) := by decide +kernel
theorem d_Mo_join_74 : decode b_Mo_join 74 = .ok (.aload_n 0, 1) := by decide +kernel
theorem d_Mo_join_75 : decode b_Mo_join 75 = .ok (.getfield 27, 3) := by decide +kernel
theorem d_Mo_join_78 : decode b_Mo_join 78 = .ok (.iconst 2, 1) := by decide +kernel
theorem d_Mo_join_79 : decode b_Mo_join 79 = .ok (.iload_n 1, 1) := by decide +kernel
theorem d_Mo_join_80 : decode b_Mo_join 80 = .ok (.imul, 1) := by decide +kernel
theorem d_Mo_join_81 : decode b_Mo_join 81 = .ok (.iload_n 2, 1) := by decide +kernel
theorem d_Mo_join_82 : decode b_Mo_join 82 = .ok (.iadd, 1) := by decide +kernel
theorem d_Mo_join_83 : decode b_Mo_join 83 = .ok (.iload 4, 2) := by decide +kernel
theorem d_Mo_join_85 : decode b_Mo_join 85 = .ok (.iastore, 1) := by decide +kernel
theorem d_Mo_join_86 : decode b_Mo_join 86 = .ok (.aload_n 0, 1) := by decide +kernel
theorem d_Mo_join_87 : decode b_Mo_join 87 = .ok (.getfield 30, 3) := by decide +kernel
theorem d_Mo_join_90 : decode b_Mo_join 90 = .ok (.iconst 2, 1) := by decide +kernel
theorem d_Mo_join_91 : decode b_Mo_join 91 = .ok (.iload_n 1, 1) := by decide +kernel
theorem d_Mo_join_92 : decode b_Mo_join 92 = .ok (.imul, 1) := by decide +kernel
theorem d_Mo_join_93 : decode b_Mo_join 93 = .ok (.iload_n 2, 1) := by decide +kernel
theorem d_Mo_join_94 : decode b_Mo_join 94 = .ok (.iadd, 1) := by decide +kernel
theorem d_Mo_join_95 : decode b_Mo_join 95 = .ok (.iconst 0, 1) := by decide +kernel
theorem d_Mo_join_96 : decode b_Mo_join 96 = .ok (.iastore, 1) := by decide +kernel
theorem d_Mo_join_97 : decode b_Mo_join 97 = .ok (.iconst 0, 1) := by decide +kernel
theorem d_Mo_join_98 : decode b_Mo_join 98 = .ok (.istore 5, 2) := by decide +kernel
theorem d_Mo_join_100 : decode b_Mo_join 100 = .ok (.iconst 0, 1) := by decide +kernel
theorem d_Mo_join_101 : decode b_Mo_join 101 = .ok (.istore 6, 2) := by decide +kernel
theorem d_Mo_join_103 : decode b_Mo_join 103 = .ok (.iload 6, 2) := by decide +kernel
theorem d_Mo_join_105 : decode b_Mo_join 105 = .ok (.iconst 2, 1) := by decide +kernel
theorem d_Mo_join_106 : decode b_Mo_join 106 = .ok (.aload_n 0, 1) := by decide +kernel
theorem d_Mo_join_107 : decode b_Mo_join 107 = .ok (.getfield 85, 3) := by decide +kernel
theorem d_Mo_join_110 : decode b_Mo_join 110 = .ok (.imul, 1) := by decide +kernel
theorem d_Mo_join_111 : decode b_Mo_join 111 = .ok (.if_icmp .ge 30, 3) := by decide +kernel
theorem d_Mo_join_114 : decode b_Mo_join 114 = .ok (.iload 5, 2) := by decide +kernel
theorem d_Mo_join_116 : decode b_Mo_join 116 = .ok (.aload_n 0, 1) := by decide +kernel
theorem d_Mo_join_117 : decode b_Mo_join 117 = .ok (.getfield 24, 3) := by decide +kernel
theorem d_Mo_join_120 : decode b_Mo_join 120 = .ok (.iload 6, 2) := by decide +kernel
theorem d_Mo_join_122 : decode b_Mo_join 122 = .ok (.iaload, 1) := by decide +kernel
theorem d_Mo_join_123 : decode b_Mo_join 123 = .ok (.iload_n 3, 1) := by decide +kernel
theorem d_Mo_join_124 : decode b_Mo_join 124 = .ok (.if_icmp .ne 7, 3) := by decide +kernel
theorem d_Mo_join_127 : decode b_Mo_join 127 = .ok (.iconst 1, 1) := by decide +kernel
theorem d_Mo_join_128 : decode b_Mo_join 128 = .ok (.goto 4, 3) := by decide +kernel
theorem d_Mo_join_131 : decode b_Mo_join 131 = .ok (.iconst 0, 1) := by decide +kernel
theorem d_Mo_join_132 : decode b_Mo_join 132 = .ok (.iadd, 1) := by decide +kernel
theorem d_Mo_join_133 : decode b_Mo_join 133 = .ok (.istore 5, 2) := by decide +kernel
theorem d_Mo_join_135 : decode b_Mo_join 135 = .ok (.iinc 6 1, 3) := by decide +kernel
theorem d_Mo_join_138 : decode b_Mo_join 138 = .ok (.goto (-35), 3) := by decide +kernel
theorem d_Mo_join_141 : decode b_Mo_join 141 = .ok (.iload 5, 2) := by decide +kernel
theorem d_Mo_join_143 : decode b_Mo_join 143 = .ok (.ireturn, 1) := by decide +kernel
abbrev b_Mo_isBelt : ByteArray := prog_8_method_4_code
abbrev n_Mo_isBelt : MethodName := ⟨"BeltRowsModel", "isBelt", "(I)Z"⟩
theorem d_Mo_isBelt_0 : decode b_Mo_isBelt 0 = .ok (.iload_n 1, 1) := by decide +kernel
theorem d_Mo_isBelt_1 : decode b_Mo_isBelt 1 = .ok (.iconst 0, 1) := by decide +kernel
theorem d_Mo_isBelt_2 : decode b_Mo_isBelt 2 = .ok (.aload_n 0, 1) := by decide +kernel
theorem d_Mo_isBelt_3 : decode b_Mo_isBelt 3 = .ok (.getfield 85, 3) := by decide +kernel
theorem d_Mo_isBelt_6 : decode b_Mo_isBelt 6 = .ok (.iconst 1, 1) := by decide +kernel
theorem d_Mo_isBelt_7 : decode b_Mo_isBelt 7 = .ok (.isub, 1) := by decide +kernel
theorem d_Mo_isBelt_8 : decode b_Mo_isBelt 8 = .ok (.invokestatic 88, 3) := by decide +kernel
theorem d_Mo_isBelt_11 : decode b_Mo_isBelt 11 = .ok (.ireturn, 1) := by decide +kernel
abbrev b_Mo_run : ByteArray := prog_8_method_8_code
abbrev n_Mo_run : MethodName := ⟨"BeltRowsModel", "run", "(IIZ)V"⟩
theorem d_Mo_run_0 : decode b_Mo_run 0 = .ok (.aload_n 0, 1) := by decide +kernel
theorem d_Mo_run_1 : decode b_Mo_run 1 = .ok (.aload_n 0, 1) := by decide +kernel
theorem d_Mo_run_2 : decode b_Mo_run 2 = .ok (.iload_n 1, 1) := by decide +kernel
theorem d_Mo_run_3 : decode b_Mo_run 3 = .ok (.invokevirtual 95, 3) := by decide +kernel
theorem d_Mo_run_6 : decode b_Mo_run 6 = .ok (.ifCond .ne 7, 3) := by decide +kernel
theorem d_Mo_run_9 : decode b_Mo_run 9 = .ok (.iconst 1, 1) := by decide +kernel
theorem d_Mo_run_10 : decode b_Mo_run 10 = .ok (.goto 19, 3) := by decide +kernel
theorem d_Mo_run_13 : decode b_Mo_run 13 = .ok (.iload_n 2, 1) := by decide +kernel
theorem d_Mo_run_14 : decode b_Mo_run 14 = .ok (.iconst 0, 1) := by decide +kernel
theorem d_Mo_run_15 : decode b_Mo_run 15 = .ok (.sipush 1000, 3) := by decide +kernel
theorem d_Mo_run_18 : decode b_Mo_run 18 = .ok (.invokestatic 88, 3) := by decide +kernel
theorem d_Mo_run_21 : decode b_Mo_run 21 = .ok (.ifCond .ne 7, 3) := by decide +kernel
theorem d_Mo_run_24 : decode b_Mo_run 24 = .ok (.iconst 2, 1) := by decide +kernel
theorem d_Mo_run_25 : decode b_Mo_run 25 = .ok (.goto 4, 3) := by decide +kernel
theorem d_Mo_run_28 : decode b_Mo_run 28 = .ok (.iconst 0, 1) := by decide +kernel
theorem d_Mo_run_29 : decode b_Mo_run 29 = .ok (.putfield 82, 3) := by decide +kernel
theorem d_Mo_run_32 : decode b_Mo_run 32 = .ok (.aload_n 0, 1) := by decide +kernel
theorem d_Mo_run_33 : decode b_Mo_run 33 = .ok (.getfield 82, 3) := by decide +kernel
theorem d_Mo_run_36 : decode b_Mo_run 36 = .ok (.ifCond .le 4, 3) := by decide +kernel
theorem d_Mo_run_39 : decode b_Mo_run 39 = .ok (.return_, 1) := by decide +kernel
theorem d_Mo_run_40 : decode b_Mo_run 40 = .ok (.aload_n 0, 1) := by decide +kernel
theorem d_Mo_run_41 : decode b_Mo_run 41 = .ok (.getfield 17, 3) := by decide +kernel
theorem d_Mo_run_44 : decode b_Mo_run 44 = .ok (.iload_n 1, 1) := by decide +kernel
theorem d_Mo_run_45 : decode b_Mo_run 45 = .ok (.iload_n 2, 1) := by decide +kernel
theorem d_Mo_run_46 : decode b_Mo_run 46 = .ok (.iastore, 1) := by decide +kernel
theorem d_Mo_run_47 : decode b_Mo_run 47 = .ok (.aload_n 0, 1) := by decide +kernel
theorem d_Mo_run_48 : decode b_Mo_run 48 = .ok (.getfield 20, 3) := by decide +kernel
theorem d_Mo_run_51 : decode b_Mo_run 51 = .ok (.iload_n 1, 1) := by decide +kernel
theorem d_Mo_run_52 : decode b_Mo_run 52 = .ok (.iload_n 3, 1) := by decide +kernel
theorem d_Mo_run_53 : decode b_Mo_run 53 = .ok (.bastore, 1) := by decide +kernel
theorem d_Mo_run_54 : decode b_Mo_run 54 = .ok (.return_, 1) := by decide +kernel
abbrev b_Mo_gaps : ByteArray := prog_8_method_9_code
abbrev n_Mo_gaps : MethodName := ⟨"BeltRowsModel", "gaps", "(I)V"⟩
theorem d_Mo_gaps_0 : decode b_Mo_gaps 0 = .ok (.aload_n 0, 1) := by decide +kernel
theorem d_Mo_gaps_1 : decode b_Mo_gaps 1 = .ok (.iload_n 1, 1) := by decide +kernel
theorem d_Mo_gaps_2 : decode b_Mo_gaps 2 = .ok (.iconst 0, 1) := by decide +kernel
theorem d_Mo_gaps_3 : decode b_Mo_gaps 3 = .ok (.sipush 1000, 3) := by decide +kernel
theorem d_Mo_gaps_6 : decode b_Mo_gaps 6 = .ok (.invokestatic 88, 3) := by decide +kernel
theorem d_Mo_gaps_9 : decode b_Mo_gaps 9 = .ok (.ifCond .eq 7, 3) := by decide +kernel
theorem d_Mo_gaps_12 : decode b_Mo_gaps 12 = .ok (.iconst 0, 1) := by decide +kernel
theorem d_Mo_gaps_13 : decode b_Mo_gaps 13 = .ok (.goto 4, 3) := by decide +kernel
theorem d_Mo_gaps_16 : decode b_Mo_gaps 16 = .ok (.iconst 1, 1) := by decide +kernel
theorem d_Mo_gaps_17 : decode b_Mo_gaps 17 = .ok (.putfield 82, 3) := by decide +kernel
theorem d_Mo_gaps_20 : decode b_Mo_gaps 20 = .ok (.aload_n 0, 1) := by decide +kernel
theorem d_Mo_gaps_21 : decode b_Mo_gaps 21 = .ok (.getfield 82, 3) := by decide +kernel
theorem d_Mo_gaps_24 : decode b_Mo_gaps 24 = .ok (.ifCond .ne 8, 3) := by decide +kernel
theorem d_Mo_gaps_27 : decode b_Mo_gaps 27 = .ok (.aload_n 0, 1) := by decide +kernel
theorem d_Mo_gaps_28 : decode b_Mo_gaps 28 = .ok (.iload_n 1, 1) := by decide +kernel
theorem d_Mo_gaps_29 : decode b_Mo_gaps 29 = .ok (.putfield 7, 3) := by decide +kernel
theorem d_Mo_gaps_32 : decode b_Mo_gaps 32 = .ok (.return_, 1) := by decide +kernel
abbrev b_Mo_scanner : ByteArray := prog_8_method_10_code
abbrev n_Mo_scanner : MethodName := ⟨"BeltRowsModel", "scanner", "(III)I"⟩
theorem d_Mo_scanner_0 : decode b_Mo_scanner 0 = .ok (.aload_n 0, 1) := by decide +kernel
theorem d_Mo_scanner_1 : decode b_Mo_scanner 1 = .ok (.aload_n 0, 1) := by decide +kernel
theorem d_Mo_scanner_2 : decode b_Mo_scanner 2 = .ok (.iload_n 1, 1) := by decide +kernel
theorem d_Mo_scanner_3 : decode b_Mo_scanner 3 = .ok (.invokevirtual 95, 3) := by decide +kernel
theorem d_Mo_scanner_6 : decode b_Mo_scanner 6 = .ok (.ifCond .ne 7, 3) := by decide +kernel
theorem d_Mo_scanner_9 : decode b_Mo_scanner 9 = .ok (.iconst 1, 1) := by decide +kernel
theorem d_Mo_scanner_10 : decode b_Mo_scanner 10 = .ok (.goto 58, 3) := by decide +kernel
theorem d_Mo_scanner_13 : decode b_Mo_scanner 13 = .ok (.iload_n 2, 1) := by decide +kernel
theorem d_Mo_scanner_14 : decode b_Mo_scanner 14 = .ok (.iconst 1, 1) := by decide +kernel
theorem d_Mo_scanner_15 : decode b_Mo_scanner 15 = .ok (.aload_n 0, 1) := by decide +kernel
theorem d_Mo_scanner_16 : decode b_Mo_scanner 16 = .ok (.getfield 13, 3) := by decide +kernel
theorem d_Mo_scanner_19 : decode b_Mo_scanner 19 = .ok (.iload_n 1, 1) := by decide +kernel
theorem d_Mo_scanner_20 : decode b_Mo_scanner 20 = .ok (.iconst 0, 1) := by decide +kernel
theorem d_Mo_scanner_21 : decode b_Mo_scanner 21 = .ok (.bipush 7, 2) := by decide +kernel
theorem d_Mo_scanner_23 : decode b_Mo_scanner 23 = .ok (.invokestatic 88, 3) := by decide +kernel
theorem d_Mo_scanner_26 : decode b_Mo_scanner 26 = .ok (.ifCond .eq 7, 3) := by decide +kernel
theorem d_Mo_scanner_29 : decode b_Mo_scanner 29 = .ok (.iload_n 1, 1) := by decide +kernel
theorem d_Mo_scanner_30 : decode b_Mo_scanner 30 = .ok (.goto 4, 3) := by decide +kernel
theorem d_Mo_scanner_33 : decode b_Mo_scanner 33 = .ok (.iconst 0, 1) := by decide +kernel
theorem d_Mo_scanner_34 : decode b_Mo_scanner 34 = .ok (.iaload, 1) := by decide +kernel
theorem d_Mo_scanner_35 : decode b_Mo_scanner 35 = .ok (.invokestatic 88, 3) := by decide +kernel
theorem d_Mo_scanner_38 : decode b_Mo_scanner 38 = .ok (.ifCond .eq 13, 3) := by decide +kernel
theorem d_Mo_scanner_41 : decode b_Mo_scanner 41 = .ok (.iload_n 3, 1) := by decide +kernel
theorem d_Mo_scanner_42 : decode b_Mo_scanner 42 = .ok (.iconst 1, 1) := by decide +kernel
theorem d_Mo_scanner_43 : decode b_Mo_scanner 43 = .ok (.bipush 20, 2) := by decide +kernel
theorem d_Mo_scanner_45 : decode b_Mo_scanner 45 = .ok (.invokestatic 88, 3) := by decide +kernel
theorem d_Mo_scanner_48 : decode b_Mo_scanner 48 = .ok (.ifCond .ne 7, 3) := by decide +kernel
theorem d_Mo_scanner_51 : decode b_Mo_scanner 51 = .ok (.iconst 2, 1) := by decide +kernel
theorem d_Mo_scanner_52 : decode b_Mo_scanner 52 = .ok (.goto 16, 3) := by decide +kernel
theorem d_Mo_scanner_55 : decode b_Mo_scanner 55 = .ok (.aload_n 0, 1) := by decide +kernel
theorem d_Mo_scanner_56 : decode b_Mo_scanner 56 = .ok (.getfield 99, 3) := by decide +kernel
theorem d_Mo_scanner_59 : decode b_Mo_scanner 59 = .ok (.iconst 4, 1) := by decide +kernel
theorem d_Mo_scanner_60 : decode b_Mo_scanner 60 = .ok (.if_icmp .ne 7, 3) := by decide +kernel
theorem d_Mo_scanner_63 : decode b_Mo_scanner 63 = .ok (.iconst 3, 1) := by decide +kernel
theorem d_Mo_scanner_64 : decode b_Mo_scanner 64 = .ok (.goto 4, 3) := by decide +kernel
theorem d_Mo_scanner_67 : decode b_Mo_scanner 67 = .ok (.iconst 0, 1) := by decide +kernel
theorem d_Mo_scanner_68 : decode b_Mo_scanner 68 = .ok (.putfield 82, 3) := by decide +kernel
theorem d_Mo_scanner_71 : decode b_Mo_scanner 71 = .ok (.aload_n 0, 1) := by decide +kernel
theorem d_Mo_scanner_72 : decode b_Mo_scanner 72 = .ok (.getfield 82, 3) := by decide +kernel
theorem d_Mo_scanner_75 : decode b_Mo_scanner 75 = .ok (.ifCond .le 5, 3) := by decide +kernel
theorem d_Mo_scanner_78 : decode b_Mo_scanner 78 = .ok (.iconst 0, 1) := by decide +kernel
theorem d_Mo_scanner_79 : decode b_Mo_scanner 79 = .ok (.ireturn, 1) := by decide +kernel
theorem d_Mo_scanner_80 : decode b_Mo_scanner 80 = .ok (.aload_n 0, 1) := by decide +kernel
theorem d_Mo_scanner_81 : decode b_Mo_scanner 81 = .ok (.getfield 63, 3) := by decide +kernel
theorem d_Mo_scanner_84 : decode b_Mo_scanner 84 = .ok (.aload_n 0, 1) := by decide +kernel
theorem d_Mo_scanner_85 : decode b_Mo_scanner 85 = .ok (.getfield 99, 3) := by decide +kernel
theorem d_Mo_scanner_88 : decode b_Mo_scanner 88 = .ok (.iload_n 1, 1) := by decide +kernel
theorem d_Mo_scanner_89 : decode b_Mo_scanner 89 = .ok (.iastore, 1) := by decide +kernel
theorem d_Mo_scanner_90 : decode b_Mo_scanner 90 = .ok (.aload_n 0, 1) := by decide +kernel
theorem d_Mo_scanner_91 : decode b_Mo_scanner 91 = .ok (.getfield 66, 3) := by decide +kernel
theorem d_Mo_scanner_94 : decode b_Mo_scanner 94 = .ok (.aload_n 0, 1) := by decide +kernel
theorem d_Mo_scanner_95 : decode b_Mo_scanner 95 = .ok (.getfield 99, 3) := by decide +kernel
theorem d_Mo_scanner_98 : decode b_Mo_scanner 98 = .ok (.iload_n 2, 1) := by decide +kernel
theorem d_Mo_scanner_99 : decode b_Mo_scanner 99 = .ok (.iastore, 1) := by decide +kernel
theorem d_Mo_scanner_100 : decode b_Mo_scanner 100 = .ok (.aload_n 0, 1) := by decide +kernel
theorem d_Mo_scanner_101 : decode b_Mo_scanner 101 = .ok (.getfield 69, 3) := by decide +kernel
theorem d_Mo_scanner_104 : decode b_Mo_scanner 104 = .ok (.aload_n 0, 1) := by decide +kernel
theorem d_Mo_scanner_105 : decode b_Mo_scanner 105 = .ok (.getfield 99, 3) := by decide +kernel
theorem d_Mo_scanner_108 : decode b_Mo_scanner 108 = .ok (.iload_n 3, 1) := by decide +kernel
theorem d_Mo_scanner_109 : decode b_Mo_scanner 109 = .ok (.iastore, 1) := by decide +kernel
theorem d_Mo_scanner_110 : decode b_Mo_scanner 110 = .ok (.aload_n 0, 1) := by decide +kernel
theorem d_Mo_scanner_111 : decode b_Mo_scanner 111 = .ok (.dup, 1) := by decide +kernel
theorem d_Mo_scanner_112 : decode b_Mo_scanner 112 = .ok (.getfield 99, 3) := by decide +kernel
theorem d_Mo_scanner_115 : decode b_Mo_scanner 115 = .ok (.iconst 1, 1) := by decide +kernel
theorem d_Mo_scanner_116 : decode b_Mo_scanner 116 = .ok (.iadd, 1) := by decide +kernel
theorem d_Mo_scanner_117 : decode b_Mo_scanner 117 = .ok (.putfield 99, 3) := by decide +kernel
theorem d_Mo_scanner_120 : decode b_Mo_scanner 120 = .ok (.aload_n 0, 1) := by decide +kernel
theorem d_Mo_scanner_121 : decode b_Mo_scanner 121 = .ok (.getfield 99, 3) := by decide +kernel
theorem d_Mo_scanner_124 : decode b_Mo_scanner 124 = .ok (.iconst 1, 1) := by decide +kernel
theorem d_Mo_scanner_125 : decode b_Mo_scanner 125 = .ok (.isub, 1) := by decide +kernel
theorem d_Mo_scanner_126 : decode b_Mo_scanner 126 = .ok (.ireturn, 1) := by decide +kernel
abbrev b_Mo_item : ByteArray := prog_8_method_17_code
abbrev n_Mo_item : MethodName := ⟨"BeltRowsModel", "item", "(II)I"⟩
theorem d_Mo_item_0 : decode b_Mo_item 0 = .ok (.aload_n 0, 1) := by decide +kernel
theorem d_Mo_item_1 : decode b_Mo_item 1 = .ok (.aload_n 0, 1) := by decide +kernel
theorem d_Mo_item_2 : decode b_Mo_item 2 = .ok (.iload_n 1, 1) := by decide +kernel
theorem d_Mo_item_3 : decode b_Mo_item 3 = .ok (.invokevirtual 95, 3) := by decide +kernel
theorem d_Mo_item_6 : decode b_Mo_item 6 = .ok (.ifCond .ne 7, 3) := by decide +kernel
theorem d_Mo_item_9 : decode b_Mo_item 9 = .ok (.iconst 1, 1) := by decide +kernel
theorem d_Mo_item_10 : decode b_Mo_item 10 = .ok (.goto 32, 3) := by decide +kernel
theorem d_Mo_item_13 : decode b_Mo_item 13 = .ok (.iload_n 2, 1) := by decide +kernel
theorem d_Mo_item_14 : decode b_Mo_item 14 = .ok (.iconst 1, 1) := by decide +kernel
theorem d_Mo_item_15 : decode b_Mo_item 15 = .ok (.sipush 2000, 3) := by decide +kernel
theorem d_Mo_item_18 : decode b_Mo_item 18 = .ok (.invokestatic 88, 3) := by decide +kernel
theorem d_Mo_item_21 : decode b_Mo_item 21 = .ok (.ifCond .ne 7, 3) := by decide +kernel
theorem d_Mo_item_24 : decode b_Mo_item 24 = .ok (.iconst 2, 1) := by decide +kernel
theorem d_Mo_item_25 : decode b_Mo_item 25 = .ok (.goto 17, 3) := by decide +kernel
theorem d_Mo_item_28 : decode b_Mo_item 28 = .ok (.aload_n 0, 1) := by decide +kernel
theorem d_Mo_item_29 : decode b_Mo_item 29 = .ok (.getfield 92, 3) := by decide +kernel
theorem d_Mo_item_32 : decode b_Mo_item 32 = .ok (.bipush 60, 2) := by decide +kernel
theorem d_Mo_item_34 : decode b_Mo_item 34 = .ok (.if_icmp .ne 7, 3) := by decide +kernel
theorem d_Mo_item_37 : decode b_Mo_item 37 = .ok (.iconst 3, 1) := by decide +kernel
theorem d_Mo_item_38 : decode b_Mo_item 38 = .ok (.goto 4, 3) := by decide +kernel
theorem d_Mo_item_41 : decode b_Mo_item 41 = .ok (.iconst 0, 1) := by decide +kernel
theorem d_Mo_item_42 : decode b_Mo_item 42 = .ok (.putfield 82, 3) := by decide +kernel
theorem d_Mo_item_45 : decode b_Mo_item 45 = .ok (.aload_n 0, 1) := by decide +kernel
theorem d_Mo_item_46 : decode b_Mo_item 46 = .ok (.getfield 82, 3) := by decide +kernel
theorem d_Mo_item_49 : decode b_Mo_item 49 = .ok (.ifCond .le 5, 3) := by decide +kernel
theorem d_Mo_item_52 : decode b_Mo_item 52 = .ok (.iconst 0, 1) := by decide +kernel
theorem d_Mo_item_53 : decode b_Mo_item 53 = .ok (.ireturn, 1) := by decide +kernel
theorem d_Mo_item_54 : decode b_Mo_item 54 = .ok (.aload_n 0, 1) := by decide +kernel
theorem d_Mo_item_55 : decode b_Mo_item 55 = .ok (.iload_n 1, 1) := by decide +kernel
theorem d_Mo_item_56 : decode b_Mo_item 56 = .ok (.invokevirtual 112, 3) := by decide +kernel
theorem d_Mo_item_59 : decode b_Mo_item 59 = .ok (.ifCond .le 10, 3) := by decide +kernel
theorem d_Mo_item_62 : decode b_Mo_item 62 = .ok (.aload_n 0, 1) := by decide +kernel
theorem d_Mo_item_63 : decode b_Mo_item 63 = .ok (.iload_n 1, 1) := by decide +kernel
theorem d_Mo_item_64 : decode b_Mo_item 64 = .ok (.invokevirtual 112, 3) := by decide +kernel
theorem d_Mo_item_67 : decode b_Mo_item 67 = .ok (.ineg, 1) := by decide +kernel
theorem d_Mo_item_68 : decode b_Mo_item 68 = .ok (.ireturn, 1) := by decide +kernel
theorem d_Mo_item_69 : decode b_Mo_item 69 = .ok (.aload_n 0, 1) := by decide +kernel
theorem d_Mo_item_70 : decode b_Mo_item 70 = .ok (.dup, 1) := by decide +kernel
theorem d_Mo_item_71 : decode b_Mo_item 71 = .ok (.getfield 92, 3) := by decide +kernel
theorem d_Mo_item_74 : decode b_Mo_item 74 = .ok (.iconst 1, 1) := by decide +kernel
theorem d_Mo_item_75 : decode b_Mo_item 75 = .ok (.iadd, 1) := by decide +kernel
theorem d_Mo_item_76 : decode b_Mo_item 76 = .ok (.putfield 92, 3) := by decide +kernel
theorem d_Mo_item_79 : decode b_Mo_item 79 = .ok (.aload_n 0, 1) := by decide +kernel
theorem d_Mo_item_80 : decode b_Mo_item 80 = .ok (.getfield 48, 3) := by decide +kernel
theorem d_Mo_item_83 : decode b_Mo_item 83 = .ok (.aload_n 0, 1) := by decide +kernel
theorem d_Mo_item_84 : decode b_Mo_item 84 = .ok (.getfield 92, 3) := by decide +kernel
theorem d_Mo_item_87 : decode b_Mo_item 87 = .ok (.iload_n 2, 1) := by decide +kernel
theorem d_Mo_item_88 : decode b_Mo_item 88 = .ok (.iastore, 1) := by decide +kernel
theorem d_Mo_item_89 : decode b_Mo_item 89 = .ok (.aload_n 0, 1) := by decide +kernel
theorem d_Mo_item_90 : decode b_Mo_item 90 = .ok (.getfield 39, 3) := by decide +kernel
theorem d_Mo_item_93 : decode b_Mo_item 93 = .ok (.aload_n 0, 1) := by decide +kernel
theorem d_Mo_item_94 : decode b_Mo_item 94 = .ok (.getfield 92, 3) := by decide +kernel
theorem d_Mo_item_97 : decode b_Mo_item 97 = .ok (.iconst 0, 1) := by decide +kernel
theorem d_Mo_item_98 : decode b_Mo_item 98 = .ok (.iastore, 1) := by decide +kernel
theorem d_Mo_item_99 : decode b_Mo_item 99 = .ok (.aload_n 0, 1) := by decide +kernel
theorem d_Mo_item_100 : decode b_Mo_item 100 = .ok (.getfield 60, 3) := by decide +kernel
theorem d_Mo_item_103 : decode b_Mo_item 103 = .ok (.aload_n 0, 1) := by decide +kernel
theorem d_Mo_item_104 : decode b_Mo_item 104 = .ok (.getfield 92, 3) := by decide +kernel
theorem d_Mo_item_107 : decode b_Mo_item 107 = .ok (.aload_n 0, 1) := by decide +kernel
theorem d_Mo_item_108 : decode b_Mo_item 108 = .ok (.getfield 115, 3) := by decide +kernel
theorem d_Mo_item_111 : decode b_Mo_item 111 = .ok (.iastore, 1) := by decide +kernel
theorem d_Mo_item_112 : decode b_Mo_item 112 = .ok (.aload_n 0, 1) := by decide +kernel
theorem d_Mo_item_113 : decode b_Mo_item 113 = .ok (.aload_n 0, 1) := by decide +kernel
theorem d_Mo_item_114 : decode b_Mo_item 114 = .ok (.getfield 92, 3) := by decide +kernel
theorem d_Mo_item_117 : decode b_Mo_item 117 = .ok (.iload_n 1, 1) := by decide +kernel
theorem d_Mo_item_118 : decode b_Mo_item 118 = .ok (.invokevirtual 118, 3) := by decide +kernel
theorem d_Mo_item_121 : decode b_Mo_item 121 = .ok (.aload_n 0, 1) := by decide +kernel
theorem d_Mo_item_122 : decode b_Mo_item 122 = .ok (.getfield 92, 3) := by decide +kernel
theorem d_Mo_item_125 : decode b_Mo_item 125 = .ok (.ireturn, 1) := by decide +kernel
abbrev b_Mo_missing : ByteArray := prog_8_method_13_code
abbrev n_Mo_missing : MethodName := ⟨"BeltRowsModel", "missing", "(I)I"⟩
theorem d_Mo_missing_0 : decode b_Mo_missing 0 = .ok (.aload_n 0, 1) := by decide +kernel
theorem d_Mo_missing_1 : decode b_Mo_missing 1 = .ok (.getfield 33, 3) := by decide +kernel
theorem d_Mo_missing_4 : decode b_Mo_missing 4 = .ok (.iload_n 1, 1) := by decide +kernel
theorem d_Mo_missing_5 : decode b_Mo_missing 5 = .ok (.iaload, 1) := by decide +kernel
theorem d_Mo_missing_6 : decode b_Mo_missing 6 = .ok (.ifCond .ne 7, 3) := by decide +kernel
theorem d_Mo_missing_9 : decode b_Mo_missing 9 = .ok (.iconst 0, 1) := by decide +kernel
theorem d_Mo_missing_10 : decode b_Mo_missing 10 = .ok (.goto 17, 3) := by decide +kernel
theorem d_Mo_missing_13 : decode b_Mo_missing 13 = .ok (.aload_n 0, 1) := by decide +kernel
theorem d_Mo_missing_14 : decode b_Mo_missing 14 = .ok (.getfield 7, 3) := by decide +kernel
theorem d_Mo_missing_17 : decode b_Mo_missing 17 = .ok (.aload_n 0, 1) := by decide +kernel
theorem d_Mo_missing_18 : decode b_Mo_missing 18 = .ok (.aload_n 0, 1) := by decide +kernel
theorem d_Mo_missing_19 : decode b_Mo_missing 19 = .ok (.iload_n 1, 1) := by decide +kernel
theorem d_Mo_missing_20 : decode b_Mo_missing 20 = .ok (.invokevirtual 102, 3) := by decide +kernel
theorem d_Mo_missing_23 : decode b_Mo_missing 23 = .ok (.invokevirtual 106, 3) := by decide +kernel
theorem d_Mo_missing_26 : decode b_Mo_missing 26 = .ok (.isub, 1) := by decide +kernel
theorem d_Mo_missing_27 : decode b_Mo_missing 27 = .ok (.ireturn, 1) := by decide +kernel
abbrev b_Mo_last : ByteArray := prog_8_method_11_code
abbrev n_Mo_last : MethodName := ⟨"BeltRowsModel", "last", "(I)I"⟩
theorem d_Mo_last_0 : decode b_Mo_last 0 = .ok (.aload_n 0, 1) := by decide +kernel
theorem d_Mo_last_1 : decode b_Mo_last 1 = .ok (.getfield 36, 3) := by decide +kernel
theorem d_Mo_last_4 : decode b_Mo_last 4 = .ok (.bipush 60, 2) := by decide +kernel
theorem d_Mo_last_6 : decode b_Mo_last 6 = .ok (.iload_n 1, 1) := by decide +kernel
theorem d_Mo_last_7 : decode b_Mo_last 7 = .ok (.imul, 1) := by decide +kernel
theorem d_Mo_last_8 : decode b_Mo_last 8 = .ok (.aload_n 0, 1) := by decide +kernel
theorem d_Mo_last_9 : decode b_Mo_last 9 = .ok (.getfield 33, 3) := by decide +kernel
theorem d_Mo_last_12 : decode b_Mo_last 12 = .ok (.iload_n 1, 1) := by decide +kernel
theorem d_Mo_last_13 : decode b_Mo_last 13 = .ok (.iaload, 1) := by decide +kernel
theorem d_Mo_last_14 : decode b_Mo_last 14 = .ok (.iadd, 1) := by decide +kernel
theorem d_Mo_last_15 : decode b_Mo_last 15 = .ok (.iconst 1, 1) := by decide +kernel
theorem d_Mo_last_16 : decode b_Mo_last 16 = .ok (.isub, 1) := by decide +kernel
theorem d_Mo_last_17 : decode b_Mo_last 17 = .ok (.iaload, 1) := by decide +kernel
theorem d_Mo_last_18 : decode b_Mo_last 18 = .ok (.ireturn, 1) := by decide +kernel
abbrev b_Mo_rear : ByteArray := prog_8_method_12_code
abbrev n_Mo_rear : MethodName := ⟨"BeltRowsModel", "rear", "(I)I"⟩
theorem d_Mo_rear_0 : decode b_Mo_rear 0 = .ok (.aload_n 0, 1) := by decide +kernel
theorem d_Mo_rear_1 : decode b_Mo_rear 1 = .ok (.getfield 45, 3) := by decide +kernel
theorem d_Mo_rear_4 : decode b_Mo_rear 4 = .ok (.iload_n 1, 1) := by decide +kernel
theorem d_Mo_rear_5 : decode b_Mo_rear 5 = .ok (.iaload, 1) := by decide +kernel
theorem d_Mo_rear_6 : decode b_Mo_rear 6 = .ok (.aload_n 0, 1) := by decide +kernel
theorem d_Mo_rear_7 : decode b_Mo_rear 7 = .ok (.getfield 48, 3) := by decide +kernel
theorem d_Mo_rear_10 : decode b_Mo_rear 10 = .ok (.iload_n 1, 1) := by decide +kernel
theorem d_Mo_rear_11 : decode b_Mo_rear 11 = .ok (.iaload, 1) := by decide +kernel
theorem d_Mo_rear_12 : decode b_Mo_rear 12 = .ok (.isub, 1) := by decide +kernel
theorem d_Mo_rear_13 : decode b_Mo_rear 13 = .ok (.ireturn, 1) := by decide +kernel
abbrev b_Mo_come : ByteArray := prog_8_method_14_code
abbrev n_Mo_come : MethodName := ⟨"BeltRowsModel", "come", "(II)V"⟩
theorem d_Mo_come_0 : decode b_Mo_come 0 = .ok (.aload_n 0, 1) := by decide +kernel
theorem d_Mo_come_1 : decode b_Mo_come 1 = .ok (.getfield 42, 3) := by decide +kernel
theorem d_Mo_come_4 : decode b_Mo_come 4 = .ok (.iload_n 1, 1) := by decide +kernel
theorem d_Mo_come_5 : decode b_Mo_come 5 = .ok (.iload_n 2, 1) := by decide +kernel
theorem d_Mo_come_6 : decode b_Mo_come 6 = .ok (.iastore, 1) := by decide +kernel
theorem d_Mo_come_7 : decode b_Mo_come 7 = .ok (.aload_n 0, 1) := by decide +kernel
theorem d_Mo_come_8 : decode b_Mo_come 8 = .ok (.getfield 45, 3) := by decide +kernel
theorem d_Mo_come_11 : decode b_Mo_come 11 = .ok (.iload_n 1, 1) := by decide +kernel
theorem d_Mo_come_12 : decode b_Mo_come 12 = .ok (.iconst 0, 1) := by decide +kernel
theorem d_Mo_come_13 : decode b_Mo_come 13 = .ok (.iastore, 1) := by decide +kernel
theorem d_Mo_come_14 : decode b_Mo_come 14 = .ok (.aload_n 0, 1) := by decide +kernel
theorem d_Mo_come_15 : decode b_Mo_come 15 = .ok (.getfield 51, 3) := by decide +kernel
theorem d_Mo_come_18 : decode b_Mo_come 18 = .ok (.iload_n 1, 1) := by decide +kernel
theorem d_Mo_come_19 : decode b_Mo_come 19 = .ok (.iconst 0, 1) := by decide +kernel
theorem d_Mo_come_20 : decode b_Mo_come 20 = .ok (.iastore, 1) := by decide +kernel
theorem d_Mo_come_21 : decode b_Mo_come 21 = .ok (.aload_n 0, 1) := by decide +kernel
theorem d_Mo_come_22 : decode b_Mo_come 22 = .ok (.getfield 54, 3) := by decide +kernel
theorem d_Mo_come_25 : decode b_Mo_come 25 = .ok (.iload_n 1, 1) := by decide +kernel
theorem d_Mo_come_26 : decode b_Mo_come 26 = .ok (.iconst 0, 1) := by decide +kernel
theorem d_Mo_come_27 : decode b_Mo_come 27 = .ok (.bastore, 1) := by decide +kernel
theorem d_Mo_come_28 : decode b_Mo_come 28 = .ok (.aload_n 0, 1) := by decide +kernel
theorem d_Mo_come_29 : decode b_Mo_come 29 = .ok (.getfield 57, 3) := by decide +kernel
theorem d_Mo_come_32 : decode b_Mo_come 32 = .ok (.iload_n 1, 1) := by decide +kernel
theorem d_Mo_come_33 : decode b_Mo_come 33 = .ok (.iconst 0, 1) := by decide +kernel
theorem d_Mo_come_34 : decode b_Mo_come 34 = .ok (.iastore, 1) := by decide +kernel
theorem d_Mo_come_35 : decode b_Mo_come 35 = .ok (.aload_n 0, 1) := by decide +kernel
theorem d_Mo_come_36 : decode b_Mo_come 36 = .ok (.getfield 36, 3) := by decide +kernel
theorem d_Mo_come_39 : decode b_Mo_come 39 = .ok (.bipush 60, 2) := by decide +kernel
theorem d_Mo_come_41 : decode b_Mo_come 41 = .ok (.iload_n 2, 1) := by decide +kernel
theorem d_Mo_come_42 : decode b_Mo_come 42 = .ok (.imul, 1) := by decide +kernel
theorem d_Mo_come_43 : decode b_Mo_come 43 = .ok (.aload_n 0, 1) := by decide +kernel
theorem d_Mo_come_44 : decode b_Mo_come 44 = .ok (.getfield 33, 3) := by decide +kernel
theorem d_Mo_come_47 : decode b_Mo_come 47 = .ok (.iload_n 2, 1) := by decide +kernel
theorem d_Mo_come_48 : decode b_Mo_come 48 = .ok (.iaload, 1) := by decide +kernel
theorem d_Mo_come_49 : decode b_Mo_come 49 = .ok (.iadd, 1) := by decide +kernel
theorem d_Mo_come_50 : decode b_Mo_come 50 = .ok (.iload_n 1, 1) := by decide +kernel
theorem d_Mo_come_51 : decode b_Mo_come 51 = .ok (.iastore, 1) := by decide +kernel
theorem d_Mo_come_52 : decode b_Mo_come 52 = .ok (.aload_n 0, 1) := by decide +kernel
theorem d_Mo_come_53 : decode b_Mo_come 53 = .ok (.getfield 33, 3) := by decide +kernel
theorem d_Mo_come_56 : decode b_Mo_come 56 = .ok (.iload_n 2, 1) := by decide +kernel
theorem d_Mo_come_57 : decode b_Mo_come 57 = .ok (.dup2, 1) := by decide +kernel
theorem d_Mo_come_58 : decode b_Mo_come 58 = .ok (.iaload, 1) := by decide +kernel
theorem d_Mo_come_59 : decode b_Mo_come 59 = .ok (.iconst 1, 1) := by decide +kernel
theorem d_Mo_come_60 : decode b_Mo_come 60 = .ok (.iadd, 1) := by decide +kernel
theorem d_Mo_come_61 : decode b_Mo_come 61 = .ok (.iastore, 1) := by decide +kernel
theorem d_Mo_come_62 : decode b_Mo_come 62 = .ok (.return_, 1) := by decide +kernel
abbrev b_Mo_divert : ByteArray := prog_8_method_18_code
abbrev n_Mo_divert : MethodName := ⟨"BeltRowsModel", "divert", "(II)I"⟩
theorem d_Mo_divert_0 : decode b_Mo_divert 0 = .ok (.aload_n 0, 1) := by decide +kernel
theorem d_Mo_divert_1 : decode b_Mo_divert 1 = .ok (.aload_n 0, 1) := by decide +kernel
theorem d_Mo_divert_2 : decode b_Mo_divert 2 = .ok (.iload_n 1, 1) := by decide +kernel
theorem d_Mo_divert_3 : decode b_Mo_divert 3 = .ok (.invokevirtual 122, 3) := by decide +kernel
theorem d_Mo_divert_6 : decode b_Mo_divert 6 = .ok (.ifCond .ne 7, 3) := by decide +kernel
theorem d_Mo_divert_9 : decode b_Mo_divert 9 = .ok (.iconst 1, 1) := by decide +kernel
theorem d_Mo_divert_10 : decode b_Mo_divert 10 = .ok (.goto 17, 3) := by decide +kernel
theorem d_Mo_divert_13 : decode b_Mo_divert 13 = .ok (.iload_n 2, 1) := by decide +kernel
theorem d_Mo_divert_14 : decode b_Mo_divert 14 = .ok (.iconst 0, 1) := by decide +kernel
theorem d_Mo_divert_15 : decode b_Mo_divert 15 = .ok (.iconst 1, 1) := by decide +kernel
theorem d_Mo_divert_16 : decode b_Mo_divert 16 = .ok (.invokestatic 88, 3) := by decide +kernel
theorem d_Mo_divert_19 : decode b_Mo_divert 19 = .ok (.ifCond .ne 7, 3) := by decide +kernel
theorem d_Mo_divert_22 : decode b_Mo_divert 22 = .ok (.iconst 2, 1) := by decide +kernel
theorem d_Mo_divert_23 : decode b_Mo_divert 23 = .ok (.goto 4, 3) := by decide +kernel
theorem d_Mo_divert_26 : decode b_Mo_divert 26 = .ok (.iconst 0, 1) := by decide +kernel
theorem d_Mo_divert_27 : decode b_Mo_divert 27 = .ok (.putfield 82, 3) := by decide +kernel
theorem d_Mo_divert_30 : decode b_Mo_divert 30 = .ok (.aload_n 0, 1) := by decide +kernel
theorem d_Mo_divert_31 : decode b_Mo_divert 31 = .ok (.getfield 82, 3) := by decide +kernel
theorem d_Mo_divert_34 : decode b_Mo_divert 34 = .ok (.ifCond .ne 21, 3) := by decide +kernel
theorem d_Mo_divert_37 : decode b_Mo_divert 37 = .ok (.aload_n 0, 1) := by decide +kernel
theorem d_Mo_divert_38 : decode b_Mo_divert 38 = .ok (.aload_n 0, 1) := by decide +kernel
theorem d_Mo_divert_39 : decode b_Mo_divert 39 = .ok (.getfield 39, 3) := by decide +kernel
theorem d_Mo_divert_42 : decode b_Mo_divert 42 = .ok (.iload_n 1, 1) := by decide +kernel
theorem d_Mo_divert_43 : decode b_Mo_divert 43 = .ok (.iaload, 1) := by decide +kernel
theorem d_Mo_divert_44 : decode b_Mo_divert 44 = .ok (.ifCond .eq 7, 3) := by decide +kernel
theorem d_Mo_divert_47 : decode b_Mo_divert 47 = .ok (.iconst 3, 1) := by decide +kernel
theorem d_Mo_divert_48 : decode b_Mo_divert 48 = .ok (.goto 4, 3) := by decide +kernel
theorem d_Mo_divert_51 : decode b_Mo_divert 51 = .ok (.iconst 0, 1) := by decide +kernel
theorem d_Mo_divert_52 : decode b_Mo_divert 52 = .ok (.putfield 82, 3) := by decide +kernel
theorem d_Mo_divert_55 : decode b_Mo_divert 55 = .ok (.aload_n 0, 1) := by decide +kernel
theorem d_Mo_divert_56 : decode b_Mo_divert 56 = .ok (.getfield 82, 3) := by decide +kernel
theorem d_Mo_divert_59 : decode b_Mo_divert 59 = .ok (.ifCond .le 5, 3) := by decide +kernel
theorem d_Mo_divert_62 : decode b_Mo_divert 62 = .ok (.iconst 0, 1) := by decide +kernel
theorem d_Mo_divert_63 : decode b_Mo_divert 63 = .ok (.ireturn, 1) := by decide +kernel
theorem d_Mo_divert_64 : decode b_Mo_divert 64 = .ok (.aload_n 0, 1) := by decide +kernel
theorem d_Mo_divert_65 : decode b_Mo_divert 65 = .ok (.getfield 54, 3) := by decide +kernel
theorem d_Mo_divert_68 : decode b_Mo_divert 68 = .ok (.iload_n 1, 1) := by decide +kernel
theorem d_Mo_divert_69 : decode b_Mo_divert 69 = .ok (.baload, 1) := by decide +kernel
theorem d_Mo_divert_70 : decode b_Mo_divert 70 = .ok (.istore_n 3, 1) := by decide +kernel
theorem d_Mo_divert_71 : decode b_Mo_divert 71 = .ok (.aload_n 0, 1) := by decide +kernel
theorem d_Mo_divert_72 : decode b_Mo_divert 72 = .ok (.getfield 51, 3) := by decide +kernel
theorem d_Mo_divert_75 : decode b_Mo_divert 75 = .ok (.iload_n 1, 1) := by decide +kernel
theorem d_Mo_divert_76 : decode b_Mo_divert 76 = .ok (.iload_n 2, 1) := by decide +kernel
theorem d_Mo_divert_77 : decode b_Mo_divert 77 = .ok (.iastore, 1) := by decide +kernel
theorem d_Mo_divert_78 : decode b_Mo_divert 78 = .ok (.aload_n 0, 1) := by decide +kernel
theorem d_Mo_divert_79 : decode b_Mo_divert 79 = .ok (.getfield 54, 3) := by decide +kernel
theorem d_Mo_divert_82 : decode b_Mo_divert 82 = .ok (.iload_n 1, 1) := by decide +kernel
theorem d_Mo_divert_83 : decode b_Mo_divert 83 = .ok (.iconst 1, 1) := by decide +kernel
theorem d_Mo_divert_84 : decode b_Mo_divert 84 = .ok (.bastore, 1) := by decide +kernel
theorem d_Mo_divert_85 : decode b_Mo_divert 85 = .ok (.iload_n 3, 1) := by decide +kernel
theorem d_Mo_divert_86 : decode b_Mo_divert 86 = .ok (.ifCond .eq 7, 3) := by decide +kernel
theorem d_Mo_divert_89 : decode b_Mo_divert 89 = .ok (.iconst 2, 1) := by decide +kernel
theorem d_Mo_divert_90 : decode b_Mo_divert 90 = .ok (.goto 4, 3) := by decide +kernel
theorem d_Mo_divert_93 : decode b_Mo_divert 93 = .ok (.iconst 1, 1) := by decide +kernel
theorem d_Mo_divert_94 : decode b_Mo_divert 94 = .ok (.ireturn, 1) := by decide +kernel
abbrev b_Mo_isItem : ByteArray := prog_8_method_5_code
abbrev n_Mo_isItem : MethodName := ⟨"BeltRowsModel", "isItem", "(I)Z"⟩
theorem d_Mo_isItem_0 : decode b_Mo_isItem 0 = .ok (.iload_n 1, 1) := by decide +kernel
theorem d_Mo_isItem_1 : decode b_Mo_isItem 1 = .ok (.iconst 1, 1) := by decide +kernel
theorem d_Mo_isItem_2 : decode b_Mo_isItem 2 = .ok (.aload_n 0, 1) := by decide +kernel
theorem d_Mo_isItem_3 : decode b_Mo_isItem 3 = .ok (.getfield 92, 3) := by decide +kernel
theorem d_Mo_isItem_6 : decode b_Mo_isItem 6 = .ok (.invokestatic 88, 3) := by decide +kernel
theorem d_Mo_isItem_9 : decode b_Mo_isItem 9 = .ok (.ireturn, 1) := by decide +kernel
abbrev b_Mo_step : ByteArray := prog_8_method_25_code
abbrev n_Mo_step : MethodName := ⟨"BeltRowsModel", "step", "(I)I"⟩
theorem d_Mo_step_0 : decode b_Mo_step 0 = .ok (.aload_n 0, 1) := by decide +kernel
theorem d_Mo_step_1 : decode b_Mo_step 1 = .ok (.iload_n 1, 1) := by decide +kernel
theorem d_Mo_step_2 : decode b_Mo_step 2 = .ok (.iconst 0, 1) := by decide +kernel
theorem d_Mo_step_3 : decode b_Mo_step 3 = .ok (.bipush 100, 2) := by decide +kernel
theorem d_Mo_step_5 : decode b_Mo_step 5 = .ok (.invokestatic 88, 3) := by decide +kernel
theorem d_Mo_step_8 : decode b_Mo_step 8 = .ok (.ifCond .eq 7, 3) := by decide +kernel
theorem d_Mo_step_11 : decode b_Mo_step 11 = .ok (.iconst 0, 1) := by decide +kernel
theorem d_Mo_step_12 : decode b_Mo_step 12 = .ok (.goto 4, 3) := by decide +kernel
theorem d_Mo_step_15 : decode b_Mo_step 15 = .ok (.iconst 1, 1) := by decide +kernel
theorem d_Mo_step_16 : decode b_Mo_step 16 = .ok (.putfield 82, 3) := by decide +kernel
theorem d_Mo_step_19 : decode b_Mo_step 19 = .ok (.aload_n 0, 1) := by decide +kernel
theorem d_Mo_step_20 : decode b_Mo_step 20 = .ok (.getfield 82, 3) := by decide +kernel
theorem d_Mo_step_23 : decode b_Mo_step 23 = .ok (.ifCond .le 5, 3) := by decide +kernel
theorem d_Mo_step_26 : decode b_Mo_step 26 = .ok (.iconst 0, 1) := by decide +kernel
theorem d_Mo_step_27 : decode b_Mo_step 27 = .ok (.ireturn, 1) := by decide +kernel
theorem d_Mo_step_28 : decode b_Mo_step 28 = .ok (.aload_n 0, 1) := by decide +kernel
theorem d_Mo_step_29 : decode b_Mo_step 29 = .ok (.getfield 125, 3) := by decide +kernel
theorem d_Mo_step_32 : decode b_Mo_step 32 = .ok (.istore_n 2, 1) := by decide +kernel
theorem d_Mo_step_33 : decode b_Mo_step 33 = .ok (.iconst 0, 1) := by decide +kernel
theorem d_Mo_step_34 : decode b_Mo_step 34 = .ok (.istore_n 3, 1) := by decide +kernel
theorem d_Mo_step_35 : decode b_Mo_step 35 = .ok (.iload_n 3, 1) := by decide +kernel
theorem d_Mo_step_36 : decode b_Mo_step 36 = .ok (.iload_n 1, 1) := by decide +kernel
theorem d_Mo_step_37 : decode b_Mo_step 37 = .ok (.if_icmp .ge 92, 3) := by decide +kernel
theorem d_Mo_step_40 : decode b_Mo_step 40 = .ok (.aload_n 0, 1) := by decide +kernel
theorem d_Mo_step_41 : decode b_Mo_step 41 = .ok (.dup, 1) := by decide +kernel
theorem d_Mo_step_42 : decode b_Mo_step 42 = .ok (.getfield 115, 3) := by decide +kernel
theorem d_Mo_step_45 : decode b_Mo_step 45 = .ok (.iconst 1, 1) := by decide +kernel
theorem d_Mo_step_46 : decode b_Mo_step 46 = .ok (.iadd, 1) := by decide +kernel
theorem d_Mo_step_47 : decode b_Mo_step 47 = .ok (.putfield 115, 3) := by decide +kernel
theorem d_Mo_step_50 : decode b_Mo_step 50 = .ok (.aload_n 0, 1) := by decide +kernel
theorem d_Mo_step_51 : decode b_Mo_step 51 = .ok (.invokevirtual 153, 3) := by decide +kernel
theorem d_Mo_step_54 : decode b_Mo_step 54 = .ok (.aload_n 0, 1) := by decide +kernel
theorem d_Mo_step_55 : decode b_Mo_step 55 = .ok (.getfield 85, 3) := by decide +kernel
theorem d_Mo_step_58 : decode b_Mo_step 58 = .ok (.iconst 1, 1) := by decide +kernel
theorem d_Mo_step_59 : decode b_Mo_step 59 = .ok (.isub, 1) := by decide +kernel
theorem d_Mo_step_60 : decode b_Mo_step 60 = .ok (.istore 4, 2) := by decide +kernel
theorem d_Mo_step_62 : decode b_Mo_step 62 = .ok (.iload 4, 2) := by decide +kernel
theorem d_Mo_step_64 : decode b_Mo_step 64 = .ok (.ifCond .lt 25, 3) := by decide +kernel
theorem d_Mo_step_67 : decode b_Mo_step 67 = .ok (.aload_n 0, 1) := by decide +kernel
theorem d_Mo_step_68 : decode b_Mo_step 68 = .ok (.getfield 20, 3) := by decide +kernel
theorem d_Mo_step_71 : decode b_Mo_step 71 = .ok (.iload 4, 2) := by decide +kernel
theorem d_Mo_step_73 : decode b_Mo_step 73 = .ok (.baload, 1) := by decide +kernel
theorem d_Mo_step_74 : decode b_Mo_step 74 = .ok (.ifCond .eq 9, 3) := by decide +kernel
theorem d_Mo_step_77 : decode b_Mo_step 77 = .ok (.aload_n 0, 1) := by decide +kernel
theorem d_Mo_step_78 : decode b_Mo_step 78 = .ok (.iload 4, 2) := by decide +kernel
theorem d_Mo_step_80 : decode b_Mo_step 80 = .ok (.invokevirtual 156, 3) := by decide +kernel
theorem d_Mo_step_83 : decode b_Mo_step 83 = .ok (.iinc 4 (-1), 3) := by decide +kernel
theorem d_Mo_step_86 : decode b_Mo_step 86 = .ok (.goto (-24), 3) := by decide +kernel
theorem d_Mo_step_89 : decode b_Mo_step 89 = .ok (.iconst 0, 1) := by decide +kernel
theorem d_Mo_step_90 : decode b_Mo_step 90 = .ok (.istore 4, 2) := by decide +kernel
theorem d_Mo_step_92 : decode b_Mo_step 92 = .ok (.iload 4, 2) := by decide +kernel
theorem d_Mo_step_94 : decode b_Mo_step 94 = .ok (.aload_n 0, 1) := by decide +kernel
theorem d_Mo_step_95 : decode b_Mo_step 95 = .ok (.getfield 85, 3) := by decide +kernel
theorem d_Mo_step_98 : decode b_Mo_step 98 = .ok (.if_icmp .ge 25, 3) := by decide +kernel
theorem d_Mo_step_101 : decode b_Mo_step 101 = .ok (.aload_n 0, 1) := by decide +kernel
theorem d_Mo_step_102 : decode b_Mo_step 102 = .ok (.getfield 20, 3) := by decide +kernel
theorem d_Mo_step_105 : decode b_Mo_step 105 = .ok (.iload 4, 2) := by decide +kernel
theorem d_Mo_step_107 : decode b_Mo_step 107 = .ok (.baload, 1) := by decide +kernel
theorem d_Mo_step_108 : decode b_Mo_step 108 = .ok (.ifCond .eq 9, 3) := by decide +kernel
theorem d_Mo_step_111 : decode b_Mo_step 111 = .ok (.aload_n 0, 1) := by decide +kernel
theorem d_Mo_step_112 : decode b_Mo_step 112 = .ok (.iload 4, 2) := by decide +kernel
theorem d_Mo_step_114 : decode b_Mo_step 114 = .ok (.invokevirtual 159, 3) := by decide +kernel
theorem d_Mo_step_117 : decode b_Mo_step 117 = .ok (.iinc 4 1, 3) := by decide +kernel
theorem d_Mo_step_120 : decode b_Mo_step 120 = .ok (.goto (-28), 3) := by decide +kernel
theorem d_Mo_step_123 : decode b_Mo_step 123 = .ok (.iinc 3 1, 3) := by decide +kernel
theorem d_Mo_step_126 : decode b_Mo_step 126 = .ok (.goto (-91), 3) := by decide +kernel
theorem d_Mo_step_129 : decode b_Mo_step 129 = .ok (.aload_n 0, 1) := by decide +kernel
theorem d_Mo_step_130 : decode b_Mo_step 130 = .ok (.getfield 125, 3) := by decide +kernel
theorem d_Mo_step_133 : decode b_Mo_step 133 = .ok (.iload_n 2, 1) := by decide +kernel
theorem d_Mo_step_134 : decode b_Mo_step 134 = .ok (.isub, 1) := by decide +kernel
theorem d_Mo_step_135 : decode b_Mo_step 135 = .ok (.ireturn, 1) := by decide +kernel
abbrev b_Mo_readDue : ByteArray := prog_8_method_20_code
abbrev n_Mo_readDue : MethodName := ⟨"BeltRowsModel", "readDue", "()V"⟩
theorem d_Mo_readDue_0 : decode b_Mo_readDue 0 = .ok (.iconst 0, 1) := by decide +kernel
theorem d_Mo_readDue_1 : decode b_Mo_readDue 1 = .ok (.istore_n 1, 1) := by decide +kernel
theorem d_Mo_readDue_2 : decode b_Mo_readDue 2 = .ok (.iconst 0, 1) := by decide +kernel
theorem d_Mo_readDue_3 : decode b_Mo_readDue 3 = .ok (.istore_n 2, 1) := by decide +kernel
theorem d_Mo_readDue_4 : decode b_Mo_readDue 4 = .ok (.iload_n 2, 1) := by decide +kernel
theorem d_Mo_readDue_5 : decode b_Mo_readDue 5 = .ok (.aload_n 0, 1) := by decide +kernel
theorem d_Mo_readDue_6 : decode b_Mo_readDue 6 = .ok (.getfield 128, 3) := by decide +kernel
theorem d_Mo_readDue_9 : decode b_Mo_readDue 9 = .ok (.if_icmp .ge 74, 3) := by decide +kernel
theorem d_Mo_readDue_12 : decode b_Mo_readDue 12 = .ok (.aload_n 0, 1) := by decide +kernel
theorem d_Mo_readDue_13 : decode b_Mo_readDue 13 = .ok (.getfield 72, 3) := by decide +kernel
theorem d_Mo_readDue_16 : decode b_Mo_readDue 16 = .ok (.iload_n 2, 1) := by decide +kernel
theorem d_Mo_readDue_17 : decode b_Mo_readDue 17 = .ok (.laload, 1) := by decide +kernel
theorem d_Mo_readDue_18 : decode b_Mo_readDue 18 = .ok (.bipush 32, 2) := by decide +kernel
theorem d_Mo_readDue_20 : decode b_Mo_readDue 20 = .ok (.lshr, 1) := by decide +kernel
theorem d_Mo_readDue_21 : decode b_Mo_readDue 21 = .ok (.l2i, 1) := by decide +kernel
theorem d_Mo_readDue_22 : decode b_Mo_readDue 22 = .ok (.aload_n 0, 1) := by decide +kernel
theorem d_Mo_readDue_23 : decode b_Mo_readDue 23 = .ok (.getfield 115, 3) := by decide +kernel
theorem d_Mo_readDue_26 : decode b_Mo_readDue 26 = .ok (.if_icmp .ne 36, 3) := by decide +kernel
theorem d_Mo_readDue_29 : decode b_Mo_readDue 29 = .ok (.aload_n 0, 1) := by decide +kernel
theorem d_Mo_readDue_30 : decode b_Mo_readDue 30 = .ok (.iconst 0, 1) := by decide +kernel
theorem d_Mo_readDue_31 : decode b_Mo_readDue 31 = .ok (.aload_n 0, 1) := by decide +kernel
theorem d_Mo_readDue_32 : decode b_Mo_readDue 32 = .ok (.getfield 72, 3) := by decide +kernel
theorem d_Mo_readDue_35 : decode b_Mo_readDue 35 = .ok (.iload_n 2, 1) := by decide +kernel
theorem d_Mo_readDue_36 : decode b_Mo_readDue 36 = .ok (.laload, 1) := by decide +kernel
theorem d_Mo_readDue_37 : decode b_Mo_readDue 37 = .ok (.bipush 8, 2) := by decide +kernel
theorem d_Mo_readDue_39 : decode b_Mo_readDue 39 = .ok (.lshr, 1) := by decide +kernel
theorem d_Mo_readDue_40 : decode b_Mo_readDue 40 = .ok (.ldc2_w 131, 3) := by decide +kernel
theorem d_Mo_readDue_43 : decode b_Mo_readDue 43 = .ok (.land, 1) := by decide +kernel
theorem d_Mo_readDue_44 : decode b_Mo_readDue 44 = .ok (.l2i, 1) := by decide +kernel
theorem d_Mo_readDue_45 : decode b_Mo_readDue 45 = .ok (.aload_n 0, 1) := by decide +kernel
theorem d_Mo_readDue_46 : decode b_Mo_readDue 46 = .ok (.getfield 72, 3) := by decide +kernel
theorem d_Mo_readDue_49 : decode b_Mo_readDue 49 = .ok (.iload_n 2, 1) := by decide +kernel
theorem d_Mo_readDue_50 : decode b_Mo_readDue 50 = .ok (.laload, 1) := by decide +kernel
theorem d_Mo_readDue_51 : decode b_Mo_readDue 51 = .ok (.ldc2_w 131, 3) := by decide +kernel
theorem d_Mo_readDue_54 : decode b_Mo_readDue 54 = .ok (.land, 1) := by decide +kernel
theorem d_Mo_readDue_55 : decode b_Mo_readDue 55 = .ok (.l2i, 1) := by decide +kernel
theorem d_Mo_readDue_56 : decode b_Mo_readDue 56 = .ok (.invokevirtual 133, 3) := by decide +kernel
theorem d_Mo_readDue_59 : decode b_Mo_readDue 59 = .ok (.goto 18, 3) := by decide +kernel
theorem d_Mo_readDue_62 : decode b_Mo_readDue 62 = .ok (.aload_n 0, 1) := by decide +kernel
theorem d_Mo_readDue_63 : decode b_Mo_readDue 63 = .ok (.getfield 72, 3) := by decide +kernel
theorem d_Mo_readDue_66 : decode b_Mo_readDue 66 = .ok (.iload_n 1, 1) := by decide +kernel
theorem d_Mo_readDue_67 : decode b_Mo_readDue 67 = .ok (.aload_n 0, 1) := by decide +kernel
theorem d_Mo_readDue_68 : decode b_Mo_readDue 68 = .ok (.getfield 72, 3) := by decide +kernel
theorem d_Mo_readDue_71 : decode b_Mo_readDue 71 = .ok (.iload_n 2, 1) := by decide +kernel
theorem d_Mo_readDue_72 : decode b_Mo_readDue 72 = .ok (.laload, 1) := by decide +kernel
theorem d_Mo_readDue_73 : decode b_Mo_readDue 73 = .ok (.lastore, 1) := by decide +kernel
theorem d_Mo_readDue_74 : decode b_Mo_readDue 74 = .ok (.iinc 1 1, 3) := by decide +kernel
theorem d_Mo_readDue_77 : decode b_Mo_readDue 77 = .ok (.iinc 2 1, 3) := by decide +kernel
theorem d_Mo_readDue_80 : decode b_Mo_readDue 80 = .ok (.goto (-76), 3) := by decide +kernel
theorem d_Mo_readDue_83 : decode b_Mo_readDue 83 = .ok (.aload_n 0, 1) := by decide +kernel
theorem d_Mo_readDue_84 : decode b_Mo_readDue 84 = .ok (.iload_n 1, 1) := by decide +kernel
theorem d_Mo_readDue_85 : decode b_Mo_readDue 85 = .ok (.putfield 128, 3) := by decide +kernel
theorem d_Mo_readDue_88 : decode b_Mo_readDue 88 = .ok (.return_, 1) := by decide +kernel
abbrev b_Mo_tell : ByteArray := prog_8_method_19_code
abbrev n_Mo_tell : MethodName := ⟨"BeltRowsModel", "tell", "(III)V"⟩
theorem d_Mo_tell_0 : decode b_Mo_tell 0 = .ok (.aload_n 0, 1) := by decide +kernel
theorem d_Mo_tell_1 : decode b_Mo_tell 1 = .ok (.getfield 76, 3) := by decide +kernel
theorem d_Mo_tell_4 : decode b_Mo_tell 4 = .ok (.aload_n 0, 1) := by decide +kernel
theorem d_Mo_tell_5 : decode b_Mo_tell 5 = .ok (.getfield 125, 3) := by decide +kernel
theorem d_Mo_tell_8 : decode b_Mo_tell 8 = .ok (.aload_n 0, 1) := by decide +kernel
theorem d_Mo_tell_9 : decode b_Mo_tell 9 = .ok (.getfield 115, 3) := by decide +kernel
theorem d_Mo_tell_12 : decode b_Mo_tell 12 = .ok (.i2l, 1) := by decide +kernel
theorem d_Mo_tell_13 : decode b_Mo_tell 13 = .ok (.bipush 32, 2) := by decide +kernel
theorem d_Mo_tell_15 : decode b_Mo_tell 15 = .ok (.lshl, 1) := by decide +kernel
theorem d_Mo_tell_16 : decode b_Mo_tell 16 = .ok (.iload_n 1, 1) := by decide +kernel
theorem d_Mo_tell_17 : decode b_Mo_tell 17 = .ok (.i2l, 1) := by decide +kernel
theorem d_Mo_tell_18 : decode b_Mo_tell 18 = .ok (.bipush 24, 2) := by decide +kernel
theorem d_Mo_tell_20 : decode b_Mo_tell 20 = .ok (.lshl, 1) := by decide +kernel
theorem d_Mo_tell_21 : decode b_Mo_tell 21 = .ok (.lor, 1) := by decide +kernel
theorem d_Mo_tell_22 : decode b_Mo_tell 22 = .ok (.iload_n 2, 1) := by decide +kernel
theorem d_Mo_tell_23 : decode b_Mo_tell 23 = .ok (.i2l, 1) := by decide +kernel
theorem d_Mo_tell_24 : decode b_Mo_tell 24 = .ok (.bipush 8, 2) := by decide +kernel
theorem d_Mo_tell_26 : decode b_Mo_tell 26 = .ok (.lshl, 1) := by decide +kernel
theorem d_Mo_tell_27 : decode b_Mo_tell 27 = .ok (.lor, 1) := by decide +kernel
theorem d_Mo_tell_28 : decode b_Mo_tell 28 = .ok (.iload_n 3, 1) := by decide +kernel
theorem d_Mo_tell_29 : decode b_Mo_tell 29 = .ok (.i2l, 1) := by decide +kernel
theorem d_Mo_tell_30 : decode b_Mo_tell 30 = .ok (.lor, 1) := by decide +kernel
theorem d_Mo_tell_31 : decode b_Mo_tell 31 = .ok (.lastore, 1) := by decide +kernel
theorem d_Mo_tell_32 : decode b_Mo_tell 32 = .ok (.aload_n 0, 1) := by decide +kernel
theorem d_Mo_tell_33 : decode b_Mo_tell 33 = .ok (.dup, 1) := by decide +kernel
theorem d_Mo_tell_34 : decode b_Mo_tell 34 = .ok (.getfield 125, 3) := by decide +kernel
theorem d_Mo_tell_37 : decode b_Mo_tell 37 = .ok (.iconst 1, 1) := by decide +kernel
theorem d_Mo_tell_38 : decode b_Mo_tell 38 = .ok (.iadd, 1) := by decide +kernel
theorem d_Mo_tell_39 : decode b_Mo_tell 39 = .ok (.putfield 125, 3) := by decide +kernel
theorem d_Mo_tell_42 : decode b_Mo_tell 42 = .ok (.return_, 1) := by decide +kernel
abbrev b_Mo_exchange : ByteArray := prog_8_method_23_code
abbrev n_Mo_exchange : MethodName := ⟨"BeltRowsModel", "exchange", "(I)V"⟩
theorem d_Mo_exchange_0 : decode b_Mo_exchange 0 = .ok (.aload_n 0, 1) := by decide +kernel
theorem d_Mo_exchange_1 : decode b_Mo_exchange 1 = .ok (.iload_n 1, 1) := by decide +kernel
theorem d_Mo_exchange_2 : decode b_Mo_exchange 2 = .ok (.invokevirtual 137, 3) := by decide +kernel
theorem d_Mo_exchange_5 : decode b_Mo_exchange 5 = .ok (.istore_n 2, 1) := by decide +kernel
theorem d_Mo_exchange_6 : decode b_Mo_exchange 6 = .ok (.iload_n 2, 1) := by decide +kernel
theorem d_Mo_exchange_7 : decode b_Mo_exchange 7 = .ok (.ifCond .le 71, 3) := by decide +kernel
theorem d_Mo_exchange_10 : decode b_Mo_exchange 10 = .ok (.aload_n 0, 1) := by decide +kernel
theorem d_Mo_exchange_11 : decode b_Mo_exchange 11 = .ok (.iload_n 2, 1) := by decide +kernel
theorem d_Mo_exchange_12 : decode b_Mo_exchange 12 = .ok (.invokevirtual 140, 3) := by decide +kernel
theorem d_Mo_exchange_15 : decode b_Mo_exchange 15 = .ok (.iconst (-1), 1) := by decide +kernel
theorem d_Mo_exchange_16 : decode b_Mo_exchange 16 = .ok (.if_icmp .ne 62, 3) := by decide +kernel
theorem d_Mo_exchange_19 : decode b_Mo_exchange 19 = .ok (.aload_n 0, 1) := by decide +kernel
theorem d_Mo_exchange_20 : decode b_Mo_exchange 20 = .ok (.iload_n 2, 1) := by decide +kernel
theorem d_Mo_exchange_21 : decode b_Mo_exchange 21 = .ok (.invokevirtual 143, 3) := by decide +kernel
theorem d_Mo_exchange_24 : decode b_Mo_exchange 24 = .ok (.aload_n 0, 1) := by decide +kernel
theorem d_Mo_exchange_25 : decode b_Mo_exchange 25 = .ok (.getfield 39, 3) := by decide +kernel
theorem d_Mo_exchange_28 : decode b_Mo_exchange 28 = .ok (.iload_n 2, 1) := by decide +kernel
theorem d_Mo_exchange_29 : decode b_Mo_exchange 29 = .ok (.iconst 1, 1) := by decide +kernel
theorem d_Mo_exchange_30 : decode b_Mo_exchange 30 = .ok (.iastore, 1) := by decide +kernel
theorem d_Mo_exchange_31 : decode b_Mo_exchange 31 = .ok (.aload_n 0, 1) := by decide +kernel
theorem d_Mo_exchange_32 : decode b_Mo_exchange 32 = .ok (.getfield 79, 3) := by decide +kernel
theorem d_Mo_exchange_35 : decode b_Mo_exchange 35 = .ok (.aload_n 0, 1) := by decide +kernel
theorem d_Mo_exchange_36 : decode b_Mo_exchange 36 = .ok (.getfield 147, 3) := by decide +kernel
theorem d_Mo_exchange_39 : decode b_Mo_exchange 39 = .ok (.iload_n 2, 1) := by decide +kernel
theorem d_Mo_exchange_40 : decode b_Mo_exchange 40 = .ok (.iastore, 1) := by decide +kernel
theorem d_Mo_exchange_41 : decode b_Mo_exchange 41 = .ok (.aload_n 0, 1) := by decide +kernel
theorem d_Mo_exchange_42 : decode b_Mo_exchange 42 = .ok (.dup, 1) := by decide +kernel
theorem d_Mo_exchange_43 : decode b_Mo_exchange 43 = .ok (.getfield 147, 3) := by decide +kernel
theorem d_Mo_exchange_46 : decode b_Mo_exchange 46 = .ok (.iconst 1, 1) := by decide +kernel
theorem d_Mo_exchange_47 : decode b_Mo_exchange 47 = .ok (.iadd, 1) := by decide +kernel
theorem d_Mo_exchange_48 : decode b_Mo_exchange 48 = .ok (.putfield 147, 3) := by decide +kernel
theorem d_Mo_exchange_51 : decode b_Mo_exchange 51 = .ok (.aload_n 0, 1) := by decide +kernel
theorem d_Mo_exchange_52 : decode b_Mo_exchange 52 = .ok (.dup, 1) := by decide +kernel
theorem d_Mo_exchange_53 : decode b_Mo_exchange 53 = .ok (.getfield 150, 3) := by decide +kernel
theorem d_Mo_exchange_56 : decode b_Mo_exchange 56 = .ok (.aload_n 0, 1) := by decide +kernel
theorem d_Mo_exchange_57 : decode b_Mo_exchange 57 = .ok (.getfield 115, 3) := by decide +kernel
theorem d_Mo_exchange_60 : decode b_Mo_exchange 60 = .ok (.aload_n 0, 1) := by decide +kernel
theorem d_Mo_exchange_61 : decode b_Mo_exchange 61 = .ok (.getfield 60, 3) := by decide +kernel
theorem d_Mo_exchange_64 : decode b_Mo_exchange 64 = .ok (.iload_n 2, 1) := by decide +kernel
theorem d_Mo_exchange_65 : decode b_Mo_exchange 65 = .ok (.iaload, 1) := by decide +kernel
theorem d_Mo_exchange_66 : decode b_Mo_exchange 66 = .ok (.isub, 1) := by decide +kernel
theorem d_Mo_exchange_67 : decode b_Mo_exchange 67 = .ok (.iadd, 1) := by decide +kernel
theorem d_Mo_exchange_68 : decode b_Mo_exchange 68 = .ok (.putfield 150, 3) := by decide +kernel
theorem d_Mo_exchange_71 : decode b_Mo_exchange 71 = .ok (.aload_n 0, 1) := by decide +kernel
theorem d_Mo_exchange_72 : decode b_Mo_exchange 72 = .ok (.iconst 1, 1) := by decide +kernel
theorem d_Mo_exchange_73 : decode b_Mo_exchange 73 = .ok (.iload_n 2, 1) := by decide +kernel
theorem d_Mo_exchange_74 : decode b_Mo_exchange 74 = .ok (.iload_n 1, 1) := by decide +kernel
theorem d_Mo_exchange_75 : decode b_Mo_exchange 75 = .ok (.invokevirtual 133, 3) := by decide +kernel
theorem d_Mo_exchange_78 : decode b_Mo_exchange 78 = .ok (.aload_n 0, 1) := by decide +kernel
theorem d_Mo_exchange_79 : decode b_Mo_exchange 79 = .ok (.iload_n 1, 1) := by decide +kernel
theorem d_Mo_exchange_80 : decode b_Mo_exchange 80 = .ok (.invokevirtual 112, 3) := by decide +kernel
theorem d_Mo_exchange_83 : decode b_Mo_exchange 83 = .ok (.ifCond .le 4, 3) := by decide +kernel
theorem d_Mo_exchange_86 : decode b_Mo_exchange 86 = .ok (.return_, 1) := by decide +kernel
theorem d_Mo_exchange_87 : decode b_Mo_exchange 87 = .ok (.iconst (-1), 1) := by decide +kernel
theorem d_Mo_exchange_88 : decode b_Mo_exchange 88 = .ok (.istore_n 3, 1) := by decide +kernel
theorem d_Mo_exchange_89 : decode b_Mo_exchange 89 = .ok (.iconst 0, 1) := by decide +kernel
theorem d_Mo_exchange_90 : decode b_Mo_exchange 90 = .ok (.istore 4, 2) := by decide +kernel
theorem d_Mo_exchange_92 : decode b_Mo_exchange 92 = .ok (.iload 4, 2) := by decide +kernel
theorem d_Mo_exchange_94 : decode b_Mo_exchange 94 = .ok (.iload_n 1, 1) := by decide +kernel
theorem d_Mo_exchange_95 : decode b_Mo_exchange 95 = .ok (.if_icmp .ge 112, 3) := by decide +kernel
theorem d_Mo_exchange_98 : decode b_Mo_exchange 98 = .ok (.aload_n 0, 1) := by decide +kernel
theorem d_Mo_exchange_99 : decode b_Mo_exchange 99 = .ok (.getfield 20, 3) := by decide +kernel
theorem d_Mo_exchange_102 : decode b_Mo_exchange 102 = .ok (.iload 4, 2) := by decide +kernel
theorem d_Mo_exchange_104 : decode b_Mo_exchange 104 = .ok (.baload, 1) := by decide +kernel
theorem d_Mo_exchange_105 : decode b_Mo_exchange 105 = .ok (.ifCond .eq 12, 3) := by decide +kernel
theorem d_Mo_exchange_108 : decode b_Mo_exchange 108 = .ok (.aload_n 0, 1) := by decide +kernel
theorem d_Mo_exchange_109 : decode b_Mo_exchange 109 = .ok (.iload 4, 2) := by decide +kernel
theorem d_Mo_exchange_111 : decode b_Mo_exchange 111 = .ok (.invokevirtual 137, 3) := by decide +kernel
theorem d_Mo_exchange_114 : decode b_Mo_exchange 114 = .ok (.goto 4, 3) := by decide +kernel
theorem d_Mo_exchange_117 : decode b_Mo_exchange 117 = .ok (.iconst 0, 1) := by decide +kernel
theorem d_Mo_exchange_118 : decode b_Mo_exchange 118 = .ok (.istore 5, 2) := by decide +kernel
theorem d_Mo_exchange_120 : decode b_Mo_exchange 120 = .ok (.iload 5, 2) := by decide +kernel
theorem d_Mo_exchange_122 : decode b_Mo_exchange 122 = .ok (.ifCond .eq 79, 3) := by decide +kernel
theorem d_Mo_exchange_125 : decode b_Mo_exchange 125 = .ok (.aload_n 0, 1) := by decide +kernel
theorem d_Mo_exchange_126 : decode b_Mo_exchange 126 = .ok (.iload 5, 2) := by decide +kernel
theorem d_Mo_exchange_128 : decode b_Mo_exchange 128 = .ok (.invokevirtual 140, 3) := by decide +kernel
theorem d_Mo_exchange_131 : decode b_Mo_exchange 131 = .ok (.iconst (-1), 1) := by decide +kernel
theorem d_Mo_exchange_132 : decode b_Mo_exchange 132 = .ok (.if_icmp .ne 6, 3) := by decide +kernel
theorem d_Mo_exchange_135 : decode b_Mo_exchange 135 = .ok (.goto 66, 3) := by decide +kernel
theorem d_Mo_exchange_138 : decode b_Mo_exchange 138 = .ok (.iconst 2, 1) := by decide +kernel
theorem d_Mo_exchange_139 : decode b_Mo_exchange 139 = .ok (.iload 4, 2) := by decide +kernel
theorem d_Mo_exchange_141 : decode b_Mo_exchange 141 = .ok (.imul, 1) := by decide +kernel
theorem d_Mo_exchange_142 : decode b_Mo_exchange 142 = .ok (.aload_n 0, 1) := by decide +kernel
theorem d_Mo_exchange_143 : decode b_Mo_exchange 143 = .ok (.iload 5, 2) := by decide +kernel
theorem d_Mo_exchange_145 : decode b_Mo_exchange 145 = .ok (.invokevirtual 140, 3) := by decide +kernel
theorem d_Mo_exchange_148 : decode b_Mo_exchange 148 = .ok (.iadd, 1) := by decide +kernel
theorem d_Mo_exchange_149 : decode b_Mo_exchange 149 = .ok (.istore 6, 2) := by decide +kernel
theorem d_Mo_exchange_151 : decode b_Mo_exchange 151 = .ok (.aload_n 0, 1) := by decide +kernel
theorem d_Mo_exchange_152 : decode b_Mo_exchange 152 = .ok (.getfield 24, 3) := by decide +kernel
theorem d_Mo_exchange_155 : decode b_Mo_exchange 155 = .ok (.iload 6, 2) := by decide +kernel
theorem d_Mo_exchange_157 : decode b_Mo_exchange 157 = .ok (.iaload, 1) := by decide +kernel
theorem d_Mo_exchange_158 : decode b_Mo_exchange 158 = .ok (.iload_n 1, 1) := by decide +kernel
theorem d_Mo_exchange_159 : decode b_Mo_exchange 159 = .ok (.if_icmp .ne 42, 3) := by decide +kernel
theorem d_Mo_exchange_162 : decode b_Mo_exchange 162 = .ok (.iload_n 3, 1) := by decide +kernel
theorem d_Mo_exchange_163 : decode b_Mo_exchange 163 = .ok (.iconst (-1), 1) := by decide +kernel
theorem d_Mo_exchange_164 : decode b_Mo_exchange 164 = .ok (.if_icmp .eq 34, 3) := by decide +kernel
theorem d_Mo_exchange_167 : decode b_Mo_exchange 167 = .ok (.aload_n 0, 1) := by decide +kernel
theorem d_Mo_exchange_168 : decode b_Mo_exchange 168 = .ok (.getfield 30, 3) := by decide +kernel
theorem d_Mo_exchange_171 : decode b_Mo_exchange 171 = .ok (.iload 6, 2) := by decide +kernel
theorem d_Mo_exchange_173 : decode b_Mo_exchange 173 = .ok (.iaload, 1) := by decide +kernel
theorem d_Mo_exchange_174 : decode b_Mo_exchange 174 = .ok (.aload_n 0, 1) := by decide +kernel
theorem d_Mo_exchange_175 : decode b_Mo_exchange 175 = .ok (.getfield 27, 3) := by decide +kernel
theorem d_Mo_exchange_178 : decode b_Mo_exchange 178 = .ok (.iload_n 3, 1) := by decide +kernel
theorem d_Mo_exchange_179 : decode b_Mo_exchange 179 = .ok (.iaload, 1) := by decide +kernel
theorem d_Mo_exchange_180 : decode b_Mo_exchange 180 = .ok (.imul, 1) := by decide +kernel
theorem d_Mo_exchange_181 : decode b_Mo_exchange 181 = .ok (.aload_n 0, 1) := by decide +kernel
theorem d_Mo_exchange_182 : decode b_Mo_exchange 182 = .ok (.getfield 30, 3) := by decide +kernel
theorem d_Mo_exchange_185 : decode b_Mo_exchange 185 = .ok (.iload_n 3, 1) := by decide +kernel
theorem d_Mo_exchange_186 : decode b_Mo_exchange 186 = .ok (.iaload, 1) := by decide +kernel
theorem d_Mo_exchange_187 : decode b_Mo_exchange 187 = .ok (.aload_n 0, 1) := by decide +kernel
theorem d_Mo_exchange_188 : decode b_Mo_exchange 188 = .ok (.getfield 27, 3) := by decide +kernel
theorem d_Mo_exchange_191 : decode b_Mo_exchange 191 = .ok (.iload 6, 2) := by decide +kernel
theorem d_Mo_exchange_193 : decode b_Mo_exchange 193 = .ok (.iaload, 1) := by decide +kernel
theorem d_Mo_exchange_194 : decode b_Mo_exchange 194 = .ok (.imul, 1) := by decide +kernel
theorem d_Mo_exchange_195 : decode b_Mo_exchange 195 = .ok (.if_icmp .ge 6, 3) := by decide +kernel
theorem d_Mo_exchange_198 : decode b_Mo_exchange 198 = .ok (.iload 6, 2) := by decide +kernel
theorem d_Mo_exchange_200 : decode b_Mo_exchange 200 = .ok (.istore_n 3, 1) := by decide +kernel
theorem d_Mo_exchange_201 : decode b_Mo_exchange 201 = .ok (.iinc 4 1, 3) := by decide +kernel
theorem d_Mo_exchange_204 : decode b_Mo_exchange 204 = .ok (.goto (-112), 3) := by decide +kernel
theorem d_Mo_exchange_207 : decode b_Mo_exchange 207 = .ok (.iload_n 3, 1) := by decide +kernel
theorem d_Mo_exchange_208 : decode b_Mo_exchange 208 = .ok (.iconst (-1), 1) := by decide +kernel
theorem d_Mo_exchange_209 : decode b_Mo_exchange 209 = .ok (.if_icmp .ne 4, 3) := by decide +kernel
theorem d_Mo_exchange_212 : decode b_Mo_exchange 212 = .ok (.return_, 1) := by decide +kernel
theorem d_Mo_exchange_213 : decode b_Mo_exchange 213 = .ok (.aload_n 0, 1) := by decide +kernel
theorem d_Mo_exchange_214 : decode b_Mo_exchange 214 = .ok (.getfield 36, 3) := by decide +kernel
theorem d_Mo_exchange_217 : decode b_Mo_exchange 217 = .ok (.bipush 60, 2) := by decide +kernel
theorem d_Mo_exchange_219 : decode b_Mo_exchange 219 = .ok (.iload_n 3, 1) := by decide +kernel
theorem d_Mo_exchange_220 : decode b_Mo_exchange 220 = .ok (.iconst 2, 1) := by decide +kernel
theorem d_Mo_exchange_221 : decode b_Mo_exchange 221 = .ok (.idiv, 1) := by decide +kernel
theorem d_Mo_exchange_222 : decode b_Mo_exchange 222 = .ok (.imul, 1) := by decide +kernel
theorem d_Mo_exchange_223 : decode b_Mo_exchange 223 = .ok (.iaload, 1) := by decide +kernel
theorem d_Mo_exchange_224 : decode b_Mo_exchange 224 = .ok (.istore 4, 2) := by decide +kernel
theorem d_Mo_exchange_226 : decode b_Mo_exchange 226 = .ok (.aload_n 0, 1) := by decide +kernel
theorem d_Mo_exchange_227 : decode b_Mo_exchange 227 = .ok (.iload 4, 2) := by decide +kernel
theorem d_Mo_exchange_229 : decode b_Mo_exchange 229 = .ok (.invokevirtual 143, 3) := by decide +kernel
theorem d_Mo_exchange_232 : decode b_Mo_exchange 232 = .ok (.aload_n 0, 1) := by decide +kernel
theorem d_Mo_exchange_233 : decode b_Mo_exchange 233 = .ok (.getfield 30, 3) := by decide +kernel
theorem d_Mo_exchange_236 : decode b_Mo_exchange 236 = .ok (.iload_n 3, 1) := by decide +kernel
theorem d_Mo_exchange_237 : decode b_Mo_exchange 237 = .ok (.dup2, 1) := by decide +kernel
theorem d_Mo_exchange_238 : decode b_Mo_exchange 238 = .ok (.iaload, 1) := by decide +kernel
theorem d_Mo_exchange_239 : decode b_Mo_exchange 239 = .ok (.iconst 1, 1) := by decide +kernel
theorem d_Mo_exchange_240 : decode b_Mo_exchange 240 = .ok (.iadd, 1) := by decide +kernel
theorem d_Mo_exchange_241 : decode b_Mo_exchange 241 = .ok (.iastore, 1) := by decide +kernel
theorem d_Mo_exchange_242 : decode b_Mo_exchange 242 = .ok (.aload_n 0, 1) := by decide +kernel
theorem d_Mo_exchange_243 : decode b_Mo_exchange 243 = .ok (.iload 4, 2) := by decide +kernel
theorem d_Mo_exchange_245 : decode b_Mo_exchange 245 = .ok (.iload_n 1, 1) := by decide +kernel
theorem d_Mo_exchange_246 : decode b_Mo_exchange 246 = .ok (.invokevirtual 118, 3) := by decide +kernel
theorem d_Mo_exchange_249 : decode b_Mo_exchange 249 = .ok (.aload_n 0, 1) := by decide +kernel
theorem d_Mo_exchange_250 : decode b_Mo_exchange 250 = .ok (.iconst 2, 1) := by decide +kernel
theorem d_Mo_exchange_251 : decode b_Mo_exchange 251 = .ok (.iload 4, 2) := by decide +kernel
theorem d_Mo_exchange_253 : decode b_Mo_exchange 253 = .ok (.iload_n 1, 1) := by decide +kernel
theorem d_Mo_exchange_254 : decode b_Mo_exchange 254 = .ok (.invokevirtual 133, 3) := by decide +kernel
theorem d_Mo_exchange_257 : decode b_Mo_exchange 257 = .ok (.return_, 1) := by decide +kernel
abbrev b_Mo_atEnd : ByteArray := prog_8_method_21_code
abbrev n_Mo_atEnd : MethodName := ⟨"BeltRowsModel", "atEnd", "(I)I"⟩
theorem d_Mo_atEnd_0 : decode b_Mo_atEnd 0 = .ok (.aload_n 0, 1) := by decide +kernel
theorem d_Mo_atEnd_1 : decode b_Mo_atEnd 1 = .ok (.getfield 33, 3) := by decide +kernel
theorem d_Mo_atEnd_4 : decode b_Mo_atEnd 4 = .ok (.iload_n 1, 1) := by decide +kernel
theorem d_Mo_atEnd_5 : decode b_Mo_atEnd 5 = .ok (.iaload, 1) := by decide +kernel
theorem d_Mo_atEnd_6 : decode b_Mo_atEnd 6 = .ok (.ifCond .ne 5, 3) := by decide +kernel
theorem d_Mo_atEnd_9 : decode b_Mo_atEnd 9 = .ok (.iconst 0, 1) := by decide +kernel
theorem d_Mo_atEnd_10 : decode b_Mo_atEnd 10 = .ok (.ireturn, 1) := by decide +kernel
theorem d_Mo_atEnd_11 : decode b_Mo_atEnd 11 = .ok (.aload_n 0, 1) := by decide +kernel
theorem d_Mo_atEnd_12 : decode b_Mo_atEnd 12 = .ok (.getfield 36, 3) := by decide +kernel
theorem d_Mo_atEnd_15 : decode b_Mo_atEnd 15 = .ok (.bipush 60, 2) := by decide +kernel
theorem d_Mo_atEnd_17 : decode b_Mo_atEnd 17 = .ok (.iload_n 1, 1) := by decide +kernel
theorem d_Mo_atEnd_18 : decode b_Mo_atEnd 18 = .ok (.imul, 1) := by decide +kernel
theorem d_Mo_atEnd_19 : decode b_Mo_atEnd 19 = .ok (.iaload, 1) := by decide +kernel
theorem d_Mo_atEnd_20 : decode b_Mo_atEnd 20 = .ok (.istore_n 2, 1) := by decide +kernel
theorem d_Mo_atEnd_21 : decode b_Mo_atEnd 21 = .ok (.aload_n 0, 1) := by decide +kernel
theorem d_Mo_atEnd_22 : decode b_Mo_atEnd 22 = .ok (.getfield 45, 3) := by decide +kernel
theorem d_Mo_atEnd_25 : decode b_Mo_atEnd 25 = .ok (.iload_n 2, 1) := by decide +kernel
theorem d_Mo_atEnd_26 : decode b_Mo_atEnd 26 = .ok (.iaload, 1) := by decide +kernel
theorem d_Mo_atEnd_27 : decode b_Mo_atEnd 27 = .ok (.aload_n 0, 1) := by decide +kernel
theorem d_Mo_atEnd_28 : decode b_Mo_atEnd 28 = .ok (.getfield 13, 3) := by decide +kernel
theorem d_Mo_atEnd_31 : decode b_Mo_atEnd 31 = .ok (.iload_n 1, 1) := by decide +kernel
theorem d_Mo_atEnd_32 : decode b_Mo_atEnd 32 = .ok (.iaload, 1) := by decide +kernel
theorem d_Mo_atEnd_33 : decode b_Mo_atEnd 33 = .ok (.if_icmp .ne 7, 3) := by decide +kernel
theorem d_Mo_atEnd_36 : decode b_Mo_atEnd 36 = .ok (.iload_n 2, 1) := by decide +kernel
theorem d_Mo_atEnd_37 : decode b_Mo_atEnd 37 = .ok (.goto 4, 3) := by decide +kernel
theorem d_Mo_atEnd_40 : decode b_Mo_atEnd 40 = .ok (.iconst 0, 1) := by decide +kernel
theorem d_Mo_atEnd_41 : decode b_Mo_atEnd 41 = .ok (.ireturn, 1) := by decide +kernel
abbrev b_Mo_goesBy : ByteArray := prog_8_method_22_code
abbrev n_Mo_goesBy : MethodName := ⟨"BeltRowsModel", "goesBy", "(I)I"⟩
theorem d_Mo_goesBy_0 : decode b_Mo_goesBy 0 = .ok (.aload_n 0, 1) := by decide +kernel
theorem d_Mo_goesBy_1 : decode b_Mo_goesBy 1 = .ok (.getfield 24, 3) := by decide +kernel
theorem d_Mo_goesBy_4 : decode b_Mo_goesBy 4 = .ok (.iconst 2, 1) := by decide +kernel
theorem d_Mo_goesBy_5 : decode b_Mo_goesBy 5 = .ok (.aload_n 0, 1) := by decide +kernel
theorem d_Mo_goesBy_6 : decode b_Mo_goesBy 6 = .ok (.getfield 42, 3) := by decide +kernel
theorem d_Mo_goesBy_9 : decode b_Mo_goesBy 9 = .ok (.iload_n 1, 1) := by decide +kernel
theorem d_Mo_goesBy_10 : decode b_Mo_goesBy 10 = .ok (.iaload, 1) := by decide +kernel
theorem d_Mo_goesBy_11 : decode b_Mo_goesBy 11 = .ok (.imul, 1) := by decide +kernel
theorem d_Mo_goesBy_12 : decode b_Mo_goesBy 12 = .ok (.aload_n 0, 1) := by decide +kernel
theorem d_Mo_goesBy_13 : decode b_Mo_goesBy 13 = .ok (.getfield 51, 3) := by decide +kernel
theorem d_Mo_goesBy_16 : decode b_Mo_goesBy 16 = .ok (.iload_n 1, 1) := by decide +kernel
theorem d_Mo_goesBy_17 : decode b_Mo_goesBy 17 = .ok (.iaload, 1) := by decide +kernel
theorem d_Mo_goesBy_18 : decode b_Mo_goesBy 18 = .ok (.iadd, 1) := by decide +kernel
theorem d_Mo_goesBy_19 : decode b_Mo_goesBy 19 = .ok (.iaload, 1) := by decide +kernel
theorem d_Mo_goesBy_20 : decode b_Mo_goesBy 20 = .ok (.iconst (-1), 1) := by decide +kernel
theorem d_Mo_goesBy_21 : decode b_Mo_goesBy 21 = .ok (.if_icmp .eq 10, 3) := by decide +kernel
theorem d_Mo_goesBy_24 : decode b_Mo_goesBy 24 = .ok (.aload_n 0, 1) := by decide +kernel
theorem d_Mo_goesBy_25 : decode b_Mo_goesBy 25 = .ok (.getfield 51, 3) := by decide +kernel
theorem d_Mo_goesBy_28 : decode b_Mo_goesBy 28 = .ok (.iload_n 1, 1) := by decide +kernel
theorem d_Mo_goesBy_29 : decode b_Mo_goesBy 29 = .ok (.iaload, 1) := by decide +kernel
theorem d_Mo_goesBy_30 : decode b_Mo_goesBy 30 = .ok (.ireturn, 1) := by decide +kernel
theorem d_Mo_goesBy_31 : decode b_Mo_goesBy 31 = .ok (.aload_n 0, 1) := by decide +kernel
theorem d_Mo_goesBy_32 : decode b_Mo_goesBy 32 = .ok (.getfield 24, 3) := by decide +kernel
theorem d_Mo_goesBy_35 : decode b_Mo_goesBy 35 = .ok (.iconst 2, 1) := by decide +kernel
theorem d_Mo_goesBy_36 : decode b_Mo_goesBy 36 = .ok (.aload_n 0, 1) := by decide +kernel
theorem d_Mo_goesBy_37 : decode b_Mo_goesBy 37 = .ok (.getfield 42, 3) := by decide +kernel
theorem d_Mo_goesBy_40 : decode b_Mo_goesBy 40 = .ok (.iload_n 1, 1) := by decide +kernel
theorem d_Mo_goesBy_41 : decode b_Mo_goesBy 41 = .ok (.iaload, 1) := by decide +kernel
theorem d_Mo_goesBy_42 : decode b_Mo_goesBy 42 = .ok (.imul, 1) := by decide +kernel
theorem d_Mo_goesBy_43 : decode b_Mo_goesBy 43 = .ok (.iaload, 1) := by decide +kernel
theorem d_Mo_goesBy_44 : decode b_Mo_goesBy 44 = .ok (.iconst (-1), 1) := by decide +kernel
theorem d_Mo_goesBy_45 : decode b_Mo_goesBy 45 = .ok (.if_icmp .eq 7, 3) := by decide +kernel
theorem d_Mo_goesBy_48 : decode b_Mo_goesBy 48 = .ok (.iconst 0, 1) := by decide +kernel
theorem d_Mo_goesBy_49 : decode b_Mo_goesBy 49 = .ok (.goto 4, 3) := by decide +kernel
theorem d_Mo_goesBy_52 : decode b_Mo_goesBy 52 = .ok (.iconst (-1), 1) := by decide +kernel
theorem d_Mo_goesBy_53 : decode b_Mo_goesBy 53 = .ok (.ireturn, 1) := by decide +kernel
abbrev b_Mo_leave : ByteArray := prog_8_method_16_code
abbrev n_Mo_leave : MethodName := ⟨"BeltRowsModel", "leave", "(I)V"⟩
theorem d_Mo_leave_0 : decode b_Mo_leave 0 = .ok (.aload_n 0, 1) := by decide +kernel
theorem d_Mo_leave_1 : decode b_Mo_leave 1 = .ok (.getfield 42, 3) := by decide +kernel
theorem d_Mo_leave_4 : decode b_Mo_leave 4 = .ok (.iload_n 1, 1) := by decide +kernel
theorem d_Mo_leave_5 : decode b_Mo_leave 5 = .ok (.iaload, 1) := by decide +kernel
theorem d_Mo_leave_6 : decode b_Mo_leave 6 = .ok (.istore_n 2, 1) := by decide +kernel
theorem d_Mo_leave_7 : decode b_Mo_leave 7 = .ok (.aload_n 0, 1) := by decide +kernel
theorem d_Mo_leave_8 : decode b_Mo_leave 8 = .ok (.iload_n 1, 1) := by decide +kernel
theorem d_Mo_leave_9 : decode b_Mo_leave 9 = .ok (.invokevirtual 109, 3) := by decide +kernel
theorem d_Mo_leave_12 : decode b_Mo_leave 12 = .ok (.istore_n 3, 1) := by decide +kernel
theorem d_Mo_leave_13 : decode b_Mo_leave 13 = .ok (.aload_n 0, 1) := by decide +kernel
theorem d_Mo_leave_14 : decode b_Mo_leave 14 = .ok (.getfield 33, 3) := by decide +kernel
theorem d_Mo_leave_17 : decode b_Mo_leave 17 = .ok (.iload_n 2, 1) := by decide +kernel
theorem d_Mo_leave_18 : decode b_Mo_leave 18 = .ok (.dup2, 1) := by decide +kernel
theorem d_Mo_leave_19 : decode b_Mo_leave 19 = .ok (.iaload, 1) := by decide +kernel
theorem d_Mo_leave_20 : decode b_Mo_leave 20 = .ok (.iconst 1, 1) := by decide +kernel
theorem d_Mo_leave_21 : decode b_Mo_leave 21 = .ok (.isub, 1) := by decide +kernel
theorem d_Mo_leave_22 : decode b_Mo_leave 22 = .ok (.iastore, 1) := by decide +kernel
theorem d_Mo_leave_23 : decode b_Mo_leave 23 = .ok (.iload_n 3, 1) := by decide +kernel
theorem d_Mo_leave_24 : decode b_Mo_leave 24 = .ok (.istore 4, 2) := by decide +kernel
theorem d_Mo_leave_26 : decode b_Mo_leave 26 = .ok (.iload 4, 2) := by decide +kernel
theorem d_Mo_leave_28 : decode b_Mo_leave 28 = .ok (.aload_n 0, 1) := by decide +kernel
theorem d_Mo_leave_29 : decode b_Mo_leave 29 = .ok (.getfield 33, 3) := by decide +kernel
theorem d_Mo_leave_32 : decode b_Mo_leave 32 = .ok (.iload_n 2, 1) := by decide +kernel
theorem d_Mo_leave_33 : decode b_Mo_leave 33 = .ok (.iaload, 1) := by decide +kernel
theorem d_Mo_leave_34 : decode b_Mo_leave 34 = .ok (.if_icmp .ge 35, 3) := by decide +kernel
theorem d_Mo_leave_37 : decode b_Mo_leave 37 = .ok (.aload_n 0, 1) := by decide +kernel
theorem d_Mo_leave_38 : decode b_Mo_leave 38 = .ok (.getfield 36, 3) := by decide +kernel
theorem d_Mo_leave_41 : decode b_Mo_leave 41 = .ok (.bipush 60, 2) := by decide +kernel
theorem d_Mo_leave_43 : decode b_Mo_leave 43 = .ok (.iload_n 2, 1) := by decide +kernel
theorem d_Mo_leave_44 : decode b_Mo_leave 44 = .ok (.imul, 1) := by decide +kernel
theorem d_Mo_leave_45 : decode b_Mo_leave 45 = .ok (.iload 4, 2) := by decide +kernel
theorem d_Mo_leave_47 : decode b_Mo_leave 47 = .ok (.iadd, 1) := by decide +kernel
theorem d_Mo_leave_48 : decode b_Mo_leave 48 = .ok (.aload_n 0, 1) := by decide +kernel
theorem d_Mo_leave_49 : decode b_Mo_leave 49 = .ok (.getfield 36, 3) := by decide +kernel
theorem d_Mo_leave_52 : decode b_Mo_leave 52 = .ok (.bipush 60, 2) := by decide +kernel
theorem d_Mo_leave_54 : decode b_Mo_leave 54 = .ok (.iload_n 2, 1) := by decide +kernel
theorem d_Mo_leave_55 : decode b_Mo_leave 55 = .ok (.imul, 1) := by decide +kernel
theorem d_Mo_leave_56 : decode b_Mo_leave 56 = .ok (.iload 4, 2) := by decide +kernel
theorem d_Mo_leave_58 : decode b_Mo_leave 58 = .ok (.iadd, 1) := by decide +kernel
theorem d_Mo_leave_59 : decode b_Mo_leave 59 = .ok (.iconst 1, 1) := by decide +kernel
theorem d_Mo_leave_60 : decode b_Mo_leave 60 = .ok (.iadd, 1) := by decide +kernel
theorem d_Mo_leave_61 : decode b_Mo_leave 61 = .ok (.iaload, 1) := by decide +kernel
theorem d_Mo_leave_62 : decode b_Mo_leave 62 = .ok (.iastore, 1) := by decide +kernel
theorem d_Mo_leave_63 : decode b_Mo_leave 63 = .ok (.iinc 4 1, 3) := by decide +kernel
theorem d_Mo_leave_66 : decode b_Mo_leave 66 = .ok (.goto (-40), 3) := by decide +kernel
theorem d_Mo_leave_69 : decode b_Mo_leave 69 = .ok (.return_, 1) := by decide +kernel
abbrev b_Mo_indexOf : ByteArray := prog_8_method_15_code
abbrev n_Mo_indexOf : MethodName := ⟨"BeltRowsModel", "indexOf", "(I)I"⟩
theorem d_Mo_indexOf_0 : decode b_Mo_indexOf 0 = .ok (.iconst 0, 1) := by decide +kernel
theorem d_Mo_indexOf_1 : decode b_Mo_indexOf 1 = .ok (.istore_n 2, 1) := by decide +kernel
theorem d_Mo_indexOf_2 : decode b_Mo_indexOf 2 = .ok (.aload_n 0, 1) := by decide +kernel
theorem d_Mo_indexOf_3 : decode b_Mo_indexOf 3 = .ok (.getfield 36, 3) := by decide +kernel
theorem d_Mo_indexOf_6 : decode b_Mo_indexOf 6 = .ok (.bipush 60, 2) := by decide +kernel
theorem d_Mo_indexOf_8 : decode b_Mo_indexOf 8 = .ok (.aload_n 0, 1) := by decide +kernel
theorem d_Mo_indexOf_9 : decode b_Mo_indexOf 9 = .ok (.getfield 42, 3) := by decide +kernel
theorem d_Mo_indexOf_12 : decode b_Mo_indexOf 12 = .ok (.iload_n 1, 1) := by decide +kernel
theorem d_Mo_indexOf_13 : decode b_Mo_indexOf 13 = .ok (.iaload, 1) := by decide +kernel
theorem d_Mo_indexOf_14 : decode b_Mo_indexOf 14 = .ok (.imul, 1) := by decide +kernel
theorem d_Mo_indexOf_15 : decode b_Mo_indexOf 15 = .ok (.iload_n 2, 1) := by decide +kernel
theorem d_Mo_indexOf_16 : decode b_Mo_indexOf 16 = .ok (.iadd, 1) := by decide +kernel
theorem d_Mo_indexOf_17 : decode b_Mo_indexOf 17 = .ok (.iaload, 1) := by decide +kernel
theorem d_Mo_indexOf_18 : decode b_Mo_indexOf 18 = .ok (.iload_n 1, 1) := by decide +kernel
theorem d_Mo_indexOf_19 : decode b_Mo_indexOf 19 = .ok (.if_icmp .eq 9, 3) := by decide +kernel
theorem d_Mo_indexOf_22 : decode b_Mo_indexOf 22 = .ok (.iinc 2 1, 3) := by decide +kernel
theorem d_Mo_indexOf_25 : decode b_Mo_indexOf 25 = .ok (.goto (-23), 3) := by decide +kernel
theorem d_Mo_indexOf_28 : decode b_Mo_indexOf 28 = .ok (.iload_n 2, 1) := by decide +kernel
theorem d_Mo_indexOf_29 : decode b_Mo_indexOf 29 = .ok (.ireturn, 1) := by decide +kernel
abbrev b_Mo_move : ByteArray := prog_8_method_24_code
abbrev n_Mo_move : MethodName := ⟨"BeltRowsModel", "move", "(I)V"⟩
theorem d_Mo_move_0 : decode b_Mo_move 0 = .ok (.iconst 0, 1) := by decide +kernel
theorem d_Mo_move_1 : decode b_Mo_move 1 = .ok (.istore_n 2, 1) := by decide +kernel
theorem d_Mo_move_2 : decode b_Mo_move 2 = .ok (.iload_n 2, 1) := by decide +kernel
theorem d_Mo_move_3 : decode b_Mo_move 3 = .ok (.aload_n 0, 1) := by decide +kernel
theorem d_Mo_move_4 : decode b_Mo_move 4 = .ok (.getfield 33, 3) := by decide +kernel
theorem d_Mo_move_7 : decode b_Mo_move 7 = .ok (.iload_n 1, 1) := by decide +kernel
theorem d_Mo_move_8 : decode b_Mo_move 8 = .ok (.iaload, 1) := by decide +kernel
theorem d_Mo_move_9 : decode b_Mo_move 9 = .ok (.if_icmp .ge 301, 3) := by decide +kernel
theorem d_Mo_move_12 : decode b_Mo_move 12 = .ok (.aload_n 0, 1) := by decide +kernel
theorem d_Mo_move_13 : decode b_Mo_move 13 = .ok (.getfield 36, 3) := by decide +kernel
theorem d_Mo_move_16 : decode b_Mo_move 16 = .ok (.bipush 60, 2) := by decide +kernel
theorem d_Mo_move_18 : decode b_Mo_move 18 = .ok (.iload_n 1, 1) := by decide +kernel
theorem d_Mo_move_19 : decode b_Mo_move 19 = .ok (.imul, 1) := by decide +kernel
theorem d_Mo_move_20 : decode b_Mo_move 20 = .ok (.iload_n 2, 1) := by decide +kernel
theorem d_Mo_move_21 : decode b_Mo_move 21 = .ok (.iadd, 1) := by decide +kernel
theorem d_Mo_move_22 : decode b_Mo_move 22 = .ok (.iaload, 1) := by decide +kernel
theorem d_Mo_move_23 : decode b_Mo_move 23 = .ok (.istore_n 3, 1) := by decide +kernel
theorem d_Mo_move_24 : decode b_Mo_move 24 = .ok (.iload_n 2, 1) := by decide +kernel
theorem d_Mo_move_25 : decode b_Mo_move 25 = .ok (.ifCond .ne 12, 3) := by decide +kernel
theorem d_Mo_move_28 : decode b_Mo_move 28 = .ok (.aload_n 0, 1) := by decide +kernel
theorem d_Mo_move_29 : decode b_Mo_move 29 = .ok (.getfield 13, 3) := by decide +kernel
theorem d_Mo_move_32 : decode b_Mo_move 32 = .ok (.iload_n 1, 1) := by decide +kernel
theorem d_Mo_move_33 : decode b_Mo_move 33 = .ok (.iaload, 1) := by decide +kernel
theorem d_Mo_move_34 : decode b_Mo_move 34 = .ok (.goto 25, 3) := by decide +kernel
theorem d_Mo_move_37 : decode b_Mo_move 37 = .ok (.aload_n 0, 1) := by decide +kernel
theorem d_Mo_move_38 : decode b_Mo_move 38 = .ok (.aload_n 0, 1) := by decide +kernel
theorem d_Mo_move_39 : decode b_Mo_move 39 = .ok (.getfield 36, 3) := by decide +kernel
theorem d_Mo_move_42 : decode b_Mo_move 42 = .ok (.bipush 60, 2) := by decide +kernel
theorem d_Mo_move_44 : decode b_Mo_move 44 = .ok (.iload_n 1, 1) := by decide +kernel
theorem d_Mo_move_45 : decode b_Mo_move 45 = .ok (.imul, 1) := by decide +kernel
theorem d_Mo_move_46 : decode b_Mo_move 46 = .ok (.iload_n 2, 1) := by decide +kernel
theorem d_Mo_move_47 : decode b_Mo_move 47 = .ok (.iadd, 1) := by decide +kernel
theorem d_Mo_move_48 : decode b_Mo_move 48 = .ok (.iconst 1, 1) := by decide +kernel
theorem d_Mo_move_49 : decode b_Mo_move 49 = .ok (.isub, 1) := by decide +kernel
theorem d_Mo_move_50 : decode b_Mo_move 50 = .ok (.iaload, 1) := by decide +kernel
theorem d_Mo_move_51 : decode b_Mo_move 51 = .ok (.invokevirtual 106, 3) := by decide +kernel
theorem d_Mo_move_54 : decode b_Mo_move 54 = .ok (.aload_n 0, 1) := by decide +kernel
theorem d_Mo_move_55 : decode b_Mo_move 55 = .ok (.getfield 7, 3) := by decide +kernel
theorem d_Mo_move_58 : decode b_Mo_move 58 = .ok (.isub, 1) := by decide +kernel
theorem d_Mo_move_59 : decode b_Mo_move 59 = .ok (.istore 4, 2) := by decide +kernel
theorem d_Mo_move_61 : decode b_Mo_move 61 = .ok (.aload_n 0, 1) := by decide +kernel
theorem d_Mo_move_62 : decode b_Mo_move 62 = .ok (.getfield 45, 3) := by decide +kernel
theorem d_Mo_move_65 : decode b_Mo_move 65 = .ok (.iload_n 3, 1) := by decide +kernel
theorem d_Mo_move_66 : decode b_Mo_move 66 = .ok (.iaload, 1) := by decide +kernel
theorem d_Mo_move_67 : decode b_Mo_move 67 = .ok (.aload_n 0, 1) := by decide +kernel
theorem d_Mo_move_68 : decode b_Mo_move 68 = .ok (.getfield 17, 3) := by decide +kernel
theorem d_Mo_move_71 : decode b_Mo_move 71 = .ok (.iload_n 1, 1) := by decide +kernel
theorem d_Mo_move_72 : decode b_Mo_move 72 = .ok (.iaload, 1) := by decide +kernel
theorem d_Mo_move_73 : decode b_Mo_move 73 = .ok (.iadd, 1) := by decide +kernel
theorem d_Mo_move_74 : decode b_Mo_move 74 = .ok (.istore 5, 2) := by decide +kernel
theorem d_Mo_move_76 : decode b_Mo_move 76 = .ok (.iload 5, 2) := by decide +kernel
theorem d_Mo_move_78 : decode b_Mo_move 78 = .ok (.aload_n 0, 1) := by decide +kernel
theorem d_Mo_move_79 : decode b_Mo_move 79 = .ok (.getfield 13, 3) := by decide +kernel
theorem d_Mo_move_82 : decode b_Mo_move 82 = .ok (.iload_n 1, 1) := by decide +kernel
theorem d_Mo_move_83 : decode b_Mo_move 83 = .ok (.iaload, 1) := by decide +kernel
theorem d_Mo_move_84 : decode b_Mo_move 84 = .ok (.if_icmp .le 12, 3) := by decide +kernel
theorem d_Mo_move_87 : decode b_Mo_move 87 = .ok (.aload_n 0, 1) := by decide +kernel
theorem d_Mo_move_88 : decode b_Mo_move 88 = .ok (.getfield 13, 3) := by decide +kernel
theorem d_Mo_move_91 : decode b_Mo_move 91 = .ok (.iload_n 1, 1) := by decide +kernel
theorem d_Mo_move_92 : decode b_Mo_move 92 = .ok (.iaload, 1) := by decide +kernel
theorem d_Mo_move_93 : decode b_Mo_move 93 = .ok (.goto 5, 3) := by decide +kernel
theorem d_Mo_move_96 : decode b_Mo_move 96 = .ok (.iload 5, 2) := by decide +kernel
theorem d_Mo_move_98 : decode b_Mo_move 98 = .ok (.istore 5, 2) := by decide +kernel
theorem d_Mo_move_100 : decode b_Mo_move 100 = .ok (.iload 5, 2) := by decide +kernel
theorem d_Mo_move_102 : decode b_Mo_move 102 = .ok (.iload 4, 2) := by decide +kernel
theorem d_Mo_move_104 : decode b_Mo_move 104 = .ok (.if_icmp .le 8, 3) := by decide +kernel
theorem d_Mo_move_107 : decode b_Mo_move 107 = .ok (.iload 4, 2) := by decide +kernel
theorem d_Mo_move_109 : decode b_Mo_move 109 = .ok (.goto 5, 3) := by decide +kernel
theorem d_Mo_move_112 : decode b_Mo_move 112 = .ok (.iload 5, 2) := by decide +kernel
theorem d_Mo_move_114 : decode b_Mo_move 114 = .ok (.istore 5, 2) := by decide +kernel
theorem d_Mo_move_116 : decode b_Mo_move 116 = .ok (.iload 5, 2) := by decide +kernel
theorem d_Mo_move_118 : decode b_Mo_move 118 = .ok (.aload_n 0, 1) := by decide +kernel
theorem d_Mo_move_119 : decode b_Mo_move 119 = .ok (.getfield 45, 3) := by decide +kernel
theorem d_Mo_move_122 : decode b_Mo_move 122 = .ok (.iload_n 3, 1) := by decide +kernel
theorem d_Mo_move_123 : decode b_Mo_move 123 = .ok (.iaload, 1) := by decide +kernel
theorem d_Mo_move_124 : decode b_Mo_move 124 = .ok (.if_icmp .ge 12, 3) := by decide +kernel
theorem d_Mo_move_127 : decode b_Mo_move 127 = .ok (.aload_n 0, 1) := by decide +kernel
theorem d_Mo_move_128 : decode b_Mo_move 128 = .ok (.getfield 45, 3) := by decide +kernel
theorem d_Mo_move_131 : decode b_Mo_move 131 = .ok (.iload_n 3, 1) := by decide +kernel
theorem d_Mo_move_132 : decode b_Mo_move 132 = .ok (.iaload, 1) := by decide +kernel
theorem d_Mo_move_133 : decode b_Mo_move 133 = .ok (.goto 5, 3) := by decide +kernel
theorem d_Mo_move_136 : decode b_Mo_move 136 = .ok (.iload 5, 2) := by decide +kernel
theorem d_Mo_move_138 : decode b_Mo_move 138 = .ok (.istore 5, 2) := by decide +kernel
theorem d_Mo_move_140 : decode b_Mo_move 140 = .ok (.aload_n 0, 1) := by decide +kernel
theorem d_Mo_move_141 : decode b_Mo_move 141 = .ok (.getfield 57, 3) := by decide +kernel
theorem d_Mo_move_144 : decode b_Mo_move 144 = .ok (.iload_n 3, 1) := by decide +kernel
theorem d_Mo_move_145 : decode b_Mo_move 145 = .ok (.dup2, 1) := by decide +kernel
theorem d_Mo_move_146 : decode b_Mo_move 146 = .ok (.iaload, 1) := by decide +kernel
theorem d_Mo_move_147 : decode b_Mo_move 147 = .ok (.aload_n 0, 1) := by decide +kernel
theorem d_Mo_move_148 : decode b_Mo_move 148 = .ok (.getfield 17, 3) := by decide +kernel
theorem d_Mo_move_151 : decode b_Mo_move 151 = .ok (.iload_n 1, 1) := by decide +kernel
theorem d_Mo_move_152 : decode b_Mo_move 152 = .ok (.iaload, 1) := by decide +kernel
theorem d_Mo_move_153 : decode b_Mo_move 153 = .ok (.iadd, 1) := by decide +kernel
theorem d_Mo_move_154 : decode b_Mo_move 154 = .ok (.iastore, 1) := by decide +kernel
theorem d_Mo_move_155 : decode b_Mo_move 155 = .ok (.aload_n 0, 1) := by decide +kernel
theorem d_Mo_move_156 : decode b_Mo_move 156 = .ok (.getfield 57, 3) := by decide +kernel
theorem d_Mo_move_159 : decode b_Mo_move 159 = .ok (.iload_n 3, 1) := by decide +kernel
theorem d_Mo_move_160 : decode b_Mo_move 160 = .ok (.aload_n 0, 1) := by decide +kernel
theorem d_Mo_move_161 : decode b_Mo_move 161 = .ok (.getfield 57, 3) := by decide +kernel
theorem d_Mo_move_164 : decode b_Mo_move 164 = .ok (.iload_n 3, 1) := by decide +kernel
theorem d_Mo_move_165 : decode b_Mo_move 165 = .ok (.iaload, 1) := by decide +kernel
theorem d_Mo_move_166 : decode b_Mo_move 166 = .ok (.aload_n 0, 1) := by decide +kernel
theorem d_Mo_move_167 : decode b_Mo_move 167 = .ok (.getfield 13, 3) := by decide +kernel
theorem d_Mo_move_170 : decode b_Mo_move 170 = .ok (.iload_n 1, 1) := by decide +kernel
theorem d_Mo_move_171 : decode b_Mo_move 171 = .ok (.iaload, 1) := by decide +kernel
theorem d_Mo_move_172 : decode b_Mo_move 172 = .ok (.if_icmp .le 12, 3) := by decide +kernel
theorem d_Mo_move_175 : decode b_Mo_move 175 = .ok (.aload_n 0, 1) := by decide +kernel
theorem d_Mo_move_176 : decode b_Mo_move 176 = .ok (.getfield 13, 3) := by decide +kernel
theorem d_Mo_move_179 : decode b_Mo_move 179 = .ok (.iload_n 1, 1) := by decide +kernel
theorem d_Mo_move_180 : decode b_Mo_move 180 = .ok (.iaload, 1) := by decide +kernel
theorem d_Mo_move_181 : decode b_Mo_move 181 = .ok (.goto 9, 3) := by decide +kernel
theorem d_Mo_move_184 : decode b_Mo_move 184 = .ok (.aload_n 0, 1) := by decide +kernel
theorem d_Mo_move_185 : decode b_Mo_move 185 = .ok (.getfield 57, 3) := by decide +kernel
theorem d_Mo_move_188 : decode b_Mo_move 188 = .ok (.iload_n 3, 1) := by decide +kernel
theorem d_Mo_move_189 : decode b_Mo_move 189 = .ok (.iaload, 1) := by decide +kernel
theorem d_Mo_move_190 : decode b_Mo_move 190 = .ok (.iastore, 1) := by decide +kernel
theorem d_Mo_move_191 : decode b_Mo_move 191 = .ok (.iconst 0, 1) := by decide +kernel
theorem d_Mo_move_192 : decode b_Mo_move 192 = .ok (.istore 6, 2) := by decide +kernel
theorem d_Mo_move_194 : decode b_Mo_move 194 = .ok (.iload 6, 2) := by decide +kernel
theorem d_Mo_move_196 : decode b_Mo_move 196 = .ok (.aload_n 0, 1) := by decide +kernel
theorem d_Mo_move_197 : decode b_Mo_move 197 = .ok (.getfield 99, 3) := by decide +kernel
theorem d_Mo_move_200 : decode b_Mo_move 200 = .ok (.if_icmp .ge 96, 3) := by decide +kernel
theorem d_Mo_move_203 : decode b_Mo_move 203 = .ok (.aload_n 0, 1) := by decide +kernel
theorem d_Mo_move_204 : decode b_Mo_move 204 = .ok (.getfield 63, 3) := by decide +kernel
theorem d_Mo_move_207 : decode b_Mo_move 207 = .ok (.iload 6, 2) := by decide +kernel
theorem d_Mo_move_209 : decode b_Mo_move 209 = .ok (.iaload, 1) := by decide +kernel
theorem d_Mo_move_210 : decode b_Mo_move 210 = .ok (.iload_n 1, 1) := by decide +kernel
theorem d_Mo_move_211 : decode b_Mo_move 211 = .ok (.if_icmp .ne 79, 3) := by decide +kernel
theorem d_Mo_move_214 : decode b_Mo_move 214 = .ok (.aload_n 0, 1) := by decide +kernel
theorem d_Mo_move_215 : decode b_Mo_move 215 = .ok (.getfield 45, 3) := by decide +kernel
theorem d_Mo_move_218 : decode b_Mo_move 218 = .ok (.iload_n 3, 1) := by decide +kernel
theorem d_Mo_move_219 : decode b_Mo_move 219 = .ok (.iaload, 1) := by decide +kernel
theorem d_Mo_move_220 : decode b_Mo_move 220 = .ok (.aload_n 0, 1) := by decide +kernel
theorem d_Mo_move_221 : decode b_Mo_move 221 = .ok (.getfield 66, 3) := by decide +kernel
theorem d_Mo_move_224 : decode b_Mo_move 224 = .ok (.iload 6, 2) := by decide +kernel
theorem d_Mo_move_226 : decode b_Mo_move 226 = .ok (.iaload, 1) := by decide +kernel
theorem d_Mo_move_227 : decode b_Mo_move 227 = .ok (.if_icmp .ge 63, 3) := by decide +kernel
theorem d_Mo_move_230 : decode b_Mo_move 230 = .ok (.iload 5, 2) := by decide +kernel
theorem d_Mo_move_232 : decode b_Mo_move 232 = .ok (.aload_n 0, 1) := by decide +kernel
theorem d_Mo_move_233 : decode b_Mo_move 233 = .ok (.getfield 66, 3) := by decide +kernel
theorem d_Mo_move_236 : decode b_Mo_move 236 = .ok (.iload 6, 2) := by decide +kernel
theorem d_Mo_move_238 : decode b_Mo_move 238 = .ok (.iaload, 1) := by decide +kernel
theorem d_Mo_move_239 : decode b_Mo_move 239 = .ok (.if_icmp .ge 6, 3) := by decide +kernel
theorem d_Mo_move_242 : decode b_Mo_move 242 = .ok (.goto 48, 3) := by decide +kernel
theorem d_Mo_move_245 : decode b_Mo_move 245 = .ok (.aload_n 0, 1) := by decide +kernel
theorem d_Mo_move_246 : decode b_Mo_move 246 = .ok (.getfield 72, 3) := by decide +kernel
theorem d_Mo_move_249 : decode b_Mo_move 249 = .ok (.aload_n 0, 1) := by decide +kernel
theorem d_Mo_move_250 : decode b_Mo_move 250 = .ok (.getfield 128, 3) := by decide +kernel
theorem d_Mo_move_253 : decode b_Mo_move 253 = .ok (.aload_n 0, 1) := by decide +kernel
theorem d_Mo_move_254 : decode b_Mo_move 254 = .ok (.getfield 115, 3) := by decide +kernel
theorem d_Mo_move_257 : decode b_Mo_move 257 = .ok (.aload_n 0, 1) := by decide +kernel
theorem d_Mo_move_258 : decode b_Mo_move 258 = .ok (.getfield 69, 3) := by decide +kernel
theorem d_Mo_move_261 : decode b_Mo_move 261 = .ok (.iload 6, 2) := by decide +kernel
theorem d_Mo_move_263 : decode b_Mo_move 263 = .ok (.iaload, 1) := by decide +kernel
theorem d_Mo_move_264 : decode b_Mo_move 264 = .ok (.iadd, 1) := by decide +kernel
theorem d_Mo_move_265 : decode b_Mo_move 265 = .ok (.i2l, 1) := by decide +kernel
theorem d_Mo_move_266 : decode b_Mo_move 266 = .ok (.bipush 32, 2) := by decide +kernel
theorem d_Mo_move_268 : decode b_Mo_move 268 = .ok (.lshl, 1) := by decide +kernel
theorem d_Mo_move_269 : decode b_Mo_move 269 = .ok (.iload_n 3, 1) := by decide +kernel
theorem d_Mo_move_270 : decode b_Mo_move 270 = .ok (.i2l, 1) := by decide +kernel
theorem d_Mo_move_271 : decode b_Mo_move 271 = .ok (.bipush 8, 2) := by decide +kernel
theorem d_Mo_move_273 : decode b_Mo_move 273 = .ok (.lshl, 1) := by decide +kernel
theorem d_Mo_move_274 : decode b_Mo_move 274 = .ok (.lor, 1) := by decide +kernel
theorem d_Mo_move_275 : decode b_Mo_move 275 = .ok (.iload 6, 2) := by decide +kernel
theorem d_Mo_move_277 : decode b_Mo_move 277 = .ok (.i2l, 1) := by decide +kernel
theorem d_Mo_move_278 : decode b_Mo_move 278 = .ok (.lor, 1) := by decide +kernel
theorem d_Mo_move_279 : decode b_Mo_move 279 = .ok (.lastore, 1) := by decide +kernel
theorem d_Mo_move_280 : decode b_Mo_move 280 = .ok (.aload_n 0, 1) := by decide +kernel
theorem d_Mo_move_281 : decode b_Mo_move 281 = .ok (.dup, 1) := by decide +kernel
theorem d_Mo_move_282 : decode b_Mo_move 282 = .ok (.getfield 128, 3) := by decide +kernel
theorem d_Mo_move_285 : decode b_Mo_move 285 = .ok (.iconst 1, 1) := by decide +kernel
theorem d_Mo_move_286 : decode b_Mo_move 286 = .ok (.iadd, 1) := by decide +kernel
theorem d_Mo_move_287 : decode b_Mo_move 287 = .ok (.putfield 128, 3) := by decide +kernel
theorem d_Mo_move_290 : decode b_Mo_move 290 = .ok (.iinc 6 1, 3) := by decide +kernel
theorem d_Mo_move_293 : decode b_Mo_move 293 = .ok (.goto (-99), 3) := by decide +kernel
theorem d_Mo_move_296 : decode b_Mo_move 296 = .ok (.aload_n 0, 1) := by decide +kernel
theorem d_Mo_move_297 : decode b_Mo_move 297 = .ok (.getfield 45, 3) := by decide +kernel
theorem d_Mo_move_300 : decode b_Mo_move 300 = .ok (.iload_n 3, 1) := by decide +kernel
theorem d_Mo_move_301 : decode b_Mo_move 301 = .ok (.iload 5, 2) := by decide +kernel
theorem d_Mo_move_303 : decode b_Mo_move 303 = .ok (.iastore, 1) := by decide +kernel
theorem d_Mo_move_304 : decode b_Mo_move 304 = .ok (.iinc 2 1, 3) := by decide +kernel
theorem d_Mo_move_307 : decode b_Mo_move 307 = .ok (.goto (-305), 3) := by decide +kernel
theorem d_Mo_move_310 : decode b_Mo_move 310 = .ok (.return_, 1) := by decide +kernel
abbrev b_Mo_edge : ByteArray := prog_8_method_26_code
abbrev n_Mo_edge : MethodName := ⟨"BeltRowsModel", "edge", "(II)I"⟩
theorem d_Mo_edge_0 : decode b_Mo_edge 0 = .ok (.aload_n 0, 1) := by decide +kernel
theorem d_Mo_edge_1 : decode b_Mo_edge 1 = .ok (.iload_n 1, 1) := by decide +kernel
theorem d_Mo_edge_2 : decode b_Mo_edge 2 = .ok (.iconst 0, 1) := by decide +kernel
theorem d_Mo_edge_3 : decode b_Mo_edge 3 = .ok (.aload_n 0, 1) := by decide +kernel
theorem d_Mo_edge_4 : decode b_Mo_edge 4 = .ok (.getfield 125, 3) := by decide +kernel
theorem d_Mo_edge_7 : decode b_Mo_edge 7 = .ok (.iconst 1, 1) := by decide +kernel
theorem d_Mo_edge_8 : decode b_Mo_edge 8 = .ok (.isub, 1) := by decide +kernel
theorem d_Mo_edge_9 : decode b_Mo_edge 9 = .ok (.invokestatic 88, 3) := by decide +kernel
theorem d_Mo_edge_12 : decode b_Mo_edge 12 = .ok (.ifCond .ne 7, 3) := by decide +kernel
theorem d_Mo_edge_15 : decode b_Mo_edge 15 = .ok (.iconst 1, 1) := by decide +kernel
theorem d_Mo_edge_16 : decode b_Mo_edge 16 = .ok (.goto 17, 3) := by decide +kernel
theorem d_Mo_edge_19 : decode b_Mo_edge 19 = .ok (.iload_n 2, 1) := by decide +kernel
theorem d_Mo_edge_20 : decode b_Mo_edge 20 = .ok (.iconst 0, 1) := by decide +kernel
theorem d_Mo_edge_21 : decode b_Mo_edge 21 = .ok (.iconst 3, 1) := by decide +kernel
theorem d_Mo_edge_22 : decode b_Mo_edge 22 = .ok (.invokestatic 88, 3) := by decide +kernel
theorem d_Mo_edge_25 : decode b_Mo_edge 25 = .ok (.ifCond .ne 7, 3) := by decide +kernel
theorem d_Mo_edge_28 : decode b_Mo_edge 28 = .ok (.iconst 2, 1) := by decide +kernel
theorem d_Mo_edge_29 : decode b_Mo_edge 29 = .ok (.goto 4, 3) := by decide +kernel
theorem d_Mo_edge_32 : decode b_Mo_edge 32 = .ok (.iconst 0, 1) := by decide +kernel
theorem d_Mo_edge_33 : decode b_Mo_edge 33 = .ok (.putfield 82, 3) := by decide +kernel
theorem d_Mo_edge_36 : decode b_Mo_edge 36 = .ok (.aload_n 0, 1) := by decide +kernel
theorem d_Mo_edge_37 : decode b_Mo_edge 37 = .ok (.getfield 82, 3) := by decide +kernel
theorem d_Mo_edge_40 : decode b_Mo_edge 40 = .ok (.ifCond .le 5, 3) := by decide +kernel
theorem d_Mo_edge_43 : decode b_Mo_edge 43 = .ok (.iconst 0, 1) := by decide +kernel
theorem d_Mo_edge_44 : decode b_Mo_edge 44 = .ok (.ireturn, 1) := by decide +kernel
theorem d_Mo_edge_45 : decode b_Mo_edge 45 = .ok (.iload_n 2, 1) := by decide +kernel
theorem d_Mo_edge_46 : decode b_Mo_edge 46 = .ok (.ifCond .ne 14, 3) := by decide +kernel
theorem d_Mo_edge_49 : decode b_Mo_edge 49 = .ok (.aload_n 0, 1) := by decide +kernel
theorem d_Mo_edge_50 : decode b_Mo_edge 50 = .ok (.getfield 76, 3) := by decide +kernel
theorem d_Mo_edge_53 : decode b_Mo_edge 53 = .ok (.iload_n 1, 1) := by decide +kernel
theorem d_Mo_edge_54 : decode b_Mo_edge 54 = .ok (.laload, 1) := by decide +kernel
theorem d_Mo_edge_55 : decode b_Mo_edge 55 = .ok (.bipush 32, 2) := by decide +kernel
theorem d_Mo_edge_57 : decode b_Mo_edge 57 = .ok (.lshr, 1) := by decide +kernel
theorem d_Mo_edge_58 : decode b_Mo_edge 58 = .ok (.l2i, 1) := by decide +kernel
theorem d_Mo_edge_59 : decode b_Mo_edge 59 = .ok (.ireturn, 1) := by decide +kernel
theorem d_Mo_edge_60 : decode b_Mo_edge 60 = .ok (.iload_n 2, 1) := by decide +kernel
theorem d_Mo_edge_61 : decode b_Mo_edge 61 = .ok (.iconst 1, 1) := by decide +kernel
theorem d_Mo_edge_62 : decode b_Mo_edge 62 = .ok (.if_icmp .ne 18, 3) := by decide +kernel
theorem d_Mo_edge_65 : decode b_Mo_edge 65 = .ok (.aload_n 0, 1) := by decide +kernel
theorem d_Mo_edge_66 : decode b_Mo_edge 66 = .ok (.getfield 76, 3) := by decide +kernel
theorem d_Mo_edge_69 : decode b_Mo_edge 69 = .ok (.iload_n 1, 1) := by decide +kernel
theorem d_Mo_edge_70 : decode b_Mo_edge 70 = .ok (.laload, 1) := by decide +kernel
theorem d_Mo_edge_71 : decode b_Mo_edge 71 = .ok (.bipush 24, 2) := by decide +kernel
theorem d_Mo_edge_73 : decode b_Mo_edge 73 = .ok (.lshr, 1) := by decide +kernel
theorem d_Mo_edge_74 : decode b_Mo_edge 74 = .ok (.ldc2_w 131, 3) := by decide +kernel
theorem d_Mo_edge_77 : decode b_Mo_edge 77 = .ok (.land, 1) := by decide +kernel
theorem d_Mo_edge_78 : decode b_Mo_edge 78 = .ok (.l2i, 1) := by decide +kernel
theorem d_Mo_edge_79 : decode b_Mo_edge 79 = .ok (.ireturn, 1) := by decide +kernel
theorem d_Mo_edge_80 : decode b_Mo_edge 80 = .ok (.iload_n 2, 1) := by decide +kernel
theorem d_Mo_edge_81 : decode b_Mo_edge 81 = .ok (.iconst 2, 1) := by decide +kernel
theorem d_Mo_edge_82 : decode b_Mo_edge 82 = .ok (.if_icmp .ne 20, 3) := by decide +kernel
theorem d_Mo_edge_85 : decode b_Mo_edge 85 = .ok (.aload_n 0, 1) := by decide +kernel
theorem d_Mo_edge_86 : decode b_Mo_edge 86 = .ok (.getfield 76, 3) := by decide +kernel
theorem d_Mo_edge_89 : decode b_Mo_edge 89 = .ok (.iload_n 1, 1) := by decide +kernel
theorem d_Mo_edge_90 : decode b_Mo_edge 90 = .ok (.laload, 1) := by decide +kernel
theorem d_Mo_edge_91 : decode b_Mo_edge 91 = .ok (.bipush 8, 2) := by decide +kernel
theorem d_Mo_edge_93 : decode b_Mo_edge 93 = .ok (.lshr, 1) := by decide +kernel
theorem d_Mo_edge_94 : decode b_Mo_edge 94 = .ok (.ldc2_w 162, 3) := by decide +kernel
theorem d_Mo_edge_97 : decode b_Mo_edge 97 = .ok (.land, 1) := by decide +kernel
theorem d_Mo_edge_98 : decode b_Mo_edge 98 = .ok (.l2i, 1) := by decide +kernel
theorem d_Mo_edge_99 : decode b_Mo_edge 99 = .ok (.goto 14, 3) := by decide +kernel
theorem d_Mo_edge_102 : decode b_Mo_edge 102 = .ok (.aload_n 0, 1) := by decide +kernel
theorem d_Mo_edge_103 : decode b_Mo_edge 103 = .ok (.getfield 76, 3) := by decide +kernel
theorem d_Mo_edge_106 : decode b_Mo_edge 106 = .ok (.iload_n 1, 1) := by decide +kernel
theorem d_Mo_edge_107 : decode b_Mo_edge 107 = .ok (.laload, 1) := by decide +kernel
theorem d_Mo_edge_108 : decode b_Mo_edge 108 = .ok (.ldc2_w 131, 3) := by decide +kernel
theorem d_Mo_edge_111 : decode b_Mo_edge 111 = .ok (.land, 1) := by decide +kernel
theorem d_Mo_edge_112 : decode b_Mo_edge 112 = .ok (.l2i, 1) := by decide +kernel
theorem d_Mo_edge_113 : decode b_Mo_edge 113 = .ok (.ireturn, 1) := by decide +kernel
abbrev b_Mo_slip : ByteArray := prog_8_method_27_code
abbrev n_Mo_slip : MethodName := ⟨"BeltRowsModel", "slip", "(II)I"⟩
theorem d_Mo_slip_0 : decode b_Mo_slip 0 = .ok (.aload_n 0, 1) := by decide +kernel
theorem d_Mo_slip_1 : decode b_Mo_slip 1 = .ok (.aload_n 0, 1) := by decide +kernel
theorem d_Mo_slip_2 : decode b_Mo_slip 2 = .ok (.iload_n 1, 1) := by decide +kernel
theorem d_Mo_slip_3 : decode b_Mo_slip 3 = .ok (.invokevirtual 122, 3) := by decide +kernel
theorem d_Mo_slip_6 : decode b_Mo_slip 6 = .ok (.ifCond .ne 7, 3) := by decide +kernel
theorem d_Mo_slip_9 : decode b_Mo_slip 9 = .ok (.iconst 1, 1) := by decide +kernel
theorem d_Mo_slip_10 : decode b_Mo_slip 10 = .ok (.goto 19, 3) := by decide +kernel
theorem d_Mo_slip_13 : decode b_Mo_slip 13 = .ok (.iload_n 2, 1) := by decide +kernel
theorem d_Mo_slip_14 : decode b_Mo_slip 14 = .ok (.iconst 1, 1) := by decide +kernel
theorem d_Mo_slip_15 : decode b_Mo_slip 15 = .ok (.sipush 1000, 3) := by decide +kernel
theorem d_Mo_slip_18 : decode b_Mo_slip 18 = .ok (.invokestatic 88, 3) := by decide +kernel
theorem d_Mo_slip_21 : decode b_Mo_slip 21 = .ok (.ifCond .ne 7, 3) := by decide +kernel
theorem d_Mo_slip_24 : decode b_Mo_slip 24 = .ok (.iconst 2, 1) := by decide +kernel
theorem d_Mo_slip_25 : decode b_Mo_slip 25 = .ok (.goto 4, 3) := by decide +kernel
theorem d_Mo_slip_28 : decode b_Mo_slip 28 = .ok (.iconst 0, 1) := by decide +kernel
theorem d_Mo_slip_29 : decode b_Mo_slip 29 = .ok (.putfield 82, 3) := by decide +kernel
theorem d_Mo_slip_32 : decode b_Mo_slip 32 = .ok (.aload_n 0, 1) := by decide +kernel
theorem d_Mo_slip_33 : decode b_Mo_slip 33 = .ok (.getfield 82, 3) := by decide +kernel
theorem d_Mo_slip_36 : decode b_Mo_slip 36 = .ok (.ifCond .ne 31, 3) := by decide +kernel
theorem d_Mo_slip_39 : decode b_Mo_slip 39 = .ok (.aload_n 0, 1) := by decide +kernel
theorem d_Mo_slip_40 : decode b_Mo_slip 40 = .ok (.aload_n 0, 1) := by decide +kernel
theorem d_Mo_slip_41 : decode b_Mo_slip 41 = .ok (.getfield 39, 3) := by decide +kernel
theorem d_Mo_slip_44 : decode b_Mo_slip 44 = .ok (.iload_n 1, 1) := by decide +kernel
theorem d_Mo_slip_45 : decode b_Mo_slip 45 = .ok (.iaload, 1) := by decide +kernel
theorem d_Mo_slip_46 : decode b_Mo_slip 46 = .ok (.ifCond .ne 13, 3) := by decide +kernel
theorem d_Mo_slip_49 : decode b_Mo_slip 49 = .ok (.aload_n 0, 1) := by decide +kernel
theorem d_Mo_slip_50 : decode b_Mo_slip 50 = .ok (.getfield 45, 3) := by decide +kernel
theorem d_Mo_slip_53 : decode b_Mo_slip 53 = .ok (.iload_n 1, 1) := by decide +kernel
theorem d_Mo_slip_54 : decode b_Mo_slip 54 = .ok (.iaload, 1) := by decide +kernel
theorem d_Mo_slip_55 : decode b_Mo_slip 55 = .ok (.iload_n 2, 1) := by decide +kernel
theorem d_Mo_slip_56 : decode b_Mo_slip 56 = .ok (.if_icmp .ge 7, 3) := by decide +kernel
theorem d_Mo_slip_59 : decode b_Mo_slip 59 = .ok (.iconst 3, 1) := by decide +kernel
theorem d_Mo_slip_60 : decode b_Mo_slip 60 = .ok (.goto 4, 3) := by decide +kernel
theorem d_Mo_slip_63 : decode b_Mo_slip 63 = .ok (.iconst 0, 1) := by decide +kernel
theorem d_Mo_slip_64 : decode b_Mo_slip 64 = .ok (.putfield 82, 3) := by decide +kernel
theorem d_Mo_slip_67 : decode b_Mo_slip 67 = .ok (.aload_n 0, 1) := by decide +kernel
theorem d_Mo_slip_68 : decode b_Mo_slip 68 = .ok (.getfield 82, 3) := by decide +kernel
theorem d_Mo_slip_71 : decode b_Mo_slip 71 = .ok (.ifCond .le 5, 3) := by decide +kernel
theorem d_Mo_slip_74 : decode b_Mo_slip 74 = .ok (.iconst 0, 1) := by decide +kernel
theorem d_Mo_slip_75 : decode b_Mo_slip 75 = .ok (.ireturn, 1) := by decide +kernel
theorem d_Mo_slip_76 : decode b_Mo_slip 76 = .ok (.aload_n 0, 1) := by decide +kernel
theorem d_Mo_slip_77 : decode b_Mo_slip 77 = .ok (.iload_n 1, 1) := by decide +kernel
theorem d_Mo_slip_78 : decode b_Mo_slip 78 = .ok (.invokevirtual 109, 3) := by decide +kernel
theorem d_Mo_slip_81 : decode b_Mo_slip 81 = .ok (.iconst 1, 1) := by decide +kernel
theorem d_Mo_slip_82 : decode b_Mo_slip 82 = .ok (.iadd, 1) := by decide +kernel
theorem d_Mo_slip_83 : decode b_Mo_slip 83 = .ok (.istore_n 3, 1) := by decide +kernel
theorem d_Mo_slip_84 : decode b_Mo_slip 84 = .ok (.iload_n 3, 1) := by decide +kernel
theorem d_Mo_slip_85 : decode b_Mo_slip 85 = .ok (.aload_n 0, 1) := by decide +kernel
theorem d_Mo_slip_86 : decode b_Mo_slip 86 = .ok (.getfield 33, 3) := by decide +kernel
theorem d_Mo_slip_89 : decode b_Mo_slip 89 = .ok (.aload_n 0, 1) := by decide +kernel
theorem d_Mo_slip_90 : decode b_Mo_slip 90 = .ok (.getfield 42, 3) := by decide +kernel
theorem d_Mo_slip_93 : decode b_Mo_slip 93 = .ok (.iload_n 1, 1) := by decide +kernel
theorem d_Mo_slip_94 : decode b_Mo_slip 94 = .ok (.iaload, 1) := by decide +kernel
theorem d_Mo_slip_95 : decode b_Mo_slip 95 = .ok (.iaload, 1) := by decide +kernel
theorem d_Mo_slip_96 : decode b_Mo_slip 96 = .ok (.if_icmp .ge 44, 3) := by decide +kernel
theorem d_Mo_slip_99 : decode b_Mo_slip 99 = .ok (.aload_n 0, 1) := by decide +kernel
theorem d_Mo_slip_100 : decode b_Mo_slip 100 = .ok (.iload_n 1, 1) := by decide +kernel
theorem d_Mo_slip_101 : decode b_Mo_slip 101 = .ok (.invokevirtual 106, 3) := by decide +kernel
theorem d_Mo_slip_104 : decode b_Mo_slip 104 = .ok (.iload_n 2, 1) := by decide +kernel
theorem d_Mo_slip_105 : decode b_Mo_slip 105 = .ok (.isub, 1) := by decide +kernel
theorem d_Mo_slip_106 : decode b_Mo_slip 106 = .ok (.aload_n 0, 1) := by decide +kernel
theorem d_Mo_slip_107 : decode b_Mo_slip 107 = .ok (.getfield 45, 3) := by decide +kernel
theorem d_Mo_slip_110 : decode b_Mo_slip 110 = .ok (.aload_n 0, 1) := by decide +kernel
theorem d_Mo_slip_111 : decode b_Mo_slip 111 = .ok (.getfield 36, 3) := by decide +kernel
theorem d_Mo_slip_114 : decode b_Mo_slip 114 = .ok (.bipush 60, 2) := by decide +kernel
theorem d_Mo_slip_116 : decode b_Mo_slip 116 = .ok (.aload_n 0, 1) := by decide +kernel
theorem d_Mo_slip_117 : decode b_Mo_slip 117 = .ok (.getfield 42, 3) := by decide +kernel
theorem d_Mo_slip_120 : decode b_Mo_slip 120 = .ok (.iload_n 1, 1) := by decide +kernel
theorem d_Mo_slip_121 : decode b_Mo_slip 121 = .ok (.iaload, 1) := by decide +kernel
theorem d_Mo_slip_122 : decode b_Mo_slip 122 = .ok (.imul, 1) := by decide +kernel
theorem d_Mo_slip_123 : decode b_Mo_slip 123 = .ok (.iload_n 3, 1) := by decide +kernel
theorem d_Mo_slip_124 : decode b_Mo_slip 124 = .ok (.iadd, 1) := by decide +kernel
theorem d_Mo_slip_125 : decode b_Mo_slip 125 = .ok (.iaload, 1) := by decide +kernel
theorem d_Mo_slip_126 : decode b_Mo_slip 126 = .ok (.iaload, 1) := by decide +kernel
theorem d_Mo_slip_127 : decode b_Mo_slip 127 = .ok (.isub, 1) := by decide +kernel
theorem d_Mo_slip_128 : decode b_Mo_slip 128 = .ok (.aload_n 0, 1) := by decide +kernel
theorem d_Mo_slip_129 : decode b_Mo_slip 129 = .ok (.getfield 7, 3) := by decide +kernel
theorem d_Mo_slip_132 : decode b_Mo_slip 132 = .ok (.if_icmp .ge 8, 3) := by decide +kernel
theorem d_Mo_slip_135 : decode b_Mo_slip 135 = .ok (.aload_n 0, 1) := by decide +kernel
theorem d_Mo_slip_136 : decode b_Mo_slip 136 = .ok (.iconst 3, 1) := by decide +kernel
theorem d_Mo_slip_137 : decode b_Mo_slip 137 = .ok (.putfield 82, 3) := by decide +kernel
theorem d_Mo_slip_140 : decode b_Mo_slip 140 = .ok (.aload_n 0, 1) := by decide +kernel
theorem d_Mo_slip_141 : decode b_Mo_slip 141 = .ok (.getfield 82, 3) := by decide +kernel
theorem d_Mo_slip_144 : decode b_Mo_slip 144 = .ok (.ifCond .le 5, 3) := by decide +kernel
theorem d_Mo_slip_147 : decode b_Mo_slip 147 = .ok (.iconst 0, 1) := by decide +kernel
theorem d_Mo_slip_148 : decode b_Mo_slip 148 = .ok (.ireturn, 1) := by decide +kernel
theorem d_Mo_slip_149 : decode b_Mo_slip 149 = .ok (.aload_n 0, 1) := by decide +kernel
theorem d_Mo_slip_150 : decode b_Mo_slip 150 = .ok (.getfield 45, 3) := by decide +kernel
theorem d_Mo_slip_153 : decode b_Mo_slip 153 = .ok (.iload_n 1, 1) := by decide +kernel
theorem d_Mo_slip_154 : decode b_Mo_slip 154 = .ok (.dup2, 1) := by decide +kernel
theorem d_Mo_slip_155 : decode b_Mo_slip 155 = .ok (.iaload, 1) := by decide +kernel
theorem d_Mo_slip_156 : decode b_Mo_slip 156 = .ok (.iload_n 2, 1) := by decide +kernel
theorem d_Mo_slip_157 : decode b_Mo_slip 157 = .ok (.isub, 1) := by decide +kernel
theorem d_Mo_slip_158 : decode b_Mo_slip 158 = .ok (.iastore, 1) := by decide +kernel
theorem d_Mo_slip_159 : decode b_Mo_slip 159 = .ok (.aload_n 0, 1) := by decide +kernel
theorem d_Mo_slip_160 : decode b_Mo_slip 160 = .ok (.getfield 45, 3) := by decide +kernel
theorem d_Mo_slip_163 : decode b_Mo_slip 163 = .ok (.iload_n 1, 1) := by decide +kernel
theorem d_Mo_slip_164 : decode b_Mo_slip 164 = .ok (.iaload, 1) := by decide +kernel
theorem d_Mo_slip_165 : decode b_Mo_slip 165 = .ok (.ireturn, 1) := by decide +kernel
abbrev b_Mo_take : ByteArray := prog_8_method_28_code
abbrev n_Mo_take : MethodName := ⟨"BeltRowsModel", "take", "(I)V"⟩
theorem d_Mo_take_0 : decode b_Mo_take 0 = .ok (.aload_n 0, 1) := by decide +kernel
theorem d_Mo_take_1 : decode b_Mo_take 1 = .ok (.aload_n 0, 1) := by decide +kernel
theorem d_Mo_take_2 : decode b_Mo_take 2 = .ok (.iload_n 1, 1) := by decide +kernel
theorem d_Mo_take_3 : decode b_Mo_take 3 = .ok (.invokevirtual 122, 3) := by decide +kernel
theorem d_Mo_take_6 : decode b_Mo_take 6 = .ok (.ifCond .ne 7, 3) := by decide +kernel
theorem d_Mo_take_9 : decode b_Mo_take 9 = .ok (.iconst 1, 1) := by decide +kernel
theorem d_Mo_take_10 : decode b_Mo_take 10 = .ok (.goto 4, 3) := by decide +kernel
theorem d_Mo_take_13 : decode b_Mo_take 13 = .ok (.iconst 0, 1) := by decide +kernel
theorem d_Mo_take_14 : decode b_Mo_take 14 = .ok (.putfield 82, 3) := by decide +kernel
theorem d_Mo_take_17 : decode b_Mo_take 17 = .ok (.aload_n 0, 1) := by decide +kernel
theorem d_Mo_take_18 : decode b_Mo_take 18 = .ok (.getfield 82, 3) := by decide +kernel
theorem d_Mo_take_21 : decode b_Mo_take 21 = .ok (.ifCond .ne 21, 3) := by decide +kernel
theorem d_Mo_take_24 : decode b_Mo_take 24 = .ok (.aload_n 0, 1) := by decide +kernel
theorem d_Mo_take_25 : decode b_Mo_take 25 = .ok (.aload_n 0, 1) := by decide +kernel
theorem d_Mo_take_26 : decode b_Mo_take 26 = .ok (.getfield 39, 3) := by decide +kernel
theorem d_Mo_take_29 : decode b_Mo_take 29 = .ok (.iload_n 1, 1) := by decide +kernel
theorem d_Mo_take_30 : decode b_Mo_take 30 = .ok (.iaload, 1) := by decide +kernel
theorem d_Mo_take_31 : decode b_Mo_take 31 = .ok (.ifCond .eq 7, 3) := by decide +kernel
theorem d_Mo_take_34 : decode b_Mo_take 34 = .ok (.iconst 2, 1) := by decide +kernel
theorem d_Mo_take_35 : decode b_Mo_take 35 = .ok (.goto 4, 3) := by decide +kernel
theorem d_Mo_take_38 : decode b_Mo_take 38 = .ok (.iconst 0, 1) := by decide +kernel
theorem d_Mo_take_39 : decode b_Mo_take 39 = .ok (.putfield 82, 3) := by decide +kernel
theorem d_Mo_take_42 : decode b_Mo_take 42 = .ok (.aload_n 0, 1) := by decide +kernel
theorem d_Mo_take_43 : decode b_Mo_take 43 = .ok (.getfield 82, 3) := by decide +kernel
theorem d_Mo_take_46 : decode b_Mo_take 46 = .ok (.ifCond .le 4, 3) := by decide +kernel
theorem d_Mo_take_49 : decode b_Mo_take 49 = .ok (.return_, 1) := by decide +kernel
theorem d_Mo_take_50 : decode b_Mo_take 50 = .ok (.aload_n 0, 1) := by decide +kernel
theorem d_Mo_take_51 : decode b_Mo_take 51 = .ok (.iload_n 1, 1) := by decide +kernel
theorem d_Mo_take_52 : decode b_Mo_take 52 = .ok (.invokevirtual 143, 3) := by decide +kernel
theorem d_Mo_take_55 : decode b_Mo_take 55 = .ok (.aload_n 0, 1) := by decide +kernel
theorem d_Mo_take_56 : decode b_Mo_take 56 = .ok (.getfield 39, 3) := by decide +kernel
theorem d_Mo_take_59 : decode b_Mo_take 59 = .ok (.iload_n 1, 1) := by decide +kernel
theorem d_Mo_take_60 : decode b_Mo_take 60 = .ok (.iconst 2, 1) := by decide +kernel
theorem d_Mo_take_61 : decode b_Mo_take 61 = .ok (.iastore, 1) := by decide +kernel
theorem d_Mo_take_62 : decode b_Mo_take 62 = .ok (.return_, 1) := by decide +kernel
abbrev b_Mo_clean : ByteArray := prog_8_method_29_code
abbrev n_Mo_clean : MethodName := ⟨"BeltRowsModel", "clean", "(I)I"⟩
theorem d_Mo_clean_0 : decode b_Mo_clean 0 = .ok (.aload_n 0, 1) := by decide +kernel
theorem d_Mo_clean_1 : decode b_Mo_clean 1 = .ok (.aload_n 0, 1) := by decide +kernel
theorem d_Mo_clean_2 : decode b_Mo_clean 2 = .ok (.iload_n 1, 1) := by decide +kernel
theorem d_Mo_clean_3 : decode b_Mo_clean 3 = .ok (.invokevirtual 95, 3) := by decide +kernel
theorem d_Mo_clean_6 : decode b_Mo_clean 6 = .ok (.ifCond .ne 7, 3) := by decide +kernel
theorem d_Mo_clean_9 : decode b_Mo_clean 9 = .ok (.iconst 1, 1) := by decide +kernel
theorem d_Mo_clean_10 : decode b_Mo_clean 10 = .ok (.goto 4, 3) := by decide +kernel
theorem d_Mo_clean_13 : decode b_Mo_clean 13 = .ok (.iconst 0, 1) := by decide +kernel
theorem d_Mo_clean_14 : decode b_Mo_clean 14 = .ok (.putfield 82, 3) := by decide +kernel
theorem d_Mo_clean_17 : decode b_Mo_clean 17 = .ok (.aload_n 0, 1) := by decide +kernel
theorem d_Mo_clean_18 : decode b_Mo_clean 18 = .ok (.getfield 82, 3) := by decide +kernel
theorem d_Mo_clean_21 : decode b_Mo_clean 21 = .ok (.ifCond .ne 21, 3) := by decide +kernel
theorem d_Mo_clean_24 : decode b_Mo_clean 24 = .ok (.aload_n 0, 1) := by decide +kernel
theorem d_Mo_clean_25 : decode b_Mo_clean 25 = .ok (.aload_n 0, 1) := by decide +kernel
theorem d_Mo_clean_26 : decode b_Mo_clean 26 = .ok (.getfield 20, 3) := by decide +kernel
theorem d_Mo_clean_29 : decode b_Mo_clean 29 = .ok (.iload_n 1, 1) := by decide +kernel
theorem d_Mo_clean_30 : decode b_Mo_clean 30 = .ok (.baload, 1) := by decide +kernel
theorem d_Mo_clean_31 : decode b_Mo_clean 31 = .ok (.ifCond .eq 7, 3) := by decide +kernel
theorem d_Mo_clean_34 : decode b_Mo_clean 34 = .ok (.iconst 2, 1) := by decide +kernel
theorem d_Mo_clean_35 : decode b_Mo_clean 35 = .ok (.goto 4, 3) := by decide +kernel
theorem d_Mo_clean_38 : decode b_Mo_clean 38 = .ok (.iconst 0, 1) := by decide +kernel
theorem d_Mo_clean_39 : decode b_Mo_clean 39 = .ok (.putfield 82, 3) := by decide +kernel
theorem d_Mo_clean_42 : decode b_Mo_clean 42 = .ok (.aload_n 0, 1) := by decide +kernel
theorem d_Mo_clean_43 : decode b_Mo_clean 43 = .ok (.getfield 82, 3) := by decide +kernel
theorem d_Mo_clean_46 : decode b_Mo_clean 46 = .ok (.ifCond .le 5, 3) := by decide +kernel
theorem d_Mo_clean_49 : decode b_Mo_clean 49 = .ok (.iconst 0, 1) := by decide +kernel
theorem d_Mo_clean_50 : decode b_Mo_clean 50 = .ok (.ireturn, 1) := by decide +kernel
theorem d_Mo_clean_51 : decode b_Mo_clean 51 = .ok (.aload_n 0, 1) := by decide +kernel
theorem d_Mo_clean_52 : decode b_Mo_clean 52 = .ok (.getfield 33, 3) := by decide +kernel
theorem d_Mo_clean_55 : decode b_Mo_clean 55 = .ok (.iload_n 1, 1) := by decide +kernel
theorem d_Mo_clean_56 : decode b_Mo_clean 56 = .ok (.iaload, 1) := by decide +kernel
theorem d_Mo_clean_57 : decode b_Mo_clean 57 = .ok (.istore_n 2, 1) := by decide +kernel
theorem d_Mo_clean_58 : decode b_Mo_clean 58 = .ok (.iconst 0, 1) := by decide +kernel
theorem d_Mo_clean_59 : decode b_Mo_clean 59 = .ok (.istore_n 3, 1) := by decide +kernel
theorem d_Mo_clean_60 : decode b_Mo_clean 60 = .ok (.iload_n 3, 1) := by decide +kernel
theorem d_Mo_clean_61 : decode b_Mo_clean 61 = .ok (.iload_n 2, 1) := by decide +kernel
theorem d_Mo_clean_62 : decode b_Mo_clean 62 = .ok (.if_icmp .ge 26, 3) := by decide +kernel
theorem d_Mo_clean_65 : decode b_Mo_clean 65 = .ok (.aload_n 0, 1) := by decide +kernel
theorem d_Mo_clean_66 : decode b_Mo_clean 66 = .ok (.getfield 39, 3) := by decide +kernel
theorem d_Mo_clean_69 : decode b_Mo_clean 69 = .ok (.aload_n 0, 1) := by decide +kernel
theorem d_Mo_clean_70 : decode b_Mo_clean 70 = .ok (.getfield 36, 3) := by decide +kernel
theorem d_Mo_clean_73 : decode b_Mo_clean 73 = .ok (.bipush 60, 2) := by decide +kernel
theorem d_Mo_clean_75 : decode b_Mo_clean 75 = .ok (.iload_n 1, 1) := by decide +kernel
theorem d_Mo_clean_76 : decode b_Mo_clean 76 = .ok (.imul, 1) := by decide +kernel
theorem d_Mo_clean_77 : decode b_Mo_clean 77 = .ok (.iload_n 3, 1) := by decide +kernel
theorem d_Mo_clean_78 : decode b_Mo_clean 78 = .ok (.iadd, 1) := by decide +kernel
theorem d_Mo_clean_79 : decode b_Mo_clean 79 = .ok (.iaload, 1) := by decide +kernel
theorem d_Mo_clean_80 : decode b_Mo_clean 80 = .ok (.iconst 2, 1) := by decide +kernel
theorem d_Mo_clean_81 : decode b_Mo_clean 81 = .ok (.iastore, 1) := by decide +kernel
theorem d_Mo_clean_82 : decode b_Mo_clean 82 = .ok (.iinc 3 1, 3) := by decide +kernel
theorem d_Mo_clean_85 : decode b_Mo_clean 85 = .ok (.goto (-25), 3) := by decide +kernel
theorem d_Mo_clean_88 : decode b_Mo_clean 88 = .ok (.aload_n 0, 1) := by decide +kernel
theorem d_Mo_clean_89 : decode b_Mo_clean 89 = .ok (.getfield 33, 3) := by decide +kernel
theorem d_Mo_clean_92 : decode b_Mo_clean 92 = .ok (.iload_n 1, 1) := by decide +kernel
theorem d_Mo_clean_93 : decode b_Mo_clean 93 = .ok (.iconst 0, 1) := by decide +kernel
theorem d_Mo_clean_94 : decode b_Mo_clean 94 = .ok (.iastore, 1) := by decide +kernel
theorem d_Mo_clean_95 : decode b_Mo_clean 95 = .ok (.iload_n 2, 1) := by decide +kernel
theorem d_Mo_clean_96 : decode b_Mo_clean 96 = .ok (.ireturn, 1) := by decide +kernel
abbrev b_Mo_gap : ByteArray := prog_8_method_30_code
abbrev n_Mo_gap : MethodName := ⟨"BeltRowsModel", "gap", "(II)I"⟩
theorem d_Mo_gap_0 : decode b_Mo_gap 0 = .ok (.aload_n 0, 1) := by decide +kernel
theorem d_Mo_gap_1 : decode b_Mo_gap 1 = .ok (.aload_n 0, 1) := by decide +kernel
theorem d_Mo_gap_2 : decode b_Mo_gap 2 = .ok (.iload_n 1, 1) := by decide +kernel
theorem d_Mo_gap_3 : decode b_Mo_gap 3 = .ok (.invokevirtual 122, 3) := by decide +kernel
theorem d_Mo_gap_6 : decode b_Mo_gap 6 = .ok (.ifCond .eq 11, 3) := by decide +kernel
theorem d_Mo_gap_9 : decode b_Mo_gap 9 = .ok (.aload_n 0, 1) := by decide +kernel
theorem d_Mo_gap_10 : decode b_Mo_gap 10 = .ok (.iload_n 2, 1) := by decide +kernel
theorem d_Mo_gap_11 : decode b_Mo_gap 11 = .ok (.invokevirtual 122, 3) := by decide +kernel
theorem d_Mo_gap_14 : decode b_Mo_gap 14 = .ok (.ifCond .ne 7, 3) := by decide +kernel
theorem d_Mo_gap_17 : decode b_Mo_gap 17 = .ok (.iconst 1, 1) := by decide +kernel
theorem d_Mo_gap_18 : decode b_Mo_gap 18 = .ok (.goto 4, 3) := by decide +kernel
theorem d_Mo_gap_21 : decode b_Mo_gap 21 = .ok (.iconst 0, 1) := by decide +kernel
theorem d_Mo_gap_22 : decode b_Mo_gap 22 = .ok (.putfield 82, 3) := by decide +kernel
theorem d_Mo_gap_25 : decode b_Mo_gap 25 = .ok (.aload_n 0, 1) := by decide +kernel
theorem d_Mo_gap_26 : decode b_Mo_gap 26 = .ok (.getfield 82, 3) := by decide +kernel
theorem d_Mo_gap_29 : decode b_Mo_gap 29 = .ok (.ifCond .ne 50, 3) := by decide +kernel
theorem d_Mo_gap_32 : decode b_Mo_gap 32 = .ok (.aload_n 0, 1) := by decide +kernel
theorem d_Mo_gap_33 : decode b_Mo_gap 33 = .ok (.aload_n 0, 1) := by decide +kernel
theorem d_Mo_gap_34 : decode b_Mo_gap 34 = .ok (.getfield 39, 3) := by decide +kernel
theorem d_Mo_gap_37 : decode b_Mo_gap 37 = .ok (.iload_n 1, 1) := by decide +kernel
theorem d_Mo_gap_38 : decode b_Mo_gap 38 = .ok (.iaload, 1) := by decide +kernel
theorem d_Mo_gap_39 : decode b_Mo_gap 39 = .ok (.ifCond .ne 32, 3) := by decide +kernel
theorem d_Mo_gap_42 : decode b_Mo_gap 42 = .ok (.aload_n 0, 1) := by decide +kernel
theorem d_Mo_gap_43 : decode b_Mo_gap 43 = .ok (.getfield 39, 3) := by decide +kernel
theorem d_Mo_gap_46 : decode b_Mo_gap 46 = .ok (.iload_n 2, 1) := by decide +kernel
theorem d_Mo_gap_47 : decode b_Mo_gap 47 = .ok (.iaload, 1) := by decide +kernel
theorem d_Mo_gap_48 : decode b_Mo_gap 48 = .ok (.ifCond .ne 23, 3) := by decide +kernel
theorem d_Mo_gap_51 : decode b_Mo_gap 51 = .ok (.iload_n 1, 1) := by decide +kernel
theorem d_Mo_gap_52 : decode b_Mo_gap 52 = .ok (.iload_n 2, 1) := by decide +kernel
theorem d_Mo_gap_53 : decode b_Mo_gap 53 = .ok (.if_icmp .eq 18, 3) := by decide +kernel
theorem d_Mo_gap_56 : decode b_Mo_gap 56 = .ok (.aload_n 0, 1) := by decide +kernel
theorem d_Mo_gap_57 : decode b_Mo_gap 57 = .ok (.getfield 42, 3) := by decide +kernel
theorem d_Mo_gap_60 : decode b_Mo_gap 60 = .ok (.iload_n 1, 1) := by decide +kernel
theorem d_Mo_gap_61 : decode b_Mo_gap 61 = .ok (.iaload, 1) := by decide +kernel
theorem d_Mo_gap_62 : decode b_Mo_gap 62 = .ok (.aload_n 0, 1) := by decide +kernel
theorem d_Mo_gap_63 : decode b_Mo_gap 63 = .ok (.getfield 42, 3) := by decide +kernel
theorem d_Mo_gap_66 : decode b_Mo_gap 66 = .ok (.iload_n 2, 1) := by decide +kernel
theorem d_Mo_gap_67 : decode b_Mo_gap 67 = .ok (.iaload, 1) := by decide +kernel
theorem d_Mo_gap_68 : decode b_Mo_gap 68 = .ok (.if_icmp .eq 7, 3) := by decide +kernel
theorem d_Mo_gap_71 : decode b_Mo_gap 71 = .ok (.iconst 2, 1) := by decide +kernel
theorem d_Mo_gap_72 : decode b_Mo_gap 72 = .ok (.goto 4, 3) := by decide +kernel
theorem d_Mo_gap_75 : decode b_Mo_gap 75 = .ok (.iconst 0, 1) := by decide +kernel
theorem d_Mo_gap_76 : decode b_Mo_gap 76 = .ok (.putfield 82, 3) := by decide +kernel
theorem d_Mo_gap_79 : decode b_Mo_gap 79 = .ok (.aload_n 0, 1) := by decide +kernel
theorem d_Mo_gap_80 : decode b_Mo_gap 80 = .ok (.getfield 82, 3) := by decide +kernel
theorem d_Mo_gap_83 : decode b_Mo_gap 83 = .ok (.ifCond .le 5, 3) := by decide +kernel
theorem d_Mo_gap_86 : decode b_Mo_gap 86 = .ok (.iconst 0, 1) := by decide +kernel
theorem d_Mo_gap_87 : decode b_Mo_gap 87 = .ok (.ireturn, 1) := by decide +kernel
theorem d_Mo_gap_88 : decode b_Mo_gap 88 = .ok (.aload_n 0, 1) := by decide +kernel
theorem d_Mo_gap_89 : decode b_Mo_gap 89 = .ok (.iload_n 1, 1) := by decide +kernel
theorem d_Mo_gap_90 : decode b_Mo_gap 90 = .ok (.invokevirtual 109, 3) := by decide +kernel
theorem d_Mo_gap_93 : decode b_Mo_gap 93 = .ok (.aload_n 0, 1) := by decide +kernel
theorem d_Mo_gap_94 : decode b_Mo_gap 94 = .ok (.iload_n 2, 1) := by decide +kernel
theorem d_Mo_gap_95 : decode b_Mo_gap 95 = .ok (.invokevirtual 109, 3) := by decide +kernel
theorem d_Mo_gap_98 : decode b_Mo_gap 98 = .ok (.if_icmp .ge 18, 3) := by decide +kernel
theorem d_Mo_gap_101 : decode b_Mo_gap 101 = .ok (.aload_n 0, 1) := by decide +kernel
theorem d_Mo_gap_102 : decode b_Mo_gap 102 = .ok (.iload_n 1, 1) := by decide +kernel
theorem d_Mo_gap_103 : decode b_Mo_gap 103 = .ok (.invokevirtual 106, 3) := by decide +kernel
theorem d_Mo_gap_106 : decode b_Mo_gap 106 = .ok (.aload_n 0, 1) := by decide +kernel
theorem d_Mo_gap_107 : decode b_Mo_gap 107 = .ok (.getfield 45, 3) := by decide +kernel
theorem d_Mo_gap_110 : decode b_Mo_gap 110 = .ok (.iload_n 2, 1) := by decide +kernel
theorem d_Mo_gap_111 : decode b_Mo_gap 111 = .ok (.iaload, 1) := by decide +kernel
theorem d_Mo_gap_112 : decode b_Mo_gap 112 = .ok (.isub, 1) := by decide +kernel
theorem d_Mo_gap_113 : decode b_Mo_gap 113 = .ok (.goto 15, 3) := by decide +kernel
theorem d_Mo_gap_116 : decode b_Mo_gap 116 = .ok (.aload_n 0, 1) := by decide +kernel
theorem d_Mo_gap_117 : decode b_Mo_gap 117 = .ok (.iload_n 2, 1) := by decide +kernel
theorem d_Mo_gap_118 : decode b_Mo_gap 118 = .ok (.invokevirtual 106, 3) := by decide +kernel
theorem d_Mo_gap_121 : decode b_Mo_gap 121 = .ok (.aload_n 0, 1) := by decide +kernel
theorem d_Mo_gap_122 : decode b_Mo_gap 122 = .ok (.getfield 45, 3) := by decide +kernel
theorem d_Mo_gap_125 : decode b_Mo_gap 125 = .ok (.iload_n 1, 1) := by decide +kernel
theorem d_Mo_gap_126 : decode b_Mo_gap 126 = .ok (.iaload, 1) := by decide +kernel
theorem d_Mo_gap_127 : decode b_Mo_gap 127 = .ok (.isub, 1) := by decide +kernel
theorem d_Mo_gap_128 : decode b_Mo_gap 128 = .ok (.ireturn, 1) := by decide +kernel
abbrev b_Mo_told : ByteArray := prog_8_method_31_code
abbrev n_Mo_told : MethodName := ⟨"BeltRowsModel", "told", "(II)I"⟩
theorem d_Mo_told_0 : decode b_Mo_told 0 = .ok (.aload_n 0, 1) := by decide +kernel
theorem d_Mo_told_1 : decode b_Mo_told 1 = .ok (.aload_n 0, 1) := by decide +kernel
theorem d_Mo_told_2 : decode b_Mo_told 2 = .ok (.iload_n 1, 1) := by decide +kernel
theorem d_Mo_told_3 : decode b_Mo_told 3 = .ok (.invokevirtual 122, 3) := by decide +kernel
theorem d_Mo_told_6 : decode b_Mo_told 6 = .ok (.ifCond .ne 7, 3) := by decide +kernel
theorem d_Mo_told_9 : decode b_Mo_told 9 = .ok (.iconst 1, 1) := by decide +kernel
theorem d_Mo_told_10 : decode b_Mo_told 10 = .ok (.goto 18, 3) := by decide +kernel
theorem d_Mo_told_13 : decode b_Mo_told 13 = .ok (.iload_n 2, 1) := by decide +kernel
theorem d_Mo_told_14 : decode b_Mo_told 14 = .ok (.iconst 0, 1) := by decide +kernel
theorem d_Mo_told_15 : decode b_Mo_told 15 = .ok (.bipush 6, 2) := by decide +kernel
theorem d_Mo_told_17 : decode b_Mo_told 17 = .ok (.invokestatic 88, 3) := by decide +kernel
theorem d_Mo_told_20 : decode b_Mo_told 20 = .ok (.ifCond .ne 7, 3) := by decide +kernel
theorem d_Mo_told_23 : decode b_Mo_told 23 = .ok (.iconst 2, 1) := by decide +kernel
theorem d_Mo_told_24 : decode b_Mo_told 24 = .ok (.goto 4, 3) := by decide +kernel
theorem d_Mo_told_27 : decode b_Mo_told 27 = .ok (.iconst 0, 1) := by decide +kernel
theorem d_Mo_told_28 : decode b_Mo_told 28 = .ok (.putfield 82, 3) := by decide +kernel
theorem d_Mo_told_31 : decode b_Mo_told 31 = .ok (.aload_n 0, 1) := by decide +kernel
theorem d_Mo_told_32 : decode b_Mo_told 32 = .ok (.getfield 82, 3) := by decide +kernel
theorem d_Mo_told_35 : decode b_Mo_told 35 = .ok (.ifCond .le 5, 3) := by decide +kernel
theorem d_Mo_told_38 : decode b_Mo_told 38 = .ok (.iconst 0, 1) := by decide +kernel
theorem d_Mo_told_39 : decode b_Mo_told 39 = .ok (.ireturn, 1) := by decide +kernel
theorem d_Mo_told_40 : decode b_Mo_told 40 = .ok (.iload_n 2, 1) := by decide +kernel
theorem d_Mo_told_41 : decode b_Mo_told 41 = .ok (.ifCond .ne 10, 3) := by decide +kernel
theorem d_Mo_told_44 : decode b_Mo_told 44 = .ok (.aload_n 0, 1) := by decide +kernel
theorem d_Mo_told_45 : decode b_Mo_told 45 = .ok (.getfield 39, 3) := by decide +kernel
theorem d_Mo_told_48 : decode b_Mo_told 48 = .ok (.iload_n 1, 1) := by decide +kernel
theorem d_Mo_told_49 : decode b_Mo_told 49 = .ok (.iaload, 1) := by decide +kernel
theorem d_Mo_told_50 : decode b_Mo_told 50 = .ok (.ireturn, 1) := by decide +kernel
theorem d_Mo_told_51 : decode b_Mo_told 51 = .ok (.iload_n 2, 1) := by decide +kernel
theorem d_Mo_told_52 : decode b_Mo_told 52 = .ok (.iconst 1, 1) := by decide +kernel
theorem d_Mo_told_53 : decode b_Mo_told 53 = .ok (.if_icmp .ne 10, 3) := by decide +kernel
theorem d_Mo_told_56 : decode b_Mo_told 56 = .ok (.aload_n 0, 1) := by decide +kernel
theorem d_Mo_told_57 : decode b_Mo_told 57 = .ok (.getfield 42, 3) := by decide +kernel
theorem d_Mo_told_60 : decode b_Mo_told 60 = .ok (.iload_n 1, 1) := by decide +kernel
theorem d_Mo_told_61 : decode b_Mo_told 61 = .ok (.iaload, 1) := by decide +kernel
theorem d_Mo_told_62 : decode b_Mo_told 62 = .ok (.ireturn, 1) := by decide +kernel
theorem d_Mo_told_63 : decode b_Mo_told 63 = .ok (.iload_n 2, 1) := by decide +kernel
theorem d_Mo_told_64 : decode b_Mo_told 64 = .ok (.iconst 2, 1) := by decide +kernel
theorem d_Mo_told_65 : decode b_Mo_told 65 = .ok (.if_icmp .ne 23, 3) := by decide +kernel
theorem d_Mo_told_68 : decode b_Mo_told 68 = .ok (.aload_n 0, 1) := by decide +kernel
theorem d_Mo_told_69 : decode b_Mo_told 69 = .ok (.getfield 39, 3) := by decide +kernel
theorem d_Mo_told_72 : decode b_Mo_told 72 = .ok (.iload_n 1, 1) := by decide +kernel
theorem d_Mo_told_73 : decode b_Mo_told 73 = .ok (.iaload, 1) := by decide +kernel
theorem d_Mo_told_74 : decode b_Mo_told 74 = .ok (.ifCond .ne 12, 3) := by decide +kernel
theorem d_Mo_told_77 : decode b_Mo_told 77 = .ok (.aload_n 0, 1) := by decide +kernel
theorem d_Mo_told_78 : decode b_Mo_told 78 = .ok (.getfield 45, 3) := by decide +kernel
theorem d_Mo_told_81 : decode b_Mo_told 81 = .ok (.iload_n 1, 1) := by decide +kernel
theorem d_Mo_told_82 : decode b_Mo_told 82 = .ok (.iaload, 1) := by decide +kernel
theorem d_Mo_told_83 : decode b_Mo_told 83 = .ok (.goto 4, 3) := by decide +kernel
theorem d_Mo_told_86 : decode b_Mo_told 86 = .ok (.iconst (-1), 1) := by decide +kernel
theorem d_Mo_told_87 : decode b_Mo_told 87 = .ok (.ireturn, 1) := by decide +kernel
theorem d_Mo_told_88 : decode b_Mo_told 88 = .ok (.iload_n 2, 1) := by decide +kernel
theorem d_Mo_told_89 : decode b_Mo_told 89 = .ok (.iconst 3, 1) := by decide +kernel
theorem d_Mo_told_90 : decode b_Mo_told 90 = .ok (.if_icmp .ne 10, 3) := by decide +kernel
theorem d_Mo_told_93 : decode b_Mo_told 93 = .ok (.aload_n 0, 1) := by decide +kernel
theorem d_Mo_told_94 : decode b_Mo_told 94 = .ok (.getfield 48, 3) := by decide +kernel
theorem d_Mo_told_97 : decode b_Mo_told 97 = .ok (.iload_n 1, 1) := by decide +kernel
theorem d_Mo_told_98 : decode b_Mo_told 98 = .ok (.iaload, 1) := by decide +kernel
theorem d_Mo_told_99 : decode b_Mo_told 99 = .ok (.ireturn, 1) := by decide +kernel
theorem d_Mo_told_100 : decode b_Mo_told 100 = .ok (.iload_n 2, 1) := by decide +kernel
theorem d_Mo_told_101 : decode b_Mo_told 101 = .ok (.iconst 4, 1) := by decide +kernel
theorem d_Mo_told_102 : decode b_Mo_told 102 = .ok (.if_icmp .ne 10, 3) := by decide +kernel
theorem d_Mo_told_105 : decode b_Mo_told 105 = .ok (.aload_n 0, 1) := by decide +kernel
theorem d_Mo_told_106 : decode b_Mo_told 106 = .ok (.getfield 51, 3) := by decide +kernel
theorem d_Mo_told_109 : decode b_Mo_told 109 = .ok (.iload_n 1, 1) := by decide +kernel
theorem d_Mo_told_110 : decode b_Mo_told 110 = .ok (.iaload, 1) := by decide +kernel
theorem d_Mo_told_111 : decode b_Mo_told 111 = .ok (.ireturn, 1) := by decide +kernel
theorem d_Mo_told_112 : decode b_Mo_told 112 = .ok (.iload_n 2, 1) := by decide +kernel
theorem d_Mo_told_113 : decode b_Mo_told 113 = .ok (.iconst 5, 1) := by decide +kernel
theorem d_Mo_told_114 : decode b_Mo_told 114 = .ok (.if_icmp .ne 25, 3) := by decide +kernel
theorem d_Mo_told_117 : decode b_Mo_told 117 = .ok (.aload_n 0, 1) := by decide +kernel
theorem d_Mo_told_118 : decode b_Mo_told 118 = .ok (.getfield 39, 3) := by decide +kernel
theorem d_Mo_told_121 : decode b_Mo_told 121 = .ok (.iload_n 1, 1) := by decide +kernel
theorem d_Mo_told_122 : decode b_Mo_told 122 = .ok (.iaload, 1) := by decide +kernel
theorem d_Mo_told_123 : decode b_Mo_told 123 = .ok (.ifCond .ne 12, 3) := by decide +kernel
theorem d_Mo_told_126 : decode b_Mo_told 126 = .ok (.aload_n 0, 1) := by decide +kernel
theorem d_Mo_told_127 : decode b_Mo_told 127 = .ok (.getfield 57, 3) := by decide +kernel
theorem d_Mo_told_130 : decode b_Mo_told 130 = .ok (.iload_n 1, 1) := by decide +kernel
theorem d_Mo_told_131 : decode b_Mo_told 131 = .ok (.iaload, 1) := by decide +kernel
theorem d_Mo_told_132 : decode b_Mo_told 132 = .ok (.goto 13, 3) := by decide +kernel
theorem d_Mo_told_135 : decode b_Mo_told 135 = .ok (.iconst (-1), 1) := by decide +kernel
theorem d_Mo_told_136 : decode b_Mo_told 136 = .ok (.goto 9, 3) := by decide +kernel
theorem d_Mo_told_139 : decode b_Mo_told 139 = .ok (.aload_n 0, 1) := by decide +kernel
theorem d_Mo_told_140 : decode b_Mo_told 140 = .ok (.getfield 60, 3) := by decide +kernel
theorem d_Mo_told_143 : decode b_Mo_told 143 = .ok (.iload_n 1, 1) := by decide +kernel
theorem d_Mo_told_144 : decode b_Mo_told 144 = .ok (.iaload, 1) := by decide +kernel
theorem d_Mo_told_145 : decode b_Mo_told 145 = .ok (.ireturn, 1) := by decide +kernel
abbrev b_Mo_known : ByteArray := prog_8_method_32_code
abbrev n_Mo_known : MethodName := ⟨"BeltRowsModel", "known", "(II)I"⟩
theorem d_Mo_known_0 : decode b_Mo_known 0 = .ok (.aload_n 0, 1) := by decide +kernel
theorem d_Mo_known_1 : decode b_Mo_known 1 = .ok (.aload_n 0, 1) := by decide +kernel
theorem d_Mo_known_2 : decode b_Mo_known 2 = .ok (.iload_n 1, 1) := by decide +kernel
theorem d_Mo_known_3 : decode b_Mo_known 3 = .ok (.invokevirtual 95, 3) := by decide +kernel
theorem d_Mo_known_6 : decode b_Mo_known 6 = .ok (.ifCond .ne 7, 3) := by decide +kernel
theorem d_Mo_known_9 : decode b_Mo_known 9 = .ok (.iconst 1, 1) := by decide +kernel
theorem d_Mo_known_10 : decode b_Mo_known 10 = .ok (.goto 18, 3) := by decide +kernel
theorem d_Mo_known_13 : decode b_Mo_known 13 = .ok (.iload_n 2, 1) := by decide +kernel
theorem d_Mo_known_14 : decode b_Mo_known 14 = .ok (.iconst 0, 1) := by decide +kernel
theorem d_Mo_known_15 : decode b_Mo_known 15 = .ok (.bipush 8, 2) := by decide +kernel
theorem d_Mo_known_17 : decode b_Mo_known 17 = .ok (.invokestatic 88, 3) := by decide +kernel
theorem d_Mo_known_20 : decode b_Mo_known 20 = .ok (.ifCond .ne 7, 3) := by decide +kernel
theorem d_Mo_known_23 : decode b_Mo_known 23 = .ok (.iconst 2, 1) := by decide +kernel
theorem d_Mo_known_24 : decode b_Mo_known 24 = .ok (.goto 4, 3) := by decide +kernel
theorem d_Mo_known_27 : decode b_Mo_known 27 = .ok (.iconst 0, 1) := by decide +kernel
theorem d_Mo_known_28 : decode b_Mo_known 28 = .ok (.putfield 82, 3) := by decide +kernel
theorem d_Mo_known_31 : decode b_Mo_known 31 = .ok (.aload_n 0, 1) := by decide +kernel
theorem d_Mo_known_32 : decode b_Mo_known 32 = .ok (.getfield 82, 3) := by decide +kernel
theorem d_Mo_known_35 : decode b_Mo_known 35 = .ok (.ifCond .le 5, 3) := by decide +kernel
theorem d_Mo_known_38 : decode b_Mo_known 38 = .ok (.iconst 0, 1) := by decide +kernel
theorem d_Mo_known_39 : decode b_Mo_known 39 = .ok (.ireturn, 1) := by decide +kernel
theorem d_Mo_known_40 : decode b_Mo_known 40 = .ok (.iload_n 2, 1) := by decide +kernel
theorem d_Mo_known_41 : decode b_Mo_known 41 = .ok (.ifCond .ne 10, 3) := by decide +kernel
theorem d_Mo_known_44 : decode b_Mo_known 44 = .ok (.aload_n 0, 1) := by decide +kernel
theorem d_Mo_known_45 : decode b_Mo_known 45 = .ok (.getfield 13, 3) := by decide +kernel
theorem d_Mo_known_48 : decode b_Mo_known 48 = .ok (.iload_n 1, 1) := by decide +kernel
theorem d_Mo_known_49 : decode b_Mo_known 49 = .ok (.iaload, 1) := by decide +kernel
theorem d_Mo_known_50 : decode b_Mo_known 50 = .ok (.ireturn, 1) := by decide +kernel
theorem d_Mo_known_51 : decode b_Mo_known 51 = .ok (.iload_n 2, 1) := by decide +kernel
theorem d_Mo_known_52 : decode b_Mo_known 52 = .ok (.iconst 1, 1) := by decide +kernel
theorem d_Mo_known_53 : decode b_Mo_known 53 = .ok (.if_icmp .ne 10, 3) := by decide +kernel
theorem d_Mo_known_56 : decode b_Mo_known 56 = .ok (.aload_n 0, 1) := by decide +kernel
theorem d_Mo_known_57 : decode b_Mo_known 57 = .ok (.getfield 17, 3) := by decide +kernel
theorem d_Mo_known_60 : decode b_Mo_known 60 = .ok (.iload_n 1, 1) := by decide +kernel
theorem d_Mo_known_61 : decode b_Mo_known 61 = .ok (.iaload, 1) := by decide +kernel
theorem d_Mo_known_62 : decode b_Mo_known 62 = .ok (.ireturn, 1) := by decide +kernel
theorem d_Mo_known_63 : decode b_Mo_known 63 = .ok (.iload_n 2, 1) := by decide +kernel
theorem d_Mo_known_64 : decode b_Mo_known 64 = .ok (.iconst 2, 1) := by decide +kernel
theorem d_Mo_known_65 : decode b_Mo_known 65 = .ok (.if_icmp .ne 18, 3) := by decide +kernel
theorem d_Mo_known_68 : decode b_Mo_known 68 = .ok (.aload_n 0, 1) := by decide +kernel
theorem d_Mo_known_69 : decode b_Mo_known 69 = .ok (.getfield 20, 3) := by decide +kernel
theorem d_Mo_known_72 : decode b_Mo_known 72 = .ok (.iload_n 1, 1) := by decide +kernel
theorem d_Mo_known_73 : decode b_Mo_known 73 = .ok (.baload, 1) := by decide +kernel
theorem d_Mo_known_74 : decode b_Mo_known 74 = .ok (.ifCond .eq 7, 3) := by decide +kernel
theorem d_Mo_known_77 : decode b_Mo_known 77 = .ok (.iconst 1, 1) := by decide +kernel
theorem d_Mo_known_78 : decode b_Mo_known 78 = .ok (.goto 4, 3) := by decide +kernel
theorem d_Mo_known_81 : decode b_Mo_known 81 = .ok (.iconst 0, 1) := by decide +kernel
theorem d_Mo_known_82 : decode b_Mo_known 82 = .ok (.ireturn, 1) := by decide +kernel
theorem d_Mo_known_83 : decode b_Mo_known 83 = .ok (.iload_n 2, 1) := by decide +kernel
theorem d_Mo_known_84 : decode b_Mo_known 84 = .ok (.iconst 3, 1) := by decide +kernel
theorem d_Mo_known_85 : decode b_Mo_known 85 = .ok (.if_icmp .ne 10, 3) := by decide +kernel
theorem d_Mo_known_88 : decode b_Mo_known 88 = .ok (.aload_n 0, 1) := by decide +kernel
theorem d_Mo_known_89 : decode b_Mo_known 89 = .ok (.getfield 33, 3) := by decide +kernel
theorem d_Mo_known_92 : decode b_Mo_known 92 = .ok (.iload_n 1, 1) := by decide +kernel
theorem d_Mo_known_93 : decode b_Mo_known 93 = .ok (.iaload, 1) := by decide +kernel
theorem d_Mo_known_94 : decode b_Mo_known 94 = .ok (.ireturn, 1) := by decide +kernel
theorem d_Mo_known_95 : decode b_Mo_known 95 = .ok (.iload_n 2, 1) := by decide +kernel
theorem d_Mo_known_96 : decode b_Mo_known 96 = .ok (.iconst 4, 1) := by decide +kernel
theorem d_Mo_known_97 : decode b_Mo_known 97 = .ok (.if_icmp .ne 26, 3) := by decide +kernel
theorem d_Mo_known_100 : decode b_Mo_known 100 = .ok (.aload_n 0, 1) := by decide +kernel
theorem d_Mo_known_101 : decode b_Mo_known 101 = .ok (.getfield 33, 3) := by decide +kernel
theorem d_Mo_known_104 : decode b_Mo_known 104 = .ok (.iload_n 1, 1) := by decide +kernel
theorem d_Mo_known_105 : decode b_Mo_known 105 = .ok (.iaload, 1) := by decide +kernel
theorem d_Mo_known_106 : decode b_Mo_known 106 = .ok (.ifCond .ne 7, 3) := by decide +kernel
theorem d_Mo_known_109 : decode b_Mo_known 109 = .ok (.iconst (-1), 1) := by decide +kernel
theorem d_Mo_known_110 : decode b_Mo_known 110 = .ok (.goto 12, 3) := by decide +kernel
theorem d_Mo_known_113 : decode b_Mo_known 113 = .ok (.aload_n 0, 1) := by decide +kernel
theorem d_Mo_known_114 : decode b_Mo_known 114 = .ok (.getfield 36, 3) := by decide +kernel
theorem d_Mo_known_117 : decode b_Mo_known 117 = .ok (.bipush 60, 2) := by decide +kernel
theorem d_Mo_known_119 : decode b_Mo_known 119 = .ok (.iload_n 1, 1) := by decide +kernel
theorem d_Mo_known_120 : decode b_Mo_known 120 = .ok (.imul, 1) := by decide +kernel
theorem d_Mo_known_121 : decode b_Mo_known 121 = .ok (.iaload, 1) := by decide +kernel
theorem d_Mo_known_122 : decode b_Mo_known 122 = .ok (.ireturn, 1) := by decide +kernel
theorem d_Mo_known_123 : decode b_Mo_known 123 = .ok (.iload_n 2, 1) := by decide +kernel
theorem d_Mo_known_124 : decode b_Mo_known 124 = .ok (.bipush 7, 2) := by decide +kernel
theorem d_Mo_known_126 : decode b_Mo_known 126 = .ok (.if_icmp .ge 18, 3) := by decide +kernel
theorem d_Mo_known_129 : decode b_Mo_known 129 = .ok (.aload_n 0, 1) := by decide +kernel
theorem d_Mo_known_130 : decode b_Mo_known 130 = .ok (.getfield 24, 3) := by decide +kernel
theorem d_Mo_known_133 : decode b_Mo_known 133 = .ok (.iconst 2, 1) := by decide +kernel
theorem d_Mo_known_134 : decode b_Mo_known 134 = .ok (.iload_n 1, 1) := by decide +kernel
theorem d_Mo_known_135 : decode b_Mo_known 135 = .ok (.imul, 1) := by decide +kernel
theorem d_Mo_known_136 : decode b_Mo_known 136 = .ok (.iload_n 2, 1) := by decide +kernel
theorem d_Mo_known_137 : decode b_Mo_known 137 = .ok (.iadd, 1) := by decide +kernel
theorem d_Mo_known_138 : decode b_Mo_known 138 = .ok (.iconst 5, 1) := by decide +kernel
theorem d_Mo_known_139 : decode b_Mo_known 139 = .ok (.isub, 1) := by decide +kernel
theorem d_Mo_known_140 : decode b_Mo_known 140 = .ok (.iaload, 1) := by decide +kernel
theorem d_Mo_known_141 : decode b_Mo_known 141 = .ok (.goto 16, 3) := by decide +kernel
theorem d_Mo_known_144 : decode b_Mo_known 144 = .ok (.aload_n 0, 1) := by decide +kernel
theorem d_Mo_known_145 : decode b_Mo_known 145 = .ok (.getfield 30, 3) := by decide +kernel
theorem d_Mo_known_148 : decode b_Mo_known 148 = .ok (.iconst 2, 1) := by decide +kernel
theorem d_Mo_known_149 : decode b_Mo_known 149 = .ok (.iload_n 1, 1) := by decide +kernel
theorem d_Mo_known_150 : decode b_Mo_known 150 = .ok (.imul, 1) := by decide +kernel
theorem d_Mo_known_151 : decode b_Mo_known 151 = .ok (.iload_n 2, 1) := by decide +kernel
theorem d_Mo_known_152 : decode b_Mo_known 152 = .ok (.iadd, 1) := by decide +kernel
theorem d_Mo_known_153 : decode b_Mo_known 153 = .ok (.bipush 7, 2) := by decide +kernel
theorem d_Mo_known_155 : decode b_Mo_known 155 = .ok (.isub, 1) := by decide +kernel
theorem d_Mo_known_156 : decode b_Mo_known 156 = .ok (.iaload, 1) := by decide +kernel
theorem d_Mo_known_157 : decode b_Mo_known 157 = .ok (.ireturn, 1) := by decide +kernel
abbrev b_Mo_order : ByteArray := prog_8_method_33_code
abbrev n_Mo_order : MethodName := ⟨"BeltRowsModel", "order", "(I)I"⟩
theorem d_Mo_order_0 : decode b_Mo_order 0 = .ok (.aload_n 0, 1) := by decide +kernel
theorem d_Mo_order_1 : decode b_Mo_order 1 = .ok (.iload_n 1, 1) := by decide +kernel
theorem d_Mo_order_2 : decode b_Mo_order 2 = .ok (.iconst 0, 1) := by decide +kernel
theorem d_Mo_order_3 : decode b_Mo_order 3 = .ok (.aload_n 0, 1) := by decide +kernel
theorem d_Mo_order_4 : decode b_Mo_order 4 = .ok (.getfield 147, 3) := by decide +kernel
theorem d_Mo_order_7 : decode b_Mo_order 7 = .ok (.iconst 1, 1) := by decide +kernel
theorem d_Mo_order_8 : decode b_Mo_order 8 = .ok (.isub, 1) := by decide +kernel
theorem d_Mo_order_9 : decode b_Mo_order 9 = .ok (.invokestatic 88, 3) := by decide +kernel
theorem d_Mo_order_12 : decode b_Mo_order 12 = .ok (.ifCond .eq 7, 3) := by decide +kernel
theorem d_Mo_order_15 : decode b_Mo_order 15 = .ok (.iconst 0, 1) := by decide +kernel
theorem d_Mo_order_16 : decode b_Mo_order 16 = .ok (.goto 4, 3) := by decide +kernel
theorem d_Mo_order_19 : decode b_Mo_order 19 = .ok (.iconst 1, 1) := by decide +kernel
theorem d_Mo_order_20 : decode b_Mo_order 20 = .ok (.putfield 82, 3) := by decide +kernel
theorem d_Mo_order_23 : decode b_Mo_order 23 = .ok (.aload_n 0, 1) := by decide +kernel
theorem d_Mo_order_24 : decode b_Mo_order 24 = .ok (.getfield 82, 3) := by decide +kernel
theorem d_Mo_order_27 : decode b_Mo_order 27 = .ok (.ifCond .le 7, 3) := by decide +kernel
theorem d_Mo_order_30 : decode b_Mo_order 30 = .ok (.iconst 0, 1) := by decide +kernel
theorem d_Mo_order_31 : decode b_Mo_order 31 = .ok (.goto 9, 3) := by decide +kernel
theorem d_Mo_order_34 : decode b_Mo_order 34 = .ok (.aload_n 0, 1) := by decide +kernel
theorem d_Mo_order_35 : decode b_Mo_order 35 = .ok (.getfield 79, 3) := by decide +kernel
theorem d_Mo_order_38 : decode b_Mo_order 38 = .ok (.iload_n 1, 1) := by decide +kernel
theorem d_Mo_order_39 : decode b_Mo_order 39 = .ok (.iaload, 1) := by decide +kernel
theorem d_Mo_order_40 : decode b_Mo_order 40 = .ok (.ireturn, 1) := by decide +kernel
abbrev b_Mo_mean : ByteArray := prog_8_method_34_code
abbrev n_Mo_mean : MethodName := ⟨"BeltRowsModel", "mean", "()I"⟩
theorem d_Mo_mean_0 : decode b_Mo_mean 0 = .ok (.aload_n 0, 1) := by decide +kernel
theorem d_Mo_mean_1 : decode b_Mo_mean 1 = .ok (.aload_n 0, 1) := by decide +kernel
theorem d_Mo_mean_2 : decode b_Mo_mean 2 = .ok (.getfield 147, 3) := by decide +kernel
theorem d_Mo_mean_5 : decode b_Mo_mean 5 = .ok (.ifCond .ne 7, 3) := by decide +kernel
theorem d_Mo_mean_8 : decode b_Mo_mean 8 = .ok (.iconst 1, 1) := by decide +kernel
theorem d_Mo_mean_9 : decode b_Mo_mean 9 = .ok (.goto 4, 3) := by decide +kernel
theorem d_Mo_mean_12 : decode b_Mo_mean 12 = .ok (.iconst 0, 1) := by decide +kernel
theorem d_Mo_mean_13 : decode b_Mo_mean 13 = .ok (.putfield 82, 3) := by decide +kernel
theorem d_Mo_mean_16 : decode b_Mo_mean 16 = .ok (.aload_n 0, 1) := by decide +kernel
theorem d_Mo_mean_17 : decode b_Mo_mean 17 = .ok (.getfield 82, 3) := by decide +kernel
theorem d_Mo_mean_20 : decode b_Mo_mean 20 = .ok (.ifCond .le 7, 3) := by decide +kernel
theorem d_Mo_mean_23 : decode b_Mo_mean 23 = .ok (.iconst 0, 1) := by decide +kernel
theorem d_Mo_mean_24 : decode b_Mo_mean 24 = .ok (.goto 12, 3) := by decide +kernel
theorem d_Mo_mean_27 : decode b_Mo_mean 27 = .ok (.aload_n 0, 1) := by decide +kernel
theorem d_Mo_mean_28 : decode b_Mo_mean 28 = .ok (.getfield 150, 3) := by decide +kernel
theorem d_Mo_mean_31 : decode b_Mo_mean 31 = .ok (.aload_n 0, 1) := by decide +kernel
theorem d_Mo_mean_32 : decode b_Mo_mean 32 = .ok (.getfield 147, 3) := by decide +kernel
theorem d_Mo_mean_35 : decode b_Mo_mean 35 = .ok (.idiv, 1) := by decide +kernel
theorem d_Mo_mean_36 : decode b_Mo_mean 36 = .ok (.ireturn, 1) := by decide +kernel
abbrev b_Mo_count : ByteArray := prog_8_method_35_code
abbrev n_Mo_count : MethodName := ⟨"BeltRowsModel", "count", "(I)I"⟩
theorem d_Mo_count_0 : decode b_Mo_count 0 = .ok (.aload_n 0, 1) := by decide +kernel
theorem d_Mo_count_1 : decode b_Mo_count 1 = .ok (.iconst 0, 1) := by decide +kernel
theorem d_Mo_count_2 : decode b_Mo_count 2 = .ok (.putfield 82, 3) := by decide +kernel
theorem d_Mo_count_5 : decode b_Mo_count 5 = .ok (.iload_n 1, 1) := by decide +kernel
theorem d_Mo_count_6 : decode b_Mo_count 6 = .ok (.ifCond .ne 8, 3) := by decide +kernel
theorem d_Mo_count_9 : decode b_Mo_count 9 = .ok (.aload_n 0, 1) := by decide +kernel
theorem d_Mo_count_10 : decode b_Mo_count 10 = .ok (.getfield 85, 3) := by decide +kernel
theorem d_Mo_count_13 : decode b_Mo_count 13 = .ok (.ireturn, 1) := by decide +kernel
theorem d_Mo_count_14 : decode b_Mo_count 14 = .ok (.iload_n 1, 1) := by decide +kernel
theorem d_Mo_count_15 : decode b_Mo_count 15 = .ok (.iconst 1, 1) := by decide +kernel
theorem d_Mo_count_16 : decode b_Mo_count 16 = .ok (.if_icmp .ne 8, 3) := by decide +kernel
theorem d_Mo_count_19 : decode b_Mo_count 19 = .ok (.aload_n 0, 1) := by decide +kernel
theorem d_Mo_count_20 : decode b_Mo_count 20 = .ok (.getfield 92, 3) := by decide +kernel
theorem d_Mo_count_23 : decode b_Mo_count 23 = .ok (.ireturn, 1) := by decide +kernel
theorem d_Mo_count_24 : decode b_Mo_count 24 = .ok (.iload_n 1, 1) := by decide +kernel
theorem d_Mo_count_25 : decode b_Mo_count 25 = .ok (.iconst 3, 1) := by decide +kernel
theorem d_Mo_count_26 : decode b_Mo_count 26 = .ok (.if_icmp .ne 8, 3) := by decide +kernel
theorem d_Mo_count_29 : decode b_Mo_count 29 = .ok (.aload_n 0, 1) := by decide +kernel
theorem d_Mo_count_30 : decode b_Mo_count 30 = .ok (.getfield 147, 3) := by decide +kernel
theorem d_Mo_count_33 : decode b_Mo_count 33 = .ok (.ireturn, 1) := by decide +kernel
theorem d_Mo_count_34 : decode b_Mo_count 34 = .ok (.iload_n 1, 1) := by decide +kernel
theorem d_Mo_count_35 : decode b_Mo_count 35 = .ok (.iconst 4, 1) := by decide +kernel
theorem d_Mo_count_36 : decode b_Mo_count 36 = .ok (.if_icmp .ne 8, 3) := by decide +kernel
theorem d_Mo_count_39 : decode b_Mo_count 39 = .ok (.aload_n 0, 1) := by decide +kernel
theorem d_Mo_count_40 : decode b_Mo_count 40 = .ok (.getfield 125, 3) := by decide +kernel
theorem d_Mo_count_43 : decode b_Mo_count 43 = .ok (.ireturn, 1) := by decide +kernel
theorem d_Mo_count_44 : decode b_Mo_count 44 = .ok (.iload_n 1, 1) := by decide +kernel
theorem d_Mo_count_45 : decode b_Mo_count 45 = .ok (.iconst 5, 1) := by decide +kernel
theorem d_Mo_count_46 : decode b_Mo_count 46 = .ok (.if_icmp .ne 8, 3) := by decide +kernel
theorem d_Mo_count_49 : decode b_Mo_count 49 = .ok (.aload_n 0, 1) := by decide +kernel
theorem d_Mo_count_50 : decode b_Mo_count 50 = .ok (.getfield 115, 3) := by decide +kernel
theorem d_Mo_count_53 : decode b_Mo_count 53 = .ok (.ireturn, 1) := by decide +kernel
theorem d_Mo_count_54 : decode b_Mo_count 54 = .ok (.iload_n 1, 1) := by decide +kernel
theorem d_Mo_count_55 : decode b_Mo_count 55 = .ok (.bipush 6, 2) := by decide +kernel
theorem d_Mo_count_57 : decode b_Mo_count 57 = .ok (.if_icmp .ne 8, 3) := by decide +kernel
theorem d_Mo_count_60 : decode b_Mo_count 60 = .ok (.aload_n 0, 1) := by decide +kernel
theorem d_Mo_count_61 : decode b_Mo_count 61 = .ok (.getfield 99, 3) := by decide +kernel
theorem d_Mo_count_64 : decode b_Mo_count 64 = .ok (.ireturn, 1) := by decide +kernel
theorem d_Mo_count_65 : decode b_Mo_count 65 = .ok (.iload_n 1, 1) := by decide +kernel
theorem d_Mo_count_66 : decode b_Mo_count 66 = .ok (.bipush 7, 2) := by decide +kernel
theorem d_Mo_count_68 : decode b_Mo_count 68 = .ok (.if_icmp .ne 8, 3) := by decide +kernel
theorem d_Mo_count_71 : decode b_Mo_count 71 = .ok (.aload_n 0, 1) := by decide +kernel
theorem d_Mo_count_72 : decode b_Mo_count 72 = .ok (.getfield 128, 3) := by decide +kernel
theorem d_Mo_count_75 : decode b_Mo_count 75 = .ok (.ireturn, 1) := by decide +kernel
theorem d_Mo_count_76 : decode b_Mo_count 76 = .ok (.iconst 0, 1) := by decide +kernel
theorem d_Mo_count_77 : decode b_Mo_count 77 = .ok (.istore_n 2, 1) := by decide +kernel
theorem d_Mo_count_78 : decode b_Mo_count 78 = .ok (.iconst 0, 1) := by decide +kernel
theorem d_Mo_count_79 : decode b_Mo_count 79 = .ok (.istore_n 3, 1) := by decide +kernel
theorem d_Mo_count_80 : decode b_Mo_count 80 = .ok (.iload_n 3, 1) := by decide +kernel
theorem d_Mo_count_81 : decode b_Mo_count 81 = .ok (.aload_n 0, 1) := by decide +kernel
theorem d_Mo_count_82 : decode b_Mo_count 82 = .ok (.getfield 85, 3) := by decide +kernel
theorem d_Mo_count_85 : decode b_Mo_count 85 = .ok (.if_icmp .ge 18, 3) := by decide +kernel
theorem d_Mo_count_88 : decode b_Mo_count 88 = .ok (.iload_n 2, 1) := by decide +kernel
theorem d_Mo_count_89 : decode b_Mo_count 89 = .ok (.aload_n 0, 1) := by decide +kernel
theorem d_Mo_count_90 : decode b_Mo_count 90 = .ok (.getfield 33, 3) := by decide +kernel
theorem d_Mo_count_93 : decode b_Mo_count 93 = .ok (.iload_n 3, 1) := by decide +kernel
theorem d_Mo_count_94 : decode b_Mo_count 94 = .ok (.iaload, 1) := by decide +kernel
theorem d_Mo_count_95 : decode b_Mo_count 95 = .ok (.iadd, 1) := by decide +kernel
theorem d_Mo_count_96 : decode b_Mo_count 96 = .ok (.istore_n 2, 1) := by decide +kernel
theorem d_Mo_count_97 : decode b_Mo_count 97 = .ok (.iinc 3 1, 3) := by decide +kernel
theorem d_Mo_count_100 : decode b_Mo_count 100 = .ok (.goto (-20), 3) := by decide +kernel
theorem d_Mo_count_103 : decode b_Mo_count 103 = .ok (.iload_n 1, 1) := by decide +kernel
theorem d_Mo_count_104 : decode b_Mo_count 104 = .ok (.iconst 2, 1) := by decide +kernel
theorem d_Mo_count_105 : decode b_Mo_count 105 = .ok (.if_icmp .ne 7, 3) := by decide +kernel
theorem d_Mo_count_108 : decode b_Mo_count 108 = .ok (.iload_n 2, 1) := by decide +kernel
theorem d_Mo_count_109 : decode b_Mo_count 109 = .ok (.goto 4, 3) := by decide +kernel
theorem d_Mo_count_112 : decode b_Mo_count 112 = .ok (.iconst (-1), 1) := by decide +kernel
theorem d_Mo_count_113 : decode b_Mo_count 113 = .ok (.ireturn, 1) := by decide +kernel
