abbrev b_Mo_pop : ByteArray := prog_11_method_61_code
def y_Mo_pop : MethodName := ⟨"ProgramDeskModel", "pop", "()I"⟩
theorem d_Mo_pop_0 : decode b_Mo_pop 0 = .ok (.aload_n 0, 1) := by decide +kernel
theorem d_Mo_pop_1 : decode b_Mo_pop 1 = .ok (.dup, 1) := by decide +kernel
theorem d_Mo_pop_2 : decode b_Mo_pop 2 = .ok (.getfield 327, 3) := by decide +kernel
theorem d_Mo_pop_5 : decode b_Mo_pop 5 = .ok (.iconst 1, 1) := by decide +kernel
theorem d_Mo_pop_6 : decode b_Mo_pop 6 = .ok (.isub, 1) := by decide +kernel
theorem d_Mo_pop_7 : decode b_Mo_pop 7 = .ok (.putfield 327, 3) := by decide +kernel
theorem d_Mo_pop_10 : decode b_Mo_pop 10 = .ok (.aload_n 0, 1) := by decide +kernel
theorem d_Mo_pop_11 : decode b_Mo_pop 11 = .ok (.getfield 126, 3) := by decide +kernel
theorem d_Mo_pop_14 : decode b_Mo_pop 14 = .ok (.aload_n 0, 1) := by decide +kernel
theorem d_Mo_pop_15 : decode b_Mo_pop 15 = .ok (.getfield 327, 3) := by decide +kernel
theorem d_Mo_pop_18 : decode b_Mo_pop 18 = .ok (.iaload, 1) := by decide +kernel
theorem d_Mo_pop_19 : decode b_Mo_pop 19 = .ok (.ireturn, 1) := by decide +kernel
abbrev b_Mo_push : ByteArray := prog_11_method_62_code
def y_Mo_push : MethodName := ⟨"ProgramDeskModel", "push", "(I)V"⟩
theorem d_Mo_push_0 : decode b_Mo_push 0 = .ok (.aload_n 0, 1) := by decide +kernel
theorem d_Mo_push_1 : decode b_Mo_push 1 = .ok (.getfield 126, 3) := by decide +kernel
theorem d_Mo_push_4 : decode b_Mo_push 4 = .ok (.aload_n 0, 1) := by decide +kernel
theorem d_Mo_push_5 : decode b_Mo_push 5 = .ok (.getfield 327, 3) := by decide +kernel
theorem d_Mo_push_8 : decode b_Mo_push 8 = .ok (.iload_n 1, 1) := by decide +kernel
theorem d_Mo_push_9 : decode b_Mo_push 9 = .ok (.iastore, 1) := by decide +kernel
theorem d_Mo_push_10 : decode b_Mo_push 10 = .ok (.aload_n 0, 1) := by decide +kernel
theorem d_Mo_push_11 : decode b_Mo_push 11 = .ok (.dup, 1) := by decide +kernel
theorem d_Mo_push_12 : decode b_Mo_push 12 = .ok (.getfield 327, 3) := by decide +kernel
theorem d_Mo_push_15 : decode b_Mo_push 15 = .ok (.iconst 1, 1) := by decide +kernel
theorem d_Mo_push_16 : decode b_Mo_push 16 = .ok (.iadd, 1) := by decide +kernel
theorem d_Mo_push_17 : decode b_Mo_push 17 = .ok (.putfield 327, 3) := by decide +kernel
theorem d_Mo_push_20 : decode b_Mo_push 20 = .ok (.return_, 1) := by decide +kernel
abbrev b_Mo_counts : ByteArray := prog_11_method_63_code
def y_Mo_counts : MethodName := ⟨"ProgramDeskModel", "counts", "(Z)I"⟩
theorem d_Mo_counts_0 : decode b_Mo_counts 0 = .ok (.iload_n 1, 1) := by decide +kernel
theorem d_Mo_counts_1 : decode b_Mo_counts 1 = .ok (.ifCond .eq 14, 3) := by decide +kernel
theorem d_Mo_counts_4 : decode b_Mo_counts 4 = .ok (.aload_n 0, 1) := by decide +kernel
theorem d_Mo_counts_5 : decode b_Mo_counts 5 = .ok (.getfield 330, 3) := by decide +kernel
theorem d_Mo_counts_8 : decode b_Mo_counts 8 = .ok (.bipush 8, 2) := by decide +kernel
theorem d_Mo_counts_10 : decode b_Mo_counts 10 = .ok (.if_icmp .ne 5, 3) := by decide +kernel
theorem d_Mo_counts_13 : decode b_Mo_counts 13 = .ok (.iconst 2, 1) := by decide +kernel
theorem d_Mo_counts_14 : decode b_Mo_counts 14 = .ok (.ireturn, 1) := by decide +kernel
theorem d_Mo_counts_15 : decode b_Mo_counts 15 = .ok (.aload_n 0, 1) := by decide +kernel
theorem d_Mo_counts_16 : decode b_Mo_counts 16 = .ok (.getfield 333, 3) := by decide +kernel
theorem d_Mo_counts_19 : decode b_Mo_counts 19 = .ok (.sipush 300, 3) := by decide +kernel
theorem d_Mo_counts_22 : decode b_Mo_counts 22 = .ok (.if_icmp .ne 5, 3) := by decide +kernel
theorem d_Mo_counts_25 : decode b_Mo_counts 25 = .ok (.iconst 1, 1) := by decide +kernel
theorem d_Mo_counts_26 : decode b_Mo_counts 26 = .ok (.ireturn, 1) := by decide +kernel
theorem d_Mo_counts_27 : decode b_Mo_counts 27 = .ok (.aload_n 0, 1) := by decide +kernel
theorem d_Mo_counts_28 : decode b_Mo_counts 28 = .ok (.dup, 1) := by decide +kernel
theorem d_Mo_counts_29 : decode b_Mo_counts 29 = .ok (.getfield 333, 3) := by decide +kernel
theorem d_Mo_counts_32 : decode b_Mo_counts 32 = .ok (.iconst 1, 1) := by decide +kernel
theorem d_Mo_counts_33 : decode b_Mo_counts 33 = .ok (.iadd, 1) := by decide +kernel
theorem d_Mo_counts_34 : decode b_Mo_counts 34 = .ok (.putfield 333, 3) := by decide +kernel
theorem d_Mo_counts_37 : decode b_Mo_counts 37 = .ok (.iconst 0, 1) := by decide +kernel
theorem d_Mo_counts_38 : decode b_Mo_counts 38 = .ok (.ireturn, 1) := by decide +kernel
abbrev b_Mo_reckon : ByteArray := prog_11_method_64_code
def y_Mo_reckon : MethodName := ⟨"ProgramDeskModel", "reckon", "(I)V"⟩
theorem d_Mo_reckon_0 : decode b_Mo_reckon 0 = .ok (.aload_n 0, 1) := by decide +kernel
theorem d_Mo_reckon_1 : decode b_Mo_reckon 1 = .ok (.invokevirtual 336, 3) := by decide +kernel
theorem d_Mo_reckon_4 : decode b_Mo_reckon 4 = .ok (.istore_n 2, 1) := by decide +kernel
theorem d_Mo_reckon_5 : decode b_Mo_reckon 5 = .ok (.aload_n 0, 1) := by decide +kernel
theorem d_Mo_reckon_6 : decode b_Mo_reckon 6 = .ok (.invokevirtual 336, 3) := by decide +kernel
theorem d_Mo_reckon_9 : decode b_Mo_reckon 9 = .ok (.istore_n 3, 1) := by decide +kernel
theorem d_Mo_reckon_10 : decode b_Mo_reckon 10 = .ok (.aload_n 0, 1) := by decide +kernel
theorem d_Mo_reckon_11 : decode b_Mo_reckon 11 = .ok (.iload_n 1, 1) := by decide +kernel
theorem d_Mo_reckon_12 : decode b_Mo_reckon 12 = .ok (.bipush 43, 2) := by decide +kernel
theorem d_Mo_reckon_14 : decode b_Mo_reckon 14 = .ok (.if_icmp .ne 9, 3) := by decide +kernel
theorem d_Mo_reckon_17 : decode b_Mo_reckon 17 = .ok (.iload_n 3, 1) := by decide +kernel
theorem d_Mo_reckon_18 : decode b_Mo_reckon 18 = .ok (.iload_n 2, 1) := by decide +kernel
theorem d_Mo_reckon_19 : decode b_Mo_reckon 19 = .ok (.iadd, 1) := by decide +kernel
theorem d_Mo_reckon_20 : decode b_Mo_reckon 20 = .ok (.goto 37, 3) := by decide +kernel
theorem d_Mo_reckon_23 : decode b_Mo_reckon 23 = .ok (.iload_n 1, 1) := by decide +kernel
theorem d_Mo_reckon_24 : decode b_Mo_reckon 24 = .ok (.bipush 45, 2) := by decide +kernel
theorem d_Mo_reckon_26 : decode b_Mo_reckon 26 = .ok (.if_icmp .ne 9, 3) := by decide +kernel
theorem d_Mo_reckon_29 : decode b_Mo_reckon 29 = .ok (.iload_n 3, 1) := by decide +kernel
theorem d_Mo_reckon_30 : decode b_Mo_reckon 30 = .ok (.iload_n 2, 1) := by decide +kernel
theorem d_Mo_reckon_31 : decode b_Mo_reckon 31 = .ok (.isub, 1) := by decide +kernel
theorem d_Mo_reckon_32 : decode b_Mo_reckon 32 = .ok (.goto 25, 3) := by decide +kernel
theorem d_Mo_reckon_35 : decode b_Mo_reckon 35 = .ok (.iload_n 1, 1) := by decide +kernel
theorem d_Mo_reckon_36 : decode b_Mo_reckon 36 = .ok (.bipush 42, 2) := by decide +kernel
theorem d_Mo_reckon_38 : decode b_Mo_reckon 38 = .ok (.if_icmp .ne 9, 3) := by decide +kernel
theorem d_Mo_reckon_41 : decode b_Mo_reckon 41 = .ok (.iload_n 3, 1) := by decide +kernel
theorem d_Mo_reckon_42 : decode b_Mo_reckon 42 = .ok (.iload_n 2, 1) := by decide +kernel
theorem d_Mo_reckon_43 : decode b_Mo_reckon 43 = .ok (.imul, 1) := by decide +kernel
theorem d_Mo_reckon_44 : decode b_Mo_reckon 44 = .ok (.goto 13, 3) := by decide +kernel
theorem d_Mo_reckon_47 : decode b_Mo_reckon 47 = .ok (.iload_n 3, 1) := by decide +kernel
theorem d_Mo_reckon_48 : decode b_Mo_reckon 48 = .ok (.iload_n 2, 1) := by decide +kernel
theorem d_Mo_reckon_49 : decode b_Mo_reckon 49 = .ok (.if_icmp .ge 7, 3) := by decide +kernel
theorem d_Mo_reckon_52 : decode b_Mo_reckon 52 = .ok (.iconst 1, 1) := by decide +kernel
theorem d_Mo_reckon_53 : decode b_Mo_reckon 53 = .ok (.goto 4, 3) := by decide +kernel
theorem d_Mo_reckon_56 : decode b_Mo_reckon 56 = .ok (.iconst 0, 1) := by decide +kernel
theorem d_Mo_reckon_57 : decode b_Mo_reckon 57 = .ok (.invokevirtual 340, 3) := by decide +kernel
theorem d_Mo_reckon_60 : decode b_Mo_reckon 60 = .ok (.return_, 1) := by decide +kernel
abbrev b_Mo_execute : ByteArray := prog_11_method_65_code
def y_Mo_execute : MethodName := ⟨"ProgramDeskModel", "execute", "(II)I"⟩
theorem d_Mo_execute_0 : decode b_Mo_execute 0 = .ok (.aload_n 0, 1) := by decide +kernel
theorem d_Mo_execute_1 : decode b_Mo_execute 1 = .ok (.iconst 0, 1) := by decide +kernel
theorem d_Mo_execute_2 : decode b_Mo_execute 2 = .ok (.putfield 330, 3) := by decide +kernel
theorem d_Mo_execute_5 : decode b_Mo_execute 5 = .ok (.aload_n 0, 1) := by decide +kernel
theorem d_Mo_execute_6 : decode b_Mo_execute 6 = .ok (.iconst 0, 1) := by decide +kernel
theorem d_Mo_execute_7 : decode b_Mo_execute 7 = .ok (.putfield 327, 3) := by decide +kernel
theorem d_Mo_execute_10 : decode b_Mo_execute 10 = .ok (.aload_n 0, 1) := by decide +kernel
theorem d_Mo_execute_11 : decode b_Mo_execute 11 = .ok (.iconst 0, 1) := by decide +kernel
theorem d_Mo_execute_12 : decode b_Mo_execute 12 = .ok (.putfield 333, 3) := by decide +kernel
theorem d_Mo_execute_15 : decode b_Mo_execute 15 = .ok (.aload_n 0, 1) := by decide +kernel
theorem d_Mo_execute_16 : decode b_Mo_execute 16 = .ok (.iconst 0, 1) := by decide +kernel
theorem d_Mo_execute_17 : decode b_Mo_execute 17 = .ok (.putfield 343, 3) := by decide +kernel
theorem d_Mo_execute_20 : decode b_Mo_execute 20 = .ok (.aload_n 0, 1) := by decide +kernel
theorem d_Mo_execute_21 : decode b_Mo_execute 21 = .ok (.iconst 0, 1) := by decide +kernel
theorem d_Mo_execute_22 : decode b_Mo_execute 22 = .ok (.putfield 346, 3) := by decide +kernel
theorem d_Mo_execute_25 : decode b_Mo_execute 25 = .ok (.aload_n 0, 1) := by decide +kernel
theorem d_Mo_execute_26 : decode b_Mo_execute 26 = .ok (.iload_n 2, 1) := by decide +kernel
theorem d_Mo_execute_27 : decode b_Mo_execute 27 = .ok (.invokevirtual 340, 3) := by decide +kernel
theorem d_Mo_execute_30 : decode b_Mo_execute 30 = .ok (.iconst 1, 1) := by decide +kernel
theorem d_Mo_execute_31 : decode b_Mo_execute 31 = .ok (.istore_n 3, 1) := by decide +kernel
theorem d_Mo_execute_32 : decode b_Mo_execute 32 = .ok (.iload_n 3, 1) := by decide +kernel
theorem d_Mo_execute_33 : decode b_Mo_execute 33 = .ok (.aload_n 0, 1) := by decide +kernel
theorem d_Mo_execute_34 : decode b_Mo_execute 34 = .ok (.getfield 77, 3) := by decide +kernel
theorem d_Mo_execute_37 : decode b_Mo_execute 37 = .ok (.iload_n 1, 1) := by decide +kernel
theorem d_Mo_execute_38 : decode b_Mo_execute 38 = .ok (.iaload, 1) := by decide +kernel
theorem d_Mo_execute_39 : decode b_Mo_execute 39 = .ok (.if_icmp .ge 14, 3) := by decide +kernel
theorem d_Mo_execute_42 : decode b_Mo_execute 42 = .ok (.aload_n 0, 1) := by decide +kernel
theorem d_Mo_execute_43 : decode b_Mo_execute 43 = .ok (.iconst 0, 1) := by decide +kernel
theorem d_Mo_execute_44 : decode b_Mo_execute 44 = .ok (.invokevirtual 340, 3) := by decide +kernel
theorem d_Mo_execute_47 : decode b_Mo_execute 47 = .ok (.iinc 3 1, 3) := by decide +kernel
theorem d_Mo_execute_50 : decode b_Mo_execute 50 = .ok (.goto (-18), 3) := by decide +kernel
theorem d_Mo_execute_53 : decode b_Mo_execute 53 = .ok (.aload_n 0, 1) := by decide +kernel
theorem d_Mo_execute_54 : decode b_Mo_execute 54 = .ok (.getfield 77, 3) := by decide +kernel
theorem d_Mo_execute_57 : decode b_Mo_execute 57 = .ok (.iload_n 1, 1) := by decide +kernel
theorem d_Mo_execute_58 : decode b_Mo_execute 58 = .ok (.iaload, 1) := by decide +kernel
theorem d_Mo_execute_59 : decode b_Mo_execute 59 = .ok (.ifCond .ne 8, 3) := by decide +kernel
theorem d_Mo_execute_62 : decode b_Mo_execute 62 = .ok (.aload_n 0, 1) := by decide +kernel
theorem d_Mo_execute_63 : decode b_Mo_execute 63 = .ok (.iconst 0, 1) := by decide +kernel
theorem d_Mo_execute_64 : decode b_Mo_execute 64 = .ok (.putfield 327, 3) := by decide +kernel
theorem d_Mo_execute_67 : decode b_Mo_execute 67 = .ok (.aload_n 0, 1) := by decide +kernel
theorem d_Mo_execute_68 : decode b_Mo_execute 68 = .ok (.iload_n 1, 1) := by decide +kernel
theorem d_Mo_execute_69 : decode b_Mo_execute 69 = .ok (.iconst (-1), 1) := by decide +kernel
theorem d_Mo_execute_70 : decode b_Mo_execute 70 = .ok (.invokevirtual 349, 3) := by decide +kernel
theorem d_Mo_execute_73 : decode b_Mo_execute 73 = .ok (.istore_n 3, 1) := by decide +kernel
theorem d_Mo_execute_74 : decode b_Mo_execute 74 = .ok (.iload_n 3, 1) := by decide +kernel
theorem d_Mo_execute_75 : decode b_Mo_execute 75 = .ok (.ifCond .lt 269, 3) := by decide +kernel
theorem d_Mo_execute_78 : decode b_Mo_execute 78 = .ok (.aload_n 0, 1) := by decide +kernel
theorem d_Mo_execute_79 : decode b_Mo_execute 79 = .ok (.getfield 93, 3) := by decide +kernel
theorem d_Mo_execute_82 : decode b_Mo_execute 82 = .ok (.iload_n 3, 1) := by decide +kernel
theorem d_Mo_execute_83 : decode b_Mo_execute 83 = .ok (.iaload, 1) := by decide +kernel
theorem d_Mo_execute_84 : decode b_Mo_execute 84 = .ok (.istore 4, 2) := by decide +kernel
theorem d_Mo_execute_86 : decode b_Mo_execute 86 = .ok (.aload_n 0, 1) := by decide +kernel
theorem d_Mo_execute_87 : decode b_Mo_execute 87 = .ok (.getfield 96, 3) := by decide +kernel
theorem d_Mo_execute_90 : decode b_Mo_execute 90 = .ok (.iload_n 3, 1) := by decide +kernel
theorem d_Mo_execute_91 : decode b_Mo_execute 91 = .ok (.iaload, 1) := by decide +kernel
theorem d_Mo_execute_92 : decode b_Mo_execute 92 = .ok (.istore 5, 2) := by decide +kernel
theorem d_Mo_execute_94 : decode b_Mo_execute 94 = .ok (.iinc 3 1, 3) := by decide +kernel
theorem d_Mo_execute_97 : decode b_Mo_execute 97 = .ok (.iload 4, 2) := by decide +kernel
theorem d_Mo_execute_99 : decode b_Mo_execute 99 = .ok (.bipush 100, 2) := by decide +kernel
theorem d_Mo_execute_101 : decode b_Mo_execute 101 = .ok (.if_icmp .lt 15, 3) := by decide +kernel
theorem d_Mo_execute_104 : decode b_Mo_execute 104 = .ok (.aload_n 0, 1) := by decide +kernel
theorem d_Mo_execute_105 : decode b_Mo_execute 105 = .ok (.iload 4, 2) := by decide +kernel
theorem d_Mo_execute_107 : decode b_Mo_execute 107 = .ok (.bipush 100, 2) := by decide +kernel
theorem d_Mo_execute_109 : decode b_Mo_execute 109 = .ok (.isub, 1) := by decide +kernel
theorem d_Mo_execute_110 : decode b_Mo_execute 110 = .ok (.invokevirtual 353, 3) := by decide +kernel
theorem d_Mo_execute_113 : decode b_Mo_execute 113 = .ok (.goto 228, 3) := by decide +kernel
theorem d_Mo_execute_116 : decode b_Mo_execute 116 = .ok (.iload 4, 2) := by decide +kernel
theorem d_Mo_execute_118 : decode b_Mo_execute 118 = .ok (.ifCond .ne 12, 3) := by decide +kernel
theorem d_Mo_execute_121 : decode b_Mo_execute 121 = .ok (.aload_n 0, 1) := by decide +kernel
theorem d_Mo_execute_122 : decode b_Mo_execute 122 = .ok (.iload 5, 2) := by decide +kernel
theorem d_Mo_execute_124 : decode b_Mo_execute 124 = .ok (.invokevirtual 340, 3) := by decide +kernel
theorem d_Mo_execute_127 : decode b_Mo_execute 127 = .ok (.goto 214, 3) := by decide +kernel
theorem d_Mo_execute_130 : decode b_Mo_execute 130 = .ok (.iload 4, 2) := by decide +kernel
theorem d_Mo_execute_132 : decode b_Mo_execute 132 = .ok (.iconst 1, 1) := by decide +kernel
theorem d_Mo_execute_133 : decode b_Mo_execute 133 = .ok (.if_icmp .ne 27, 3) := by decide +kernel
theorem d_Mo_execute_136 : decode b_Mo_execute 136 = .ok (.aload_n 0, 1) := by decide +kernel
theorem d_Mo_execute_137 : decode b_Mo_execute 137 = .ok (.aload_n 0, 1) := by decide +kernel
theorem d_Mo_execute_138 : decode b_Mo_execute 138 = .ok (.getfield 120, 3) := by decide +kernel
theorem d_Mo_execute_141 : decode b_Mo_execute 141 = .ok (.bipush 96, 2) := by decide +kernel
theorem d_Mo_execute_143 : decode b_Mo_execute 143 = .ok (.aload_n 0, 1) := by decide +kernel
theorem d_Mo_execute_144 : decode b_Mo_execute 144 = .ok (.getfield 330, 3) := by decide +kernel
theorem d_Mo_execute_147 : decode b_Mo_execute 147 = .ok (.iconst 1, 1) := by decide +kernel
theorem d_Mo_execute_148 : decode b_Mo_execute 148 = .ok (.isub, 1) := by decide +kernel
theorem d_Mo_execute_149 : decode b_Mo_execute 149 = .ok (.imul, 1) := by decide +kernel
theorem d_Mo_execute_150 : decode b_Mo_execute 150 = .ok (.iload 5, 2) := by decide +kernel
theorem d_Mo_execute_152 : decode b_Mo_execute 152 = .ok (.iadd, 1) := by decide +kernel
theorem d_Mo_execute_153 : decode b_Mo_execute 153 = .ok (.iaload, 1) := by decide +kernel
theorem d_Mo_execute_154 : decode b_Mo_execute 154 = .ok (.invokevirtual 340, 3) := by decide +kernel
theorem d_Mo_execute_157 : decode b_Mo_execute 157 = .ok (.goto 184, 3) := by decide +kernel
theorem d_Mo_execute_160 : decode b_Mo_execute 160 = .ok (.iload 4, 2) := by decide +kernel
theorem d_Mo_execute_162 : decode b_Mo_execute 162 = .ok (.iconst 2, 1) := by decide +kernel
theorem d_Mo_execute_163 : decode b_Mo_execute 163 = .ok (.if_icmp .ne 27, 3) := by decide +kernel
theorem d_Mo_execute_166 : decode b_Mo_execute 166 = .ok (.aload_n 0, 1) := by decide +kernel
theorem d_Mo_execute_167 : decode b_Mo_execute 167 = .ok (.getfield 120, 3) := by decide +kernel
theorem d_Mo_execute_170 : decode b_Mo_execute 170 = .ok (.bipush 96, 2) := by decide +kernel
theorem d_Mo_execute_172 : decode b_Mo_execute 172 = .ok (.aload_n 0, 1) := by decide +kernel
theorem d_Mo_execute_173 : decode b_Mo_execute 173 = .ok (.getfield 330, 3) := by decide +kernel
theorem d_Mo_execute_176 : decode b_Mo_execute 176 = .ok (.iconst 1, 1) := by decide +kernel
theorem d_Mo_execute_177 : decode b_Mo_execute 177 = .ok (.isub, 1) := by decide +kernel
theorem d_Mo_execute_178 : decode b_Mo_execute 178 = .ok (.imul, 1) := by decide +kernel
theorem d_Mo_execute_179 : decode b_Mo_execute 179 = .ok (.iload 5, 2) := by decide +kernel
theorem d_Mo_execute_181 : decode b_Mo_execute 181 = .ok (.iadd, 1) := by decide +kernel
theorem d_Mo_execute_182 : decode b_Mo_execute 182 = .ok (.aload_n 0, 1) := by decide +kernel
theorem d_Mo_execute_183 : decode b_Mo_execute 183 = .ok (.invokevirtual 336, 3) := by decide +kernel
theorem d_Mo_execute_186 : decode b_Mo_execute 186 = .ok (.iastore, 1) := by decide +kernel
theorem d_Mo_execute_187 : decode b_Mo_execute 187 = .ok (.goto 154, 3) := by decide +kernel
theorem d_Mo_execute_190 : decode b_Mo_execute 190 = .ok (.iload 4, 2) := by decide +kernel
theorem d_Mo_execute_192 : decode b_Mo_execute 192 = .ok (.iconst 3, 1) := by decide +kernel
theorem d_Mo_execute_193 : decode b_Mo_execute 193 = .ok (.if_icmp .ne 42, 3) := by decide +kernel
theorem d_Mo_execute_196 : decode b_Mo_execute 196 = .ok (.aload_n 0, 1) := by decide +kernel
theorem d_Mo_execute_197 : decode b_Mo_execute 197 = .ok (.invokevirtual 336, 3) := by decide +kernel
theorem d_Mo_execute_200 : decode b_Mo_execute 200 = .ok (.istore 6, 2) := by decide +kernel
theorem d_Mo_execute_202 : decode b_Mo_execute 202 = .ok (.aload_n 0, 1) := by decide +kernel
theorem d_Mo_execute_203 : decode b_Mo_execute 203 = .ok (.getfield 343, 3) := by decide +kernel
theorem d_Mo_execute_206 : decode b_Mo_execute 206 = .ok (.bipush 32, 2) := by decide +kernel
theorem d_Mo_execute_208 : decode b_Mo_execute 208 = .ok (.if_icmp .ge 14, 3) := by decide +kernel
theorem d_Mo_execute_211 : decode b_Mo_execute 211 = .ok (.aload_n 0, 1) := by decide +kernel
theorem d_Mo_execute_212 : decode b_Mo_execute 212 = .ok (.getfield 129, 3) := by decide +kernel
theorem d_Mo_execute_215 : decode b_Mo_execute 215 = .ok (.aload_n 0, 1) := by decide +kernel
theorem d_Mo_execute_216 : decode b_Mo_execute 216 = .ok (.getfield 343, 3) := by decide +kernel
theorem d_Mo_execute_219 : decode b_Mo_execute 219 = .ok (.iload 6, 2) := by decide +kernel
theorem d_Mo_execute_221 : decode b_Mo_execute 221 = .ok (.iastore, 1) := by decide +kernel
theorem d_Mo_execute_222 : decode b_Mo_execute 222 = .ok (.aload_n 0, 1) := by decide +kernel
theorem d_Mo_execute_223 : decode b_Mo_execute 223 = .ok (.dup, 1) := by decide +kernel
theorem d_Mo_execute_224 : decode b_Mo_execute 224 = .ok (.getfield 343, 3) := by decide +kernel
theorem d_Mo_execute_227 : decode b_Mo_execute 227 = .ok (.iconst 1, 1) := by decide +kernel
theorem d_Mo_execute_228 : decode b_Mo_execute 228 = .ok (.iadd, 1) := by decide +kernel
theorem d_Mo_execute_229 : decode b_Mo_execute 229 = .ok (.putfield 343, 3) := by decide +kernel
theorem d_Mo_execute_232 : decode b_Mo_execute 232 = .ok (.goto 109, 3) := by decide +kernel
theorem d_Mo_execute_235 : decode b_Mo_execute 235 = .ok (.iload 4, 2) := by decide +kernel
theorem d_Mo_execute_237 : decode b_Mo_execute 237 = .ok (.iconst 4, 1) := by decide +kernel
theorem d_Mo_execute_238 : decode b_Mo_execute 238 = .ok (.if_icmp .ne 26, 3) := by decide +kernel
theorem d_Mo_execute_241 : decode b_Mo_execute 241 = .ok (.aload_n 0, 1) := by decide +kernel
theorem d_Mo_execute_242 : decode b_Mo_execute 242 = .ok (.dup, 1) := by decide +kernel
theorem d_Mo_execute_243 : decode b_Mo_execute 243 = .ok (.getfield 330, 3) := by decide +kernel
theorem d_Mo_execute_246 : decode b_Mo_execute 246 = .ok (.iconst 1, 1) := by decide +kernel
theorem d_Mo_execute_247 : decode b_Mo_execute 247 = .ok (.isub, 1) := by decide +kernel
theorem d_Mo_execute_248 : decode b_Mo_execute 248 = .ok (.putfield 330, 3) := by decide +kernel
theorem d_Mo_execute_251 : decode b_Mo_execute 251 = .ok (.aload_n 0, 1) := by decide +kernel
theorem d_Mo_execute_252 : decode b_Mo_execute 252 = .ok (.getfield 123, 3) := by decide +kernel
theorem d_Mo_execute_255 : decode b_Mo_execute 255 = .ok (.aload_n 0, 1) := by decide +kernel
theorem d_Mo_execute_256 : decode b_Mo_execute 256 = .ok (.getfield 330, 3) := by decide +kernel
theorem d_Mo_execute_259 : decode b_Mo_execute 259 = .ok (.iaload, 1) := by decide +kernel
theorem d_Mo_execute_260 : decode b_Mo_execute 260 = .ok (.istore_n 3, 1) := by decide +kernel
theorem d_Mo_execute_261 : decode b_Mo_execute 261 = .ok (.goto 80, 3) := by decide +kernel
theorem d_Mo_execute_264 : decode b_Mo_execute 264 = .ok (.iload 4, 2) := by decide +kernel
theorem d_Mo_execute_266 : decode b_Mo_execute 266 = .ok (.bipush 6, 2) := by decide +kernel
theorem d_Mo_execute_268 : decode b_Mo_execute 268 = .ok (.if_icmp .ne 9, 3) := by decide +kernel
theorem d_Mo_execute_271 : decode b_Mo_execute 271 = .ok (.iload 5, 2) := by decide +kernel
theorem d_Mo_execute_273 : decode b_Mo_execute 273 = .ok (.istore_n 3, 1) := by decide +kernel
theorem d_Mo_execute_274 : decode b_Mo_execute 274 = .ok (.goto 67, 3) := by decide +kernel
theorem d_Mo_execute_277 : decode b_Mo_execute 277 = .ok (.iload 4, 2) := by decide +kernel
theorem d_Mo_execute_279 : decode b_Mo_execute 279 = .ok (.iconst 5, 1) := by decide +kernel
theorem d_Mo_execute_280 : decode b_Mo_execute 280 = .ok (.if_icmp .ne 20, 3) := by decide +kernel
theorem d_Mo_execute_283 : decode b_Mo_execute 283 = .ok (.aload_n 0, 1) := by decide +kernel
theorem d_Mo_execute_284 : decode b_Mo_execute 284 = .ok (.invokevirtual 336, 3) := by decide +kernel
theorem d_Mo_execute_287 : decode b_Mo_execute 287 = .ok (.ifCond .ne 8, 3) := by decide +kernel
theorem d_Mo_execute_290 : decode b_Mo_execute 290 = .ok (.iload 5, 2) := by decide +kernel
theorem d_Mo_execute_292 : decode b_Mo_execute 292 = .ok (.goto 4, 3) := by decide +kernel
theorem d_Mo_execute_295 : decode b_Mo_execute 295 = .ok (.iload_n 3, 1) := by decide +kernel
theorem d_Mo_execute_296 : decode b_Mo_execute 296 = .ok (.istore_n 3, 1) := by decide +kernel
theorem d_Mo_execute_297 : decode b_Mo_execute 297 = .ok (.goto 44, 3) := by decide +kernel
theorem d_Mo_execute_300 : decode b_Mo_execute 300 = .ok (.aload_n 0, 1) := by decide +kernel
theorem d_Mo_execute_301 : decode b_Mo_execute 301 = .ok (.iload 4, 2) := by decide +kernel
theorem d_Mo_execute_303 : decode b_Mo_execute 303 = .ok (.bipush 7, 2) := by decide +kernel
theorem d_Mo_execute_305 : decode b_Mo_execute 305 = .ok (.if_icmp .ne 7, 3) := by decide +kernel
theorem d_Mo_execute_308 : decode b_Mo_execute 308 = .ok (.iconst 1, 1) := by decide +kernel
theorem d_Mo_execute_309 : decode b_Mo_execute 309 = .ok (.goto 4, 3) := by decide +kernel
theorem d_Mo_execute_312 : decode b_Mo_execute 312 = .ok (.iconst 0, 1) := by decide +kernel
theorem d_Mo_execute_313 : decode b_Mo_execute 313 = .ok (.invokevirtual 356, 3) := by decide +kernel
theorem d_Mo_execute_316 : decode b_Mo_execute 316 = .ok (.istore 6, 2) := by decide +kernel
theorem d_Mo_execute_318 : decode b_Mo_execute 318 = .ok (.iload 6, 2) := by decide +kernel
theorem d_Mo_execute_320 : decode b_Mo_execute 320 = .ok (.ifCond .le 6, 3) := by decide +kernel
theorem d_Mo_execute_323 : decode b_Mo_execute 323 = .ok (.iload 6, 2) := by decide +kernel
theorem d_Mo_execute_325 : decode b_Mo_execute 325 = .ok (.ireturn, 1) := by decide +kernel
theorem d_Mo_execute_326 : decode b_Mo_execute 326 = .ok (.iload 4, 2) := by decide +kernel
theorem d_Mo_execute_328 : decode b_Mo_execute 328 = .ok (.bipush 7, 2) := by decide +kernel
theorem d_Mo_execute_330 : decode b_Mo_execute 330 = .ok (.if_icmp .ne 11, 3) := by decide +kernel
theorem d_Mo_execute_333 : decode b_Mo_execute 333 = .ok (.aload_n 0, 1) := by decide +kernel
theorem d_Mo_execute_334 : decode b_Mo_execute 334 = .ok (.iload 5, 2) := by decide +kernel
theorem d_Mo_execute_336 : decode b_Mo_execute 336 = .ok (.iload_n 3, 1) := by decide +kernel
theorem d_Mo_execute_337 : decode b_Mo_execute 337 = .ok (.invokevirtual 360, 3) := by decide +kernel
theorem d_Mo_execute_340 : decode b_Mo_execute 340 = .ok (.istore_n 3, 1) := by decide +kernel
theorem d_Mo_execute_341 : decode b_Mo_execute 341 = .ok (.goto (-267), 3) := by decide +kernel
theorem d_Mo_execute_344 : decode b_Mo_execute 344 = .ok (.aload_n 0, 1) := by decide +kernel
theorem d_Mo_execute_345 : decode b_Mo_execute 345 = .ok (.aload_n 0, 1) := by decide +kernel
theorem d_Mo_execute_346 : decode b_Mo_execute 346 = .ok (.invokevirtual 336, 3) := by decide +kernel
theorem d_Mo_execute_349 : decode b_Mo_execute 349 = .ok (.putfield 346, 3) := by decide +kernel
theorem d_Mo_execute_352 : decode b_Mo_execute 352 = .ok (.iconst 0, 1) := by decide +kernel
theorem d_Mo_execute_353 : decode b_Mo_execute 353 = .ok (.ireturn, 1) := by decide +kernel
abbrev b_Mo_enter : ByteArray := prog_11_method_66_code
def y_Mo_enter : MethodName := ⟨"ProgramDeskModel", "enter", "(II)I"⟩
theorem d_Mo_enter_0 : decode b_Mo_enter 0 = .ok (.aload_n 0, 1) := by decide +kernel
theorem d_Mo_enter_1 : decode b_Mo_enter 1 = .ok (.iconst 1, 1) := by decide +kernel
theorem d_Mo_enter_2 : decode b_Mo_enter 2 = .ok (.putfield 333, 3) := by decide +kernel
theorem d_Mo_enter_5 : decode b_Mo_enter 5 = .ok (.aload_n 0, 1) := by decide +kernel
theorem d_Mo_enter_6 : decode b_Mo_enter 6 = .ok (.iload_n 1, 1) := by decide +kernel
theorem d_Mo_enter_7 : decode b_Mo_enter 7 = .ok (.iload_n 2, 1) := by decide +kernel
theorem d_Mo_enter_8 : decode b_Mo_enter 8 = .ok (.invokevirtual 360, 3) := by decide +kernel
theorem d_Mo_enter_11 : decode b_Mo_enter 11 = .ok (.ireturn, 1) := by decide +kernel
abbrev b_Mo_uncounted : ByteArray := prog_11_method_67_code
def y_Mo_uncounted : MethodName := ⟨"ProgramDeskModel", "uncounted", "(II)I"⟩
theorem d_Mo_uncounted_0 : decode b_Mo_uncounted 0 = .ok (.aload_n 0, 1) := by decide +kernel
theorem d_Mo_uncounted_1 : decode b_Mo_uncounted 1 = .ok (.getfield 123, 3) := by decide +kernel
theorem d_Mo_uncounted_4 : decode b_Mo_uncounted 4 = .ok (.aload_n 0, 1) := by decide +kernel
theorem d_Mo_uncounted_5 : decode b_Mo_uncounted 5 = .ok (.getfield 330, 3) := by decide +kernel
theorem d_Mo_uncounted_8 : decode b_Mo_uncounted 8 = .ok (.iload_n 2, 1) := by decide +kernel
theorem d_Mo_uncounted_9 : decode b_Mo_uncounted 9 = .ok (.iastore, 1) := by decide +kernel
theorem d_Mo_uncounted_10 : decode b_Mo_uncounted 10 = .ok (.aload_n 0, 1) := by decide +kernel
theorem d_Mo_uncounted_11 : decode b_Mo_uncounted 11 = .ok (.getfield 77, 3) := by decide +kernel
theorem d_Mo_uncounted_14 : decode b_Mo_uncounted 14 = .ok (.iload_n 1, 1) := by decide +kernel
theorem d_Mo_uncounted_15 : decode b_Mo_uncounted 15 = .ok (.iaload, 1) := by decide +kernel
theorem d_Mo_uncounted_16 : decode b_Mo_uncounted 16 = .ok (.iconst 1, 1) := by decide +kernel
theorem d_Mo_uncounted_17 : decode b_Mo_uncounted 17 = .ok (.isub, 1) := by decide +kernel
theorem d_Mo_uncounted_18 : decode b_Mo_uncounted 18 = .ok (.istore_n 3, 1) := by decide +kernel
theorem d_Mo_uncounted_19 : decode b_Mo_uncounted 19 = .ok (.iload_n 3, 1) := by decide +kernel
theorem d_Mo_uncounted_20 : decode b_Mo_uncounted 20 = .ok (.ifCond .lt 27, 3) := by decide +kernel
theorem d_Mo_uncounted_23 : decode b_Mo_uncounted 23 = .ok (.aload_n 0, 1) := by decide +kernel
theorem d_Mo_uncounted_24 : decode b_Mo_uncounted 24 = .ok (.getfield 120, 3) := by decide +kernel
theorem d_Mo_uncounted_27 : decode b_Mo_uncounted 27 = .ok (.bipush 96, 2) := by decide +kernel
theorem d_Mo_uncounted_29 : decode b_Mo_uncounted 29 = .ok (.aload_n 0, 1) := by decide +kernel
theorem d_Mo_uncounted_30 : decode b_Mo_uncounted 30 = .ok (.getfield 330, 3) := by decide +kernel
theorem d_Mo_uncounted_33 : decode b_Mo_uncounted 33 = .ok (.imul, 1) := by decide +kernel
theorem d_Mo_uncounted_34 : decode b_Mo_uncounted 34 = .ok (.iload_n 3, 1) := by decide +kernel
theorem d_Mo_uncounted_35 : decode b_Mo_uncounted 35 = .ok (.iadd, 1) := by decide +kernel
theorem d_Mo_uncounted_36 : decode b_Mo_uncounted 36 = .ok (.aload_n 0, 1) := by decide +kernel
theorem d_Mo_uncounted_37 : decode b_Mo_uncounted 37 = .ok (.invokevirtual 336, 3) := by decide +kernel
theorem d_Mo_uncounted_40 : decode b_Mo_uncounted 40 = .ok (.iastore, 1) := by decide +kernel
theorem d_Mo_uncounted_41 : decode b_Mo_uncounted 41 = .ok (.iinc 3 (-1), 3) := by decide +kernel
theorem d_Mo_uncounted_44 : decode b_Mo_uncounted 44 = .ok (.goto (-25), 3) := by decide +kernel
theorem d_Mo_uncounted_47 : decode b_Mo_uncounted 47 = .ok (.aload_n 0, 1) := by decide +kernel
theorem d_Mo_uncounted_48 : decode b_Mo_uncounted 48 = .ok (.dup, 1) := by decide +kernel
theorem d_Mo_uncounted_49 : decode b_Mo_uncounted 49 = .ok (.getfield 330, 3) := by decide +kernel
theorem d_Mo_uncounted_52 : decode b_Mo_uncounted 52 = .ok (.iconst 1, 1) := by decide +kernel
theorem d_Mo_uncounted_53 : decode b_Mo_uncounted 53 = .ok (.iadd, 1) := by decide +kernel
theorem d_Mo_uncounted_54 : decode b_Mo_uncounted 54 = .ok (.putfield 330, 3) := by decide +kernel
theorem d_Mo_uncounted_57 : decode b_Mo_uncounted 57 = .ok (.aload_n 0, 1) := by decide +kernel
theorem d_Mo_uncounted_58 : decode b_Mo_uncounted 58 = .ok (.getfield 99, 3) := by decide +kernel
theorem d_Mo_uncounted_61 : decode b_Mo_uncounted 61 = .ok (.iload_n 1, 1) := by decide +kernel
theorem d_Mo_uncounted_62 : decode b_Mo_uncounted 62 = .ok (.iaload, 1) := by decide +kernel
theorem d_Mo_uncounted_63 : decode b_Mo_uncounted 63 = .ok (.ireturn, 1) := by decide +kernel
abbrev b_Mo_run : ByteArray := prog_11_method_68_code
def y_Mo_run : MethodName := ⟨"ProgramDeskModel", "run", "(I)I"⟩
theorem d_Mo_run_0 : decode b_Mo_run 0 = .ok (.aload_n 0, 1) := by decide +kernel
theorem d_Mo_run_1 : decode b_Mo_run 1 = .ok (.iconst 0, 1) := by decide +kernel
theorem d_Mo_run_2 : decode b_Mo_run 2 = .ok (.putfield 132, 3) := by decide +kernel
theorem d_Mo_run_5 : decode b_Mo_run 5 = .ok (.aload_n 0, 1) := by decide +kernel
theorem d_Mo_run_6 : decode b_Mo_run 6 = .ok (.invokevirtual 267, 3) := by decide +kernel
theorem d_Mo_run_9 : decode b_Mo_run 9 = .ok (.aload_n 0, 1) := by decide +kernel
theorem d_Mo_run_10 : decode b_Mo_run 10 = .ok (.getfield 234, 3) := by decide +kernel
theorem d_Mo_run_13 : decode b_Mo_run 13 = .ok (.ifCond .le 9, 3) := by decide +kernel
theorem d_Mo_run_16 : decode b_Mo_run 16 = .ok (.aload_n 0, 1) := by decide +kernel
theorem d_Mo_run_17 : decode b_Mo_run 17 = .ok (.iconst 1, 1) := by decide +kernel
theorem d_Mo_run_18 : decode b_Mo_run 18 = .ok (.invokevirtual 270, 3) := by decide +kernel
theorem d_Mo_run_21 : decode b_Mo_run 21 = .ok (.ireturn, 1) := by decide +kernel
theorem d_Mo_run_22 : decode b_Mo_run 22 = .ok (.aload_n 0, 1) := by decide +kernel
theorem d_Mo_run_23 : decode b_Mo_run 23 = .ok (.ldc2_w 143, 3) := by decide +kernel
theorem d_Mo_run_26 : decode b_Mo_run 26 = .ok (.invokevirtual 250, 3) := by decide +kernel
theorem d_Mo_run_29 : decode b_Mo_run 29 = .ok (.istore_n 2, 1) := by decide +kernel
theorem d_Mo_run_30 : decode b_Mo_run 30 = .ok (.iload_n 2, 1) := by decide +kernel
theorem d_Mo_run_31 : decode b_Mo_run 31 = .ok (.ifCond .ge 9, 3) := by decide +kernel
theorem d_Mo_run_34 : decode b_Mo_run 34 = .ok (.aload_n 0, 1) := by decide +kernel
theorem d_Mo_run_35 : decode b_Mo_run 35 = .ok (.iconst 2, 1) := by decide +kernel
theorem d_Mo_run_36 : decode b_Mo_run 36 = .ok (.invokevirtual 270, 3) := by decide +kernel
theorem d_Mo_run_39 : decode b_Mo_run 39 = .ok (.ireturn, 1) := by decide +kernel
theorem d_Mo_run_40 : decode b_Mo_run 40 = .ok (.aload_n 0, 1) := by decide +kernel
theorem d_Mo_run_41 : decode b_Mo_run 41 = .ok (.iconst 0, 1) := by decide +kernel
theorem d_Mo_run_42 : decode b_Mo_run 42 = .ok (.putfield 306, 3) := by decide +kernel
theorem d_Mo_run_45 : decode b_Mo_run 45 = .ok (.iconst 0, 1) := by decide +kernel
theorem d_Mo_run_46 : decode b_Mo_run 46 = .ok (.istore_n 3, 1) := by decide +kernel
theorem d_Mo_run_47 : decode b_Mo_run 47 = .ok (.iload_n 3, 1) := by decide +kernel
theorem d_Mo_run_48 : decode b_Mo_run 48 = .ok (.aload_n 0, 1) := by decide +kernel
theorem d_Mo_run_49 : decode b_Mo_run 49 = .ok (.getfield 237, 3) := by decide +kernel
theorem d_Mo_run_52 : decode b_Mo_run 52 = .ok (.if_icmp .ge 14, 3) := by decide +kernel
theorem d_Mo_run_55 : decode b_Mo_run 55 = .ok (.aload_n 0, 1) := by decide +kernel
theorem d_Mo_run_56 : decode b_Mo_run 56 = .ok (.iload_n 3, 1) := by decide +kernel
theorem d_Mo_run_57 : decode b_Mo_run 57 = .ok (.invokevirtual 363, 3) := by decide +kernel
theorem d_Mo_run_60 : decode b_Mo_run 60 = .ok (.iinc 3 1, 3) := by decide +kernel
theorem d_Mo_run_63 : decode b_Mo_run 63 = .ok (.goto (-16), 3) := by decide +kernel
theorem d_Mo_run_66 : decode b_Mo_run 66 = .ok (.aload_n 0, 1) := by decide +kernel
theorem d_Mo_run_67 : decode b_Mo_run 67 = .ok (.iload_n 2, 1) := by decide +kernel
theorem d_Mo_run_68 : decode b_Mo_run 68 = .ok (.invokevirtual 253, 3) := by decide +kernel
theorem d_Mo_run_71 : decode b_Mo_run 71 = .ok (.istore_n 3, 1) := by decide +kernel
theorem d_Mo_run_72 : decode b_Mo_run 72 = .ok (.aload_n 0, 1) := by decide +kernel
theorem d_Mo_run_73 : decode b_Mo_run 73 = .ok (.iload_n 3, 1) := by decide +kernel
theorem d_Mo_run_74 : decode b_Mo_run 74 = .ok (.iload_n 1, 1) := by decide +kernel
theorem d_Mo_run_75 : decode b_Mo_run 75 = .ok (.invokevirtual 366, 3) := by decide +kernel
theorem d_Mo_run_78 : decode b_Mo_run 78 = .ok (.ireturn, 1) := by decide +kernel
abbrev b_Mo_output : ByteArray := prog_11_method_69_code
def y_Mo_output : MethodName := ⟨"ProgramDeskModel", "output", "(I)I"⟩
theorem d_Mo_output_0 : decode b_Mo_output 0 = .ok (.aload_n 0, 1) := by decide +kernel
theorem d_Mo_output_1 : decode b_Mo_output 1 = .ok (.iconst 0, 1) := by decide +kernel
theorem d_Mo_output_2 : decode b_Mo_output 2 = .ok (.putfield 132, 3) := by decide +kernel
theorem d_Mo_output_5 : decode b_Mo_output 5 = .ok (.iload_n 1, 1) := by decide +kernel
theorem d_Mo_output_6 : decode b_Mo_output 6 = .ok (.iconst (-1), 1) := by decide +kernel
theorem d_Mo_output_7 : decode b_Mo_output 7 = .ok (.if_icmp .ne 8, 3) := by decide +kernel
theorem d_Mo_output_10 : decode b_Mo_output 10 = .ok (.aload_n 0, 1) := by decide +kernel
theorem d_Mo_output_11 : decode b_Mo_output 11 = .ok (.getfield 343, 3) := by decide +kernel
theorem d_Mo_output_14 : decode b_Mo_output 14 = .ok (.ireturn, 1) := by decide +kernel
theorem d_Mo_output_15 : decode b_Mo_output 15 = .ok (.iload_n 1, 1) := by decide +kernel
theorem d_Mo_output_16 : decode b_Mo_output 16 = .ok (.bipush (-2), 2) := by decide +kernel
theorem d_Mo_output_18 : decode b_Mo_output 18 = .ok (.if_icmp .ne 8, 3) := by decide +kernel
theorem d_Mo_output_21 : decode b_Mo_output 21 = .ok (.aload_n 0, 1) := by decide +kernel
theorem d_Mo_output_22 : decode b_Mo_output 22 = .ok (.getfield 346, 3) := by decide +kernel
theorem d_Mo_output_25 : decode b_Mo_output 25 = .ok (.ireturn, 1) := by decide +kernel
theorem d_Mo_output_26 : decode b_Mo_output 26 = .ok (.iload_n 1, 1) := by decide +kernel
theorem d_Mo_output_27 : decode b_Mo_output 27 = .ok (.ifCond .lt 17, 3) := by decide +kernel
theorem d_Mo_output_30 : decode b_Mo_output 30 = .ok (.iload_n 1, 1) := by decide +kernel
theorem d_Mo_output_31 : decode b_Mo_output 31 = .ok (.aload_n 0, 1) := by decide +kernel
theorem d_Mo_output_32 : decode b_Mo_output 32 = .ok (.getfield 343, 3) := by decide +kernel
theorem d_Mo_output_35 : decode b_Mo_output 35 = .ok (.if_icmp .ge 9, 3) := by decide +kernel
theorem d_Mo_output_38 : decode b_Mo_output 38 = .ok (.iload_n 1, 1) := by decide +kernel
theorem d_Mo_output_39 : decode b_Mo_output 39 = .ok (.bipush 32, 2) := by decide +kernel
theorem d_Mo_output_41 : decode b_Mo_output 41 = .ok (.if_icmp .lt 11, 3) := by decide +kernel
theorem d_Mo_output_44 : decode b_Mo_output 44 = .ok (.aload_n 0, 1) := by decide +kernel
theorem d_Mo_output_45 : decode b_Mo_output 45 = .ok (.iconst 1, 1) := by decide +kernel
theorem d_Mo_output_46 : decode b_Mo_output 46 = .ok (.invokevirtual 270, 3) := by decide +kernel
theorem d_Mo_output_49 : decode b_Mo_output 49 = .ok (.goto 9, 3) := by decide +kernel
theorem d_Mo_output_52 : decode b_Mo_output 52 = .ok (.aload_n 0, 1) := by decide +kernel
theorem d_Mo_output_53 : decode b_Mo_output 53 = .ok (.getfield 129, 3) := by decide +kernel
theorem d_Mo_output_56 : decode b_Mo_output 56 = .ok (.iload_n 1, 1) := by decide +kernel
theorem d_Mo_output_57 : decode b_Mo_output 57 = .ok (.iaload, 1) := by decide +kernel
theorem d_Mo_output_58 : decode b_Mo_output 58 = .ok (.ireturn, 1) := by decide +kernel
abbrev b_Cd_init : ByteArray := prog_2_method_1_code
def y_Cd_init : MethodName := ⟨"ProgramDesk$Code", "<init>", "()V"⟩
theorem d_Cd_init_0 : decode b_Cd_init 0 = .ok (.aload_n 0, 1) := by decide +kernel
theorem d_Cd_init_1 : decode b_Cd_init 1 = .ok (.invokespecial 3, 3) := by decide +kernel
theorem d_Cd_init_4 : decode b_Cd_init 4 = .ok (.aload_n 0, 1) := by decide +kernel
theorem d_Cd_init_5 : decode b_Cd_init 5 = .ok (.sipush 240, 3) := by decide +kernel
theorem d_Cd_init_8 : decode b_Cd_init 8 = .ok (.newarray .int, 2) := by decide +kernel
theorem d_Cd_init_10 : decode b_Cd_init 10 = .ok (.putfield 9, 3) := by decide +kernel
theorem d_Cd_init_13 : decode b_Cd_init 13 = .ok (.aload_n 0, 1) := by decide +kernel
theorem d_Cd_init_14 : decode b_Cd_init 14 = .ok (.sipush 240, 3) := by decide +kernel
theorem d_Cd_init_17 : decode b_Cd_init 17 = .ok (.newarray .int, 2) := by decide +kernel
theorem d_Cd_init_19 : decode b_Cd_init 19 = .ok (.putfield 15, 3) := by decide +kernel
theorem d_Cd_init_22 : decode b_Cd_init 22 = .ok (.return_, 1) := by decide +kernel
abbrev b_Cd_add : ByteArray := prog_2_method_2_code
def y_Cd_add : MethodName := ⟨"ProgramDesk$Code", "add", "(II)V"⟩
theorem d_Cd_add_0 : decode b_Cd_add 0 = .ok (.aload_n 0, 1) := by decide +kernel
theorem d_Cd_add_1 : decode b_Cd_add 1 = .ok (.getfield 18, 3) := by decide +kernel
theorem d_Cd_add_4 : decode b_Cd_add 4 = .ok (.sipush 240, 3) := by decide +kernel
theorem d_Cd_add_7 : decode b_Cd_add 7 = .ok (.if_icmp .ge 33, 3) := by decide +kernel
theorem d_Cd_add_10 : decode b_Cd_add 10 = .ok (.aload_n 0, 1) := by decide +kernel
theorem d_Cd_add_11 : decode b_Cd_add 11 = .ok (.getfield 9, 3) := by decide +kernel
theorem d_Cd_add_14 : decode b_Cd_add 14 = .ok (.aload_n 0, 1) := by decide +kernel
theorem d_Cd_add_15 : decode b_Cd_add 15 = .ok (.getfield 18, 3) := by decide +kernel
theorem d_Cd_add_18 : decode b_Cd_add 18 = .ok (.iload_n 1, 1) := by decide +kernel
theorem d_Cd_add_19 : decode b_Cd_add 19 = .ok (.iastore, 1) := by decide +kernel
theorem d_Cd_add_20 : decode b_Cd_add 20 = .ok (.aload_n 0, 1) := by decide +kernel
theorem d_Cd_add_21 : decode b_Cd_add 21 = .ok (.getfield 15, 3) := by decide +kernel
theorem d_Cd_add_24 : decode b_Cd_add 24 = .ok (.aload_n 0, 1) := by decide +kernel
theorem d_Cd_add_25 : decode b_Cd_add 25 = .ok (.getfield 18, 3) := by decide +kernel
theorem d_Cd_add_28 : decode b_Cd_add 28 = .ok (.iload_n 2, 1) := by decide +kernel
theorem d_Cd_add_29 : decode b_Cd_add 29 = .ok (.iastore, 1) := by decide +kernel
theorem d_Cd_add_30 : decode b_Cd_add 30 = .ok (.aload_n 0, 1) := by decide +kernel
theorem d_Cd_add_31 : decode b_Cd_add 31 = .ok (.dup, 1) := by decide +kernel
theorem d_Cd_add_32 : decode b_Cd_add 32 = .ok (.getfield 18, 3) := by decide +kernel
theorem d_Cd_add_35 : decode b_Cd_add 35 = .ok (.iconst 1, 1) := by decide +kernel
theorem d_Cd_add_36 : decode b_Cd_add 36 = .ok (.iadd, 1) := by decide +kernel
theorem d_Cd_add_37 : decode b_Cd_add 37 = .ok (.putfield 18, 3) := by decide +kernel
theorem d_Cd_add_40 : decode b_Cd_add 40 = .ok (.return_, 1) := by decide +kernel
abbrev b_Cd_aimHere : ByteArray := prog_2_method_3_code
def y_Cd_aimHere : MethodName := ⟨"ProgramDesk$Code", "aimHere", "(I)V"⟩
theorem d_Cd_aimHere_0 : decode b_Cd_aimHere 0 = .ok (.iload_n 1, 1) := by decide +kernel
theorem d_Cd_aimHere_1 : decode b_Cd_aimHere 1 = .ok (.ifCond .lt 21, 3) := by decide +kernel
theorem d_Cd_aimHere_4 : decode b_Cd_aimHere 4 = .ok (.iload_n 1, 1) := by decide +kernel
theorem d_Cd_aimHere_5 : decode b_Cd_aimHere 5 = .ok (.aload_n 0, 1) := by decide +kernel
theorem d_Cd_aimHere_6 : decode b_Cd_aimHere 6 = .ok (.getfield 18, 3) := by decide +kernel
theorem d_Cd_aimHere_9 : decode b_Cd_aimHere 9 = .ok (.if_icmp .ge 13, 3) := by decide +kernel
theorem d_Cd_aimHere_12 : decode b_Cd_aimHere 12 = .ok (.aload_n 0, 1) := by decide +kernel
theorem d_Cd_aimHere_13 : decode b_Cd_aimHere 13 = .ok (.getfield 15, 3) := by decide +kernel
theorem d_Cd_aimHere_16 : decode b_Cd_aimHere 16 = .ok (.iload_n 1, 1) := by decide +kernel
theorem d_Cd_aimHere_17 : decode b_Cd_aimHere 17 = .ok (.aload_n 0, 1) := by decide +kernel
theorem d_Cd_aimHere_18 : decode b_Cd_aimHere 18 = .ok (.getfield 18, 3) := by decide +kernel
theorem d_Cd_aimHere_21 : decode b_Cd_aimHere 21 = .ok (.iastore, 1) := by decide +kernel
theorem d_Cd_aimHere_22 : decode b_Cd_aimHere 22 = .ok (.return_, 1) := by decide +kernel
abbrev b_Dr_init : ByteArray := prog_3_method_1_code
def y_Dr_init : MethodName := ⟨"ProgramDesk$Draft", "<init>", "()V"⟩
theorem d_Dr_init_0 : decode b_Dr_init 0 = .ok (.aload_n 0, 1) := by decide +kernel
theorem d_Dr_init_1 : decode b_Dr_init 1 = .ok (.invokespecial 3, 3) := by decide +kernel
theorem d_Dr_init_4 : decode b_Dr_init 4 = .ok (.aload_n 0, 1) := by decide +kernel
theorem d_Dr_init_5 : decode b_Dr_init 5 = .ok (.new 9, 3) := by decide +kernel
theorem d_Dr_init_8 : decode b_Dr_init 8 = .ok (.dup, 1) := by decide +kernel
theorem d_Dr_init_9 : decode b_Dr_init 9 = .ok (.invokespecial 11, 3) := by decide +kernel
theorem d_Dr_init_12 : decode b_Dr_init 12 = .ok (.putfield 12, 3) := by decide +kernel
theorem d_Dr_init_15 : decode b_Dr_init 15 = .ok (.aload_n 0, 1) := by decide +kernel
theorem d_Dr_init_16 : decode b_Dr_init 16 = .ok (.new 18, 3) := by decide +kernel
theorem d_Dr_init_19 : decode b_Dr_init 19 = .ok (.dup, 1) := by decide +kernel
theorem d_Dr_init_20 : decode b_Dr_init 20 = .ok (.invokespecial 20, 3) := by decide +kernel
theorem d_Dr_init_23 : decode b_Dr_init 23 = .ok (.putfield 21, 3) := by decide +kernel
theorem d_Dr_init_26 : decode b_Dr_init 26 = .ok (.aload_n 0, 1) := by decide +kernel
theorem d_Dr_init_27 : decode b_Dr_init 27 = .ok (.new 25, 3) := by decide +kernel
theorem d_Dr_init_30 : decode b_Dr_init 30 = .ok (.dup, 1) := by decide +kernel
theorem d_Dr_init_31 : decode b_Dr_init 31 = .ok (.aload_n 0, 1) := by decide +kernel
theorem d_Dr_init_32 : decode b_Dr_init 32 = .ok (.getfield 21, 3) := by decide +kernel
theorem d_Dr_init_35 : decode b_Dr_init 35 = .ok (.invokespecial 27, 3) := by decide +kernel
theorem d_Dr_init_38 : decode b_Dr_init 38 = .ok (.putfield 30, 3) := by decide +kernel
theorem d_Dr_init_41 : decode b_Dr_init 41 = .ok (.aload_n 0, 1) := by decide +kernel
theorem d_Dr_init_42 : decode b_Dr_init 42 = .ok (.new 34, 3) := by decide +kernel
theorem d_Dr_init_45 : decode b_Dr_init 45 = .ok (.dup, 1) := by decide +kernel
theorem d_Dr_init_46 : decode b_Dr_init 46 = .ok (.aload_n 0, 1) := by decide +kernel
theorem d_Dr_init_47 : decode b_Dr_init 47 = .ok (.getfield 21, 3) := by decide +kernel
theorem d_Dr_init_50 : decode b_Dr_init 50 = .ok (.aload_n 0, 1) := by decide +kernel
theorem d_Dr_init_51 : decode b_Dr_init 51 = .ok (.getfield 30, 3) := by decide +kernel
theorem d_Dr_init_54 : decode b_Dr_init 54 = .ok (.invokespecial 36, 3) := by decide +kernel
theorem d_Dr_init_57 : decode b_Dr_init 57 = .ok (.putfield 39, 3) := by decide +kernel
theorem d_Dr_init_60 : decode b_Dr_init 60 = .ok (.aload_n 0, 1) := by decide +kernel
theorem d_Dr_init_61 : decode b_Dr_init 61 = .ok (.new 43, 3) := by decide +kernel
theorem d_Dr_init_64 : decode b_Dr_init 64 = .ok (.dup, 1) := by decide +kernel
theorem d_Dr_init_65 : decode b_Dr_init 65 = .ok (.invokespecial 45, 3) := by decide +kernel
theorem d_Dr_init_68 : decode b_Dr_init 68 = .ok (.putfield 46, 3) := by decide +kernel
theorem d_Dr_init_71 : decode b_Dr_init 71 = .ok (.aload_n 0, 1) := by decide +kernel
theorem d_Dr_init_72 : decode b_Dr_init 72 = .ok (.new 50, 3) := by decide +kernel
theorem d_Dr_init_75 : decode b_Dr_init 75 = .ok (.dup, 1) := by decide +kernel
theorem d_Dr_init_76 : decode b_Dr_init 76 = .ok (.aload_n 0, 1) := by decide +kernel
theorem d_Dr_init_77 : decode b_Dr_init 77 = .ok (.getfield 21, 3) := by decide +kernel
theorem d_Dr_init_80 : decode b_Dr_init 80 = .ok (.aload_n 0, 1) := by decide +kernel
theorem d_Dr_init_81 : decode b_Dr_init 81 = .ok (.getfield 39, 3) := by decide +kernel
theorem d_Dr_init_84 : decode b_Dr_init 84 = .ok (.aload_n 0, 1) := by decide +kernel
theorem d_Dr_init_85 : decode b_Dr_init 85 = .ok (.getfield 30, 3) := by decide +kernel
theorem d_Dr_init_88 : decode b_Dr_init 88 = .ok (.aload_n 0, 1) := by decide +kernel
theorem d_Dr_init_89 : decode b_Dr_init 89 = .ok (.getfield 46, 3) := by decide +kernel
theorem d_Dr_init_92 : decode b_Dr_init 92 = .ok (.invokespecial 52, 3) := by decide +kernel
theorem d_Dr_init_95 : decode b_Dr_init 95 = .ok (.putfield 55, 3) := by decide +kernel
theorem d_Dr_init_98 : decode b_Dr_init 98 = .ok (.aload_n 0, 1) := by decide +kernel
theorem d_Dr_init_99 : decode b_Dr_init 99 = .ok (.iconst 5, 1) := by decide +kernel
theorem d_Dr_init_100 : decode b_Dr_init 100 = .ok (.newarray .int, 2) := by decide +kernel
theorem d_Dr_init_102 : decode b_Dr_init 102 = .ok (.putfield 59, 3) := by decide +kernel
theorem d_Dr_init_105 : decode b_Dr_init 105 = .ok (.aload_n 0, 1) := by decide +kernel
theorem d_Dr_init_106 : decode b_Dr_init 106 = .ok (.iconst 4, 1) := by decide +kernel
theorem d_Dr_init_107 : decode b_Dr_init 107 = .ok (.newarray .int, 2) := by decide +kernel
theorem d_Dr_init_109 : decode b_Dr_init 109 = .ok (.putfield 63, 3) := by decide +kernel
theorem d_Dr_init_112 : decode b_Dr_init 112 = .ok (.aload_n 0, 1) := by decide +kernel
theorem d_Dr_init_113 : decode b_Dr_init 113 = .ok (.sipush 244, 3) := by decide +kernel
theorem d_Dr_init_116 : decode b_Dr_init 116 = .ok (.newarray .int, 2) := by decide +kernel
theorem d_Dr_init_118 : decode b_Dr_init 118 = .ok (.putfield 66, 3) := by decide +kernel
theorem d_Dr_init_121 : decode b_Dr_init 121 = .ok (.aload_n 0, 1) := by decide +kernel
theorem d_Dr_init_122 : decode b_Dr_init 122 = .ok (.iconst 1, 1) := by decide +kernel
theorem d_Dr_init_123 : decode b_Dr_init 123 = .ok (.putfield 69, 3) := by decide +kernel
theorem d_Dr_init_126 : decode b_Dr_init 126 = .ok (.return_, 1) := by decide +kernel
abbrev b_Dr_refresh : ByteArray := prog_3_method_2_code
def y_Dr_refresh : MethodName := ⟨"ProgramDesk$Draft", "refresh", "()V"⟩
theorem d_Dr_refresh_0 : decode b_Dr_refresh 0 = .ok (.aload_n 0, 1) := by decide +kernel
theorem d_Dr_refresh_1 : decode b_Dr_refresh 1 = .ok (.getfield 69, 3) := by decide +kernel
theorem d_Dr_refresh_4 : decode b_Dr_refresh 4 = .ok (.ifCond .eq 4, 3) := by decide +kernel
theorem d_Dr_refresh_7 : decode b_Dr_refresh 7 = .ok (.return_, 1) := by decide +kernel
theorem d_Dr_refresh_8 : decode b_Dr_refresh 8 = .ok (.aload_n 0, 1) := by decide +kernel
theorem d_Dr_refresh_9 : decode b_Dr_refresh 9 = .ok (.iconst 1, 1) := by decide +kernel
theorem d_Dr_refresh_10 : decode b_Dr_refresh 10 = .ok (.putfield 69, 3) := by decide +kernel
theorem d_Dr_refresh_13 : decode b_Dr_refresh 13 = .ok (.aload_n 0, 1) := by decide +kernel
theorem d_Dr_refresh_14 : decode b_Dr_refresh 14 = .ok (.getfield 21, 3) := by decide +kernel
theorem d_Dr_refresh_17 : decode b_Dr_refresh 17 = .ok (.aload_n 0, 1) := by decide +kernel
theorem d_Dr_refresh_18 : decode b_Dr_refresh 18 = .ok (.getfield 12, 3) := by decide +kernel
theorem d_Dr_refresh_21 : decode b_Dr_refresh 21 = .ok (.invokevirtual 73, 3) := by decide +kernel
theorem d_Dr_refresh_24 : decode b_Dr_refresh 24 = .ok (.aload_n 0, 1) := by decide +kernel
theorem d_Dr_refresh_25 : decode b_Dr_refresh 25 = .ok (.getfield 39, 3) := by decide +kernel
theorem d_Dr_refresh_28 : decode b_Dr_refresh 28 = .ok (.invokevirtual 77, 3) := by decide +kernel
theorem d_Dr_refresh_31 : decode b_Dr_refresh 31 = .ok (.aload_n 0, 1) := by decide +kernel
theorem d_Dr_refresh_32 : decode b_Dr_refresh 32 = .ok (.getfield 30, 3) := by decide +kernel
theorem d_Dr_refresh_35 : decode b_Dr_refresh 35 = .ok (.iconst 0, 1) := by decide +kernel
theorem d_Dr_refresh_36 : decode b_Dr_refresh 36 = .ok (.putfield 80, 3) := by decide +kernel
theorem d_Dr_refresh_39 : decode b_Dr_refresh 39 = .ok (.aload_n 0, 1) := by decide +kernel
theorem d_Dr_refresh_40 : decode b_Dr_refresh 40 = .ok (.getfield 46, 3) := by decide +kernel
theorem d_Dr_refresh_43 : decode b_Dr_refresh 43 = .ok (.iconst 0, 1) := by decide +kernel
theorem d_Dr_refresh_44 : decode b_Dr_refresh 44 = .ok (.putfield 84, 3) := by decide +kernel
theorem d_Dr_refresh_47 : decode b_Dr_refresh 47 = .ok (.aload_n 0, 1) := by decide +kernel
theorem d_Dr_refresh_48 : decode b_Dr_refresh 48 = .ok (.invokevirtual 85, 3) := by decide +kernel
theorem d_Dr_refresh_51 : decode b_Dr_refresh 51 = .ok (.iconst 0, 1) := by decide +kernel
theorem d_Dr_refresh_52 : decode b_Dr_refresh 52 = .ok (.istore_n 1, 1) := by decide +kernel
theorem d_Dr_refresh_53 : decode b_Dr_refresh 53 = .ok (.iload_n 1, 1) := by decide +kernel
theorem d_Dr_refresh_54 : decode b_Dr_refresh 54 = .ok (.aload_n 0, 1) := by decide +kernel
theorem d_Dr_refresh_55 : decode b_Dr_refresh 55 = .ok (.getfield 88, 3) := by decide +kernel
theorem d_Dr_refresh_58 : decode b_Dr_refresh 58 = .ok (.if_icmp .ge 57, 3) := by decide +kernel
theorem d_Dr_refresh_61 : decode b_Dr_refresh 61 = .ok (.aload_n 0, 1) := by decide +kernel
theorem d_Dr_refresh_62 : decode b_Dr_refresh 62 = .ok (.getfield 55, 3) := by decide +kernel
theorem d_Dr_refresh_65 : decode b_Dr_refresh 65 = .ok (.aload_n 0, 1) := by decide +kernel
theorem d_Dr_refresh_66 : decode b_Dr_refresh 66 = .ok (.getfield 59, 3) := by decide +kernel
theorem d_Dr_refresh_69 : decode b_Dr_refresh 69 = .ok (.iload_n 1, 1) := by decide +kernel
theorem d_Dr_refresh_70 : decode b_Dr_refresh 70 = .ok (.iaload, 1) := by decide +kernel
theorem d_Dr_refresh_71 : decode b_Dr_refresh 71 = .ok (.aload_n 0, 1) := by decide +kernel
theorem d_Dr_refresh_72 : decode b_Dr_refresh 72 = .ok (.getfield 59, 3) := by decide +kernel
theorem d_Dr_refresh_75 : decode b_Dr_refresh 75 = .ok (.iload_n 1, 1) := by decide +kernel
theorem d_Dr_refresh_76 : decode b_Dr_refresh 76 = .ok (.iconst 1, 1) := by decide +kernel
theorem d_Dr_refresh_77 : decode b_Dr_refresh 77 = .ok (.iadd, 1) := by decide +kernel
theorem d_Dr_refresh_78 : decode b_Dr_refresh 78 = .ok (.iaload, 1) := by decide +kernel
theorem d_Dr_refresh_79 : decode b_Dr_refresh 79 = .ok (.invokevirtual 91, 3) := by decide +kernel
theorem d_Dr_refresh_82 : decode b_Dr_refresh 82 = .ok (.istore_n 2, 1) := by decide +kernel
theorem d_Dr_refresh_83 : decode b_Dr_refresh 83 = .ok (.aload_n 0, 1) := by decide +kernel
theorem d_Dr_refresh_84 : decode b_Dr_refresh 84 = .ok (.getfield 63, 3) := by decide +kernel
theorem d_Dr_refresh_87 : decode b_Dr_refresh 87 = .ok (.iload_n 1, 1) := by decide +kernel
theorem d_Dr_refresh_88 : decode b_Dr_refresh 88 = .ok (.iload_n 2, 1) := by decide +kernel
theorem d_Dr_refresh_89 : decode b_Dr_refresh 89 = .ok (.ifCond .eq 7, 3) := by decide +kernel
theorem d_Dr_refresh_92 : decode b_Dr_refresh 92 = .ok (.iconst (-1), 1) := by decide +kernel
theorem d_Dr_refresh_93 : decode b_Dr_refresh 93 = .ok (.goto 15, 3) := by decide +kernel
theorem d_Dr_refresh_96 : decode b_Dr_refresh 96 = .ok (.aload_n 0, 1) := by decide +kernel
theorem d_Dr_refresh_97 : decode b_Dr_refresh 97 = .ok (.aload_n 0, 1) := by decide +kernel
theorem d_Dr_refresh_98 : decode b_Dr_refresh 98 = .ok (.getfield 59, 3) := by decide +kernel
theorem d_Dr_refresh_101 : decode b_Dr_refresh 101 = .ok (.iload_n 1, 1) := by decide +kernel
theorem d_Dr_refresh_102 : decode b_Dr_refresh 102 = .ok (.iconst 1, 1) := by decide +kernel
theorem d_Dr_refresh_103 : decode b_Dr_refresh 103 = .ok (.iadd, 1) := by decide +kernel
theorem d_Dr_refresh_104 : decode b_Dr_refresh 104 = .ok (.iaload, 1) := by decide +kernel
theorem d_Dr_refresh_105 : decode b_Dr_refresh 105 = .ok (.invokevirtual 95, 3) := by decide +kernel
theorem d_Dr_refresh_108 : decode b_Dr_refresh 108 = .ok (.iastore, 1) := by decide +kernel
theorem d_Dr_refresh_109 : decode b_Dr_refresh 109 = .ok (.iinc 1 1, 3) := by decide +kernel
theorem d_Dr_refresh_112 : decode b_Dr_refresh 112 = .ok (.goto (-59), 3) := by decide +kernel
theorem d_Dr_refresh_115 : decode b_Dr_refresh 115 = .ok (.aload_n 0, 1) := by decide +kernel
theorem d_Dr_refresh_116 : decode b_Dr_refresh 116 = .ok (.iconst 0, 1) := by decide +kernel
theorem d_Dr_refresh_117 : decode b_Dr_refresh 117 = .ok (.putfield 99, 3) := by decide +kernel
theorem d_Dr_refresh_120 : decode b_Dr_refresh 120 = .ok (.iconst 0, 1) := by decide +kernel
theorem d_Dr_refresh_121 : decode b_Dr_refresh 121 = .ok (.istore_n 1, 1) := by decide +kernel
theorem d_Dr_refresh_122 : decode b_Dr_refresh 122 = .ok (.iload_n 1, 1) := by decide +kernel
theorem d_Dr_refresh_123 : decode b_Dr_refresh 123 = .ok (.aload_n 0, 1) := by decide +kernel
theorem d_Dr_refresh_124 : decode b_Dr_refresh 124 = .ok (.getfield 88, 3) := by decide +kernel
theorem d_Dr_refresh_127 : decode b_Dr_refresh 127 = .ok (.if_icmp .ge 14, 3) := by decide +kernel
theorem d_Dr_refresh_130 : decode b_Dr_refresh 130 = .ok (.aload_n 0, 1) := by decide +kernel
theorem d_Dr_refresh_131 : decode b_Dr_refresh 131 = .ok (.iload_n 1, 1) := by decide +kernel
theorem d_Dr_refresh_132 : decode b_Dr_refresh 132 = .ok (.invokevirtual 102, 3) := by decide +kernel
theorem d_Dr_refresh_135 : decode b_Dr_refresh 135 = .ok (.iinc 1 1, 3) := by decide +kernel
theorem d_Dr_refresh_138 : decode b_Dr_refresh 138 = .ok (.goto (-16), 3) := by decide +kernel
theorem d_Dr_refresh_141 : decode b_Dr_refresh 141 = .ok (.return_, 1) := by decide +kernel
abbrev b_Dr_splitParts : ByteArray := prog_3_method_3_code
def y_Dr_splitParts : MethodName := ⟨"ProgramDesk$Draft", "splitParts", "()V"⟩
theorem d_Dr_splitParts_0 : decode b_Dr_splitParts 0 = .ok (.aload_n 0, 1) := by decide +kernel
theorem d_Dr_splitParts_1 : decode b_Dr_splitParts 1 = .ok (.iconst 0, 1) := by decide +kernel
theorem d_Dr_splitParts_2 : decode b_Dr_splitParts 2 = .ok (.putfield 88, 3) := by decide +kernel
theorem d_Dr_splitParts_5 : decode b_Dr_splitParts 5 = .ok (.iconst 0, 1) := by decide +kernel
theorem d_Dr_splitParts_6 : decode b_Dr_splitParts 6 = .ok (.istore_n 1, 1) := by decide +kernel
theorem d_Dr_splitParts_7 : decode b_Dr_splitParts 7 = .ok (.iload_n 1, 1) := by decide +kernel
theorem d_Dr_splitParts_8 : decode b_Dr_splitParts 8 = .ok (.aload_n 0, 1) := by decide +kernel
theorem d_Dr_splitParts_9 : decode b_Dr_splitParts 9 = .ok (.getfield 21, 3) := by decide +kernel
theorem d_Dr_splitParts_12 : decode b_Dr_splitParts 12 = .ok (.getfield 106, 3) := by decide +kernel
theorem d_Dr_splitParts_15 : decode b_Dr_splitParts 15 = .ok (.if_icmp .ge 52, 3) := by decide +kernel
theorem d_Dr_splitParts_18 : decode b_Dr_splitParts 18 = .ok (.iload_n 1, 1) := by decide +kernel
theorem d_Dr_splitParts_19 : decode b_Dr_splitParts 19 = .ok (.ifCond .eq 14, 3) := by decide +kernel
theorem d_Dr_splitParts_22 : decode b_Dr_splitParts 22 = .ok (.aload_n 0, 1) := by decide +kernel
theorem d_Dr_splitParts_23 : decode b_Dr_splitParts 23 = .ok (.getfield 21, 3) := by decide +kernel
theorem d_Dr_splitParts_26 : decode b_Dr_splitParts 26 = .ok (.iload_n 1, 1) := by decide +kernel
theorem d_Dr_splitParts_27 : decode b_Dr_splitParts 27 = .ok (.invokevirtual 107, 3) := by decide +kernel
theorem d_Dr_splitParts_30 : decode b_Dr_splitParts 30 = .ok (.ifCond .eq 31, 3) := by decide +kernel
theorem d_Dr_splitParts_33 : decode b_Dr_splitParts 33 = .ok (.aload_n 0, 1) := by decide +kernel
theorem d_Dr_splitParts_34 : decode b_Dr_splitParts 34 = .ok (.getfield 88, 3) := by decide +kernel
theorem d_Dr_splitParts_37 : decode b_Dr_splitParts 37 = .ok (.iconst 4, 1) := by decide +kernel
theorem d_Dr_splitParts_38 : decode b_Dr_splitParts 38 = .ok (.if_icmp .ge 23, 3) := by decide +kernel
theorem d_Dr_splitParts_41 : decode b_Dr_splitParts 41 = .ok (.aload_n 0, 1) := by decide +kernel
theorem d_Dr_splitParts_42 : decode b_Dr_splitParts 42 = .ok (.getfield 59, 3) := by decide +kernel
theorem d_Dr_splitParts_45 : decode b_Dr_splitParts 45 = .ok (.aload_n 0, 1) := by decide +kernel
theorem d_Dr_splitParts_46 : decode b_Dr_splitParts 46 = .ok (.getfield 88, 3) := by decide +kernel
theorem d_Dr_splitParts_49 : decode b_Dr_splitParts 49 = .ok (.iload_n 1, 1) := by decide +kernel
theorem d_Dr_splitParts_50 : decode b_Dr_splitParts 50 = .ok (.iastore, 1) := by decide +kernel
theorem d_Dr_splitParts_51 : decode b_Dr_splitParts 51 = .ok (.aload_n 0, 1) := by decide +kernel
theorem d_Dr_splitParts_52 : decode b_Dr_splitParts 52 = .ok (.dup, 1) := by decide +kernel
theorem d_Dr_splitParts_53 : decode b_Dr_splitParts 53 = .ok (.getfield 88, 3) := by decide +kernel
theorem d_Dr_splitParts_56 : decode b_Dr_splitParts 56 = .ok (.iconst 1, 1) := by decide +kernel
theorem d_Dr_splitParts_57 : decode b_Dr_splitParts 57 = .ok (.iadd, 1) := by decide +kernel
theorem d_Dr_splitParts_58 : decode b_Dr_splitParts 58 = .ok (.putfield 88, 3) := by decide +kernel
theorem d_Dr_splitParts_61 : decode b_Dr_splitParts 61 = .ok (.iinc 1 1, 3) := by decide +kernel
theorem d_Dr_splitParts_64 : decode b_Dr_splitParts 64 = .ok (.goto (-57), 3) := by decide +kernel
theorem d_Dr_splitParts_67 : decode b_Dr_splitParts 67 = .ok (.aload_n 0, 1) := by decide +kernel
theorem d_Dr_splitParts_68 : decode b_Dr_splitParts 68 = .ok (.getfield 59, 3) := by decide +kernel
theorem d_Dr_splitParts_71 : decode b_Dr_splitParts 71 = .ok (.aload_n 0, 1) := by decide +kernel
theorem d_Dr_splitParts_72 : decode b_Dr_splitParts 72 = .ok (.getfield 88, 3) := by decide +kernel
theorem d_Dr_splitParts_75 : decode b_Dr_splitParts 75 = .ok (.aload_n 0, 1) := by decide +kernel
theorem d_Dr_splitParts_76 : decode b_Dr_splitParts 76 = .ok (.getfield 21, 3) := by decide +kernel
theorem d_Dr_splitParts_79 : decode b_Dr_splitParts 79 = .ok (.getfield 106, 3) := by decide +kernel
theorem d_Dr_splitParts_82 : decode b_Dr_splitParts 82 = .ok (.iastore, 1) := by decide +kernel
theorem d_Dr_splitParts_83 : decode b_Dr_splitParts 83 = .ok (.return_, 1) := by decide +kernel
abbrev b_Dr_brokenPlace : ByteArray := prog_3_method_4_code
def y_Dr_brokenPlace : MethodName := ⟨"ProgramDesk$Draft", "brokenPlace", "(I)I"⟩
theorem d_Dr_brokenPlace_0 : decode b_Dr_brokenPlace 0 = .ok (.aload_n 0, 1) := by decide +kernel
theorem d_Dr_brokenPlace_1 : decode b_Dr_brokenPlace 1 = .ok (.getfield 55, 3) := by decide +kernel
theorem d_Dr_brokenPlace_4 : decode b_Dr_brokenPlace 4 = .ok (.getfield 111, 3) := by decide +kernel
theorem d_Dr_brokenPlace_7 : decode b_Dr_brokenPlace 7 = .ok (.iload_n 1, 1) := by decide +kernel
theorem d_Dr_brokenPlace_8 : decode b_Dr_brokenPlace 8 = .ok (.if_icmp .ge 21, 3) := by decide +kernel
theorem d_Dr_brokenPlace_11 : decode b_Dr_brokenPlace 11 = .ok (.aload_n 0, 1) := by decide +kernel
theorem d_Dr_brokenPlace_12 : decode b_Dr_brokenPlace 12 = .ok (.getfield 21, 3) := by decide +kernel
theorem d_Dr_brokenPlace_15 : decode b_Dr_brokenPlace 15 = .ok (.getfield 114, 3) := by decide +kernel
theorem d_Dr_brokenPlace_18 : decode b_Dr_brokenPlace 18 = .ok (.aload_n 0, 1) := by decide +kernel
theorem d_Dr_brokenPlace_19 : decode b_Dr_brokenPlace 19 = .ok (.getfield 55, 3) := by decide +kernel
theorem d_Dr_brokenPlace_22 : decode b_Dr_brokenPlace 22 = .ok (.getfield 111, 3) := by decide +kernel
theorem d_Dr_brokenPlace_25 : decode b_Dr_brokenPlace 25 = .ok (.iaload, 1) := by decide +kernel
theorem d_Dr_brokenPlace_26 : decode b_Dr_brokenPlace 26 = .ok (.goto 14, 3) := by decide +kernel
theorem d_Dr_brokenPlace_29 : decode b_Dr_brokenPlace 29 = .ok (.aload_n 0, 1) := by decide +kernel
theorem d_Dr_brokenPlace_30 : decode b_Dr_brokenPlace 30 = .ok (.getfield 21, 3) := by decide +kernel
theorem d_Dr_brokenPlace_33 : decode b_Dr_brokenPlace 33 = .ok (.getfield 117, 3) := by decide +kernel
theorem d_Dr_brokenPlace_36 : decode b_Dr_brokenPlace 36 = .ok (.iload_n 1, 1) := by decide +kernel
theorem d_Dr_brokenPlace_37 : decode b_Dr_brokenPlace 37 = .ok (.iconst 1, 1) := by decide +kernel
theorem d_Dr_brokenPlace_38 : decode b_Dr_brokenPlace 38 = .ok (.isub, 1) := by decide +kernel
theorem d_Dr_brokenPlace_39 : decode b_Dr_brokenPlace 39 = .ok (.iaload, 1) := by decide +kernel
theorem d_Dr_brokenPlace_40 : decode b_Dr_brokenPlace 40 = .ok (.ireturn, 1) := by decide +kernel
abbrev b_Dr_judgePart : ByteArray := prog_3_method_5_code
def y_Dr_judgePart : MethodName := ⟨"ProgramDesk$Draft", "judgePart", "(I)V"⟩
theorem d_Dr_judgePart_0 : decode b_Dr_judgePart 0 = .ok (.aload_n 0, 1) := by decide +kernel
theorem d_Dr_judgePart_1 : decode b_Dr_judgePart 1 = .ok (.getfield 63, 3) := by decide +kernel
theorem d_Dr_judgePart_4 : decode b_Dr_judgePart 4 = .ok (.iload_n 1, 1) := by decide +kernel
theorem d_Dr_judgePart_5 : decode b_Dr_judgePart 5 = .ok (.iaload, 1) := by decide +kernel
theorem d_Dr_judgePart_6 : decode b_Dr_judgePart 6 = .ok (.iconst (-1), 1) := by decide +kernel
theorem d_Dr_judgePart_7 : decode b_Dr_judgePart 7 = .ok (.if_icmp .eq 15, 3) := by decide +kernel
theorem d_Dr_judgePart_10 : decode b_Dr_judgePart 10 = .ok (.aload_n 0, 1) := by decide +kernel
theorem d_Dr_judgePart_11 : decode b_Dr_judgePart 11 = .ok (.iconst 1, 1) := by decide +kernel
theorem d_Dr_judgePart_12 : decode b_Dr_judgePart 12 = .ok (.aload_n 0, 1) := by decide +kernel
theorem d_Dr_judgePart_13 : decode b_Dr_judgePart 13 = .ok (.getfield 63, 3) := by decide +kernel
theorem d_Dr_judgePart_16 : decode b_Dr_judgePart 16 = .ok (.iload_n 1, 1) := by decide +kernel
theorem d_Dr_judgePart_17 : decode b_Dr_judgePart 17 = .ok (.iaload, 1) := by decide +kernel
theorem d_Dr_judgePart_18 : decode b_Dr_judgePart 18 = .ok (.invokevirtual 120, 3) := by decide +kernel
theorem d_Dr_judgePart_21 : decode b_Dr_judgePart 21 = .ok (.return_, 1) := by decide +kernel
theorem d_Dr_judgePart_22 : decode b_Dr_judgePart 22 = .ok (.aload_n 0, 1) := by decide +kernel
theorem d_Dr_judgePart_23 : decode b_Dr_judgePart 23 = .ok (.getfield 39, 3) := by decide +kernel
theorem d_Dr_judgePart_26 : decode b_Dr_judgePart 26 = .ok (.aload_n 0, 1) := by decide +kernel
theorem d_Dr_judgePart_27 : decode b_Dr_judgePart 27 = .ok (.getfield 59, 3) := by decide +kernel
theorem d_Dr_judgePart_30 : decode b_Dr_judgePart 30 = .ok (.iload_n 1, 1) := by decide +kernel
theorem d_Dr_judgePart_31 : decode b_Dr_judgePart 31 = .ok (.iaload, 1) := by decide +kernel
theorem d_Dr_judgePart_32 : decode b_Dr_judgePart 32 = .ok (.aload_n 0, 1) := by decide +kernel
theorem d_Dr_judgePart_33 : decode b_Dr_judgePart 33 = .ok (.getfield 59, 3) := by decide +kernel
theorem d_Dr_judgePart_36 : decode b_Dr_judgePart 36 = .ok (.iload_n 1, 1) := by decide +kernel
theorem d_Dr_judgePart_37 : decode b_Dr_judgePart 37 = .ok (.iconst 1, 1) := by decide +kernel
theorem d_Dr_judgePart_38 : decode b_Dr_judgePart 38 = .ok (.iadd, 1) := by decide +kernel
theorem d_Dr_judgePart_39 : decode b_Dr_judgePart 39 = .ok (.iaload, 1) := by decide +kernel
theorem d_Dr_judgePart_40 : decode b_Dr_judgePart 40 = .ok (.invokevirtual 124, 3) := by decide +kernel
theorem d_Dr_judgePart_43 : decode b_Dr_judgePart 43 = .ok (.aload_n 0, 1) := by decide +kernel
theorem d_Dr_judgePart_44 : decode b_Dr_judgePart 44 = .ok (.getfield 59, 3) := by decide +kernel
theorem d_Dr_judgePart_47 : decode b_Dr_judgePart 47 = .ok (.iload_n 1, 1) := by decide +kernel
theorem d_Dr_judgePart_48 : decode b_Dr_judgePart 48 = .ok (.iaload, 1) := by decide +kernel
theorem d_Dr_judgePart_49 : decode b_Dr_judgePart 49 = .ok (.istore_n 2, 1) := by decide +kernel
theorem d_Dr_judgePart_50 : decode b_Dr_judgePart 50 = .ok (.iload_n 2, 1) := by decide +kernel
theorem d_Dr_judgePart_51 : decode b_Dr_judgePart 51 = .ok (.aload_n 0, 1) := by decide +kernel
theorem d_Dr_judgePart_52 : decode b_Dr_judgePart 52 = .ok (.getfield 59, 3) := by decide +kernel
theorem d_Dr_judgePart_55 : decode b_Dr_judgePart 55 = .ok (.iload_n 1, 1) := by decide +kernel
theorem d_Dr_judgePart_56 : decode b_Dr_judgePart 56 = .ok (.iconst 1, 1) := by decide +kernel
theorem d_Dr_judgePart_57 : decode b_Dr_judgePart 57 = .ok (.iadd, 1) := by decide +kernel
theorem d_Dr_judgePart_58 : decode b_Dr_judgePart 58 = .ok (.iaload, 1) := by decide +kernel
theorem d_Dr_judgePart_59 : decode b_Dr_judgePart 59 = .ok (.if_icmp .ge 44, 3) := by decide +kernel
theorem d_Dr_judgePart_62 : decode b_Dr_judgePart 62 = .ok (.aload_n 0, 1) := by decide +kernel
theorem d_Dr_judgePart_63 : decode b_Dr_judgePart 63 = .ok (.getfield 39, 3) := by decide +kernel
theorem d_Dr_judgePart_66 : decode b_Dr_judgePart 66 = .ok (.getfield 127, 3) := by decide +kernel
theorem d_Dr_judgePart_69 : decode b_Dr_judgePart 69 = .ok (.iload_n 2, 1) := by decide +kernel
theorem d_Dr_judgePart_70 : decode b_Dr_judgePart 70 = .ok (.iaload, 1) := by decide +kernel
theorem d_Dr_judgePart_71 : decode b_Dr_judgePart 71 = .ok (.iconst (-1), 1) := by decide +kernel
theorem d_Dr_judgePart_72 : decode b_Dr_judgePart 72 = .ok (.if_icmp .eq 25, 3) := by decide +kernel
theorem d_Dr_judgePart_75 : decode b_Dr_judgePart 75 = .ok (.aload_n 0, 1) := by decide +kernel
theorem d_Dr_judgePart_76 : decode b_Dr_judgePart 76 = .ok (.aload_n 0, 1) := by decide +kernel
theorem d_Dr_judgePart_77 : decode b_Dr_judgePart 77 = .ok (.getfield 39, 3) := by decide +kernel
theorem d_Dr_judgePart_80 : decode b_Dr_judgePart 80 = .ok (.getfield 127, 3) := by decide +kernel
theorem d_Dr_judgePart_83 : decode b_Dr_judgePart 83 = .ok (.iload_n 2, 1) := by decide +kernel
theorem d_Dr_judgePart_84 : decode b_Dr_judgePart 84 = .ok (.iaload, 1) := by decide +kernel
theorem d_Dr_judgePart_85 : decode b_Dr_judgePart 85 = .ok (.aload_n 0, 1) := by decide +kernel
theorem d_Dr_judgePart_86 : decode b_Dr_judgePart 86 = .ok (.getfield 21, 3) := by decide +kernel
theorem d_Dr_judgePart_89 : decode b_Dr_judgePart 89 = .ok (.getfield 114, 3) := by decide +kernel
theorem d_Dr_judgePart_92 : decode b_Dr_judgePart 92 = .ok (.iload_n 2, 1) := by decide +kernel
theorem d_Dr_judgePart_93 : decode b_Dr_judgePart 93 = .ok (.iaload, 1) := by decide +kernel
theorem d_Dr_judgePart_94 : decode b_Dr_judgePart 94 = .ok (.invokevirtual 120, 3) := by decide +kernel
theorem d_Dr_judgePart_97 : decode b_Dr_judgePart 97 = .ok (.iinc 2 1, 3) := by decide +kernel
theorem d_Dr_judgePart_100 : decode b_Dr_judgePart 100 = .ok (.goto (-50), 3) := by decide +kernel
theorem d_Dr_judgePart_103 : decode b_Dr_judgePart 103 = .ok (.return_, 1) := by decide +kernel
abbrev b_Dr_addFault : ByteArray := prog_3_method_6_code
def y_Dr_addFault : MethodName := ⟨"ProgramDesk$Draft", "addFault", "(II)V"⟩
theorem d_Dr_addFault_0 : decode b_Dr_addFault 0 = .ok (.aload_n 0, 1) := by decide +kernel
theorem d_Dr_addFault_1 : decode b_Dr_addFault 1 = .ok (.getfield 99, 3) := by decide +kernel
theorem d_Dr_addFault_4 : decode b_Dr_addFault 4 = .ok (.aload_n 0, 1) := by decide +kernel
theorem d_Dr_addFault_5 : decode b_Dr_addFault 5 = .ok (.getfield 66, 3) := by decide +kernel
theorem d_Dr_addFault_8 : decode b_Dr_addFault 8 = .ok (.arraylength, 1) := by decide +kernel
theorem d_Dr_addFault_9 : decode b_Dr_addFault 9 = .ok (.if_icmp .ge 28, 3) := by decide +kernel
theorem d_Dr_addFault_12 : decode b_Dr_addFault 12 = .ok (.aload_n 0, 1) := by decide +kernel
theorem d_Dr_addFault_13 : decode b_Dr_addFault 13 = .ok (.getfield 66, 3) := by decide +kernel
theorem d_Dr_addFault_16 : decode b_Dr_addFault 16 = .ok (.aload_n 0, 1) := by decide +kernel
theorem d_Dr_addFault_17 : decode b_Dr_addFault 17 = .ok (.getfield 99, 3) := by decide +kernel
theorem d_Dr_addFault_20 : decode b_Dr_addFault 20 = .ok (.iload_n 1, 1) := by decide +kernel
theorem d_Dr_addFault_21 : decode b_Dr_addFault 21 = .ok (.bipush 8, 2) := by decide +kernel
theorem d_Dr_addFault_23 : decode b_Dr_addFault 23 = .ok (.iload_n 2, 1) := by decide +kernel
theorem d_Dr_addFault_24 : decode b_Dr_addFault 24 = .ok (.imul, 1) := by decide +kernel
theorem d_Dr_addFault_25 : decode b_Dr_addFault 25 = .ok (.iadd, 1) := by decide +kernel
theorem d_Dr_addFault_26 : decode b_Dr_addFault 26 = .ok (.iastore, 1) := by decide +kernel
theorem d_Dr_addFault_27 : decode b_Dr_addFault 27 = .ok (.aload_n 0, 1) := by decide +kernel
theorem d_Dr_addFault_28 : decode b_Dr_addFault 28 = .ok (.dup, 1) := by decide +kernel
theorem d_Dr_addFault_29 : decode b_Dr_addFault 29 = .ok (.getfield 99, 3) := by decide +kernel
theorem d_Dr_addFault_32 : decode b_Dr_addFault 32 = .ok (.iconst 1, 1) := by decide +kernel
theorem d_Dr_addFault_33 : decode b_Dr_addFault 33 = .ok (.iadd, 1) := by decide +kernel
theorem d_Dr_addFault_34 : decode b_Dr_addFault 34 = .ok (.putfield 99, 3) := by decide +kernel
theorem d_Dr_addFault_37 : decode b_Dr_addFault 37 = .ok (.return_, 1) := by decide +kernel
abbrev b_Dr_declarationAt : ByteArray := prog_3_method_7_code
def y_Dr_declarationAt : MethodName := ⟨"ProgramDesk$Draft", "declarationAt", "(I)I"⟩
theorem d_Dr_declarationAt_0 : decode b_Dr_declarationAt 0 = .ok (.aload_n 0, 1) := by decide +kernel
theorem d_Dr_declarationAt_1 : decode b_Dr_declarationAt 1 = .ok (.getfield 21, 3) := by decide +kernel
theorem d_Dr_declarationAt_4 : decode b_Dr_declarationAt 4 = .ok (.iload_n 1, 1) := by decide +kernel
theorem d_Dr_declarationAt_5 : decode b_Dr_declarationAt 5 = .ok (.invokevirtual 130, 3) := by decide +kernel
theorem d_Dr_declarationAt_8 : decode b_Dr_declarationAt 8 = .ok (.istore_n 2, 1) := by decide +kernel
theorem d_Dr_declarationAt_9 : decode b_Dr_declarationAt 9 = .ok (.iload_n 2, 1) := by decide +kernel
theorem d_Dr_declarationAt_10 : decode b_Dr_declarationAt 10 = .ok (.iconst (-1), 1) := by decide +kernel
theorem d_Dr_declarationAt_11 : decode b_Dr_declarationAt 11 = .ok (.if_icmp .ne 7, 3) := by decide +kernel
theorem d_Dr_declarationAt_14 : decode b_Dr_declarationAt 14 = .ok (.iconst (-1), 1) := by decide +kernel
theorem d_Dr_declarationAt_15 : decode b_Dr_declarationAt 15 = .ok (.goto 12, 3) := by decide +kernel
theorem d_Dr_declarationAt_18 : decode b_Dr_declarationAt 18 = .ok (.aload_n 0, 1) := by decide +kernel
theorem d_Dr_declarationAt_19 : decode b_Dr_declarationAt 19 = .ok (.getfield 39, 3) := by decide +kernel
theorem d_Dr_declarationAt_22 : decode b_Dr_declarationAt 22 = .ok (.getfield 133, 3) := by decide +kernel
theorem d_Dr_declarationAt_25 : decode b_Dr_declarationAt 25 = .ok (.iload_n 2, 1) := by decide +kernel
theorem d_Dr_declarationAt_26 : decode b_Dr_declarationAt 26 = .ok (.iaload, 1) := by decide +kernel
theorem d_Dr_declarationAt_27 : decode b_Dr_declarationAt 27 = .ok (.ireturn, 1) := by decide +kernel
abbrev b_Dr_referencesOf : ByteArray := prog_3_method_8_code
def y_Dr_referencesOf : MethodName := ⟨"ProgramDesk$Draft", "referencesOf", "(I)I"⟩
theorem d_Dr_referencesOf_0 : decode b_Dr_referencesOf 0 = .ok (.iconst 0, 1) := by decide +kernel
theorem d_Dr_referencesOf_1 : decode b_Dr_referencesOf 1 = .ok (.istore_n 2, 1) := by decide +kernel
theorem d_Dr_referencesOf_2 : decode b_Dr_referencesOf 2 = .ok (.iconst 0, 1) := by decide +kernel
theorem d_Dr_referencesOf_3 : decode b_Dr_referencesOf 3 = .ok (.istore_n 3, 1) := by decide +kernel
theorem d_Dr_referencesOf_4 : decode b_Dr_referencesOf 4 = .ok (.iload_n 3, 1) := by decide +kernel
theorem d_Dr_referencesOf_5 : decode b_Dr_referencesOf 5 = .ok (.aload_n 0, 1) := by decide +kernel
theorem d_Dr_referencesOf_6 : decode b_Dr_referencesOf 6 = .ok (.getfield 21, 3) := by decide +kernel
theorem d_Dr_referencesOf_9 : decode b_Dr_referencesOf 9 = .ok (.getfield 106, 3) := by decide +kernel
theorem d_Dr_referencesOf_12 : decode b_Dr_referencesOf 12 = .ok (.if_icmp .ge 25, 3) := by decide +kernel
theorem d_Dr_referencesOf_15 : decode b_Dr_referencesOf 15 = .ok (.aload_n 0, 1) := by decide +kernel
theorem d_Dr_referencesOf_16 : decode b_Dr_referencesOf 16 = .ok (.getfield 39, 3) := by decide +kernel
theorem d_Dr_referencesOf_19 : decode b_Dr_referencesOf 19 = .ok (.getfield 133, 3) := by decide +kernel
theorem d_Dr_referencesOf_22 : decode b_Dr_referencesOf 22 = .ok (.iload_n 3, 1) := by decide +kernel
theorem d_Dr_referencesOf_23 : decode b_Dr_referencesOf 23 = .ok (.iaload, 1) := by decide +kernel
theorem d_Dr_referencesOf_24 : decode b_Dr_referencesOf 24 = .ok (.iload_n 1, 1) := by decide +kernel
theorem d_Dr_referencesOf_25 : decode b_Dr_referencesOf 25 = .ok (.if_icmp .ne 6, 3) := by decide +kernel
theorem d_Dr_referencesOf_28 : decode b_Dr_referencesOf 28 = .ok (.iinc 2 1, 3) := by decide +kernel
theorem d_Dr_referencesOf_31 : decode b_Dr_referencesOf 31 = .ok (.iinc 3 1, 3) := by decide +kernel
theorem d_Dr_referencesOf_34 : decode b_Dr_referencesOf 34 = .ok (.goto (-30), 3) := by decide +kernel
theorem d_Dr_referencesOf_37 : decode b_Dr_referencesOf 37 = .ok (.iload_n 2, 1) := by decide +kernel
theorem d_Dr_referencesOf_38 : decode b_Dr_referencesOf 38 = .ok (.ireturn, 1) := by decide +kernel
abbrev b_Dr_meansTheSameAs : ByteArray := prog_3_method_9_code
def y_Dr_meansTheSameAs : MethodName := ⟨"ProgramDesk$Draft", "meansTheSameAs", "(LProgramDesk$Draft;)Z"⟩
theorem d_Dr_meansTheSameAs_0 : decode b_Dr_meansTheSameAs 0 = .ok (.iconst 0, 1) := by decide +kernel
theorem d_Dr_meansTheSameAs_1 : decode b_Dr_meansTheSameAs 1 = .ok (.istore_n 2, 1) := by decide +kernel
theorem d_Dr_meansTheSameAs_2 : decode b_Dr_meansTheSameAs 2 = .ok (.iload_n 2, 1) := by decide +kernel
theorem d_Dr_meansTheSameAs_3 : decode b_Dr_meansTheSameAs 3 = .ok (.aload_n 0, 1) := by decide +kernel
theorem d_Dr_meansTheSameAs_4 : decode b_Dr_meansTheSameAs 4 = .ok (.getfield 21, 3) := by decide +kernel
theorem d_Dr_meansTheSameAs_7 : decode b_Dr_meansTheSameAs 7 = .ok (.getfield 106, 3) := by decide +kernel
theorem d_Dr_meansTheSameAs_10 : decode b_Dr_meansTheSameAs 10 = .ok (.if_icmp .ge 32, 3) := by decide +kernel
theorem d_Dr_meansTheSameAs_13 : decode b_Dr_meansTheSameAs 13 = .ok (.aload_n 0, 1) := by decide +kernel
theorem d_Dr_meansTheSameAs_14 : decode b_Dr_meansTheSameAs 14 = .ok (.getfield 39, 3) := by decide +kernel
theorem d_Dr_meansTheSameAs_17 : decode b_Dr_meansTheSameAs 17 = .ok (.getfield 133, 3) := by decide +kernel
theorem d_Dr_meansTheSameAs_20 : decode b_Dr_meansTheSameAs 20 = .ok (.iload_n 2, 1) := by decide +kernel
theorem d_Dr_meansTheSameAs_21 : decode b_Dr_meansTheSameAs 21 = .ok (.iaload, 1) := by decide +kernel
theorem d_Dr_meansTheSameAs_22 : decode b_Dr_meansTheSameAs 22 = .ok (.aload_n 1, 1) := by decide +kernel
theorem d_Dr_meansTheSameAs_23 : decode b_Dr_meansTheSameAs 23 = .ok (.getfield 39, 3) := by decide +kernel
theorem d_Dr_meansTheSameAs_26 : decode b_Dr_meansTheSameAs 26 = .ok (.getfield 133, 3) := by decide +kernel
theorem d_Dr_meansTheSameAs_29 : decode b_Dr_meansTheSameAs 29 = .ok (.iload_n 2, 1) := by decide +kernel
theorem d_Dr_meansTheSameAs_30 : decode b_Dr_meansTheSameAs 30 = .ok (.iaload, 1) := by decide +kernel
theorem d_Dr_meansTheSameAs_31 : decode b_Dr_meansTheSameAs 31 = .ok (.if_icmp .eq 5, 3) := by decide +kernel
theorem d_Dr_meansTheSameAs_34 : decode b_Dr_meansTheSameAs 34 = .ok (.iconst 0, 1) := by decide +kernel
theorem d_Dr_meansTheSameAs_35 : decode b_Dr_meansTheSameAs 35 = .ok (.ireturn, 1) := by decide +kernel
theorem d_Dr_meansTheSameAs_36 : decode b_Dr_meansTheSameAs 36 = .ok (.iinc 2 1, 3) := by decide +kernel
theorem d_Dr_meansTheSameAs_39 : decode b_Dr_meansTheSameAs 39 = .ok (.goto (-37), 3) := by decide +kernel
theorem d_Dr_meansTheSameAs_42 : decode b_Dr_meansTheSameAs 42 = .ok (.aload_n 0, 1) := by decide +kernel
theorem d_Dr_meansTheSameAs_43 : decode b_Dr_meansTheSameAs 43 = .ok (.getfield 30, 3) := by decide +kernel
theorem d_Dr_meansTheSameAs_46 : decode b_Dr_meansTheSameAs 46 = .ok (.getstatic 136, 3) := by decide +kernel
theorem d_Dr_meansTheSameAs_49 : decode b_Dr_meansTheSameAs 49 = .ok (.bipush 6, 2) := by decide +kernel
theorem d_Dr_meansTheSameAs_51 : decode b_Dr_meansTheSameAs 51 = .ok (.iaload, 1) := by decide +kernel
theorem d_Dr_meansTheSameAs_52 : decode b_Dr_meansTheSameAs 52 = .ok (.invokevirtual 139, 3) := by decide +kernel
theorem d_Dr_meansTheSameAs_55 : decode b_Dr_meansTheSameAs 55 = .ok (.aload_n 1, 1) := by decide +kernel
theorem d_Dr_meansTheSameAs_56 : decode b_Dr_meansTheSameAs 56 = .ok (.getfield 30, 3) := by decide +kernel
theorem d_Dr_meansTheSameAs_59 : decode b_Dr_meansTheSameAs 59 = .ok (.getstatic 136, 3) := by decide +kernel
theorem d_Dr_meansTheSameAs_62 : decode b_Dr_meansTheSameAs 62 = .ok (.bipush 6, 2) := by decide +kernel
theorem d_Dr_meansTheSameAs_64 : decode b_Dr_meansTheSameAs 64 = .ok (.iaload, 1) := by decide +kernel
theorem d_Dr_meansTheSameAs_65 : decode b_Dr_meansTheSameAs 65 = .ok (.invokevirtual 139, 3) := by decide +kernel
theorem d_Dr_meansTheSameAs_68 : decode b_Dr_meansTheSameAs 68 = .ok (.if_icmp .ne 7, 3) := by decide +kernel
theorem d_Dr_meansTheSameAs_71 : decode b_Dr_meansTheSameAs 71 = .ok (.iconst 1, 1) := by decide +kernel
theorem d_Dr_meansTheSameAs_72 : decode b_Dr_meansTheSameAs 72 = .ok (.goto 4, 3) := by decide +kernel
theorem d_Dr_meansTheSameAs_75 : decode b_Dr_meansTheSameAs 75 = .ok (.iconst 0, 1) := by decide +kernel
theorem d_Dr_meansTheSameAs_76 : decode b_Dr_meansTheSameAs 76 = .ok (.ireturn, 1) := by decide +kernel
abbrev b_Dr_copyRenamed : ByteArray := prog_3_method_10_code
def y_Dr_copyRenamed : MethodName := ⟨"ProgramDesk$Draft", "copyRenamed", "(LProgramDesk$Draft;II)V"⟩
theorem d_Dr_copyRenamed_0 : decode b_Dr_copyRenamed 0 = .ok (.aload_n 0, 1) := by decide +kernel
theorem d_Dr_copyRenamed_1 : decode b_Dr_copyRenamed 1 = .ok (.iconst 0, 1) := by decide +kernel
theorem d_Dr_copyRenamed_2 : decode b_Dr_copyRenamed 2 = .ok (.putfield 69, 3) := by decide +kernel
theorem d_Dr_copyRenamed_5 : decode b_Dr_copyRenamed 5 = .ok (.aload_n 0, 1) := by decide +kernel
theorem d_Dr_copyRenamed_6 : decode b_Dr_copyRenamed 6 = .ok (.getfield 12, 3) := by decide +kernel
theorem d_Dr_copyRenamed_9 : decode b_Dr_copyRenamed 9 = .ok (.iconst 0, 1) := by decide +kernel
theorem d_Dr_copyRenamed_10 : decode b_Dr_copyRenamed 10 = .ok (.putfield 142, 3) := by decide +kernel
theorem d_Dr_copyRenamed_13 : decode b_Dr_copyRenamed 13 = .ok (.iconst 0, 1) := by decide +kernel
theorem d_Dr_copyRenamed_14 : decode b_Dr_copyRenamed 14 = .ok (.istore 4, 2) := by decide +kernel
theorem d_Dr_copyRenamed_16 : decode b_Dr_copyRenamed 16 = .ok (.iconst 0, 1) := by decide +kernel
theorem d_Dr_copyRenamed_17 : decode b_Dr_copyRenamed 17 = .ok (.istore 5, 2) := by decide +kernel
theorem d_Dr_copyRenamed_19 : decode b_Dr_copyRenamed 19 = .ok (.iload 5, 2) := by decide +kernel
theorem d_Dr_copyRenamed_21 : decode b_Dr_copyRenamed 21 = .ok (.aload_n 1, 1) := by decide +kernel
theorem d_Dr_copyRenamed_22 : decode b_Dr_copyRenamed 22 = .ok (.getfield 21, 3) := by decide +kernel
theorem d_Dr_copyRenamed_25 : decode b_Dr_copyRenamed 25 = .ok (.getfield 106, 3) := by decide +kernel
theorem d_Dr_copyRenamed_28 : decode b_Dr_copyRenamed 28 = .ok (.if_icmp .ge 66, 3) := by decide +kernel
theorem d_Dr_copyRenamed_31 : decode b_Dr_copyRenamed 31 = .ok (.aload_n 1, 1) := by decide +kernel
theorem d_Dr_copyRenamed_32 : decode b_Dr_copyRenamed 32 = .ok (.getfield 39, 3) := by decide +kernel
theorem d_Dr_copyRenamed_35 : decode b_Dr_copyRenamed 35 = .ok (.getfield 133, 3) := by decide +kernel
theorem d_Dr_copyRenamed_38 : decode b_Dr_copyRenamed 38 = .ok (.iload 5, 2) := by decide +kernel
theorem d_Dr_copyRenamed_40 : decode b_Dr_copyRenamed 40 = .ok (.iaload, 1) := by decide +kernel
theorem d_Dr_copyRenamed_41 : decode b_Dr_copyRenamed 41 = .ok (.iload_n 2, 1) := by decide +kernel
theorem d_Dr_copyRenamed_42 : decode b_Dr_copyRenamed 42 = .ok (.if_icmp .ne 46, 3) := by decide +kernel
theorem d_Dr_copyRenamed_45 : decode b_Dr_copyRenamed 45 = .ok (.aload_n 0, 1) := by decide +kernel
theorem d_Dr_copyRenamed_46 : decode b_Dr_copyRenamed 46 = .ok (.getfield 12, 3) := by decide +kernel
theorem d_Dr_copyRenamed_49 : decode b_Dr_copyRenamed 49 = .ok (.aload_n 1, 1) := by decide +kernel
theorem d_Dr_copyRenamed_50 : decode b_Dr_copyRenamed 50 = .ok (.getfield 12, 3) := by decide +kernel
theorem d_Dr_copyRenamed_53 : decode b_Dr_copyRenamed 53 = .ok (.iload 4, 2) := by decide +kernel
theorem d_Dr_copyRenamed_55 : decode b_Dr_copyRenamed 55 = .ok (.aload_n 1, 1) := by decide +kernel
theorem d_Dr_copyRenamed_56 : decode b_Dr_copyRenamed 56 = .ok (.getfield 21, 3) := by decide +kernel
theorem d_Dr_copyRenamed_59 : decode b_Dr_copyRenamed 59 = .ok (.getfield 114, 3) := by decide +kernel
theorem d_Dr_copyRenamed_62 : decode b_Dr_copyRenamed 62 = .ok (.iload 5, 2) := by decide +kernel
theorem d_Dr_copyRenamed_64 : decode b_Dr_copyRenamed 64 = .ok (.iaload, 1) := by decide +kernel
theorem d_Dr_copyRenamed_65 : decode b_Dr_copyRenamed 65 = .ok (.invokevirtual 145, 3) := by decide +kernel
theorem d_Dr_copyRenamed_68 : decode b_Dr_copyRenamed 68 = .ok (.aload_n 0, 1) := by decide +kernel
theorem d_Dr_copyRenamed_69 : decode b_Dr_copyRenamed 69 = .ok (.getfield 12, 3) := by decide +kernel
theorem d_Dr_copyRenamed_72 : decode b_Dr_copyRenamed 72 = .ok (.iload_n 3, 1) := by decide +kernel
theorem d_Dr_copyRenamed_73 : decode b_Dr_copyRenamed 73 = .ok (.invokevirtual 149, 3) := by decide +kernel
theorem d_Dr_copyRenamed_76 : decode b_Dr_copyRenamed 76 = .ok (.aload_n 1, 1) := by decide +kernel
theorem d_Dr_copyRenamed_77 : decode b_Dr_copyRenamed 77 = .ok (.getfield 21, 3) := by decide +kernel
theorem d_Dr_copyRenamed_80 : decode b_Dr_copyRenamed 80 = .ok (.getfield 117, 3) := by decide +kernel
theorem d_Dr_copyRenamed_83 : decode b_Dr_copyRenamed 83 = .ok (.iload 5, 2) := by decide +kernel
theorem d_Dr_copyRenamed_85 : decode b_Dr_copyRenamed 85 = .ok (.iaload, 1) := by decide +kernel
theorem d_Dr_copyRenamed_86 : decode b_Dr_copyRenamed 86 = .ok (.istore 4, 2) := by decide +kernel
theorem d_Dr_copyRenamed_88 : decode b_Dr_copyRenamed 88 = .ok (.iinc 5 1, 3) := by decide +kernel
theorem d_Dr_copyRenamed_91 : decode b_Dr_copyRenamed 91 = .ok (.goto (-72), 3) := by decide +kernel
theorem d_Dr_copyRenamed_94 : decode b_Dr_copyRenamed 94 = .ok (.aload_n 0, 1) := by decide +kernel
theorem d_Dr_copyRenamed_95 : decode b_Dr_copyRenamed 95 = .ok (.getfield 12, 3) := by decide +kernel
theorem d_Dr_copyRenamed_98 : decode b_Dr_copyRenamed 98 = .ok (.aload_n 1, 1) := by decide +kernel
theorem d_Dr_copyRenamed_99 : decode b_Dr_copyRenamed 99 = .ok (.getfield 12, 3) := by decide +kernel
theorem d_Dr_copyRenamed_102 : decode b_Dr_copyRenamed 102 = .ok (.iload 4, 2) := by decide +kernel
theorem d_Dr_copyRenamed_104 : decode b_Dr_copyRenamed 104 = .ok (.aload_n 1, 1) := by decide +kernel
theorem d_Dr_copyRenamed_105 : decode b_Dr_copyRenamed 105 = .ok (.getfield 12, 3) := by decide +kernel
theorem d_Dr_copyRenamed_108 : decode b_Dr_copyRenamed 108 = .ok (.getfield 142, 3) := by decide +kernel
theorem d_Dr_copyRenamed_111 : decode b_Dr_copyRenamed 111 = .ok (.invokevirtual 145, 3) := by decide +kernel
theorem d_Dr_copyRenamed_114 : decode b_Dr_copyRenamed 114 = .ok (.return_, 1) := by decide +kernel
abbrev b_Dr_sizeInlined : ByteArray := prog_3_method_11_code
def y_Dr_sizeInlined : MethodName := ⟨"ProgramDesk$Draft", "sizeInlined", "(II)I"⟩
theorem d_Dr_sizeInlined_0 : decode b_Dr_sizeInlined 0 = .ok (.aload_n 0, 1) := by decide +kernel
theorem d_Dr_sizeInlined_1 : decode b_Dr_sizeInlined 1 = .ok (.getfield 39, 3) := by decide +kernel
theorem d_Dr_sizeInlined_4 : decode b_Dr_sizeInlined 4 = .ok (.iload_n 1, 1) := by decide +kernel
theorem d_Dr_sizeInlined_5 : decode b_Dr_sizeInlined 5 = .ok (.invokevirtual 152, 3) := by decide +kernel
theorem d_Dr_sizeInlined_8 : decode b_Dr_sizeInlined 8 = .ok (.istore_n 3, 1) := by decide +kernel
theorem d_Dr_sizeInlined_9 : decode b_Dr_sizeInlined 9 = .ok (.aload_n 0, 1) := by decide +kernel
theorem d_Dr_sizeInlined_10 : decode b_Dr_sizeInlined 10 = .ok (.getfield 21, 3) := by decide +kernel
theorem d_Dr_sizeInlined_13 : decode b_Dr_sizeInlined 13 = .ok (.getfield 117, 3) := by decide +kernel
theorem d_Dr_sizeInlined_16 : decode b_Dr_sizeInlined 16 = .ok (.iload_n 3, 1) := by decide +kernel
theorem d_Dr_sizeInlined_17 : decode b_Dr_sizeInlined 17 = .ok (.iaload, 1) := by decide +kernel
theorem d_Dr_sizeInlined_18 : decode b_Dr_sizeInlined 18 = .ok (.aload_n 0, 1) := by decide +kernel
theorem d_Dr_sizeInlined_19 : decode b_Dr_sizeInlined 19 = .ok (.getfield 21, 3) := by decide +kernel
theorem d_Dr_sizeInlined_22 : decode b_Dr_sizeInlined 22 = .ok (.getfield 114, 3) := by decide +kernel
theorem d_Dr_sizeInlined_25 : decode b_Dr_sizeInlined 25 = .ok (.iload_n 1, 1) := by decide +kernel
theorem d_Dr_sizeInlined_26 : decode b_Dr_sizeInlined 26 = .ok (.iconst 1, 1) := by decide +kernel
theorem d_Dr_sizeInlined_27 : decode b_Dr_sizeInlined 27 = .ok (.isub, 1) := by decide +kernel
theorem d_Dr_sizeInlined_28 : decode b_Dr_sizeInlined 28 = .ok (.iaload, 1) := by decide +kernel
theorem d_Dr_sizeInlined_29 : decode b_Dr_sizeInlined 29 = .ok (.isub, 1) := by decide +kernel
theorem d_Dr_sizeInlined_30 : decode b_Dr_sizeInlined 30 = .ok (.istore 4, 2) := by decide +kernel
theorem d_Dr_sizeInlined_32 : decode b_Dr_sizeInlined 32 = .ok (.aload_n 0, 1) := by decide +kernel
theorem d_Dr_sizeInlined_33 : decode b_Dr_sizeInlined 33 = .ok (.getfield 21, 3) := by decide +kernel
theorem d_Dr_sizeInlined_36 : decode b_Dr_sizeInlined 36 = .ok (.getfield 117, 3) := by decide +kernel
theorem d_Dr_sizeInlined_39 : decode b_Dr_sizeInlined 39 = .ok (.iload_n 3, 1) := by decide +kernel
theorem d_Dr_sizeInlined_40 : decode b_Dr_sizeInlined 40 = .ok (.iconst 1, 1) := by decide +kernel
theorem d_Dr_sizeInlined_41 : decode b_Dr_sizeInlined 41 = .ok (.isub, 1) := by decide +kernel
theorem d_Dr_sizeInlined_42 : decode b_Dr_sizeInlined 42 = .ok (.iaload, 1) := by decide +kernel
theorem d_Dr_sizeInlined_43 : decode b_Dr_sizeInlined 43 = .ok (.aload_n 0, 1) := by decide +kernel
theorem d_Dr_sizeInlined_44 : decode b_Dr_sizeInlined 44 = .ok (.getfield 21, 3) := by decide +kernel
theorem d_Dr_sizeInlined_47 : decode b_Dr_sizeInlined 47 = .ok (.getfield 114, 3) := by decide +kernel
theorem d_Dr_sizeInlined_50 : decode b_Dr_sizeInlined 50 = .ok (.aload_n 0, 1) := by decide +kernel
theorem d_Dr_sizeInlined_51 : decode b_Dr_sizeInlined 51 = .ok (.getfield 39, 3) := by decide +kernel
theorem d_Dr_sizeInlined_54 : decode b_Dr_sizeInlined 54 = .ok (.iload_n 1, 1) := by decide +kernel
theorem d_Dr_sizeInlined_55 : decode b_Dr_sizeInlined 55 = .ok (.invokevirtual 155, 3) := by decide +kernel
theorem d_Dr_sizeInlined_58 : decode b_Dr_sizeInlined 58 = .ok (.iaload, 1) := by decide +kernel
theorem d_Dr_sizeInlined_59 : decode b_Dr_sizeInlined 59 = .ok (.isub, 1) := by decide +kernel
theorem d_Dr_sizeInlined_60 : decode b_Dr_sizeInlined 60 = .ok (.istore 5, 2) := by decide +kernel
theorem d_Dr_sizeInlined_62 : decode b_Dr_sizeInlined 62 = .ok (.aload_n 0, 1) := by decide +kernel
theorem d_Dr_sizeInlined_63 : decode b_Dr_sizeInlined 63 = .ok (.getfield 21, 3) := by decide +kernel
theorem d_Dr_sizeInlined_66 : decode b_Dr_sizeInlined 66 = .ok (.getfield 117, 3) := by decide +kernel
theorem d_Dr_sizeInlined_69 : decode b_Dr_sizeInlined 69 = .ok (.iload_n 1, 1) := by decide +kernel
theorem d_Dr_sizeInlined_70 : decode b_Dr_sizeInlined 70 = .ok (.iaload, 1) := by decide +kernel
theorem d_Dr_sizeInlined_71 : decode b_Dr_sizeInlined 71 = .ok (.aload_n 0, 1) := by decide +kernel
theorem d_Dr_sizeInlined_72 : decode b_Dr_sizeInlined 72 = .ok (.getfield 21, 3) := by decide +kernel
theorem d_Dr_sizeInlined_75 : decode b_Dr_sizeInlined 75 = .ok (.getfield 114, 3) := by decide +kernel
theorem d_Dr_sizeInlined_78 : decode b_Dr_sizeInlined 78 = .ok (.iload_n 1, 1) := by decide +kernel
theorem d_Dr_sizeInlined_79 : decode b_Dr_sizeInlined 79 = .ok (.iaload, 1) := by decide +kernel
theorem d_Dr_sizeInlined_80 : decode b_Dr_sizeInlined 80 = .ok (.isub, 1) := by decide +kernel
theorem d_Dr_sizeInlined_81 : decode b_Dr_sizeInlined 81 = .ok (.istore 6, 2) := by decide +kernel
theorem d_Dr_sizeInlined_83 : decode b_Dr_sizeInlined 83 = .ok (.aload_n 0, 1) := by decide +kernel
theorem d_Dr_sizeInlined_84 : decode b_Dr_sizeInlined 84 = .ok (.getfield 12, 3) := by decide +kernel
theorem d_Dr_sizeInlined_87 : decode b_Dr_sizeInlined 87 = .ok (.getfield 142, 3) := by decide +kernel
theorem d_Dr_sizeInlined_90 : decode b_Dr_sizeInlined 90 = .ok (.iload 4, 2) := by decide +kernel
theorem d_Dr_sizeInlined_92 : decode b_Dr_sizeInlined 92 = .ok (.isub, 1) := by decide +kernel
theorem d_Dr_sizeInlined_93 : decode b_Dr_sizeInlined 93 = .ok (.iload_n 2, 1) := by decide +kernel
theorem d_Dr_sizeInlined_94 : decode b_Dr_sizeInlined 94 = .ok (.iload 5, 2) := by decide +kernel
theorem d_Dr_sizeInlined_96 : decode b_Dr_sizeInlined 96 = .ok (.iconst 2, 1) := by decide +kernel
theorem d_Dr_sizeInlined_97 : decode b_Dr_sizeInlined 97 = .ok (.iadd, 1) := by decide +kernel
theorem d_Dr_sizeInlined_98 : decode b_Dr_sizeInlined 98 = .ok (.iload 6, 2) := by decide +kernel
theorem d_Dr_sizeInlined_100 : decode b_Dr_sizeInlined 100 = .ok (.isub, 1) := by decide +kernel
theorem d_Dr_sizeInlined_101 : decode b_Dr_sizeInlined 101 = .ok (.imul, 1) := by decide +kernel
theorem d_Dr_sizeInlined_102 : decode b_Dr_sizeInlined 102 = .ok (.iadd, 1) := by decide +kernel
theorem d_Dr_sizeInlined_103 : decode b_Dr_sizeInlined 103 = .ok (.ireturn, 1) := by decide +kernel
abbrev b_Dr_copyInlined : ByteArray := prog_3_method_12_code
def y_Dr_copyInlined : MethodName := ⟨"ProgramDesk$Draft", "copyInlined", "(LProgramDesk$Draft;I)V"⟩
theorem d_Dr_copyInlined_0 : decode b_Dr_copyInlined 0 = .ok (.aload_n 0, 1) := by decide +kernel
theorem d_Dr_copyInlined_1 : decode b_Dr_copyInlined 1 = .ok (.iconst 0, 1) := by decide +kernel
theorem d_Dr_copyInlined_2 : decode b_Dr_copyInlined 2 = .ok (.putfield 69, 3) := by decide +kernel
theorem d_Dr_copyInlined_5 : decode b_Dr_copyInlined 5 = .ok (.aload_n 1, 1) := by decide +kernel
theorem d_Dr_copyInlined_6 : decode b_Dr_copyInlined 6 = .ok (.getfield 39, 3) := by decide +kernel
theorem d_Dr_copyInlined_9 : decode b_Dr_copyInlined 9 = .ok (.iload_n 2, 1) := by decide +kernel
theorem d_Dr_copyInlined_10 : decode b_Dr_copyInlined 10 = .ok (.invokevirtual 152, 3) := by decide +kernel
theorem d_Dr_copyInlined_13 : decode b_Dr_copyInlined 13 = .ok (.istore_n 3, 1) := by decide +kernel
theorem d_Dr_copyInlined_14 : decode b_Dr_copyInlined 14 = .ok (.aload_n 1, 1) := by decide +kernel
theorem d_Dr_copyInlined_15 : decode b_Dr_copyInlined 15 = .ok (.getfield 21, 3) := by decide +kernel
theorem d_Dr_copyInlined_18 : decode b_Dr_copyInlined 18 = .ok (.getfield 114, 3) := by decide +kernel
theorem d_Dr_copyInlined_21 : decode b_Dr_copyInlined 21 = .ok (.aload_n 1, 1) := by decide +kernel
theorem d_Dr_copyInlined_22 : decode b_Dr_copyInlined 22 = .ok (.getfield 39, 3) := by decide +kernel
theorem d_Dr_copyInlined_25 : decode b_Dr_copyInlined 25 = .ok (.iload_n 2, 1) := by decide +kernel
theorem d_Dr_copyInlined_26 : decode b_Dr_copyInlined 26 = .ok (.invokevirtual 155, 3) := by decide +kernel
theorem d_Dr_copyInlined_29 : decode b_Dr_copyInlined 29 = .ok (.iaload, 1) := by decide +kernel
theorem d_Dr_copyInlined_30 : decode b_Dr_copyInlined 30 = .ok (.istore 4, 2) := by decide +kernel
theorem d_Dr_copyInlined_32 : decode b_Dr_copyInlined 32 = .ok (.aload_n 1, 1) := by decide +kernel
theorem d_Dr_copyInlined_33 : decode b_Dr_copyInlined 33 = .ok (.getfield 21, 3) := by decide +kernel
theorem d_Dr_copyInlined_36 : decode b_Dr_copyInlined 36 = .ok (.getfield 117, 3) := by decide +kernel
theorem d_Dr_copyInlined_39 : decode b_Dr_copyInlined 39 = .ok (.iload_n 3, 1) := by decide +kernel
theorem d_Dr_copyInlined_40 : decode b_Dr_copyInlined 40 = .ok (.iconst 1, 1) := by decide +kernel
theorem d_Dr_copyInlined_41 : decode b_Dr_copyInlined 41 = .ok (.isub, 1) := by decide +kernel
theorem d_Dr_copyInlined_42 : decode b_Dr_copyInlined 42 = .ok (.iaload, 1) := by decide +kernel
theorem d_Dr_copyInlined_43 : decode b_Dr_copyInlined 43 = .ok (.istore 5, 2) := by decide +kernel
theorem d_Dr_copyInlined_45 : decode b_Dr_copyInlined 45 = .ok (.aload_n 0, 1) := by decide +kernel
theorem d_Dr_copyInlined_46 : decode b_Dr_copyInlined 46 = .ok (.getfield 12, 3) := by decide +kernel
theorem d_Dr_copyInlined_49 : decode b_Dr_copyInlined 49 = .ok (.iconst 0, 1) := by decide +kernel
theorem d_Dr_copyInlined_50 : decode b_Dr_copyInlined 50 = .ok (.putfield 142, 3) := by decide +kernel
theorem d_Dr_copyInlined_53 : decode b_Dr_copyInlined 53 = .ok (.aload_n 0, 1) := by decide +kernel
theorem d_Dr_copyInlined_54 : decode b_Dr_copyInlined 54 = .ok (.getfield 12, 3) := by decide +kernel
theorem d_Dr_copyInlined_57 : decode b_Dr_copyInlined 57 = .ok (.aload_n 1, 1) := by decide +kernel
theorem d_Dr_copyInlined_58 : decode b_Dr_copyInlined 58 = .ok (.getfield 12, 3) := by decide +kernel
theorem d_Dr_copyInlined_61 : decode b_Dr_copyInlined 61 = .ok (.iconst 0, 1) := by decide +kernel
theorem d_Dr_copyInlined_62 : decode b_Dr_copyInlined 62 = .ok (.aload_n 1, 1) := by decide +kernel
theorem d_Dr_copyInlined_63 : decode b_Dr_copyInlined 63 = .ok (.getfield 21, 3) := by decide +kernel
theorem d_Dr_copyInlined_66 : decode b_Dr_copyInlined 66 = .ok (.getfield 114, 3) := by decide +kernel
theorem d_Dr_copyInlined_69 : decode b_Dr_copyInlined 69 = .ok (.iload_n 2, 1) := by decide +kernel
theorem d_Dr_copyInlined_70 : decode b_Dr_copyInlined 70 = .ok (.iconst 1, 1) := by decide +kernel
theorem d_Dr_copyInlined_71 : decode b_Dr_copyInlined 71 = .ok (.isub, 1) := by decide +kernel
theorem d_Dr_copyInlined_72 : decode b_Dr_copyInlined 72 = .ok (.iaload, 1) := by decide +kernel
theorem d_Dr_copyInlined_73 : decode b_Dr_copyInlined 73 = .ok (.invokevirtual 145, 3) := by decide +kernel
theorem d_Dr_copyInlined_76 : decode b_Dr_copyInlined 76 = .ok (.aload_n 1, 1) := by decide +kernel
theorem d_Dr_copyInlined_77 : decode b_Dr_copyInlined 77 = .ok (.getfield 21, 3) := by decide +kernel
theorem d_Dr_copyInlined_80 : decode b_Dr_copyInlined 80 = .ok (.getfield 117, 3) := by decide +kernel
theorem d_Dr_copyInlined_83 : decode b_Dr_copyInlined 83 = .ok (.iload_n 3, 1) := by decide +kernel
theorem d_Dr_copyInlined_84 : decode b_Dr_copyInlined 84 = .ok (.iaload, 1) := by decide +kernel
theorem d_Dr_copyInlined_85 : decode b_Dr_copyInlined 85 = .ok (.istore 6, 2) := by decide +kernel
theorem d_Dr_copyInlined_87 : decode b_Dr_copyInlined 87 = .ok (.iload_n 3, 1) := by decide +kernel
theorem d_Dr_copyInlined_88 : decode b_Dr_copyInlined 88 = .ok (.istore 7, 2) := by decide +kernel
theorem d_Dr_copyInlined_90 : decode b_Dr_copyInlined 90 = .ok (.iload 7, 2) := by decide +kernel
theorem d_Dr_copyInlined_92 : decode b_Dr_copyInlined 92 = .ok (.aload_n 1, 1) := by decide +kernel
theorem d_Dr_copyInlined_93 : decode b_Dr_copyInlined 93 = .ok (.getfield 21, 3) := by decide +kernel
theorem d_Dr_copyInlined_96 : decode b_Dr_copyInlined 96 = .ok (.getfield 106, 3) := by decide +kernel
theorem d_Dr_copyInlined_99 : decode b_Dr_copyInlined 99 = .ok (.if_icmp .ge 91, 3) := by decide +kernel
theorem d_Dr_copyInlined_102 : decode b_Dr_copyInlined 102 = .ok (.aload_n 1, 1) := by decide +kernel
theorem d_Dr_copyInlined_103 : decode b_Dr_copyInlined 103 = .ok (.getfield 39, 3) := by decide +kernel
theorem d_Dr_copyInlined_106 : decode b_Dr_copyInlined 106 = .ok (.getfield 133, 3) := by decide +kernel
theorem d_Dr_copyInlined_109 : decode b_Dr_copyInlined 109 = .ok (.iload 7, 2) := by decide +kernel
theorem d_Dr_copyInlined_111 : decode b_Dr_copyInlined 111 = .ok (.iaload, 1) := by decide +kernel
theorem d_Dr_copyInlined_112 : decode b_Dr_copyInlined 112 = .ok (.iload_n 2, 1) := by decide +kernel
theorem d_Dr_copyInlined_113 : decode b_Dr_copyInlined 113 = .ok (.if_icmp .ne 71, 3) := by decide +kernel
theorem d_Dr_copyInlined_116 : decode b_Dr_copyInlined 116 = .ok (.aload_n 0, 1) := by decide +kernel
theorem d_Dr_copyInlined_117 : decode b_Dr_copyInlined 117 = .ok (.getfield 12, 3) := by decide +kernel
theorem d_Dr_copyInlined_120 : decode b_Dr_copyInlined 120 = .ok (.aload_n 1, 1) := by decide +kernel
theorem d_Dr_copyInlined_121 : decode b_Dr_copyInlined 121 = .ok (.getfield 12, 3) := by decide +kernel
theorem d_Dr_copyInlined_124 : decode b_Dr_copyInlined 124 = .ok (.iload 6, 2) := by decide +kernel
theorem d_Dr_copyInlined_126 : decode b_Dr_copyInlined 126 = .ok (.aload_n 1, 1) := by decide +kernel
theorem d_Dr_copyInlined_127 : decode b_Dr_copyInlined 127 = .ok (.getfield 21, 3) := by decide +kernel
theorem d_Dr_copyInlined_130 : decode b_Dr_copyInlined 130 = .ok (.getfield 114, 3) := by decide +kernel
theorem d_Dr_copyInlined_133 : decode b_Dr_copyInlined 133 = .ok (.iload 7, 2) := by decide +kernel
theorem d_Dr_copyInlined_135 : decode b_Dr_copyInlined 135 = .ok (.iaload, 1) := by decide +kernel
theorem d_Dr_copyInlined_136 : decode b_Dr_copyInlined 136 = .ok (.invokevirtual 145, 3) := by decide +kernel
theorem d_Dr_copyInlined_139 : decode b_Dr_copyInlined 139 = .ok (.aload_n 0, 1) := by decide +kernel
theorem d_Dr_copyInlined_140 : decode b_Dr_copyInlined 140 = .ok (.getfield 12, 3) := by decide +kernel
theorem d_Dr_copyInlined_143 : decode b_Dr_copyInlined 143 = .ok (.bipush 40, 2) := by decide +kernel
theorem d_Dr_copyInlined_145 : decode b_Dr_copyInlined 145 = .ok (.invokevirtual 158, 3) := by decide +kernel
theorem d_Dr_copyInlined_148 : decode b_Dr_copyInlined 148 = .ok (.aload_n 0, 1) := by decide +kernel
theorem d_Dr_copyInlined_149 : decode b_Dr_copyInlined 149 = .ok (.getfield 12, 3) := by decide +kernel
theorem d_Dr_copyInlined_152 : decode b_Dr_copyInlined 152 = .ok (.aload_n 1, 1) := by decide +kernel
theorem d_Dr_copyInlined_153 : decode b_Dr_copyInlined 153 = .ok (.getfield 12, 3) := by decide +kernel
theorem d_Dr_copyInlined_156 : decode b_Dr_copyInlined 156 = .ok (.iload 4, 2) := by decide +kernel
theorem d_Dr_copyInlined_158 : decode b_Dr_copyInlined 158 = .ok (.iload 5, 2) := by decide +kernel
theorem d_Dr_copyInlined_160 : decode b_Dr_copyInlined 160 = .ok (.invokevirtual 145, 3) := by decide +kernel
theorem d_Dr_copyInlined_163 : decode b_Dr_copyInlined 163 = .ok (.aload_n 0, 1) := by decide +kernel
theorem d_Dr_copyInlined_164 : decode b_Dr_copyInlined 164 = .ok (.getfield 12, 3) := by decide +kernel
theorem d_Dr_copyInlined_167 : decode b_Dr_copyInlined 167 = .ok (.bipush 41, 2) := by decide +kernel
theorem d_Dr_copyInlined_169 : decode b_Dr_copyInlined 169 = .ok (.invokevirtual 158, 3) := by decide +kernel
theorem d_Dr_copyInlined_172 : decode b_Dr_copyInlined 172 = .ok (.aload_n 1, 1) := by decide +kernel
theorem d_Dr_copyInlined_173 : decode b_Dr_copyInlined 173 = .ok (.getfield 21, 3) := by decide +kernel
theorem d_Dr_copyInlined_176 : decode b_Dr_copyInlined 176 = .ok (.getfield 117, 3) := by decide +kernel
theorem d_Dr_copyInlined_179 : decode b_Dr_copyInlined 179 = .ok (.iload 7, 2) := by decide +kernel
theorem d_Dr_copyInlined_181 : decode b_Dr_copyInlined 181 = .ok (.iaload, 1) := by decide +kernel
theorem d_Dr_copyInlined_182 : decode b_Dr_copyInlined 182 = .ok (.istore 6, 2) := by decide +kernel
theorem d_Dr_copyInlined_184 : decode b_Dr_copyInlined 184 = .ok (.iinc 7 1, 3) := by decide +kernel
theorem d_Dr_copyInlined_187 : decode b_Dr_copyInlined 187 = .ok (.goto (-97), 3) := by decide +kernel
theorem d_Dr_copyInlined_190 : decode b_Dr_copyInlined 190 = .ok (.aload_n 0, 1) := by decide +kernel
theorem d_Dr_copyInlined_191 : decode b_Dr_copyInlined 191 = .ok (.getfield 12, 3) := by decide +kernel
theorem d_Dr_copyInlined_194 : decode b_Dr_copyInlined 194 = .ok (.aload_n 1, 1) := by decide +kernel
theorem d_Dr_copyInlined_195 : decode b_Dr_copyInlined 195 = .ok (.getfield 12, 3) := by decide +kernel
theorem d_Dr_copyInlined_198 : decode b_Dr_copyInlined 198 = .ok (.iload 6, 2) := by decide +kernel
theorem d_Dr_copyInlined_200 : decode b_Dr_copyInlined 200 = .ok (.aload_n 1, 1) := by decide +kernel
theorem d_Dr_copyInlined_201 : decode b_Dr_copyInlined 201 = .ok (.getfield 12, 3) := by decide +kernel
theorem d_Dr_copyInlined_204 : decode b_Dr_copyInlined 204 = .ok (.getfield 142, 3) := by decide +kernel
theorem d_Dr_copyInlined_207 : decode b_Dr_copyInlined 207 = .ok (.invokevirtual 145, 3) := by decide +kernel
theorem d_Dr_copyInlined_210 : decode b_Dr_copyInlined 210 = .ok (.return_, 1) := by decide +kernel
abbrev b_Fn_init : ByteArray := prog_4_method_1_code
def y_Fn_init : MethodName := ⟨"ProgramDesk$Functions", "<init>", "(LProgramDesk$Tokens;)V"⟩
theorem d_Fn_init_0 : decode b_Fn_init 0 = .ok (.aload_n 0, 1) := by decide +kernel
theorem d_Fn_init_1 : decode b_Fn_init 1 = .ok (.invokespecial 3, 3) := by decide +kernel
theorem d_Fn_init_4 : decode b_Fn_init 4 = .ok (.aload_n 0, 1) := by decide +kernel
theorem d_Fn_init_5 : decode b_Fn_init 5 = .ok (.iconst 4, 1) := by decide +kernel
theorem d_Fn_init_6 : decode b_Fn_init 6 = .ok (.newarray .int, 2) := by decide +kernel
theorem d_Fn_init_8 : decode b_Fn_init 8 = .ok (.putfield 11, 3) := by decide +kernel
theorem d_Fn_init_11 : decode b_Fn_init 11 = .ok (.aload_n 0, 1) := by decide +kernel
theorem d_Fn_init_12 : decode b_Fn_init 12 = .ok (.iconst 4, 1) := by decide +kernel
theorem d_Fn_init_13 : decode b_Fn_init 13 = .ok (.newarray .int, 2) := by decide +kernel
theorem d_Fn_init_15 : decode b_Fn_init 15 = .ok (.putfield 15, 3) := by decide +kernel
theorem d_Fn_init_18 : decode b_Fn_init 18 = .ok (.aload_n 0, 1) := by decide +kernel
theorem d_Fn_init_19 : decode b_Fn_init 19 = .ok (.iconst 4, 1) := by decide +kernel
theorem d_Fn_init_20 : decode b_Fn_init 20 = .ok (.newarray .int, 2) := by decide +kernel
theorem d_Fn_init_22 : decode b_Fn_init 22 = .ok (.putfield 18, 3) := by decide +kernel
theorem d_Fn_init_25 : decode b_Fn_init 25 = .ok (.aload_n 0, 1) := by decide +kernel
theorem d_Fn_init_26 : decode b_Fn_init 26 = .ok (.aload_n 1, 1) := by decide +kernel
theorem d_Fn_init_27 : decode b_Fn_init 27 = .ok (.putfield 21, 3) := by decide +kernel
theorem d_Fn_init_30 : decode b_Fn_init 30 = .ok (.return_, 1) := by decide +kernel
abbrev b_Fn_add : ByteArray := prog_4_method_2_code
def y_Fn_add : MethodName := ⟨"ProgramDesk$Functions", "add", "(III)V"⟩
theorem d_Fn_add_0 : decode b_Fn_add 0 = .ok (.aload_n 0, 1) := by decide +kernel
theorem d_Fn_add_1 : decode b_Fn_add 1 = .ok (.getfield 25, 3) := by decide +kernel
theorem d_Fn_add_4 : decode b_Fn_add 4 = .ok (.iconst 4, 1) := by decide +kernel
theorem d_Fn_add_5 : decode b_Fn_add 5 = .ok (.if_icmp .ge 43, 3) := by decide +kernel
theorem d_Fn_add_8 : decode b_Fn_add 8 = .ok (.aload_n 0, 1) := by decide +kernel
theorem d_Fn_add_9 : decode b_Fn_add 9 = .ok (.getfield 11, 3) := by decide +kernel
theorem d_Fn_add_12 : decode b_Fn_add 12 = .ok (.aload_n 0, 1) := by decide +kernel
theorem d_Fn_add_13 : decode b_Fn_add 13 = .ok (.getfield 25, 3) := by decide +kernel
theorem d_Fn_add_16 : decode b_Fn_add 16 = .ok (.iload_n 1, 1) := by decide +kernel
theorem d_Fn_add_17 : decode b_Fn_add 17 = .ok (.iastore, 1) := by decide +kernel
theorem d_Fn_add_18 : decode b_Fn_add 18 = .ok (.aload_n 0, 1) := by decide +kernel
theorem d_Fn_add_19 : decode b_Fn_add 19 = .ok (.getfield 15, 3) := by decide +kernel
theorem d_Fn_add_22 : decode b_Fn_add 22 = .ok (.aload_n 0, 1) := by decide +kernel
theorem d_Fn_add_23 : decode b_Fn_add 23 = .ok (.getfield 25, 3) := by decide +kernel
theorem d_Fn_add_26 : decode b_Fn_add 26 = .ok (.iload_n 2, 1) := by decide +kernel
theorem d_Fn_add_27 : decode b_Fn_add 27 = .ok (.iastore, 1) := by decide +kernel
theorem d_Fn_add_28 : decode b_Fn_add 28 = .ok (.aload_n 0, 1) := by decide +kernel
theorem d_Fn_add_29 : decode b_Fn_add 29 = .ok (.getfield 18, 3) := by decide +kernel
theorem d_Fn_add_32 : decode b_Fn_add 32 = .ok (.aload_n 0, 1) := by decide +kernel
theorem d_Fn_add_33 : decode b_Fn_add 33 = .ok (.getfield 25, 3) := by decide +kernel
theorem d_Fn_add_36 : decode b_Fn_add 36 = .ok (.iload_n 3, 1) := by decide +kernel
theorem d_Fn_add_37 : decode b_Fn_add 37 = .ok (.iastore, 1) := by decide +kernel
theorem d_Fn_add_38 : decode b_Fn_add 38 = .ok (.aload_n 0, 1) := by decide +kernel
theorem d_Fn_add_39 : decode b_Fn_add 39 = .ok (.dup, 1) := by decide +kernel
theorem d_Fn_add_40 : decode b_Fn_add 40 = .ok (.getfield 25, 3) := by decide +kernel
theorem d_Fn_add_43 : decode b_Fn_add 43 = .ok (.iconst 1, 1) := by decide +kernel
theorem d_Fn_add_44 : decode b_Fn_add 44 = .ok (.iadd, 1) := by decide +kernel
theorem d_Fn_add_45 : decode b_Fn_add 45 = .ok (.putfield 25, 3) := by decide +kernel
theorem d_Fn_add_48 : decode b_Fn_add 48 = .ok (.return_, 1) := by decide +kernel
abbrev b_Fn_find : ByteArray := prog_4_method_3_code
def y_Fn_find : MethodName := ⟨"ProgramDesk$Functions", "find", "(I)I"⟩
theorem d_Fn_find_0 : decode b_Fn_find 0 = .ok (.iconst 0, 1) := by decide +kernel
theorem d_Fn_find_1 : decode b_Fn_find 1 = .ok (.istore_n 2, 1) := by decide +kernel
theorem d_Fn_find_2 : decode b_Fn_find 2 = .ok (.iload_n 2, 1) := by decide +kernel
theorem d_Fn_find_3 : decode b_Fn_find 3 = .ok (.aload_n 0, 1) := by decide +kernel
theorem d_Fn_find_4 : decode b_Fn_find 4 = .ok (.getfield 25, 3) := by decide +kernel
theorem d_Fn_find_7 : decode b_Fn_find 7 = .ok (.if_icmp .ge 29, 3) := by decide +kernel
theorem d_Fn_find_10 : decode b_Fn_find 10 = .ok (.aload_n 0, 1) := by decide +kernel
theorem d_Fn_find_11 : decode b_Fn_find 11 = .ok (.getfield 21, 3) := by decide +kernel
theorem d_Fn_find_14 : decode b_Fn_find 14 = .ok (.getfield 29, 3) := by decide +kernel
theorem d_Fn_find_17 : decode b_Fn_find 17 = .ok (.aload_n 0, 1) := by decide +kernel
theorem d_Fn_find_18 : decode b_Fn_find 18 = .ok (.getfield 11, 3) := by decide +kernel
theorem d_Fn_find_21 : decode b_Fn_find 21 = .ok (.iload_n 2, 1) := by decide +kernel
theorem d_Fn_find_22 : decode b_Fn_find 22 = .ok (.iaload, 1) := by decide +kernel
theorem d_Fn_find_23 : decode b_Fn_find 23 = .ok (.iaload, 1) := by decide +kernel
theorem d_Fn_find_24 : decode b_Fn_find 24 = .ok (.iload_n 1, 1) := by decide +kernel
theorem d_Fn_find_25 : decode b_Fn_find 25 = .ok (.if_icmp .ne 5, 3) := by decide +kernel
theorem d_Fn_find_28 : decode b_Fn_find 28 = .ok (.iload_n 2, 1) := by decide +kernel
theorem d_Fn_find_29 : decode b_Fn_find 29 = .ok (.ireturn, 1) := by decide +kernel
theorem d_Fn_find_30 : decode b_Fn_find 30 = .ok (.iinc 2 1, 3) := by decide +kernel
theorem d_Fn_find_33 : decode b_Fn_find 33 = .ok (.goto (-31), 3) := by decide +kernel
theorem d_Fn_find_36 : decode b_Fn_find 36 = .ok (.iconst (-1), 1) := by decide +kernel
theorem d_Fn_find_37 : decode b_Fn_find 37 = .ok (.ireturn, 1) := by decide +kernel
abbrev b_Fn_isFirst : ByteArray := prog_4_method_4_code
def y_Fn_isFirst : MethodName := ⟨"ProgramDesk$Functions", "isFirst", "(I)Z"⟩
theorem d_Fn_isFirst_0 : decode b_Fn_isFirst 0 = .ok (.aload_n 0, 1) := by decide +kernel
theorem d_Fn_isFirst_1 : decode b_Fn_isFirst 1 = .ok (.aload_n 0, 1) := by decide +kernel
theorem d_Fn_isFirst_2 : decode b_Fn_isFirst 2 = .ok (.getfield 21, 3) := by decide +kernel
theorem d_Fn_isFirst_5 : decode b_Fn_isFirst 5 = .ok (.getfield 29, 3) := by decide +kernel
theorem d_Fn_isFirst_8 : decode b_Fn_isFirst 8 = .ok (.iload_n 1, 1) := by decide +kernel
theorem d_Fn_isFirst_9 : decode b_Fn_isFirst 9 = .ok (.iaload, 1) := by decide +kernel
theorem d_Fn_isFirst_10 : decode b_Fn_isFirst 10 = .ok (.invokevirtual 34, 3) := by decide +kernel
theorem d_Fn_isFirst_13 : decode b_Fn_isFirst 13 = .ok (.istore_n 2, 1) := by decide +kernel
theorem d_Fn_isFirst_14 : decode b_Fn_isFirst 14 = .ok (.iload_n 2, 1) := by decide +kernel
theorem d_Fn_isFirst_15 : decode b_Fn_isFirst 15 = .ok (.iconst (-1), 1) := by decide +kernel
theorem d_Fn_isFirst_16 : decode b_Fn_isFirst 16 = .ok (.if_icmp .eq 17, 3) := by decide +kernel
theorem d_Fn_isFirst_19 : decode b_Fn_isFirst 19 = .ok (.aload_n 0, 1) := by decide +kernel
theorem d_Fn_isFirst_20 : decode b_Fn_isFirst 20 = .ok (.getfield 11, 3) := by decide +kernel
theorem d_Fn_isFirst_23 : decode b_Fn_isFirst 23 = .ok (.iload_n 2, 1) := by decide +kernel
theorem d_Fn_isFirst_24 : decode b_Fn_isFirst 24 = .ok (.iaload, 1) := by decide +kernel
theorem d_Fn_isFirst_25 : decode b_Fn_isFirst 25 = .ok (.iload_n 1, 1) := by decide +kernel
theorem d_Fn_isFirst_26 : decode b_Fn_isFirst 26 = .ok (.if_icmp .ne 7, 3) := by decide +kernel
theorem d_Fn_isFirst_29 : decode b_Fn_isFirst 29 = .ok (.iconst 1, 1) := by decide +kernel
theorem d_Fn_isFirst_30 : decode b_Fn_isFirst 30 = .ok (.goto 4, 3) := by decide +kernel
theorem d_Fn_isFirst_33 : decode b_Fn_isFirst 33 = .ok (.iconst 0, 1) := by decide +kernel
theorem d_Fn_isFirst_34 : decode b_Fn_isFirst 34 = .ok (.ireturn, 1) := by decide +kernel
abbrev b_Gr_init : ByteArray := prog_5_method_1_code
def y_Gr_init : MethodName := ⟨"ProgramDesk$Grammar", "<init>", "(LProgramDesk$Tokens;LProgramDesk$Names;LProgramDesk$Functions;LProgramDesk$Code;)V"⟩
theorem d_Gr_init_0 : decode b_Gr_init 0 = .ok (.aload_n 0, 1) := by decide +kernel
theorem d_Gr_init_1 : decode b_Gr_init 1 = .ok (.invokespecial 3, 3) := by decide +kernel
theorem d_Gr_init_4 : decode b_Gr_init 4 = .ok (.aload_n 0, 1) := by decide +kernel
theorem d_Gr_init_5 : decode b_Gr_init 5 = .ok (.iconst 4, 1) := by decide +kernel
theorem d_Gr_init_6 : decode b_Gr_init 6 = .ok (.newarray .int, 2) := by decide +kernel
theorem d_Gr_init_8 : decode b_Gr_init 8 = .ok (.putfield 11, 3) := by decide +kernel
theorem d_Gr_init_11 : decode b_Gr_init 11 = .ok (.aload_n 0, 1) := by decide +kernel
theorem d_Gr_init_12 : decode b_Gr_init 12 = .ok (.iconst 4, 1) := by decide +kernel
theorem d_Gr_init_13 : decode b_Gr_init 13 = .ok (.newarray .int, 2) := by decide +kernel
theorem d_Gr_init_15 : decode b_Gr_init 15 = .ok (.putfield 15, 3) := by decide +kernel
theorem d_Gr_init_18 : decode b_Gr_init 18 = .ok (.aload_n 0, 1) := by decide +kernel
theorem d_Gr_init_19 : decode b_Gr_init 19 = .ok (.iconst 4, 1) := by decide +kernel
theorem d_Gr_init_20 : decode b_Gr_init 20 = .ok (.newarray .int, 2) := by decide +kernel
theorem d_Gr_init_22 : decode b_Gr_init 22 = .ok (.putfield 18, 3) := by decide +kernel
theorem d_Gr_init_25 : decode b_Gr_init 25 = .ok (.aload_n 0, 1) := by decide +kernel
theorem d_Gr_init_26 : decode b_Gr_init 26 = .ok (.aload_n 1, 1) := by decide +kernel
theorem d_Gr_init_27 : decode b_Gr_init 27 = .ok (.putfield 21, 3) := by decide +kernel
theorem d_Gr_init_30 : decode b_Gr_init 30 = .ok (.aload_n 0, 1) := by decide +kernel
theorem d_Gr_init_31 : decode b_Gr_init 31 = .ok (.aload_n 2, 1) := by decide +kernel
theorem d_Gr_init_32 : decode b_Gr_init 32 = .ok (.putfield 25, 3) := by decide +kernel
theorem d_Gr_init_35 : decode b_Gr_init 35 = .ok (.aload_n 0, 1) := by decide +kernel
theorem d_Gr_init_36 : decode b_Gr_init 36 = .ok (.aload_n 3, 1) := by decide +kernel
theorem d_Gr_init_37 : decode b_Gr_init 37 = .ok (.putfield 29, 3) := by decide +kernel
theorem d_Gr_init_40 : decode b_Gr_init 40 = .ok (.aload_n 0, 1) := by decide +kernel
theorem d_Gr_init_41 : decode b_Gr_init 41 = .ok (.aload 4, 2) := by decide +kernel
theorem d_Gr_init_43 : decode b_Gr_init 43 = .ok (.putfield 33, 3) := by decide +kernel
theorem d_Gr_init_46 : decode b_Gr_init 46 = .ok (.return_, 1) := by decide +kernel
abbrev b_Gr_readFunction : ByteArray := prog_5_method_2_code
def y_Gr_readFunction : MethodName := ⟨"ProgramDesk$Grammar", "readFunction", "(II)Z"⟩
theorem d_Gr_readFunction_0 : decode b_Gr_readFunction 0 = .ok (.aload_n 0, 1) := by decide +kernel
theorem d_Gr_readFunction_1 : decode b_Gr_readFunction 1 = .ok (.iload_n 1, 1) := by decide +kernel
theorem d_Gr_readFunction_2 : decode b_Gr_readFunction 2 = .ok (.putfield 37, 3) := by decide +kernel
theorem d_Gr_readFunction_5 : decode b_Gr_readFunction 5 = .ok (.aload_n 0, 1) := by decide +kernel
theorem d_Gr_readFunction_6 : decode b_Gr_readFunction 6 = .ok (.iload_n 2, 1) := by decide +kernel
theorem d_Gr_readFunction_7 : decode b_Gr_readFunction 7 = .ok (.putfield 41, 3) := by decide +kernel
theorem d_Gr_readFunction_10 : decode b_Gr_readFunction 10 = .ok (.aload_n 0, 1) := by decide +kernel
theorem d_Gr_readFunction_11 : decode b_Gr_readFunction 11 = .ok (.iconst 0, 1) := by decide +kernel
theorem d_Gr_readFunction_12 : decode b_Gr_readFunction 12 = .ok (.putfield 44, 3) := by decide +kernel
theorem d_Gr_readFunction_15 : decode b_Gr_readFunction 15 = .ok (.aload_n 0, 1) := by decide +kernel
theorem d_Gr_readFunction_16 : decode b_Gr_readFunction 16 = .ok (.getfield 33, 3) := by decide +kernel
theorem d_Gr_readFunction_19 : decode b_Gr_readFunction 19 = .ok (.getfield 47, 3) := by decide +kernel
theorem d_Gr_readFunction_22 : decode b_Gr_readFunction 22 = .ok (.istore_n 3, 1) := by decide +kernel
theorem d_Gr_readFunction_23 : decode b_Gr_readFunction 23 = .ok (.aload_n 0, 1) := by decide +kernel
theorem d_Gr_readFunction_24 : decode b_Gr_readFunction 24 = .ok (.getfield 21, 3) := by decide +kernel
theorem d_Gr_readFunction_27 : decode b_Gr_readFunction 27 = .ok (.iload_n 1, 1) := by decide +kernel
theorem d_Gr_readFunction_28 : decode b_Gr_readFunction 28 = .ok (.invokevirtual 52, 3) := by decide +kernel
theorem d_Gr_readFunction_31 : decode b_Gr_readFunction 31 = .ok (.ifCond .ne 5, 3) := by decide +kernel
theorem d_Gr_readFunction_34 : decode b_Gr_readFunction 34 = .ok (.iconst 0, 1) := by decide +kernel
theorem d_Gr_readFunction_35 : decode b_Gr_readFunction 35 = .ok (.ireturn, 1) := by decide +kernel
theorem d_Gr_readFunction_36 : decode b_Gr_readFunction 36 = .ok (.aload_n 0, 1) := by decide +kernel
theorem d_Gr_readFunction_37 : decode b_Gr_readFunction 37 = .ok (.dup, 1) := by decide +kernel
theorem d_Gr_readFunction_38 : decode b_Gr_readFunction 38 = .ok (.getfield 37, 3) := by decide +kernel
theorem d_Gr_readFunction_41 : decode b_Gr_readFunction 41 = .ok (.iconst 1, 1) := by decide +kernel
theorem d_Gr_readFunction_42 : decode b_Gr_readFunction 42 = .ok (.iadd, 1) := by decide +kernel
theorem d_Gr_readFunction_43 : decode b_Gr_readFunction 43 = .ok (.putfield 37, 3) := by decide +kernel
theorem d_Gr_readFunction_46 : decode b_Gr_readFunction 46 = .ok (.aload_n 0, 1) := by decide +kernel
theorem d_Gr_readFunction_47 : decode b_Gr_readFunction 47 = .ok (.iconst 1, 1) := by decide +kernel
theorem d_Gr_readFunction_48 : decode b_Gr_readFunction 48 = .ok (.invokevirtual 60, 3) := by decide +kernel
theorem d_Gr_readFunction_51 : decode b_Gr_readFunction 51 = .ok (.ifCond .ne 5, 3) := by decide +kernel
theorem d_Gr_readFunction_54 : decode b_Gr_readFunction 54 = .ok (.iconst 0, 1) := by decide +kernel
theorem d_Gr_readFunction_55 : decode b_Gr_readFunction 55 = .ok (.ireturn, 1) := by decide +kernel
theorem d_Gr_readFunction_56 : decode b_Gr_readFunction 56 = .ok (.aload_n 0, 1) := by decide +kernel
theorem d_Gr_readFunction_57 : decode b_Gr_readFunction 57 = .ok (.invokevirtual 63, 3) := by decide +kernel
theorem d_Gr_readFunction_60 : decode b_Gr_readFunction 60 = .ok (.istore 4, 2) := by decide +kernel
theorem d_Gr_readFunction_62 : decode b_Gr_readFunction 62 = .ok (.iload 4, 2) := by decide +kernel
theorem d_Gr_readFunction_64 : decode b_Gr_readFunction 64 = .ok (.iconst (-1), 1) := by decide +kernel
theorem d_Gr_readFunction_65 : decode b_Gr_readFunction 65 = .ok (.if_icmp .eq 12, 3) := by decide +kernel
theorem d_Gr_readFunction_68 : decode b_Gr_readFunction 68 = .ok (.aload_n 0, 1) := by decide +kernel
theorem d_Gr_readFunction_69 : decode b_Gr_readFunction 69 = .ok (.iconst 0, 1) := by decide +kernel
theorem d_Gr_readFunction_70 : decode b_Gr_readFunction 70 = .ok (.iconst (-1), 1) := by decide +kernel
theorem d_Gr_readFunction_71 : decode b_Gr_readFunction 71 = .ok (.invokevirtual 67, 3) := by decide +kernel
theorem d_Gr_readFunction_74 : decode b_Gr_readFunction 74 = .ok (.ifCond .ne 5, 3) := by decide +kernel
theorem d_Gr_readFunction_77 : decode b_Gr_readFunction 77 = .ok (.iconst 0, 1) := by decide +kernel
theorem d_Gr_readFunction_78 : decode b_Gr_readFunction 78 = .ok (.ireturn, 1) := by decide +kernel
theorem d_Gr_readFunction_79 : decode b_Gr_readFunction 79 = .ok (.iconst 0, 1) := by decide +kernel
theorem d_Gr_readFunction_80 : decode b_Gr_readFunction 80 = .ok (.istore 5, 2) := by decide +kernel
theorem d_Gr_readFunction_82 : decode b_Gr_readFunction 82 = .ok (.iload 5, 2) := by decide +kernel
theorem d_Gr_readFunction_84 : decode b_Gr_readFunction 84 = .ok (.sipush 240, 3) := by decide +kernel
theorem d_Gr_readFunction_87 : decode b_Gr_readFunction 87 = .ok (.if_icmp .ge 25, 3) := by decide +kernel
theorem d_Gr_readFunction_90 : decode b_Gr_readFunction 90 = .ok (.aload_n 0, 1) := by decide +kernel
theorem d_Gr_readFunction_91 : decode b_Gr_readFunction 91 = .ok (.getfield 44, 3) := by decide +kernel
theorem d_Gr_readFunction_94 : decode b_Gr_readFunction 94 = .ok (.ifCond .le 18, 3) := by decide +kernel
theorem d_Gr_readFunction_97 : decode b_Gr_readFunction 97 = .ok (.aload_n 0, 1) := by decide +kernel
theorem d_Gr_readFunction_98 : decode b_Gr_readFunction 98 = .ok (.invokevirtual 71, 3) := by decide +kernel
theorem d_Gr_readFunction_101 : decode b_Gr_readFunction 101 = .ok (.ifCond .ne 5, 3) := by decide +kernel
theorem d_Gr_readFunction_104 : decode b_Gr_readFunction 104 = .ok (.iconst 0, 1) := by decide +kernel
theorem d_Gr_readFunction_105 : decode b_Gr_readFunction 105 = .ok (.ireturn, 1) := by decide +kernel
theorem d_Gr_readFunction_106 : decode b_Gr_readFunction 106 = .ok (.iinc 5 1, 3) := by decide +kernel
theorem d_Gr_readFunction_109 : decode b_Gr_readFunction 109 = .ok (.goto (-27), 3) := by decide +kernel
theorem d_Gr_readFunction_112 : decode b_Gr_readFunction 112 = .ok (.aload_n 0, 1) := by decide +kernel
theorem d_Gr_readFunction_113 : decode b_Gr_readFunction 113 = .ok (.getfield 44, 3) := by decide +kernel
theorem d_Gr_readFunction_116 : decode b_Gr_readFunction 116 = .ok (.ifCond .gt 14, 3) := by decide +kernel
theorem d_Gr_readFunction_119 : decode b_Gr_readFunction 119 = .ok (.aload_n 0, 1) := by decide +kernel
theorem d_Gr_readFunction_120 : decode b_Gr_readFunction 120 = .ok (.getfield 37, 3) := by decide +kernel
theorem d_Gr_readFunction_123 : decode b_Gr_readFunction 123 = .ok (.aload_n 0, 1) := by decide +kernel
theorem d_Gr_readFunction_124 : decode b_Gr_readFunction 124 = .ok (.getfield 41, 3) := by decide +kernel
theorem d_Gr_readFunction_127 : decode b_Gr_readFunction 127 = .ok (.if_icmp .ge 5, 3) := by decide +kernel
theorem d_Gr_readFunction_130 : decode b_Gr_readFunction 130 = .ok (.iconst 0, 1) := by decide +kernel
theorem d_Gr_readFunction_131 : decode b_Gr_readFunction 131 = .ok (.ireturn, 1) := by decide +kernel
theorem d_Gr_readFunction_132 : decode b_Gr_readFunction 132 = .ok (.aload_n 0, 1) := by decide +kernel
theorem d_Gr_readFunction_133 : decode b_Gr_readFunction 133 = .ok (.getfield 33, 3) := by decide +kernel
theorem d_Gr_readFunction_136 : decode b_Gr_readFunction 136 = .ok (.iconst 0, 1) := by decide +kernel
theorem d_Gr_readFunction_137 : decode b_Gr_readFunction 137 = .ok (.iconst 0, 1) := by decide +kernel
theorem d_Gr_readFunction_138 : decode b_Gr_readFunction 138 = .ok (.invokevirtual 75, 3) := by decide +kernel
theorem d_Gr_readFunction_141 : decode b_Gr_readFunction 141 = .ok (.aload_n 0, 1) := by decide +kernel
theorem d_Gr_readFunction_142 : decode b_Gr_readFunction 142 = .ok (.getfield 33, 3) := by decide +kernel
theorem d_Gr_readFunction_145 : decode b_Gr_readFunction 145 = .ok (.bipush 8, 2) := by decide +kernel
theorem d_Gr_readFunction_147 : decode b_Gr_readFunction 147 = .ok (.iconst 0, 1) := by decide +kernel
theorem d_Gr_readFunction_148 : decode b_Gr_readFunction 148 = .ok (.invokevirtual 75, 3) := by decide +kernel
theorem d_Gr_readFunction_151 : decode b_Gr_readFunction 151 = .ok (.aload_n 0, 1) := by decide +kernel
theorem d_Gr_readFunction_152 : decode b_Gr_readFunction 152 = .ok (.getfield 29, 3) := by decide +kernel
theorem d_Gr_readFunction_155 : decode b_Gr_readFunction 155 = .ok (.iload_n 1, 1) := by decide +kernel
theorem d_Gr_readFunction_156 : decode b_Gr_readFunction 156 = .ok (.iconst 1, 1) := by decide +kernel
theorem d_Gr_readFunction_157 : decode b_Gr_readFunction 157 = .ok (.iadd, 1) := by decide +kernel
theorem d_Gr_readFunction_158 : decode b_Gr_readFunction 158 = .ok (.iload 4, 2) := by decide +kernel
theorem d_Gr_readFunction_160 : decode b_Gr_readFunction 160 = .ok (.iload_n 3, 1) := by decide +kernel
theorem d_Gr_readFunction_161 : decode b_Gr_readFunction 161 = .ok (.invokevirtual 79, 3) := by decide +kernel
theorem d_Gr_readFunction_164 : decode b_Gr_readFunction 164 = .ok (.iconst 1, 1) := by decide +kernel
theorem d_Gr_readFunction_165 : decode b_Gr_readFunction 165 = .ok (.ireturn, 1) := by decide +kernel
abbrev b_Gr_readParameters : ByteArray := prog_5_method_3_code
def y_Gr_readParameters : MethodName := ⟨"ProgramDesk$Grammar", "readParameters", "()I"⟩
theorem d_Gr_readParameters_0 : decode b_Gr_readParameters 0 = .ok (.aload_n 0, 1) := by decide +kernel
theorem d_Gr_readParameters_1 : decode b_Gr_readParameters 1 = .ok (.getfield 37, 3) := by decide +kernel
theorem d_Gr_readParameters_4 : decode b_Gr_readParameters 4 = .ok (.istore_n 1, 1) := by decide +kernel
theorem d_Gr_readParameters_5 : decode b_Gr_readParameters 5 = .ok (.aload_n 0, 1) := by decide +kernel
theorem d_Gr_readParameters_6 : decode b_Gr_readParameters 6 = .ok (.bipush 40, 2) := by decide +kernel
theorem d_Gr_readParameters_8 : decode b_Gr_readParameters 8 = .ok (.invokevirtual 84, 3) := by decide +kernel
theorem d_Gr_readParameters_11 : decode b_Gr_readParameters 11 = .ok (.ifCond .ne 5, 3) := by decide +kernel
theorem d_Gr_readParameters_14 : decode b_Gr_readParameters 14 = .ok (.iconst (-1), 1) := by decide +kernel
theorem d_Gr_readParameters_15 : decode b_Gr_readParameters 15 = .ok (.ireturn, 1) := by decide +kernel
theorem d_Gr_readParameters_16 : decode b_Gr_readParameters 16 = .ok (.aload_n 0, 1) := by decide +kernel
theorem d_Gr_readParameters_17 : decode b_Gr_readParameters 17 = .ok (.getfield 25, 3) := by decide +kernel
theorem d_Gr_readParameters_20 : decode b_Gr_readParameters 20 = .ok (.getfield 88, 3) := by decide +kernel
theorem d_Gr_readParameters_23 : decode b_Gr_readParameters 23 = .ok (.iload_n 1, 1) := by decide +kernel
theorem d_Gr_readParameters_24 : decode b_Gr_readParameters 24 = .ok (.aload_n 0, 1) := by decide +kernel
theorem d_Gr_readParameters_25 : decode b_Gr_readParameters 25 = .ok (.getfield 41, 3) := by decide +kernel
theorem d_Gr_readParameters_28 : decode b_Gr_readParameters 28 = .ok (.iastore, 1) := by decide +kernel
theorem d_Gr_readParameters_29 : decode b_Gr_readParameters 29 = .ok (.aload_n 0, 1) := by decide +kernel
theorem d_Gr_readParameters_30 : decode b_Gr_readParameters 30 = .ok (.bipush 41, 2) := by decide +kernel
theorem d_Gr_readParameters_32 : decode b_Gr_readParameters 32 = .ok (.invokevirtual 84, 3) := by decide +kernel
theorem d_Gr_readParameters_35 : decode b_Gr_readParameters 35 = .ok (.ifCond .eq 5, 3) := by decide +kernel
theorem d_Gr_readParameters_38 : decode b_Gr_readParameters 38 = .ok (.iconst 0, 1) := by decide +kernel
theorem d_Gr_readParameters_39 : decode b_Gr_readParameters 39 = .ok (.ireturn, 1) := by decide +kernel
theorem d_Gr_readParameters_40 : decode b_Gr_readParameters 40 = .ok (.iconst 1, 1) := by decide +kernel
theorem d_Gr_readParameters_41 : decode b_Gr_readParameters 41 = .ok (.istore_n 2, 1) := by decide +kernel
theorem d_Gr_readParameters_42 : decode b_Gr_readParameters 42 = .ok (.iload_n 2, 1) := by decide +kernel
theorem d_Gr_readParameters_43 : decode b_Gr_readParameters 43 = .ok (.sipush 240, 3) := by decide +kernel
theorem d_Gr_readParameters_46 : decode b_Gr_readParameters 46 = .ok (.if_icmp .gt 69, 3) := by decide +kernel
theorem d_Gr_readParameters_49 : decode b_Gr_readParameters 49 = .ok (.aload_n 0, 1) := by decide +kernel
theorem d_Gr_readParameters_50 : decode b_Gr_readParameters 50 = .ok (.getfield 37, 3) := by decide +kernel
theorem d_Gr_readParameters_53 : decode b_Gr_readParameters 53 = .ok (.istore_n 3, 1) := by decide +kernel
theorem d_Gr_readParameters_54 : decode b_Gr_readParameters 54 = .ok (.aload_n 0, 1) := by decide +kernel
theorem d_Gr_readParameters_55 : decode b_Gr_readParameters 55 = .ok (.iconst 2, 1) := by decide +kernel
theorem d_Gr_readParameters_56 : decode b_Gr_readParameters 56 = .ok (.invokevirtual 60, 3) := by decide +kernel
theorem d_Gr_readParameters_59 : decode b_Gr_readParameters 59 = .ok (.ifCond .ne 5, 3) := by decide +kernel
theorem d_Gr_readParameters_62 : decode b_Gr_readParameters 62 = .ok (.iconst (-1), 1) := by decide +kernel
theorem d_Gr_readParameters_63 : decode b_Gr_readParameters 63 = .ok (.ireturn, 1) := by decide +kernel
theorem d_Gr_readParameters_64 : decode b_Gr_readParameters 64 = .ok (.aload_n 0, 1) := by decide +kernel
theorem d_Gr_readParameters_65 : decode b_Gr_readParameters 65 = .ok (.getfield 25, 3) := by decide +kernel
theorem d_Gr_readParameters_68 : decode b_Gr_readParameters 68 = .ok (.getfield 91, 3) := by decide +kernel
theorem d_Gr_readParameters_71 : decode b_Gr_readParameters 71 = .ok (.iload_n 3, 1) := by decide +kernel
theorem d_Gr_readParameters_72 : decode b_Gr_readParameters 72 = .ok (.iload_n 1, 1) := by decide +kernel
theorem d_Gr_readParameters_73 : decode b_Gr_readParameters 73 = .ok (.iastore, 1) := by decide +kernel
theorem d_Gr_readParameters_74 : decode b_Gr_readParameters 74 = .ok (.aload_n 0, 1) := by decide +kernel
theorem d_Gr_readParameters_75 : decode b_Gr_readParameters 75 = .ok (.getfield 25, 3) := by decide +kernel
theorem d_Gr_readParameters_78 : decode b_Gr_readParameters 78 = .ok (.getfield 94, 3) := by decide +kernel
theorem d_Gr_readParameters_81 : decode b_Gr_readParameters 81 = .ok (.iload_n 3, 1) := by decide +kernel
theorem d_Gr_readParameters_82 : decode b_Gr_readParameters 82 = .ok (.aload_n 0, 1) := by decide +kernel
theorem d_Gr_readParameters_83 : decode b_Gr_readParameters 83 = .ok (.getfield 37, 3) := by decide +kernel
theorem d_Gr_readParameters_86 : decode b_Gr_readParameters 86 = .ok (.iastore, 1) := by decide +kernel
theorem d_Gr_readParameters_87 : decode b_Gr_readParameters 87 = .ok (.aload_n 0, 1) := by decide +kernel
theorem d_Gr_readParameters_88 : decode b_Gr_readParameters 88 = .ok (.bipush 41, 2) := by decide +kernel
theorem d_Gr_readParameters_90 : decode b_Gr_readParameters 90 = .ok (.invokevirtual 84, 3) := by decide +kernel
theorem d_Gr_readParameters_93 : decode b_Gr_readParameters 93 = .ok (.ifCond .eq 5, 3) := by decide +kernel
theorem d_Gr_readParameters_96 : decode b_Gr_readParameters 96 = .ok (.iload_n 2, 1) := by decide +kernel
theorem d_Gr_readParameters_97 : decode b_Gr_readParameters 97 = .ok (.ireturn, 1) := by decide +kernel
theorem d_Gr_readParameters_98 : decode b_Gr_readParameters 98 = .ok (.aload_n 0, 1) := by decide +kernel
theorem d_Gr_readParameters_99 : decode b_Gr_readParameters 99 = .ok (.bipush 44, 2) := by decide +kernel
theorem d_Gr_readParameters_101 : decode b_Gr_readParameters 101 = .ok (.invokevirtual 84, 3) := by decide +kernel
theorem d_Gr_readParameters_104 : decode b_Gr_readParameters 104 = .ok (.ifCond .ne 5, 3) := by decide +kernel
theorem d_Gr_readParameters_107 : decode b_Gr_readParameters 107 = .ok (.iconst (-1), 1) := by decide +kernel
theorem d_Gr_readParameters_108 : decode b_Gr_readParameters 108 = .ok (.ireturn, 1) := by decide +kernel
theorem d_Gr_readParameters_109 : decode b_Gr_readParameters 109 = .ok (.iinc 2 1, 3) := by decide +kernel
theorem d_Gr_readParameters_112 : decode b_Gr_readParameters 112 = .ok (.goto (-70), 3) := by decide +kernel
theorem d_Gr_readParameters_115 : decode b_Gr_readParameters 115 = .ok (.iconst (-1), 1) := by decide +kernel
theorem d_Gr_readParameters_116 : decode b_Gr_readParameters 116 = .ok (.ireturn, 1) := by decide +kernel
abbrev b_Gr_readStatement : ByteArray := prog_5_method_4_code
def y_Gr_readStatement : MethodName := ⟨"ProgramDesk$Grammar", "readStatement", "()Z"⟩
theorem d_Gr_readStatement_0 : decode b_Gr_readStatement 0 = .ok (.aload_n 0, 1) := by decide +kernel
theorem d_Gr_readStatement_1 : decode b_Gr_readStatement 1 = .ok (.bipush 125, 2) := by decide +kernel
theorem d_Gr_readStatement_3 : decode b_Gr_readStatement 3 = .ok (.invokevirtual 84, 3) := by decide +kernel
theorem d_Gr_readStatement_6 : decode b_Gr_readStatement 6 = .ok (.ifCond .eq 9, 3) := by decide +kernel
theorem d_Gr_readStatement_9 : decode b_Gr_readStatement 9 = .ok (.aload_n 0, 1) := by decide +kernel
theorem d_Gr_readStatement_10 : decode b_Gr_readStatement 10 = .ok (.invokevirtual 97, 3) := by decide +kernel
theorem d_Gr_readStatement_13 : decode b_Gr_readStatement 13 = .ok (.iconst 1, 1) := by decide +kernel
theorem d_Gr_readStatement_14 : decode b_Gr_readStatement 14 = .ok (.ireturn, 1) := by decide +kernel
theorem d_Gr_readStatement_15 : decode b_Gr_readStatement 15 = .ok (.aload_n 0, 1) := by decide +kernel
theorem d_Gr_readStatement_16 : decode b_Gr_readStatement 16 = .ok (.getfield 37, 3) := by decide +kernel
theorem d_Gr_readStatement_19 : decode b_Gr_readStatement 19 = .ok (.aload_n 0, 1) := by decide +kernel
theorem d_Gr_readStatement_20 : decode b_Gr_readStatement 20 = .ok (.getfield 41, 3) := by decide +kernel
theorem d_Gr_readStatement_23 : decode b_Gr_readStatement 23 = .ok (.if_icmp .lt 5, 3) := by decide +kernel
theorem d_Gr_readStatement_26 : decode b_Gr_readStatement 26 = .ok (.iconst 0, 1) := by decide +kernel
theorem d_Gr_readStatement_27 : decode b_Gr_readStatement 27 = .ok (.ireturn, 1) := by decide +kernel
theorem d_Gr_readStatement_28 : decode b_Gr_readStatement 28 = .ok (.aload_n 0, 1) := by decide +kernel
theorem d_Gr_readStatement_29 : decode b_Gr_readStatement 29 = .ok (.getfield 21, 3) := by decide +kernel
theorem d_Gr_readStatement_32 : decode b_Gr_readStatement 32 = .ok (.getfield 100, 3) := by decide +kernel
theorem d_Gr_readStatement_35 : decode b_Gr_readStatement 35 = .ok (.aload_n 0, 1) := by decide +kernel
theorem d_Gr_readStatement_36 : decode b_Gr_readStatement 36 = .ok (.getfield 37, 3) := by decide +kernel
theorem d_Gr_readStatement_39 : decode b_Gr_readStatement 39 = .ok (.iaload, 1) := by decide +kernel
theorem d_Gr_readStatement_40 : decode b_Gr_readStatement 40 = .ok (.iconst 2, 1) := by decide +kernel
theorem d_Gr_readStatement_41 : decode b_Gr_readStatement 41 = .ok (.if_icmp .ne 9, 3) := by decide +kernel
theorem d_Gr_readStatement_44 : decode b_Gr_readStatement 44 = .ok (.aload_n 0, 1) := by decide +kernel
theorem d_Gr_readStatement_45 : decode b_Gr_readStatement 45 = .ok (.iconst 5, 1) := by decide +kernel
theorem d_Gr_readStatement_46 : decode b_Gr_readStatement 46 = .ok (.invokevirtual 103, 3) := by decide +kernel
theorem d_Gr_readStatement_49 : decode b_Gr_readStatement 49 = .ok (.ireturn, 1) := by decide +kernel
theorem d_Gr_readStatement_50 : decode b_Gr_readStatement 50 = .ok (.aload_n 0, 1) := by decide +kernel
theorem d_Gr_readStatement_51 : decode b_Gr_readStatement 51 = .ok (.getfield 21, 3) := by decide +kernel
theorem d_Gr_readStatement_54 : decode b_Gr_readStatement 54 = .ok (.getfield 100, 3) := by decide +kernel
theorem d_Gr_readStatement_57 : decode b_Gr_readStatement 57 = .ok (.aload_n 0, 1) := by decide +kernel
theorem d_Gr_readStatement_58 : decode b_Gr_readStatement 58 = .ok (.getfield 37, 3) := by decide +kernel
theorem d_Gr_readStatement_61 : decode b_Gr_readStatement 61 = .ok (.iaload, 1) := by decide +kernel
theorem d_Gr_readStatement_62 : decode b_Gr_readStatement 62 = .ok (.iconst 1, 1) := by decide +kernel
theorem d_Gr_readStatement_63 : decode b_Gr_readStatement 63 = .ok (.if_icmp .eq 10, 3) := by decide +kernel
theorem d_Gr_readStatement_66 : decode b_Gr_readStatement 66 = .ok (.aload_n 0, 1) := by decide +kernel
theorem d_Gr_readStatement_67 : decode b_Gr_readStatement 67 = .ok (.iconst 0, 1) := by decide +kernel
theorem d_Gr_readStatement_68 : decode b_Gr_readStatement 68 = .ok (.iconst (-1), 1) := by decide +kernel
theorem d_Gr_readStatement_69 : decode b_Gr_readStatement 69 = .ok (.invokevirtual 67, 3) := by decide +kernel
theorem d_Gr_readStatement_72 : decode b_Gr_readStatement 72 = .ok (.ireturn, 1) := by decide +kernel
theorem d_Gr_readStatement_73 : decode b_Gr_readStatement 73 = .ok (.aload_n 0, 1) := by decide +kernel
theorem d_Gr_readStatement_74 : decode b_Gr_readStatement 74 = .ok (.getfield 21, 3) := by decide +kernel
theorem d_Gr_readStatement_77 : decode b_Gr_readStatement 77 = .ok (.aload_n 0, 1) := by decide +kernel
theorem d_Gr_readStatement_78 : decode b_Gr_readStatement 78 = .ok (.getfield 37, 3) := by decide +kernel
theorem d_Gr_readStatement_81 : decode b_Gr_readStatement 81 = .ok (.invokevirtual 52, 3) := by decide +kernel
theorem d_Gr_readStatement_84 : decode b_Gr_readStatement 84 = .ok (.ifCond .eq 5, 3) := by decide +kernel
theorem d_Gr_readStatement_87 : decode b_Gr_readStatement 87 = .ok (.iconst 0, 1) := by decide +kernel
theorem d_Gr_readStatement_88 : decode b_Gr_readStatement 88 = .ok (.ireturn, 1) := by decide +kernel
theorem d_Gr_readStatement_89 : decode b_Gr_readStatement 89 = .ok (.aload_n 0, 1) := by decide +kernel
theorem d_Gr_readStatement_90 : decode b_Gr_readStatement 90 = .ok (.getfield 21, 3) := by decide +kernel
theorem d_Gr_readStatement_93 : decode b_Gr_readStatement 93 = .ok (.getfield 106, 3) := by decide +kernel
theorem d_Gr_readStatement_96 : decode b_Gr_readStatement 96 = .ok (.aload_n 0, 1) := by decide +kernel
theorem d_Gr_readStatement_97 : decode b_Gr_readStatement 97 = .ok (.getfield 37, 3) := by decide +kernel
theorem d_Gr_readStatement_100 : decode b_Gr_readStatement 100 = .ok (.iaload, 1) := by decide +kernel
theorem d_Gr_readStatement_101 : decode b_Gr_readStatement 101 = .ok (.istore_n 1, 1) := by decide +kernel
theorem d_Gr_readStatement_102 : decode b_Gr_readStatement 102 = .ok (.aload_n 0, 1) := by decide +kernel
theorem d_Gr_readStatement_103 : decode b_Gr_readStatement 103 = .ok (.getfield 33, 3) := by decide +kernel
theorem d_Gr_readStatement_106 : decode b_Gr_readStatement 106 = .ok (.getfield 47, 3) := by decide +kernel
theorem d_Gr_readStatement_109 : decode b_Gr_readStatement 109 = .ok (.istore_n 2, 1) := by decide +kernel
theorem d_Gr_readStatement_110 : decode b_Gr_readStatement 110 = .ok (.aload_n 0, 1) := by decide +kernel
theorem d_Gr_readStatement_111 : decode b_Gr_readStatement 111 = .ok (.dup, 1) := by decide +kernel
theorem d_Gr_readStatement_112 : decode b_Gr_readStatement 112 = .ok (.getfield 37, 3) := by decide +kernel
theorem d_Gr_readStatement_115 : decode b_Gr_readStatement 115 = .ok (.iconst 1, 1) := by decide +kernel
theorem d_Gr_readStatement_116 : decode b_Gr_readStatement 116 = .ok (.iadd, 1) := by decide +kernel
theorem d_Gr_readStatement_117 : decode b_Gr_readStatement 117 = .ok (.putfield 37, 3) := by decide +kernel
theorem d_Gr_readStatement_120 : decode b_Gr_readStatement 120 = .ok (.iload_n 1, 1) := by decide +kernel
theorem d_Gr_readStatement_121 : decode b_Gr_readStatement 121 = .ok (.tableswitch 79 1 3 #[27, 33, 56], 27) := by decide +kernel
theorem d_Gr_readStatement_148 : decode b_Gr_readStatement 148 = .ok (.aload_n 0, 1) := by decide +kernel
theorem d_Gr_readStatement_149 : decode b_Gr_readStatement 149 = .ok (.iconst 3, 1) := by decide +kernel
theorem d_Gr_readStatement_150 : decode b_Gr_readStatement 150 = .ok (.invokevirtual 103, 3) := by decide +kernel
theorem d_Gr_readStatement_153 : decode b_Gr_readStatement 153 = .ok (.ireturn, 1) := by decide +kernel
theorem d_Gr_readStatement_154 : decode b_Gr_readStatement 154 = .ok (.aload_n 0, 1) := by decide +kernel
theorem d_Gr_readStatement_155 : decode b_Gr_readStatement 155 = .ok (.iconst 0, 1) := by decide +kernel
theorem d_Gr_readStatement_156 : decode b_Gr_readStatement 156 = .ok (.invokevirtual 109, 3) := by decide +kernel
theorem d_Gr_readStatement_159 : decode b_Gr_readStatement 159 = .ok (.ifCond .eq 16, 3) := by decide +kernel
theorem d_Gr_readStatement_162 : decode b_Gr_readStatement 162 = .ok (.aload_n 0, 1) := by decide +kernel
theorem d_Gr_readStatement_163 : decode b_Gr_readStatement 163 = .ok (.iconst 1, 1) := by decide +kernel
theorem d_Gr_readStatement_164 : decode b_Gr_readStatement 164 = .ok (.iconst (-1), 1) := by decide +kernel
theorem d_Gr_readStatement_165 : decode b_Gr_readStatement 165 = .ok (.invokevirtual 67, 3) := by decide +kernel
theorem d_Gr_readStatement_168 : decode b_Gr_readStatement 168 = .ok (.ifCond .eq 7, 3) := by decide +kernel
theorem d_Gr_readStatement_171 : decode b_Gr_readStatement 171 = .ok (.iconst 1, 1) := by decide +kernel
theorem d_Gr_readStatement_172 : decode b_Gr_readStatement 172 = .ok (.goto 4, 3) := by decide +kernel
theorem d_Gr_readStatement_175 : decode b_Gr_readStatement 175 = .ok (.iconst 0, 1) := by decide +kernel
theorem d_Gr_readStatement_176 : decode b_Gr_readStatement 176 = .ok (.ireturn, 1) := by decide +kernel
theorem d_Gr_readStatement_177 : decode b_Gr_readStatement 177 = .ok (.aload_n 0, 1) := by decide +kernel
theorem d_Gr_readStatement_178 : decode b_Gr_readStatement 178 = .ok (.iconst 0, 1) := by decide +kernel
theorem d_Gr_readStatement_179 : decode b_Gr_readStatement 179 = .ok (.invokevirtual 109, 3) := by decide +kernel
theorem d_Gr_readStatement_182 : decode b_Gr_readStatement 182 = .ok (.ifCond .eq 16, 3) := by decide +kernel
theorem d_Gr_readStatement_185 : decode b_Gr_readStatement 185 = .ok (.aload_n 0, 1) := by decide +kernel
theorem d_Gr_readStatement_186 : decode b_Gr_readStatement 186 = .ok (.iconst 1, 1) := by decide +kernel
theorem d_Gr_readStatement_187 : decode b_Gr_readStatement 187 = .ok (.iload_n 2, 1) := by decide +kernel
theorem d_Gr_readStatement_188 : decode b_Gr_readStatement 188 = .ok (.invokevirtual 67, 3) := by decide +kernel
theorem d_Gr_readStatement_191 : decode b_Gr_readStatement 191 = .ok (.ifCond .eq 7, 3) := by decide +kernel
theorem d_Gr_readStatement_194 : decode b_Gr_readStatement 194 = .ok (.iconst 1, 1) := by decide +kernel
theorem d_Gr_readStatement_195 : decode b_Gr_readStatement 195 = .ok (.goto 4, 3) := by decide +kernel
theorem d_Gr_readStatement_198 : decode b_Gr_readStatement 198 = .ok (.iconst 0, 1) := by decide +kernel
theorem d_Gr_readStatement_199 : decode b_Gr_readStatement 199 = .ok (.ireturn, 1) := by decide +kernel
theorem d_Gr_readStatement_200 : decode b_Gr_readStatement 200 = .ok (.aload_n 0, 1) := by decide +kernel
theorem d_Gr_readStatement_201 : decode b_Gr_readStatement 201 = .ok (.iload_n 1, 1) := by decide +kernel
theorem d_Gr_readStatement_202 : decode b_Gr_readStatement 202 = .ok (.iconst 4, 1) := by decide +kernel
theorem d_Gr_readStatement_203 : decode b_Gr_readStatement 203 = .ok (.if_icmp .ne 8, 3) := by decide +kernel
theorem d_Gr_readStatement_206 : decode b_Gr_readStatement 206 = .ok (.bipush 7, 2) := by decide +kernel
theorem d_Gr_readStatement_208 : decode b_Gr_readStatement 208 = .ok (.goto 5, 3) := by decide +kernel
theorem d_Gr_readStatement_211 : decode b_Gr_readStatement 211 = .ok (.bipush 8, 2) := by decide +kernel
theorem d_Gr_readStatement_213 : decode b_Gr_readStatement 213 = .ok (.invokevirtual 112, 3) := by decide +kernel
theorem d_Gr_readStatement_216 : decode b_Gr_readStatement 216 = .ok (.ireturn, 1) := by decide +kernel
abbrev b_Gr_readStore : ByteArray := prog_5_method_5_code
def y_Gr_readStore : MethodName := ⟨"ProgramDesk$Grammar", "readStore", "(I)Z"⟩
theorem d_Gr_readStore_0 : decode b_Gr_readStore 0 = .ok (.aload_n 0, 1) := by decide +kernel
theorem d_Gr_readStore_1 : decode b_Gr_readStore 1 = .ok (.getfield 37, 3) := by decide +kernel
theorem d_Gr_readStore_4 : decode b_Gr_readStore 4 = .ok (.istore_n 2, 1) := by decide +kernel
theorem d_Gr_readStore_5 : decode b_Gr_readStore 5 = .ok (.aload_n 0, 1) := by decide +kernel
theorem d_Gr_readStore_6 : decode b_Gr_readStore 6 = .ok (.iload_n 1, 1) := by decide +kernel
theorem d_Gr_readStore_7 : decode b_Gr_readStore 7 = .ok (.invokevirtual 60, 3) := by decide +kernel
theorem d_Gr_readStore_10 : decode b_Gr_readStore 10 = .ok (.ifCond .eq 29, 3) := by decide +kernel
theorem d_Gr_readStore_13 : decode b_Gr_readStore 13 = .ok (.aload_n 0, 1) := by decide +kernel
theorem d_Gr_readStore_14 : decode b_Gr_readStore 14 = .ok (.bipush 61, 2) := by decide +kernel
theorem d_Gr_readStore_16 : decode b_Gr_readStore 16 = .ok (.invokevirtual 84, 3) := by decide +kernel
theorem d_Gr_readStore_19 : decode b_Gr_readStore 19 = .ok (.ifCond .eq 20, 3) := by decide +kernel
theorem d_Gr_readStore_22 : decode b_Gr_readStore 22 = .ok (.aload_n 0, 1) := by decide +kernel
theorem d_Gr_readStore_23 : decode b_Gr_readStore 23 = .ok (.iconst 0, 1) := by decide +kernel
theorem d_Gr_readStore_24 : decode b_Gr_readStore 24 = .ok (.invokevirtual 109, 3) := by decide +kernel
theorem d_Gr_readStore_27 : decode b_Gr_readStore 27 = .ok (.ifCond .eq 12, 3) := by decide +kernel
theorem d_Gr_readStore_30 : decode b_Gr_readStore 30 = .ok (.aload_n 0, 1) := by decide +kernel
theorem d_Gr_readStore_31 : decode b_Gr_readStore 31 = .ok (.bipush 59, 2) := by decide +kernel
theorem d_Gr_readStore_33 : decode b_Gr_readStore 33 = .ok (.invokevirtual 84, 3) := by decide +kernel
theorem d_Gr_readStore_36 : decode b_Gr_readStore 36 = .ok (.ifCond .ne 5, 3) := by decide +kernel
theorem d_Gr_readStore_39 : decode b_Gr_readStore 39 = .ok (.iconst 0, 1) := by decide +kernel
theorem d_Gr_readStore_40 : decode b_Gr_readStore 40 = .ok (.ireturn, 1) := by decide +kernel
theorem d_Gr_readStore_41 : decode b_Gr_readStore 41 = .ok (.iload_n 1, 1) := by decide +kernel
theorem d_Gr_readStore_42 : decode b_Gr_readStore 42 = .ok (.iconst 3, 1) := by decide +kernel
theorem d_Gr_readStore_43 : decode b_Gr_readStore 43 = .ok (.if_icmp .ne 43, 3) := by decide +kernel
theorem d_Gr_readStore_46 : decode b_Gr_readStore 46 = .ok (.aload_n 0, 1) := by decide +kernel
theorem d_Gr_readStore_47 : decode b_Gr_readStore 47 = .ok (.getfield 44, 3) := by decide +kernel
theorem d_Gr_readStore_50 : decode b_Gr_readStore 50 = .ok (.ifCond .le 36, 3) := by decide +kernel
theorem d_Gr_readStore_53 : decode b_Gr_readStore 53 = .ok (.aload_n 0, 1) := by decide +kernel
theorem d_Gr_readStore_54 : decode b_Gr_readStore 54 = .ok (.getfield 25, 3) := by decide +kernel
theorem d_Gr_readStore_57 : decode b_Gr_readStore 57 = .ok (.getfield 91, 3) := by decide +kernel
theorem d_Gr_readStore_60 : decode b_Gr_readStore 60 = .ok (.iload_n 2, 1) := by decide +kernel
theorem d_Gr_readStore_61 : decode b_Gr_readStore 61 = .ok (.aload_n 0, 1) := by decide +kernel
theorem d_Gr_readStore_62 : decode b_Gr_readStore 62 = .ok (.getfield 11, 3) := by decide +kernel
theorem d_Gr_readStore_65 : decode b_Gr_readStore 65 = .ok (.aload_n 0, 1) := by decide +kernel
theorem d_Gr_readStore_66 : decode b_Gr_readStore 66 = .ok (.getfield 44, 3) := by decide +kernel
theorem d_Gr_readStore_69 : decode b_Gr_readStore 69 = .ok (.iconst 1, 1) := by decide +kernel
theorem d_Gr_readStore_70 : decode b_Gr_readStore 70 = .ok (.isub, 1) := by decide +kernel
theorem d_Gr_readStore_71 : decode b_Gr_readStore 71 = .ok (.iaload, 1) := by decide +kernel
theorem d_Gr_readStore_72 : decode b_Gr_readStore 72 = .ok (.iastore, 1) := by decide +kernel
theorem d_Gr_readStore_73 : decode b_Gr_readStore 73 = .ok (.aload_n 0, 1) := by decide +kernel
theorem d_Gr_readStore_74 : decode b_Gr_readStore 74 = .ok (.getfield 25, 3) := by decide +kernel
theorem d_Gr_readStore_77 : decode b_Gr_readStore 77 = .ok (.getfield 94, 3) := by decide +kernel
theorem d_Gr_readStore_80 : decode b_Gr_readStore 80 = .ok (.iload_n 2, 1) := by decide +kernel
theorem d_Gr_readStore_81 : decode b_Gr_readStore 81 = .ok (.aload_n 0, 1) := by decide +kernel
theorem d_Gr_readStore_82 : decode b_Gr_readStore 82 = .ok (.getfield 37, 3) := by decide +kernel
theorem d_Gr_readStore_85 : decode b_Gr_readStore 85 = .ok (.iastore, 1) := by decide +kernel
theorem d_Gr_readStore_86 : decode b_Gr_readStore 86 = .ok (.aload_n 0, 1) := by decide +kernel
theorem d_Gr_readStore_87 : decode b_Gr_readStore 87 = .ok (.getfield 33, 3) := by decide +kernel
theorem d_Gr_readStore_90 : decode b_Gr_readStore 90 = .ok (.iconst 2, 1) := by decide +kernel
theorem d_Gr_readStore_91 : decode b_Gr_readStore 91 = .ok (.iload_n 2, 1) := by decide +kernel
theorem d_Gr_readStore_92 : decode b_Gr_readStore 92 = .ok (.invokevirtual 75, 3) := by decide +kernel
theorem d_Gr_readStore_95 : decode b_Gr_readStore 95 = .ok (.iconst 1, 1) := by decide +kernel
theorem d_Gr_readStore_96 : decode b_Gr_readStore 96 = .ok (.ireturn, 1) := by decide +kernel
abbrev b_Gr_readUse : ByteArray := prog_5_method_6_code
def y_Gr_readUse : MethodName := ⟨"ProgramDesk$Grammar", "readUse", "(I)Z"⟩
theorem d_Gr_readUse_0 : decode b_Gr_readUse 0 = .ok (.aload_n 0, 1) := by decide +kernel
theorem d_Gr_readUse_1 : decode b_Gr_readUse 1 = .ok (.iconst 0, 1) := by decide +kernel
theorem d_Gr_readUse_2 : decode b_Gr_readUse 2 = .ok (.invokevirtual 109, 3) := by decide +kernel
theorem d_Gr_readUse_5 : decode b_Gr_readUse 5 = .ok (.ifCond .eq 12, 3) := by decide +kernel
theorem d_Gr_readUse_8 : decode b_Gr_readUse 8 = .ok (.aload_n 0, 1) := by decide +kernel
theorem d_Gr_readUse_9 : decode b_Gr_readUse 9 = .ok (.bipush 59, 2) := by decide +kernel
theorem d_Gr_readUse_11 : decode b_Gr_readUse 11 = .ok (.invokevirtual 84, 3) := by decide +kernel
theorem d_Gr_readUse_14 : decode b_Gr_readUse 14 = .ok (.ifCond .ne 5, 3) := by decide +kernel
theorem d_Gr_readUse_17 : decode b_Gr_readUse 17 = .ok (.iconst 0, 1) := by decide +kernel
theorem d_Gr_readUse_18 : decode b_Gr_readUse 18 = .ok (.ireturn, 1) := by decide +kernel
theorem d_Gr_readUse_19 : decode b_Gr_readUse 19 = .ok (.aload_n 0, 1) := by decide +kernel
theorem d_Gr_readUse_20 : decode b_Gr_readUse 20 = .ok (.getfield 33, 3) := by decide +kernel
theorem d_Gr_readUse_23 : decode b_Gr_readUse 23 = .ok (.iload_n 1, 1) := by decide +kernel
theorem d_Gr_readUse_24 : decode b_Gr_readUse 24 = .ok (.iconst 0, 1) := by decide +kernel
theorem d_Gr_readUse_25 : decode b_Gr_readUse 25 = .ok (.invokevirtual 75, 3) := by decide +kernel
theorem d_Gr_readUse_28 : decode b_Gr_readUse 28 = .ok (.iconst 1, 1) := by decide +kernel
theorem d_Gr_readUse_29 : decode b_Gr_readUse 29 = .ok (.ireturn, 1) := by decide +kernel
abbrev b_Gr_openBlock : ByteArray := prog_5_method_7_code
def y_Gr_openBlock : MethodName := ⟨"ProgramDesk$Grammar", "openBlock", "(ZI)Z"⟩
theorem d_Gr_openBlock_0 : decode b_Gr_openBlock 0 = .ok (.aload_n 0, 1) := by decide +kernel
theorem d_Gr_openBlock_1 : decode b_Gr_openBlock 1 = .ok (.getfield 44, 3) := by decide +kernel
theorem d_Gr_openBlock_4 : decode b_Gr_openBlock 4 = .ok (.iconst 4, 1) := by decide +kernel
theorem d_Gr_openBlock_5 : decode b_Gr_openBlock 5 = .ok (.if_icmp .ge 12, 3) := by decide +kernel
theorem d_Gr_openBlock_8 : decode b_Gr_openBlock 8 = .ok (.aload_n 0, 1) := by decide +kernel
theorem d_Gr_openBlock_9 : decode b_Gr_openBlock 9 = .ok (.bipush 123, 2) := by decide +kernel
theorem d_Gr_openBlock_11 : decode b_Gr_openBlock 11 = .ok (.invokevirtual 84, 3) := by decide +kernel
theorem d_Gr_openBlock_14 : decode b_Gr_openBlock 14 = .ok (.ifCond .ne 5, 3) := by decide +kernel
theorem d_Gr_openBlock_17 : decode b_Gr_openBlock 17 = .ok (.iconst 0, 1) := by decide +kernel
theorem d_Gr_openBlock_18 : decode b_Gr_openBlock 18 = .ok (.ireturn, 1) := by decide +kernel
theorem d_Gr_openBlock_19 : decode b_Gr_openBlock 19 = .ok (.aload_n 0, 1) := by decide +kernel
theorem d_Gr_openBlock_20 : decode b_Gr_openBlock 20 = .ok (.getfield 11, 3) := by decide +kernel
theorem d_Gr_openBlock_23 : decode b_Gr_openBlock 23 = .ok (.aload_n 0, 1) := by decide +kernel
theorem d_Gr_openBlock_24 : decode b_Gr_openBlock 24 = .ok (.getfield 44, 3) := by decide +kernel
theorem d_Gr_openBlock_27 : decode b_Gr_openBlock 27 = .ok (.aload_n 0, 1) := by decide +kernel
theorem d_Gr_openBlock_28 : decode b_Gr_openBlock 28 = .ok (.getfield 37, 3) := by decide +kernel
theorem d_Gr_openBlock_31 : decode b_Gr_openBlock 31 = .ok (.iconst 1, 1) := by decide +kernel
theorem d_Gr_openBlock_32 : decode b_Gr_openBlock 32 = .ok (.isub, 1) := by decide +kernel
theorem d_Gr_openBlock_33 : decode b_Gr_openBlock 33 = .ok (.iastore, 1) := by decide +kernel
theorem d_Gr_openBlock_34 : decode b_Gr_openBlock 34 = .ok (.aload_n 0, 1) := by decide +kernel
theorem d_Gr_openBlock_35 : decode b_Gr_openBlock 35 = .ok (.getfield 18, 3) := by decide +kernel
theorem d_Gr_openBlock_38 : decode b_Gr_openBlock 38 = .ok (.aload_n 0, 1) := by decide +kernel
theorem d_Gr_openBlock_39 : decode b_Gr_openBlock 39 = .ok (.getfield 44, 3) := by decide +kernel
theorem d_Gr_openBlock_42 : decode b_Gr_openBlock 42 = .ok (.iload_n 2, 1) := by decide +kernel
theorem d_Gr_openBlock_43 : decode b_Gr_openBlock 43 = .ok (.iastore, 1) := by decide +kernel
theorem d_Gr_openBlock_44 : decode b_Gr_openBlock 44 = .ok (.aload_n 0, 1) := by decide +kernel
theorem d_Gr_openBlock_45 : decode b_Gr_openBlock 45 = .ok (.getfield 15, 3) := by decide +kernel
theorem d_Gr_openBlock_48 : decode b_Gr_openBlock 48 = .ok (.aload_n 0, 1) := by decide +kernel
theorem d_Gr_openBlock_49 : decode b_Gr_openBlock 49 = .ok (.getfield 44, 3) := by decide +kernel
theorem d_Gr_openBlock_52 : decode b_Gr_openBlock 52 = .ok (.iconst (-1), 1) := by decide +kernel
theorem d_Gr_openBlock_53 : decode b_Gr_openBlock 53 = .ok (.iastore, 1) := by decide +kernel
theorem d_Gr_openBlock_54 : decode b_Gr_openBlock 54 = .ok (.iload_n 1, 1) := by decide +kernel
theorem d_Gr_openBlock_55 : decode b_Gr_openBlock 55 = .ok (.ifCond .eq 28, 3) := by decide +kernel
theorem d_Gr_openBlock_58 : decode b_Gr_openBlock 58 = .ok (.aload_n 0, 1) := by decide +kernel
theorem d_Gr_openBlock_59 : decode b_Gr_openBlock 59 = .ok (.getfield 15, 3) := by decide +kernel
theorem d_Gr_openBlock_62 : decode b_Gr_openBlock 62 = .ok (.aload_n 0, 1) := by decide +kernel
theorem d_Gr_openBlock_63 : decode b_Gr_openBlock 63 = .ok (.getfield 44, 3) := by decide +kernel
theorem d_Gr_openBlock_66 : decode b_Gr_openBlock 66 = .ok (.aload_n 0, 1) := by decide +kernel
theorem d_Gr_openBlock_67 : decode b_Gr_openBlock 67 = .ok (.getfield 33, 3) := by decide +kernel
theorem d_Gr_openBlock_70 : decode b_Gr_openBlock 70 = .ok (.getfield 47, 3) := by decide +kernel
theorem d_Gr_openBlock_73 : decode b_Gr_openBlock 73 = .ok (.iastore, 1) := by decide +kernel
theorem d_Gr_openBlock_74 : decode b_Gr_openBlock 74 = .ok (.aload_n 0, 1) := by decide +kernel
theorem d_Gr_openBlock_75 : decode b_Gr_openBlock 75 = .ok (.getfield 33, 3) := by decide +kernel
theorem d_Gr_openBlock_78 : decode b_Gr_openBlock 78 = .ok (.iconst 4, 1) := by decide +kernel
theorem d_Gr_openBlock_79 : decode b_Gr_openBlock 79 = .ok (.iconst 0, 1) := by decide +kernel
theorem d_Gr_openBlock_80 : decode b_Gr_openBlock 80 = .ok (.invokevirtual 75, 3) := by decide +kernel
theorem d_Gr_openBlock_83 : decode b_Gr_openBlock 83 = .ok (.iload_n 2, 1) := by decide +kernel
theorem d_Gr_openBlock_84 : decode b_Gr_openBlock 84 = .ok (.iconst (-1), 1) := by decide +kernel
theorem d_Gr_openBlock_85 : decode b_Gr_openBlock 85 = .ok (.if_icmp .eq 12, 3) := by decide +kernel
theorem d_Gr_openBlock_88 : decode b_Gr_openBlock 88 = .ok (.aload_n 0, 1) := by decide +kernel
theorem d_Gr_openBlock_89 : decode b_Gr_openBlock 89 = .ok (.getfield 33, 3) := by decide +kernel
theorem d_Gr_openBlock_92 : decode b_Gr_openBlock 92 = .ok (.iconst 5, 1) := by decide +kernel
theorem d_Gr_openBlock_93 : decode b_Gr_openBlock 93 = .ok (.iconst 0, 1) := by decide +kernel
theorem d_Gr_openBlock_94 : decode b_Gr_openBlock 94 = .ok (.invokevirtual 75, 3) := by decide +kernel
theorem d_Gr_openBlock_97 : decode b_Gr_openBlock 97 = .ok (.aload_n 0, 1) := by decide +kernel
theorem d_Gr_openBlock_98 : decode b_Gr_openBlock 98 = .ok (.dup, 1) := by decide +kernel
theorem d_Gr_openBlock_99 : decode b_Gr_openBlock 99 = .ok (.getfield 44, 3) := by decide +kernel
theorem d_Gr_openBlock_102 : decode b_Gr_openBlock 102 = .ok (.iconst 1, 1) := by decide +kernel
theorem d_Gr_openBlock_103 : decode b_Gr_openBlock 103 = .ok (.iadd, 1) := by decide +kernel
theorem d_Gr_openBlock_104 : decode b_Gr_openBlock 104 = .ok (.putfield 44, 3) := by decide +kernel
theorem d_Gr_openBlock_107 : decode b_Gr_openBlock 107 = .ok (.iconst 1, 1) := by decide +kernel
theorem d_Gr_openBlock_108 : decode b_Gr_openBlock 108 = .ok (.ireturn, 1) := by decide +kernel
abbrev b_Gr_closeBlock : ByteArray := prog_5_method_8_code
def y_Gr_closeBlock : MethodName := ⟨"ProgramDesk$Grammar", "closeBlock", "()V"⟩
theorem d_Gr_closeBlock_0 : decode b_Gr_closeBlock 0 = .ok (.aload_n 0, 1) := by decide +kernel
theorem d_Gr_closeBlock_1 : decode b_Gr_closeBlock 1 = .ok (.dup, 1) := by decide +kernel
theorem d_Gr_closeBlock_2 : decode b_Gr_closeBlock 2 = .ok (.getfield 44, 3) := by decide +kernel
theorem d_Gr_closeBlock_5 : decode b_Gr_closeBlock 5 = .ok (.iconst 1, 1) := by decide +kernel
theorem d_Gr_closeBlock_6 : decode b_Gr_closeBlock 6 = .ok (.isub, 1) := by decide +kernel
theorem d_Gr_closeBlock_7 : decode b_Gr_closeBlock 7 = .ok (.putfield 44, 3) := by decide +kernel
theorem d_Gr_closeBlock_10 : decode b_Gr_closeBlock 10 = .ok (.aload_n 0, 1) := by decide +kernel
theorem d_Gr_closeBlock_11 : decode b_Gr_closeBlock 11 = .ok (.getfield 25, 3) := by decide +kernel
theorem d_Gr_closeBlock_14 : decode b_Gr_closeBlock 14 = .ok (.getfield 88, 3) := by decide +kernel
theorem d_Gr_closeBlock_17 : decode b_Gr_closeBlock 17 = .ok (.aload_n 0, 1) := by decide +kernel
theorem d_Gr_closeBlock_18 : decode b_Gr_closeBlock 18 = .ok (.getfield 11, 3) := by decide +kernel
theorem d_Gr_closeBlock_21 : decode b_Gr_closeBlock 21 = .ok (.aload_n 0, 1) := by decide +kernel
theorem d_Gr_closeBlock_22 : decode b_Gr_closeBlock 22 = .ok (.getfield 44, 3) := by decide +kernel
theorem d_Gr_closeBlock_25 : decode b_Gr_closeBlock 25 = .ok (.iaload, 1) := by decide +kernel
theorem d_Gr_closeBlock_26 : decode b_Gr_closeBlock 26 = .ok (.aload_n 0, 1) := by decide +kernel
theorem d_Gr_closeBlock_27 : decode b_Gr_closeBlock 27 = .ok (.getfield 37, 3) := by decide +kernel
theorem d_Gr_closeBlock_30 : decode b_Gr_closeBlock 30 = .ok (.iconst 1, 1) := by decide +kernel
theorem d_Gr_closeBlock_31 : decode b_Gr_closeBlock 31 = .ok (.isub, 1) := by decide +kernel
theorem d_Gr_closeBlock_32 : decode b_Gr_closeBlock 32 = .ok (.iastore, 1) := by decide +kernel
theorem d_Gr_closeBlock_33 : decode b_Gr_closeBlock 33 = .ok (.aload_n 0, 1) := by decide +kernel
theorem d_Gr_closeBlock_34 : decode b_Gr_closeBlock 34 = .ok (.getfield 18, 3) := by decide +kernel
theorem d_Gr_closeBlock_37 : decode b_Gr_closeBlock 37 = .ok (.aload_n 0, 1) := by decide +kernel
theorem d_Gr_closeBlock_38 : decode b_Gr_closeBlock 38 = .ok (.getfield 44, 3) := by decide +kernel
theorem d_Gr_closeBlock_41 : decode b_Gr_closeBlock 41 = .ok (.iaload, 1) := by decide +kernel
theorem d_Gr_closeBlock_42 : decode b_Gr_closeBlock 42 = .ok (.iconst (-1), 1) := by decide +kernel
theorem d_Gr_closeBlock_43 : decode b_Gr_closeBlock 43 = .ok (.if_icmp .eq 21, 3) := by decide +kernel
theorem d_Gr_closeBlock_46 : decode b_Gr_closeBlock 46 = .ok (.aload_n 0, 1) := by decide +kernel
theorem d_Gr_closeBlock_47 : decode b_Gr_closeBlock 47 = .ok (.getfield 33, 3) := by decide +kernel
theorem d_Gr_closeBlock_50 : decode b_Gr_closeBlock 50 = .ok (.bipush 6, 2) := by decide +kernel
theorem d_Gr_closeBlock_52 : decode b_Gr_closeBlock 52 = .ok (.aload_n 0, 1) := by decide +kernel
theorem d_Gr_closeBlock_53 : decode b_Gr_closeBlock 53 = .ok (.getfield 18, 3) := by decide +kernel
theorem d_Gr_closeBlock_56 : decode b_Gr_closeBlock 56 = .ok (.aload_n 0, 1) := by decide +kernel
theorem d_Gr_closeBlock_57 : decode b_Gr_closeBlock 57 = .ok (.getfield 44, 3) := by decide +kernel
theorem d_Gr_closeBlock_60 : decode b_Gr_closeBlock 60 = .ok (.iaload, 1) := by decide +kernel
theorem d_Gr_closeBlock_61 : decode b_Gr_closeBlock 61 = .ok (.invokevirtual 75, 3) := by decide +kernel
theorem d_Gr_closeBlock_64 : decode b_Gr_closeBlock 64 = .ok (.aload_n 0, 1) := by decide +kernel
theorem d_Gr_closeBlock_65 : decode b_Gr_closeBlock 65 = .ok (.getfield 33, 3) := by decide +kernel
theorem d_Gr_closeBlock_68 : decode b_Gr_closeBlock 68 = .ok (.aload_n 0, 1) := by decide +kernel
theorem d_Gr_closeBlock_69 : decode b_Gr_closeBlock 69 = .ok (.getfield 15, 3) := by decide +kernel
theorem d_Gr_closeBlock_72 : decode b_Gr_closeBlock 72 = .ok (.aload_n 0, 1) := by decide +kernel
theorem d_Gr_closeBlock_73 : decode b_Gr_closeBlock 73 = .ok (.getfield 44, 3) := by decide +kernel
theorem d_Gr_closeBlock_76 : decode b_Gr_closeBlock 76 = .ok (.iaload, 1) := by decide +kernel
theorem d_Gr_closeBlock_77 : decode b_Gr_closeBlock 77 = .ok (.invokevirtual 115, 3) := by decide +kernel
theorem d_Gr_closeBlock_80 : decode b_Gr_closeBlock 80 = .ok (.return_, 1) := by decide +kernel
abbrev b_Gr_readExpression : ByteArray := prog_5_method_9_code
def y_Gr_readExpression : MethodName := ⟨"ProgramDesk$Grammar", "readExpression", "(I)Z"⟩
theorem d_Gr_readExpression_0 : decode b_Gr_readExpression 0 = .ok (.aload_n 0, 1) := by decide +kernel
theorem d_Gr_readExpression_1 : decode b_Gr_readExpression 1 = .ok (.iload_n 1, 1) := by decide +kernel
theorem d_Gr_readExpression_2 : decode b_Gr_readExpression 2 = .ok (.invokevirtual 119, 3) := by decide +kernel
theorem d_Gr_readExpression_5 : decode b_Gr_readExpression 5 = .ok (.ifCond .ne 5, 3) := by decide +kernel
theorem d_Gr_readExpression_8 : decode b_Gr_readExpression 8 = .ok (.iconst 0, 1) := by decide +kernel
theorem d_Gr_readExpression_9 : decode b_Gr_readExpression 9 = .ok (.ireturn, 1) := by decide +kernel
theorem d_Gr_readExpression_10 : decode b_Gr_readExpression 10 = .ok (.aload_n 0, 1) := by decide +kernel
theorem d_Gr_readExpression_11 : decode b_Gr_readExpression 11 = .ok (.bipush 60, 2) := by decide +kernel
theorem d_Gr_readExpression_13 : decode b_Gr_readExpression 13 = .ok (.invokevirtual 84, 3) := by decide +kernel
theorem d_Gr_readExpression_16 : decode b_Gr_readExpression 16 = .ok (.ifCond .ne 5, 3) := by decide +kernel
theorem d_Gr_readExpression_19 : decode b_Gr_readExpression 19 = .ok (.iconst 1, 1) := by decide +kernel
theorem d_Gr_readExpression_20 : decode b_Gr_readExpression 20 = .ok (.ireturn, 1) := by decide +kernel
theorem d_Gr_readExpression_21 : decode b_Gr_readExpression 21 = .ok (.aload_n 0, 1) := by decide +kernel
theorem d_Gr_readExpression_22 : decode b_Gr_readExpression 22 = .ok (.iload_n 1, 1) := by decide +kernel
theorem d_Gr_readExpression_23 : decode b_Gr_readExpression 23 = .ok (.invokevirtual 119, 3) := by decide +kernel
theorem d_Gr_readExpression_26 : decode b_Gr_readExpression 26 = .ok (.ifCond .ne 5, 3) := by decide +kernel
theorem d_Gr_readExpression_29 : decode b_Gr_readExpression 29 = .ok (.iconst 0, 1) := by decide +kernel
theorem d_Gr_readExpression_30 : decode b_Gr_readExpression 30 = .ok (.ireturn, 1) := by decide +kernel
theorem d_Gr_readExpression_31 : decode b_Gr_readExpression 31 = .ok (.aload_n 0, 1) := by decide +kernel
theorem d_Gr_readExpression_32 : decode b_Gr_readExpression 32 = .ok (.getfield 33, 3) := by decide +kernel
theorem d_Gr_readExpression_35 : decode b_Gr_readExpression 35 = .ok (.bipush 60, 2) := by decide +kernel
theorem d_Gr_readExpression_37 : decode b_Gr_readExpression 37 = .ok (.iconst 0, 1) := by decide +kernel
theorem d_Gr_readExpression_38 : decode b_Gr_readExpression 38 = .ok (.invokevirtual 75, 3) := by decide +kernel
theorem d_Gr_readExpression_41 : decode b_Gr_readExpression 41 = .ok (.iconst 1, 1) := by decide +kernel
theorem d_Gr_readExpression_42 : decode b_Gr_readExpression 42 = .ok (.ireturn, 1) := by decide +kernel
abbrev b_Gr_readSum : ByteArray := prog_5_method_10_code
def y_Gr_readSum : MethodName := ⟨"ProgramDesk$Grammar", "readSum", "(I)Z"⟩
theorem d_Gr_readSum_0 : decode b_Gr_readSum 0 = .ok (.aload_n 0, 1) := by decide +kernel
theorem d_Gr_readSum_1 : decode b_Gr_readSum 1 = .ok (.iload_n 1, 1) := by decide +kernel
theorem d_Gr_readSum_2 : decode b_Gr_readSum 2 = .ok (.invokevirtual 122, 3) := by decide +kernel
theorem d_Gr_readSum_5 : decode b_Gr_readSum 5 = .ok (.ifCond .ne 5, 3) := by decide +kernel
theorem d_Gr_readSum_8 : decode b_Gr_readSum 8 = .ok (.iconst 0, 1) := by decide +kernel
theorem d_Gr_readSum_9 : decode b_Gr_readSum 9 = .ok (.ireturn, 1) := by decide +kernel
theorem d_Gr_readSum_10 : decode b_Gr_readSum 10 = .ok (.iconst 0, 1) := by decide +kernel
theorem d_Gr_readSum_11 : decode b_Gr_readSum 11 = .ok (.istore_n 2, 1) := by decide +kernel
theorem d_Gr_readSum_12 : decode b_Gr_readSum 12 = .ok (.iload_n 2, 1) := by decide +kernel
theorem d_Gr_readSum_13 : decode b_Gr_readSum 13 = .ok (.sipush 240, 3) := by decide +kernel
theorem d_Gr_readSum_16 : decode b_Gr_readSum 16 = .ok (.if_icmp .ge 62, 3) := by decide +kernel
theorem d_Gr_readSum_19 : decode b_Gr_readSum 19 = .ok (.aload_n 0, 1) := by decide +kernel
theorem d_Gr_readSum_20 : decode b_Gr_readSum 20 = .ok (.bipush 43, 2) := by decide +kernel
theorem d_Gr_readSum_22 : decode b_Gr_readSum 22 = .ok (.invokevirtual 84, 3) := by decide +kernel
theorem d_Gr_readSum_25 : decode b_Gr_readSum 25 = .ok (.ifCond .eq 8, 3) := by decide +kernel
theorem d_Gr_readSum_28 : decode b_Gr_readSum 28 = .ok (.bipush 43, 2) := by decide +kernel
theorem d_Gr_readSum_30 : decode b_Gr_readSum 30 = .ok (.goto 5, 3) := by decide +kernel
theorem d_Gr_readSum_33 : decode b_Gr_readSum 33 = .ok (.bipush 45, 2) := by decide +kernel
theorem d_Gr_readSum_35 : decode b_Gr_readSum 35 = .ok (.istore_n 3, 1) := by decide +kernel
theorem d_Gr_readSum_36 : decode b_Gr_readSum 36 = .ok (.iload_n 3, 1) := by decide +kernel
theorem d_Gr_readSum_37 : decode b_Gr_readSum 37 = .ok (.bipush 45, 2) := by decide +kernel
theorem d_Gr_readSum_39 : decode b_Gr_readSum 39 = .ok (.if_icmp .ne 14, 3) := by decide +kernel
theorem d_Gr_readSum_42 : decode b_Gr_readSum 42 = .ok (.aload_n 0, 1) := by decide +kernel
theorem d_Gr_readSum_43 : decode b_Gr_readSum 43 = .ok (.bipush 45, 2) := by decide +kernel
theorem d_Gr_readSum_45 : decode b_Gr_readSum 45 = .ok (.invokevirtual 84, 3) := by decide +kernel
theorem d_Gr_readSum_48 : decode b_Gr_readSum 48 = .ok (.ifCond .ne 5, 3) := by decide +kernel
theorem d_Gr_readSum_51 : decode b_Gr_readSum 51 = .ok (.iconst 1, 1) := by decide +kernel
theorem d_Gr_readSum_52 : decode b_Gr_readSum 52 = .ok (.ireturn, 1) := by decide +kernel
theorem d_Gr_readSum_53 : decode b_Gr_readSum 53 = .ok (.aload_n 0, 1) := by decide +kernel
theorem d_Gr_readSum_54 : decode b_Gr_readSum 54 = .ok (.iload_n 1, 1) := by decide +kernel
theorem d_Gr_readSum_55 : decode b_Gr_readSum 55 = .ok (.invokevirtual 122, 3) := by decide +kernel
theorem d_Gr_readSum_58 : decode b_Gr_readSum 58 = .ok (.ifCond .ne 5, 3) := by decide +kernel
theorem d_Gr_readSum_61 : decode b_Gr_readSum 61 = .ok (.iconst 0, 1) := by decide +kernel
theorem d_Gr_readSum_62 : decode b_Gr_readSum 62 = .ok (.ireturn, 1) := by decide +kernel
theorem d_Gr_readSum_63 : decode b_Gr_readSum 63 = .ok (.aload_n 0, 1) := by decide +kernel
theorem d_Gr_readSum_64 : decode b_Gr_readSum 64 = .ok (.getfield 33, 3) := by decide +kernel
theorem d_Gr_readSum_67 : decode b_Gr_readSum 67 = .ok (.iload_n 3, 1) := by decide +kernel
theorem d_Gr_readSum_68 : decode b_Gr_readSum 68 = .ok (.iconst 0, 1) := by decide +kernel
theorem d_Gr_readSum_69 : decode b_Gr_readSum 69 = .ok (.invokevirtual 75, 3) := by decide +kernel
theorem d_Gr_readSum_72 : decode b_Gr_readSum 72 = .ok (.iinc 2 1, 3) := by decide +kernel
theorem d_Gr_readSum_75 : decode b_Gr_readSum 75 = .ok (.goto (-63), 3) := by decide +kernel
theorem d_Gr_readSum_78 : decode b_Gr_readSum 78 = .ok (.iconst 1, 1) := by decide +kernel
theorem d_Gr_readSum_79 : decode b_Gr_readSum 79 = .ok (.ireturn, 1) := by decide +kernel
abbrev b_Gr_readTerm : ByteArray := prog_5_method_11_code
def y_Gr_readTerm : MethodName := ⟨"ProgramDesk$Grammar", "readTerm", "(I)Z"⟩
theorem d_Gr_readTerm_0 : decode b_Gr_readTerm 0 = .ok (.aload_n 0, 1) := by decide +kernel
theorem d_Gr_readTerm_1 : decode b_Gr_readTerm 1 = .ok (.iload_n 1, 1) := by decide +kernel
theorem d_Gr_readTerm_2 : decode b_Gr_readTerm 2 = .ok (.invokevirtual 125, 3) := by decide +kernel
theorem d_Gr_readTerm_5 : decode b_Gr_readTerm 5 = .ok (.ifCond .ne 5, 3) := by decide +kernel
theorem d_Gr_readTerm_8 : decode b_Gr_readTerm 8 = .ok (.iconst 0, 1) := by decide +kernel
theorem d_Gr_readTerm_9 : decode b_Gr_readTerm 9 = .ok (.ireturn, 1) := by decide +kernel
theorem d_Gr_readTerm_10 : decode b_Gr_readTerm 10 = .ok (.iconst 0, 1) := by decide +kernel
theorem d_Gr_readTerm_11 : decode b_Gr_readTerm 11 = .ok (.istore_n 2, 1) := by decide +kernel
theorem d_Gr_readTerm_12 : decode b_Gr_readTerm 12 = .ok (.iload_n 2, 1) := by decide +kernel
theorem d_Gr_readTerm_13 : decode b_Gr_readTerm 13 = .ok (.sipush 240, 3) := by decide +kernel
theorem d_Gr_readTerm_16 : decode b_Gr_readTerm 16 = .ok (.if_icmp .ge 38, 3) := by decide +kernel
theorem d_Gr_readTerm_19 : decode b_Gr_readTerm 19 = .ok (.aload_n 0, 1) := by decide +kernel
theorem d_Gr_readTerm_20 : decode b_Gr_readTerm 20 = .ok (.bipush 42, 2) := by decide +kernel
theorem d_Gr_readTerm_22 : decode b_Gr_readTerm 22 = .ok (.invokevirtual 84, 3) := by decide +kernel
theorem d_Gr_readTerm_25 : decode b_Gr_readTerm 25 = .ok (.ifCond .eq 29, 3) := by decide +kernel
theorem d_Gr_readTerm_28 : decode b_Gr_readTerm 28 = .ok (.aload_n 0, 1) := by decide +kernel
theorem d_Gr_readTerm_29 : decode b_Gr_readTerm 29 = .ok (.iload_n 1, 1) := by decide +kernel
theorem d_Gr_readTerm_30 : decode b_Gr_readTerm 30 = .ok (.invokevirtual 125, 3) := by decide +kernel
theorem d_Gr_readTerm_33 : decode b_Gr_readTerm 33 = .ok (.ifCond .ne 5, 3) := by decide +kernel
theorem d_Gr_readTerm_36 : decode b_Gr_readTerm 36 = .ok (.iconst 0, 1) := by decide +kernel
theorem d_Gr_readTerm_37 : decode b_Gr_readTerm 37 = .ok (.ireturn, 1) := by decide +kernel
theorem d_Gr_readTerm_38 : decode b_Gr_readTerm 38 = .ok (.aload_n 0, 1) := by decide +kernel
theorem d_Gr_readTerm_39 : decode b_Gr_readTerm 39 = .ok (.getfield 33, 3) := by decide +kernel
theorem d_Gr_readTerm_42 : decode b_Gr_readTerm 42 = .ok (.bipush 42, 2) := by decide +kernel
theorem d_Gr_readTerm_44 : decode b_Gr_readTerm 44 = .ok (.iconst 0, 1) := by decide +kernel
theorem d_Gr_readTerm_45 : decode b_Gr_readTerm 45 = .ok (.invokevirtual 75, 3) := by decide +kernel
theorem d_Gr_readTerm_48 : decode b_Gr_readTerm 48 = .ok (.iinc 2 1, 3) := by decide +kernel
theorem d_Gr_readTerm_51 : decode b_Gr_readTerm 51 = .ok (.goto (-39), 3) := by decide +kernel
theorem d_Gr_readTerm_54 : decode b_Gr_readTerm 54 = .ok (.iconst 1, 1) := by decide +kernel
theorem d_Gr_readTerm_55 : decode b_Gr_readTerm 55 = .ok (.ireturn, 1) := by decide +kernel
abbrev b_Gr_readFactor : ByteArray := prog_5_method_12_code
def y_Gr_readFactor : MethodName := ⟨"ProgramDesk$Grammar", "readFactor", "(I)Z"⟩
theorem d_Gr_readFactor_0 : decode b_Gr_readFactor 0 = .ok (.aload_n 0, 1) := by decide +kernel
theorem d_Gr_readFactor_1 : decode b_Gr_readFactor 1 = .ok (.getfield 37, 3) := by decide +kernel
theorem d_Gr_readFactor_4 : decode b_Gr_readFactor 4 = .ok (.istore_n 2, 1) := by decide +kernel
theorem d_Gr_readFactor_5 : decode b_Gr_readFactor 5 = .ok (.iload_n 2, 1) := by decide +kernel
theorem d_Gr_readFactor_6 : decode b_Gr_readFactor 6 = .ok (.aload_n 0, 1) := by decide +kernel
theorem d_Gr_readFactor_7 : decode b_Gr_readFactor 7 = .ok (.getfield 41, 3) := by decide +kernel
theorem d_Gr_readFactor_10 : decode b_Gr_readFactor 10 = .ok (.if_icmp .ge 45, 3) := by decide +kernel
theorem d_Gr_readFactor_13 : decode b_Gr_readFactor 13 = .ok (.aload_n 0, 1) := by decide +kernel
theorem d_Gr_readFactor_14 : decode b_Gr_readFactor 14 = .ok (.getfield 21, 3) := by decide +kernel
theorem d_Gr_readFactor_17 : decode b_Gr_readFactor 17 = .ok (.getfield 100, 3) := by decide +kernel
theorem d_Gr_readFactor_20 : decode b_Gr_readFactor 20 = .ok (.iload_n 2, 1) := by decide +kernel
theorem d_Gr_readFactor_21 : decode b_Gr_readFactor 21 = .ok (.iaload, 1) := by decide +kernel
theorem d_Gr_readFactor_22 : decode b_Gr_readFactor 22 = .ok (.iconst 3, 1) := by decide +kernel
theorem d_Gr_readFactor_23 : decode b_Gr_readFactor 23 = .ok (.if_icmp .ne 32, 3) := by decide +kernel
theorem d_Gr_readFactor_26 : decode b_Gr_readFactor 26 = .ok (.aload_n 0, 1) := by decide +kernel
theorem d_Gr_readFactor_27 : decode b_Gr_readFactor 27 = .ok (.dup, 1) := by decide +kernel
theorem d_Gr_readFactor_28 : decode b_Gr_readFactor 28 = .ok (.getfield 37, 3) := by decide +kernel
theorem d_Gr_readFactor_31 : decode b_Gr_readFactor 31 = .ok (.iconst 1, 1) := by decide +kernel
theorem d_Gr_readFactor_32 : decode b_Gr_readFactor 32 = .ok (.iadd, 1) := by decide +kernel
theorem d_Gr_readFactor_33 : decode b_Gr_readFactor 33 = .ok (.putfield 37, 3) := by decide +kernel
theorem d_Gr_readFactor_36 : decode b_Gr_readFactor 36 = .ok (.aload_n 0, 1) := by decide +kernel
theorem d_Gr_readFactor_37 : decode b_Gr_readFactor 37 = .ok (.getfield 33, 3) := by decide +kernel
theorem d_Gr_readFactor_40 : decode b_Gr_readFactor 40 = .ok (.iconst 0, 1) := by decide +kernel
theorem d_Gr_readFactor_41 : decode b_Gr_readFactor 41 = .ok (.aload_n 0, 1) := by decide +kernel
theorem d_Gr_readFactor_42 : decode b_Gr_readFactor 42 = .ok (.getfield 21, 3) := by decide +kernel
theorem d_Gr_readFactor_45 : decode b_Gr_readFactor 45 = .ok (.getfield 106, 3) := by decide +kernel
theorem d_Gr_readFactor_48 : decode b_Gr_readFactor 48 = .ok (.iload_n 2, 1) := by decide +kernel
theorem d_Gr_readFactor_49 : decode b_Gr_readFactor 49 = .ok (.iaload, 1) := by decide +kernel
theorem d_Gr_readFactor_50 : decode b_Gr_readFactor 50 = .ok (.invokevirtual 75, 3) := by decide +kernel
theorem d_Gr_readFactor_53 : decode b_Gr_readFactor 53 = .ok (.iconst 1, 1) := by decide +kernel
theorem d_Gr_readFactor_54 : decode b_Gr_readFactor 54 = .ok (.ireturn, 1) := by decide +kernel
theorem d_Gr_readFactor_55 : decode b_Gr_readFactor 55 = .ok (.aload_n 0, 1) := by decide +kernel
theorem d_Gr_readFactor_56 : decode b_Gr_readFactor 56 = .ok (.iconst 4, 1) := by decide +kernel
theorem d_Gr_readFactor_57 : decode b_Gr_readFactor 57 = .ok (.invokevirtual 60, 3) := by decide +kernel
theorem d_Gr_readFactor_60 : decode b_Gr_readFactor 60 = .ok (.istore_n 3, 1) := by decide +kernel
theorem d_Gr_readFactor_61 : decode b_Gr_readFactor 61 = .ok (.iload_n 1, 1) := by decide +kernel
theorem d_Gr_readFactor_62 : decode b_Gr_readFactor 62 = .ok (.iconst 4, 1) := by decide +kernel
theorem d_Gr_readFactor_63 : decode b_Gr_readFactor 63 = .ok (.if_icmp .ge 52, 3) := by decide +kernel
theorem d_Gr_readFactor_66 : decode b_Gr_readFactor 66 = .ok (.aload_n 0, 1) := by decide +kernel
theorem d_Gr_readFactor_67 : decode b_Gr_readFactor 67 = .ok (.bipush 40, 2) := by decide +kernel
theorem d_Gr_readFactor_69 : decode b_Gr_readFactor 69 = .ok (.invokevirtual 84, 3) := by decide +kernel
theorem d_Gr_readFactor_72 : decode b_Gr_readFactor 72 = .ok (.ifCond .eq 43, 3) := by decide +kernel
theorem d_Gr_readFactor_75 : decode b_Gr_readFactor 75 = .ok (.iload_n 3, 1) := by decide +kernel
theorem d_Gr_readFactor_76 : decode b_Gr_readFactor 76 = .ok (.ifCond .eq 14, 3) := by decide +kernel
theorem d_Gr_readFactor_79 : decode b_Gr_readFactor 79 = .ok (.aload_n 0, 1) := by decide +kernel
theorem d_Gr_readFactor_80 : decode b_Gr_readFactor 80 = .ok (.iload_n 2, 1) := by decide +kernel
theorem d_Gr_readFactor_81 : decode b_Gr_readFactor 81 = .ok (.iload_n 1, 1) := by decide +kernel
theorem d_Gr_readFactor_82 : decode b_Gr_readFactor 82 = .ok (.iconst 1, 1) := by decide +kernel
theorem d_Gr_readFactor_83 : decode b_Gr_readFactor 83 = .ok (.iadd, 1) := by decide +kernel
theorem d_Gr_readFactor_84 : decode b_Gr_readFactor 84 = .ok (.invokevirtual 128, 3) := by decide +kernel
theorem d_Gr_readFactor_87 : decode b_Gr_readFactor 87 = .ok (.goto 27, 3) := by decide +kernel
theorem d_Gr_readFactor_90 : decode b_Gr_readFactor 90 = .ok (.aload_n 0, 1) := by decide +kernel
theorem d_Gr_readFactor_91 : decode b_Gr_readFactor 91 = .ok (.iload_n 1, 1) := by decide +kernel
theorem d_Gr_readFactor_92 : decode b_Gr_readFactor 92 = .ok (.iconst 1, 1) := by decide +kernel
theorem d_Gr_readFactor_93 : decode b_Gr_readFactor 93 = .ok (.iadd, 1) := by decide +kernel
theorem d_Gr_readFactor_94 : decode b_Gr_readFactor 94 = .ok (.invokevirtual 109, 3) := by decide +kernel
theorem d_Gr_readFactor_97 : decode b_Gr_readFactor 97 = .ok (.ifCond .eq 16, 3) := by decide +kernel
theorem d_Gr_readFactor_100 : decode b_Gr_readFactor 100 = .ok (.aload_n 0, 1) := by decide +kernel
theorem d_Gr_readFactor_101 : decode b_Gr_readFactor 101 = .ok (.bipush 41, 2) := by decide +kernel
theorem d_Gr_readFactor_103 : decode b_Gr_readFactor 103 = .ok (.invokevirtual 84, 3) := by decide +kernel
theorem d_Gr_readFactor_106 : decode b_Gr_readFactor 106 = .ok (.ifCond .eq 7, 3) := by decide +kernel
theorem d_Gr_readFactor_109 : decode b_Gr_readFactor 109 = .ok (.iconst 1, 1) := by decide +kernel
theorem d_Gr_readFactor_110 : decode b_Gr_readFactor 110 = .ok (.goto 4, 3) := by decide +kernel
theorem d_Gr_readFactor_113 : decode b_Gr_readFactor 113 = .ok (.iconst 0, 1) := by decide +kernel
theorem d_Gr_readFactor_114 : decode b_Gr_readFactor 114 = .ok (.ireturn, 1) := by decide +kernel
theorem d_Gr_readFactor_115 : decode b_Gr_readFactor 115 = .ok (.iload_n 3, 1) := by decide +kernel
theorem d_Gr_readFactor_116 : decode b_Gr_readFactor 116 = .ok (.ifCond .eq 12, 3) := by decide +kernel
theorem d_Gr_readFactor_119 : decode b_Gr_readFactor 119 = .ok (.aload_n 0, 1) := by decide +kernel
theorem d_Gr_readFactor_120 : decode b_Gr_readFactor 120 = .ok (.getfield 33, 3) := by decide +kernel
theorem d_Gr_readFactor_123 : decode b_Gr_readFactor 123 = .ok (.iconst 1, 1) := by decide +kernel
theorem d_Gr_readFactor_124 : decode b_Gr_readFactor 124 = .ok (.iload_n 2, 1) := by decide +kernel
theorem d_Gr_readFactor_125 : decode b_Gr_readFactor 125 = .ok (.invokevirtual 75, 3) := by decide +kernel
theorem d_Gr_readFactor_128 : decode b_Gr_readFactor 128 = .ok (.iload_n 3, 1) := by decide +kernel
theorem d_Gr_readFactor_129 : decode b_Gr_readFactor 129 = .ok (.ireturn, 1) := by decide +kernel
abbrev b_Gr_readCall : ByteArray := prog_5_method_13_code
def y_Gr_readCall : MethodName := ⟨"ProgramDesk$Grammar", "readCall", "(II)Z"⟩
theorem d_Gr_readCall_0 : decode b_Gr_readCall 0 = .ok (.aload_n 0, 1) := by decide +kernel
theorem d_Gr_readCall_1 : decode b_Gr_readCall 1 = .ok (.getfield 25, 3) := by decide +kernel
theorem d_Gr_readCall_4 : decode b_Gr_readCall 4 = .ok (.getfield 132, 3) := by decide +kernel
theorem d_Gr_readCall_7 : decode b_Gr_readCall 7 = .ok (.iload_n 1, 1) := by decide +kernel
theorem d_Gr_readCall_8 : decode b_Gr_readCall 8 = .ok (.bipush 6, 2) := by decide +kernel
theorem d_Gr_readCall_10 : decode b_Gr_readCall 10 = .ok (.iastore, 1) := by decide +kernel
theorem d_Gr_readCall_11 : decode b_Gr_readCall 11 = .ok (.aload_n 0, 1) := by decide +kernel
theorem d_Gr_readCall_12 : decode b_Gr_readCall 12 = .ok (.getfield 25, 3) := by decide +kernel
theorem d_Gr_readCall_15 : decode b_Gr_readCall 15 = .ok (.getfield 135, 3) := by decide +kernel
theorem d_Gr_readCall_18 : decode b_Gr_readCall 18 = .ok (.iload_n 1, 1) := by decide +kernel
theorem d_Gr_readCall_19 : decode b_Gr_readCall 19 = .ok (.iconst 0, 1) := by decide +kernel
theorem d_Gr_readCall_20 : decode b_Gr_readCall 20 = .ok (.iastore, 1) := by decide +kernel
theorem d_Gr_readCall_21 : decode b_Gr_readCall 21 = .ok (.aload_n 0, 1) := by decide +kernel
theorem d_Gr_readCall_22 : decode b_Gr_readCall 22 = .ok (.bipush 41, 2) := by decide +kernel
theorem d_Gr_readCall_24 : decode b_Gr_readCall 24 = .ok (.invokevirtual 84, 3) := by decide +kernel
theorem d_Gr_readCall_27 : decode b_Gr_readCall 27 = .ok (.istore_n 3, 1) := by decide +kernel
theorem d_Gr_readCall_28 : decode b_Gr_readCall 28 = .ok (.iconst 1, 1) := by decide +kernel
theorem d_Gr_readCall_29 : decode b_Gr_readCall 29 = .ok (.istore 4, 2) := by decide +kernel
theorem d_Gr_readCall_31 : decode b_Gr_readCall 31 = .ok (.iload 4, 2) := by decide +kernel
theorem d_Gr_readCall_33 : decode b_Gr_readCall 33 = .ok (.sipush 240, 3) := by decide +kernel
theorem d_Gr_readCall_36 : decode b_Gr_readCall 36 = .ok (.if_icmp .gt 56, 3) := by decide +kernel
theorem d_Gr_readCall_39 : decode b_Gr_readCall 39 = .ok (.iload_n 3, 1) := by decide +kernel
theorem d_Gr_readCall_40 : decode b_Gr_readCall 40 = .ok (.ifCond .ne 52, 3) := by decide +kernel
theorem d_Gr_readCall_43 : decode b_Gr_readCall 43 = .ok (.aload_n 0, 1) := by decide +kernel
theorem d_Gr_readCall_44 : decode b_Gr_readCall 44 = .ok (.iload_n 2, 1) := by decide +kernel
theorem d_Gr_readCall_45 : decode b_Gr_readCall 45 = .ok (.invokevirtual 109, 3) := by decide +kernel
theorem d_Gr_readCall_48 : decode b_Gr_readCall 48 = .ok (.ifCond .ne 5, 3) := by decide +kernel
theorem d_Gr_readCall_51 : decode b_Gr_readCall 51 = .ok (.iconst 0, 1) := by decide +kernel
theorem d_Gr_readCall_52 : decode b_Gr_readCall 52 = .ok (.ireturn, 1) := by decide +kernel
theorem d_Gr_readCall_53 : decode b_Gr_readCall 53 = .ok (.aload_n 0, 1) := by decide +kernel
theorem d_Gr_readCall_54 : decode b_Gr_readCall 54 = .ok (.getfield 25, 3) := by decide +kernel
theorem d_Gr_readCall_57 : decode b_Gr_readCall 57 = .ok (.getfield 135, 3) := by decide +kernel
theorem d_Gr_readCall_60 : decode b_Gr_readCall 60 = .ok (.iload_n 1, 1) := by decide +kernel
theorem d_Gr_readCall_61 : decode b_Gr_readCall 61 = .ok (.iload 4, 2) := by decide +kernel
theorem d_Gr_readCall_63 : decode b_Gr_readCall 63 = .ok (.iastore, 1) := by decide +kernel
theorem d_Gr_readCall_64 : decode b_Gr_readCall 64 = .ok (.aload_n 0, 1) := by decide +kernel
theorem d_Gr_readCall_65 : decode b_Gr_readCall 65 = .ok (.bipush 41, 2) := by decide +kernel
theorem d_Gr_readCall_67 : decode b_Gr_readCall 67 = .ok (.invokevirtual 84, 3) := by decide +kernel
theorem d_Gr_readCall_70 : decode b_Gr_readCall 70 = .ok (.istore_n 3, 1) := by decide +kernel
theorem d_Gr_readCall_71 : decode b_Gr_readCall 71 = .ok (.iload_n 3, 1) := by decide +kernel
theorem d_Gr_readCall_72 : decode b_Gr_readCall 72 = .ok (.ifCond .ne 14, 3) := by decide +kernel
theorem d_Gr_readCall_75 : decode b_Gr_readCall 75 = .ok (.aload_n 0, 1) := by decide +kernel
theorem d_Gr_readCall_76 : decode b_Gr_readCall 76 = .ok (.bipush 44, 2) := by decide +kernel
theorem d_Gr_readCall_78 : decode b_Gr_readCall 78 = .ok (.invokevirtual 84, 3) := by decide +kernel
theorem d_Gr_readCall_81 : decode b_Gr_readCall 81 = .ok (.ifCond .ne 5, 3) := by decide +kernel
theorem d_Gr_readCall_84 : decode b_Gr_readCall 84 = .ok (.iconst 0, 1) := by decide +kernel
theorem d_Gr_readCall_85 : decode b_Gr_readCall 85 = .ok (.ireturn, 1) := by decide +kernel
theorem d_Gr_readCall_86 : decode b_Gr_readCall 86 = .ok (.iinc 4 1, 3) := by decide +kernel
theorem d_Gr_readCall_89 : decode b_Gr_readCall 89 = .ok (.goto (-58), 3) := by decide +kernel
theorem d_Gr_readCall_92 : decode b_Gr_readCall 92 = .ok (.aload_n 0, 1) := by decide +kernel
theorem d_Gr_readCall_93 : decode b_Gr_readCall 93 = .ok (.getfield 33, 3) := by decide +kernel
theorem d_Gr_readCall_96 : decode b_Gr_readCall 96 = .ok (.iconst 3, 1) := by decide +kernel
theorem d_Gr_readCall_97 : decode b_Gr_readCall 97 = .ok (.iload_n 1, 1) := by decide +kernel
theorem d_Gr_readCall_98 : decode b_Gr_readCall 98 = .ok (.invokevirtual 75, 3) := by decide +kernel
theorem d_Gr_readCall_101 : decode b_Gr_readCall 101 = .ok (.iload_n 3, 1) := by decide +kernel
theorem d_Gr_readCall_102 : decode b_Gr_readCall 102 = .ok (.ireturn, 1) := by decide +kernel
abbrev b_Gr_takeSign : ByteArray := prog_5_method_14_code
def y_Gr_takeSign : MethodName := ⟨"ProgramDesk$Grammar", "takeSign", "(C)Z"⟩
theorem d_Gr_takeSign_0 : decode b_Gr_takeSign 0 = .ok (.aload_n 0, 1) := by decide +kernel
theorem d_Gr_takeSign_1 : decode b_Gr_takeSign 1 = .ok (.getfield 37, 3) := by decide +kernel
theorem d_Gr_takeSign_4 : decode b_Gr_takeSign 4 = .ok (.aload_n 0, 1) := by decide +kernel
theorem d_Gr_takeSign_5 : decode b_Gr_takeSign 5 = .ok (.getfield 41, 3) := by decide +kernel
theorem d_Gr_takeSign_8 : decode b_Gr_takeSign 8 = .ok (.if_icmp .ge 35, 3) := by decide +kernel
theorem d_Gr_takeSign_11 : decode b_Gr_takeSign 11 = .ok (.aload_n 0, 1) := by decide +kernel
theorem d_Gr_takeSign_12 : decode b_Gr_takeSign 12 = .ok (.getfield 21, 3) := by decide +kernel
theorem d_Gr_takeSign_15 : decode b_Gr_takeSign 15 = .ok (.getfield 100, 3) := by decide +kernel
theorem d_Gr_takeSign_18 : decode b_Gr_takeSign 18 = .ok (.aload_n 0, 1) := by decide +kernel
theorem d_Gr_takeSign_19 : decode b_Gr_takeSign 19 = .ok (.getfield 37, 3) := by decide +kernel
theorem d_Gr_takeSign_22 : decode b_Gr_takeSign 22 = .ok (.iaload, 1) := by decide +kernel
theorem d_Gr_takeSign_23 : decode b_Gr_takeSign 23 = .ok (.iconst 4, 1) := by decide +kernel
theorem d_Gr_takeSign_24 : decode b_Gr_takeSign 24 = .ok (.if_icmp .ne 19, 3) := by decide +kernel
theorem d_Gr_takeSign_27 : decode b_Gr_takeSign 27 = .ok (.aload_n 0, 1) := by decide +kernel
theorem d_Gr_takeSign_28 : decode b_Gr_takeSign 28 = .ok (.getfield 21, 3) := by decide +kernel
theorem d_Gr_takeSign_31 : decode b_Gr_takeSign 31 = .ok (.getfield 106, 3) := by decide +kernel
theorem d_Gr_takeSign_34 : decode b_Gr_takeSign 34 = .ok (.aload_n 0, 1) := by decide +kernel
theorem d_Gr_takeSign_35 : decode b_Gr_takeSign 35 = .ok (.getfield 37, 3) := by decide +kernel
theorem d_Gr_takeSign_38 : decode b_Gr_takeSign 38 = .ok (.iaload, 1) := by decide +kernel
theorem d_Gr_takeSign_39 : decode b_Gr_takeSign 39 = .ok (.iload_n 1, 1) := by decide +kernel
theorem d_Gr_takeSign_40 : decode b_Gr_takeSign 40 = .ok (.if_icmp .eq 5, 3) := by decide +kernel
theorem d_Gr_takeSign_43 : decode b_Gr_takeSign 43 = .ok (.iconst 0, 1) := by decide +kernel
theorem d_Gr_takeSign_44 : decode b_Gr_takeSign 44 = .ok (.ireturn, 1) := by decide +kernel
theorem d_Gr_takeSign_45 : decode b_Gr_takeSign 45 = .ok (.aload_n 0, 1) := by decide +kernel
theorem d_Gr_takeSign_46 : decode b_Gr_takeSign 46 = .ok (.dup, 1) := by decide +kernel
theorem d_Gr_takeSign_47 : decode b_Gr_takeSign 47 = .ok (.getfield 37, 3) := by decide +kernel
theorem d_Gr_takeSign_50 : decode b_Gr_takeSign 50 = .ok (.iconst 1, 1) := by decide +kernel
theorem d_Gr_takeSign_51 : decode b_Gr_takeSign 51 = .ok (.iadd, 1) := by decide +kernel
theorem d_Gr_takeSign_52 : decode b_Gr_takeSign 52 = .ok (.putfield 37, 3) := by decide +kernel
theorem d_Gr_takeSign_55 : decode b_Gr_takeSign 55 = .ok (.iconst 1, 1) := by decide +kernel
theorem d_Gr_takeSign_56 : decode b_Gr_takeSign 56 = .ok (.ireturn, 1) := by decide +kernel
abbrev b_Gr_takeName : ByteArray := prog_5_method_15_code
def y_Gr_takeName : MethodName := ⟨"ProgramDesk$Grammar", "takeName", "(I)Z"⟩
theorem d_Gr_takeName_0 : decode b_Gr_takeName 0 = .ok (.aload_n 0, 1) := by decide +kernel
theorem d_Gr_takeName_1 : decode b_Gr_takeName 1 = .ok (.getfield 37, 3) := by decide +kernel
theorem d_Gr_takeName_4 : decode b_Gr_takeName 4 = .ok (.aload_n 0, 1) := by decide +kernel
theorem d_Gr_takeName_5 : decode b_Gr_takeName 5 = .ok (.getfield 41, 3) := by decide +kernel
theorem d_Gr_takeName_8 : decode b_Gr_takeName 8 = .ok (.if_icmp .ge 19, 3) := by decide +kernel
theorem d_Gr_takeName_11 : decode b_Gr_takeName 11 = .ok (.aload_n 0, 1) := by decide +kernel
theorem d_Gr_takeName_12 : decode b_Gr_takeName 12 = .ok (.getfield 21, 3) := by decide +kernel
theorem d_Gr_takeName_15 : decode b_Gr_takeName 15 = .ok (.getfield 100, 3) := by decide +kernel
theorem d_Gr_takeName_18 : decode b_Gr_takeName 18 = .ok (.aload_n 0, 1) := by decide +kernel
theorem d_Gr_takeName_19 : decode b_Gr_takeName 19 = .ok (.getfield 37, 3) := by decide +kernel
theorem d_Gr_takeName_22 : decode b_Gr_takeName 22 = .ok (.iaload, 1) := by decide +kernel
theorem d_Gr_takeName_23 : decode b_Gr_takeName 23 = .ok (.iconst 2, 1) := by decide +kernel
theorem d_Gr_takeName_24 : decode b_Gr_takeName 24 = .ok (.if_icmp .eq 5, 3) := by decide +kernel
theorem d_Gr_takeName_27 : decode b_Gr_takeName 27 = .ok (.iconst 0, 1) := by decide +kernel
theorem d_Gr_takeName_28 : decode b_Gr_takeName 28 = .ok (.ireturn, 1) := by decide +kernel
theorem d_Gr_takeName_29 : decode b_Gr_takeName 29 = .ok (.aload_n 0, 1) := by decide +kernel
theorem d_Gr_takeName_30 : decode b_Gr_takeName 30 = .ok (.getfield 25, 3) := by decide +kernel
theorem d_Gr_takeName_33 : decode b_Gr_takeName 33 = .ok (.getfield 132, 3) := by decide +kernel
theorem d_Gr_takeName_36 : decode b_Gr_takeName 36 = .ok (.aload_n 0, 1) := by decide +kernel
theorem d_Gr_takeName_37 : decode b_Gr_takeName 37 = .ok (.getfield 37, 3) := by decide +kernel
theorem d_Gr_takeName_40 : decode b_Gr_takeName 40 = .ok (.iload_n 1, 1) := by decide +kernel
theorem d_Gr_takeName_41 : decode b_Gr_takeName 41 = .ok (.iastore, 1) := by decide +kernel
theorem d_Gr_takeName_42 : decode b_Gr_takeName 42 = .ok (.aload_n 0, 1) := by decide +kernel
theorem d_Gr_takeName_43 : decode b_Gr_takeName 43 = .ok (.dup, 1) := by decide +kernel
theorem d_Gr_takeName_44 : decode b_Gr_takeName 44 = .ok (.getfield 37, 3) := by decide +kernel
theorem d_Gr_takeName_47 : decode b_Gr_takeName 47 = .ok (.iconst 1, 1) := by decide +kernel
theorem d_Gr_takeName_48 : decode b_Gr_takeName 48 = .ok (.iadd, 1) := by decide +kernel
theorem d_Gr_takeName_49 : decode b_Gr_takeName 49 = .ok (.putfield 37, 3) := by decide +kernel
theorem d_Gr_takeName_52 : decode b_Gr_takeName 52 = .ok (.iconst 1, 1) := by decide +kernel
theorem d_Gr_takeName_53 : decode b_Gr_takeName 53 = .ok (.ireturn, 1) := by decide +kernel
abbrev b_Ma_init : ByteArray := prog_6_method_1_code
def y_Ma_init : MethodName := ⟨"ProgramDesk$Machine", "<init>", "()V"⟩
theorem d_Ma_init_0 : decode b_Ma_init 0 = .ok (.aload_n 0, 1) := by decide +kernel
theorem d_Ma_init_1 : decode b_Ma_init 1 = .ok (.invokespecial 3, 3) := by decide +kernel
theorem d_Ma_init_4 : decode b_Ma_init 4 = .ok (.aload_n 0, 1) := by decide +kernel
theorem d_Ma_init_5 : decode b_Ma_init 5 = .ok (.bipush 32, 2) := by decide +kernel
theorem d_Ma_init_7 : decode b_Ma_init 7 = .ok (.newarray .int, 2) := by decide +kernel
theorem d_Ma_init_9 : decode b_Ma_init 9 = .ok (.putfield 11, 3) := by decide +kernel
theorem d_Ma_init_12 : decode b_Ma_init 12 = .ok (.aload_n 0, 1) := by decide +kernel
theorem d_Ma_init_13 : decode b_Ma_init 13 = .ok (.sipush 1920, 3) := by decide +kernel
theorem d_Ma_init_16 : decode b_Ma_init 16 = .ok (.newarray .int, 2) := by decide +kernel
theorem d_Ma_init_18 : decode b_Ma_init 18 = .ok (.putfield 15, 3) := by decide +kernel
theorem d_Ma_init_21 : decode b_Ma_init 21 = .ok (.aload_n 0, 1) := by decide +kernel
theorem d_Ma_init_22 : decode b_Ma_init 22 = .ok (.sipush 960, 3) := by decide +kernel
theorem d_Ma_init_25 : decode b_Ma_init 25 = .ok (.newarray .int, 2) := by decide +kernel
theorem d_Ma_init_27 : decode b_Ma_init 27 = .ok (.putfield 18, 3) := by decide +kernel
theorem d_Ma_init_30 : decode b_Ma_init 30 = .ok (.aload_n 0, 1) := by decide +kernel
theorem d_Ma_init_31 : decode b_Ma_init 31 = .ok (.bipush 8, 2) := by decide +kernel
theorem d_Ma_init_33 : decode b_Ma_init 33 = .ok (.newarray .int, 2) := by decide +kernel
theorem d_Ma_init_35 : decode b_Ma_init 35 = .ok (.putfield 21, 3) := by decide +kernel
theorem d_Ma_init_38 : decode b_Ma_init 38 = .ok (.return_, 1) := by decide +kernel
abbrev b_Ma_perform : ByteArray := prog_6_method_2_code
def y_Ma_perform : MethodName := ⟨"ProgramDesk$Machine", "perform", "(LProgramDesk$Draft;II)I"⟩
theorem d_Ma_perform_0 : decode b_Ma_perform 0 = .ok (.aload_n 0, 1) := by decide +kernel
theorem d_Ma_perform_1 : decode b_Ma_perform 1 = .ok (.iconst 0, 1) := by decide +kernel
theorem d_Ma_perform_2 : decode b_Ma_perform 2 = .ok (.putfield 24, 3) := by decide +kernel
theorem d_Ma_perform_5 : decode b_Ma_perform 5 = .ok (.aload_n 0, 1) := by decide +kernel
theorem d_Ma_perform_6 : decode b_Ma_perform 6 = .ok (.iconst 0, 1) := by decide +kernel
theorem d_Ma_perform_7 : decode b_Ma_perform 7 = .ok (.putfield 28, 3) := by decide +kernel
theorem d_Ma_perform_10 : decode b_Ma_perform 10 = .ok (.aload_n 0, 1) := by decide +kernel
theorem d_Ma_perform_11 : decode b_Ma_perform 11 = .ok (.iconst 0, 1) := by decide +kernel
theorem d_Ma_perform_12 : decode b_Ma_perform 12 = .ok (.putfield 31, 3) := by decide +kernel
theorem d_Ma_perform_15 : decode b_Ma_perform 15 = .ok (.aload_n 0, 1) := by decide +kernel
theorem d_Ma_perform_16 : decode b_Ma_perform 16 = .ok (.iconst 0, 1) := by decide +kernel
theorem d_Ma_perform_17 : decode b_Ma_perform 17 = .ok (.putfield 34, 3) := by decide +kernel
theorem d_Ma_perform_20 : decode b_Ma_perform 20 = .ok (.aload_n 0, 1) := by decide +kernel
theorem d_Ma_perform_21 : decode b_Ma_perform 21 = .ok (.iconst 0, 1) := by decide +kernel
theorem d_Ma_perform_22 : decode b_Ma_perform 22 = .ok (.putfield 37, 3) := by decide +kernel
theorem d_Ma_perform_25 : decode b_Ma_perform 25 = .ok (.aload_n 0, 1) := by decide +kernel
theorem d_Ma_perform_26 : decode b_Ma_perform 26 = .ok (.iconst (-1), 1) := by decide +kernel
theorem d_Ma_perform_27 : decode b_Ma_perform 27 = .ok (.putfield 40, 3) := by decide +kernel
theorem d_Ma_perform_30 : decode b_Ma_perform 30 = .ok (.iconst 0, 1) := by decide +kernel
theorem d_Ma_perform_31 : decode b_Ma_perform 31 = .ok (.istore 4, 2) := by decide +kernel
theorem d_Ma_perform_33 : decode b_Ma_perform 33 = .ok (.iload 4, 2) := by decide +kernel
theorem d_Ma_perform_35 : decode b_Ma_perform 35 = .ok (.aload_n 1, 1) := by decide +kernel
theorem d_Ma_perform_36 : decode b_Ma_perform 36 = .ok (.getfield 43, 3) := by decide +kernel
theorem d_Ma_perform_39 : decode b_Ma_perform 39 = .ok (.getfield 49, 3) := by decide +kernel
theorem d_Ma_perform_42 : decode b_Ma_perform 42 = .ok (.iload_n 2, 1) := by decide +kernel
theorem d_Ma_perform_43 : decode b_Ma_perform 43 = .ok (.iaload, 1) := by decide +kernel
theorem d_Ma_perform_44 : decode b_Ma_perform 44 = .ok (.if_icmp .ge 23, 3) := by decide +kernel
theorem d_Ma_perform_47 : decode b_Ma_perform 47 = .ok (.aload_n 0, 1) := by decide +kernel
theorem d_Ma_perform_48 : decode b_Ma_perform 48 = .ok (.iload 4, 2) := by decide +kernel
theorem d_Ma_perform_50 : decode b_Ma_perform 50 = .ok (.ifCond .ne 7, 3) := by decide +kernel
theorem d_Ma_perform_53 : decode b_Ma_perform 53 = .ok (.iload_n 3, 1) := by decide +kernel
theorem d_Ma_perform_54 : decode b_Ma_perform 54 = .ok (.goto 4, 3) := by decide +kernel
theorem d_Ma_perform_57 : decode b_Ma_perform 57 = .ok (.iconst 0, 1) := by decide +kernel
theorem d_Ma_perform_58 : decode b_Ma_perform 58 = .ok (.invokevirtual 54, 3) := by decide +kernel
theorem d_Ma_perform_61 : decode b_Ma_perform 61 = .ok (.iinc 4 1, 3) := by decide +kernel
theorem d_Ma_perform_64 : decode b_Ma_perform 64 = .ok (.goto (-31), 3) := by decide +kernel
theorem d_Ma_perform_67 : decode b_Ma_perform 67 = .ok (.aload_n 0, 1) := by decide +kernel
theorem d_Ma_perform_68 : decode b_Ma_perform 68 = .ok (.aload_n 1, 1) := by decide +kernel
theorem d_Ma_perform_69 : decode b_Ma_perform 69 = .ok (.getfield 43, 3) := by decide +kernel
theorem d_Ma_perform_72 : decode b_Ma_perform 72 = .ok (.iload_n 2, 1) := by decide +kernel
theorem d_Ma_perform_73 : decode b_Ma_perform 73 = .ok (.invokevirtual 58, 3) := by decide +kernel
theorem d_Ma_perform_76 : decode b_Ma_perform 76 = .ok (.iconst 0, 1) := by decide +kernel
theorem d_Ma_perform_77 : decode b_Ma_perform 77 = .ok (.istore 4, 2) := by decide +kernel
theorem d_Ma_perform_79 : decode b_Ma_perform 79 = .ok (.iload 4, 2) := by decide +kernel
theorem d_Ma_perform_81 : decode b_Ma_perform 81 = .ok (.ldc 62, 2) := by decide +kernel
theorem d_Ma_perform_83 : decode b_Ma_perform 83 = .ok (.if_icmp .ge 60, 3) := by decide +kernel
theorem d_Ma_perform_86 : decode b_Ma_perform 86 = .ok (.aload_n 0, 1) := by decide +kernel
theorem d_Ma_perform_87 : decode b_Ma_perform 87 = .ok (.getfield 40, 3) := by decide +kernel
theorem d_Ma_perform_90 : decode b_Ma_perform 90 = .ok (.iconst (-1), 1) := by decide +kernel
theorem d_Ma_perform_91 : decode b_Ma_perform 91 = .ok (.if_icmp .ne 52, 3) := by decide +kernel
theorem d_Ma_perform_94 : decode b_Ma_perform 94 = .ok (.aload_n 0, 1) := by decide +kernel
theorem d_Ma_perform_95 : decode b_Ma_perform 95 = .ok (.getfield 63, 3) := by decide +kernel
theorem d_Ma_perform_98 : decode b_Ma_perform 98 = .ok (.aload_n 1, 1) := by decide +kernel
theorem d_Ma_perform_99 : decode b_Ma_perform 99 = .ok (.getfield 66, 3) := by decide +kernel
theorem d_Ma_perform_102 : decode b_Ma_perform 102 = .ok (.getfield 70, 3) := by decide +kernel
theorem d_Ma_perform_105 : decode b_Ma_perform 105 = .ok (.if_icmp .ge 38, 3) := by decide +kernel
theorem d_Ma_perform_108 : decode b_Ma_perform 108 = .ok (.aload_n 0, 1) := by decide +kernel
theorem d_Ma_perform_109 : decode b_Ma_perform 109 = .ok (.aload_n 1, 1) := by decide +kernel
theorem d_Ma_perform_110 : decode b_Ma_perform 110 = .ok (.aload_n 1, 1) := by decide +kernel
theorem d_Ma_perform_111 : decode b_Ma_perform 111 = .ok (.getfield 66, 3) := by decide +kernel
theorem d_Ma_perform_114 : decode b_Ma_perform 114 = .ok (.getfield 75, 3) := by decide +kernel
theorem d_Ma_perform_117 : decode b_Ma_perform 117 = .ok (.aload_n 0, 1) := by decide +kernel
theorem d_Ma_perform_118 : decode b_Ma_perform 118 = .ok (.getfield 63, 3) := by decide +kernel
theorem d_Ma_perform_121 : decode b_Ma_perform 121 = .ok (.iaload, 1) := by decide +kernel
theorem d_Ma_perform_122 : decode b_Ma_perform 122 = .ok (.aload_n 1, 1) := by decide +kernel
theorem d_Ma_perform_123 : decode b_Ma_perform 123 = .ok (.getfield 66, 3) := by decide +kernel
theorem d_Ma_perform_126 : decode b_Ma_perform 126 = .ok (.getfield 78, 3) := by decide +kernel
theorem d_Ma_perform_129 : decode b_Ma_perform 129 = .ok (.aload_n 0, 1) := by decide +kernel
theorem d_Ma_perform_130 : decode b_Ma_perform 130 = .ok (.getfield 63, 3) := by decide +kernel
theorem d_Ma_perform_133 : decode b_Ma_perform 133 = .ok (.iaload, 1) := by decide +kernel
theorem d_Ma_perform_134 : decode b_Ma_perform 134 = .ok (.invokevirtual 81, 3) := by decide +kernel
theorem d_Ma_perform_137 : decode b_Ma_perform 137 = .ok (.iinc 4 1, 3) := by decide +kernel
theorem d_Ma_perform_140 : decode b_Ma_perform 140 = .ok (.goto (-61), 3) := by decide +kernel
theorem d_Ma_perform_143 : decode b_Ma_perform 143 = .ok (.aload_n 0, 1) := by decide +kernel
theorem d_Ma_perform_144 : decode b_Ma_perform 144 = .ok (.getfield 40, 3) := by decide +kernel
theorem d_Ma_perform_147 : decode b_Ma_perform 147 = .ok (.ireturn, 1) := by decide +kernel
abbrev b_Ma_advance : ByteArray := prog_6_method_3_code
def y_Ma_advance : MethodName := ⟨"ProgramDesk$Machine", "advance", "(LProgramDesk$Draft;II)V"⟩
theorem d_Ma_advance_0 : decode b_Ma_advance 0 = .ok (.aload_n 0, 1) := by decide +kernel
theorem d_Ma_advance_1 : decode b_Ma_advance 1 = .ok (.dup, 1) := by decide +kernel
theorem d_Ma_advance_2 : decode b_Ma_advance 2 = .ok (.getfield 63, 3) := by decide +kernel
theorem d_Ma_advance_5 : decode b_Ma_advance 5 = .ok (.iconst 1, 1) := by decide +kernel
theorem d_Ma_advance_6 : decode b_Ma_advance 6 = .ok (.iadd, 1) := by decide +kernel
theorem d_Ma_advance_7 : decode b_Ma_advance 7 = .ok (.putfield 63, 3) := by decide +kernel
theorem d_Ma_advance_10 : decode b_Ma_advance 10 = .ok (.iload_n 2, 1) := by decide +kernel
theorem d_Ma_advance_11 : decode b_Ma_advance 11 = .ok (.tableswitch 186 0 8 #[49, 57, 82, 107, 134, 149, 156, 164, 175], 49) := by decide +kernel
theorem d_Ma_advance_60 : decode b_Ma_advance 60 = .ok (.aload_n 0, 1) := by decide +kernel
theorem d_Ma_advance_61 : decode b_Ma_advance 61 = .ok (.iload_n 3, 1) := by decide +kernel
theorem d_Ma_advance_62 : decode b_Ma_advance 62 = .ok (.invokevirtual 54, 3) := by decide +kernel
theorem d_Ma_advance_65 : decode b_Ma_advance 65 = .ok (.goto 137, 3) := by decide +kernel
theorem d_Ma_advance_68 : decode b_Ma_advance 68 = .ok (.aload_n 0, 1) := by decide +kernel
theorem d_Ma_advance_69 : decode b_Ma_advance 69 = .ok (.aload_n 0, 1) := by decide +kernel
theorem d_Ma_advance_70 : decode b_Ma_advance 70 = .ok (.getfield 15, 3) := by decide +kernel
theorem d_Ma_advance_73 : decode b_Ma_advance 73 = .ok (.aload_n 0, 1) := by decide +kernel
theorem d_Ma_advance_74 : decode b_Ma_advance 74 = .ok (.aload_n 1, 1) := by decide +kernel
theorem d_Ma_advance_75 : decode b_Ma_advance 75 = .ok (.getfield 85, 3) := by decide +kernel
theorem d_Ma_advance_78 : decode b_Ma_advance 78 = .ok (.getfield 89, 3) := by decide +kernel
theorem d_Ma_advance_81 : decode b_Ma_advance 81 = .ok (.iload_n 3, 1) := by decide +kernel
theorem d_Ma_advance_82 : decode b_Ma_advance 82 = .ok (.iaload, 1) := by decide +kernel
theorem d_Ma_advance_83 : decode b_Ma_advance 83 = .ok (.invokevirtual 94, 3) := by decide +kernel
theorem d_Ma_advance_86 : decode b_Ma_advance 86 = .ok (.iaload, 1) := by decide +kernel
theorem d_Ma_advance_87 : decode b_Ma_advance 87 = .ok (.invokevirtual 54, 3) := by decide +kernel
theorem d_Ma_advance_90 : decode b_Ma_advance 90 = .ok (.goto 112, 3) := by decide +kernel
theorem d_Ma_advance_93 : decode b_Ma_advance 93 = .ok (.aload_n 0, 1) := by decide +kernel
theorem d_Ma_advance_94 : decode b_Ma_advance 94 = .ok (.getfield 15, 3) := by decide +kernel
theorem d_Ma_advance_97 : decode b_Ma_advance 97 = .ok (.aload_n 0, 1) := by decide +kernel
theorem d_Ma_advance_98 : decode b_Ma_advance 98 = .ok (.aload_n 1, 1) := by decide +kernel
theorem d_Ma_advance_99 : decode b_Ma_advance 99 = .ok (.getfield 85, 3) := by decide +kernel
theorem d_Ma_advance_102 : decode b_Ma_advance 102 = .ok (.getfield 89, 3) := by decide +kernel
theorem d_Ma_advance_105 : decode b_Ma_advance 105 = .ok (.iload_n 3, 1) := by decide +kernel
theorem d_Ma_advance_106 : decode b_Ma_advance 106 = .ok (.iaload, 1) := by decide +kernel
theorem d_Ma_advance_107 : decode b_Ma_advance 107 = .ok (.invokevirtual 94, 3) := by decide +kernel
theorem d_Ma_advance_110 : decode b_Ma_advance 110 = .ok (.aload_n 0, 1) := by decide +kernel
theorem d_Ma_advance_111 : decode b_Ma_advance 111 = .ok (.invokevirtual 98, 3) := by decide +kernel
theorem d_Ma_advance_114 : decode b_Ma_advance 114 = .ok (.iastore, 1) := by decide +kernel
theorem d_Ma_advance_115 : decode b_Ma_advance 115 = .ok (.goto 87, 3) := by decide +kernel
theorem d_Ma_advance_118 : decode b_Ma_advance 118 = .ok (.aload_n 0, 1) := by decide +kernel
theorem d_Ma_advance_119 : decode b_Ma_advance 119 = .ok (.aload_n 1, 1) := by decide +kernel
theorem d_Ma_advance_120 : decode b_Ma_advance 120 = .ok (.getfield 43, 3) := by decide +kernel
theorem d_Ma_advance_123 : decode b_Ma_advance 123 = .ok (.aload_n 1, 1) := by decide +kernel
theorem d_Ma_advance_124 : decode b_Ma_advance 124 = .ok (.getfield 43, 3) := by decide +kernel
theorem d_Ma_advance_127 : decode b_Ma_advance 127 = .ok (.aload_n 1, 1) := by decide +kernel
theorem d_Ma_advance_128 : decode b_Ma_advance 128 = .ok (.getfield 102, 3) := by decide +kernel
theorem d_Ma_advance_131 : decode b_Ma_advance 131 = .ok (.getfield 106, 3) := by decide +kernel
theorem d_Ma_advance_134 : decode b_Ma_advance 134 = .ok (.iload_n 3, 1) := by decide +kernel
theorem d_Ma_advance_135 : decode b_Ma_advance 135 = .ok (.iaload, 1) := by decide +kernel
theorem d_Ma_advance_136 : decode b_Ma_advance 136 = .ok (.invokevirtual 111, 3) := by decide +kernel
theorem d_Ma_advance_139 : decode b_Ma_advance 139 = .ok (.invokevirtual 58, 3) := by decide +kernel
theorem d_Ma_advance_142 : decode b_Ma_advance 142 = .ok (.goto 60, 3) := by decide +kernel
theorem d_Ma_advance_145 : decode b_Ma_advance 145 = .ok (.aload_n 0, 1) := by decide +kernel
theorem d_Ma_advance_146 : decode b_Ma_advance 146 = .ok (.invokevirtual 98, 3) := by decide +kernel
theorem d_Ma_advance_149 : decode b_Ma_advance 149 = .ok (.ifCond .ne 53, 3) := by decide +kernel
theorem d_Ma_advance_152 : decode b_Ma_advance 152 = .ok (.aload_n 0, 1) := by decide +kernel
theorem d_Ma_advance_153 : decode b_Ma_advance 153 = .ok (.iload_n 3, 1) := by decide +kernel
theorem d_Ma_advance_154 : decode b_Ma_advance 154 = .ok (.putfield 63, 3) := by decide +kernel
theorem d_Ma_advance_157 : decode b_Ma_advance 157 = .ok (.goto 45, 3) := by decide +kernel
theorem d_Ma_advance_160 : decode b_Ma_advance 160 = .ok (.aload_n 0, 1) := by decide +kernel
theorem d_Ma_advance_161 : decode b_Ma_advance 161 = .ok (.invokevirtual 114, 3) := by decide +kernel
theorem d_Ma_advance_164 : decode b_Ma_advance 164 = .ok (.goto 38, 3) := by decide +kernel
theorem d_Ma_advance_167 : decode b_Ma_advance 167 = .ok (.aload_n 0, 1) := by decide +kernel
theorem d_Ma_advance_168 : decode b_Ma_advance 168 = .ok (.iload_n 3, 1) := by decide +kernel
theorem d_Ma_advance_169 : decode b_Ma_advance 169 = .ok (.putfield 63, 3) := by decide +kernel
theorem d_Ma_advance_172 : decode b_Ma_advance 172 = .ok (.goto 30, 3) := by decide +kernel
theorem d_Ma_advance_175 : decode b_Ma_advance 175 = .ok (.aload_n 0, 1) := by decide +kernel
theorem d_Ma_advance_176 : decode b_Ma_advance 176 = .ok (.aload_n 0, 1) := by decide +kernel
theorem d_Ma_advance_177 : decode b_Ma_advance 177 = .ok (.invokevirtual 98, 3) := by decide +kernel
theorem d_Ma_advance_180 : decode b_Ma_advance 180 = .ok (.invokevirtual 117, 3) := by decide +kernel
theorem d_Ma_advance_183 : decode b_Ma_advance 183 = .ok (.goto 19, 3) := by decide +kernel
theorem d_Ma_advance_186 : decode b_Ma_advance 186 = .ok (.aload_n 0, 1) := by decide +kernel
theorem d_Ma_advance_187 : decode b_Ma_advance 187 = .ok (.aload_n 0, 1) := by decide +kernel
theorem d_Ma_advance_188 : decode b_Ma_advance 188 = .ok (.invokevirtual 98, 3) := by decide +kernel
theorem d_Ma_advance_191 : decode b_Ma_advance 191 = .ok (.invokevirtual 120, 3) := by decide +kernel
theorem d_Ma_advance_194 : decode b_Ma_advance 194 = .ok (.goto 8, 3) := by decide +kernel
theorem d_Ma_advance_197 : decode b_Ma_advance 197 = .ok (.aload_n 0, 1) := by decide +kernel
theorem d_Ma_advance_198 : decode b_Ma_advance 198 = .ok (.iload_n 2, 1) := by decide +kernel
theorem d_Ma_advance_199 : decode b_Ma_advance 199 = .ok (.invokevirtual 123, 3) := by decide +kernel
theorem d_Ma_advance_202 : decode b_Ma_advance 202 = .ok (.return_, 1) := by decide +kernel
abbrev b_Ma_combine : ByteArray := prog_6_method_4_code
def y_Ma_combine : MethodName := ⟨"ProgramDesk$Machine", "combine", "(I)V"⟩
theorem d_Ma_combine_0 : decode b_Ma_combine 0 = .ok (.aload_n 0, 1) := by decide +kernel
theorem d_Ma_combine_1 : decode b_Ma_combine 1 = .ok (.invokevirtual 98, 3) := by decide +kernel
theorem d_Ma_combine_4 : decode b_Ma_combine 4 = .ok (.istore_n 2, 1) := by decide +kernel
theorem d_Ma_combine_5 : decode b_Ma_combine 5 = .ok (.aload_n 0, 1) := by decide +kernel
theorem d_Ma_combine_6 : decode b_Ma_combine 6 = .ok (.invokevirtual 98, 3) := by decide +kernel
theorem d_Ma_combine_9 : decode b_Ma_combine 9 = .ok (.istore_n 3, 1) := by decide +kernel
theorem d_Ma_combine_10 : decode b_Ma_combine 10 = .ok (.iload_n 1, 1) := by decide +kernel
theorem d_Ma_combine_11 : decode b_Ma_combine 11 = .ok (.tableswitch 59 42 45 #[49, 29, 59, 39], 29) := by decide +kernel
theorem d_Ma_combine_40 : decode b_Ma_combine 40 = .ok (.aload_n 0, 1) := by decide +kernel
theorem d_Ma_combine_41 : decode b_Ma_combine 41 = .ok (.iload_n 3, 1) := by decide +kernel
theorem d_Ma_combine_42 : decode b_Ma_combine 42 = .ok (.iload_n 2, 1) := by decide +kernel
theorem d_Ma_combine_43 : decode b_Ma_combine 43 = .ok (.iadd, 1) := by decide +kernel
theorem d_Ma_combine_44 : decode b_Ma_combine 44 = .ok (.invokevirtual 54, 3) := by decide +kernel
theorem d_Ma_combine_47 : decode b_Ma_combine 47 = .ok (.goto 37, 3) := by decide +kernel
theorem d_Ma_combine_50 : decode b_Ma_combine 50 = .ok (.aload_n 0, 1) := by decide +kernel
theorem d_Ma_combine_51 : decode b_Ma_combine 51 = .ok (.iload_n 3, 1) := by decide +kernel
theorem d_Ma_combine_52 : decode b_Ma_combine 52 = .ok (.iload_n 2, 1) := by decide +kernel
theorem d_Ma_combine_53 : decode b_Ma_combine 53 = .ok (.isub, 1) := by decide +kernel
theorem d_Ma_combine_54 : decode b_Ma_combine 54 = .ok (.invokevirtual 54, 3) := by decide +kernel
theorem d_Ma_combine_57 : decode b_Ma_combine 57 = .ok (.goto 27, 3) := by decide +kernel
theorem d_Ma_combine_60 : decode b_Ma_combine 60 = .ok (.aload_n 0, 1) := by decide +kernel
theorem d_Ma_combine_61 : decode b_Ma_combine 61 = .ok (.iload_n 3, 1) := by decide +kernel
theorem d_Ma_combine_62 : decode b_Ma_combine 62 = .ok (.iload_n 2, 1) := by decide +kernel
theorem d_Ma_combine_63 : decode b_Ma_combine 63 = .ok (.imul, 1) := by decide +kernel
theorem d_Ma_combine_64 : decode b_Ma_combine 64 = .ok (.invokevirtual 54, 3) := by decide +kernel
theorem d_Ma_combine_67 : decode b_Ma_combine 67 = .ok (.goto 17, 3) := by decide +kernel
theorem d_Ma_combine_70 : decode b_Ma_combine 70 = .ok (.aload_n 0, 1) := by decide +kernel
theorem d_Ma_combine_71 : decode b_Ma_combine 71 = .ok (.iload_n 3, 1) := by decide +kernel
theorem d_Ma_combine_72 : decode b_Ma_combine 72 = .ok (.iload_n 2, 1) := by decide +kernel
theorem d_Ma_combine_73 : decode b_Ma_combine 73 = .ok (.if_icmp .ge 7, 3) := by decide +kernel
theorem d_Ma_combine_76 : decode b_Ma_combine 76 = .ok (.iconst 1, 1) := by decide +kernel
theorem d_Ma_combine_77 : decode b_Ma_combine 77 = .ok (.goto 4, 3) := by decide +kernel
theorem d_Ma_combine_80 : decode b_Ma_combine 80 = .ok (.iconst 0, 1) := by decide +kernel
theorem d_Ma_combine_81 : decode b_Ma_combine 81 = .ok (.invokevirtual 54, 3) := by decide +kernel
theorem d_Ma_combine_84 : decode b_Ma_combine 84 = .ok (.return_, 1) := by decide +kernel
abbrev b_Ma_begin : ByteArray := prog_6_method_5_code
def y_Ma_begin : MethodName := ⟨"ProgramDesk$Machine", "begin", "(LProgramDesk$Functions;I)V"⟩
theorem d_Ma_begin_0 : decode b_Ma_begin 0 = .ok (.aload_n 0, 1) := by decide +kernel
theorem d_Ma_begin_1 : decode b_Ma_begin 1 = .ok (.getfield 34, 3) := by decide +kernel
theorem d_Ma_begin_4 : decode b_Ma_begin 4 = .ok (.bipush 8, 2) := by decide +kernel
theorem d_Ma_begin_6 : decode b_Ma_begin 6 = .ok (.if_icmp .lt 9, 3) := by decide +kernel
theorem d_Ma_begin_9 : decode b_Ma_begin 9 = .ok (.aload_n 0, 1) := by decide +kernel
theorem d_Ma_begin_10 : decode b_Ma_begin 10 = .ok (.iconst 2, 1) := by decide +kernel
theorem d_Ma_begin_11 : decode b_Ma_begin 11 = .ok (.putfield 40, 3) := by decide +kernel
theorem d_Ma_begin_14 : decode b_Ma_begin 14 = .ok (.return_, 1) := by decide +kernel
theorem d_Ma_begin_15 : decode b_Ma_begin 15 = .ok (.aload_n 0, 1) := by decide +kernel
theorem d_Ma_begin_16 : decode b_Ma_begin 16 = .ok (.invokevirtual 114, 3) := by decide +kernel
theorem d_Ma_begin_19 : decode b_Ma_begin 19 = .ok (.aload_n 0, 1) := by decide +kernel
theorem d_Ma_begin_20 : decode b_Ma_begin 20 = .ok (.getfield 40, 3) := by decide +kernel
theorem d_Ma_begin_23 : decode b_Ma_begin 23 = .ok (.iconst (-1), 1) := by decide +kernel
theorem d_Ma_begin_24 : decode b_Ma_begin 24 = .ok (.if_icmp .eq 4, 3) := by decide +kernel
theorem d_Ma_begin_27 : decode b_Ma_begin 27 = .ok (.return_, 1) := by decide +kernel
theorem d_Ma_begin_28 : decode b_Ma_begin 28 = .ok (.aload_n 0, 1) := by decide +kernel
theorem d_Ma_begin_29 : decode b_Ma_begin 29 = .ok (.getfield 21, 3) := by decide +kernel
theorem d_Ma_begin_32 : decode b_Ma_begin 32 = .ok (.aload_n 0, 1) := by decide +kernel
theorem d_Ma_begin_33 : decode b_Ma_begin 33 = .ok (.getfield 34, 3) := by decide +kernel
theorem d_Ma_begin_36 : decode b_Ma_begin 36 = .ok (.aload_n 0, 1) := by decide +kernel
theorem d_Ma_begin_37 : decode b_Ma_begin 37 = .ok (.getfield 63, 3) := by decide +kernel
theorem d_Ma_begin_40 : decode b_Ma_begin 40 = .ok (.iastore, 1) := by decide +kernel
theorem d_Ma_begin_41 : decode b_Ma_begin 41 = .ok (.aload_n 0, 1) := by decide +kernel
theorem d_Ma_begin_42 : decode b_Ma_begin 42 = .ok (.dup, 1) := by decide +kernel
theorem d_Ma_begin_43 : decode b_Ma_begin 43 = .ok (.getfield 34, 3) := by decide +kernel
theorem d_Ma_begin_46 : decode b_Ma_begin 46 = .ok (.iconst 1, 1) := by decide +kernel
theorem d_Ma_begin_47 : decode b_Ma_begin 47 = .ok (.iadd, 1) := by decide +kernel
theorem d_Ma_begin_48 : decode b_Ma_begin 48 = .ok (.putfield 34, 3) := by decide +kernel
theorem d_Ma_begin_51 : decode b_Ma_begin 51 = .ok (.aload_n 1, 1) := by decide +kernel
theorem d_Ma_begin_52 : decode b_Ma_begin 52 = .ok (.getfield 49, 3) := by decide +kernel
theorem d_Ma_begin_55 : decode b_Ma_begin 55 = .ok (.iload_n 2, 1) := by decide +kernel
theorem d_Ma_begin_56 : decode b_Ma_begin 56 = .ok (.iaload, 1) := by decide +kernel
theorem d_Ma_begin_57 : decode b_Ma_begin 57 = .ok (.iconst 1, 1) := by decide +kernel
theorem d_Ma_begin_58 : decode b_Ma_begin 58 = .ok (.isub, 1) := by decide +kernel
theorem d_Ma_begin_59 : decode b_Ma_begin 59 = .ok (.istore_n 3, 1) := by decide +kernel
theorem d_Ma_begin_60 : decode b_Ma_begin 60 = .ok (.iload_n 3, 1) := by decide +kernel
theorem d_Ma_begin_61 : decode b_Ma_begin 61 = .ok (.ifCond .lt 34, 3) := by decide +kernel
theorem d_Ma_begin_64 : decode b_Ma_begin 64 = .ok (.aload_n 0, 1) := by decide +kernel
theorem d_Ma_begin_65 : decode b_Ma_begin 65 = .ok (.getfield 15, 3) := by decide +kernel
theorem d_Ma_begin_68 : decode b_Ma_begin 68 = .ok (.aload_n 0, 1) := by decide +kernel
theorem d_Ma_begin_69 : decode b_Ma_begin 69 = .ok (.aload_n 1, 1) := by decide +kernel
theorem d_Ma_begin_70 : decode b_Ma_begin 70 = .ok (.getfield 126, 3) := by decide +kernel
theorem d_Ma_begin_73 : decode b_Ma_begin 73 = .ok (.iload_n 2, 1) := by decide +kernel
theorem d_Ma_begin_74 : decode b_Ma_begin 74 = .ok (.iaload, 1) := by decide +kernel
theorem d_Ma_begin_75 : decode b_Ma_begin 75 = .ok (.iconst 2, 1) := by decide +kernel
theorem d_Ma_begin_76 : decode b_Ma_begin 76 = .ok (.iadd, 1) := by decide +kernel
theorem d_Ma_begin_77 : decode b_Ma_begin 77 = .ok (.iconst 2, 1) := by decide +kernel
theorem d_Ma_begin_78 : decode b_Ma_begin 78 = .ok (.iload_n 3, 1) := by decide +kernel
theorem d_Ma_begin_79 : decode b_Ma_begin 79 = .ok (.imul, 1) := by decide +kernel
theorem d_Ma_begin_80 : decode b_Ma_begin 80 = .ok (.iadd, 1) := by decide +kernel
theorem d_Ma_begin_81 : decode b_Ma_begin 81 = .ok (.invokevirtual 94, 3) := by decide +kernel
theorem d_Ma_begin_84 : decode b_Ma_begin 84 = .ok (.aload_n 0, 1) := by decide +kernel
theorem d_Ma_begin_85 : decode b_Ma_begin 85 = .ok (.invokevirtual 98, 3) := by decide +kernel
theorem d_Ma_begin_88 : decode b_Ma_begin 88 = .ok (.iastore, 1) := by decide +kernel
theorem d_Ma_begin_89 : decode b_Ma_begin 89 = .ok (.iinc 3 (-1), 3) := by decide +kernel
theorem d_Ma_begin_92 : decode b_Ma_begin 92 = .ok (.goto (-32), 3) := by decide +kernel
theorem d_Ma_begin_95 : decode b_Ma_begin 95 = .ok (.aload_n 0, 1) := by decide +kernel
theorem d_Ma_begin_96 : decode b_Ma_begin 96 = .ok (.aload_n 1, 1) := by decide +kernel
theorem d_Ma_begin_97 : decode b_Ma_begin 97 = .ok (.getfield 129, 3) := by decide +kernel
theorem d_Ma_begin_100 : decode b_Ma_begin 100 = .ok (.iload_n 2, 1) := by decide +kernel
theorem d_Ma_begin_101 : decode b_Ma_begin 101 = .ok (.iaload, 1) := by decide +kernel
theorem d_Ma_begin_102 : decode b_Ma_begin 102 = .ok (.putfield 63, 3) := by decide +kernel
theorem d_Ma_begin_105 : decode b_Ma_begin 105 = .ok (.return_, 1) := by decide +kernel
abbrev b_Ma_end : ByteArray := prog_6_method_6_code
def y_Ma_end : MethodName := ⟨"ProgramDesk$Machine", "end", "(I)V"⟩
theorem d_Ma_end_0 : decode b_Ma_end 0 = .ok (.aload_n 0, 1) := by decide +kernel
theorem d_Ma_end_1 : decode b_Ma_end 1 = .ok (.dup, 1) := by decide +kernel
theorem d_Ma_end_2 : decode b_Ma_end 2 = .ok (.getfield 34, 3) := by decide +kernel
theorem d_Ma_end_5 : decode b_Ma_end 5 = .ok (.iconst 1, 1) := by decide +kernel
theorem d_Ma_end_6 : decode b_Ma_end 6 = .ok (.isub, 1) := by decide +kernel
theorem d_Ma_end_7 : decode b_Ma_end 7 = .ok (.putfield 34, 3) := by decide +kernel
theorem d_Ma_end_10 : decode b_Ma_end 10 = .ok (.aload_n 0, 1) := by decide +kernel
theorem d_Ma_end_11 : decode b_Ma_end 11 = .ok (.getfield 34, 3) := by decide +kernel
theorem d_Ma_end_14 : decode b_Ma_end 14 = .ok (.ifCond .ne 16, 3) := by decide +kernel
theorem d_Ma_end_17 : decode b_Ma_end 17 = .ok (.aload_n 0, 1) := by decide +kernel
theorem d_Ma_end_18 : decode b_Ma_end 18 = .ok (.iload_n 1, 1) := by decide +kernel
theorem d_Ma_end_19 : decode b_Ma_end 19 = .ok (.putfield 28, 3) := by decide +kernel
theorem d_Ma_end_22 : decode b_Ma_end 22 = .ok (.aload_n 0, 1) := by decide +kernel
theorem d_Ma_end_23 : decode b_Ma_end 23 = .ok (.iconst 0, 1) := by decide +kernel
theorem d_Ma_end_24 : decode b_Ma_end 24 = .ok (.putfield 40, 3) := by decide +kernel
theorem d_Ma_end_27 : decode b_Ma_end 27 = .ok (.goto 21, 3) := by decide +kernel
theorem d_Ma_end_30 : decode b_Ma_end 30 = .ok (.aload_n 0, 1) := by decide +kernel
theorem d_Ma_end_31 : decode b_Ma_end 31 = .ok (.aload_n 0, 1) := by decide +kernel
theorem d_Ma_end_32 : decode b_Ma_end 32 = .ok (.getfield 21, 3) := by decide +kernel
theorem d_Ma_end_35 : decode b_Ma_end 35 = .ok (.aload_n 0, 1) := by decide +kernel
theorem d_Ma_end_36 : decode b_Ma_end 36 = .ok (.getfield 34, 3) := by decide +kernel
theorem d_Ma_end_39 : decode b_Ma_end 39 = .ok (.iaload, 1) := by decide +kernel
theorem d_Ma_end_40 : decode b_Ma_end 40 = .ok (.putfield 63, 3) := by decide +kernel
theorem d_Ma_end_43 : decode b_Ma_end 43 = .ok (.aload_n 0, 1) := by decide +kernel
theorem d_Ma_end_44 : decode b_Ma_end 44 = .ok (.iload_n 1, 1) := by decide +kernel
theorem d_Ma_end_45 : decode b_Ma_end 45 = .ok (.invokevirtual 54, 3) := by decide +kernel
theorem d_Ma_end_48 : decode b_Ma_end 48 = .ok (.return_, 1) := by decide +kernel
abbrev b_Ma_countOne : ByteArray := prog_6_method_7_code
def y_Ma_countOne : MethodName := ⟨"ProgramDesk$Machine", "countOne", "()V"⟩
theorem d_Ma_countOne_0 : decode b_Ma_countOne 0 = .ok (.aload_n 0, 1) := by decide +kernel
theorem d_Ma_countOne_1 : decode b_Ma_countOne 1 = .ok (.getfield 37, 3) := by decide +kernel
theorem d_Ma_countOne_4 : decode b_Ma_countOne 4 = .ok (.sipush 300, 3) := by decide +kernel
theorem d_Ma_countOne_7 : decode b_Ma_countOne 7 = .ok (.if_icmp .lt 11, 3) := by decide +kernel
theorem d_Ma_countOne_10 : decode b_Ma_countOne 10 = .ok (.aload_n 0, 1) := by decide +kernel
theorem d_Ma_countOne_11 : decode b_Ma_countOne 11 = .ok (.iconst 1, 1) := by decide +kernel
theorem d_Ma_countOne_12 : decode b_Ma_countOne 12 = .ok (.putfield 40, 3) := by decide +kernel
theorem d_Ma_countOne_15 : decode b_Ma_countOne 15 = .ok (.goto 13, 3) := by decide +kernel
theorem d_Ma_countOne_18 : decode b_Ma_countOne 18 = .ok (.aload_n 0, 1) := by decide +kernel
theorem d_Ma_countOne_19 : decode b_Ma_countOne 19 = .ok (.dup, 1) := by decide +kernel
theorem d_Ma_countOne_20 : decode b_Ma_countOne 20 = .ok (.getfield 37, 3) := by decide +kernel
theorem d_Ma_countOne_23 : decode b_Ma_countOne 23 = .ok (.iconst 1, 1) := by decide +kernel
theorem d_Ma_countOne_24 : decode b_Ma_countOne 24 = .ok (.iadd, 1) := by decide +kernel
theorem d_Ma_countOne_25 : decode b_Ma_countOne 25 = .ok (.putfield 37, 3) := by decide +kernel
theorem d_Ma_countOne_28 : decode b_Ma_countOne 28 = .ok (.return_, 1) := by decide +kernel
abbrev b_Ma_keep : ByteArray := prog_6_method_8_code
def y_Ma_keep : MethodName := ⟨"ProgramDesk$Machine", "keep", "(I)V"⟩
theorem d_Ma_keep_0 : decode b_Ma_keep 0 = .ok (.aload_n 0, 1) := by decide +kernel
theorem d_Ma_keep_1 : decode b_Ma_keep 1 = .ok (.getfield 24, 3) := by decide +kernel
theorem d_Ma_keep_4 : decode b_Ma_keep 4 = .ok (.bipush 32, 2) := by decide +kernel
theorem d_Ma_keep_6 : decode b_Ma_keep 6 = .ok (.if_icmp .ge 13, 3) := by decide +kernel
theorem d_Ma_keep_9 : decode b_Ma_keep 9 = .ok (.aload_n 0, 1) := by decide +kernel
theorem d_Ma_keep_10 : decode b_Ma_keep 10 = .ok (.getfield 11, 3) := by decide +kernel
theorem d_Ma_keep_13 : decode b_Ma_keep 13 = .ok (.aload_n 0, 1) := by decide +kernel
theorem d_Ma_keep_14 : decode b_Ma_keep 14 = .ok (.getfield 24, 3) := by decide +kernel
theorem d_Ma_keep_17 : decode b_Ma_keep 17 = .ok (.iload_n 1, 1) := by decide +kernel
theorem d_Ma_keep_18 : decode b_Ma_keep 18 = .ok (.iastore, 1) := by decide +kernel
theorem d_Ma_keep_19 : decode b_Ma_keep 19 = .ok (.aload_n 0, 1) := by decide +kernel
theorem d_Ma_keep_20 : decode b_Ma_keep 20 = .ok (.dup, 1) := by decide +kernel
theorem d_Ma_keep_21 : decode b_Ma_keep 21 = .ok (.getfield 24, 3) := by decide +kernel
theorem d_Ma_keep_24 : decode b_Ma_keep 24 = .ok (.iconst 1, 1) := by decide +kernel
theorem d_Ma_keep_25 : decode b_Ma_keep 25 = .ok (.iadd, 1) := by decide +kernel
theorem d_Ma_keep_26 : decode b_Ma_keep 26 = .ok (.putfield 24, 3) := by decide +kernel
theorem d_Ma_keep_29 : decode b_Ma_keep 29 = .ok (.return_, 1) := by decide +kernel
abbrev b_Ma_slot : ByteArray := prog_6_method_9_code
def y_Ma_slot : MethodName := ⟨"ProgramDesk$Machine", "slot", "(I)I"⟩
theorem d_Ma_slot_0 : decode b_Ma_slot 0 = .ok (.aload_n 0, 1) := by decide +kernel
theorem d_Ma_slot_1 : decode b_Ma_slot 1 = .ok (.getfield 34, 3) := by decide +kernel
theorem d_Ma_slot_4 : decode b_Ma_slot 4 = .ok (.iconst 1, 1) := by decide +kernel
theorem d_Ma_slot_5 : decode b_Ma_slot 5 = .ok (.isub, 1) := by decide +kernel
theorem d_Ma_slot_6 : decode b_Ma_slot 6 = .ok (.sipush 240, 3) := by decide +kernel
theorem d_Ma_slot_9 : decode b_Ma_slot 9 = .ok (.imul, 1) := by decide +kernel
theorem d_Ma_slot_10 : decode b_Ma_slot 10 = .ok (.iload_n 1, 1) := by decide +kernel
theorem d_Ma_slot_11 : decode b_Ma_slot 11 = .ok (.iadd, 1) := by decide +kernel
theorem d_Ma_slot_12 : decode b_Ma_slot 12 = .ok (.ireturn, 1) := by decide +kernel
abbrev b_Ma_push : ByteArray := prog_6_method_10_code
def y_Ma_push : MethodName := ⟨"ProgramDesk$Machine", "push", "(I)V"⟩
theorem d_Ma_push_0 : decode b_Ma_push 0 = .ok (.aload_n 0, 1) := by decide +kernel
theorem d_Ma_push_1 : decode b_Ma_push 1 = .ok (.getfield 31, 3) := by decide +kernel
theorem d_Ma_push_4 : decode b_Ma_push 4 = .ok (.aload_n 0, 1) := by decide +kernel
theorem d_Ma_push_5 : decode b_Ma_push 5 = .ok (.getfield 18, 3) := by decide +kernel
theorem d_Ma_push_8 : decode b_Ma_push 8 = .ok (.arraylength, 1) := by decide +kernel
theorem d_Ma_push_9 : decode b_Ma_push 9 = .ok (.if_icmp .ge 23, 3) := by decide +kernel
theorem d_Ma_push_12 : decode b_Ma_push 12 = .ok (.aload_n 0, 1) := by decide +kernel
theorem d_Ma_push_13 : decode b_Ma_push 13 = .ok (.getfield 18, 3) := by decide +kernel
theorem d_Ma_push_16 : decode b_Ma_push 16 = .ok (.aload_n 0, 1) := by decide +kernel
theorem d_Ma_push_17 : decode b_Ma_push 17 = .ok (.getfield 31, 3) := by decide +kernel
theorem d_Ma_push_20 : decode b_Ma_push 20 = .ok (.iload_n 1, 1) := by decide +kernel
theorem d_Ma_push_21 : decode b_Ma_push 21 = .ok (.iastore, 1) := by decide +kernel
theorem d_Ma_push_22 : decode b_Ma_push 22 = .ok (.aload_n 0, 1) := by decide +kernel
theorem d_Ma_push_23 : decode b_Ma_push 23 = .ok (.dup, 1) := by decide +kernel
theorem d_Ma_push_24 : decode b_Ma_push 24 = .ok (.getfield 31, 3) := by decide +kernel
theorem d_Ma_push_27 : decode b_Ma_push 27 = .ok (.iconst 1, 1) := by decide +kernel
theorem d_Ma_push_28 : decode b_Ma_push 28 = .ok (.iadd, 1) := by decide +kernel
theorem d_Ma_push_29 : decode b_Ma_push 29 = .ok (.putfield 31, 3) := by decide +kernel
theorem d_Ma_push_32 : decode b_Ma_push 32 = .ok (.return_, 1) := by decide +kernel
abbrev b_Ma_pop : ByteArray := prog_6_method_11_code
def y_Ma_pop : MethodName := ⟨"ProgramDesk$Machine", "pop", "()I"⟩
theorem d_Ma_pop_0 : decode b_Ma_pop 0 = .ok (.aload_n 0, 1) := by decide +kernel
theorem d_Ma_pop_1 : decode b_Ma_pop 1 = .ok (.getfield 31, 3) := by decide +kernel
theorem d_Ma_pop_4 : decode b_Ma_pop 4 = .ok (.ifCond .ne 5, 3) := by decide +kernel
theorem d_Ma_pop_7 : decode b_Ma_pop 7 = .ok (.iconst 0, 1) := by decide +kernel
theorem d_Ma_pop_8 : decode b_Ma_pop 8 = .ok (.ireturn, 1) := by decide +kernel
theorem d_Ma_pop_9 : decode b_Ma_pop 9 = .ok (.aload_n 0, 1) := by decide +kernel
theorem d_Ma_pop_10 : decode b_Ma_pop 10 = .ok (.dup, 1) := by decide +kernel
theorem d_Ma_pop_11 : decode b_Ma_pop 11 = .ok (.getfield 31, 3) := by decide +kernel
theorem d_Ma_pop_14 : decode b_Ma_pop 14 = .ok (.iconst 1, 1) := by decide +kernel
theorem d_Ma_pop_15 : decode b_Ma_pop 15 = .ok (.isub, 1) := by decide +kernel
theorem d_Ma_pop_16 : decode b_Ma_pop 16 = .ok (.putfield 31, 3) := by decide +kernel
theorem d_Ma_pop_19 : decode b_Ma_pop 19 = .ok (.aload_n 0, 1) := by decide +kernel
theorem d_Ma_pop_20 : decode b_Ma_pop 20 = .ok (.getfield 18, 3) := by decide +kernel
theorem d_Ma_pop_23 : decode b_Ma_pop 23 = .ok (.aload_n 0, 1) := by decide +kernel
theorem d_Ma_pop_24 : decode b_Ma_pop 24 = .ok (.getfield 31, 3) := by decide +kernel
theorem d_Ma_pop_27 : decode b_Ma_pop 27 = .ok (.iaload, 1) := by decide +kernel
theorem d_Ma_pop_28 : decode b_Ma_pop 28 = .ok (.ireturn, 1) := by decide +kernel
abbrev b_Na_init : ByteArray := prog_7_method_1_code
def y_Na_init : MethodName := ⟨"ProgramDesk$Names", "<init>", "(LProgramDesk$Tokens;LProgramDesk$Functions;)V"⟩
theorem d_Na_init_0 : decode b_Na_init 0 = .ok (.aload_n 0, 1) := by decide +kernel
theorem d_Na_init_1 : decode b_Na_init 1 = .ok (.invokespecial 3, 3) := by decide +kernel
theorem d_Na_init_4 : decode b_Na_init 4 = .ok (.aload_n 0, 1) := by decide +kernel
theorem d_Na_init_5 : decode b_Na_init 5 = .ok (.sipush 240, 3) := by decide +kernel
theorem d_Na_init_8 : decode b_Na_init 8 = .ok (.newarray .int, 2) := by decide +kernel
theorem d_Na_init_10 : decode b_Na_init 10 = .ok (.putfield 9, 3) := by decide +kernel
theorem d_Na_init_13 : decode b_Na_init 13 = .ok (.aload_n 0, 1) := by decide +kernel
theorem d_Na_init_14 : decode b_Na_init 14 = .ok (.sipush 240, 3) := by decide +kernel
theorem d_Na_init_17 : decode b_Na_init 17 = .ok (.newarray .int, 2) := by decide +kernel
theorem d_Na_init_19 : decode b_Na_init 19 = .ok (.putfield 15, 3) := by decide +kernel
theorem d_Na_init_22 : decode b_Na_init 22 = .ok (.aload_n 0, 1) := by decide +kernel
theorem d_Na_init_23 : decode b_Na_init 23 = .ok (.sipush 240, 3) := by decide +kernel
theorem d_Na_init_26 : decode b_Na_init 26 = .ok (.newarray .int, 2) := by decide +kernel
theorem d_Na_init_28 : decode b_Na_init 28 = .ok (.putfield 18, 3) := by decide +kernel
theorem d_Na_init_31 : decode b_Na_init 31 = .ok (.aload_n 0, 1) := by decide +kernel
theorem d_Na_init_32 : decode b_Na_init 32 = .ok (.sipush 240, 3) := by decide +kernel
theorem d_Na_init_35 : decode b_Na_init 35 = .ok (.newarray .int, 2) := by decide +kernel
theorem d_Na_init_37 : decode b_Na_init 37 = .ok (.putfield 21, 3) := by decide +kernel
theorem d_Na_init_40 : decode b_Na_init 40 = .ok (.aload_n 0, 1) := by decide +kernel
theorem d_Na_init_41 : decode b_Na_init 41 = .ok (.sipush 240, 3) := by decide +kernel
theorem d_Na_init_44 : decode b_Na_init 44 = .ok (.newarray .int, 2) := by decide +kernel
theorem d_Na_init_46 : decode b_Na_init 46 = .ok (.putfield 24, 3) := by decide +kernel
theorem d_Na_init_49 : decode b_Na_init 49 = .ok (.aload_n 0, 1) := by decide +kernel
theorem d_Na_init_50 : decode b_Na_init 50 = .ok (.sipush 240, 3) := by decide +kernel
theorem d_Na_init_53 : decode b_Na_init 53 = .ok (.newarray .int, 2) := by decide +kernel
theorem d_Na_init_55 : decode b_Na_init 55 = .ok (.putfield 27, 3) := by decide +kernel
theorem d_Na_init_58 : decode b_Na_init 58 = .ok (.aload_n 0, 1) := by decide +kernel
theorem d_Na_init_59 : decode b_Na_init 59 = .ok (.sipush 240, 3) := by decide +kernel
theorem d_Na_init_62 : decode b_Na_init 62 = .ok (.newarray .int, 2) := by decide +kernel
theorem d_Na_init_64 : decode b_Na_init 64 = .ok (.putfield 30, 3) := by decide +kernel
theorem d_Na_init_67 : decode b_Na_init 67 = .ok (.aload_n 0, 1) := by decide +kernel
theorem d_Na_init_68 : decode b_Na_init 68 = .ok (.aload_n 1, 1) := by decide +kernel
theorem d_Na_init_69 : decode b_Na_init 69 = .ok (.putfield 33, 3) := by decide +kernel
theorem d_Na_init_72 : decode b_Na_init 72 = .ok (.aload_n 0, 1) := by decide +kernel
theorem d_Na_init_73 : decode b_Na_init 73 = .ok (.aload_n 2, 1) := by decide +kernel
theorem d_Na_init_74 : decode b_Na_init 74 = .ok (.putfield 37, 3) := by decide +kernel
theorem d_Na_init_77 : decode b_Na_init 77 = .ok (.return_, 1) := by decide +kernel
abbrev b_Na_clear : ByteArray := prog_7_method_2_code
def y_Na_clear : MethodName := ⟨"ProgramDesk$Names", "clear", "()V"⟩
theorem d_Na_clear_0 : decode b_Na_clear 0 = .ok (.iconst 0, 1) := by decide +kernel
theorem d_Na_clear_1 : decode b_Na_clear 1 = .ok (.istore_n 1, 1) := by decide +kernel
theorem d_Na_clear_2 : decode b_Na_clear 2 = .ok (.iload_n 1, 1) := by decide +kernel
theorem d_Na_clear_3 : decode b_Na_clear 3 = .ok (.aload_n 0, 1) := by decide +kernel
theorem d_Na_clear_4 : decode b_Na_clear 4 = .ok (.getfield 33, 3) := by decide +kernel
theorem d_Na_clear_7 : decode b_Na_clear 7 = .ok (.getfield 41, 3) := by decide +kernel
theorem d_Na_clear_10 : decode b_Na_clear 10 = .ok (.if_icmp .ge 30, 3) := by decide +kernel
theorem d_Na_clear_13 : decode b_Na_clear 13 = .ok (.aload_n 0, 1) := by decide +kernel
theorem d_Na_clear_14 : decode b_Na_clear 14 = .ok (.getfield 9, 3) := by decide +kernel
theorem d_Na_clear_17 : decode b_Na_clear 17 = .ok (.iload_n 1, 1) := by decide +kernel
theorem d_Na_clear_18 : decode b_Na_clear 18 = .ok (.iconst 0, 1) := by decide +kernel
theorem d_Na_clear_19 : decode b_Na_clear 19 = .ok (.iastore, 1) := by decide +kernel
theorem d_Na_clear_20 : decode b_Na_clear 20 = .ok (.aload_n 0, 1) := by decide +kernel
theorem d_Na_clear_21 : decode b_Na_clear 21 = .ok (.getfield 15, 3) := by decide +kernel
theorem d_Na_clear_24 : decode b_Na_clear 24 = .ok (.iload_n 1, 1) := by decide +kernel
theorem d_Na_clear_25 : decode b_Na_clear 25 = .ok (.iconst (-1), 1) := by decide +kernel
theorem d_Na_clear_26 : decode b_Na_clear 26 = .ok (.iastore, 1) := by decide +kernel
theorem d_Na_clear_27 : decode b_Na_clear 27 = .ok (.aload_n 0, 1) := by decide +kernel
theorem d_Na_clear_28 : decode b_Na_clear 28 = .ok (.getfield 18, 3) := by decide +kernel
theorem d_Na_clear_31 : decode b_Na_clear 31 = .ok (.iload_n 1, 1) := by decide +kernel
theorem d_Na_clear_32 : decode b_Na_clear 32 = .ok (.iconst (-1), 1) := by decide +kernel
theorem d_Na_clear_33 : decode b_Na_clear 33 = .ok (.iastore, 1) := by decide +kernel
theorem d_Na_clear_34 : decode b_Na_clear 34 = .ok (.iinc 1 1, 3) := by decide +kernel
theorem d_Na_clear_37 : decode b_Na_clear 37 = .ok (.goto (-35), 3) := by decide +kernel
theorem d_Na_clear_40 : decode b_Na_clear 40 = .ok (.return_, 1) := by decide +kernel
abbrev b_Na_bind : ByteArray := prog_7_method_3_code
def y_Na_bind : MethodName := ⟨"ProgramDesk$Names", "bind", "(II)V"⟩
theorem d_Na_bind_0 : decode b_Na_bind 0 = .ok (.iload_n 1, 1) := by decide +kernel
theorem d_Na_bind_1 : decode b_Na_bind 1 = .ok (.istore_n 3, 1) := by decide +kernel
theorem d_Na_bind_2 : decode b_Na_bind 2 = .ok (.iload_n 3, 1) := by decide +kernel
theorem d_Na_bind_3 : decode b_Na_bind 3 = .ok (.iload_n 2, 1) := by decide +kernel
theorem d_Na_bind_4 : decode b_Na_bind 4 = .ok (.if_icmp .ge 134, 3) := by decide +kernel
theorem d_Na_bind_7 : decode b_Na_bind 7 = .ok (.aload_n 0, 1) := by decide +kernel
theorem d_Na_bind_8 : decode b_Na_bind 8 = .ok (.getfield 9, 3) := by decide +kernel
theorem d_Na_bind_11 : decode b_Na_bind 11 = .ok (.iload_n 3, 1) := by decide +kernel
theorem d_Na_bind_12 : decode b_Na_bind 12 = .ok (.iaload, 1) := by decide +kernel
theorem d_Na_bind_13 : decode b_Na_bind 13 = .ok (.tableswitch 119 1 6 #[39, 65, 65, 88, 88, 111], 39) := by decide +kernel
theorem d_Na_bind_52 : decode b_Na_bind 52 = .ok (.aload_n 0, 1) := by decide +kernel
theorem d_Na_bind_53 : decode b_Na_bind 53 = .ok (.iload_n 3, 1) := by decide +kernel
theorem d_Na_bind_54 : decode b_Na_bind 54 = .ok (.aload_n 0, 1) := by decide +kernel
theorem d_Na_bind_55 : decode b_Na_bind 55 = .ok (.getfield 37, 3) := by decide +kernel
theorem d_Na_bind_58 : decode b_Na_bind 58 = .ok (.iload_n 3, 1) := by decide +kernel
theorem d_Na_bind_59 : decode b_Na_bind 59 = .ok (.invokevirtual 47, 3) := by decide +kernel
theorem d_Na_bind_62 : decode b_Na_bind 62 = .ok (.ifCond .eq 7, 3) := by decide +kernel
theorem d_Na_bind_65 : decode b_Na_bind 65 = .ok (.iload_n 3, 1) := by decide +kernel
theorem d_Na_bind_66 : decode b_Na_bind 66 = .ok (.goto 4, 3) := by decide +kernel
theorem d_Na_bind_69 : decode b_Na_bind 69 = .ok (.iconst (-1), 1) := by decide +kernel
theorem d_Na_bind_70 : decode b_Na_bind 70 = .ok (.bipush 6, 2) := by decide +kernel
theorem d_Na_bind_72 : decode b_Na_bind 72 = .ok (.invokevirtual 53, 3) := by decide +kernel
theorem d_Na_bind_75 : decode b_Na_bind 75 = .ok (.goto 57, 3) := by decide +kernel
theorem d_Na_bind_78 : decode b_Na_bind 78 = .ok (.aload_n 0, 1) := by decide +kernel
theorem d_Na_bind_79 : decode b_Na_bind 79 = .ok (.iload_n 3, 1) := by decide +kernel
theorem d_Na_bind_80 : decode b_Na_bind 80 = .ok (.aload_n 0, 1) := by decide +kernel
theorem d_Na_bind_81 : decode b_Na_bind 81 = .ok (.iload_n 3, 1) := by decide +kernel
theorem d_Na_bind_82 : decode b_Na_bind 82 = .ok (.iload_n 1, 1) := by decide +kernel
theorem d_Na_bind_83 : decode b_Na_bind 83 = .ok (.invokevirtual 57, 3) := by decide +kernel
theorem d_Na_bind_86 : decode b_Na_bind 86 = .ok (.ifCond .eq 7, 3) := by decide +kernel
theorem d_Na_bind_89 : decode b_Na_bind 89 = .ok (.iconst (-1), 1) := by decide +kernel
theorem d_Na_bind_90 : decode b_Na_bind 90 = .ok (.goto 4, 3) := by decide +kernel
theorem d_Na_bind_93 : decode b_Na_bind 93 = .ok (.iload_n 3, 1) := by decide +kernel
theorem d_Na_bind_94 : decode b_Na_bind 94 = .ok (.iconst 2, 1) := by decide +kernel
theorem d_Na_bind_95 : decode b_Na_bind 95 = .ok (.invokevirtual 53, 3) := by decide +kernel
theorem d_Na_bind_98 : decode b_Na_bind 98 = .ok (.goto 34, 3) := by decide +kernel
theorem d_Na_bind_101 : decode b_Na_bind 101 = .ok (.aload_n 0, 1) := by decide +kernel
theorem d_Na_bind_102 : decode b_Na_bind 102 = .ok (.iload_n 3, 1) := by decide +kernel
theorem d_Na_bind_103 : decode b_Na_bind 103 = .ok (.aload_n 0, 1) := by decide +kernel
theorem d_Na_bind_104 : decode b_Na_bind 104 = .ok (.iload_n 3, 1) := by decide +kernel
theorem d_Na_bind_105 : decode b_Na_bind 105 = .ok (.aload_n 0, 1) := by decide +kernel
theorem d_Na_bind_106 : decode b_Na_bind 106 = .ok (.getfield 33, 3) := by decide +kernel
theorem d_Na_bind_109 : decode b_Na_bind 109 = .ok (.getfield 61, 3) := by decide +kernel
theorem d_Na_bind_112 : decode b_Na_bind 112 = .ok (.iload_n 3, 1) := by decide +kernel
theorem d_Na_bind_113 : decode b_Na_bind 113 = .ok (.iaload, 1) := by decide +kernel
theorem d_Na_bind_114 : decode b_Na_bind 114 = .ok (.invokevirtual 64, 3) := by decide +kernel
theorem d_Na_bind_117 : decode b_Na_bind 117 = .ok (.iconst 3, 1) := by decide +kernel
theorem d_Na_bind_118 : decode b_Na_bind 118 = .ok (.invokevirtual 53, 3) := by decide +kernel
theorem d_Na_bind_121 : decode b_Na_bind 121 = .ok (.goto 11, 3) := by decide +kernel
theorem d_Na_bind_124 : decode b_Na_bind 124 = .ok (.aload_n 0, 1) := by decide +kernel
theorem d_Na_bind_125 : decode b_Na_bind 125 = .ok (.iload_n 3, 1) := by decide +kernel
theorem d_Na_bind_126 : decode b_Na_bind 126 = .ok (.invokevirtual 68, 3) := by decide +kernel
theorem d_Na_bind_129 : decode b_Na_bind 129 = .ok (.goto 3, 3) := by decide +kernel
theorem d_Na_bind_132 : decode b_Na_bind 132 = .ok (.iinc 3 1, 3) := by decide +kernel
theorem d_Na_bind_135 : decode b_Na_bind 135 = .ok (.goto (-133), 3) := by decide +kernel
theorem d_Na_bind_138 : decode b_Na_bind 138 = .ok (.return_, 1) := by decide +kernel
abbrev b_Na_bindOr : ByteArray := prog_7_method_4_code
def y_Na_bindOr : MethodName := ⟨"ProgramDesk$Names", "bindOr", "(III)V"⟩
theorem d_Na_bindOr_0 : decode b_Na_bindOr 0 = .ok (.aload_n 0, 1) := by decide +kernel
theorem d_Na_bindOr_1 : decode b_Na_bindOr 1 = .ok (.getfield 15, 3) := by decide +kernel
theorem d_Na_bindOr_4 : decode b_Na_bindOr 4 = .ok (.iload_n 1, 1) := by decide +kernel
theorem d_Na_bindOr_5 : decode b_Na_bindOr 5 = .ok (.iload_n 2, 1) := by decide +kernel
theorem d_Na_bindOr_6 : decode b_Na_bindOr 6 = .ok (.iastore, 1) := by decide +kernel
theorem d_Na_bindOr_7 : decode b_Na_bindOr 7 = .ok (.iload_n 2, 1) := by decide +kernel
theorem d_Na_bindOr_8 : decode b_Na_bindOr 8 = .ok (.iconst (-1), 1) := by decide +kernel
theorem d_Na_bindOr_9 : decode b_Na_bindOr 9 = .ok (.if_icmp .ne 10, 3) := by decide +kernel
theorem d_Na_bindOr_12 : decode b_Na_bindOr 12 = .ok (.aload_n 0, 1) := by decide +kernel
theorem d_Na_bindOr_13 : decode b_Na_bindOr 13 = .ok (.getfield 18, 3) := by decide +kernel
theorem d_Na_bindOr_16 : decode b_Na_bindOr 16 = .ok (.iload_n 1, 1) := by decide +kernel
theorem d_Na_bindOr_17 : decode b_Na_bindOr 17 = .ok (.iload_n 3, 1) := by decide +kernel
theorem d_Na_bindOr_18 : decode b_Na_bindOr 18 = .ok (.iastore, 1) := by decide +kernel
theorem d_Na_bindOr_19 : decode b_Na_bindOr 19 = .ok (.return_, 1) := by decide +kernel
abbrev b_Na_bindCall : ByteArray := prog_7_method_5_code
def y_Na_bindCall : MethodName := ⟨"ProgramDesk$Names", "bindCall", "(I)V"⟩
theorem d_Na_bindCall_0 : decode b_Na_bindCall 0 = .ok (.aload_n 0, 1) := by decide +kernel
theorem d_Na_bindCall_1 : decode b_Na_bindCall 1 = .ok (.getfield 37, 3) := by decide +kernel
theorem d_Na_bindCall_4 : decode b_Na_bindCall 4 = .ok (.aload_n 0, 1) := by decide +kernel
theorem d_Na_bindCall_5 : decode b_Na_bindCall 5 = .ok (.getfield 33, 3) := by decide +kernel
theorem d_Na_bindCall_8 : decode b_Na_bindCall 8 = .ok (.getfield 61, 3) := by decide +kernel
theorem d_Na_bindCall_11 : decode b_Na_bindCall 11 = .ok (.iload_n 1, 1) := by decide +kernel
theorem d_Na_bindCall_12 : decode b_Na_bindCall 12 = .ok (.iaload, 1) := by decide +kernel
theorem d_Na_bindCall_13 : decode b_Na_bindCall 13 = .ok (.invokevirtual 72, 3) := by decide +kernel
theorem d_Na_bindCall_16 : decode b_Na_bindCall 16 = .ok (.istore_n 2, 1) := by decide +kernel
theorem d_Na_bindCall_17 : decode b_Na_bindCall 17 = .ok (.iload_n 2, 1) := by decide +kernel
theorem d_Na_bindCall_18 : decode b_Na_bindCall 18 = .ok (.iconst (-1), 1) := by decide +kernel
theorem d_Na_bindCall_19 : decode b_Na_bindCall 19 = .ok (.if_icmp .ne 11, 3) := by decide +kernel
theorem d_Na_bindCall_22 : decode b_Na_bindCall 22 = .ok (.aload_n 0, 1) := by decide +kernel
theorem d_Na_bindCall_23 : decode b_Na_bindCall 23 = .ok (.getfield 18, 3) := by decide +kernel
theorem d_Na_bindCall_26 : decode b_Na_bindCall 26 = .ok (.iload_n 1, 1) := by decide +kernel
theorem d_Na_bindCall_27 : decode b_Na_bindCall 27 = .ok (.iconst 4, 1) := by decide +kernel
theorem d_Na_bindCall_28 : decode b_Na_bindCall 28 = .ok (.iastore, 1) := by decide +kernel
theorem d_Na_bindCall_29 : decode b_Na_bindCall 29 = .ok (.return_, 1) := by decide +kernel
theorem d_Na_bindCall_30 : decode b_Na_bindCall 30 = .ok (.aload_n 0, 1) := by decide +kernel
theorem d_Na_bindCall_31 : decode b_Na_bindCall 31 = .ok (.getfield 15, 3) := by decide +kernel
theorem d_Na_bindCall_34 : decode b_Na_bindCall 34 = .ok (.iload_n 1, 1) := by decide +kernel
theorem d_Na_bindCall_35 : decode b_Na_bindCall 35 = .ok (.aload_n 0, 1) := by decide +kernel
theorem d_Na_bindCall_36 : decode b_Na_bindCall 36 = .ok (.getfield 37, 3) := by decide +kernel
theorem d_Na_bindCall_39 : decode b_Na_bindCall 39 = .ok (.getfield 76, 3) := by decide +kernel
theorem d_Na_bindCall_42 : decode b_Na_bindCall 42 = .ok (.iload_n 2, 1) := by decide +kernel
theorem d_Na_bindCall_43 : decode b_Na_bindCall 43 = .ok (.iaload, 1) := by decide +kernel
theorem d_Na_bindCall_44 : decode b_Na_bindCall 44 = .ok (.iastore, 1) := by decide +kernel
theorem d_Na_bindCall_45 : decode b_Na_bindCall 45 = .ok (.aload_n 0, 1) := by decide +kernel
theorem d_Na_bindCall_46 : decode b_Na_bindCall 46 = .ok (.getfield 30, 3) := by decide +kernel
theorem d_Na_bindCall_49 : decode b_Na_bindCall 49 = .ok (.iload_n 1, 1) := by decide +kernel
theorem d_Na_bindCall_50 : decode b_Na_bindCall 50 = .ok (.iaload, 1) := by decide +kernel
theorem d_Na_bindCall_51 : decode b_Na_bindCall 51 = .ok (.aload_n 0, 1) := by decide +kernel
theorem d_Na_bindCall_52 : decode b_Na_bindCall 52 = .ok (.getfield 37, 3) := by decide +kernel
theorem d_Na_bindCall_55 : decode b_Na_bindCall 55 = .ok (.getfield 79, 3) := by decide +kernel
theorem d_Na_bindCall_58 : decode b_Na_bindCall 58 = .ok (.iload_n 2, 1) := by decide +kernel
theorem d_Na_bindCall_59 : decode b_Na_bindCall 59 = .ok (.iaload, 1) := by decide +kernel
theorem d_Na_bindCall_60 : decode b_Na_bindCall 60 = .ok (.if_icmp .eq 10, 3) := by decide +kernel
theorem d_Na_bindCall_63 : decode b_Na_bindCall 63 = .ok (.aload_n 0, 1) := by decide +kernel
theorem d_Na_bindCall_64 : decode b_Na_bindCall 64 = .ok (.getfield 18, 3) := by decide +kernel
theorem d_Na_bindCall_67 : decode b_Na_bindCall 67 = .ok (.iload_n 1, 1) := by decide +kernel
theorem d_Na_bindCall_68 : decode b_Na_bindCall 68 = .ok (.iconst 5, 1) := by decide +kernel
theorem d_Na_bindCall_69 : decode b_Na_bindCall 69 = .ok (.iastore, 1) := by decide +kernel
theorem d_Na_bindCall_70 : decode b_Na_bindCall 70 = .ok (.return_, 1) := by decide +kernel
abbrev b_Na_isDeclaredBefore : ByteArray := prog_7_method_6_code
def y_Na_isDeclaredBefore : MethodName := ⟨"ProgramDesk$Names", "isDeclaredBefore", "(II)Z"⟩
theorem d_Na_isDeclaredBefore_0 : decode b_Na_isDeclaredBefore 0 = .ok (.iload_n 2, 1) := by decide +kernel
theorem d_Na_isDeclaredBefore_1 : decode b_Na_isDeclaredBefore 1 = .ok (.istore_n 3, 1) := by decide +kernel
theorem d_Na_isDeclaredBefore_2 : decode b_Na_isDeclaredBefore 2 = .ok (.iload_n 3, 1) := by decide +kernel
theorem d_Na_isDeclaredBefore_3 : decode b_Na_isDeclaredBefore 3 = .ok (.iload_n 1, 1) := by decide +kernel
theorem d_Na_isDeclaredBefore_4 : decode b_Na_isDeclaredBefore 4 = .ok (.if_icmp .ge 43, 3) := by decide +kernel
theorem d_Na_isDeclaredBefore_7 : decode b_Na_isDeclaredBefore 7 = .ok (.aload_n 0, 1) := by decide +kernel
theorem d_Na_isDeclaredBefore_8 : decode b_Na_isDeclaredBefore 8 = .ok (.iload_n 3, 1) := by decide +kernel
theorem d_Na_isDeclaredBefore_9 : decode b_Na_isDeclaredBefore 9 = .ok (.aload_n 0, 1) := by decide +kernel
theorem d_Na_isDeclaredBefore_10 : decode b_Na_isDeclaredBefore 10 = .ok (.getfield 33, 3) := by decide +kernel
theorem d_Na_isDeclaredBefore_13 : decode b_Na_isDeclaredBefore 13 = .ok (.getfield 61, 3) := by decide +kernel
theorem d_Na_isDeclaredBefore_16 : decode b_Na_isDeclaredBefore 16 = .ok (.iload_n 1, 1) := by decide +kernel
theorem d_Na_isDeclaredBefore_17 : decode b_Na_isDeclaredBefore 17 = .ok (.iaload, 1) := by decide +kernel
theorem d_Na_isDeclaredBefore_18 : decode b_Na_isDeclaredBefore 18 = .ok (.invokevirtual 82, 3) := by decide +kernel
theorem d_Na_isDeclaredBefore_21 : decode b_Na_isDeclaredBefore 21 = .ok (.ifCond .eq 20, 3) := by decide +kernel
theorem d_Na_isDeclaredBefore_24 : decode b_Na_isDeclaredBefore 24 = .ok (.aload_n 0, 1) := by decide +kernel
theorem d_Na_isDeclaredBefore_25 : decode b_Na_isDeclaredBefore 25 = .ok (.getfield 21, 3) := by decide +kernel
theorem d_Na_isDeclaredBefore_28 : decode b_Na_isDeclaredBefore 28 = .ok (.iload_n 3, 1) := by decide +kernel
theorem d_Na_isDeclaredBefore_29 : decode b_Na_isDeclaredBefore 29 = .ok (.iaload, 1) := by decide +kernel
theorem d_Na_isDeclaredBefore_30 : decode b_Na_isDeclaredBefore 30 = .ok (.aload_n 0, 1) := by decide +kernel
theorem d_Na_isDeclaredBefore_31 : decode b_Na_isDeclaredBefore 31 = .ok (.getfield 21, 3) := by decide +kernel
theorem d_Na_isDeclaredBefore_34 : decode b_Na_isDeclaredBefore 34 = .ok (.iload_n 1, 1) := by decide +kernel
theorem d_Na_isDeclaredBefore_35 : decode b_Na_isDeclaredBefore 35 = .ok (.iaload, 1) := by decide +kernel
theorem d_Na_isDeclaredBefore_36 : decode b_Na_isDeclaredBefore 36 = .ok (.if_icmp .ne 5, 3) := by decide +kernel
theorem d_Na_isDeclaredBefore_39 : decode b_Na_isDeclaredBefore 39 = .ok (.iconst 1, 1) := by decide +kernel
theorem d_Na_isDeclaredBefore_40 : decode b_Na_isDeclaredBefore 40 = .ok (.ireturn, 1) := by decide +kernel
theorem d_Na_isDeclaredBefore_41 : decode b_Na_isDeclaredBefore 41 = .ok (.iinc 3 1, 3) := by decide +kernel
theorem d_Na_isDeclaredBefore_44 : decode b_Na_isDeclaredBefore 44 = .ok (.goto (-42), 3) := by decide +kernel
theorem d_Na_isDeclaredBefore_47 : decode b_Na_isDeclaredBefore 47 = .ok (.iconst 0, 1) := by decide +kernel
theorem d_Na_isDeclaredBefore_48 : decode b_Na_isDeclaredBefore 48 = .ok (.ireturn, 1) := by decide +kernel
abbrev b_Na_declares : ByteArray := prog_7_method_7_code
def y_Na_declares : MethodName := ⟨"ProgramDesk$Names", "declares", "(II)Z"⟩
theorem d_Na_declares_0 : decode b_Na_declares 0 = .ok (.aload_n 0, 1) := by decide +kernel
theorem d_Na_declares_1 : decode b_Na_declares 1 = .ok (.getfield 9, 3) := by decide +kernel
theorem d_Na_declares_4 : decode b_Na_declares 4 = .ok (.iload_n 1, 1) := by decide +kernel
theorem d_Na_declares_5 : decode b_Na_declares 5 = .ok (.iaload, 1) := by decide +kernel
theorem d_Na_declares_6 : decode b_Na_declares 6 = .ok (.iconst 2, 1) := by decide +kernel
theorem d_Na_declares_7 : decode b_Na_declares 7 = .ok (.if_icmp .eq 13, 3) := by decide +kernel
theorem d_Na_declares_10 : decode b_Na_declares 10 = .ok (.aload_n 0, 1) := by decide +kernel
theorem d_Na_declares_11 : decode b_Na_declares 11 = .ok (.getfield 9, 3) := by decide +kernel
theorem d_Na_declares_14 : decode b_Na_declares 14 = .ok (.iload_n 1, 1) := by decide +kernel
theorem d_Na_declares_15 : decode b_Na_declares 15 = .ok (.iaload, 1) := by decide +kernel
theorem d_Na_declares_16 : decode b_Na_declares 16 = .ok (.iconst 3, 1) := by decide +kernel
theorem d_Na_declares_17 : decode b_Na_declares 17 = .ok (.if_icmp .ne 30, 3) := by decide +kernel
theorem d_Na_declares_20 : decode b_Na_declares 20 = .ok (.aload_n 0, 1) := by decide +kernel
theorem d_Na_declares_21 : decode b_Na_declares 21 = .ok (.getfield 15, 3) := by decide +kernel
theorem d_Na_declares_24 : decode b_Na_declares 24 = .ok (.iload_n 1, 1) := by decide +kernel
theorem d_Na_declares_25 : decode b_Na_declares 25 = .ok (.iaload, 1) := by decide +kernel
theorem d_Na_declares_26 : decode b_Na_declares 26 = .ok (.iload_n 1, 1) := by decide +kernel
theorem d_Na_declares_27 : decode b_Na_declares 27 = .ok (.if_icmp .ne 20, 3) := by decide +kernel
theorem d_Na_declares_30 : decode b_Na_declares 30 = .ok (.aload_n 0, 1) := by decide +kernel
theorem d_Na_declares_31 : decode b_Na_declares 31 = .ok (.getfield 33, 3) := by decide +kernel
theorem d_Na_declares_34 : decode b_Na_declares 34 = .ok (.getfield 61, 3) := by decide +kernel
theorem d_Na_declares_37 : decode b_Na_declares 37 = .ok (.iload_n 1, 1) := by decide +kernel
theorem d_Na_declares_38 : decode b_Na_declares 38 = .ok (.iaload, 1) := by decide +kernel
theorem d_Na_declares_39 : decode b_Na_declares 39 = .ok (.iload_n 2, 1) := by decide +kernel
theorem d_Na_declares_40 : decode b_Na_declares 40 = .ok (.if_icmp .ne 7, 3) := by decide +kernel
theorem d_Na_declares_43 : decode b_Na_declares 43 = .ok (.iconst 1, 1) := by decide +kernel
theorem d_Na_declares_44 : decode b_Na_declares 44 = .ok (.goto 4, 3) := by decide +kernel
theorem d_Na_declares_47 : decode b_Na_declares 47 = .ok (.iconst 0, 1) := by decide +kernel
theorem d_Na_declares_48 : decode b_Na_declares 48 = .ok (.ireturn, 1) := by decide +kernel
abbrev b_Na_meaning : ByteArray := prog_7_method_8_code
def y_Na_meaning : MethodName := ⟨"ProgramDesk$Names", "meaning", "(II)I"⟩
theorem d_Na_meaning_0 : decode b_Na_meaning 0 = .ok (.iload_n 1, 1) := by decide +kernel
theorem d_Na_meaning_1 : decode b_Na_meaning 1 = .ok (.iconst 1, 1) := by decide +kernel
theorem d_Na_meaning_2 : decode b_Na_meaning 2 = .ok (.isub, 1) := by decide +kernel
theorem d_Na_meaning_3 : decode b_Na_meaning 3 = .ok (.istore_n 3, 1) := by decide +kernel
theorem d_Na_meaning_4 : decode b_Na_meaning 4 = .ok (.iload_n 3, 1) := by decide +kernel
theorem d_Na_meaning_5 : decode b_Na_meaning 5 = .ok (.ifCond .lt 55, 3) := by decide +kernel
theorem d_Na_meaning_8 : decode b_Na_meaning 8 = .ok (.aload_n 0, 1) := by decide +kernel
theorem d_Na_meaning_9 : decode b_Na_meaning 9 = .ok (.getfield 9, 3) := by decide +kernel
theorem d_Na_meaning_12 : decode b_Na_meaning 12 = .ok (.iload_n 3, 1) := by decide +kernel
theorem d_Na_meaning_13 : decode b_Na_meaning 13 = .ok (.iaload, 1) := by decide +kernel
theorem d_Na_meaning_14 : decode b_Na_meaning 14 = .ok (.iconst 1, 1) := by decide +kernel
theorem d_Na_meaning_15 : decode b_Na_meaning 15 = .ok (.if_icmp .eq 45, 3) := by decide +kernel
theorem d_Na_meaning_18 : decode b_Na_meaning 18 = .ok (.aload_n 0, 1) := by decide +kernel
theorem d_Na_meaning_19 : decode b_Na_meaning 19 = .ok (.iload_n 3, 1) := by decide +kernel
theorem d_Na_meaning_20 : decode b_Na_meaning 20 = .ok (.iload_n 2, 1) := by decide +kernel
theorem d_Na_meaning_21 : decode b_Na_meaning 21 = .ok (.invokevirtual 82, 3) := by decide +kernel
theorem d_Na_meaning_24 : decode b_Na_meaning 24 = .ok (.ifCond .eq 30, 3) := by decide +kernel
theorem d_Na_meaning_27 : decode b_Na_meaning 27 = .ok (.aload_n 0, 1) := by decide +kernel
theorem d_Na_meaning_28 : decode b_Na_meaning 28 = .ok (.getfield 24, 3) := by decide +kernel
theorem d_Na_meaning_31 : decode b_Na_meaning 31 = .ok (.iload_n 3, 1) := by decide +kernel
theorem d_Na_meaning_32 : decode b_Na_meaning 32 = .ok (.iaload, 1) := by decide +kernel
theorem d_Na_meaning_33 : decode b_Na_meaning 33 = .ok (.iload_n 1, 1) := by decide +kernel
theorem d_Na_meaning_34 : decode b_Na_meaning 34 = .ok (.if_icmp .gt 20, 3) := by decide +kernel
theorem d_Na_meaning_37 : decode b_Na_meaning 37 = .ok (.iload_n 1, 1) := by decide +kernel
theorem d_Na_meaning_38 : decode b_Na_meaning 38 = .ok (.aload_n 0, 1) := by decide +kernel
theorem d_Na_meaning_39 : decode b_Na_meaning 39 = .ok (.getfield 27, 3) := by decide +kernel
theorem d_Na_meaning_42 : decode b_Na_meaning 42 = .ok (.aload_n 0, 1) := by decide +kernel
theorem d_Na_meaning_43 : decode b_Na_meaning 43 = .ok (.getfield 21, 3) := by decide +kernel
theorem d_Na_meaning_46 : decode b_Na_meaning 46 = .ok (.iload_n 3, 1) := by decide +kernel
theorem d_Na_meaning_47 : decode b_Na_meaning 47 = .ok (.iaload, 1) := by decide +kernel
theorem d_Na_meaning_48 : decode b_Na_meaning 48 = .ok (.iaload, 1) := by decide +kernel
theorem d_Na_meaning_49 : decode b_Na_meaning 49 = .ok (.if_icmp .ge 5, 3) := by decide +kernel
theorem d_Na_meaning_52 : decode b_Na_meaning 52 = .ok (.iload_n 3, 1) := by decide +kernel
theorem d_Na_meaning_53 : decode b_Na_meaning 53 = .ok (.ireturn, 1) := by decide +kernel
theorem d_Na_meaning_54 : decode b_Na_meaning 54 = .ok (.iinc 3 (-1), 3) := by decide +kernel
theorem d_Na_meaning_57 : decode b_Na_meaning 57 = .ok (.goto (-53), 3) := by decide +kernel
theorem d_Na_meaning_60 : decode b_Na_meaning 60 = .ok (.iconst (-1), 1) := by decide +kernel
theorem d_Na_meaning_61 : decode b_Na_meaning 61 = .ok (.ireturn, 1) := by decide +kernel
abbrev b_Na_firstOfExpression : ByteArray := prog_7_method_9_code
def y_Na_firstOfExpression : MethodName := ⟨"ProgramDesk$Names", "firstOfExpression", "(I)I"⟩
theorem d_Na_firstOfExpression_0 : decode b_Na_firstOfExpression 0 = .ok (.iload_n 1, 1) := by decide +kernel
theorem d_Na_firstOfExpression_1 : decode b_Na_firstOfExpression 1 = .ok (.iconst 2, 1) := by decide +kernel
theorem d_Na_firstOfExpression_2 : decode b_Na_firstOfExpression 2 = .ok (.iadd, 1) := by decide +kernel
theorem d_Na_firstOfExpression_3 : decode b_Na_firstOfExpression 3 = .ok (.ireturn, 1) := by decide +kernel
abbrev b_Na_semicolonOf : ByteArray := prog_7_method_10_code
def y_Na_semicolonOf : MethodName := ⟨"ProgramDesk$Names", "semicolonOf", "(I)I"⟩
theorem d_Na_semicolonOf_0 : decode b_Na_semicolonOf 0 = .ok (.aload_n 0, 1) := by decide +kernel
theorem d_Na_semicolonOf_1 : decode b_Na_semicolonOf 1 = .ok (.getfield 24, 3) := by decide +kernel
theorem d_Na_semicolonOf_4 : decode b_Na_semicolonOf 4 = .ok (.iload_n 1, 1) := by decide +kernel
theorem d_Na_semicolonOf_5 : decode b_Na_semicolonOf 5 = .ok (.iaload, 1) := by decide +kernel
theorem d_Na_semicolonOf_6 : decode b_Na_semicolonOf 6 = .ok (.iconst 1, 1) := by decide +kernel
theorem d_Na_semicolonOf_7 : decode b_Na_semicolonOf 7 = .ok (.isub, 1) := by decide +kernel
theorem d_Na_semicolonOf_8 : decode b_Na_semicolonOf 8 = .ok (.ireturn, 1) := by decide +kernel
abbrev b_Na_hasCall : ByteArray := prog_7_method_11_code
def y_Na_hasCall : MethodName := ⟨"ProgramDesk$Names", "hasCall", "(I)Z"⟩
theorem d_Na_hasCall_0 : decode b_Na_hasCall 0 = .ok (.aload_n 0, 1) := by decide +kernel
theorem d_Na_hasCall_1 : decode b_Na_hasCall 1 = .ok (.iload_n 1, 1) := by decide +kernel
theorem d_Na_hasCall_2 : decode b_Na_hasCall 2 = .ok (.invokevirtual 85, 3) := by decide +kernel
theorem d_Na_hasCall_5 : decode b_Na_hasCall 5 = .ok (.istore_n 2, 1) := by decide +kernel
theorem d_Na_hasCall_6 : decode b_Na_hasCall 6 = .ok (.iload_n 2, 1) := by decide +kernel
theorem d_Na_hasCall_7 : decode b_Na_hasCall 7 = .ok (.aload_n 0, 1) := by decide +kernel
theorem d_Na_hasCall_8 : decode b_Na_hasCall 8 = .ok (.iload_n 1, 1) := by decide +kernel
theorem d_Na_hasCall_9 : decode b_Na_hasCall 9 = .ok (.invokevirtual 88, 3) := by decide +kernel
theorem d_Na_hasCall_12 : decode b_Na_hasCall 12 = .ok (.if_icmp .ge 22, 3) := by decide +kernel
theorem d_Na_hasCall_15 : decode b_Na_hasCall 15 = .ok (.aload_n 0, 1) := by decide +kernel
theorem d_Na_hasCall_16 : decode b_Na_hasCall 16 = .ok (.getfield 9, 3) := by decide +kernel
theorem d_Na_hasCall_19 : decode b_Na_hasCall 19 = .ok (.iload_n 2, 1) := by decide +kernel
theorem d_Na_hasCall_20 : decode b_Na_hasCall 20 = .ok (.iaload, 1) := by decide +kernel
theorem d_Na_hasCall_21 : decode b_Na_hasCall 21 = .ok (.bipush 6, 2) := by decide +kernel
theorem d_Na_hasCall_23 : decode b_Na_hasCall 23 = .ok (.if_icmp .ne 5, 3) := by decide +kernel
theorem d_Na_hasCall_26 : decode b_Na_hasCall 26 = .ok (.iconst 1, 1) := by decide +kernel
theorem d_Na_hasCall_27 : decode b_Na_hasCall 27 = .ok (.ireturn, 1) := by decide +kernel
theorem d_Na_hasCall_28 : decode b_Na_hasCall 28 = .ok (.iinc 2 1, 3) := by decide +kernel
theorem d_Na_hasCall_31 : decode b_Na_hasCall 31 = .ok (.goto (-25), 3) := by decide +kernel
theorem d_Na_hasCall_34 : decode b_Na_hasCall 34 = .ok (.iconst 0, 1) := by decide +kernel
theorem d_Na_hasCall_35 : decode b_Na_hasCall 35 = .ok (.ireturn, 1) := by decide +kernel
abbrev b_Na_isOvertaken : ByteArray := prog_7_method_12_code
def y_Na_isOvertaken : MethodName := ⟨"ProgramDesk$Names", "isOvertaken", "(I)Z"⟩
theorem d_Na_isOvertaken_0 : decode b_Na_isOvertaken 0 = .ok (.aload_n 0, 1) := by decide +kernel
theorem d_Na_isOvertaken_1 : decode b_Na_isOvertaken 1 = .ok (.getfield 24, 3) := by decide +kernel
theorem d_Na_isOvertaken_4 : decode b_Na_isOvertaken 4 = .ok (.iload_n 1, 1) := by decide +kernel
theorem d_Na_isOvertaken_5 : decode b_Na_isOvertaken 5 = .ok (.iaload, 1) := by decide +kernel
theorem d_Na_isOvertaken_6 : decode b_Na_isOvertaken 6 = .ok (.istore_n 2, 1) := by decide +kernel
theorem d_Na_isOvertaken_7 : decode b_Na_isOvertaken 7 = .ok (.iload_n 2, 1) := by decide +kernel
theorem d_Na_isOvertaken_8 : decode b_Na_isOvertaken 8 = .ok (.aload_n 0, 1) := by decide +kernel
theorem d_Na_isOvertaken_9 : decode b_Na_isOvertaken 9 = .ok (.getfield 27, 3) := by decide +kernel
theorem d_Na_isOvertaken_12 : decode b_Na_isOvertaken 12 = .ok (.aload_n 0, 1) := by decide +kernel
theorem d_Na_isOvertaken_13 : decode b_Na_isOvertaken 13 = .ok (.getfield 21, 3) := by decide +kernel
theorem d_Na_isOvertaken_16 : decode b_Na_isOvertaken 16 = .ok (.iload_n 1, 1) := by decide +kernel
theorem d_Na_isOvertaken_17 : decode b_Na_isOvertaken 17 = .ok (.iaload, 1) := by decide +kernel
theorem d_Na_isOvertaken_18 : decode b_Na_isOvertaken 18 = .ok (.iaload, 1) := by decide +kernel
theorem d_Na_isOvertaken_19 : decode b_Na_isOvertaken 19 = .ok (.if_icmp .ge 45, 3) := by decide +kernel
theorem d_Na_isOvertaken_22 : decode b_Na_isOvertaken 22 = .ok (.aload_n 0, 1) := by decide +kernel
theorem d_Na_isOvertaken_23 : decode b_Na_isOvertaken 23 = .ok (.getfield 9, 3) := by decide +kernel
theorem d_Na_isOvertaken_26 : decode b_Na_isOvertaken 26 = .ok (.iload_n 2, 1) := by decide +kernel
theorem d_Na_isOvertaken_27 : decode b_Na_isOvertaken 27 = .ok (.iaload, 1) := by decide +kernel
theorem d_Na_isOvertaken_28 : decode b_Na_isOvertaken 28 = .ok (.iconst 5, 1) := by decide +kernel
theorem d_Na_isOvertaken_29 : decode b_Na_isOvertaken 29 = .ok (.if_icmp .ne 29, 3) := by decide +kernel
theorem d_Na_isOvertaken_32 : decode b_Na_isOvertaken 32 = .ok (.aload_n 0, 1) := by decide +kernel
theorem d_Na_isOvertaken_33 : decode b_Na_isOvertaken 33 = .ok (.getfield 15, 3) := by decide +kernel
theorem d_Na_isOvertaken_36 : decode b_Na_isOvertaken 36 = .ok (.iload_n 2, 1) := by decide +kernel
theorem d_Na_isOvertaken_37 : decode b_Na_isOvertaken 37 = .ok (.iaload, 1) := by decide +kernel
theorem d_Na_isOvertaken_38 : decode b_Na_isOvertaken 38 = .ok (.iload_n 1, 1) := by decide +kernel
theorem d_Na_isOvertaken_39 : decode b_Na_isOvertaken 39 = .ok (.if_icmp .eq 17, 3) := by decide +kernel
theorem d_Na_isOvertaken_42 : decode b_Na_isOvertaken 42 = .ok (.aload_n 0, 1) := by decide +kernel
theorem d_Na_isOvertaken_43 : decode b_Na_isOvertaken 43 = .ok (.iload_n 1, 1) := by decide +kernel
theorem d_Na_isOvertaken_44 : decode b_Na_isOvertaken 44 = .ok (.aload_n 0, 1) := by decide +kernel
theorem d_Na_isOvertaken_45 : decode b_Na_isOvertaken 45 = .ok (.getfield 15, 3) := by decide +kernel
theorem d_Na_isOvertaken_48 : decode b_Na_isOvertaken 48 = .ok (.iload_n 2, 1) := by decide +kernel
theorem d_Na_isOvertaken_49 : decode b_Na_isOvertaken 49 = .ok (.iaload, 1) := by decide +kernel
theorem d_Na_isOvertaken_50 : decode b_Na_isOvertaken 50 = .ok (.invokevirtual 91, 3) := by decide +kernel
theorem d_Na_isOvertaken_53 : decode b_Na_isOvertaken 53 = .ok (.ifCond .eq 5, 3) := by decide +kernel
theorem d_Na_isOvertaken_56 : decode b_Na_isOvertaken 56 = .ok (.iconst 1, 1) := by decide +kernel
theorem d_Na_isOvertaken_57 : decode b_Na_isOvertaken 57 = .ok (.ireturn, 1) := by decide +kernel
theorem d_Na_isOvertaken_58 : decode b_Na_isOvertaken 58 = .ok (.iinc 2 1, 3) := by decide +kernel
theorem d_Na_isOvertaken_61 : decode b_Na_isOvertaken 61 = .ok (.goto (-54), 3) := by decide +kernel
theorem d_Na_isOvertaken_64 : decode b_Na_isOvertaken 64 = .ok (.iconst 0, 1) := by decide +kernel
theorem d_Na_isOvertaken_65 : decode b_Na_isOvertaken 65 = .ok (.ireturn, 1) := by decide +kernel
abbrev b_Na_standsOn : ByteArray := prog_7_method_13_code
def y_Na_standsOn : MethodName := ⟨"ProgramDesk$Names", "standsOn", "(II)Z"⟩
theorem d_Na_standsOn_0 : decode b_Na_standsOn 0 = .ok (.aload_n 0, 1) := by decide +kernel
theorem d_Na_standsOn_1 : decode b_Na_standsOn 1 = .ok (.iload_n 1, 1) := by decide +kernel
theorem d_Na_standsOn_2 : decode b_Na_standsOn 2 = .ok (.invokevirtual 85, 3) := by decide +kernel
theorem d_Na_standsOn_5 : decode b_Na_standsOn 5 = .ok (.istore_n 3, 1) := by decide +kernel
theorem d_Na_standsOn_6 : decode b_Na_standsOn 6 = .ok (.iload_n 3, 1) := by decide +kernel
theorem d_Na_standsOn_7 : decode b_Na_standsOn 7 = .ok (.aload_n 0, 1) := by decide +kernel
theorem d_Na_standsOn_8 : decode b_Na_standsOn 8 = .ok (.iload_n 1, 1) := by decide +kernel
theorem d_Na_standsOn_9 : decode b_Na_standsOn 9 = .ok (.invokevirtual 88, 3) := by decide +kernel
theorem d_Na_standsOn_12 : decode b_Na_standsOn 12 = .ok (.if_icmp .ge 21, 3) := by decide +kernel
theorem d_Na_standsOn_15 : decode b_Na_standsOn 15 = .ok (.aload_n 0, 1) := by decide +kernel
theorem d_Na_standsOn_16 : decode b_Na_standsOn 16 = .ok (.getfield 15, 3) := by decide +kernel
theorem d_Na_standsOn_19 : decode b_Na_standsOn 19 = .ok (.iload_n 3, 1) := by decide +kernel
theorem d_Na_standsOn_20 : decode b_Na_standsOn 20 = .ok (.iaload, 1) := by decide +kernel
theorem d_Na_standsOn_21 : decode b_Na_standsOn 21 = .ok (.iload_n 2, 1) := by decide +kernel
theorem d_Na_standsOn_22 : decode b_Na_standsOn 22 = .ok (.if_icmp .ne 5, 3) := by decide +kernel
theorem d_Na_standsOn_25 : decode b_Na_standsOn 25 = .ok (.iconst 1, 1) := by decide +kernel
theorem d_Na_standsOn_26 : decode b_Na_standsOn 26 = .ok (.ireturn, 1) := by decide +kernel
theorem d_Na_standsOn_27 : decode b_Na_standsOn 27 = .ok (.iinc 3 1, 3) := by decide +kernel
theorem d_Na_standsOn_30 : decode b_Na_standsOn 30 = .ok (.goto (-24), 3) := by decide +kernel
theorem d_Na_standsOn_33 : decode b_Na_standsOn 33 = .ok (.iconst 0, 1) := by decide +kernel
theorem d_Na_standsOn_34 : decode b_Na_standsOn 34 = .ok (.ireturn, 1) := by decide +kernel
abbrev b_Na_losesMeaning : ByteArray := prog_7_method_14_code
def y_Na_losesMeaning : MethodName := ⟨"ProgramDesk$Names", "losesMeaning", "(I)Z"⟩
theorem d_Na_losesMeaning_0 : decode b_Na_losesMeaning 0 = .ok (.aload_n 0, 1) := by decide +kernel
theorem d_Na_losesMeaning_1 : decode b_Na_losesMeaning 1 = .ok (.getfield 24, 3) := by decide +kernel
theorem d_Na_losesMeaning_4 : decode b_Na_losesMeaning 4 = .ok (.iload_n 1, 1) := by decide +kernel
theorem d_Na_losesMeaning_5 : decode b_Na_losesMeaning 5 = .ok (.iaload, 1) := by decide +kernel
theorem d_Na_losesMeaning_6 : decode b_Na_losesMeaning 6 = .ok (.istore_n 2, 1) := by decide +kernel
theorem d_Na_losesMeaning_7 : decode b_Na_losesMeaning 7 = .ok (.iload_n 2, 1) := by decide +kernel
theorem d_Na_losesMeaning_8 : decode b_Na_losesMeaning 8 = .ok (.aload_n 0, 1) := by decide +kernel
theorem d_Na_losesMeaning_9 : decode b_Na_losesMeaning 9 = .ok (.getfield 27, 3) := by decide +kernel
theorem d_Na_losesMeaning_12 : decode b_Na_losesMeaning 12 = .ok (.aload_n 0, 1) := by decide +kernel
theorem d_Na_losesMeaning_13 : decode b_Na_losesMeaning 13 = .ok (.getfield 21, 3) := by decide +kernel
theorem d_Na_losesMeaning_16 : decode b_Na_losesMeaning 16 = .ok (.iload_n 1, 1) := by decide +kernel
theorem d_Na_losesMeaning_17 : decode b_Na_losesMeaning 17 = .ok (.iaload, 1) := by decide +kernel
theorem d_Na_losesMeaning_18 : decode b_Na_losesMeaning 18 = .ok (.iaload, 1) := by decide +kernel
theorem d_Na_losesMeaning_19 : decode b_Na_losesMeaning 19 = .ok (.if_icmp .ge 30, 3) := by decide +kernel
theorem d_Na_losesMeaning_22 : decode b_Na_losesMeaning 22 = .ok (.aload_n 0, 1) := by decide +kernel
theorem d_Na_losesMeaning_23 : decode b_Na_losesMeaning 23 = .ok (.getfield 15, 3) := by decide +kernel
theorem d_Na_losesMeaning_26 : decode b_Na_losesMeaning 26 = .ok (.iload_n 2, 1) := by decide +kernel
theorem d_Na_losesMeaning_27 : decode b_Na_losesMeaning 27 = .ok (.iaload, 1) := by decide +kernel
theorem d_Na_losesMeaning_28 : decode b_Na_losesMeaning 28 = .ok (.iload_n 1, 1) := by decide +kernel
theorem d_Na_losesMeaning_29 : decode b_Na_losesMeaning 29 = .ok (.if_icmp .ne 14, 3) := by decide +kernel
theorem d_Na_losesMeaning_32 : decode b_Na_losesMeaning 32 = .ok (.aload_n 0, 1) := by decide +kernel
theorem d_Na_losesMeaning_33 : decode b_Na_losesMeaning 33 = .ok (.iload_n 1, 1) := by decide +kernel
theorem d_Na_losesMeaning_34 : decode b_Na_losesMeaning 34 = .ok (.iload_n 2, 1) := by decide +kernel
theorem d_Na_losesMeaning_35 : decode b_Na_losesMeaning 35 = .ok (.invokevirtual 94, 3) := by decide +kernel
theorem d_Na_losesMeaning_38 : decode b_Na_losesMeaning 38 = .ok (.ifCond .ne 5, 3) := by decide +kernel
theorem d_Na_losesMeaning_41 : decode b_Na_losesMeaning 41 = .ok (.iconst 1, 1) := by decide +kernel
theorem d_Na_losesMeaning_42 : decode b_Na_losesMeaning 42 = .ok (.ireturn, 1) := by decide +kernel
theorem d_Na_losesMeaning_43 : decode b_Na_losesMeaning 43 = .ok (.iinc 2 1, 3) := by decide +kernel
theorem d_Na_losesMeaning_46 : decode b_Na_losesMeaning 46 = .ok (.goto (-39), 3) := by decide +kernel
theorem d_Na_losesMeaning_49 : decode b_Na_losesMeaning 49 = .ok (.iconst 0, 1) := by decide +kernel
theorem d_Na_losesMeaning_50 : decode b_Na_losesMeaning 50 = .ok (.ireturn, 1) := by decide +kernel
abbrev b_Na_keepsMeaningAt : ByteArray := prog_7_method_15_code
def y_Na_keepsMeaningAt : MethodName := ⟨"ProgramDesk$Names", "keepsMeaningAt", "(II)Z"⟩
theorem d_Na_keepsMeaningAt_0 : decode b_Na_keepsMeaningAt 0 = .ok (.aload_n 0, 1) := by decide +kernel
theorem d_Na_keepsMeaningAt_1 : decode b_Na_keepsMeaningAt 1 = .ok (.iload_n 1, 1) := by decide +kernel
theorem d_Na_keepsMeaningAt_2 : decode b_Na_keepsMeaningAt 2 = .ok (.invokevirtual 85, 3) := by decide +kernel
theorem d_Na_keepsMeaningAt_5 : decode b_Na_keepsMeaningAt 5 = .ok (.istore_n 3, 1) := by decide +kernel
theorem d_Na_keepsMeaningAt_6 : decode b_Na_keepsMeaningAt 6 = .ok (.iload_n 3, 1) := by decide +kernel
theorem d_Na_keepsMeaningAt_7 : decode b_Na_keepsMeaningAt 7 = .ok (.aload_n 0, 1) := by decide +kernel
theorem d_Na_keepsMeaningAt_8 : decode b_Na_keepsMeaningAt 8 = .ok (.iload_n 1, 1) := by decide +kernel
theorem d_Na_keepsMeaningAt_9 : decode b_Na_keepsMeaningAt 9 = .ok (.invokevirtual 88, 3) := by decide +kernel
theorem d_Na_keepsMeaningAt_12 : decode b_Na_keepsMeaningAt 12 = .ok (.if_icmp .ge 44, 3) := by decide +kernel
theorem d_Na_keepsMeaningAt_15 : decode b_Na_keepsMeaningAt 15 = .ok (.aload_n 0, 1) := by decide +kernel
theorem d_Na_keepsMeaningAt_16 : decode b_Na_keepsMeaningAt 16 = .ok (.getfield 9, 3) := by decide +kernel
theorem d_Na_keepsMeaningAt_19 : decode b_Na_keepsMeaningAt 19 = .ok (.iload_n 3, 1) := by decide +kernel
theorem d_Na_keepsMeaningAt_20 : decode b_Na_keepsMeaningAt 20 = .ok (.iaload, 1) := by decide +kernel
theorem d_Na_keepsMeaningAt_21 : decode b_Na_keepsMeaningAt 21 = .ok (.iconst 4, 1) := by decide +kernel
theorem d_Na_keepsMeaningAt_22 : decode b_Na_keepsMeaningAt 22 = .ok (.if_icmp .ne 28, 3) := by decide +kernel
theorem d_Na_keepsMeaningAt_25 : decode b_Na_keepsMeaningAt 25 = .ok (.aload_n 0, 1) := by decide +kernel
theorem d_Na_keepsMeaningAt_26 : decode b_Na_keepsMeaningAt 26 = .ok (.iload_n 2, 1) := by decide +kernel
theorem d_Na_keepsMeaningAt_27 : decode b_Na_keepsMeaningAt 27 = .ok (.aload_n 0, 1) := by decide +kernel
theorem d_Na_keepsMeaningAt_28 : decode b_Na_keepsMeaningAt 28 = .ok (.getfield 33, 3) := by decide +kernel
theorem d_Na_keepsMeaningAt_31 : decode b_Na_keepsMeaningAt 31 = .ok (.getfield 61, 3) := by decide +kernel
theorem d_Na_keepsMeaningAt_34 : decode b_Na_keepsMeaningAt 34 = .ok (.iload_n 3, 1) := by decide +kernel
theorem d_Na_keepsMeaningAt_35 : decode b_Na_keepsMeaningAt 35 = .ok (.iaload, 1) := by decide +kernel
theorem d_Na_keepsMeaningAt_36 : decode b_Na_keepsMeaningAt 36 = .ok (.invokevirtual 64, 3) := by decide +kernel
theorem d_Na_keepsMeaningAt_39 : decode b_Na_keepsMeaningAt 39 = .ok (.aload_n 0, 1) := by decide +kernel
theorem d_Na_keepsMeaningAt_40 : decode b_Na_keepsMeaningAt 40 = .ok (.getfield 15, 3) := by decide +kernel
theorem d_Na_keepsMeaningAt_43 : decode b_Na_keepsMeaningAt 43 = .ok (.iload_n 3, 1) := by decide +kernel
theorem d_Na_keepsMeaningAt_44 : decode b_Na_keepsMeaningAt 44 = .ok (.iaload, 1) := by decide +kernel
theorem d_Na_keepsMeaningAt_45 : decode b_Na_keepsMeaningAt 45 = .ok (.if_icmp .eq 5, 3) := by decide +kernel
theorem d_Na_keepsMeaningAt_48 : decode b_Na_keepsMeaningAt 48 = .ok (.iconst 0, 1) := by decide +kernel
theorem d_Na_keepsMeaningAt_49 : decode b_Na_keepsMeaningAt 49 = .ok (.ireturn, 1) := by decide +kernel
theorem d_Na_keepsMeaningAt_50 : decode b_Na_keepsMeaningAt 50 = .ok (.iinc 3 1, 3) := by decide +kernel
theorem d_Na_keepsMeaningAt_53 : decode b_Na_keepsMeaningAt 53 = .ok (.goto (-47), 3) := by decide +kernel
theorem d_Na_keepsMeaningAt_56 : decode b_Na_keepsMeaningAt 56 = .ok (.iconst 1, 1) := by decide +kernel
theorem d_Na_keepsMeaningAt_57 : decode b_Na_keepsMeaningAt 57 = .ok (.ireturn, 1) := by decide +kernel
abbrev b_Te_init : ByteArray := prog_8_method_1_code
def y_Te_init : MethodName := ⟨"ProgramDesk$Text", "<init>", "()V"⟩
theorem d_Te_init_0 : decode b_Te_init 0 = .ok (.aload_n 0, 1) := by decide +kernel
theorem d_Te_init_1 : decode b_Te_init 1 = .ok (.invokespecial 3, 3) := by decide +kernel
theorem d_Te_init_4 : decode b_Te_init 4 = .ok (.aload_n 0, 1) := by decide +kernel
theorem d_Te_init_5 : decode b_Te_init 5 = .ok (.sipush 240, 3) := by decide +kernel
theorem d_Te_init_8 : decode b_Te_init 8 = .ok (.newarray .char, 2) := by decide +kernel
theorem d_Te_init_10 : decode b_Te_init 10 = .ok (.putfield 9, 3) := by decide +kernel
theorem d_Te_init_13 : decode b_Te_init 13 = .ok (.return_, 1) := by decide +kernel
abbrev b_Te_add : ByteArray := prog_8_method_2_code
def y_Te_add : MethodName := ⟨"ProgramDesk$Text", "add", "(C)V"⟩
theorem d_Te_add_0 : decode b_Te_add 0 = .ok (.aload_n 0, 1) := by decide +kernel
theorem d_Te_add_1 : decode b_Te_add 1 = .ok (.getfield 15, 3) := by decide +kernel
theorem d_Te_add_4 : decode b_Te_add 4 = .ok (.sipush 240, 3) := by decide +kernel
theorem d_Te_add_7 : decode b_Te_add 7 = .ok (.if_icmp .ge 23, 3) := by decide +kernel
theorem d_Te_add_10 : decode b_Te_add 10 = .ok (.aload_n 0, 1) := by decide +kernel
theorem d_Te_add_11 : decode b_Te_add 11 = .ok (.getfield 9, 3) := by decide +kernel
theorem d_Te_add_14 : decode b_Te_add 14 = .ok (.aload_n 0, 1) := by decide +kernel
theorem d_Te_add_15 : decode b_Te_add 15 = .ok (.getfield 15, 3) := by decide +kernel
theorem d_Te_add_18 : decode b_Te_add 18 = .ok (.iload_n 1, 1) := by decide +kernel
theorem d_Te_add_19 : decode b_Te_add 19 = .ok (.castore, 1) := by decide +kernel
theorem d_Te_add_20 : decode b_Te_add 20 = .ok (.aload_n 0, 1) := by decide +kernel
theorem d_Te_add_21 : decode b_Te_add 21 = .ok (.dup, 1) := by decide +kernel
theorem d_Te_add_22 : decode b_Te_add 22 = .ok (.getfield 15, 3) := by decide +kernel
theorem d_Te_add_25 : decode b_Te_add 25 = .ok (.iconst 1, 1) := by decide +kernel
theorem d_Te_add_26 : decode b_Te_add 26 = .ok (.iadd, 1) := by decide +kernel
theorem d_Te_add_27 : decode b_Te_add 27 = .ok (.putfield 15, 3) := by decide +kernel
theorem d_Te_add_30 : decode b_Te_add 30 = .ok (.return_, 1) := by decide +kernel
abbrev b_Te_addName : ByteArray := prog_8_method_3_code
def y_Te_addName : MethodName := ⟨"ProgramDesk$Text", "addName", "(I)V"⟩
theorem d_Te_addName_0 : decode b_Te_addName 0 = .ok (.iload_n 1, 1) := by decide +kernel
theorem d_Te_addName_1 : decode b_Te_addName 1 = .ok (.istore_n 2, 1) := by decide +kernel
theorem d_Te_addName_2 : decode b_Te_addName 2 = .ok (.iload_n 2, 1) := by decide +kernel
theorem d_Te_addName_3 : decode b_Te_addName 3 = .ok (.ifCond .le 22, 3) := by decide +kernel
theorem d_Te_addName_6 : decode b_Te_addName 6 = .ok (.aload_n 0, 1) := by decide +kernel
theorem d_Te_addName_7 : decode b_Te_addName 7 = .ok (.bipush 96, 2) := by decide +kernel
theorem d_Te_addName_9 : decode b_Te_addName 9 = .ok (.iload_n 2, 1) := by decide +kernel
theorem d_Te_addName_10 : decode b_Te_addName 10 = .ok (.bipush 31, 2) := by decide +kernel
theorem d_Te_addName_12 : decode b_Te_addName 12 = .ok (.iand, 1) := by decide +kernel
theorem d_Te_addName_13 : decode b_Te_addName 13 = .ok (.iadd, 1) := by decide +kernel
theorem d_Te_addName_14 : decode b_Te_addName 14 = .ok (.i2c, 1) := by decide +kernel
theorem d_Te_addName_15 : decode b_Te_addName 15 = .ok (.invokevirtual 19, 3) := by decide +kernel
theorem d_Te_addName_18 : decode b_Te_addName 18 = .ok (.iload_n 2, 1) := by decide +kernel
theorem d_Te_addName_19 : decode b_Te_addName 19 = .ok (.iconst 5, 1) := by decide +kernel
theorem d_Te_addName_20 : decode b_Te_addName 20 = .ok (.ishr, 1) := by decide +kernel
theorem d_Te_addName_21 : decode b_Te_addName 21 = .ok (.istore_n 2, 1) := by decide +kernel
theorem d_Te_addName_22 : decode b_Te_addName 22 = .ok (.goto (-20), 3) := by decide +kernel
theorem d_Te_addName_25 : decode b_Te_addName 25 = .ok (.return_, 1) := by decide +kernel
abbrev b_Te_addPiece : ByteArray := prog_8_method_4_code
def y_Te_addPiece : MethodName := ⟨"ProgramDesk$Text", "addPiece", "(LProgramDesk$Text;II)V"⟩
theorem d_Te_addPiece_0 : decode b_Te_addPiece 0 = .ok (.iload_n 2, 1) := by decide +kernel
theorem d_Te_addPiece_1 : decode b_Te_addPiece 1 = .ok (.istore 4, 2) := by decide +kernel
theorem d_Te_addPiece_3 : decode b_Te_addPiece 3 = .ok (.iload 4, 2) := by decide +kernel
theorem d_Te_addPiece_5 : decode b_Te_addPiece 5 = .ok (.iload_n 3, 1) := by decide +kernel
theorem d_Te_addPiece_6 : decode b_Te_addPiece 6 = .ok (.if_icmp .ge 20, 3) := by decide +kernel
theorem d_Te_addPiece_9 : decode b_Te_addPiece 9 = .ok (.aload_n 0, 1) := by decide +kernel
theorem d_Te_addPiece_10 : decode b_Te_addPiece 10 = .ok (.aload_n 1, 1) := by decide +kernel
theorem d_Te_addPiece_11 : decode b_Te_addPiece 11 = .ok (.getfield 9, 3) := by decide +kernel
theorem d_Te_addPiece_14 : decode b_Te_addPiece 14 = .ok (.iload 4, 2) := by decide +kernel
theorem d_Te_addPiece_16 : decode b_Te_addPiece 16 = .ok (.caload, 1) := by decide +kernel
theorem d_Te_addPiece_17 : decode b_Te_addPiece 17 = .ok (.invokevirtual 19, 3) := by decide +kernel
theorem d_Te_addPiece_20 : decode b_Te_addPiece 20 = .ok (.iinc 4 1, 3) := by decide +kernel
theorem d_Te_addPiece_23 : decode b_Te_addPiece 23 = .ok (.goto (-20), 3) := by decide +kernel
theorem d_Te_addPiece_26 : decode b_Te_addPiece 26 = .ok (.return_, 1) := by decide +kernel
abbrev b_Te_putBefore : ByteArray := prog_8_method_5_code
def y_Te_putBefore : MethodName := ⟨"ProgramDesk$Text", "putBefore", "(IC)V"⟩
theorem d_Te_putBefore_0 : decode b_Te_putBefore 0 = .ok (.aload_n 0, 1) := by decide +kernel
theorem d_Te_putBefore_1 : decode b_Te_putBefore 1 = .ok (.getfield 15, 3) := by decide +kernel
theorem d_Te_putBefore_4 : decode b_Te_putBefore 4 = .ok (.istore_n 3, 1) := by decide +kernel
theorem d_Te_putBefore_5 : decode b_Te_putBefore 5 = .ok (.iload_n 3, 1) := by decide +kernel
theorem d_Te_putBefore_6 : decode b_Te_putBefore 6 = .ok (.iload_n 1, 1) := by decide +kernel
theorem d_Te_putBefore_7 : decode b_Te_putBefore 7 = .ok (.if_icmp .le 23, 3) := by decide +kernel
theorem d_Te_putBefore_10 : decode b_Te_putBefore 10 = .ok (.aload_n 0, 1) := by decide +kernel
theorem d_Te_putBefore_11 : decode b_Te_putBefore 11 = .ok (.getfield 9, 3) := by decide +kernel
theorem d_Te_putBefore_14 : decode b_Te_putBefore 14 = .ok (.iload_n 3, 1) := by decide +kernel
theorem d_Te_putBefore_15 : decode b_Te_putBefore 15 = .ok (.aload_n 0, 1) := by decide +kernel
theorem d_Te_putBefore_16 : decode b_Te_putBefore 16 = .ok (.getfield 9, 3) := by decide +kernel
theorem d_Te_putBefore_19 : decode b_Te_putBefore 19 = .ok (.iload_n 3, 1) := by decide +kernel
theorem d_Te_putBefore_20 : decode b_Te_putBefore 20 = .ok (.iconst 1, 1) := by decide +kernel
theorem d_Te_putBefore_21 : decode b_Te_putBefore 21 = .ok (.isub, 1) := by decide +kernel
theorem d_Te_putBefore_22 : decode b_Te_putBefore 22 = .ok (.caload, 1) := by decide +kernel
theorem d_Te_putBefore_23 : decode b_Te_putBefore 23 = .ok (.castore, 1) := by decide +kernel
theorem d_Te_putBefore_24 : decode b_Te_putBefore 24 = .ok (.iinc 3 (-1), 3) := by decide +kernel
theorem d_Te_putBefore_27 : decode b_Te_putBefore 27 = .ok (.goto (-22), 3) := by decide +kernel
theorem d_Te_putBefore_30 : decode b_Te_putBefore 30 = .ok (.aload_n 0, 1) := by decide +kernel
theorem d_Te_putBefore_31 : decode b_Te_putBefore 31 = .ok (.getfield 9, 3) := by decide +kernel
theorem d_Te_putBefore_34 : decode b_Te_putBefore 34 = .ok (.iload_n 1, 1) := by decide +kernel
theorem d_Te_putBefore_35 : decode b_Te_putBefore 35 = .ok (.iload_n 2, 1) := by decide +kernel
theorem d_Te_putBefore_36 : decode b_Te_putBefore 36 = .ok (.castore, 1) := by decide +kernel
theorem d_Te_putBefore_37 : decode b_Te_putBefore 37 = .ok (.aload_n 0, 1) := by decide +kernel
theorem d_Te_putBefore_38 : decode b_Te_putBefore 38 = .ok (.dup, 1) := by decide +kernel
theorem d_Te_putBefore_39 : decode b_Te_putBefore 39 = .ok (.getfield 15, 3) := by decide +kernel
theorem d_Te_putBefore_42 : decode b_Te_putBefore 42 = .ok (.iconst 1, 1) := by decide +kernel
theorem d_Te_putBefore_43 : decode b_Te_putBefore 43 = .ok (.iadd, 1) := by decide +kernel
theorem d_Te_putBefore_44 : decode b_Te_putBefore 44 = .ok (.putfield 15, 3) := by decide +kernel
theorem d_Te_putBefore_47 : decode b_Te_putBefore 47 = .ok (.return_, 1) := by decide +kernel
abbrev b_Te_takeOut : ByteArray := prog_8_method_6_code
def y_Te_takeOut : MethodName := ⟨"ProgramDesk$Text", "takeOut", "(II)V"⟩
theorem d_Te_takeOut_0 : decode b_Te_takeOut 0 = .ok (.iload_n 1, 1) := by decide +kernel
theorem d_Te_takeOut_1 : decode b_Te_takeOut 1 = .ok (.iload_n 2, 1) := by decide +kernel
theorem d_Te_takeOut_2 : decode b_Te_takeOut 2 = .ok (.iadd, 1) := by decide +kernel
theorem d_Te_takeOut_3 : decode b_Te_takeOut 3 = .ok (.istore_n 3, 1) := by decide +kernel
theorem d_Te_takeOut_4 : decode b_Te_takeOut 4 = .ok (.iload_n 3, 1) := by decide +kernel
theorem d_Te_takeOut_5 : decode b_Te_takeOut 5 = .ok (.aload_n 0, 1) := by decide +kernel
theorem d_Te_takeOut_6 : decode b_Te_takeOut 6 = .ok (.getfield 15, 3) := by decide +kernel
theorem d_Te_takeOut_9 : decode b_Te_takeOut 9 = .ok (.if_icmp .ge 23, 3) := by decide +kernel
theorem d_Te_takeOut_12 : decode b_Te_takeOut 12 = .ok (.aload_n 0, 1) := by decide +kernel
theorem d_Te_takeOut_13 : decode b_Te_takeOut 13 = .ok (.getfield 9, 3) := by decide +kernel
theorem d_Te_takeOut_16 : decode b_Te_takeOut 16 = .ok (.iload_n 3, 1) := by decide +kernel
theorem d_Te_takeOut_17 : decode b_Te_takeOut 17 = .ok (.iload_n 2, 1) := by decide +kernel
theorem d_Te_takeOut_18 : decode b_Te_takeOut 18 = .ok (.isub, 1) := by decide +kernel
theorem d_Te_takeOut_19 : decode b_Te_takeOut 19 = .ok (.aload_n 0, 1) := by decide +kernel
theorem d_Te_takeOut_20 : decode b_Te_takeOut 20 = .ok (.getfield 9, 3) := by decide +kernel
theorem d_Te_takeOut_23 : decode b_Te_takeOut 23 = .ok (.iload_n 3, 1) := by decide +kernel
theorem d_Te_takeOut_24 : decode b_Te_takeOut 24 = .ok (.caload, 1) := by decide +kernel
theorem d_Te_takeOut_25 : decode b_Te_takeOut 25 = .ok (.castore, 1) := by decide +kernel
theorem d_Te_takeOut_26 : decode b_Te_takeOut 26 = .ok (.iinc 3 1, 3) := by decide +kernel
theorem d_Te_takeOut_29 : decode b_Te_takeOut 29 = .ok (.goto (-25), 3) := by decide +kernel
theorem d_Te_takeOut_32 : decode b_Te_takeOut 32 = .ok (.aload_n 0, 1) := by decide +kernel
theorem d_Te_takeOut_33 : decode b_Te_takeOut 33 = .ok (.dup, 1) := by decide +kernel
theorem d_Te_takeOut_34 : decode b_Te_takeOut 34 = .ok (.getfield 15, 3) := by decide +kernel
theorem d_Te_takeOut_37 : decode b_Te_takeOut 37 = .ok (.iload_n 2, 1) := by decide +kernel
theorem d_Te_takeOut_38 : decode b_Te_takeOut 38 = .ok (.isub, 1) := by decide +kernel
theorem d_Te_takeOut_39 : decode b_Te_takeOut 39 = .ok (.putfield 15, 3) := by decide +kernel
theorem d_Te_takeOut_42 : decode b_Te_takeOut 42 = .ok (.return_, 1) := by decide +kernel
abbrev b_To_init : ByteArray := prog_9_method_1_code
def y_To_init : MethodName := ⟨"ProgramDesk$Tokens", "<init>", "()V"⟩
theorem d_To_init_0 : decode b_To_init 0 = .ok (.aload_n 0, 1) := by decide +kernel
theorem d_To_init_1 : decode b_To_init 1 = .ok (.invokespecial 3, 3) := by decide +kernel
theorem d_To_init_4 : decode b_To_init 4 = .ok (.aload_n 0, 1) := by decide +kernel
theorem d_To_init_5 : decode b_To_init 5 = .ok (.sipush 240, 3) := by decide +kernel
theorem d_To_init_8 : decode b_To_init 8 = .ok (.newarray .int, 2) := by decide +kernel
theorem d_To_init_10 : decode b_To_init 10 = .ok (.putfield 9, 3) := by decide +kernel
theorem d_To_init_13 : decode b_To_init 13 = .ok (.aload_n 0, 1) := by decide +kernel
theorem d_To_init_14 : decode b_To_init 14 = .ok (.sipush 240, 3) := by decide +kernel
theorem d_To_init_17 : decode b_To_init 17 = .ok (.newarray .int, 2) := by decide +kernel
theorem d_To_init_19 : decode b_To_init 19 = .ok (.putfield 15, 3) := by decide +kernel
theorem d_To_init_22 : decode b_To_init 22 = .ok (.aload_n 0, 1) := by decide +kernel
theorem d_To_init_23 : decode b_To_init 23 = .ok (.sipush 240, 3) := by decide +kernel
theorem d_To_init_26 : decode b_To_init 26 = .ok (.newarray .int, 2) := by decide +kernel
theorem d_To_init_28 : decode b_To_init 28 = .ok (.putfield 18, 3) := by decide +kernel
theorem d_To_init_31 : decode b_To_init 31 = .ok (.aload_n 0, 1) := by decide +kernel
theorem d_To_init_32 : decode b_To_init 32 = .ok (.sipush 240, 3) := by decide +kernel
theorem d_To_init_35 : decode b_To_init 35 = .ok (.newarray .int, 2) := by decide +kernel
theorem d_To_init_37 : decode b_To_init 37 = .ok (.putfield 21, 3) := by decide +kernel
theorem d_To_init_40 : decode b_To_init 40 = .ok (.return_, 1) := by decide +kernel
abbrev b_To_readFrom : ByteArray := prog_9_method_2_code
def y_To_readFrom : MethodName := ⟨"ProgramDesk$Tokens", "readFrom", "(LProgramDesk$Text;)V"⟩
theorem d_To_readFrom_0 : decode b_To_readFrom 0 = .ok (.aload_n 0, 1) := by decide +kernel
theorem d_To_readFrom_1 : decode b_To_readFrom 1 = .ok (.iconst 0, 1) := by decide +kernel
theorem d_To_readFrom_2 : decode b_To_readFrom 2 = .ok (.putfield 24, 3) := by decide +kernel
theorem d_To_readFrom_5 : decode b_To_readFrom 5 = .ok (.iconst 0, 1) := by decide +kernel
theorem d_To_readFrom_6 : decode b_To_readFrom 6 = .ok (.istore_n 2, 1) := by decide +kernel
theorem d_To_readFrom_7 : decode b_To_readFrom 7 = .ok (.iconst 0, 1) := by decide +kernel
theorem d_To_readFrom_8 : decode b_To_readFrom 8 = .ok (.istore_n 3, 1) := by decide +kernel
theorem d_To_readFrom_9 : decode b_To_readFrom 9 = .ok (.iload_n 3, 1) := by decide +kernel
theorem d_To_readFrom_10 : decode b_To_readFrom 10 = .ok (.aload_n 1, 1) := by decide +kernel
theorem d_To_readFrom_11 : decode b_To_readFrom 11 = .ok (.getfield 28, 3) := by decide +kernel
theorem d_To_readFrom_14 : decode b_To_readFrom 14 = .ok (.if_icmp .ge 68, 3) := by decide +kernel
theorem d_To_readFrom_17 : decode b_To_readFrom 17 = .ok (.aload_n 1, 1) := by decide +kernel
theorem d_To_readFrom_18 : decode b_To_readFrom 18 = .ok (.getfield 33, 3) := by decide +kernel
theorem d_To_readFrom_21 : decode b_To_readFrom 21 = .ok (.iload_n 3, 1) := by decide +kernel
theorem d_To_readFrom_22 : decode b_To_readFrom 22 = .ok (.caload, 1) := by decide +kernel
theorem d_To_readFrom_23 : decode b_To_readFrom 23 = .ok (.istore 4, 2) := by decide +kernel
theorem d_To_readFrom_25 : decode b_To_readFrom 25 = .ok (.iload 4, 2) := by decide +kernel
theorem d_To_readFrom_27 : decode b_To_readFrom 27 = .ok (.invokestatic 37, 3) := by decide +kernel
theorem d_To_readFrom_30 : decode b_To_readFrom 30 = .ok (.istore 5, 2) := by decide +kernel
theorem d_To_readFrom_32 : decode b_To_readFrom 32 = .ok (.iload 5, 2) := by decide +kernel
theorem d_To_readFrom_34 : decode b_To_readFrom 34 = .ok (.iload_n 2, 1) := by decide +kernel
theorem d_To_readFrom_35 : decode b_To_readFrom 35 = .ok (.if_icmp .ne 24, 3) := by decide +kernel
theorem d_To_readFrom_38 : decode b_To_readFrom 38 = .ok (.iload 5, 2) := by decide +kernel
theorem d_To_readFrom_40 : decode b_To_readFrom 40 = .ok (.iconst 2, 1) := by decide +kernel
theorem d_To_readFrom_41 : decode b_To_readFrom 41 = .ok (.if_icmp .eq 9, 3) := by decide +kernel
theorem d_To_readFrom_44 : decode b_To_readFrom 44 = .ok (.iload 5, 2) := by decide +kernel
theorem d_To_readFrom_46 : decode b_To_readFrom 46 = .ok (.iconst 3, 1) := by decide +kernel
theorem d_To_readFrom_47 : decode b_To_readFrom 47 = .ok (.if_icmp .ne 12, 3) := by decide +kernel
theorem d_To_readFrom_50 : decode b_To_readFrom 50 = .ok (.aload_n 0, 1) := by decide +kernel
theorem d_To_readFrom_51 : decode b_To_readFrom 51 = .ok (.iload 4, 2) := by decide +kernel
theorem d_To_readFrom_53 : decode b_To_readFrom 53 = .ok (.invokevirtual 41, 3) := by decide +kernel
theorem d_To_readFrom_56 : decode b_To_readFrom 56 = .ok (.goto 17, 3) := by decide +kernel
theorem d_To_readFrom_59 : decode b_To_readFrom 59 = .ok (.iload 5, 2) := by decide +kernel
theorem d_To_readFrom_61 : decode b_To_readFrom 61 = .ok (.ifCond .eq 12, 3) := by decide +kernel
theorem d_To_readFrom_64 : decode b_To_readFrom 64 = .ok (.aload_n 0, 1) := by decide +kernel
theorem d_To_readFrom_65 : decode b_To_readFrom 65 = .ok (.iload_n 3, 1) := by decide +kernel
theorem d_To_readFrom_66 : decode b_To_readFrom 66 = .ok (.iload 5, 2) := by decide +kernel
theorem d_To_readFrom_68 : decode b_To_readFrom 68 = .ok (.iload 4, 2) := by decide +kernel
theorem d_To_readFrom_70 : decode b_To_readFrom 70 = .ok (.invokevirtual 45, 3) := by decide +kernel
theorem d_To_readFrom_73 : decode b_To_readFrom 73 = .ok (.iload 5, 2) := by decide +kernel
theorem d_To_readFrom_75 : decode b_To_readFrom 75 = .ok (.istore_n 2, 1) := by decide +kernel
theorem d_To_readFrom_76 : decode b_To_readFrom 76 = .ok (.iinc 3 1, 3) := by decide +kernel
theorem d_To_readFrom_79 : decode b_To_readFrom 79 = .ok (.goto (-70), 3) := by decide +kernel
theorem d_To_readFrom_82 : decode b_To_readFrom 82 = .ok (.iconst 0, 1) := by decide +kernel
theorem d_To_readFrom_83 : decode b_To_readFrom 83 = .ok (.istore_n 3, 1) := by decide +kernel
theorem d_To_readFrom_84 : decode b_To_readFrom 84 = .ok (.iload_n 3, 1) := by decide +kernel
theorem d_To_readFrom_85 : decode b_To_readFrom 85 = .ok (.aload_n 0, 1) := by decide +kernel
theorem d_To_readFrom_86 : decode b_To_readFrom 86 = .ok (.getfield 24, 3) := by decide +kernel
theorem d_To_readFrom_89 : decode b_To_readFrom 89 = .ok (.if_icmp .ge 14, 3) := by decide +kernel
theorem d_To_readFrom_92 : decode b_To_readFrom 92 = .ok (.aload_n 0, 1) := by decide +kernel
theorem d_To_readFrom_93 : decode b_To_readFrom 93 = .ok (.iload_n 3, 1) := by decide +kernel
theorem d_To_readFrom_94 : decode b_To_readFrom 94 = .ok (.invokevirtual 49, 3) := by decide +kernel
theorem d_To_readFrom_97 : decode b_To_readFrom 97 = .ok (.iinc 3 1, 3) := by decide +kernel
theorem d_To_readFrom_100 : decode b_To_readFrom 100 = .ok (.goto (-16), 3) := by decide +kernel
theorem d_To_readFrom_103 : decode b_To_readFrom 103 = .ok (.return_, 1) := by decide +kernel
abbrev b_To_at : ByteArray := prog_9_method_3_code
def y_To_at : MethodName := ⟨"ProgramDesk$Tokens", "at", "(I)I"⟩
theorem d_To_at_0 : decode b_To_at 0 = .ok (.iconst 0, 1) := by decide +kernel
theorem d_To_at_1 : decode b_To_at 1 = .ok (.istore_n 2, 1) := by decide +kernel
theorem d_To_at_2 : decode b_To_at 2 = .ok (.iload_n 2, 1) := by decide +kernel
theorem d_To_at_3 : decode b_To_at 3 = .ok (.aload_n 0, 1) := by decide +kernel
theorem d_To_at_4 : decode b_To_at 4 = .ok (.getfield 24, 3) := by decide +kernel
theorem d_To_at_7 : decode b_To_at 7 = .ok (.if_icmp .ge 31, 3) := by decide +kernel
theorem d_To_at_10 : decode b_To_at 10 = .ok (.aload_n 0, 1) := by decide +kernel
theorem d_To_at_11 : decode b_To_at 11 = .ok (.getfield 18, 3) := by decide +kernel
theorem d_To_at_14 : decode b_To_at 14 = .ok (.iload_n 2, 1) := by decide +kernel
theorem d_To_at_15 : decode b_To_at 15 = .ok (.iaload, 1) := by decide +kernel
theorem d_To_at_16 : decode b_To_at 16 = .ok (.iload_n 1, 1) := by decide +kernel
theorem d_To_at_17 : decode b_To_at 17 = .ok (.if_icmp .gt 15, 3) := by decide +kernel
theorem d_To_at_20 : decode b_To_at 20 = .ok (.iload_n 1, 1) := by decide +kernel
theorem d_To_at_21 : decode b_To_at 21 = .ok (.aload_n 0, 1) := by decide +kernel
theorem d_To_at_22 : decode b_To_at 22 = .ok (.getfield 21, 3) := by decide +kernel
theorem d_To_at_25 : decode b_To_at 25 = .ok (.iload_n 2, 1) := by decide +kernel
theorem d_To_at_26 : decode b_To_at 26 = .ok (.iaload, 1) := by decide +kernel
theorem d_To_at_27 : decode b_To_at 27 = .ok (.if_icmp .ge 5, 3) := by decide +kernel
theorem d_To_at_30 : decode b_To_at 30 = .ok (.iload_n 2, 1) := by decide +kernel
theorem d_To_at_31 : decode b_To_at 31 = .ok (.ireturn, 1) := by decide +kernel
theorem d_To_at_32 : decode b_To_at 32 = .ok (.iinc 2 1, 3) := by decide +kernel
theorem d_To_at_35 : decode b_To_at 35 = .ok (.goto (-33), 3) := by decide +kernel
theorem d_To_at_38 : decode b_To_at 38 = .ok (.iconst (-1), 1) := by decide +kernel
theorem d_To_at_39 : decode b_To_at 39 = .ok (.ireturn, 1) := by decide +kernel
abbrev b_To_isFn : ByteArray := prog_9_method_4_code
def y_To_isFn : MethodName := ⟨"ProgramDesk$Tokens", "isFn", "(I)Z"⟩
theorem d_To_isFn_0 : decode b_To_isFn 0 = .ok (.aload_n 0, 1) := by decide +kernel
theorem d_To_isFn_1 : decode b_To_isFn 1 = .ok (.getfield 9, 3) := by decide +kernel
theorem d_To_isFn_4 : decode b_To_isFn 4 = .ok (.iload_n 1, 1) := by decide +kernel
theorem d_To_isFn_5 : decode b_To_isFn 5 = .ok (.iaload, 1) := by decide +kernel
theorem d_To_isFn_6 : decode b_To_isFn 6 = .ok (.iconst 1, 1) := by decide +kernel
theorem d_To_isFn_7 : decode b_To_isFn 7 = .ok (.if_icmp .ne 16, 3) := by decide +kernel
theorem d_To_isFn_10 : decode b_To_isFn 10 = .ok (.aload_n 0, 1) := by decide +kernel
theorem d_To_isFn_11 : decode b_To_isFn 11 = .ok (.getfield 15, 3) := by decide +kernel
theorem d_To_isFn_14 : decode b_To_isFn 14 = .ok (.iload_n 1, 1) := by decide +kernel
theorem d_To_isFn_15 : decode b_To_isFn 15 = .ok (.iaload, 1) := by decide +kernel
theorem d_To_isFn_16 : decode b_To_isFn 16 = .ok (.ifCond .ne 7, 3) := by decide +kernel
theorem d_To_isFn_19 : decode b_To_isFn 19 = .ok (.iconst 1, 1) := by decide +kernel
theorem d_To_isFn_20 : decode b_To_isFn 20 = .ok (.goto 4, 3) := by decide +kernel
theorem d_To_isFn_23 : decode b_To_isFn 23 = .ok (.iconst 0, 1) := by decide +kernel
theorem d_To_isFn_24 : decode b_To_isFn 24 = .ok (.ireturn, 1) := by decide +kernel
abbrev b_To_groupOf : ByteArray := prog_9_method_5_code
def y_To_groupOf : MethodName := ⟨"ProgramDesk$Tokens", "groupOf", "(C)I"⟩
theorem d_To_groupOf_0 : decode b_To_groupOf 0 = .ok (.iload_n 0, 1) := by decide +kernel
theorem d_To_groupOf_1 : decode b_To_groupOf 1 = .ok (.bipush 32, 2) := by decide +kernel
theorem d_To_groupOf_3 : decode b_To_groupOf 3 = .ok (.if_icmp .ne 5, 3) := by decide +kernel
theorem d_To_groupOf_6 : decode b_To_groupOf 6 = .ok (.iconst 0, 1) := by decide +kernel
theorem d_To_groupOf_7 : decode b_To_groupOf 7 = .ok (.ireturn, 1) := by decide +kernel
theorem d_To_groupOf_8 : decode b_To_groupOf 8 = .ok (.iload_n 0, 1) := by decide +kernel
theorem d_To_groupOf_9 : decode b_To_groupOf 9 = .ok (.bipush 97, 2) := by decide +kernel
theorem d_To_groupOf_11 : decode b_To_groupOf 11 = .ok (.if_icmp .lt 11, 3) := by decide +kernel
theorem d_To_groupOf_14 : decode b_To_groupOf 14 = .ok (.iload_n 0, 1) := by decide +kernel
theorem d_To_groupOf_15 : decode b_To_groupOf 15 = .ok (.bipush 122, 2) := by decide +kernel
theorem d_To_groupOf_17 : decode b_To_groupOf 17 = .ok (.if_icmp .gt 5, 3) := by decide +kernel
theorem d_To_groupOf_20 : decode b_To_groupOf 20 = .ok (.iconst 2, 1) := by decide +kernel
theorem d_To_groupOf_21 : decode b_To_groupOf 21 = .ok (.ireturn, 1) := by decide +kernel
theorem d_To_groupOf_22 : decode b_To_groupOf 22 = .ok (.iload_n 0, 1) := by decide +kernel
theorem d_To_groupOf_23 : decode b_To_groupOf 23 = .ok (.bipush 48, 2) := by decide +kernel
theorem d_To_groupOf_25 : decode b_To_groupOf 25 = .ok (.if_icmp .lt 11, 3) := by decide +kernel
theorem d_To_groupOf_28 : decode b_To_groupOf 28 = .ok (.iload_n 0, 1) := by decide +kernel
theorem d_To_groupOf_29 : decode b_To_groupOf 29 = .ok (.bipush 57, 2) := by decide +kernel
theorem d_To_groupOf_31 : decode b_To_groupOf 31 = .ok (.if_icmp .gt 5, 3) := by decide +kernel
theorem d_To_groupOf_34 : decode b_To_groupOf 34 = .ok (.iconst 3, 1) := by decide +kernel
theorem d_To_groupOf_35 : decode b_To_groupOf 35 = .ok (.ireturn, 1) := by decide +kernel
theorem d_To_groupOf_36 : decode b_To_groupOf 36 = .ok (.ldc 53, 2) := by decide +kernel
theorem d_To_groupOf_38 : decode b_To_groupOf 38 = .ok (.iload_n 0, 1) := by decide +kernel
theorem d_To_groupOf_39 : decode b_To_groupOf 39 = .ok (.invokevirtual 55, 3) := by decide +kernel
theorem d_To_groupOf_42 : decode b_To_groupOf 42 = .ok (.ifCond .lt 7, 3) := by decide +kernel
theorem d_To_groupOf_45 : decode b_To_groupOf 45 = .ok (.iconst 4, 1) := by decide +kernel
theorem d_To_groupOf_46 : decode b_To_groupOf 46 = .ok (.goto 4, 3) := by decide +kernel
theorem d_To_groupOf_49 : decode b_To_groupOf 49 = .ok (.iconst 5, 1) := by decide +kernel
theorem d_To_groupOf_50 : decode b_To_groupOf 50 = .ok (.ireturn, 1) := by decide +kernel
abbrev b_To_begin : ByteArray := prog_9_method_6_code
def y_To_begin : MethodName := ⟨"ProgramDesk$Tokens", "begin", "(IIC)V"⟩
theorem d_To_begin_0 : decode b_To_begin 0 = .ok (.aload_n 0, 1) := by decide +kernel
theorem d_To_begin_1 : decode b_To_begin 1 = .ok (.getfield 9, 3) := by decide +kernel
theorem d_To_begin_4 : decode b_To_begin 4 = .ok (.aload_n 0, 1) := by decide +kernel
theorem d_To_begin_5 : decode b_To_begin 5 = .ok (.getfield 24, 3) := by decide +kernel
theorem d_To_begin_8 : decode b_To_begin 8 = .ok (.iload_n 2, 1) := by decide +kernel
theorem d_To_begin_9 : decode b_To_begin 9 = .ok (.iastore, 1) := by decide +kernel
theorem d_To_begin_10 : decode b_To_begin 10 = .ok (.aload_n 0, 1) := by decide +kernel
theorem d_To_begin_11 : decode b_To_begin 11 = .ok (.getfield 18, 3) := by decide +kernel
theorem d_To_begin_14 : decode b_To_begin 14 = .ok (.aload_n 0, 1) := by decide +kernel
theorem d_To_begin_15 : decode b_To_begin 15 = .ok (.getfield 24, 3) := by decide +kernel
theorem d_To_begin_18 : decode b_To_begin 18 = .ok (.iload_n 1, 1) := by decide +kernel
theorem d_To_begin_19 : decode b_To_begin 19 = .ok (.iastore, 1) := by decide +kernel
theorem d_To_begin_20 : decode b_To_begin 20 = .ok (.aload_n 0, 1) := by decide +kernel
theorem d_To_begin_21 : decode b_To_begin 21 = .ok (.getfield 21, 3) := by decide +kernel
theorem d_To_begin_24 : decode b_To_begin 24 = .ok (.aload_n 0, 1) := by decide +kernel
theorem d_To_begin_25 : decode b_To_begin 25 = .ok (.getfield 24, 3) := by decide +kernel
theorem d_To_begin_28 : decode b_To_begin 28 = .ok (.iload_n 1, 1) := by decide +kernel
theorem d_To_begin_29 : decode b_To_begin 29 = .ok (.iconst 1, 1) := by decide +kernel
theorem d_To_begin_30 : decode b_To_begin 30 = .ok (.iadd, 1) := by decide +kernel
theorem d_To_begin_31 : decode b_To_begin 31 = .ok (.iastore, 1) := by decide +kernel
theorem d_To_begin_32 : decode b_To_begin 32 = .ok (.aload_n 0, 1) := by decide +kernel
theorem d_To_begin_33 : decode b_To_begin 33 = .ok (.getfield 15, 3) := by decide +kernel
theorem d_To_begin_36 : decode b_To_begin 36 = .ok (.aload_n 0, 1) := by decide +kernel
theorem d_To_begin_37 : decode b_To_begin 37 = .ok (.getfield 24, 3) := by decide +kernel
theorem d_To_begin_40 : decode b_To_begin 40 = .ok (.iload_n 3, 1) := by decide +kernel
theorem d_To_begin_41 : decode b_To_begin 41 = .ok (.iastore, 1) := by decide +kernel
theorem d_To_begin_42 : decode b_To_begin 42 = .ok (.iload_n 2, 1) := by decide +kernel
theorem d_To_begin_43 : decode b_To_begin 43 = .ok (.iconst 2, 1) := by decide +kernel
theorem d_To_begin_44 : decode b_To_begin 44 = .ok (.if_icmp .ne 21, 3) := by decide +kernel
theorem d_To_begin_47 : decode b_To_begin 47 = .ok (.aload_n 0, 1) := by decide +kernel
theorem d_To_begin_48 : decode b_To_begin 48 = .ok (.getfield 15, 3) := by decide +kernel
theorem d_To_begin_51 : decode b_To_begin 51 = .ok (.aload_n 0, 1) := by decide +kernel
theorem d_To_begin_52 : decode b_To_begin 52 = .ok (.getfield 24, 3) := by decide +kernel
theorem d_To_begin_55 : decode b_To_begin 55 = .ok (.iload_n 3, 1) := by decide +kernel
theorem d_To_begin_56 : decode b_To_begin 56 = .ok (.bipush 97, 2) := by decide +kernel
theorem d_To_begin_58 : decode b_To_begin 58 = .ok (.isub, 1) := by decide +kernel
theorem d_To_begin_59 : decode b_To_begin 59 = .ok (.iconst 1, 1) := by decide +kernel
theorem d_To_begin_60 : decode b_To_begin 60 = .ok (.iadd, 1) := by decide +kernel
theorem d_To_begin_61 : decode b_To_begin 61 = .ok (.iastore, 1) := by decide +kernel
theorem d_To_begin_62 : decode b_To_begin 62 = .ok (.goto 21, 3) := by decide +kernel
theorem d_To_begin_65 : decode b_To_begin 65 = .ok (.iload_n 2, 1) := by decide +kernel
theorem d_To_begin_66 : decode b_To_begin 66 = .ok (.iconst 3, 1) := by decide +kernel
theorem d_To_begin_67 : decode b_To_begin 67 = .ok (.if_icmp .ne 16, 3) := by decide +kernel
theorem d_To_begin_70 : decode b_To_begin 70 = .ok (.aload_n 0, 1) := by decide +kernel
theorem d_To_begin_71 : decode b_To_begin 71 = .ok (.getfield 15, 3) := by decide +kernel
theorem d_To_begin_74 : decode b_To_begin 74 = .ok (.aload_n 0, 1) := by decide +kernel
theorem d_To_begin_75 : decode b_To_begin 75 = .ok (.getfield 24, 3) := by decide +kernel
theorem d_To_begin_78 : decode b_To_begin 78 = .ok (.iload_n 3, 1) := by decide +kernel
theorem d_To_begin_79 : decode b_To_begin 79 = .ok (.bipush 48, 2) := by decide +kernel
theorem d_To_begin_81 : decode b_To_begin 81 = .ok (.isub, 1) := by decide +kernel
theorem d_To_begin_82 : decode b_To_begin 82 = .ok (.iastore, 1) := by decide +kernel
theorem d_To_begin_83 : decode b_To_begin 83 = .ok (.aload_n 0, 1) := by decide +kernel
theorem d_To_begin_84 : decode b_To_begin 84 = .ok (.dup, 1) := by decide +kernel
theorem d_To_begin_85 : decode b_To_begin 85 = .ok (.getfield 24, 3) := by decide +kernel
theorem d_To_begin_88 : decode b_To_begin 88 = .ok (.iconst 1, 1) := by decide +kernel
theorem d_To_begin_89 : decode b_To_begin 89 = .ok (.iadd, 1) := by decide +kernel
theorem d_To_begin_90 : decode b_To_begin 90 = .ok (.putfield 24, 3) := by decide +kernel
theorem d_To_begin_93 : decode b_To_begin 93 = .ok (.return_, 1) := by decide +kernel
abbrev b_To_lengthen : ByteArray := prog_9_method_7_code
def y_To_lengthen : MethodName := ⟨"ProgramDesk$Tokens", "lengthen", "(C)V"⟩
theorem d_To_lengthen_0 : decode b_To_lengthen 0 = .ok (.aload_n 0, 1) := by decide +kernel
theorem d_To_lengthen_1 : decode b_To_lengthen 1 = .ok (.getfield 24, 3) := by decide +kernel
theorem d_To_lengthen_4 : decode b_To_lengthen 4 = .ok (.iconst 1, 1) := by decide +kernel
theorem d_To_lengthen_5 : decode b_To_lengthen 5 = .ok (.isub, 1) := by decide +kernel
theorem d_To_lengthen_6 : decode b_To_lengthen 6 = .ok (.istore_n 2, 1) := by decide +kernel
theorem d_To_lengthen_7 : decode b_To_lengthen 7 = .ok (.aload_n 0, 1) := by decide +kernel
theorem d_To_lengthen_8 : decode b_To_lengthen 8 = .ok (.getfield 21, 3) := by decide +kernel
theorem d_To_lengthen_11 : decode b_To_lengthen 11 = .ok (.iload_n 2, 1) := by decide +kernel
theorem d_To_lengthen_12 : decode b_To_lengthen 12 = .ok (.iaload, 1) := by decide +kernel
theorem d_To_lengthen_13 : decode b_To_lengthen 13 = .ok (.aload_n 0, 1) := by decide +kernel
theorem d_To_lengthen_14 : decode b_To_lengthen 14 = .ok (.getfield 18, 3) := by decide +kernel
theorem d_To_lengthen_17 : decode b_To_lengthen 17 = .ok (.iload_n 2, 1) := by decide +kernel
theorem d_To_lengthen_18 : decode b_To_lengthen 18 = .ok (.iaload, 1) := by decide +kernel
theorem d_To_lengthen_19 : decode b_To_lengthen 19 = .ok (.isub, 1) := by decide +kernel
theorem d_To_lengthen_20 : decode b_To_lengthen 20 = .ok (.istore_n 3, 1) := by decide +kernel
theorem d_To_lengthen_21 : decode b_To_lengthen 21 = .ok (.aload_n 0, 1) := by decide +kernel
theorem d_To_lengthen_22 : decode b_To_lengthen 22 = .ok (.getfield 9, 3) := by decide +kernel
theorem d_To_lengthen_25 : decode b_To_lengthen 25 = .ok (.iload_n 2, 1) := by decide +kernel
theorem d_To_lengthen_26 : decode b_To_lengthen 26 = .ok (.iaload, 1) := by decide +kernel
theorem d_To_lengthen_27 : decode b_To_lengthen 27 = .ok (.iconst 3, 1) := by decide +kernel
theorem d_To_lengthen_28 : decode b_To_lengthen 28 = .ok (.if_icmp .ne 26, 3) := by decide +kernel
theorem d_To_lengthen_31 : decode b_To_lengthen 31 = .ok (.aload_n 0, 1) := by decide +kernel
theorem d_To_lengthen_32 : decode b_To_lengthen 32 = .ok (.getfield 15, 3) := by decide +kernel
theorem d_To_lengthen_35 : decode b_To_lengthen 35 = .ok (.iload_n 2, 1) := by decide +kernel
theorem d_To_lengthen_36 : decode b_To_lengthen 36 = .ok (.aload_n 0, 1) := by decide +kernel
theorem d_To_lengthen_37 : decode b_To_lengthen 37 = .ok (.getfield 15, 3) := by decide +kernel
theorem d_To_lengthen_40 : decode b_To_lengthen 40 = .ok (.iload_n 2, 1) := by decide +kernel
theorem d_To_lengthen_41 : decode b_To_lengthen 41 = .ok (.iaload, 1) := by decide +kernel
theorem d_To_lengthen_42 : decode b_To_lengthen 42 = .ok (.bipush 10, 2) := by decide +kernel
theorem d_To_lengthen_44 : decode b_To_lengthen 44 = .ok (.imul, 1) := by decide +kernel
theorem d_To_lengthen_45 : decode b_To_lengthen 45 = .ok (.iload_n 1, 1) := by decide +kernel
theorem d_To_lengthen_46 : decode b_To_lengthen 46 = .ok (.iadd, 1) := by decide +kernel
theorem d_To_lengthen_47 : decode b_To_lengthen 47 = .ok (.bipush 48, 2) := by decide +kernel
theorem d_To_lengthen_49 : decode b_To_lengthen 49 = .ok (.isub, 1) := by decide +kernel
theorem d_To_lengthen_50 : decode b_To_lengthen 50 = .ok (.iastore, 1) := by decide +kernel
theorem d_To_lengthen_51 : decode b_To_lengthen 51 = .ok (.goto 28, 3) := by decide +kernel
theorem d_To_lengthen_54 : decode b_To_lengthen 54 = .ok (.iload_n 3, 1) := by decide +kernel
theorem d_To_lengthen_55 : decode b_To_lengthen 55 = .ok (.bipush 6, 2) := by decide +kernel
theorem d_To_lengthen_57 : decode b_To_lengthen 57 = .ok (.if_icmp .ge 22, 3) := by decide +kernel
theorem d_To_lengthen_60 : decode b_To_lengthen 60 = .ok (.aload_n 0, 1) := by decide +kernel
theorem d_To_lengthen_61 : decode b_To_lengthen 61 = .ok (.getfield 15, 3) := by decide +kernel
theorem d_To_lengthen_64 : decode b_To_lengthen 64 = .ok (.iload_n 2, 1) := by decide +kernel
theorem d_To_lengthen_65 : decode b_To_lengthen 65 = .ok (.dup2, 1) := by decide +kernel
theorem d_To_lengthen_66 : decode b_To_lengthen 66 = .ok (.iaload, 1) := by decide +kernel
theorem d_To_lengthen_67 : decode b_To_lengthen 67 = .ok (.iload_n 1, 1) := by decide +kernel
theorem d_To_lengthen_68 : decode b_To_lengthen 68 = .ok (.bipush 97, 2) := by decide +kernel
theorem d_To_lengthen_70 : decode b_To_lengthen 70 = .ok (.isub, 1) := by decide +kernel
theorem d_To_lengthen_71 : decode b_To_lengthen 71 = .ok (.iconst 1, 1) := by decide +kernel
theorem d_To_lengthen_72 : decode b_To_lengthen 72 = .ok (.iadd, 1) := by decide +kernel
theorem d_To_lengthen_73 : decode b_To_lengthen 73 = .ok (.iconst 5, 1) := by decide +kernel
theorem d_To_lengthen_74 : decode b_To_lengthen 74 = .ok (.iload_n 3, 1) := by decide +kernel
theorem d_To_lengthen_75 : decode b_To_lengthen 75 = .ok (.imul, 1) := by decide +kernel
theorem d_To_lengthen_76 : decode b_To_lengthen 76 = .ok (.ishl, 1) := by decide +kernel
theorem d_To_lengthen_77 : decode b_To_lengthen 77 = .ok (.ior, 1) := by decide +kernel
theorem d_To_lengthen_78 : decode b_To_lengthen 78 = .ok (.iastore, 1) := by decide +kernel
theorem d_To_lengthen_79 : decode b_To_lengthen 79 = .ok (.aload_n 0, 1) := by decide +kernel
theorem d_To_lengthen_80 : decode b_To_lengthen 80 = .ok (.getfield 21, 3) := by decide +kernel
theorem d_To_lengthen_83 : decode b_To_lengthen 83 = .ok (.iload_n 2, 1) := by decide +kernel
theorem d_To_lengthen_84 : decode b_To_lengthen 84 = .ok (.dup2, 1) := by decide +kernel
theorem d_To_lengthen_85 : decode b_To_lengthen 85 = .ok (.iaload, 1) := by decide +kernel
theorem d_To_lengthen_86 : decode b_To_lengthen 86 = .ok (.iconst 1, 1) := by decide +kernel
theorem d_To_lengthen_87 : decode b_To_lengthen 87 = .ok (.iadd, 1) := by decide +kernel
theorem d_To_lengthen_88 : decode b_To_lengthen 88 = .ok (.iastore, 1) := by decide +kernel
theorem d_To_lengthen_89 : decode b_To_lengthen 89 = .ok (.return_, 1) := by decide +kernel
abbrev b_To_settleKind : ByteArray := prog_9_method_8_code
def y_To_settleKind : MethodName := ⟨"ProgramDesk$Tokens", "settleKind", "(I)V"⟩
theorem d_To_settleKind_0 : decode b_To_settleKind 0 = .ok (.aload_n 0, 1) := by decide +kernel
theorem d_To_settleKind_1 : decode b_To_settleKind 1 = .ok (.getfield 21, 3) := by decide +kernel
theorem d_To_settleKind_4 : decode b_To_settleKind 4 = .ok (.iload_n 1, 1) := by decide +kernel
theorem d_To_settleKind_5 : decode b_To_settleKind 5 = .ok (.iaload, 1) := by decide +kernel
theorem d_To_settleKind_6 : decode b_To_settleKind 6 = .ok (.aload_n 0, 1) := by decide +kernel
theorem d_To_settleKind_7 : decode b_To_settleKind 7 = .ok (.getfield 18, 3) := by decide +kernel
theorem d_To_settleKind_10 : decode b_To_settleKind 10 = .ok (.iload_n 1, 1) := by decide +kernel
theorem d_To_settleKind_11 : decode b_To_settleKind 11 = .ok (.iaload, 1) := by decide +kernel
theorem d_To_settleKind_12 : decode b_To_settleKind 12 = .ok (.isub, 1) := by decide +kernel
theorem d_To_settleKind_13 : decode b_To_settleKind 13 = .ok (.istore_n 2, 1) := by decide +kernel
theorem d_To_settleKind_14 : decode b_To_settleKind 14 = .ok (.aload_n 0, 1) := by decide +kernel
theorem d_To_settleKind_15 : decode b_To_settleKind 15 = .ok (.getfield 9, 3) := by decide +kernel
theorem d_To_settleKind_18 : decode b_To_settleKind 18 = .ok (.iload_n 1, 1) := by decide +kernel
theorem d_To_settleKind_19 : decode b_To_settleKind 19 = .ok (.iaload, 1) := by decide +kernel
theorem d_To_settleKind_20 : decode b_To_settleKind 20 = .ok (.iconst 3, 1) := by decide +kernel
theorem d_To_settleKind_21 : decode b_To_settleKind 21 = .ok (.if_icmp .ne 8, 3) := by decide +kernel
theorem d_To_settleKind_24 : decode b_To_settleKind 24 = .ok (.iload_n 2, 1) := by decide +kernel
theorem d_To_settleKind_25 : decode b_To_settleKind 25 = .ok (.iconst 4, 1) := by decide +kernel
theorem d_To_settleKind_26 : decode b_To_settleKind 26 = .ok (.if_icmp .gt 19, 3) := by decide +kernel
theorem d_To_settleKind_29 : decode b_To_settleKind 29 = .ok (.aload_n 0, 1) := by decide +kernel
theorem d_To_settleKind_30 : decode b_To_settleKind 30 = .ok (.getfield 9, 3) := by decide +kernel
theorem d_To_settleKind_33 : decode b_To_settleKind 33 = .ok (.iload_n 1, 1) := by decide +kernel
theorem d_To_settleKind_34 : decode b_To_settleKind 34 = .ok (.iaload, 1) := by decide +kernel
theorem d_To_settleKind_35 : decode b_To_settleKind 35 = .ok (.iconst 2, 1) := by decide +kernel
theorem d_To_settleKind_36 : decode b_To_settleKind 36 = .ok (.if_icmp .ne 19, 3) := by decide +kernel
theorem d_To_settleKind_39 : decode b_To_settleKind 39 = .ok (.iload_n 2, 1) := by decide +kernel
theorem d_To_settleKind_40 : decode b_To_settleKind 40 = .ok (.bipush 6, 2) := by decide +kernel
theorem d_To_settleKind_42 : decode b_To_settleKind 42 = .ok (.if_icmp .le 13, 3) := by decide +kernel
theorem d_To_settleKind_45 : decode b_To_settleKind 45 = .ok (.aload_n 0, 1) := by decide +kernel
theorem d_To_settleKind_46 : decode b_To_settleKind 46 = .ok (.getfield 9, 3) := by decide +kernel
theorem d_To_settleKind_49 : decode b_To_settleKind 49 = .ok (.iload_n 1, 1) := by decide +kernel
theorem d_To_settleKind_50 : decode b_To_settleKind 50 = .ok (.iconst 5, 1) := by decide +kernel
theorem d_To_settleKind_51 : decode b_To_settleKind 51 = .ok (.iastore, 1) := by decide +kernel
theorem d_To_settleKind_52 : decode b_To_settleKind 52 = .ok (.goto 48, 3) := by decide +kernel
theorem d_To_settleKind_55 : decode b_To_settleKind 55 = .ok (.aload_n 0, 1) := by decide +kernel
theorem d_To_settleKind_56 : decode b_To_settleKind 56 = .ok (.getfield 9, 3) := by decide +kernel
theorem d_To_settleKind_59 : decode b_To_settleKind 59 = .ok (.iload_n 1, 1) := by decide +kernel
theorem d_To_settleKind_60 : decode b_To_settleKind 60 = .ok (.iaload, 1) := by decide +kernel
theorem d_To_settleKind_61 : decode b_To_settleKind 61 = .ok (.iconst 2, 1) := by decide +kernel
theorem d_To_settleKind_62 : decode b_To_settleKind 62 = .ok (.if_icmp .ne 38, 3) := by decide +kernel
theorem d_To_settleKind_65 : decode b_To_settleKind 65 = .ok (.aload_n 0, 1) := by decide +kernel
theorem d_To_settleKind_66 : decode b_To_settleKind 66 = .ok (.getfield 15, 3) := by decide +kernel
theorem d_To_settleKind_69 : decode b_To_settleKind 69 = .ok (.iload_n 1, 1) := by decide +kernel
theorem d_To_settleKind_70 : decode b_To_settleKind 70 = .ok (.iaload, 1) := by decide +kernel
theorem d_To_settleKind_71 : decode b_To_settleKind 71 = .ok (.invokestatic 61, 3) := by decide +kernel
theorem d_To_settleKind_74 : decode b_To_settleKind 74 = .ok (.iconst (-1), 1) := by decide +kernel
theorem d_To_settleKind_75 : decode b_To_settleKind 75 = .ok (.if_icmp .eq 25, 3) := by decide +kernel
theorem d_To_settleKind_78 : decode b_To_settleKind 78 = .ok (.aload_n 0, 1) := by decide +kernel
theorem d_To_settleKind_79 : decode b_To_settleKind 79 = .ok (.getfield 9, 3) := by decide +kernel
theorem d_To_settleKind_82 : decode b_To_settleKind 82 = .ok (.iload_n 1, 1) := by decide +kernel
theorem d_To_settleKind_83 : decode b_To_settleKind 83 = .ok (.iconst 1, 1) := by decide +kernel
theorem d_To_settleKind_84 : decode b_To_settleKind 84 = .ok (.iastore, 1) := by decide +kernel
theorem d_To_settleKind_85 : decode b_To_settleKind 85 = .ok (.aload_n 0, 1) := by decide +kernel
theorem d_To_settleKind_86 : decode b_To_settleKind 86 = .ok (.getfield 15, 3) := by decide +kernel
theorem d_To_settleKind_89 : decode b_To_settleKind 89 = .ok (.iload_n 1, 1) := by decide +kernel
theorem d_To_settleKind_90 : decode b_To_settleKind 90 = .ok (.aload_n 0, 1) := by decide +kernel
theorem d_To_settleKind_91 : decode b_To_settleKind 91 = .ok (.getfield 15, 3) := by decide +kernel
theorem d_To_settleKind_94 : decode b_To_settleKind 94 = .ok (.iload_n 1, 1) := by decide +kernel
theorem d_To_settleKind_95 : decode b_To_settleKind 95 = .ok (.iaload, 1) := by decide +kernel
theorem d_To_settleKind_96 : decode b_To_settleKind 96 = .ok (.invokestatic 61, 3) := by decide +kernel
theorem d_To_settleKind_99 : decode b_To_settleKind 99 = .ok (.iastore, 1) := by decide +kernel
theorem d_To_settleKind_100 : decode b_To_settleKind 100 = .ok (.return_, 1) := by decide +kernel
abbrev b_La_insert : ByteArray := method_3_code
def y_La_insert : MethodName := ⟨"ProgramDeskLaw", "insert", "(LProgramDesk;IC)I"⟩
theorem d_La_insert_0 : decode b_La_insert 0 = .ok (.aload_n 0, 1) := by decide +kernel
theorem d_La_insert_1 : decode b_La_insert 1 = .ok (.iload_n 1, 1) := by decide +kernel
theorem d_La_insert_2 : decode b_La_insert 2 = .ok (.iload_n 2, 1) := by decide +kernel
theorem d_La_insert_3 : decode b_La_insert 3 = .ok (.invokevirtual 7, 3) := by decide +kernel
theorem d_La_insert_6 : decode b_La_insert 6 = .ok (.goto 12, 3) := by decide +kernel
theorem d_La_insert_9 : decode b_La_insert 9 = .ok (.astore_n 3, 1) := by decide +kernel
theorem d_La_insert_10 : decode b_La_insert 10 = .ok (.iconst 1, 1) := by decide +kernel
theorem d_La_insert_11 : decode b_La_insert 11 = .ok (.ireturn, 1) := by decide +kernel
theorem d_La_insert_12 : decode b_La_insert 12 = .ok (.astore_n 3, 1) := by decide +kernel
theorem d_La_insert_13 : decode b_La_insert 13 = .ok (.iconst 2, 1) := by decide +kernel
theorem d_La_insert_14 : decode b_La_insert 14 = .ok (.ireturn, 1) := by decide +kernel
theorem d_La_insert_15 : decode b_La_insert 15 = .ok (.astore_n 3, 1) := by decide +kernel
theorem d_La_insert_16 : decode b_La_insert 16 = .ok (.iconst 3, 1) := by decide +kernel
theorem d_La_insert_17 : decode b_La_insert 17 = .ok (.ireturn, 1) := by decide +kernel
theorem d_La_insert_18 : decode b_La_insert 18 = .ok (.iconst 0, 1) := by decide +kernel
theorem d_La_insert_19 : decode b_La_insert 19 = .ok (.ireturn, 1) := by decide +kernel
abbrev b_La_remove : ByteArray := method_4_code
def y_La_remove : MethodName := ⟨"ProgramDeskLaw", "remove", "(LProgramDesk;II)I"⟩
theorem d_La_remove_0 : decode b_La_remove 0 = .ok (.aload_n 0, 1) := by decide +kernel
theorem d_La_remove_1 : decode b_La_remove 1 = .ok (.iload_n 1, 1) := by decide +kernel
theorem d_La_remove_2 : decode b_La_remove 2 = .ok (.iload_n 2, 1) := by decide +kernel
theorem d_La_remove_3 : decode b_La_remove 3 = .ok (.invokevirtual 19, 3) := by decide +kernel
theorem d_La_remove_6 : decode b_La_remove 6 = .ok (.goto 9, 3) := by decide +kernel
theorem d_La_remove_9 : decode b_La_remove 9 = .ok (.astore_n 3, 1) := by decide +kernel
theorem d_La_remove_10 : decode b_La_remove 10 = .ok (.iconst 1, 1) := by decide +kernel
theorem d_La_remove_11 : decode b_La_remove 11 = .ok (.ireturn, 1) := by decide +kernel
theorem d_La_remove_12 : decode b_La_remove 12 = .ok (.astore_n 3, 1) := by decide +kernel
theorem d_La_remove_13 : decode b_La_remove 13 = .ok (.iconst 2, 1) := by decide +kernel
theorem d_La_remove_14 : decode b_La_remove 14 = .ok (.ireturn, 1) := by decide +kernel
theorem d_La_remove_15 : decode b_La_remove 15 = .ok (.iconst 0, 1) := by decide +kernel
theorem d_La_remove_16 : decode b_La_remove 16 = .ok (.ireturn, 1) := by decide +kernel
abbrev b_La_letter : ByteArray := method_5_code
def y_La_letter : MethodName := ⟨"ProgramDeskLaw", "letter", "(LProgramDesk;I[J)I"⟩
theorem d_La_letter_0 : decode b_La_letter 0 = .ok (.aload_n 2, 1) := by decide +kernel
theorem d_La_letter_1 : decode b_La_letter 1 = .ok (.iconst 0, 1) := by decide +kernel
theorem d_La_letter_2 : decode b_La_letter 2 = .ok (.aload_n 0, 1) := by decide +kernel
theorem d_La_letter_3 : decode b_La_letter 3 = .ok (.iload_n 1, 1) := by decide +kernel
theorem d_La_letter_4 : decode b_La_letter 4 = .ok (.invokevirtual 23, 3) := by decide +kernel
theorem d_La_letter_7 : decode b_La_letter 7 = .ok (.i2l, 1) := by decide +kernel
theorem d_La_letter_8 : decode b_La_letter 8 = .ok (.lastore, 1) := by decide +kernel
theorem d_La_letter_9 : decode b_La_letter 9 = .ok (.goto 6, 3) := by decide +kernel
theorem d_La_letter_12 : decode b_La_letter 12 = .ok (.astore_n 3, 1) := by decide +kernel
theorem d_La_letter_13 : decode b_La_letter 13 = .ok (.iconst 1, 1) := by decide +kernel
theorem d_La_letter_14 : decode b_La_letter 14 = .ok (.ireturn, 1) := by decide +kernel
theorem d_La_letter_15 : decode b_La_letter 15 = .ok (.iconst 0, 1) := by decide +kernel
theorem d_La_letter_16 : decode b_La_letter 16 = .ok (.ireturn, 1) := by decide +kernel
abbrev b_La_token : ByteArray := method_6_code
def y_La_token : MethodName := ⟨"ProgramDeskLaw", "token", "(LProgramDesk;II[J)I"⟩
theorem d_La_token_0 : decode b_La_token 0 = .ok (.aload_n 3, 1) := by decide +kernel
theorem d_La_token_1 : decode b_La_token 1 = .ok (.iconst 0, 1) := by decide +kernel
theorem d_La_token_2 : decode b_La_token 2 = .ok (.aload_n 0, 1) := by decide +kernel
theorem d_La_token_3 : decode b_La_token 3 = .ok (.iload_n 1, 1) := by decide +kernel
theorem d_La_token_4 : decode b_La_token 4 = .ok (.iload_n 2, 1) := by decide +kernel
theorem d_La_token_5 : decode b_La_token 5 = .ok (.invokevirtual 27, 3) := by decide +kernel
theorem d_La_token_8 : decode b_La_token 8 = .ok (.i2l, 1) := by decide +kernel
theorem d_La_token_9 : decode b_La_token 9 = .ok (.lastore, 1) := by decide +kernel
theorem d_La_token_10 : decode b_La_token 10 = .ok (.goto 11, 3) := by decide +kernel
theorem d_La_token_13 : decode b_La_token 13 = .ok (.astore 4, 2) := by decide +kernel
theorem d_La_token_15 : decode b_La_token 15 = .ok (.iconst 1, 1) := by decide +kernel
theorem d_La_token_16 : decode b_La_token 16 = .ok (.ireturn, 1) := by decide +kernel
theorem d_La_token_17 : decode b_La_token 17 = .ok (.astore 4, 2) := by decide +kernel
theorem d_La_token_19 : decode b_La_token 19 = .ok (.iconst 2, 1) := by decide +kernel
theorem d_La_token_20 : decode b_La_token 20 = .ok (.ireturn, 1) := by decide +kernel
theorem d_La_token_21 : decode b_La_token 21 = .ok (.iconst 0, 1) := by decide +kernel
theorem d_La_token_22 : decode b_La_token 22 = .ok (.ireturn, 1) := by decide +kernel
abbrev b_La_fault : ByteArray := method_7_code
def y_La_fault : MethodName := ⟨"ProgramDeskLaw", "fault", "(LProgramDesk;I[J)I"⟩
theorem d_La_fault_0 : decode b_La_fault 0 = .ok (.aload_n 2, 1) := by decide +kernel
theorem d_La_fault_1 : decode b_La_fault 1 = .ok (.iconst 0, 1) := by decide +kernel
theorem d_La_fault_2 : decode b_La_fault 2 = .ok (.aload_n 0, 1) := by decide +kernel
theorem d_La_fault_3 : decode b_La_fault 3 = .ok (.iload_n 1, 1) := by decide +kernel
theorem d_La_fault_4 : decode b_La_fault 4 = .ok (.invokevirtual 33, 3) := by decide +kernel
theorem d_La_fault_7 : decode b_La_fault 7 = .ok (.i2l, 1) := by decide +kernel
theorem d_La_fault_8 : decode b_La_fault 8 = .ok (.lastore, 1) := by decide +kernel
theorem d_La_fault_9 : decode b_La_fault 9 = .ok (.goto 6, 3) := by decide +kernel
theorem d_La_fault_12 : decode b_La_fault 12 = .ok (.astore_n 3, 1) := by decide +kernel
theorem d_La_fault_13 : decode b_La_fault 13 = .ok (.iconst 1, 1) := by decide +kernel
theorem d_La_fault_14 : decode b_La_fault 14 = .ok (.ireturn, 1) := by decide +kernel
theorem d_La_fault_15 : decode b_La_fault 15 = .ok (.iconst 0, 1) := by decide +kernel
theorem d_La_fault_16 : decode b_La_fault 16 = .ok (.ireturn, 1) := by decide +kernel
abbrev b_La_reference : ByteArray := method_8_code
def y_La_reference : MethodName := ⟨"ProgramDeskLaw", "reference", "(LProgramDesk;II[J)I"⟩
theorem d_La_reference_0 : decode b_La_reference 0 = .ok (.aload_n 3, 1) := by decide +kernel
theorem d_La_reference_1 : decode b_La_reference 1 = .ok (.iconst 0, 1) := by decide +kernel
theorem d_La_reference_2 : decode b_La_reference 2 = .ok (.aload_n 0, 1) := by decide +kernel
theorem d_La_reference_3 : decode b_La_reference 3 = .ok (.iload_n 1, 1) := by decide +kernel
theorem d_La_reference_4 : decode b_La_reference 4 = .ok (.iload_n 2, 1) := by decide +kernel
theorem d_La_reference_5 : decode b_La_reference 5 = .ok (.invokevirtual 37, 3) := by decide +kernel
theorem d_La_reference_8 : decode b_La_reference 8 = .ok (.i2l, 1) := by decide +kernel
theorem d_La_reference_9 : decode b_La_reference 9 = .ok (.lastore, 1) := by decide +kernel
theorem d_La_reference_10 : decode b_La_reference 10 = .ok (.goto 7, 3) := by decide +kernel
theorem d_La_reference_13 : decode b_La_reference 13 = .ok (.astore 4, 2) := by decide +kernel
theorem d_La_reference_15 : decode b_La_reference 15 = .ok (.iconst 1, 1) := by decide +kernel
theorem d_La_reference_16 : decode b_La_reference 16 = .ok (.ireturn, 1) := by decide +kernel
theorem d_La_reference_17 : decode b_La_reference 17 = .ok (.iconst 0, 1) := by decide +kernel
theorem d_La_reference_18 : decode b_La_reference 18 = .ok (.ireturn, 1) := by decide +kernel
abbrev b_La_rename : ByteArray := method_9_code
def y_La_rename : MethodName := ⟨"ProgramDeskLaw", "rename", "(LProgramDesk;IJ[J)I"⟩
theorem d_La_rename_0 : decode b_La_rename 0 = .ok (.aload 4, 2) := by decide +kernel
theorem d_La_rename_2 : decode b_La_rename 2 = .ok (.iconst 0, 1) := by decide +kernel
theorem d_La_rename_3 : decode b_La_rename 3 = .ok (.aload_n 0, 1) := by decide +kernel
theorem d_La_rename_4 : decode b_La_rename 4 = .ok (.iload_n 1, 1) := by decide +kernel
theorem d_La_rename_5 : decode b_La_rename 5 = .ok (.lload_n 2, 1) := by decide +kernel
theorem d_La_rename_6 : decode b_La_rename 6 = .ok (.invokevirtual 40, 3) := by decide +kernel
theorem d_La_rename_9 : decode b_La_rename 9 = .ok (.i2l, 1) := by decide +kernel
theorem d_La_rename_10 : decode b_La_rename 10 = .ok (.lastore, 1) := by decide +kernel
theorem d_La_rename_11 : decode b_La_rename 11 = .ok (.goto 19, 3) := by decide +kernel
theorem d_La_rename_14 : decode b_La_rename 14 = .ok (.astore 5, 2) := by decide +kernel
theorem d_La_rename_16 : decode b_La_rename 16 = .ok (.iconst 1, 1) := by decide +kernel
theorem d_La_rename_17 : decode b_La_rename 17 = .ok (.ireturn, 1) := by decide +kernel
theorem d_La_rename_18 : decode b_La_rename 18 = .ok (.astore 5, 2) := by decide +kernel
theorem d_La_rename_20 : decode b_La_rename 20 = .ok (.iconst 2, 1) := by decide +kernel
theorem d_La_rename_21 : decode b_La_rename 21 = .ok (.ireturn, 1) := by decide +kernel
theorem d_La_rename_22 : decode b_La_rename 22 = .ok (.astore 5, 2) := by decide +kernel
theorem d_La_rename_24 : decode b_La_rename 24 = .ok (.iconst 3, 1) := by decide +kernel
theorem d_La_rename_25 : decode b_La_rename 25 = .ok (.ireturn, 1) := by decide +kernel
theorem d_La_rename_26 : decode b_La_rename 26 = .ok (.astore 5, 2) := by decide +kernel
theorem d_La_rename_28 : decode b_La_rename 28 = .ok (.iconst 4, 1) := by decide +kernel
theorem d_La_rename_29 : decode b_La_rename 29 = .ok (.ireturn, 1) := by decide +kernel
theorem d_La_rename_30 : decode b_La_rename 30 = .ok (.iconst 0, 1) := by decide +kernel
theorem d_La_rename_31 : decode b_La_rename 31 = .ok (.ireturn, 1) := by decide +kernel
abbrev b_La_inline : ByteArray := method_10_code
def y_La_inline : MethodName := ⟨"ProgramDeskLaw", "inline", "(LProgramDesk;I[J)I"⟩
theorem d_La_inline_0 : decode b_La_inline 0 = .ok (.aload_n 2, 1) := by decide +kernel
theorem d_La_inline_1 : decode b_La_inline 1 = .ok (.iconst 0, 1) := by decide +kernel
theorem d_La_inline_2 : decode b_La_inline 2 = .ok (.aload_n 0, 1) := by decide +kernel
theorem d_La_inline_3 : decode b_La_inline 3 = .ok (.iload_n 1, 1) := by decide +kernel
theorem d_La_inline_4 : decode b_La_inline 4 = .ok (.invokevirtual 46, 3) := by decide +kernel
theorem d_La_inline_7 : decode b_La_inline 7 = .ok (.i2l, 1) := by decide +kernel
theorem d_La_inline_8 : decode b_La_inline 8 = .ok (.lastore, 1) := by decide +kernel
theorem d_La_inline_9 : decode b_La_inline 9 = .ok (.goto 12, 3) := by decide +kernel
theorem d_La_inline_12 : decode b_La_inline 12 = .ok (.astore_n 3, 1) := by decide +kernel
theorem d_La_inline_13 : decode b_La_inline 13 = .ok (.iconst 1, 1) := by decide +kernel
theorem d_La_inline_14 : decode b_La_inline 14 = .ok (.ireturn, 1) := by decide +kernel
theorem d_La_inline_15 : decode b_La_inline 15 = .ok (.astore_n 3, 1) := by decide +kernel
theorem d_La_inline_16 : decode b_La_inline 16 = .ok (.iconst 2, 1) := by decide +kernel
theorem d_La_inline_17 : decode b_La_inline 17 = .ok (.ireturn, 1) := by decide +kernel
theorem d_La_inline_18 : decode b_La_inline 18 = .ok (.astore_n 3, 1) := by decide +kernel
theorem d_La_inline_19 : decode b_La_inline 19 = .ok (.iconst 3, 1) := by decide +kernel
theorem d_La_inline_20 : decode b_La_inline 20 = .ok (.ireturn, 1) := by decide +kernel
theorem d_La_inline_21 : decode b_La_inline 21 = .ok (.iconst 0, 1) := by decide +kernel
theorem d_La_inline_22 : decode b_La_inline 22 = .ok (.ireturn, 1) := by decide +kernel
abbrev b_La_run : ByteArray := method_11_code
def y_La_run : MethodName := ⟨"ProgramDeskLaw", "run", "(LProgramDesk;I[J)I"⟩
theorem d_La_run_0 : decode b_La_run 0 = .ok (.aload_n 2, 1) := by decide +kernel
theorem d_La_run_1 : decode b_La_run 1 = .ok (.iconst 0, 1) := by decide +kernel
theorem d_La_run_2 : decode b_La_run 2 = .ok (.aload_n 0, 1) := by decide +kernel
theorem d_La_run_3 : decode b_La_run 3 = .ok (.iload_n 1, 1) := by decide +kernel
theorem d_La_run_4 : decode b_La_run 4 = .ok (.invokevirtual 49, 3) := by decide +kernel
theorem d_La_run_7 : decode b_La_run 7 = .ok (.i2l, 1) := by decide +kernel
theorem d_La_run_8 : decode b_La_run 8 = .ok (.lastore, 1) := by decide +kernel
theorem d_La_run_9 : decode b_La_run 9 = .ok (.goto 9, 3) := by decide +kernel
theorem d_La_run_12 : decode b_La_run 12 = .ok (.astore_n 3, 1) := by decide +kernel
theorem d_La_run_13 : decode b_La_run 13 = .ok (.iconst 1, 1) := by decide +kernel
theorem d_La_run_14 : decode b_La_run 14 = .ok (.ireturn, 1) := by decide +kernel
theorem d_La_run_15 : decode b_La_run 15 = .ok (.astore_n 3, 1) := by decide +kernel
theorem d_La_run_16 : decode b_La_run 16 = .ok (.iconst 2, 1) := by decide +kernel
theorem d_La_run_17 : decode b_La_run 17 = .ok (.ireturn, 1) := by decide +kernel
theorem d_La_run_18 : decode b_La_run 18 = .ok (.iconst 0, 1) := by decide +kernel
theorem d_La_run_19 : decode b_La_run 19 = .ok (.ireturn, 1) := by decide +kernel
abbrev b_La_output : ByteArray := method_12_code
def y_La_output : MethodName := ⟨"ProgramDeskLaw", "output", "(LProgramDesk;I[J)I"⟩
theorem d_La_output_0 : decode b_La_output 0 = .ok (.aload_n 2, 1) := by decide +kernel
theorem d_La_output_1 : decode b_La_output 1 = .ok (.iconst 0, 1) := by decide +kernel
theorem d_La_output_2 : decode b_La_output 2 = .ok (.aload_n 0, 1) := by decide +kernel
theorem d_La_output_3 : decode b_La_output 3 = .ok (.iload_n 1, 1) := by decide +kernel
theorem d_La_output_4 : decode b_La_output 4 = .ok (.invokevirtual 52, 3) := by decide +kernel
theorem d_La_output_7 : decode b_La_output 7 = .ok (.i2l, 1) := by decide +kernel
theorem d_La_output_8 : decode b_La_output 8 = .ok (.lastore, 1) := by decide +kernel
theorem d_La_output_9 : decode b_La_output 9 = .ok (.goto 6, 3) := by decide +kernel
theorem d_La_output_12 : decode b_La_output 12 = .ok (.astore_n 3, 1) := by decide +kernel
theorem d_La_output_13 : decode b_La_output 13 = .ok (.iconst 1, 1) := by decide +kernel
theorem d_La_output_14 : decode b_La_output 14 = .ok (.ireturn, 1) := by decide +kernel
theorem d_La_output_15 : decode b_La_output 15 = .ok (.iconst 0, 1) := by decide +kernel
theorem d_La_output_16 : decode b_La_output 16 = .ok (.ireturn, 1) := by decide +kernel
abbrev b_La_law : ByteArray := code
def y_La_law : MethodName := ⟨"ProgramDeskLaw", "law", "([I)Z"⟩
theorem d_La_law_0 : decode b_La_law 0 = .ok (.new 8, 3) := by decide +kernel
theorem d_La_law_3 : decode b_La_law 3 = .ok (.dup, 1) := by decide +kernel
theorem d_La_law_4 : decode b_La_law 4 = .ok (.invokespecial 55, 3) := by decide +kernel
theorem d_La_law_7 : decode b_La_law 7 = .ok (.astore_n 1, 1) := by decide +kernel
theorem d_La_law_8 : decode b_La_law 8 = .ok (.new 56, 3) := by decide +kernel
theorem d_La_law_11 : decode b_La_law 11 = .ok (.dup, 1) := by decide +kernel
theorem d_La_law_12 : decode b_La_law 12 = .ok (.invokespecial 58, 3) := by decide +kernel
theorem d_La_law_15 : decode b_La_law 15 = .ok (.astore_n 2, 1) := by decide +kernel
theorem d_La_law_16 : decode b_La_law 16 = .ok (.iconst 1, 1) := by decide +kernel
theorem d_La_law_17 : decode b_La_law 17 = .ok (.newarray .long, 2) := by decide +kernel
theorem d_La_law_19 : decode b_La_law 19 = .ok (.astore_n 3, 1) := by decide +kernel
theorem d_La_law_20 : decode b_La_law 20 = .ok (.iconst 0, 1) := by decide +kernel
theorem d_La_law_21 : decode b_La_law 21 = .ok (.istore 4, 2) := by decide +kernel
theorem d_La_law_23 : decode b_La_law 23 = .ok (.iload 4, 2) := by decide +kernel
theorem d_La_law_25 : decode b_La_law 25 = .ok (.aload_n 0, 1) := by decide +kernel
theorem d_La_law_26 : decode b_La_law 26 = .ok (.arraylength, 1) := by decide +kernel
theorem d_La_law_27 : decode b_La_law 27 = .ok (.iconst 4, 1) := by decide +kernel
theorem d_La_law_28 : decode b_La_law 28 = .ok (.isub, 1) := by decide +kernel
theorem d_La_law_29 : decode b_La_law 29 = .ok (.if_icmp .gt 794, 3) := by decide +kernel
theorem d_La_law_32 : decode b_La_law 32 = .ok (.aload_n 0, 1) := by decide +kernel
theorem d_La_law_33 : decode b_La_law 33 = .ok (.iload 4, 2) := by decide +kernel
theorem d_La_law_35 : decode b_La_law 35 = .ok (.iaload, 1) := by decide +kernel
theorem d_La_law_36 : decode b_La_law 36 = .ok (.bipush 15, 2) := by decide +kernel
theorem d_La_law_38 : decode b_La_law 38 = .ok (.iand, 1) := by decide +kernel
theorem d_La_law_39 : decode b_La_law 39 = .ok (.tableswitch 778 0 14 #[73, 100, 125, 175, 223, 236, 292, 305, 373, 386, 442, 510, 610, 666, 722], 73) := by decide +kernel
theorem d_La_law_112 : decode b_La_law 112 = .ok (.aload_n 1, 1) := by decide +kernel
theorem d_La_law_113 : decode b_La_law 113 = .ok (.aload_n 0, 1) := by decide +kernel
theorem d_La_law_114 : decode b_La_law 114 = .ok (.iload 4, 2) := by decide +kernel
theorem d_La_law_116 : decode b_La_law 116 = .ok (.iconst 1, 1) := by decide +kernel
theorem d_La_law_117 : decode b_La_law 117 = .ok (.iadd, 1) := by decide +kernel
theorem d_La_law_118 : decode b_La_law 118 = .ok (.iaload, 1) := by decide +kernel
theorem d_La_law_119 : decode b_La_law 119 = .ok (.i2c, 1) := by decide +kernel
theorem d_La_law_120 : decode b_La_law 120 = .ok (.invokevirtual 59, 3) := by decide +kernel
theorem d_La_law_123 : decode b_La_law 123 = .ok (.aload_n 2, 1) := by decide +kernel
theorem d_La_law_124 : decode b_La_law 124 = .ok (.aload_n 0, 1) := by decide +kernel
theorem d_La_law_125 : decode b_La_law 125 = .ok (.iload 4, 2) := by decide +kernel
theorem d_La_law_127 : decode b_La_law 127 = .ok (.iconst 1, 1) := by decide +kernel
theorem d_La_law_128 : decode b_La_law 128 = .ok (.iadd, 1) := by decide +kernel
theorem d_La_law_129 : decode b_La_law 129 = .ok (.iaload, 1) := by decide +kernel
theorem d_La_law_130 : decode b_La_law 130 = .ok (.i2c, 1) := by decide +kernel
theorem d_La_law_131 : decode b_La_law 131 = .ok (.invokevirtual 63, 3) := by decide +kernel
theorem d_La_law_134 : decode b_La_law 134 = .ok (.if_icmp .eq 683, 3) := by decide +kernel
theorem d_La_law_137 : decode b_La_law 137 = .ok (.iconst 0, 1) := by decide +kernel
theorem d_La_law_138 : decode b_La_law 138 = .ok (.ireturn, 1) := by decide +kernel
theorem d_La_law_139 : decode b_La_law 139 = .ok (.aload_n 1, 1) := by decide +kernel
theorem d_La_law_140 : decode b_La_law 140 = .ok (.aload_n 0, 1) := by decide +kernel
theorem d_La_law_141 : decode b_La_law 141 = .ok (.iload 4, 2) := by decide +kernel
theorem d_La_law_143 : decode b_La_law 143 = .ok (.iconst 1, 1) := by decide +kernel
theorem d_La_law_144 : decode b_La_law 144 = .ok (.iadd, 1) := by decide +kernel
theorem d_La_law_145 : decode b_La_law 145 = .ok (.iaload, 1) := by decide +kernel
theorem d_La_law_146 : decode b_La_law 146 = .ok (.invokevirtual 64, 3) := by decide +kernel
theorem d_La_law_149 : decode b_La_law 149 = .ok (.aload_n 2, 1) := by decide +kernel
theorem d_La_law_150 : decode b_La_law 150 = .ok (.aload_n 0, 1) := by decide +kernel
theorem d_La_law_151 : decode b_La_law 151 = .ok (.iload 4, 2) := by decide +kernel
theorem d_La_law_153 : decode b_La_law 153 = .ok (.iconst 1, 1) := by decide +kernel
theorem d_La_law_154 : decode b_La_law 154 = .ok (.iadd, 1) := by decide +kernel
theorem d_La_law_155 : decode b_La_law 155 = .ok (.iaload, 1) := by decide +kernel
theorem d_La_law_156 : decode b_La_law 156 = .ok (.invokevirtual 68, 3) := by decide +kernel
theorem d_La_law_159 : decode b_La_law 159 = .ok (.if_icmp .eq 658, 3) := by decide +kernel
theorem d_La_law_162 : decode b_La_law 162 = .ok (.iconst 0, 1) := by decide +kernel
theorem d_La_law_163 : decode b_La_law 163 = .ok (.ireturn, 1) := by decide +kernel
theorem d_La_law_164 : decode b_La_law 164 = .ok (.aload_n 1, 1) := by decide +kernel
theorem d_La_law_165 : decode b_La_law 165 = .ok (.aload_n 0, 1) := by decide +kernel
theorem d_La_law_166 : decode b_La_law 166 = .ok (.iload 4, 2) := by decide +kernel
theorem d_La_law_168 : decode b_La_law 168 = .ok (.iconst 1, 1) := by decide +kernel
theorem d_La_law_169 : decode b_La_law 169 = .ok (.iadd, 1) := by decide +kernel
theorem d_La_law_170 : decode b_La_law 170 = .ok (.iaload, 1) := by decide +kernel
theorem d_La_law_171 : decode b_La_law 171 = .ok (.aload_n 0, 1) := by decide +kernel
theorem d_La_law_172 : decode b_La_law 172 = .ok (.iload 4, 2) := by decide +kernel
theorem d_La_law_174 : decode b_La_law 174 = .ok (.iconst 2, 1) := by decide +kernel
theorem d_La_law_175 : decode b_La_law 175 = .ok (.iadd, 1) := by decide +kernel
theorem d_La_law_176 : decode b_La_law 176 = .ok (.iaload, 1) := by decide +kernel
theorem d_La_law_177 : decode b_La_law 177 = .ok (.i2c, 1) := by decide +kernel
theorem d_La_law_178 : decode b_La_law 178 = .ok (.invokestatic 69, 3) := by decide +kernel
theorem d_La_law_181 : decode b_La_law 181 = .ok (.istore 5, 2) := by decide +kernel
theorem d_La_law_183 : decode b_La_law 183 = .ok (.aload_n 2, 1) := by decide +kernel
theorem d_La_law_184 : decode b_La_law 184 = .ok (.aload_n 0, 1) := by decide +kernel
theorem d_La_law_185 : decode b_La_law 185 = .ok (.iload 4, 2) := by decide +kernel
theorem d_La_law_187 : decode b_La_law 187 = .ok (.iconst 1, 1) := by decide +kernel
theorem d_La_law_188 : decode b_La_law 188 = .ok (.iadd, 1) := by decide +kernel
theorem d_La_law_189 : decode b_La_law 189 = .ok (.iaload, 1) := by decide +kernel
theorem d_La_law_190 : decode b_La_law 190 = .ok (.aload_n 0, 1) := by decide +kernel
theorem d_La_law_191 : decode b_La_law 191 = .ok (.iload 4, 2) := by decide +kernel
theorem d_La_law_193 : decode b_La_law 193 = .ok (.iconst 2, 1) := by decide +kernel
theorem d_La_law_194 : decode b_La_law 194 = .ok (.iadd, 1) := by decide +kernel
theorem d_La_law_195 : decode b_La_law 195 = .ok (.iaload, 1) := by decide +kernel
theorem d_La_law_196 : decode b_La_law 196 = .ok (.i2c, 1) := by decide +kernel
theorem d_La_law_197 : decode b_La_law 197 = .ok (.invokevirtual 74, 3) := by decide +kernel
theorem d_La_law_200 : decode b_La_law 200 = .ok (.aload_n 2, 1) := by decide +kernel
theorem d_La_law_201 : decode b_La_law 201 = .ok (.invokevirtual 75, 3) := by decide +kernel
theorem d_La_law_204 : decode b_La_law 204 = .ok (.iload 5, 2) := by decide +kernel
theorem d_La_law_206 : decode b_La_law 206 = .ok (.if_icmp .eq 5, 3) := by decide +kernel
theorem d_La_law_209 : decode b_La_law 209 = .ok (.iconst 0, 1) := by decide +kernel
theorem d_La_law_210 : decode b_La_law 210 = .ok (.ireturn, 1) := by decide +kernel
theorem d_La_law_211 : decode b_La_law 211 = .ok (.goto 606, 3) := by decide +kernel
theorem d_La_law_214 : decode b_La_law 214 = .ok (.aload_n 1, 1) := by decide +kernel
theorem d_La_law_215 : decode b_La_law 215 = .ok (.aload_n 0, 1) := by decide +kernel
theorem d_La_law_216 : decode b_La_law 216 = .ok (.iload 4, 2) := by decide +kernel
theorem d_La_law_218 : decode b_La_law 218 = .ok (.iconst 1, 1) := by decide +kernel
theorem d_La_law_219 : decode b_La_law 219 = .ok (.iadd, 1) := by decide +kernel
theorem d_La_law_220 : decode b_La_law 220 = .ok (.iaload, 1) := by decide +kernel
theorem d_La_law_221 : decode b_La_law 221 = .ok (.aload_n 0, 1) := by decide +kernel
theorem d_La_law_222 : decode b_La_law 222 = .ok (.iload 4, 2) := by decide +kernel
theorem d_La_law_224 : decode b_La_law 224 = .ok (.iconst 2, 1) := by decide +kernel
theorem d_La_law_225 : decode b_La_law 225 = .ok (.iadd, 1) := by decide +kernel
theorem d_La_law_226 : decode b_La_law 226 = .ok (.iaload, 1) := by decide +kernel
theorem d_La_law_227 : decode b_La_law 227 = .ok (.invokestatic 79, 3) := by decide +kernel
theorem d_La_law_230 : decode b_La_law 230 = .ok (.istore 5, 2) := by decide +kernel
theorem d_La_law_232 : decode b_La_law 232 = .ok (.aload_n 2, 1) := by decide +kernel
theorem d_La_law_233 : decode b_La_law 233 = .ok (.aload_n 0, 1) := by decide +kernel
theorem d_La_law_234 : decode b_La_law 234 = .ok (.iload 4, 2) := by decide +kernel
theorem d_La_law_236 : decode b_La_law 236 = .ok (.iconst 1, 1) := by decide +kernel
theorem d_La_law_237 : decode b_La_law 237 = .ok (.iadd, 1) := by decide +kernel
theorem d_La_law_238 : decode b_La_law 238 = .ok (.iaload, 1) := by decide +kernel
theorem d_La_law_239 : decode b_La_law 239 = .ok (.aload_n 0, 1) := by decide +kernel
theorem d_La_law_240 : decode b_La_law 240 = .ok (.iload 4, 2) := by decide +kernel
theorem d_La_law_242 : decode b_La_law 242 = .ok (.iconst 2, 1) := by decide +kernel
theorem d_La_law_243 : decode b_La_law 243 = .ok (.iadd, 1) := by decide +kernel
theorem d_La_law_244 : decode b_La_law 244 = .ok (.iaload, 1) := by decide +kernel
theorem d_La_law_245 : decode b_La_law 245 = .ok (.invokevirtual 82, 3) := by decide +kernel
theorem d_La_law_248 : decode b_La_law 248 = .ok (.aload_n 2, 1) := by decide +kernel
theorem d_La_law_249 : decode b_La_law 249 = .ok (.invokevirtual 75, 3) := by decide +kernel
theorem d_La_law_252 : decode b_La_law 252 = .ok (.iload 5, 2) := by decide +kernel
theorem d_La_law_254 : decode b_La_law 254 = .ok (.if_icmp .eq 5, 3) := by decide +kernel
theorem d_La_law_257 : decode b_La_law 257 = .ok (.iconst 0, 1) := by decide +kernel
theorem d_La_law_258 : decode b_La_law 258 = .ok (.ireturn, 1) := by decide +kernel
theorem d_La_law_259 : decode b_La_law 259 = .ok (.goto 558, 3) := by decide +kernel
theorem d_La_law_262 : decode b_La_law 262 = .ok (.aload_n 1, 1) := by decide +kernel
theorem d_La_law_263 : decode b_La_law 263 = .ok (.invokevirtual 83, 3) := by decide +kernel
theorem d_La_law_266 : decode b_La_law 266 = .ok (.aload_n 2, 1) := by decide +kernel
theorem d_La_law_267 : decode b_La_law 267 = .ok (.invokevirtual 86, 3) := by decide +kernel
theorem d_La_law_270 : decode b_La_law 270 = .ok (.if_icmp .eq 547, 3) := by decide +kernel
theorem d_La_law_273 : decode b_La_law 273 = .ok (.iconst 0, 1) := by decide +kernel
theorem d_La_law_274 : decode b_La_law 274 = .ok (.ireturn, 1) := by decide +kernel
theorem d_La_law_275 : decode b_La_law 275 = .ok (.aload_n 1, 1) := by decide +kernel
theorem d_La_law_276 : decode b_La_law 276 = .ok (.aload_n 0, 1) := by decide +kernel
theorem d_La_law_277 : decode b_La_law 277 = .ok (.iload 4, 2) := by decide +kernel
theorem d_La_law_279 : decode b_La_law 279 = .ok (.iconst 1, 1) := by decide +kernel
theorem d_La_law_280 : decode b_La_law 280 = .ok (.iadd, 1) := by decide +kernel
theorem d_La_law_281 : decode b_La_law 281 = .ok (.iaload, 1) := by decide +kernel
theorem d_La_law_282 : decode b_La_law 282 = .ok (.aload_n 3, 1) := by decide +kernel
theorem d_La_law_283 : decode b_La_law 283 = .ok (.invokestatic 87, 3) := by decide +kernel
theorem d_La_law_286 : decode b_La_law 286 = .ok (.istore 5, 2) := by decide +kernel
theorem d_La_law_288 : decode b_La_law 288 = .ok (.aload_n 2, 1) := by decide +kernel
theorem d_La_law_289 : decode b_La_law 289 = .ok (.aload_n 0, 1) := by decide +kernel
theorem d_La_law_290 : decode b_La_law 290 = .ok (.iload 4, 2) := by decide +kernel
theorem d_La_law_292 : decode b_La_law 292 = .ok (.iconst 1, 1) := by decide +kernel
theorem d_La_law_293 : decode b_La_law 293 = .ok (.iadd, 1) := by decide +kernel
theorem d_La_law_294 : decode b_La_law 294 = .ok (.iaload, 1) := by decide +kernel
theorem d_La_law_295 : decode b_La_law 295 = .ok (.invokevirtual 90, 3) := by decide +kernel
theorem d_La_law_298 : decode b_La_law 298 = .ok (.istore 6, 2) := by decide +kernel
theorem d_La_law_300 : decode b_La_law 300 = .ok (.aload_n 2, 1) := by decide +kernel
theorem d_La_law_301 : decode b_La_law 301 = .ok (.invokevirtual 75, 3) := by decide +kernel
theorem d_La_law_304 : decode b_La_law 304 = .ok (.iload 5, 2) := by decide +kernel
theorem d_La_law_306 : decode b_La_law 306 = .ok (.if_icmp .eq 5, 3) := by decide +kernel
theorem d_La_law_309 : decode b_La_law 309 = .ok (.iconst 0, 1) := by decide +kernel
theorem d_La_law_310 : decode b_La_law 310 = .ok (.ireturn, 1) := by decide +kernel
theorem d_La_law_311 : decode b_La_law 311 = .ok (.iload 5, 2) := by decide +kernel
theorem d_La_law_313 : decode b_La_law 313 = .ok (.ifCond .ne 15, 3) := by decide +kernel
theorem d_La_law_316 : decode b_La_law 316 = .ok (.aload_n 3, 1) := by decide +kernel
theorem d_La_law_317 : decode b_La_law 317 = .ok (.iconst 0, 1) := by decide +kernel
theorem d_La_law_318 : decode b_La_law 318 = .ok (.laload, 1) := by decide +kernel
theorem d_La_law_319 : decode b_La_law 319 = .ok (.iload 6, 2) := by decide +kernel
theorem d_La_law_321 : decode b_La_law 321 = .ok (.i2l, 1) := by decide +kernel
theorem d_La_law_322 : decode b_La_law 322 = .ok (.lcmp, 1) := by decide +kernel
theorem d_La_law_323 : decode b_La_law 323 = .ok (.ifCond .eq 5, 3) := by decide +kernel
theorem d_La_law_326 : decode b_La_law 326 = .ok (.iconst 0, 1) := by decide +kernel
theorem d_La_law_327 : decode b_La_law 327 = .ok (.ireturn, 1) := by decide +kernel
theorem d_La_law_328 : decode b_La_law 328 = .ok (.goto 489, 3) := by decide +kernel
theorem d_La_law_331 : decode b_La_law 331 = .ok (.aload_n 1, 1) := by decide +kernel
theorem d_La_law_332 : decode b_La_law 332 = .ok (.invokevirtual 91, 3) := by decide +kernel
theorem d_La_law_335 : decode b_La_law 335 = .ok (.aload_n 2, 1) := by decide +kernel
theorem d_La_law_336 : decode b_La_law 336 = .ok (.invokevirtual 94, 3) := by decide +kernel
theorem d_La_law_339 : decode b_La_law 339 = .ok (.if_icmp .eq 478, 3) := by decide +kernel
theorem d_La_law_342 : decode b_La_law 342 = .ok (.iconst 0, 1) := by decide +kernel
theorem d_La_law_343 : decode b_La_law 343 = .ok (.ireturn, 1) := by decide +kernel
theorem d_La_law_344 : decode b_La_law 344 = .ok (.aload_n 1, 1) := by decide +kernel
theorem d_La_law_345 : decode b_La_law 345 = .ok (.aload_n 0, 1) := by decide +kernel
theorem d_La_law_346 : decode b_La_law 346 = .ok (.iload 4, 2) := by decide +kernel
theorem d_La_law_348 : decode b_La_law 348 = .ok (.iconst 1, 1) := by decide +kernel
theorem d_La_law_349 : decode b_La_law 349 = .ok (.iadd, 1) := by decide +kernel
theorem d_La_law_350 : decode b_La_law 350 = .ok (.iaload, 1) := by decide +kernel
theorem d_La_law_351 : decode b_La_law 351 = .ok (.aload_n 0, 1) := by decide +kernel
theorem d_La_law_352 : decode b_La_law 352 = .ok (.iload 4, 2) := by decide +kernel
theorem d_La_law_354 : decode b_La_law 354 = .ok (.iconst 2, 1) := by decide +kernel
theorem d_La_law_355 : decode b_La_law 355 = .ok (.iadd, 1) := by decide +kernel
theorem d_La_law_356 : decode b_La_law 356 = .ok (.iaload, 1) := by decide +kernel
theorem d_La_law_357 : decode b_La_law 357 = .ok (.aload_n 3, 1) := by decide +kernel
theorem d_La_law_358 : decode b_La_law 358 = .ok (.invokestatic 95, 3) := by decide +kernel
theorem d_La_law_361 : decode b_La_law 361 = .ok (.istore 5, 2) := by decide +kernel
theorem d_La_law_363 : decode b_La_law 363 = .ok (.aload_n 2, 1) := by decide +kernel
theorem d_La_law_364 : decode b_La_law 364 = .ok (.aload_n 0, 1) := by decide +kernel
theorem d_La_law_365 : decode b_La_law 365 = .ok (.iload 4, 2) := by decide +kernel
theorem d_La_law_367 : decode b_La_law 367 = .ok (.iconst 1, 1) := by decide +kernel
theorem d_La_law_368 : decode b_La_law 368 = .ok (.iadd, 1) := by decide +kernel
theorem d_La_law_369 : decode b_La_law 369 = .ok (.iaload, 1) := by decide +kernel
theorem d_La_law_370 : decode b_La_law 370 = .ok (.aload_n 0, 1) := by decide +kernel
theorem d_La_law_371 : decode b_La_law 371 = .ok (.iload 4, 2) := by decide +kernel
theorem d_La_law_373 : decode b_La_law 373 = .ok (.iconst 2, 1) := by decide +kernel
theorem d_La_law_374 : decode b_La_law 374 = .ok (.iadd, 1) := by decide +kernel
theorem d_La_law_375 : decode b_La_law 375 = .ok (.iaload, 1) := by decide +kernel
theorem d_La_law_376 : decode b_La_law 376 = .ok (.invokevirtual 98, 3) := by decide +kernel
theorem d_La_law_379 : decode b_La_law 379 = .ok (.istore 6, 2) := by decide +kernel
theorem d_La_law_381 : decode b_La_law 381 = .ok (.aload_n 2, 1) := by decide +kernel
theorem d_La_law_382 : decode b_La_law 382 = .ok (.invokevirtual 75, 3) := by decide +kernel
theorem d_La_law_385 : decode b_La_law 385 = .ok (.iload 5, 2) := by decide +kernel
theorem d_La_law_387 : decode b_La_law 387 = .ok (.if_icmp .eq 5, 3) := by decide +kernel
theorem d_La_law_390 : decode b_La_law 390 = .ok (.iconst 0, 1) := by decide +kernel
theorem d_La_law_391 : decode b_La_law 391 = .ok (.ireturn, 1) := by decide +kernel
theorem d_La_law_392 : decode b_La_law 392 = .ok (.iload 5, 2) := by decide +kernel
theorem d_La_law_394 : decode b_La_law 394 = .ok (.ifCond .ne 15, 3) := by decide +kernel
theorem d_La_law_397 : decode b_La_law 397 = .ok (.aload_n 3, 1) := by decide +kernel
theorem d_La_law_398 : decode b_La_law 398 = .ok (.iconst 0, 1) := by decide +kernel
theorem d_La_law_399 : decode b_La_law 399 = .ok (.laload, 1) := by decide +kernel
theorem d_La_law_400 : decode b_La_law 400 = .ok (.iload 6, 2) := by decide +kernel
theorem d_La_law_402 : decode b_La_law 402 = .ok (.i2l, 1) := by decide +kernel
theorem d_La_law_403 : decode b_La_law 403 = .ok (.lcmp, 1) := by decide +kernel
theorem d_La_law_404 : decode b_La_law 404 = .ok (.ifCond .eq 5, 3) := by decide +kernel
theorem d_La_law_407 : decode b_La_law 407 = .ok (.iconst 0, 1) := by decide +kernel
theorem d_La_law_408 : decode b_La_law 408 = .ok (.ireturn, 1) := by decide +kernel
theorem d_La_law_409 : decode b_La_law 409 = .ok (.goto 408, 3) := by decide +kernel
theorem d_La_law_412 : decode b_La_law 412 = .ok (.aload_n 1, 1) := by decide +kernel
theorem d_La_law_413 : decode b_La_law 413 = .ok (.invokevirtual 99, 3) := by decide +kernel
theorem d_La_law_416 : decode b_La_law 416 = .ok (.aload_n 2, 1) := by decide +kernel
theorem d_La_law_417 : decode b_La_law 417 = .ok (.invokevirtual 102, 3) := by decide +kernel
theorem d_La_law_420 : decode b_La_law 420 = .ok (.if_icmp .eq 397, 3) := by decide +kernel
theorem d_La_law_423 : decode b_La_law 423 = .ok (.iconst 0, 1) := by decide +kernel
theorem d_La_law_424 : decode b_La_law 424 = .ok (.ireturn, 1) := by decide +kernel
theorem d_La_law_425 : decode b_La_law 425 = .ok (.aload_n 1, 1) := by decide +kernel
theorem d_La_law_426 : decode b_La_law 426 = .ok (.aload_n 0, 1) := by decide +kernel
theorem d_La_law_427 : decode b_La_law 427 = .ok (.iload 4, 2) := by decide +kernel
theorem d_La_law_429 : decode b_La_law 429 = .ok (.iconst 1, 1) := by decide +kernel
theorem d_La_law_430 : decode b_La_law 430 = .ok (.iadd, 1) := by decide +kernel
theorem d_La_law_431 : decode b_La_law 431 = .ok (.iaload, 1) := by decide +kernel
theorem d_La_law_432 : decode b_La_law 432 = .ok (.aload_n 3, 1) := by decide +kernel
theorem d_La_law_433 : decode b_La_law 433 = .ok (.invokestatic 103, 3) := by decide +kernel
theorem d_La_law_436 : decode b_La_law 436 = .ok (.istore 5, 2) := by decide +kernel
theorem d_La_law_438 : decode b_La_law 438 = .ok (.aload_n 2, 1) := by decide +kernel
theorem d_La_law_439 : decode b_La_law 439 = .ok (.aload_n 0, 1) := by decide +kernel
theorem d_La_law_440 : decode b_La_law 440 = .ok (.iload 4, 2) := by decide +kernel
theorem d_La_law_442 : decode b_La_law 442 = .ok (.iconst 1, 1) := by decide +kernel
theorem d_La_law_443 : decode b_La_law 443 = .ok (.iadd, 1) := by decide +kernel
theorem d_La_law_444 : decode b_La_law 444 = .ok (.iaload, 1) := by decide +kernel
theorem d_La_law_445 : decode b_La_law 445 = .ok (.invokevirtual 105, 3) := by decide +kernel
theorem d_La_law_448 : decode b_La_law 448 = .ok (.istore 6, 2) := by decide +kernel
theorem d_La_law_450 : decode b_La_law 450 = .ok (.aload_n 2, 1) := by decide +kernel
theorem d_La_law_451 : decode b_La_law 451 = .ok (.invokevirtual 75, 3) := by decide +kernel
theorem d_La_law_454 : decode b_La_law 454 = .ok (.iload 5, 2) := by decide +kernel
theorem d_La_law_456 : decode b_La_law 456 = .ok (.if_icmp .eq 5, 3) := by decide +kernel
theorem d_La_law_459 : decode b_La_law 459 = .ok (.iconst 0, 1) := by decide +kernel
theorem d_La_law_460 : decode b_La_law 460 = .ok (.ireturn, 1) := by decide +kernel
theorem d_La_law_461 : decode b_La_law 461 = .ok (.iload 5, 2) := by decide +kernel
theorem d_La_law_463 : decode b_La_law 463 = .ok (.ifCond .ne 15, 3) := by decide +kernel
theorem d_La_law_466 : decode b_La_law 466 = .ok (.aload_n 3, 1) := by decide +kernel
theorem d_La_law_467 : decode b_La_law 467 = .ok (.iconst 0, 1) := by decide +kernel
theorem d_La_law_468 : decode b_La_law 468 = .ok (.laload, 1) := by decide +kernel
theorem d_La_law_469 : decode b_La_law 469 = .ok (.iload 6, 2) := by decide +kernel
theorem d_La_law_471 : decode b_La_law 471 = .ok (.i2l, 1) := by decide +kernel
theorem d_La_law_472 : decode b_La_law 472 = .ok (.lcmp, 1) := by decide +kernel
theorem d_La_law_473 : decode b_La_law 473 = .ok (.ifCond .eq 5, 3) := by decide +kernel
theorem d_La_law_476 : decode b_La_law 476 = .ok (.iconst 0, 1) := by decide +kernel
theorem d_La_law_477 : decode b_La_law 477 = .ok (.ireturn, 1) := by decide +kernel
theorem d_La_law_478 : decode b_La_law 478 = .ok (.goto 339, 3) := by decide +kernel
theorem d_La_law_481 : decode b_La_law 481 = .ok (.aload_n 1, 1) := by decide +kernel
theorem d_La_law_482 : decode b_La_law 482 = .ok (.aload_n 0, 1) := by decide +kernel
theorem d_La_law_483 : decode b_La_law 483 = .ok (.iload 4, 2) := by decide +kernel
theorem d_La_law_485 : decode b_La_law 485 = .ok (.iconst 1, 1) := by decide +kernel
theorem d_La_law_486 : decode b_La_law 486 = .ok (.iadd, 1) := by decide +kernel
theorem d_La_law_487 : decode b_La_law 487 = .ok (.iaload, 1) := by decide +kernel
theorem d_La_law_488 : decode b_La_law 488 = .ok (.aload_n 0, 1) := by decide +kernel
theorem d_La_law_489 : decode b_La_law 489 = .ok (.iload 4, 2) := by decide +kernel
theorem d_La_law_491 : decode b_La_law 491 = .ok (.iconst 2, 1) := by decide +kernel
theorem d_La_law_492 : decode b_La_law 492 = .ok (.iadd, 1) := by decide +kernel
theorem d_La_law_493 : decode b_La_law 493 = .ok (.iaload, 1) := by decide +kernel
theorem d_La_law_494 : decode b_La_law 494 = .ok (.aload_n 3, 1) := by decide +kernel
theorem d_La_law_495 : decode b_La_law 495 = .ok (.invokestatic 106, 3) := by decide +kernel
theorem d_La_law_498 : decode b_La_law 498 = .ok (.istore 5, 2) := by decide +kernel
theorem d_La_law_500 : decode b_La_law 500 = .ok (.aload_n 2, 1) := by decide +kernel
theorem d_La_law_501 : decode b_La_law 501 = .ok (.aload_n 0, 1) := by decide +kernel
theorem d_La_law_502 : decode b_La_law 502 = .ok (.iload 4, 2) := by decide +kernel
theorem d_La_law_504 : decode b_La_law 504 = .ok (.iconst 1, 1) := by decide +kernel
theorem d_La_law_505 : decode b_La_law 505 = .ok (.iadd, 1) := by decide +kernel
theorem d_La_law_506 : decode b_La_law 506 = .ok (.iaload, 1) := by decide +kernel
theorem d_La_law_507 : decode b_La_law 507 = .ok (.aload_n 0, 1) := by decide +kernel
theorem d_La_law_508 : decode b_La_law 508 = .ok (.iload 4, 2) := by decide +kernel
theorem d_La_law_510 : decode b_La_law 510 = .ok (.iconst 2, 1) := by decide +kernel
theorem d_La_law_511 : decode b_La_law 511 = .ok (.iadd, 1) := by decide +kernel
theorem d_La_law_512 : decode b_La_law 512 = .ok (.iaload, 1) := by decide +kernel
theorem d_La_law_513 : decode b_La_law 513 = .ok (.invokevirtual 108, 3) := by decide +kernel
theorem d_La_law_516 : decode b_La_law 516 = .ok (.istore 6, 2) := by decide +kernel
theorem d_La_law_518 : decode b_La_law 518 = .ok (.aload_n 2, 1) := by decide +kernel
theorem d_La_law_519 : decode b_La_law 519 = .ok (.invokevirtual 75, 3) := by decide +kernel
theorem d_La_law_522 : decode b_La_law 522 = .ok (.iload 5, 2) := by decide +kernel
theorem d_La_law_524 : decode b_La_law 524 = .ok (.if_icmp .eq 5, 3) := by decide +kernel
theorem d_La_law_527 : decode b_La_law 527 = .ok (.iconst 0, 1) := by decide +kernel
theorem d_La_law_528 : decode b_La_law 528 = .ok (.ireturn, 1) := by decide +kernel
theorem d_La_law_529 : decode b_La_law 529 = .ok (.iload 5, 2) := by decide +kernel
theorem d_La_law_531 : decode b_La_law 531 = .ok (.ifCond .ne 15, 3) := by decide +kernel
theorem d_La_law_534 : decode b_La_law 534 = .ok (.aload_n 3, 1) := by decide +kernel
theorem d_La_law_535 : decode b_La_law 535 = .ok (.iconst 0, 1) := by decide +kernel
theorem d_La_law_536 : decode b_La_law 536 = .ok (.laload, 1) := by decide +kernel
theorem d_La_law_537 : decode b_La_law 537 = .ok (.iload 6, 2) := by decide +kernel
theorem d_La_law_539 : decode b_La_law 539 = .ok (.i2l, 1) := by decide +kernel
theorem d_La_law_540 : decode b_La_law 540 = .ok (.lcmp, 1) := by decide +kernel
theorem d_La_law_541 : decode b_La_law 541 = .ok (.ifCond .eq 5, 3) := by decide +kernel
theorem d_La_law_544 : decode b_La_law 544 = .ok (.iconst 0, 1) := by decide +kernel
theorem d_La_law_545 : decode b_La_law 545 = .ok (.ireturn, 1) := by decide +kernel
theorem d_La_law_546 : decode b_La_law 546 = .ok (.goto 271, 3) := by decide +kernel
theorem d_La_law_549 : decode b_La_law 549 = .ok (.aload_n 1, 1) := by decide +kernel
theorem d_La_law_550 : decode b_La_law 550 = .ok (.aload_n 0, 1) := by decide +kernel
theorem d_La_law_551 : decode b_La_law 551 = .ok (.iload 4, 2) := by decide +kernel
theorem d_La_law_553 : decode b_La_law 553 = .ok (.iconst 1, 1) := by decide +kernel
theorem d_La_law_554 : decode b_La_law 554 = .ok (.iadd, 1) := by decide +kernel
theorem d_La_law_555 : decode b_La_law 555 = .ok (.iaload, 1) := by decide +kernel
theorem d_La_law_556 : decode b_La_law 556 = .ok (.aload_n 0, 1) := by decide +kernel
theorem d_La_law_557 : decode b_La_law 557 = .ok (.iload 4, 2) := by decide +kernel
theorem d_La_law_559 : decode b_La_law 559 = .ok (.iconst 2, 1) := by decide +kernel
theorem d_La_law_560 : decode b_La_law 560 = .ok (.iadd, 1) := by decide +kernel
theorem d_La_law_561 : decode b_La_law 561 = .ok (.iaload, 1) := by decide +kernel
theorem d_La_law_562 : decode b_La_law 562 = .ok (.i2l, 1) := by decide +kernel
theorem d_La_law_563 : decode b_La_law 563 = .ok (.bipush 32, 2) := by decide +kernel
theorem d_La_law_565 : decode b_La_law 565 = .ok (.lshl, 1) := by decide +kernel
theorem d_La_law_566 : decode b_La_law 566 = .ok (.aload_n 0, 1) := by decide +kernel
theorem d_La_law_567 : decode b_La_law 567 = .ok (.iload 4, 2) := by decide +kernel
theorem d_La_law_569 : decode b_La_law 569 = .ok (.iconst 3, 1) := by decide +kernel
theorem d_La_law_570 : decode b_La_law 570 = .ok (.iadd, 1) := by decide +kernel
theorem d_La_law_571 : decode b_La_law 571 = .ok (.iaload, 1) := by decide +kernel
theorem d_La_law_572 : decode b_La_law 572 = .ok (.i2l, 1) := by decide +kernel
theorem d_La_law_573 : decode b_La_law 573 = .ok (.ldc2_w 109, 3) := by decide +kernel
theorem d_La_law_576 : decode b_La_law 576 = .ok (.land, 1) := by decide +kernel
theorem d_La_law_577 : decode b_La_law 577 = .ok (.lor, 1) := by decide +kernel
theorem d_La_law_578 : decode b_La_law 578 = .ok (.aload_n 3, 1) := by decide +kernel
theorem d_La_law_579 : decode b_La_law 579 = .ok (.invokestatic 111, 3) := by decide +kernel
theorem d_La_law_582 : decode b_La_law 582 = .ok (.istore 5, 2) := by decide +kernel
theorem d_La_law_584 : decode b_La_law 584 = .ok (.aload_n 2, 1) := by decide +kernel
theorem d_La_law_585 : decode b_La_law 585 = .ok (.aload_n 0, 1) := by decide +kernel
theorem d_La_law_586 : decode b_La_law 586 = .ok (.iload 4, 2) := by decide +kernel
theorem d_La_law_588 : decode b_La_law 588 = .ok (.iconst 1, 1) := by decide +kernel
theorem d_La_law_589 : decode b_La_law 589 = .ok (.iadd, 1) := by decide +kernel
theorem d_La_law_590 : decode b_La_law 590 = .ok (.iaload, 1) := by decide +kernel
theorem d_La_law_591 : decode b_La_law 591 = .ok (.aload_n 0, 1) := by decide +kernel
theorem d_La_law_592 : decode b_La_law 592 = .ok (.iload 4, 2) := by decide +kernel
theorem d_La_law_594 : decode b_La_law 594 = .ok (.iconst 2, 1) := by decide +kernel
theorem d_La_law_595 : decode b_La_law 595 = .ok (.iadd, 1) := by decide +kernel
theorem d_La_law_596 : decode b_La_law 596 = .ok (.iaload, 1) := by decide +kernel
theorem d_La_law_597 : decode b_La_law 597 = .ok (.i2l, 1) := by decide +kernel
theorem d_La_law_598 : decode b_La_law 598 = .ok (.bipush 32, 2) := by decide +kernel
theorem d_La_law_600 : decode b_La_law 600 = .ok (.lshl, 1) := by decide +kernel
theorem d_La_law_601 : decode b_La_law 601 = .ok (.aload_n 0, 1) := by decide +kernel
theorem d_La_law_602 : decode b_La_law 602 = .ok (.iload 4, 2) := by decide +kernel
theorem d_La_law_604 : decode b_La_law 604 = .ok (.iconst 3, 1) := by decide +kernel
theorem d_La_law_605 : decode b_La_law 605 = .ok (.iadd, 1) := by decide +kernel
theorem d_La_law_606 : decode b_La_law 606 = .ok (.iaload, 1) := by decide +kernel
theorem d_La_law_607 : decode b_La_law 607 = .ok (.i2l, 1) := by decide +kernel
theorem d_La_law_608 : decode b_La_law 608 = .ok (.ldc2_w 109, 3) := by decide +kernel
theorem d_La_law_611 : decode b_La_law 611 = .ok (.land, 1) := by decide +kernel
theorem d_La_law_612 : decode b_La_law 612 = .ok (.lor, 1) := by decide +kernel
theorem d_La_law_613 : decode b_La_law 613 = .ok (.invokevirtual 114, 3) := by decide +kernel
theorem d_La_law_616 : decode b_La_law 616 = .ok (.istore 6, 2) := by decide +kernel
theorem d_La_law_618 : decode b_La_law 618 = .ok (.aload_n 2, 1) := by decide +kernel
theorem d_La_law_619 : decode b_La_law 619 = .ok (.invokevirtual 75, 3) := by decide +kernel
theorem d_La_law_622 : decode b_La_law 622 = .ok (.iload 5, 2) := by decide +kernel
theorem d_La_law_624 : decode b_La_law 624 = .ok (.if_icmp .eq 5, 3) := by decide +kernel
theorem d_La_law_627 : decode b_La_law 627 = .ok (.iconst 0, 1) := by decide +kernel
theorem d_La_law_628 : decode b_La_law 628 = .ok (.ireturn, 1) := by decide +kernel
theorem d_La_law_629 : decode b_La_law 629 = .ok (.iload 5, 2) := by decide +kernel
theorem d_La_law_631 : decode b_La_law 631 = .ok (.ifCond .ne 15, 3) := by decide +kernel
theorem d_La_law_634 : decode b_La_law 634 = .ok (.aload_n 3, 1) := by decide +kernel
theorem d_La_law_635 : decode b_La_law 635 = .ok (.iconst 0, 1) := by decide +kernel
theorem d_La_law_636 : decode b_La_law 636 = .ok (.laload, 1) := by decide +kernel
theorem d_La_law_637 : decode b_La_law 637 = .ok (.iload 6, 2) := by decide +kernel
theorem d_La_law_639 : decode b_La_law 639 = .ok (.i2l, 1) := by decide +kernel
theorem d_La_law_640 : decode b_La_law 640 = .ok (.lcmp, 1) := by decide +kernel
theorem d_La_law_641 : decode b_La_law 641 = .ok (.ifCond .eq 5, 3) := by decide +kernel
theorem d_La_law_644 : decode b_La_law 644 = .ok (.iconst 0, 1) := by decide +kernel
theorem d_La_law_645 : decode b_La_law 645 = .ok (.ireturn, 1) := by decide +kernel
theorem d_La_law_646 : decode b_La_law 646 = .ok (.goto 171, 3) := by decide +kernel
theorem d_La_law_649 : decode b_La_law 649 = .ok (.aload_n 1, 1) := by decide +kernel
theorem d_La_law_650 : decode b_La_law 650 = .ok (.aload_n 0, 1) := by decide +kernel
theorem d_La_law_651 : decode b_La_law 651 = .ok (.iload 4, 2) := by decide +kernel
theorem d_La_law_653 : decode b_La_law 653 = .ok (.iconst 1, 1) := by decide +kernel
theorem d_La_law_654 : decode b_La_law 654 = .ok (.iadd, 1) := by decide +kernel
theorem d_La_law_655 : decode b_La_law 655 = .ok (.iaload, 1) := by decide +kernel
theorem d_La_law_656 : decode b_La_law 656 = .ok (.aload_n 3, 1) := by decide +kernel
theorem d_La_law_657 : decode b_La_law 657 = .ok (.invokestatic 115, 3) := by decide +kernel
theorem d_La_law_660 : decode b_La_law 660 = .ok (.istore 5, 2) := by decide +kernel
theorem d_La_law_662 : decode b_La_law 662 = .ok (.aload_n 2, 1) := by decide +kernel
theorem d_La_law_663 : decode b_La_law 663 = .ok (.aload_n 0, 1) := by decide +kernel
theorem d_La_law_664 : decode b_La_law 664 = .ok (.iload 4, 2) := by decide +kernel
theorem d_La_law_666 : decode b_La_law 666 = .ok (.iconst 1, 1) := by decide +kernel
theorem d_La_law_667 : decode b_La_law 667 = .ok (.iadd, 1) := by decide +kernel
theorem d_La_law_668 : decode b_La_law 668 = .ok (.iaload, 1) := by decide +kernel
theorem d_La_law_669 : decode b_La_law 669 = .ok (.invokevirtual 117, 3) := by decide +kernel
theorem d_La_law_672 : decode b_La_law 672 = .ok (.istore 6, 2) := by decide +kernel
theorem d_La_law_674 : decode b_La_law 674 = .ok (.aload_n 2, 1) := by decide +kernel
theorem d_La_law_675 : decode b_La_law 675 = .ok (.invokevirtual 75, 3) := by decide +kernel
theorem d_La_law_678 : decode b_La_law 678 = .ok (.iload 5, 2) := by decide +kernel
theorem d_La_law_680 : decode b_La_law 680 = .ok (.if_icmp .eq 5, 3) := by decide +kernel
theorem d_La_law_683 : decode b_La_law 683 = .ok (.iconst 0, 1) := by decide +kernel
theorem d_La_law_684 : decode b_La_law 684 = .ok (.ireturn, 1) := by decide +kernel
theorem d_La_law_685 : decode b_La_law 685 = .ok (.iload 5, 2) := by decide +kernel
theorem d_La_law_687 : decode b_La_law 687 = .ok (.ifCond .ne 15, 3) := by decide +kernel
theorem d_La_law_690 : decode b_La_law 690 = .ok (.aload_n 3, 1) := by decide +kernel
theorem d_La_law_691 : decode b_La_law 691 = .ok (.iconst 0, 1) := by decide +kernel
theorem d_La_law_692 : decode b_La_law 692 = .ok (.laload, 1) := by decide +kernel
theorem d_La_law_693 : decode b_La_law 693 = .ok (.iload 6, 2) := by decide +kernel
theorem d_La_law_695 : decode b_La_law 695 = .ok (.i2l, 1) := by decide +kernel
theorem d_La_law_696 : decode b_La_law 696 = .ok (.lcmp, 1) := by decide +kernel
theorem d_La_law_697 : decode b_La_law 697 = .ok (.ifCond .eq 5, 3) := by decide +kernel
theorem d_La_law_700 : decode b_La_law 700 = .ok (.iconst 0, 1) := by decide +kernel
theorem d_La_law_701 : decode b_La_law 701 = .ok (.ireturn, 1) := by decide +kernel
theorem d_La_law_702 : decode b_La_law 702 = .ok (.goto 115, 3) := by decide +kernel
theorem d_La_law_705 : decode b_La_law 705 = .ok (.aload_n 1, 1) := by decide +kernel
theorem d_La_law_706 : decode b_La_law 706 = .ok (.aload_n 0, 1) := by decide +kernel
theorem d_La_law_707 : decode b_La_law 707 = .ok (.iload 4, 2) := by decide +kernel
theorem d_La_law_709 : decode b_La_law 709 = .ok (.iconst 1, 1) := by decide +kernel
theorem d_La_law_710 : decode b_La_law 710 = .ok (.iadd, 1) := by decide +kernel
theorem d_La_law_711 : decode b_La_law 711 = .ok (.iaload, 1) := by decide +kernel
theorem d_La_law_712 : decode b_La_law 712 = .ok (.aload_n 3, 1) := by decide +kernel
theorem d_La_law_713 : decode b_La_law 713 = .ok (.invokestatic 118, 3) := by decide +kernel
theorem d_La_law_716 : decode b_La_law 716 = .ok (.istore 5, 2) := by decide +kernel
theorem d_La_law_718 : decode b_La_law 718 = .ok (.aload_n 2, 1) := by decide +kernel
theorem d_La_law_719 : decode b_La_law 719 = .ok (.aload_n 0, 1) := by decide +kernel
theorem d_La_law_720 : decode b_La_law 720 = .ok (.iload 4, 2) := by decide +kernel
theorem d_La_law_722 : decode b_La_law 722 = .ok (.iconst 1, 1) := by decide +kernel
theorem d_La_law_723 : decode b_La_law 723 = .ok (.iadd, 1) := by decide +kernel
theorem d_La_law_724 : decode b_La_law 724 = .ok (.iaload, 1) := by decide +kernel
theorem d_La_law_725 : decode b_La_law 725 = .ok (.invokevirtual 120, 3) := by decide +kernel
theorem d_La_law_728 : decode b_La_law 728 = .ok (.istore 6, 2) := by decide +kernel
theorem d_La_law_730 : decode b_La_law 730 = .ok (.aload_n 2, 1) := by decide +kernel
theorem d_La_law_731 : decode b_La_law 731 = .ok (.invokevirtual 75, 3) := by decide +kernel
theorem d_La_law_734 : decode b_La_law 734 = .ok (.iload 5, 2) := by decide +kernel
theorem d_La_law_736 : decode b_La_law 736 = .ok (.if_icmp .eq 5, 3) := by decide +kernel
theorem d_La_law_739 : decode b_La_law 739 = .ok (.iconst 0, 1) := by decide +kernel
theorem d_La_law_740 : decode b_La_law 740 = .ok (.ireturn, 1) := by decide +kernel
theorem d_La_law_741 : decode b_La_law 741 = .ok (.iload 5, 2) := by decide +kernel
theorem d_La_law_743 : decode b_La_law 743 = .ok (.ifCond .ne 15, 3) := by decide +kernel
theorem d_La_law_746 : decode b_La_law 746 = .ok (.aload_n 3, 1) := by decide +kernel
theorem d_La_law_747 : decode b_La_law 747 = .ok (.iconst 0, 1) := by decide +kernel
theorem d_La_law_748 : decode b_La_law 748 = .ok (.laload, 1) := by decide +kernel
theorem d_La_law_749 : decode b_La_law 749 = .ok (.iload 6, 2) := by decide +kernel
theorem d_La_law_751 : decode b_La_law 751 = .ok (.i2l, 1) := by decide +kernel
theorem d_La_law_752 : decode b_La_law 752 = .ok (.lcmp, 1) := by decide +kernel
theorem d_La_law_753 : decode b_La_law 753 = .ok (.ifCond .eq 5, 3) := by decide +kernel
theorem d_La_law_756 : decode b_La_law 756 = .ok (.iconst 0, 1) := by decide +kernel
theorem d_La_law_757 : decode b_La_law 757 = .ok (.ireturn, 1) := by decide +kernel
theorem d_La_law_758 : decode b_La_law 758 = .ok (.goto 59, 3) := by decide +kernel
theorem d_La_law_761 : decode b_La_law 761 = .ok (.aload_n 1, 1) := by decide +kernel
theorem d_La_law_762 : decode b_La_law 762 = .ok (.aload_n 0, 1) := by decide +kernel
theorem d_La_law_763 : decode b_La_law 763 = .ok (.iload 4, 2) := by decide +kernel
theorem d_La_law_765 : decode b_La_law 765 = .ok (.iconst 1, 1) := by decide +kernel
theorem d_La_law_766 : decode b_La_law 766 = .ok (.iadd, 1) := by decide +kernel
theorem d_La_law_767 : decode b_La_law 767 = .ok (.iaload, 1) := by decide +kernel
theorem d_La_law_768 : decode b_La_law 768 = .ok (.aload_n 3, 1) := by decide +kernel
theorem d_La_law_769 : decode b_La_law 769 = .ok (.invokestatic 121, 3) := by decide +kernel
theorem d_La_law_772 : decode b_La_law 772 = .ok (.istore 5, 2) := by decide +kernel
theorem d_La_law_774 : decode b_La_law 774 = .ok (.aload_n 2, 1) := by decide +kernel
theorem d_La_law_775 : decode b_La_law 775 = .ok (.aload_n 0, 1) := by decide +kernel
theorem d_La_law_776 : decode b_La_law 776 = .ok (.iload 4, 2) := by decide +kernel
theorem d_La_law_778 : decode b_La_law 778 = .ok (.iconst 1, 1) := by decide +kernel
theorem d_La_law_779 : decode b_La_law 779 = .ok (.iadd, 1) := by decide +kernel
theorem d_La_law_780 : decode b_La_law 780 = .ok (.iaload, 1) := by decide +kernel
theorem d_La_law_781 : decode b_La_law 781 = .ok (.invokevirtual 123, 3) := by decide +kernel
theorem d_La_law_784 : decode b_La_law 784 = .ok (.istore 6, 2) := by decide +kernel
theorem d_La_law_786 : decode b_La_law 786 = .ok (.aload_n 2, 1) := by decide +kernel
theorem d_La_law_787 : decode b_La_law 787 = .ok (.invokevirtual 75, 3) := by decide +kernel
theorem d_La_law_790 : decode b_La_law 790 = .ok (.iload 5, 2) := by decide +kernel
theorem d_La_law_792 : decode b_La_law 792 = .ok (.if_icmp .eq 5, 3) := by decide +kernel
theorem d_La_law_795 : decode b_La_law 795 = .ok (.iconst 0, 1) := by decide +kernel
theorem d_La_law_796 : decode b_La_law 796 = .ok (.ireturn, 1) := by decide +kernel
theorem d_La_law_797 : decode b_La_law 797 = .ok (.iload 5, 2) := by decide +kernel
theorem d_La_law_799 : decode b_La_law 799 = .ok (.ifCond .ne 15, 3) := by decide +kernel
theorem d_La_law_802 : decode b_La_law 802 = .ok (.aload_n 3, 1) := by decide +kernel
theorem d_La_law_803 : decode b_La_law 803 = .ok (.iconst 0, 1) := by decide +kernel
theorem d_La_law_804 : decode b_La_law 804 = .ok (.laload, 1) := by decide +kernel
theorem d_La_law_805 : decode b_La_law 805 = .ok (.iload 6, 2) := by decide +kernel
theorem d_La_law_807 : decode b_La_law 807 = .ok (.i2l, 1) := by decide +kernel
theorem d_La_law_808 : decode b_La_law 808 = .ok (.lcmp, 1) := by decide +kernel
theorem d_La_law_809 : decode b_La_law 809 = .ok (.ifCond .eq 5, 3) := by decide +kernel
theorem d_La_law_812 : decode b_La_law 812 = .ok (.iconst 0, 1) := by decide +kernel
theorem d_La_law_813 : decode b_La_law 813 = .ok (.ireturn, 1) := by decide +kernel
theorem d_La_law_814 : decode b_La_law 814 = .ok (.goto 3, 3) := by decide +kernel
theorem d_La_law_817 : decode b_La_law 817 = .ok (.iinc 4 4, 3) := by decide +kernel
theorem d_La_law_820 : decode b_La_law 820 = .ok (.goto (-797), 3) := by decide +kernel
theorem d_La_law_823 : decode b_La_law 823 = .ok (.iconst 1, 1) := by decide +kernel
theorem d_La_law_824 : decode b_La_law 824 = .ok (.ireturn, 1) := by decide +kernel
