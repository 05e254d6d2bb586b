theorem dX7_init_0 : decode cX7_init 0 = .ok (.aload_n 0, 1) := by decide +kernel
theorem dX7_init_1 : decode cX7_init 1 = .ok (.invokespecial 1, 3) := by decide +kernel
theorem dX7_init_4 : decode cX7_init 4 = .ok (.aload_n 0, 1) := by decide +kernel
theorem dX7_init_5 : decode cX7_init 5 = .ok (.sipush 5751, 3) := by decide +kernel
theorem dX7_init_8 : decode cX7_init 8 = .ok (.newarray .int, 2) := by decide +kernel
theorem dX7_init_10 : decode cX7_init 10 = .ok (.putfield 7, 3) := by decide +kernel
theorem dX7_init_13 : decode cX7_init 13 = .ok (.aload_n 0, 1) := by decide +kernel
theorem dX7_init_14 : decode cX7_init 14 = .ok (.bipush 80, 2) := by decide +kernel
theorem dX7_init_16 : decode cX7_init 16 = .ok (.newarray .int, 2) := by decide +kernel
theorem dX7_init_18 : decode cX7_init 18 = .ok (.putfield 13, 3) := by decide +kernel
theorem dX7_init_21 : decode cX7_init 21 = .ok (.aload_n 0, 1) := by decide +kernel
theorem dX7_init_22 : decode cX7_init 22 = .ok (.bipush (-9), 2) := by decide +kernel
theorem dX7_init_24 : decode cX7_init 24 = .ok (.putfield 16, 3) := by decide +kernel
theorem dX7_init_27 : decode cX7_init 27 = .ok (.aload_n 0, 1) := by decide +kernel
theorem dX7_init_28 : decode cX7_init 28 = .ok (.bipush 32, 2) := by decide +kernel
theorem dX7_init_30 : decode cX7_init 30 = .ok (.newarray .int, 2) := by decide +kernel
theorem dX7_init_32 : decode cX7_init 32 = .ok (.putfield 20, 3) := by decide +kernel
theorem dX7_init_35 : decode cX7_init 35 = .ok (.aload_n 0, 1) := by decide +kernel
theorem dX7_init_36 : decode cX7_init 36 = .ok (.bipush 32, 2) := by decide +kernel
theorem dX7_init_38 : decode cX7_init 38 = .ok (.newarray .int, 2) := by decide +kernel
theorem dX7_init_40 : decode cX7_init 40 = .ok (.putfield 23, 3) := by decide +kernel
theorem dX7_init_43 : decode cX7_init 43 = .ok (.aload_n 0, 1) := by decide +kernel
theorem dX7_init_44 : decode cX7_init 44 = .ok (.bipush 32, 2) := by decide +kernel
theorem dX7_init_46 : decode cX7_init 46 = .ok (.newarray .int, 2) := by decide +kernel
theorem dX7_init_48 : decode cX7_init 48 = .ok (.putfield 26, 3) := by decide +kernel
theorem dX7_init_51 : decode cX7_init 51 = .ok (.aload_n 0, 1) := by decide +kernel
theorem dX7_init_52 : decode cX7_init 52 = .ok (.bipush 32, 2) := by decide +kernel
theorem dX7_init_54 : decode cX7_init 54 = .ok (.newarray .int, 2) := by decide +kernel
theorem dX7_init_56 : decode cX7_init 56 = .ok (.putfield 29, 3) := by decide +kernel
theorem dX7_init_59 : decode cX7_init 59 = .ok (.aload_n 0, 1) := by decide +kernel
theorem dX7_init_60 : decode cX7_init 60 = .ok (.bipush 10, 2) := by decide +kernel
theorem dX7_init_62 : decode cX7_init 62 = .ok (.newarray .int, 2) := by decide +kernel
theorem dX7_init_64 : decode cX7_init 64 = .ok (.putfield 32, 3) := by decide +kernel
theorem dX7_init_67 : decode cX7_init 67 = .ok (.aload_n 0, 1) := by decide +kernel
theorem dX7_init_68 : decode cX7_init 68 = .ok (.bipush 9, 2) := by decide +kernel
theorem dX7_init_70 : decode cX7_init 70 = .ok (.newarray .int, 2) := by decide +kernel
theorem dX7_init_72 : decode cX7_init 72 = .ok (.putfield 35, 3) := by decide +kernel
theorem dX7_init_75 : decode cX7_init 75 = .ok (.aload_n 0, 1) := by decide +kernel
theorem dX7_init_76 : decode cX7_init 76 = .ok (.bipush 9, 2) := by decide +kernel
theorem dX7_init_78 : decode cX7_init 78 = .ok (.newarray .boolean, 2) := by decide +kernel
theorem dX7_init_80 : decode cX7_init 80 = .ok (.putfield 38, 3) := by decide +kernel
theorem dX7_init_83 : decode cX7_init 83 = .ok (.aload_n 0, 1) := by decide +kernel
theorem dX7_init_84 : decode cX7_init 84 = .ok (.bipush 8, 2) := by decide +kernel
theorem dX7_init_86 : decode cX7_init 86 = .ok (.newarray .int, 2) := by decide +kernel
theorem dX7_init_88 : decode cX7_init 88 = .ok (.putfield 42, 3) := by decide +kernel
theorem dX7_init_91 : decode cX7_init 91 = .ok (.aload_n 0, 1) := by decide +kernel
theorem dX7_init_92 : decode cX7_init 92 = .ok (.bipush 10, 2) := by decide +kernel
theorem dX7_init_94 : decode cX7_init 94 = .ok (.newarray .int, 2) := by decide +kernel
theorem dX7_init_96 : decode cX7_init 96 = .ok (.putfield 45, 3) := by decide +kernel
theorem dX7_init_99 : decode cX7_init 99 = .ok (.aload_n 0, 1) := by decide +kernel
theorem dX7_init_100 : decode cX7_init 100 = .ok (.bipush 10, 2) := by decide +kernel
theorem dX7_init_102 : decode cX7_init 102 = .ok (.newarray .int, 2) := by decide +kernel
theorem dX7_init_104 : decode cX7_init 104 = .ok (.putfield 48, 3) := by decide +kernel
theorem dX7_init_107 : decode cX7_init 107 = .ok (.aload_n 0, 1) := by decide +kernel
theorem dX7_init_108 : decode cX7_init 108 = .ok (.bipush 10, 2) := by decide +kernel
theorem dX7_init_110 : decode cX7_init 110 = .ok (.newarray .int, 2) := by decide +kernel
theorem dX7_init_112 : decode cX7_init 112 = .ok (.putfield 51, 3) := by decide +kernel
theorem dX7_init_115 : decode cX7_init 115 = .ok (.aload_n 0, 1) := by decide +kernel
theorem dX7_init_116 : decode cX7_init 116 = .ok (.bipush 10, 2) := by decide +kernel
theorem dX7_init_118 : decode cX7_init 118 = .ok (.newarray .int, 2) := by decide +kernel
theorem dX7_init_120 : decode cX7_init 120 = .ok (.putfield 54, 3) := by decide +kernel
theorem dX7_init_123 : decode cX7_init 123 = .ok (.aload_n 0, 1) := by decide +kernel
theorem dX7_init_124 : decode cX7_init 124 = .ok (.bipush 10, 2) := by decide +kernel
theorem dX7_init_126 : decode cX7_init 126 = .ok (.newarray .int, 2) := by decide +kernel
theorem dX7_init_128 : decode cX7_init 128 = .ok (.putfield 57, 3) := by decide +kernel
theorem dX7_init_131 : decode cX7_init 131 = .ok (.aload_n 0, 1) := by decide +kernel
theorem dX7_init_132 : decode cX7_init 132 = .ok (.bipush 10, 2) := by decide +kernel
theorem dX7_init_134 : decode cX7_init 134 = .ok (.newarray .int, 2) := by decide +kernel
theorem dX7_init_136 : decode cX7_init 136 = .ok (.putfield 60, 3) := by decide +kernel
theorem dX7_init_139 : decode cX7_init 139 = .ok (.aload_n 0, 1) := by decide +kernel
theorem dX7_init_140 : decode cX7_init 140 = .ok (.bipush 10, 2) := by decide +kernel
theorem dX7_init_142 : decode cX7_init 142 = .ok (.newarray .int, 2) := by decide +kernel
theorem dX7_init_144 : decode cX7_init 144 = .ok (.putfield 63, 3) := by decide +kernel
theorem dX7_init_147 : decode cX7_init 147 = .ok (.aload_n 0, 1) := by decide +kernel
theorem dX7_init_148 : decode cX7_init 148 = .ok (.sipush 160, 3) := by decide +kernel
theorem dX7_init_151 : decode cX7_init 151 = .ok (.newarray .boolean, 2) := by decide +kernel
theorem dX7_init_153 : decode cX7_init 153 = .ok (.putfield 66, 3) := by decide +kernel
theorem dX7_init_156 : decode cX7_init 156 = .ok (.aload_n 0, 1) := by decide +kernel
theorem dX7_init_157 : decode cX7_init 157 = .ok (.sipush 160, 3) := by decide +kernel
theorem dX7_init_160 : decode cX7_init 160 = .ok (.newarray .int, 2) := by decide +kernel
theorem dX7_init_162 : decode cX7_init 162 = .ok (.putfield 69, 3) := by decide +kernel
theorem dX7_init_165 : decode cX7_init 165 = .ok (.aload_n 0, 1) := by decide +kernel
theorem dX7_init_166 : decode cX7_init 166 = .ok (.sipush 160, 3) := by decide +kernel
theorem dX7_init_169 : decode cX7_init 169 = .ok (.newarray .int, 2) := by decide +kernel
theorem dX7_init_171 : decode cX7_init 171 = .ok (.putfield 72, 3) := by decide +kernel
theorem dX7_init_174 : decode cX7_init 174 = .ok (.aload_n 0, 1) := by decide +kernel
theorem dX7_init_175 : decode cX7_init 175 = .ok (.sipush 160, 3) := by decide +kernel
theorem dX7_init_178 : decode cX7_init 178 = .ok (.newarray .int, 2) := by decide +kernel
theorem dX7_init_180 : decode cX7_init 180 = .ok (.putfield 75, 3) := by decide +kernel
theorem dX7_init_183 : decode cX7_init 183 = .ok (.aload_n 0, 1) := by decide +kernel
theorem dX7_init_184 : decode cX7_init 184 = .ok (.sipush 160, 3) := by decide +kernel
theorem dX7_init_187 : decode cX7_init 187 = .ok (.newarray .int, 2) := by decide +kernel
theorem dX7_init_189 : decode cX7_init 189 = .ok (.putfield 78, 3) := by decide +kernel
theorem dX7_init_192 : decode cX7_init 192 = .ok (.aload_n 0, 1) := by decide +kernel
theorem dX7_init_193 : decode cX7_init 193 = .ok (.bipush 10, 2) := by decide +kernel
theorem dX7_init_195 : decode cX7_init 195 = .ok (.newarray .int, 2) := by decide +kernel
theorem dX7_init_197 : decode cX7_init 197 = .ok (.putfield 81, 3) := by decide +kernel
theorem dX7_init_200 : decode cX7_init 200 = .ok (.aload_n 0, 1) := by decide +kernel
theorem dX7_init_201 : decode cX7_init 201 = .ok (.bipush 10, 2) := by decide +kernel
theorem dX7_init_203 : decode cX7_init 203 = .ok (.newarray .int, 2) := by decide +kernel
theorem dX7_init_205 : decode cX7_init 205 = .ok (.putfield 84, 3) := by decide +kernel
theorem dX7_init_208 : decode cX7_init 208 = .ok (.aload_n 0, 1) := by decide +kernel
theorem dX7_init_209 : decode cX7_init 209 = .ok (.bipush 10, 2) := by decide +kernel
theorem dX7_init_211 : decode cX7_init 211 = .ok (.newarray .int, 2) := by decide +kernel
theorem dX7_init_213 : decode cX7_init 213 = .ok (.putfield 87, 3) := by decide +kernel
theorem dX7_init_216 : decode cX7_init 216 = .ok (.aload_n 0, 1) := by decide +kernel
theorem dX7_init_217 : decode cX7_init 217 = .ok (.bipush 100, 2) := by decide +kernel
theorem dX7_init_219 : decode cX7_init 219 = .ok (.newarray .boolean, 2) := by decide +kernel
theorem dX7_init_221 : decode cX7_init 221 = .ok (.putfield 90, 3) := by decide +kernel
theorem dX7_init_224 : decode cX7_init 224 = .ok (.aload_n 0, 1) := by decide +kernel
theorem dX7_init_225 : decode cX7_init 225 = .ok (.bipush 10, 2) := by decide +kernel
theorem dX7_init_227 : decode cX7_init 227 = .ok (.newarray .int, 2) := by decide +kernel
theorem dX7_init_229 : decode cX7_init 229 = .ok (.putfield 93, 3) := by decide +kernel
theorem dX7_init_232 : decode cX7_init 232 = .ok (.aload_n 0, 1) := by decide +kernel
theorem dX7_init_233 : decode cX7_init 233 = .ok (.bipush 10, 2) := by decide +kernel
theorem dX7_init_235 : decode cX7_init 235 = .ok (.newarray .int, 2) := by decide +kernel
theorem dX7_init_237 : decode cX7_init 237 = .ok (.putfield 96, 3) := by decide +kernel
theorem dX7_init_240 : decode cX7_init 240 = .ok (.aload_n 0, 1) := by decide +kernel
theorem dX7_init_241 : decode cX7_init 241 = .ok (.bipush 10, 2) := by decide +kernel
theorem dX7_init_243 : decode cX7_init 243 = .ok (.newarray .boolean, 2) := by decide +kernel
theorem dX7_init_245 : decode cX7_init 245 = .ok (.putfield 99, 3) := by decide +kernel
theorem dX7_init_248 : decode cX7_init 248 = .ok (.aload_n 0, 1) := by decide +kernel
theorem dX7_init_249 : decode cX7_init 249 = .ok (.bipush 10, 2) := by decide +kernel
theorem dX7_init_251 : decode cX7_init 251 = .ok (.newarray .boolean, 2) := by decide +kernel
theorem dX7_init_253 : decode cX7_init 253 = .ok (.putfield 102, 3) := by decide +kernel
theorem dX7_init_256 : decode cX7_init 256 = .ok (.aload_n 0, 1) := by decide +kernel
theorem dX7_init_257 : decode cX7_init 257 = .ok (.bipush 10, 2) := by decide +kernel
theorem dX7_init_259 : decode cX7_init 259 = .ok (.newarray .boolean, 2) := by decide +kernel
theorem dX7_init_261 : decode cX7_init 261 = .ok (.putfield 105, 3) := by decide +kernel
theorem dX7_init_264 : decode cX7_init 264 = .ok (.return_, 1) := by decide +kernel
theorem dX7_in_0 : decode cX7_in 0 = .ok (.iload_n 0, 1) := by decide +kernel
theorem dX7_in_1 : decode cX7_in 1 = .ok (.iload_n 1, 1) := by decide +kernel
theorem dX7_in_2 : decode cX7_in 2 = .ok (.if_icmp .lt 12, 3) := by decide +kernel
theorem dX7_in_5 : decode cX7_in 5 = .ok (.iload_n 0, 1) := by decide +kernel
theorem dX7_in_6 : decode cX7_in 6 = .ok (.iload_n 2, 1) := by decide +kernel
theorem dX7_in_7 : decode cX7_in 7 = .ok (.if_icmp .gt 7, 3) := by decide +kernel
theorem dX7_in_10 : decode cX7_in 10 = .ok (.iconst 1, 1) := by decide +kernel
theorem dX7_in_11 : decode cX7_in 11 = .ok (.goto 4, 3) := by decide +kernel
theorem dX7_in_14 : decode cX7_in 14 = .ok (.iconst 0, 1) := by decide +kernel
theorem dX7_in_15 : decode cX7_in 15 = .ok (.ireturn, 1) := by decide +kernel
theorem dX7_records_0 : decode cX7_records 0 = .ok (.aload_n 0, 1) := by decide +kernel
theorem dX7_records_1 : decode cX7_records 1 = .ok (.getfield 108, 3) := by decide +kernel
theorem dX7_records_4 : decode cX7_records 4 = .ok (.bipush 6, 2) := by decide +kernel
theorem dX7_records_6 : decode cX7_records 6 = .ok (.if_icmp .ne 46, 3) := by decide +kernel
theorem dX7_records_9 : decode cX7_records 9 = .ok (.sipush 780, 3) := by decide +kernel
theorem dX7_records_12 : decode cX7_records 12 = .ok (.istore_n 1, 1) := by decide +kernel
theorem dX7_records_13 : decode cX7_records 13 = .ok (.iload_n 1, 1) := by decide +kernel
theorem dX7_records_14 : decode cX7_records 14 = .ok (.sipush 4680, 3) := by decide +kernel
theorem dX7_records_17 : decode cX7_records 17 = .ok (.if_icmp .ge 25, 3) := by decide +kernel
theorem dX7_records_20 : decode cX7_records 20 = .ok (.aload_n 0, 1) := by decide +kernel
theorem dX7_records_21 : decode cX7_records 21 = .ok (.getfield 7, 3) := by decide +kernel
theorem dX7_records_24 : decode cX7_records 24 = .ok (.iload_n 1, 1) := by decide +kernel
theorem dX7_records_25 : decode cX7_records 25 = .ok (.aload_n 0, 1) := by decide +kernel
theorem dX7_records_26 : decode cX7_records 26 = .ok (.getfield 7, 3) := by decide +kernel
theorem dX7_records_29 : decode cX7_records 29 = .ok (.iload_n 1, 1) := by decide +kernel
theorem dX7_records_30 : decode cX7_records 30 = .ok (.sipush 780, 3) := by decide +kernel
theorem dX7_records_33 : decode cX7_records 33 = .ok (.iadd, 1) := by decide +kernel
theorem dX7_records_34 : decode cX7_records 34 = .ok (.iaload, 1) := by decide +kernel
theorem dX7_records_35 : decode cX7_records 35 = .ok (.iastore, 1) := by decide +kernel
theorem dX7_records_36 : decode cX7_records 36 = .ok (.iinc 1 1, 3) := by decide +kernel
theorem dX7_records_39 : decode cX7_records 39 = .ok (.goto (-26), 3) := by decide +kernel
theorem dX7_records_42 : decode cX7_records 42 = .ok (.aload_n 0, 1) := by decide +kernel
theorem dX7_records_43 : decode cX7_records 43 = .ok (.dup, 1) := by decide +kernel
theorem dX7_records_44 : decode cX7_records 44 = .ok (.getfield 108, 3) := by decide +kernel
theorem dX7_records_47 : decode cX7_records 47 = .ok (.iconst 1, 1) := by decide +kernel
theorem dX7_records_48 : decode cX7_records 48 = .ok (.isub, 1) := by decide +kernel
theorem dX7_records_49 : decode cX7_records 49 = .ok (.putfield 108, 3) := by decide +kernel
theorem dX7_records_52 : decode cX7_records 52 = .ok (.aload_n 0, 1) := by decide +kernel
theorem dX7_records_53 : decode cX7_records 53 = .ok (.dup, 1) := by decide +kernel
theorem dX7_records_54 : decode cX7_records 54 = .ok (.getfield 108, 3) := by decide +kernel
theorem dX7_records_57 : decode cX7_records 57 = .ok (.iconst 1, 1) := by decide +kernel
theorem dX7_records_58 : decode cX7_records 58 = .ok (.iadd, 1) := by decide +kernel
theorem dX7_records_59 : decode cX7_records 59 = .ok (.putfield 108, 3) := by decide +kernel
theorem dX7_records_62 : decode cX7_records 62 = .ok (.iconst 0, 1) := by decide +kernel
theorem dX7_records_63 : decode cX7_records 63 = .ok (.istore_n 1, 1) := by decide +kernel
theorem dX7_records_64 : decode cX7_records 64 = .ok (.iload_n 1, 1) := by decide +kernel
theorem dX7_records_65 : decode cX7_records 65 = .ok (.sipush 780, 3) := by decide +kernel
theorem dX7_records_68 : decode cX7_records 68 = .ok (.if_icmp .ge 30, 3) := by decide +kernel
theorem dX7_records_71 : decode cX7_records 71 = .ok (.aload_n 0, 1) := by decide +kernel
theorem dX7_records_72 : decode cX7_records 72 = .ok (.getfield 7, 3) := by decide +kernel
theorem dX7_records_75 : decode cX7_records 75 = .ok (.sipush 780, 3) := by decide +kernel
theorem dX7_records_78 : decode cX7_records 78 = .ok (.aload_n 0, 1) := by decide +kernel
theorem dX7_records_79 : decode cX7_records 79 = .ok (.getfield 108, 3) := by decide +kernel
theorem dX7_records_82 : decode cX7_records 82 = .ok (.imul, 1) := by decide +kernel
theorem dX7_records_83 : decode cX7_records 83 = .ok (.iload_n 1, 1) := by decide +kernel
theorem dX7_records_84 : decode cX7_records 84 = .ok (.iadd, 1) := by decide +kernel
theorem dX7_records_85 : decode cX7_records 85 = .ok (.aload_n 0, 1) := by decide +kernel
theorem dX7_records_86 : decode cX7_records 86 = .ok (.getfield 7, 3) := by decide +kernel
theorem dX7_records_89 : decode cX7_records 89 = .ok (.iload_n 1, 1) := by decide +kernel
theorem dX7_records_90 : decode cX7_records 90 = .ok (.iaload, 1) := by decide +kernel
theorem dX7_records_91 : decode cX7_records 91 = .ok (.iastore, 1) := by decide +kernel
theorem dX7_records_92 : decode cX7_records 92 = .ok (.iinc 1 1, 3) := by decide +kernel
theorem dX7_records_95 : decode cX7_records 95 = .ok (.goto (-31), 3) := by decide +kernel
theorem dX7_records_98 : decode cX7_records 98 = .ok (.return_, 1) := by decide +kernel
theorem dX7_sort_0 : decode cX7_sort 0 = .ok (.aload_n 0, 1) := by decide +kernel
theorem dX7_sort_1 : decode cX7_sort 1 = .ok (.getfield 7, 3) := by decide +kernel
theorem dX7_sort_4 : decode cX7_sort 4 = .ok (.iload_n 1, 1) := by decide +kernel
theorem dX7_sort_5 : decode cX7_sort 5 = .ok (.iconst 1, 1) := by decide +kernel
theorem dX7_sort_6 : decode cX7_sort 6 = .ok (.iadd, 1) := by decide +kernel
theorem dX7_sort_7 : decode cX7_sort 7 = .ok (.iconst 3, 1) := by decide +kernel
theorem dX7_sort_8 : decode cX7_sort 8 = .ok (.iload_n 2, 1) := by decide +kernel
theorem dX7_sort_9 : decode cX7_sort 9 = .ok (.imul, 1) := by decide +kernel
theorem dX7_sort_10 : decode cX7_sort 10 = .ok (.iadd, 1) := by decide +kernel
theorem dX7_sort_11 : decode cX7_sort 11 = .ok (.iaload, 1) := by decide +kernel
theorem dX7_sort_12 : decode cX7_sort 12 = .ok (.ireturn, 1) := by decide +kernel
theorem dX7_number_0 : decode cX7_number 0 = .ok (.aload_n 0, 1) := by decide +kernel
theorem dX7_number_1 : decode cX7_number 1 = .ok (.getfield 7, 3) := by decide +kernel
theorem dX7_number_4 : decode cX7_number 4 = .ok (.iload_n 1, 1) := by decide +kernel
theorem dX7_number_5 : decode cX7_number 5 = .ok (.iconst 2, 1) := by decide +kernel
theorem dX7_number_6 : decode cX7_number 6 = .ok (.iadd, 1) := by decide +kernel
theorem dX7_number_7 : decode cX7_number 7 = .ok (.iconst 3, 1) := by decide +kernel
theorem dX7_number_8 : decode cX7_number 8 = .ok (.iload_n 2, 1) := by decide +kernel
theorem dX7_number_9 : decode cX7_number 9 = .ok (.imul, 1) := by decide +kernel
theorem dX7_number_10 : decode cX7_number 10 = .ok (.iadd, 1) := by decide +kernel
theorem dX7_number_11 : decode cX7_number 11 = .ok (.iaload, 1) := by decide +kernel
theorem dX7_number_12 : decode cX7_number 12 = .ok (.ireturn, 1) := by decide +kernel
theorem dX7_arguments_0 : decode cX7_arguments 0 = .ok (.aload_n 0, 1) := by decide +kernel
theorem dX7_arguments_1 : decode cX7_arguments 1 = .ok (.getfield 7, 3) := by decide +kernel
theorem dX7_arguments_4 : decode cX7_arguments 4 = .ok (.iload_n 1, 1) := by decide +kernel
theorem dX7_arguments_5 : decode cX7_arguments 5 = .ok (.iconst 3, 1) := by decide +kernel
theorem dX7_arguments_6 : decode cX7_arguments 6 = .ok (.iadd, 1) := by decide +kernel
theorem dX7_arguments_7 : decode cX7_arguments 7 = .ok (.iconst 3, 1) := by decide +kernel
theorem dX7_arguments_8 : decode cX7_arguments 8 = .ok (.iload_n 2, 1) := by decide +kernel
theorem dX7_arguments_9 : decode cX7_arguments 9 = .ok (.imul, 1) := by decide +kernel
theorem dX7_arguments_10 : decode cX7_arguments 10 = .ok (.iadd, 1) := by decide +kernel
theorem dX7_arguments_11 : decode cX7_arguments 11 = .ok (.iaload, 1) := by decide +kernel
theorem dX7_arguments_12 : decode cX7_arguments 12 = .ok (.ireturn, 1) := by decide +kernel
theorem dX7_writes_0 : decode cX7_writes 0 = .ok (.aload_n 0, 1) := by decide +kernel
theorem dX7_writes_1 : decode cX7_writes 1 = .ok (.getfield 7, 3) := by decide +kernel
theorem dX7_writes_4 : decode cX7_writes 4 = .ok (.iload_n 1, 1) := by decide +kernel
theorem dX7_writes_5 : decode cX7_writes 5 = .ok (.iconst 1, 1) := by decide +kernel
theorem dX7_writes_6 : decode cX7_writes 6 = .ok (.iadd, 1) := by decide +kernel
theorem dX7_writes_7 : decode cX7_writes 7 = .ok (.iconst 3, 1) := by decide +kernel
theorem dX7_writes_8 : decode cX7_writes 8 = .ok (.iload_n 2, 1) := by decide +kernel
theorem dX7_writes_9 : decode cX7_writes 9 = .ok (.imul, 1) := by decide +kernel
theorem dX7_writes_10 : decode cX7_writes 10 = .ok (.iadd, 1) := by decide +kernel
theorem dX7_writes_11 : decode cX7_writes 11 = .ok (.iload_n 3, 1) := by decide +kernel
theorem dX7_writes_12 : decode cX7_writes 12 = .ok (.iastore, 1) := by decide +kernel
theorem dX7_writes_13 : decode cX7_writes 13 = .ok (.aload_n 0, 1) := by decide +kernel
theorem dX7_writes_14 : decode cX7_writes 14 = .ok (.getfield 7, 3) := by decide +kernel
theorem dX7_writes_17 : decode cX7_writes 17 = .ok (.iload_n 1, 1) := by decide +kernel
theorem dX7_writes_18 : decode cX7_writes 18 = .ok (.iconst 2, 1) := by decide +kernel
theorem dX7_writes_19 : decode cX7_writes 19 = .ok (.iadd, 1) := by decide +kernel
theorem dX7_writes_20 : decode cX7_writes 20 = .ok (.iconst 3, 1) := by decide +kernel
theorem dX7_writes_21 : decode cX7_writes 21 = .ok (.iload_n 2, 1) := by decide +kernel
theorem dX7_writes_22 : decode cX7_writes 22 = .ok (.imul, 1) := by decide +kernel
theorem dX7_writes_23 : decode cX7_writes 23 = .ok (.iadd, 1) := by decide +kernel
theorem dX7_writes_24 : decode cX7_writes 24 = .ok (.iload 4, 2) := by decide +kernel
theorem dX7_writes_26 : decode cX7_writes 26 = .ok (.iastore, 1) := by decide +kernel
theorem dX7_writes_27 : decode cX7_writes 27 = .ok (.aload_n 0, 1) := by decide +kernel
theorem dX7_writes_28 : decode cX7_writes 28 = .ok (.getfield 7, 3) := by decide +kernel
theorem dX7_writes_31 : decode cX7_writes 31 = .ok (.iload_n 1, 1) := by decide +kernel
theorem dX7_writes_32 : decode cX7_writes 32 = .ok (.iconst 3, 1) := by decide +kernel
theorem dX7_writes_33 : decode cX7_writes 33 = .ok (.iadd, 1) := by decide +kernel
theorem dX7_writes_34 : decode cX7_writes 34 = .ok (.iconst 3, 1) := by decide +kernel
theorem dX7_writes_35 : decode cX7_writes 35 = .ok (.iload_n 2, 1) := by decide +kernel
theorem dX7_writes_36 : decode cX7_writes 36 = .ok (.imul, 1) := by decide +kernel
theorem dX7_writes_37 : decode cX7_writes 37 = .ok (.iadd, 1) := by decide +kernel
theorem dX7_writes_38 : decode cX7_writes 38 = .ok (.iload 5, 2) := by decide +kernel
theorem dX7_writes_40 : decode cX7_writes 40 = .ok (.iastore, 1) := by decide +kernel
theorem dX7_writes_41 : decode cX7_writes 41 = .ok (.return_, 1) := by decide +kernel
theorem dX7_copies_0 : decode cX7_copies 0 = .ok (.iconst 0, 1) := by decide +kernel
theorem dX7_copies_1 : decode cX7_copies 1 = .ok (.istore_n 3, 1) := by decide +kernel
theorem dX7_copies_2 : decode cX7_copies 2 = .ok (.iload_n 3, 1) := by decide +kernel
theorem dX7_copies_3 : decode cX7_copies 3 = .ok (.bipush 97, 2) := by decide +kernel
theorem dX7_copies_5 : decode cX7_copies 5 = .ok (.if_icmp .ge 25, 3) := by decide +kernel
theorem dX7_copies_8 : decode cX7_copies 8 = .ok (.aload_n 0, 1) := by decide +kernel
theorem dX7_copies_9 : decode cX7_copies 9 = .ok (.getfield 7, 3) := by decide +kernel
theorem dX7_copies_12 : decode cX7_copies 12 = .ok (.iload_n 2, 1) := by decide +kernel
theorem dX7_copies_13 : decode cX7_copies 13 = .ok (.iload_n 3, 1) := by decide +kernel
theorem dX7_copies_14 : decode cX7_copies 14 = .ok (.iadd, 1) := by decide +kernel
theorem dX7_copies_15 : decode cX7_copies 15 = .ok (.aload_n 0, 1) := by decide +kernel
theorem dX7_copies_16 : decode cX7_copies 16 = .ok (.getfield 7, 3) := by decide +kernel
theorem dX7_copies_19 : decode cX7_copies 19 = .ok (.iload_n 1, 1) := by decide +kernel
theorem dX7_copies_20 : decode cX7_copies 20 = .ok (.iload_n 3, 1) := by decide +kernel
theorem dX7_copies_21 : decode cX7_copies 21 = .ok (.iadd, 1) := by decide +kernel
theorem dX7_copies_22 : decode cX7_copies 22 = .ok (.iaload, 1) := by decide +kernel
theorem dX7_copies_23 : decode cX7_copies 23 = .ok (.iastore, 1) := by decide +kernel
theorem dX7_copies_24 : decode cX7_copies 24 = .ok (.iinc 3 1, 3) := by decide +kernel
theorem dX7_copies_27 : decode cX7_copies 27 = .ok (.goto (-25), 3) := by decide +kernel
theorem dX7_copies_30 : decode cX7_copies 30 = .ok (.return_, 1) := by decide +kernel
theorem dX7_counts_0 : decode cX7_counts 0 = .ok (.aload_n 0, 1) := by decide +kernel
theorem dX7_counts_1 : decode cX7_counts 1 = .ok (.getfield 7, 3) := by decide +kernel
theorem dX7_counts_4 : decode cX7_counts 4 = .ok (.iload_n 1, 1) := by decide +kernel
theorem dX7_counts_5 : decode cX7_counts 5 = .ok (.iaload, 1) := by decide +kernel
theorem dX7_counts_6 : decode cX7_counts 6 = .ok (.iconst 1, 1) := by decide +kernel
theorem dX7_counts_7 : decode cX7_counts 7 = .ok (.isub, 1) := by decide +kernel
theorem dX7_counts_8 : decode cX7_counts 8 = .ok (.istore_n 3, 1) := by decide +kernel
theorem dX7_counts_9 : decode cX7_counts 9 = .ok (.iload_n 3, 1) := by decide +kernel
theorem dX7_counts_10 : decode cX7_counts 10 = .ok (.ifCond .lt 50, 3) := by decide +kernel
theorem dX7_counts_13 : decode cX7_counts 13 = .ok (.iload_n 3, 1) := by decide +kernel
theorem dX7_counts_14 : decode cX7_counts 14 = .ok (.iconst 1, 1) := by decide +kernel
theorem dX7_counts_15 : decode cX7_counts 15 = .ok (.iadd, 1) := by decide +kernel
theorem dX7_counts_16 : decode cX7_counts 16 = .ok (.istore 4, 2) := by decide +kernel
theorem dX7_counts_18 : decode cX7_counts 18 = .ok (.iconst 0, 1) := by decide +kernel
theorem dX7_counts_19 : decode cX7_counts 19 = .ok (.istore 5, 2) := by decide +kernel
theorem dX7_counts_21 : decode cX7_counts 21 = .ok (.iload 5, 2) := by decide +kernel
theorem dX7_counts_23 : decode cX7_counts 23 = .ok (.aload_n 0, 1) := by decide +kernel
theorem dX7_counts_24 : decode cX7_counts 24 = .ok (.iload_n 1, 1) := by decide +kernel
theorem dX7_counts_25 : decode cX7_counts 25 = .ok (.iload_n 3, 1) := by decide +kernel
theorem dX7_counts_26 : decode cX7_counts 26 = .ok (.invokevirtual 111, 3) := by decide +kernel
theorem dX7_counts_29 : decode cX7_counts 29 = .ok (.if_icmp .ge 18, 3) := by decide +kernel
theorem dX7_counts_32 : decode cX7_counts 32 = .ok (.iload 4, 2) := by decide +kernel
theorem dX7_counts_34 : decode cX7_counts 34 = .ok (.aload_n 2, 1) := by decide +kernel
theorem dX7_counts_35 : decode cX7_counts 35 = .ok (.iload 4, 2) := by decide +kernel
theorem dX7_counts_37 : decode cX7_counts 37 = .ok (.iaload, 1) := by decide +kernel
theorem dX7_counts_38 : decode cX7_counts 38 = .ok (.iadd, 1) := by decide +kernel
theorem dX7_counts_39 : decode cX7_counts 39 = .ok (.istore 4, 2) := by decide +kernel
theorem dX7_counts_41 : decode cX7_counts 41 = .ok (.iinc 5 1, 3) := by decide +kernel
theorem dX7_counts_44 : decode cX7_counts 44 = .ok (.goto (-23), 3) := by decide +kernel
theorem dX7_counts_47 : decode cX7_counts 47 = .ok (.aload_n 2, 1) := by decide +kernel
theorem dX7_counts_48 : decode cX7_counts 48 = .ok (.iload_n 3, 1) := by decide +kernel
theorem dX7_counts_49 : decode cX7_counts 49 = .ok (.iload 4, 2) := by decide +kernel
theorem dX7_counts_51 : decode cX7_counts 51 = .ok (.iload_n 3, 1) := by decide +kernel
theorem dX7_counts_52 : decode cX7_counts 52 = .ok (.isub, 1) := by decide +kernel
theorem dX7_counts_53 : decode cX7_counts 53 = .ok (.iastore, 1) := by decide +kernel
theorem dX7_counts_54 : decode cX7_counts 54 = .ok (.iinc 3 (-1), 3) := by decide +kernel
theorem dX7_counts_57 : decode cX7_counts 57 = .ok (.goto (-48), 3) := by decide +kernel
theorem dX7_counts_60 : decode cX7_counts 60 = .ok (.return_, 1) := by decide +kernel
theorem dX7_levels_0 : decode cX7_levels 0 = .ok (.aload_n 0, 1) := by decide +kernel
theorem dX7_levels_1 : decode cX7_levels 1 = .ok (.iload_n 1, 1) := by decide +kernel
theorem dX7_levels_2 : decode cX7_levels 2 = .ok (.aload_n 0, 1) := by decide +kernel
theorem dX7_levels_3 : decode cX7_levels 3 = .ok (.getfield 20, 3) := by decide +kernel
theorem dX7_levels_6 : decode cX7_levels 6 = .ok (.invokevirtual 115, 3) := by decide +kernel
theorem dX7_levels_9 : decode cX7_levels 9 = .ok (.aload_n 0, 1) := by decide +kernel
theorem dX7_levels_10 : decode cX7_levels 10 = .ok (.getfield 26, 3) := by decide +kernel
theorem dX7_levels_13 : decode cX7_levels 13 = .ok (.iconst 0, 1) := by decide +kernel
theorem dX7_levels_14 : decode cX7_levels 14 = .ok (.iconst 0, 1) := by decide +kernel
theorem dX7_levels_15 : decode cX7_levels 15 = .ok (.iastore, 1) := by decide +kernel
theorem dX7_levels_16 : decode cX7_levels 16 = .ok (.aload_n 0, 1) := by decide +kernel
theorem dX7_levels_17 : decode cX7_levels 17 = .ok (.getfield 29, 3) := by decide +kernel
theorem dX7_levels_20 : decode cX7_levels 20 = .ok (.iconst 0, 1) := by decide +kernel
theorem dX7_levels_21 : decode cX7_levels 21 = .ok (.bipush (-9), 2) := by decide +kernel
theorem dX7_levels_23 : decode cX7_levels 23 = .ok (.iastore, 1) := by decide +kernel
theorem dX7_levels_24 : decode cX7_levels 24 = .ok (.iconst 0, 1) := by decide +kernel
theorem dX7_levels_25 : decode cX7_levels 25 = .ok (.istore_n 2, 1) := by decide +kernel
theorem dX7_levels_26 : decode cX7_levels 26 = .ok (.iload_n 2, 1) := by decide +kernel
theorem dX7_levels_27 : decode cX7_levels 27 = .ok (.aload_n 0, 1) := by decide +kernel
theorem dX7_levels_28 : decode cX7_levels 28 = .ok (.getfield 7, 3) := by decide +kernel
theorem dX7_levels_31 : decode cX7_levels 31 = .ok (.iload_n 1, 1) := by decide +kernel
theorem dX7_levels_32 : decode cX7_levels 32 = .ok (.iaload, 1) := by decide +kernel
theorem dX7_levels_33 : decode cX7_levels 33 = .ok (.if_icmp .ge 63, 3) := by decide +kernel
theorem dX7_levels_36 : decode cX7_levels 36 = .ok (.iload_n 2, 1) := by decide +kernel
theorem dX7_levels_37 : decode cX7_levels 37 = .ok (.iconst 1, 1) := by decide +kernel
theorem dX7_levels_38 : decode cX7_levels 38 = .ok (.iadd, 1) := by decide +kernel
theorem dX7_levels_39 : decode cX7_levels 39 = .ok (.istore_n 3, 1) := by decide +kernel
theorem dX7_levels_40 : decode cX7_levels 40 = .ok (.iconst 0, 1) := by decide +kernel
theorem dX7_levels_41 : decode cX7_levels 41 = .ok (.istore 4, 2) := by decide +kernel
theorem dX7_levels_43 : decode cX7_levels 43 = .ok (.iload 4, 2) := by decide +kernel
theorem dX7_levels_45 : decode cX7_levels 45 = .ok (.aload_n 0, 1) := by decide +kernel
theorem dX7_levels_46 : decode cX7_levels 46 = .ok (.iload_n 1, 1) := by decide +kernel
theorem dX7_levels_47 : decode cX7_levels 47 = .ok (.iload_n 2, 1) := by decide +kernel
theorem dX7_levels_48 : decode cX7_levels 48 = .ok (.invokevirtual 111, 3) := by decide +kernel
theorem dX7_levels_51 : decode cX7_levels 51 = .ok (.if_icmp .ge 39, 3) := by decide +kernel
theorem dX7_levels_54 : decode cX7_levels 54 = .ok (.aload_n 0, 1) := by decide +kernel
theorem dX7_levels_55 : decode cX7_levels 55 = .ok (.getfield 26, 3) := by decide +kernel
theorem dX7_levels_58 : decode cX7_levels 58 = .ok (.iload_n 3, 1) := by decide +kernel
theorem dX7_levels_59 : decode cX7_levels 59 = .ok (.aload_n 0, 1) := by decide +kernel
theorem dX7_levels_60 : decode cX7_levels 60 = .ok (.getfield 26, 3) := by decide +kernel
theorem dX7_levels_63 : decode cX7_levels 63 = .ok (.iload_n 2, 1) := by decide +kernel
theorem dX7_levels_64 : decode cX7_levels 64 = .ok (.iaload, 1) := by decide +kernel
theorem dX7_levels_65 : decode cX7_levels 65 = .ok (.iconst 1, 1) := by decide +kernel
theorem dX7_levels_66 : decode cX7_levels 66 = .ok (.iadd, 1) := by decide +kernel
theorem dX7_levels_67 : decode cX7_levels 67 = .ok (.iastore, 1) := by decide +kernel
theorem dX7_levels_68 : decode cX7_levels 68 = .ok (.aload_n 0, 1) := by decide +kernel
theorem dX7_levels_69 : decode cX7_levels 69 = .ok (.getfield 29, 3) := by decide +kernel
theorem dX7_levels_72 : decode cX7_levels 72 = .ok (.iload_n 3, 1) := by decide +kernel
theorem dX7_levels_73 : decode cX7_levels 73 = .ok (.iload_n 2, 1) := by decide +kernel
theorem dX7_levels_74 : decode cX7_levels 74 = .ok (.iastore, 1) := by decide +kernel
theorem dX7_levels_75 : decode cX7_levels 75 = .ok (.iload_n 3, 1) := by decide +kernel
theorem dX7_levels_76 : decode cX7_levels 76 = .ok (.aload_n 0, 1) := by decide +kernel
theorem dX7_levels_77 : decode cX7_levels 77 = .ok (.getfield 20, 3) := by decide +kernel
theorem dX7_levels_80 : decode cX7_levels 80 = .ok (.iload_n 3, 1) := by decide +kernel
theorem dX7_levels_81 : decode cX7_levels 81 = .ok (.iaload, 1) := by decide +kernel
theorem dX7_levels_82 : decode cX7_levels 82 = .ok (.iadd, 1) := by decide +kernel
theorem dX7_levels_83 : decode cX7_levels 83 = .ok (.istore_n 3, 1) := by decide +kernel
theorem dX7_levels_84 : decode cX7_levels 84 = .ok (.iinc 4 1, 3) := by decide +kernel
theorem dX7_levels_87 : decode cX7_levels 87 = .ok (.goto (-44), 3) := by decide +kernel
theorem dX7_levels_90 : decode cX7_levels 90 = .ok (.iinc 2 1, 3) := by decide +kernel
theorem dX7_levels_93 : decode cX7_levels 93 = .ok (.goto (-67), 3) := by decide +kernel
theorem dX7_levels_96 : decode cX7_levels 96 = .ok (.return_, 1) := by decide +kernel
theorem dX7_child_0 : decode cX7_child 0 = .ok (.iload_n 1, 1) := by decide +kernel
theorem dX7_child_1 : decode cX7_child 1 = .ok (.iconst 1, 1) := by decide +kernel
theorem dX7_child_2 : decode cX7_child 2 = .ok (.iadd, 1) := by decide +kernel
theorem dX7_child_3 : decode cX7_child 3 = .ok (.istore 4, 2) := by decide +kernel
theorem dX7_child_5 : decode cX7_child 5 = .ok (.iconst 0, 1) := by decide +kernel
theorem dX7_child_6 : decode cX7_child 6 = .ok (.istore 5, 2) := by decide +kernel
theorem dX7_child_8 : decode cX7_child 8 = .ok (.iload 5, 2) := by decide +kernel
theorem dX7_child_10 : decode cX7_child 10 = .ok (.iload_n 2, 1) := by decide +kernel
theorem dX7_child_11 : decode cX7_child 11 = .ok (.if_icmp .ge 18, 3) := by decide +kernel
theorem dX7_child_14 : decode cX7_child 14 = .ok (.iload 4, 2) := by decide +kernel
theorem dX7_child_16 : decode cX7_child 16 = .ok (.aload_n 3, 1) := by decide +kernel
theorem dX7_child_17 : decode cX7_child 17 = .ok (.iload 4, 2) := by decide +kernel
theorem dX7_child_19 : decode cX7_child 19 = .ok (.iaload, 1) := by decide +kernel
theorem dX7_child_20 : decode cX7_child 20 = .ok (.iadd, 1) := by decide +kernel
theorem dX7_child_21 : decode cX7_child 21 = .ok (.istore 4, 2) := by decide +kernel
theorem dX7_child_23 : decode cX7_child 23 = .ok (.iinc 5 1, 3) := by decide +kernel
theorem dX7_child_26 : decode cX7_child 26 = .ok (.goto (-18), 3) := by decide +kernel
theorem dX7_child_29 : decode cX7_child 29 = .ok (.iload 4, 2) := by decide +kernel
theorem dX7_child_31 : decode cX7_child 31 = .ok (.ireturn, 1) := by decide +kernel
theorem dX7_sequenceOf_0 : decode cX7_sequenceOf 0 = .ok (.iload_n 2, 1) := by decide +kernel
theorem dX7_sequenceOf_1 : decode cX7_sequenceOf 1 = .ok (.iconst 1, 1) := by decide +kernel
theorem dX7_sequenceOf_2 : decode cX7_sequenceOf 2 = .ok (.iadd, 1) := by decide +kernel
theorem dX7_sequenceOf_3 : decode cX7_sequenceOf 3 = .ok (.istore 4, 2) := by decide +kernel
theorem dX7_sequenceOf_5 : decode cX7_sequenceOf 5 = .ok (.iconst 0, 1) := by decide +kernel
theorem dX7_sequenceOf_6 : decode cX7_sequenceOf 6 = .ok (.istore 5, 2) := by decide +kernel
theorem dX7_sequenceOf_8 : decode cX7_sequenceOf 8 = .ok (.iload 5, 2) := by decide +kernel
theorem dX7_sequenceOf_10 : decode cX7_sequenceOf 10 = .ok (.aload_n 0, 1) := by decide +kernel
theorem dX7_sequenceOf_11 : decode cX7_sequenceOf 11 = .ok (.iload_n 1, 1) := by decide +kernel
theorem dX7_sequenceOf_12 : decode cX7_sequenceOf 12 = .ok (.iload_n 2, 1) := by decide +kernel
theorem dX7_sequenceOf_13 : decode cX7_sequenceOf 13 = .ok (.invokevirtual 111, 3) := by decide +kernel
theorem dX7_sequenceOf_16 : decode cX7_sequenceOf 16 = .ok (.if_icmp .ge 32, 3) := by decide +kernel
theorem dX7_sequenceOf_19 : decode cX7_sequenceOf 19 = .ok (.aload_n 0, 1) := by decide +kernel
theorem dX7_sequenceOf_20 : decode cX7_sequenceOf 20 = .ok (.iload_n 1, 1) := by decide +kernel
theorem dX7_sequenceOf_21 : decode cX7_sequenceOf 21 = .ok (.iload 4, 2) := by decide +kernel
theorem dX7_sequenceOf_23 : decode cX7_sequenceOf 23 = .ok (.invokevirtual 119, 3) := by decide +kernel
theorem dX7_sequenceOf_26 : decode cX7_sequenceOf 26 = .ok (.iconst 3, 1) := by decide +kernel
theorem dX7_sequenceOf_27 : decode cX7_sequenceOf 27 = .ok (.if_icmp .ne 6, 3) := by decide +kernel
theorem dX7_sequenceOf_30 : decode cX7_sequenceOf 30 = .ok (.iload 5, 2) := by decide +kernel
theorem dX7_sequenceOf_32 : decode cX7_sequenceOf 32 = .ok (.ireturn, 1) := by decide +kernel
theorem dX7_sequenceOf_33 : decode cX7_sequenceOf 33 = .ok (.iload 4, 2) := by decide +kernel
theorem dX7_sequenceOf_35 : decode cX7_sequenceOf 35 = .ok (.aload_n 3, 1) := by decide +kernel
theorem dX7_sequenceOf_36 : decode cX7_sequenceOf 36 = .ok (.iload 4, 2) := by decide +kernel
theorem dX7_sequenceOf_38 : decode cX7_sequenceOf 38 = .ok (.iaload, 1) := by decide +kernel
theorem dX7_sequenceOf_39 : decode cX7_sequenceOf 39 = .ok (.iadd, 1) := by decide +kernel
theorem dX7_sequenceOf_40 : decode cX7_sequenceOf 40 = .ok (.istore 4, 2) := by decide +kernel
theorem dX7_sequenceOf_42 : decode cX7_sequenceOf 42 = .ok (.iinc 5 1, 3) := by decide +kernel
theorem dX7_sequenceOf_45 : decode cX7_sequenceOf 45 = .ok (.goto (-37), 3) := by decide +kernel
theorem dX7_sequenceOf_48 : decode cX7_sequenceOf 48 = .ok (.bipush (-9), 2) := by decide +kernel
theorem dX7_sequenceOf_50 : decode cX7_sequenceOf 50 = .ok (.ireturn, 1) := by decide +kernel
theorem dX7_isSame_0 : decode cX7_isSame 0 = .ok (.iconst 1, 1) := by decide +kernel
theorem dX7_isSame_1 : decode cX7_isSame 1 = .ok (.istore 6, 2) := by decide +kernel
theorem dX7_isSame_3 : decode cX7_isSame 3 = .ok (.iconst 0, 1) := by decide +kernel
theorem dX7_isSame_4 : decode cX7_isSame 4 = .ok (.istore 7, 2) := by decide +kernel
theorem dX7_isSame_6 : decode cX7_isSame 6 = .ok (.iload 7, 2) := by decide +kernel
theorem dX7_isSame_8 : decode cX7_isSame 8 = .ok (.iconst 3, 1) := by decide +kernel
theorem dX7_isSame_9 : decode cX7_isSame 9 = .ok (.iload 5, 2) := by decide +kernel
theorem dX7_isSame_11 : decode cX7_isSame 11 = .ok (.imul, 1) := by decide +kernel
theorem dX7_isSame_12 : decode cX7_isSame 12 = .ok (.if_icmp .ge 55, 3) := by decide +kernel
theorem dX7_isSame_15 : decode cX7_isSame 15 = .ok (.iload 6, 2) := by decide +kernel
theorem dX7_isSame_17 : decode cX7_isSame 17 = .ok (.ifCond .eq 50, 3) := by decide +kernel
theorem dX7_isSame_20 : decode cX7_isSame 20 = .ok (.aload_n 0, 1) := by decide +kernel
theorem dX7_isSame_21 : decode cX7_isSame 21 = .ok (.getfield 7, 3) := by decide +kernel
theorem dX7_isSame_24 : decode cX7_isSame 24 = .ok (.iload_n 1, 1) := by decide +kernel
theorem dX7_isSame_25 : decode cX7_isSame 25 = .ok (.iconst 1, 1) := by decide +kernel
theorem dX7_isSame_26 : decode cX7_isSame 26 = .ok (.iadd, 1) := by decide +kernel
theorem dX7_isSame_27 : decode cX7_isSame 27 = .ok (.iconst 3, 1) := by decide +kernel
theorem dX7_isSame_28 : decode cX7_isSame 28 = .ok (.iload_n 2, 1) := by decide +kernel
theorem dX7_isSame_29 : decode cX7_isSame 29 = .ok (.imul, 1) := by decide +kernel
theorem dX7_isSame_30 : decode cX7_isSame 30 = .ok (.iadd, 1) := by decide +kernel
theorem dX7_isSame_31 : decode cX7_isSame 31 = .ok (.iload 7, 2) := by decide +kernel
theorem dX7_isSame_33 : decode cX7_isSame 33 = .ok (.iadd, 1) := by decide +kernel
theorem dX7_isSame_34 : decode cX7_isSame 34 = .ok (.iaload, 1) := by decide +kernel
theorem dX7_isSame_35 : decode cX7_isSame 35 = .ok (.aload_n 0, 1) := by decide +kernel
theorem dX7_isSame_36 : decode cX7_isSame 36 = .ok (.getfield 7, 3) := by decide +kernel
theorem dX7_isSame_39 : decode cX7_isSame 39 = .ok (.iload_n 3, 1) := by decide +kernel
theorem dX7_isSame_40 : decode cX7_isSame 40 = .ok (.iconst 1, 1) := by decide +kernel
theorem dX7_isSame_41 : decode cX7_isSame 41 = .ok (.iadd, 1) := by decide +kernel
theorem dX7_isSame_42 : decode cX7_isSame 42 = .ok (.iconst 3, 1) := by decide +kernel
theorem dX7_isSame_43 : decode cX7_isSame 43 = .ok (.iload 4, 2) := by decide +kernel
theorem dX7_isSame_45 : decode cX7_isSame 45 = .ok (.imul, 1) := by decide +kernel
theorem dX7_isSame_46 : decode cX7_isSame 46 = .ok (.iadd, 1) := by decide +kernel
theorem dX7_isSame_47 : decode cX7_isSame 47 = .ok (.iload 7, 2) := by decide +kernel
theorem dX7_isSame_49 : decode cX7_isSame 49 = .ok (.iadd, 1) := by decide +kernel
theorem dX7_isSame_50 : decode cX7_isSame 50 = .ok (.iaload, 1) := by decide +kernel
theorem dX7_isSame_51 : decode cX7_isSame 51 = .ok (.if_icmp .ne 7, 3) := by decide +kernel
theorem dX7_isSame_54 : decode cX7_isSame 54 = .ok (.iconst 1, 1) := by decide +kernel
theorem dX7_isSame_55 : decode cX7_isSame 55 = .ok (.goto 4, 3) := by decide +kernel
theorem dX7_isSame_58 : decode cX7_isSame 58 = .ok (.iconst 0, 1) := by decide +kernel
theorem dX7_isSame_59 : decode cX7_isSame 59 = .ok (.istore 6, 2) := by decide +kernel
theorem dX7_isSame_61 : decode cX7_isSame 61 = .ok (.iinc 7 1, 3) := by decide +kernel
theorem dX7_isSame_64 : decode cX7_isSame 64 = .ok (.goto (-58), 3) := by decide +kernel
theorem dX7_isSame_67 : decode cX7_isSame 67 = .ok (.iload 6, 2) := by decide +kernel
theorem dX7_isSame_69 : decode cX7_isSame 69 = .ok (.ireturn, 1) := by decide +kernel
theorem dX7_type_0 : decode cX7_type 0 = .ok (.iload_n 1, 1) := by decide +kernel
theorem dX7_type_1 : decode cX7_type 1 = .ok (.bipush 33, 2) := by decide +kernel
theorem dX7_type_3 : decode cX7_type 3 = .ok (.bipush 126, 2) := by decide +kernel
theorem dX7_type_5 : decode cX7_type 5 = .ok (.invokestatic 122, 3) := by decide +kernel
theorem dX7_type_8 : decode cX7_type 8 = .ok (.ifCond .ne 5, 3) := by decide +kernel
theorem dX7_type_11 : decode cX7_type 11 = .ok (.iconst (-1), 1) := by decide +kernel
theorem dX7_type_12 : decode cX7_type 12 = .ok (.ireturn, 1) := by decide +kernel
theorem dX7_type_13 : decode cX7_type 13 = .ok (.aload_n 0, 1) := by decide +kernel
theorem dX7_type_14 : decode cX7_type 14 = .ok (.getfield 126, 3) := by decide +kernel
theorem dX7_type_17 : decode cX7_type 17 = .ok (.bipush 80, 2) := by decide +kernel
theorem dX7_type_19 : decode cX7_type 19 = .ok (.if_icmp .ne 6, 3) := by decide +kernel
theorem dX7_type_22 : decode cX7_type 22 = .ok (.bipush (-3), 2) := by decide +kernel
theorem dX7_type_24 : decode cX7_type 24 = .ok (.ireturn, 1) := by decide +kernel
theorem dX7_type_25 : decode cX7_type 25 = .ok (.aload_n 0, 1) := by decide +kernel
theorem dX7_type_26 : decode cX7_type 26 = .ok (.getfield 13, 3) := by decide +kernel
theorem dX7_type_29 : decode cX7_type 29 = .ok (.aload_n 0, 1) := by decide +kernel
theorem dX7_type_30 : decode cX7_type 30 = .ok (.getfield 126, 3) := by decide +kernel
theorem dX7_type_33 : decode cX7_type 33 = .ok (.iload_n 1, 1) := by decide +kernel
theorem dX7_type_34 : decode cX7_type 34 = .ok (.iastore, 1) := by decide +kernel
theorem dX7_type_35 : decode cX7_type 35 = .ok (.aload_n 0, 1) := by decide +kernel
theorem dX7_type_36 : decode cX7_type 36 = .ok (.dup, 1) := by decide +kernel
theorem dX7_type_37 : decode cX7_type 37 = .ok (.getfield 126, 3) := by decide +kernel
theorem dX7_type_40 : decode cX7_type 40 = .ok (.iconst 1, 1) := by decide +kernel
theorem dX7_type_41 : decode cX7_type 41 = .ok (.iadd, 1) := by decide +kernel
theorem dX7_type_42 : decode cX7_type 42 = .ok (.putfield 126, 3) := by decide +kernel
theorem dX7_type_45 : decode cX7_type 45 = .ok (.aload_n 0, 1) := by decide +kernel
theorem dX7_type_46 : decode cX7_type 46 = .ok (.getfield 126, 3) := by decide +kernel
theorem dX7_type_49 : decode cX7_type 49 = .ok (.ireturn, 1) := by decide +kernel
theorem dX7_clear_0 : decode cX7_clear 0 = .ok (.aload_n 0, 1) := by decide +kernel
theorem dX7_clear_1 : decode cX7_clear 1 = .ok (.getfield 126, 3) := by decide +kernel
theorem dX7_clear_4 : decode cX7_clear 4 = .ok (.istore_n 1, 1) := by decide +kernel
theorem dX7_clear_5 : decode cX7_clear 5 = .ok (.aload_n 0, 1) := by decide +kernel
theorem dX7_clear_6 : decode cX7_clear 6 = .ok (.iconst 0, 1) := by decide +kernel
theorem dX7_clear_7 : decode cX7_clear 7 = .ok (.putfield 126, 3) := by decide +kernel
theorem dX7_clear_10 : decode cX7_clear 10 = .ok (.iload_n 1, 1) := by decide +kernel
theorem dX7_clear_11 : decode cX7_clear 11 = .ok (.ireturn, 1) := by decide +kernel
theorem dX7_byteAt_0 : decode cX7_byteAt 0 = .ok (.iload_n 1, 1) := by decide +kernel
theorem dX7_byteAt_1 : decode cX7_byteAt 1 = .ok (.aload_n 0, 1) := by decide +kernel
theorem dX7_byteAt_2 : decode cX7_byteAt 2 = .ok (.getfield 126, 3) := by decide +kernel
theorem dX7_byteAt_5 : decode cX7_byteAt 5 = .ok (.if_icmp .ge 12, 3) := by decide +kernel
theorem dX7_byteAt_8 : decode cX7_byteAt 8 = .ok (.aload_n 0, 1) := by decide +kernel
theorem dX7_byteAt_9 : decode cX7_byteAt 9 = .ok (.getfield 13, 3) := by decide +kernel
theorem dX7_byteAt_12 : decode cX7_byteAt 12 = .ok (.iload_n 1, 1) := by decide +kernel
theorem dX7_byteAt_13 : decode cX7_byteAt 13 = .ok (.iaload, 1) := by decide +kernel
theorem dX7_byteAt_14 : decode cX7_byteAt 14 = .ok (.goto 5, 3) := by decide +kernel
theorem dX7_byteAt_17 : decode cX7_byteAt 17 = .ok (.bipush (-9), 2) := by decide +kernel
theorem dX7_byteAt_19 : decode cX7_byteAt 19 = .ok (.ireturn, 1) := by decide +kernel
theorem dX7_faults_0 : decode cX7_faults 0 = .ok (.aload_n 0, 1) := by decide +kernel
theorem dX7_faults_1 : decode cX7_faults 1 = .ok (.iload_n 1, 1) := by decide +kernel
theorem dX7_faults_2 : decode cX7_faults 2 = .ok (.putfield 16, 3) := by decide +kernel
theorem dX7_faults_5 : decode cX7_faults 5 = .ok (.aload_n 0, 1) := by decide +kernel
theorem dX7_faults_6 : decode cX7_faults 6 = .ok (.iload_n 2, 1) := by decide +kernel
theorem dX7_faults_7 : decode cX7_faults 7 = .ok (.putfield 129, 3) := by decide +kernel
theorem dX7_faults_10 : decode cX7_faults 10 = .ok (.iconst 0, 1) := by decide +kernel
theorem dX7_faults_11 : decode cX7_faults 11 = .ok (.ireturn, 1) := by decide +kernel
theorem dX7_begins_0 : decode cX7_begins 0 = .ok (.aload_n 0, 1) := by decide +kernel
theorem dX7_begins_1 : decode cX7_begins 1 = .ok (.aload_n 0, 1) := by decide +kernel
theorem dX7_begins_2 : decode cX7_begins 2 = .ok (.getfield 129, 3) := by decide +kernel
theorem dX7_begins_5 : decode cX7_begins 5 = .ok (.invokevirtual 132, 3) := by decide +kernel
theorem dX7_begins_8 : decode cX7_begins 8 = .ok (.istore_n 1, 1) := by decide +kernel
theorem dX7_begins_9 : decode cX7_begins 9 = .ok (.iload_n 1, 1) := by decide +kernel
theorem dX7_begins_10 : decode cX7_begins 10 = .ok (.bipush 48, 2) := by decide +kernel
theorem dX7_begins_12 : decode cX7_begins 12 = .ok (.bipush 57, 2) := by decide +kernel
theorem dX7_begins_14 : decode cX7_begins 14 = .ok (.invokestatic 122, 3) := by decide +kernel
theorem dX7_begins_17 : decode cX7_begins 17 = .ok (.istore_n 2, 1) := by decide +kernel
theorem dX7_begins_18 : decode cX7_begins 18 = .ok (.iload_n 2, 1) := by decide +kernel
theorem dX7_begins_19 : decode cX7_begins 19 = .ok (.ifCond .ne 24, 3) := by decide +kernel
theorem dX7_begins_22 : decode cX7_begins 22 = .ok (.iload_n 1, 1) := by decide +kernel
theorem dX7_begins_23 : decode cX7_begins 23 = .ok (.bipush 97, 2) := by decide +kernel
theorem dX7_begins_25 : decode cX7_begins 25 = .ok (.bipush 109, 2) := by decide +kernel
theorem dX7_begins_27 : decode cX7_begins 27 = .ok (.invokestatic 122, 3) := by decide +kernel
theorem dX7_begins_30 : decode cX7_begins 30 = .ok (.ifCond .ne 13, 3) := by decide +kernel
theorem dX7_begins_33 : decode cX7_begins 33 = .ok (.aload_n 0, 1) := by decide +kernel
theorem dX7_begins_34 : decode cX7_begins 34 = .ok (.iconst 1, 1) := by decide +kernel
theorem dX7_begins_35 : decode cX7_begins 35 = .ok (.aload_n 0, 1) := by decide +kernel
theorem dX7_begins_36 : decode cX7_begins 36 = .ok (.getfield 129, 3) := by decide +kernel
theorem dX7_begins_39 : decode cX7_begins 39 = .ok (.invokevirtual 136, 3) := by decide +kernel
theorem dX7_begins_42 : decode cX7_begins 42 = .ok (.ireturn, 1) := by decide +kernel
theorem dX7_begins_43 : decode cX7_begins 43 = .ok (.aload_n 0, 1) := by decide +kernel
theorem dX7_begins_44 : decode cX7_begins 44 = .ok (.getfield 140, 3) := by decide +kernel
theorem dX7_begins_47 : decode cX7_begins 47 = .ok (.ifCond .le 34, 3) := by decide +kernel
theorem dX7_begins_50 : decode cX7_begins 50 = .ok (.aload_n 0, 1) := by decide +kernel
theorem dX7_begins_51 : decode cX7_begins 51 = .ok (.sipush 5460, 3) := by decide +kernel
theorem dX7_begins_54 : decode cX7_begins 54 = .ok (.aload_n 0, 1) := by decide +kernel
theorem dX7_begins_55 : decode cX7_begins 55 = .ok (.getfield 35, 3) := by decide +kernel
theorem dX7_begins_58 : decode cX7_begins 58 = .ok (.aload_n 0, 1) := by decide +kernel
theorem dX7_begins_59 : decode cX7_begins 59 = .ok (.getfield 140, 3) := by decide +kernel
theorem dX7_begins_62 : decode cX7_begins 62 = .ok (.iaload, 1) := by decide +kernel
theorem dX7_begins_63 : decode cX7_begins 63 = .ok (.invokevirtual 111, 3) := by decide +kernel
theorem dX7_begins_66 : decode cX7_begins 66 = .ok (.bipush 8, 2) := by decide +kernel
theorem dX7_begins_68 : decode cX7_begins 68 = .ok (.if_icmp .ne 13, 3) := by decide +kernel
theorem dX7_begins_71 : decode cX7_begins 71 = .ok (.aload_n 0, 1) := by decide +kernel
theorem dX7_begins_72 : decode cX7_begins 72 = .ok (.iconst 2, 1) := by decide +kernel
theorem dX7_begins_73 : decode cX7_begins 73 = .ok (.aload_n 0, 1) := by decide +kernel
theorem dX7_begins_74 : decode cX7_begins 74 = .ok (.getfield 129, 3) := by decide +kernel
theorem dX7_begins_77 : decode cX7_begins 77 = .ok (.invokevirtual 136, 3) := by decide +kernel
theorem dX7_begins_80 : decode cX7_begins 80 = .ok (.ireturn, 1) := by decide +kernel
theorem dX7_begins_81 : decode cX7_begins 81 = .ok (.aload_n 0, 1) := by decide +kernel
theorem dX7_begins_82 : decode cX7_begins 82 = .ok (.getfield 7, 3) := by decide +kernel
theorem dX7_begins_85 : decode cX7_begins 85 = .ok (.sipush 5460, 3) := by decide +kernel
theorem dX7_begins_88 : decode cX7_begins 88 = .ok (.iaload, 1) := by decide +kernel
theorem dX7_begins_89 : decode cX7_begins 89 = .ok (.bipush 32, 2) := by decide +kernel
theorem dX7_begins_91 : decode cX7_begins 91 = .ok (.if_icmp .eq 12, 3) := by decide +kernel
theorem dX7_begins_94 : decode cX7_begins 94 = .ok (.aload_n 0, 1) := by decide +kernel
theorem dX7_begins_95 : decode cX7_begins 95 = .ok (.getfield 140, 3) := by decide +kernel
theorem dX7_begins_98 : decode cX7_begins 98 = .ok (.bipush 7, 2) := by decide +kernel
theorem dX7_begins_100 : decode cX7_begins 100 = .ok (.if_icmp .le 13, 3) := by decide +kernel
theorem dX7_begins_103 : decode cX7_begins 103 = .ok (.aload_n 0, 1) := by decide +kernel
theorem dX7_begins_104 : decode cX7_begins 104 = .ok (.iconst 3, 1) := by decide +kernel
theorem dX7_begins_105 : decode cX7_begins 105 = .ok (.aload_n 0, 1) := by decide +kernel
theorem dX7_begins_106 : decode cX7_begins 106 = .ok (.getfield 129, 3) := by decide +kernel
theorem dX7_begins_109 : decode cX7_begins 109 = .ok (.invokevirtual 136, 3) := by decide +kernel
theorem dX7_begins_112 : decode cX7_begins 112 = .ok (.ireturn, 1) := by decide +kernel
theorem dX7_begins_113 : decode cX7_begins 113 = .ok (.aload_n 0, 1) := by decide +kernel
theorem dX7_begins_114 : decode cX7_begins 114 = .ok (.aload_n 0, 1) := by decide +kernel
theorem dX7_begins_115 : decode cX7_begins 115 = .ok (.getfield 129, 3) := by decide +kernel
theorem dX7_begins_118 : decode cX7_begins 118 = .ok (.iconst 1, 1) := by decide +kernel
theorem dX7_begins_119 : decode cX7_begins 119 = .ok (.iadd, 1) := by decide +kernel
theorem dX7_begins_120 : decode cX7_begins 120 = .ok (.invokevirtual 132, 3) := by decide +kernel
theorem dX7_begins_123 : decode cX7_begins 123 = .ok (.istore_n 3, 1) := by decide +kernel
theorem dX7_begins_124 : decode cX7_begins 124 = .ok (.iload_n 2, 1) := by decide +kernel
theorem dX7_begins_125 : decode cX7_begins 125 = .ok (.ifCond .ne 7, 3) := by decide +kernel
theorem dX7_begins_128 : decode cX7_begins 128 = .ok (.iconst 0, 1) := by decide +kernel
theorem dX7_begins_129 : decode cX7_begins 129 = .ok (.goto 31, 3) := by decide +kernel
theorem dX7_begins_132 : decode cX7_begins 132 = .ok (.iload_n 3, 1) := by decide +kernel
theorem dX7_begins_133 : decode cX7_begins 133 = .ok (.bipush 40, 2) := by decide +kernel
theorem dX7_begins_135 : decode cX7_begins 135 = .ok (.if_icmp .ne 7, 3) := by decide +kernel
theorem dX7_begins_138 : decode cX7_begins 138 = .ok (.iconst 2, 1) := by decide +kernel
theorem dX7_begins_139 : decode cX7_begins 139 = .ok (.goto 21, 3) := by decide +kernel
theorem dX7_begins_142 : decode cX7_begins 142 = .ok (.iload_n 3, 1) := by decide +kernel
theorem dX7_begins_143 : decode cX7_begins 143 = .ok (.bipush 42, 2) := by decide +kernel
theorem dX7_begins_145 : decode cX7_begins 145 = .ok (.if_icmp .ne 14, 3) := by decide +kernel
theorem dX7_begins_148 : decode cX7_begins 148 = .ok (.aload_n 0, 1) := by decide +kernel
theorem dX7_begins_149 : decode cX7_begins 149 = .ok (.getfield 140, 3) := by decide +kernel
theorem dX7_begins_152 : decode cX7_begins 152 = .ok (.ifCond .le 7, 3) := by decide +kernel
theorem dX7_begins_155 : decode cX7_begins 155 = .ok (.iconst 3, 1) := by decide +kernel
theorem dX7_begins_156 : decode cX7_begins 156 = .ok (.goto 4, 3) := by decide +kernel
theorem dX7_begins_159 : decode cX7_begins 159 = .ok (.iconst 1, 1) := by decide +kernel
theorem dX7_begins_160 : decode cX7_begins 160 = .ok (.istore 4, 2) := by decide +kernel
theorem dX7_begins_162 : decode cX7_begins 162 = .ok (.iload_n 2, 1) := by decide +kernel
theorem dX7_begins_163 : decode cX7_begins 163 = .ok (.ifCond .eq 29, 3) := by decide +kernel
theorem dX7_begins_166 : decode cX7_begins 166 = .ok (.aload_n 0, 1) := by decide +kernel
theorem dX7_begins_167 : decode cX7_begins 167 = .ok (.getfield 32, 3) := by decide +kernel
theorem dX7_begins_170 : decode cX7_begins 170 = .ok (.iload_n 1, 1) := by decide +kernel
theorem dX7_begins_171 : decode cX7_begins 171 = .ok (.bipush 48, 2) := by decide +kernel
theorem dX7_begins_173 : decode cX7_begins 173 = .ok (.isub, 1) := by decide +kernel
theorem dX7_begins_174 : decode cX7_begins 174 = .ok (.iaload, 1) := by decide +kernel
theorem dX7_begins_175 : decode cX7_begins 175 = .ok (.ifCond .le 17, 3) := by decide +kernel
theorem dX7_begins_178 : decode cX7_begins 178 = .ok (.aload_n 0, 1) := by decide +kernel
theorem dX7_begins_179 : decode cX7_begins 179 = .ok (.getfield 32, 3) := by decide +kernel
theorem dX7_begins_182 : decode cX7_begins 182 = .ok (.iload_n 1, 1) := by decide +kernel
theorem dX7_begins_183 : decode cX7_begins 183 = .ok (.bipush 48, 2) := by decide +kernel
theorem dX7_begins_185 : decode cX7_begins 185 = .ok (.isub, 1) := by decide +kernel
theorem dX7_begins_186 : decode cX7_begins 186 = .ok (.iaload, 1) := by decide +kernel
theorem dX7_begins_187 : decode cX7_begins 187 = .ok (.iload 4, 2) := by decide +kernel
theorem dX7_begins_189 : decode cX7_begins 189 = .ok (.if_icmp .ne 21, 3) := by decide +kernel
theorem dX7_begins_192 : decode cX7_begins 192 = .ok (.iload 4, 2) := by decide +kernel
theorem dX7_begins_194 : decode cX7_begins 194 = .ok (.iconst 3, 1) := by decide +kernel
theorem dX7_begins_195 : decode cX7_begins 195 = .ok (.if_icmp .ne 25, 3) := by decide +kernel
theorem dX7_begins_198 : decode cX7_begins 198 = .ok (.aload_n 0, 1) := by decide +kernel
theorem dX7_begins_199 : decode cX7_begins 199 = .ok (.getfield 38, 3) := by decide +kernel
theorem dX7_begins_202 : decode cX7_begins 202 = .ok (.aload_n 0, 1) := by decide +kernel
theorem dX7_begins_203 : decode cX7_begins 203 = .ok (.getfield 140, 3) := by decide +kernel
theorem dX7_begins_206 : decode cX7_begins 206 = .ok (.baload, 1) := by decide +kernel
theorem dX7_begins_207 : decode cX7_begins 207 = .ok (.ifCond .eq 13, 3) := by decide +kernel
theorem dX7_begins_210 : decode cX7_begins 210 = .ok (.aload_n 0, 1) := by decide +kernel
theorem dX7_begins_211 : decode cX7_begins 211 = .ok (.iconst 4, 1) := by decide +kernel
theorem dX7_begins_212 : decode cX7_begins 212 = .ok (.aload_n 0, 1) := by decide +kernel
theorem dX7_begins_213 : decode cX7_begins 213 = .ok (.getfield 129, 3) := by decide +kernel
theorem dX7_begins_216 : decode cX7_begins 216 = .ok (.invokevirtual 136, 3) := by decide +kernel
theorem dX7_begins_219 : decode cX7_begins 219 = .ok (.ireturn, 1) := by decide +kernel
theorem dX7_begins_220 : decode cX7_begins 220 = .ok (.iload_n 2, 1) := by decide +kernel
theorem dX7_begins_221 : decode cX7_begins 221 = .ok (.ifCond .eq 14, 3) := by decide +kernel
theorem dX7_begins_224 : decode cX7_begins 224 = .ok (.aload_n 0, 1) := by decide +kernel
theorem dX7_begins_225 : decode cX7_begins 225 = .ok (.getfield 32, 3) := by decide +kernel
theorem dX7_begins_228 : decode cX7_begins 228 = .ok (.iload_n 1, 1) := by decide +kernel
theorem dX7_begins_229 : decode cX7_begins 229 = .ok (.bipush 48, 2) := by decide +kernel
theorem dX7_begins_231 : decode cX7_begins 231 = .ok (.isub, 1) := by decide +kernel
theorem dX7_begins_232 : decode cX7_begins 232 = .ok (.iload 4, 2) := by decide +kernel
theorem dX7_begins_234 : decode cX7_begins 234 = .ok (.iastore, 1) := by decide +kernel
theorem dX7_begins_235 : decode cX7_begins 235 = .ok (.aload_n 0, 1) := by decide +kernel
theorem dX7_begins_236 : decode cX7_begins 236 = .ok (.getfield 38, 3) := by decide +kernel
theorem dX7_begins_239 : decode cX7_begins 239 = .ok (.aload_n 0, 1) := by decide +kernel
theorem dX7_begins_240 : decode cX7_begins 240 = .ok (.getfield 140, 3) := by decide +kernel
theorem dX7_begins_243 : decode cX7_begins 243 = .ok (.aload_n 0, 1) := by decide +kernel
theorem dX7_begins_244 : decode cX7_begins 244 = .ok (.getfield 38, 3) := by decide +kernel
theorem dX7_begins_247 : decode cX7_begins 247 = .ok (.aload_n 0, 1) := by decide +kernel
theorem dX7_begins_248 : decode cX7_begins 248 = .ok (.getfield 140, 3) := by decide +kernel
theorem dX7_begins_251 : decode cX7_begins 251 = .ok (.baload, 1) := by decide +kernel
theorem dX7_begins_252 : decode cX7_begins 252 = .ok (.ifCond .ne 9, 3) := by decide +kernel
theorem dX7_begins_255 : decode cX7_begins 255 = .ok (.iload 4, 2) := by decide +kernel
theorem dX7_begins_257 : decode cX7_begins 257 = .ok (.iconst 3, 1) := by decide +kernel
theorem dX7_begins_258 : decode cX7_begins 258 = .ok (.if_icmp .ne 7, 3) := by decide +kernel
theorem dX7_begins_261 : decode cX7_begins 261 = .ok (.iconst 1, 1) := by decide +kernel
theorem dX7_begins_262 : decode cX7_begins 262 = .ok (.goto 4, 3) := by decide +kernel
theorem dX7_begins_265 : decode cX7_begins 265 = .ok (.iconst 0, 1) := by decide +kernel
theorem dX7_begins_266 : decode cX7_begins 266 = .ok (.bastore, 1) := by decide +kernel
theorem dX7_begins_267 : decode cX7_begins 267 = .ok (.aload_n 0, 1) := by decide +kernel
theorem dX7_begins_268 : decode cX7_begins 268 = .ok (.sipush 5460, 3) := by decide +kernel
theorem dX7_begins_271 : decode cX7_begins 271 = .ok (.aload_n 0, 1) := by decide +kernel
theorem dX7_begins_272 : decode cX7_begins 272 = .ok (.getfield 7, 3) := by decide +kernel
theorem dX7_begins_275 : decode cX7_begins 275 = .ok (.sipush 5460, 3) := by decide +kernel
theorem dX7_begins_278 : decode cX7_begins 278 = .ok (.iaload, 1) := by decide +kernel
theorem dX7_begins_279 : decode cX7_begins 279 = .ok (.iload 4, 2) := by decide +kernel
theorem dX7_begins_281 : decode cX7_begins 281 = .ok (.iload_n 2, 1) := by decide +kernel
theorem dX7_begins_282 : decode cX7_begins 282 = .ok (.ifCond .eq 10, 3) := by decide +kernel
theorem dX7_begins_285 : decode cX7_begins 285 = .ok (.iload_n 1, 1) := by decide +kernel
theorem dX7_begins_286 : decode cX7_begins 286 = .ok (.bipush 48, 2) := by decide +kernel
theorem dX7_begins_288 : decode cX7_begins 288 = .ok (.isub, 1) := by decide +kernel
theorem dX7_begins_289 : decode cX7_begins 289 = .ok (.goto 7, 3) := by decide +kernel
theorem dX7_begins_292 : decode cX7_begins 292 = .ok (.iload_n 1, 1) := by decide +kernel
theorem dX7_begins_293 : decode cX7_begins 293 = .ok (.bipush 97, 2) := by decide +kernel
theorem dX7_begins_295 : decode cX7_begins 295 = .ok (.isub, 1) := by decide +kernel
theorem dX7_begins_296 : decode cX7_begins 296 = .ok (.iconst 0, 1) := by decide +kernel
theorem dX7_begins_297 : decode cX7_begins 297 = .ok (.invokevirtual 143, 3) := by decide +kernel
theorem dX7_begins_300 : decode cX7_begins 300 = .ok (.aload_n 0, 1) := by decide +kernel
theorem dX7_begins_301 : decode cX7_begins 301 = .ok (.getfield 7, 3) := by decide +kernel
theorem dX7_begins_304 : decode cX7_begins 304 = .ok (.sipush 5460, 3) := by decide +kernel
theorem dX7_begins_307 : decode cX7_begins 307 = .ok (.dup2, 1) := by decide +kernel
theorem dX7_begins_308 : decode cX7_begins 308 = .ok (.iaload, 1) := by decide +kernel
theorem dX7_begins_309 : decode cX7_begins 309 = .ok (.iconst 1, 1) := by decide +kernel
theorem dX7_begins_310 : decode cX7_begins 310 = .ok (.iadd, 1) := by decide +kernel
theorem dX7_begins_311 : decode cX7_begins 311 = .ok (.iastore, 1) := by decide +kernel
theorem dX7_begins_312 : decode cX7_begins 312 = .ok (.aload_n 0, 1) := by decide +kernel
theorem dX7_begins_313 : decode cX7_begins 313 = .ok (.getfield 140, 3) := by decide +kernel
theorem dX7_begins_316 : decode cX7_begins 316 = .ok (.ifCond .le 27, 3) := by decide +kernel
theorem dX7_begins_319 : decode cX7_begins 319 = .ok (.aload_n 0, 1) := by decide +kernel
theorem dX7_begins_320 : decode cX7_begins 320 = .ok (.getfield 7, 3) := by decide +kernel
theorem dX7_begins_323 : decode cX7_begins 323 = .ok (.sipush 5463, 3) := by decide +kernel
theorem dX7_begins_326 : decode cX7_begins 326 = .ok (.iconst 3, 1) := by decide +kernel
theorem dX7_begins_327 : decode cX7_begins 327 = .ok (.aload_n 0, 1) := by decide +kernel
theorem dX7_begins_328 : decode cX7_begins 328 = .ok (.getfield 35, 3) := by decide +kernel
theorem dX7_begins_331 : decode cX7_begins 331 = .ok (.aload_n 0, 1) := by decide +kernel
theorem dX7_begins_332 : decode cX7_begins 332 = .ok (.getfield 140, 3) := by decide +kernel
theorem dX7_begins_335 : decode cX7_begins 335 = .ok (.iaload, 1) := by decide +kernel
theorem dX7_begins_336 : decode cX7_begins 336 = .ok (.imul, 1) := by decide +kernel
theorem dX7_begins_337 : decode cX7_begins 337 = .ok (.iadd, 1) := by decide +kernel
theorem dX7_begins_338 : decode cX7_begins 338 = .ok (.dup2, 1) := by decide +kernel
theorem dX7_begins_339 : decode cX7_begins 339 = .ok (.iaload, 1) := by decide +kernel
theorem dX7_begins_340 : decode cX7_begins 340 = .ok (.iconst 1, 1) := by decide +kernel
theorem dX7_begins_341 : decode cX7_begins 341 = .ok (.iadd, 1) := by decide +kernel
theorem dX7_begins_342 : decode cX7_begins 342 = .ok (.iastore, 1) := by decide +kernel
theorem dX7_begins_343 : decode cX7_begins 343 = .ok (.aload_n 0, 1) := by decide +kernel
theorem dX7_begins_344 : decode cX7_begins 344 = .ok (.dup, 1) := by decide +kernel
theorem dX7_begins_345 : decode cX7_begins 345 = .ok (.getfield 129, 3) := by decide +kernel
theorem dX7_begins_348 : decode cX7_begins 348 = .ok (.iload 4, 2) := by decide +kernel
theorem dX7_begins_350 : decode cX7_begins 350 = .ok (.iconst 3, 1) := by decide +kernel
theorem dX7_begins_351 : decode cX7_begins 351 = .ok (.if_icmp .ne 7, 3) := by decide +kernel
theorem dX7_begins_354 : decode cX7_begins 354 = .ok (.iconst 2, 1) := by decide +kernel
theorem dX7_begins_355 : decode cX7_begins 355 = .ok (.goto 4, 3) := by decide +kernel
theorem dX7_begins_358 : decode cX7_begins 358 = .ok (.iconst 1, 1) := by decide +kernel
theorem dX7_begins_359 : decode cX7_begins 359 = .ok (.iadd, 1) := by decide +kernel
theorem dX7_begins_360 : decode cX7_begins 360 = .ok (.putfield 129, 3) := by decide +kernel
theorem dX7_begins_363 : decode cX7_begins 363 = .ok (.aload_n 0, 1) := by decide +kernel
theorem dX7_begins_364 : decode cX7_begins 364 = .ok (.aload_n 0, 1) := by decide +kernel
theorem dX7_begins_365 : decode cX7_begins 365 = .ok (.getfield 129, 3) := by decide +kernel
theorem dX7_begins_368 : decode cX7_begins 368 = .ok (.invokevirtual 132, 3) := by decide +kernel
theorem dX7_begins_371 : decode cX7_begins 371 = .ok (.bipush 40, 2) := by decide +kernel
theorem dX7_begins_373 : decode cX7_begins 373 = .ok (.if_icmp .ne 63, 3) := by decide +kernel
theorem dX7_begins_376 : decode cX7_begins 376 = .ok (.iload 4, 2) := by decide +kernel
theorem dX7_begins_378 : decode cX7_begins 378 = .ok (.iconst 3, 1) := by decide +kernel
theorem dX7_begins_379 : decode cX7_begins 379 = .ok (.if_icmp .eq 57, 3) := by decide +kernel
theorem dX7_begins_382 : decode cX7_begins 382 = .ok (.aload_n 0, 1) := by decide +kernel
theorem dX7_begins_383 : decode cX7_begins 383 = .ok (.dup, 1) := by decide +kernel
theorem dX7_begins_384 : decode cX7_begins 384 = .ok (.getfield 140, 3) := by decide +kernel
theorem dX7_begins_387 : decode cX7_begins 387 = .ok (.iconst 1, 1) := by decide +kernel
theorem dX7_begins_388 : decode cX7_begins 388 = .ok (.iadd, 1) := by decide +kernel
theorem dX7_begins_389 : decode cX7_begins 389 = .ok (.putfield 140, 3) := by decide +kernel
theorem dX7_begins_392 : decode cX7_begins 392 = .ok (.aload_n 0, 1) := by decide +kernel
theorem dX7_begins_393 : decode cX7_begins 393 = .ok (.getfield 35, 3) := by decide +kernel
theorem dX7_begins_396 : decode cX7_begins 396 = .ok (.aload_n 0, 1) := by decide +kernel
theorem dX7_begins_397 : decode cX7_begins 397 = .ok (.getfield 140, 3) := by decide +kernel
theorem dX7_begins_400 : decode cX7_begins 400 = .ok (.aload_n 0, 1) := by decide +kernel
theorem dX7_begins_401 : decode cX7_begins 401 = .ok (.getfield 7, 3) := by decide +kernel
theorem dX7_begins_404 : decode cX7_begins 404 = .ok (.sipush 5460, 3) := by decide +kernel
theorem dX7_begins_407 : decode cX7_begins 407 = .ok (.iaload, 1) := by decide +kernel
theorem dX7_begins_408 : decode cX7_begins 408 = .ok (.iconst 1, 1) := by decide +kernel
theorem dX7_begins_409 : decode cX7_begins 409 = .ok (.isub, 1) := by decide +kernel
theorem dX7_begins_410 : decode cX7_begins 410 = .ok (.iastore, 1) := by decide +kernel
theorem dX7_begins_411 : decode cX7_begins 411 = .ok (.aload_n 0, 1) := by decide +kernel
theorem dX7_begins_412 : decode cX7_begins 412 = .ok (.getfield 38, 3) := by decide +kernel
theorem dX7_begins_415 : decode cX7_begins 415 = .ok (.aload_n 0, 1) := by decide +kernel
theorem dX7_begins_416 : decode cX7_begins 416 = .ok (.getfield 140, 3) := by decide +kernel
theorem dX7_begins_419 : decode cX7_begins 419 = .ok (.iconst 0, 1) := by decide +kernel
theorem dX7_begins_420 : decode cX7_begins 420 = .ok (.bastore, 1) := by decide +kernel
theorem dX7_begins_421 : decode cX7_begins 421 = .ok (.aload_n 0, 1) := by decide +kernel
theorem dX7_begins_422 : decode cX7_begins 422 = .ok (.dup, 1) := by decide +kernel
theorem dX7_begins_423 : decode cX7_begins 423 = .ok (.getfield 129, 3) := by decide +kernel
theorem dX7_begins_426 : decode cX7_begins 426 = .ok (.iconst 1, 1) := by decide +kernel
theorem dX7_begins_427 : decode cX7_begins 427 = .ok (.iadd, 1) := by decide +kernel
theorem dX7_begins_428 : decode cX7_begins 428 = .ok (.putfield 129, 3) := by decide +kernel
theorem dX7_begins_431 : decode cX7_begins 431 = .ok (.aload_n 0, 1) := by decide +kernel
theorem dX7_begins_432 : decode cX7_begins 432 = .ok (.iconst 1, 1) := by decide +kernel
theorem dX7_begins_433 : decode cX7_begins 433 = .ok (.putfield 147, 3) := by decide +kernel
theorem dX7_begins_436 : decode cX7_begins 436 = .ok (.iconst 1, 1) := by decide +kernel
theorem dX7_begins_437 : decode cX7_begins 437 = .ok (.ireturn, 1) := by decide +kernel
theorem dX7_reads_0 : decode cX7_reads 0 = .ok (.aload_n 0, 1) := by decide +kernel
theorem dX7_reads_1 : decode cX7_reads 1 = .ok (.getfield 7, 3) := by decide +kernel
theorem dX7_reads_4 : decode cX7_reads 4 = .ok (.sipush 5460, 3) := by decide +kernel
theorem dX7_reads_7 : decode cX7_reads 7 = .ok (.iconst 0, 1) := by decide +kernel
theorem dX7_reads_8 : decode cX7_reads 8 = .ok (.iastore, 1) := by decide +kernel
theorem dX7_reads_9 : decode cX7_reads 9 = .ok (.aload_n 0, 1) := by decide +kernel
theorem dX7_reads_10 : decode cX7_reads 10 = .ok (.iconst 0, 1) := by decide +kernel
theorem dX7_reads_11 : decode cX7_reads 11 = .ok (.putfield 140, 3) := by decide +kernel
theorem dX7_reads_14 : decode cX7_reads 14 = .ok (.aload_n 0, 1) := by decide +kernel
theorem dX7_reads_15 : decode cX7_reads 15 = .ok (.iconst 0, 1) := by decide +kernel
theorem dX7_reads_16 : decode cX7_reads 16 = .ok (.putfield 129, 3) := by decide +kernel
theorem dX7_reads_19 : decode cX7_reads 19 = .ok (.iconst 0, 1) := by decide +kernel
theorem dX7_reads_20 : decode cX7_reads 20 = .ok (.istore_n 1, 1) := by decide +kernel
theorem dX7_reads_21 : decode cX7_reads 21 = .ok (.iload_n 1, 1) := by decide +kernel
theorem dX7_reads_22 : decode cX7_reads 22 = .ok (.bipush 10, 2) := by decide +kernel
theorem dX7_reads_24 : decode cX7_reads 24 = .ok (.if_icmp .ge 16, 3) := by decide +kernel
theorem dX7_reads_27 : decode cX7_reads 27 = .ok (.aload_n 0, 1) := by decide +kernel
theorem dX7_reads_28 : decode cX7_reads 28 = .ok (.getfield 32, 3) := by decide +kernel
theorem dX7_reads_31 : decode cX7_reads 31 = .ok (.iload_n 1, 1) := by decide +kernel
theorem dX7_reads_32 : decode cX7_reads 32 = .ok (.iconst 0, 1) := by decide +kernel
theorem dX7_reads_33 : decode cX7_reads 33 = .ok (.iastore, 1) := by decide +kernel
theorem dX7_reads_34 : decode cX7_reads 34 = .ok (.iinc 1 1, 3) := by decide +kernel
theorem dX7_reads_37 : decode cX7_reads 37 = .ok (.goto (-16), 3) := by decide +kernel
theorem dX7_reads_40 : decode cX7_reads 40 = .ok (.aload_n 0, 1) := by decide +kernel
theorem dX7_reads_41 : decode cX7_reads 41 = .ok (.getfield 38, 3) := by decide +kernel
theorem dX7_reads_44 : decode cX7_reads 44 = .ok (.iconst 0, 1) := by decide +kernel
theorem dX7_reads_45 : decode cX7_reads 45 = .ok (.iconst 0, 1) := by decide +kernel
theorem dX7_reads_46 : decode cX7_reads 46 = .ok (.bastore, 1) := by decide +kernel
theorem dX7_reads_47 : decode cX7_reads 47 = .ok (.aload_n 0, 1) := by decide +kernel
theorem dX7_reads_48 : decode cX7_reads 48 = .ok (.iconst 1, 1) := by decide +kernel
theorem dX7_reads_49 : decode cX7_reads 49 = .ok (.putfield 147, 3) := by decide +kernel
theorem dX7_reads_52 : decode cX7_reads 52 = .ok (.iconst 1, 1) := by decide +kernel
theorem dX7_reads_53 : decode cX7_reads 53 = .ok (.istore_n 1, 1) := by decide +kernel
theorem dX7_reads_54 : decode cX7_reads 54 = .ok (.iload_n 1, 1) := by decide +kernel
theorem dX7_reads_55 : decode cX7_reads 55 = .ok (.ifCond .eq 113, 3) := by decide +kernel
theorem dX7_reads_58 : decode cX7_reads 58 = .ok (.aload_n 0, 1) := by decide +kernel
theorem dX7_reads_59 : decode cX7_reads 59 = .ok (.getfield 147, 3) := by decide +kernel
theorem dX7_reads_62 : decode cX7_reads 62 = .ok (.ifCond .eq 17, 3) := by decide +kernel
theorem dX7_reads_65 : decode cX7_reads 65 = .ok (.aload_n 0, 1) := by decide +kernel
theorem dX7_reads_66 : decode cX7_reads 66 = .ok (.iconst 0, 1) := by decide +kernel
theorem dX7_reads_67 : decode cX7_reads 67 = .ok (.putfield 147, 3) := by decide +kernel
theorem dX7_reads_70 : decode cX7_reads 70 = .ok (.aload_n 0, 1) := by decide +kernel
theorem dX7_reads_71 : decode cX7_reads 71 = .ok (.invokevirtual 151, 3) := by decide +kernel
theorem dX7_reads_74 : decode cX7_reads 74 = .ok (.ifCond .ne (-20), 3) := by decide +kernel
theorem dX7_reads_77 : decode cX7_reads 77 = .ok (.iconst 0, 1) := by decide +kernel
theorem dX7_reads_78 : decode cX7_reads 78 = .ok (.ireturn, 1) := by decide +kernel
theorem dX7_reads_79 : decode cX7_reads 79 = .ok (.aload_n 0, 1) := by decide +kernel
theorem dX7_reads_80 : decode cX7_reads 80 = .ok (.getfield 140, 3) := by decide +kernel
theorem dX7_reads_83 : decode cX7_reads 83 = .ok (.ifCond .ne 8, 3) := by decide +kernel
theorem dX7_reads_86 : decode cX7_reads 86 = .ok (.iconst 0, 1) := by decide +kernel
theorem dX7_reads_87 : decode cX7_reads 87 = .ok (.istore_n 1, 1) := by decide +kernel
theorem dX7_reads_88 : decode cX7_reads 88 = .ok (.goto (-34), 3) := by decide +kernel
theorem dX7_reads_91 : decode cX7_reads 91 = .ok (.aload_n 0, 1) := by decide +kernel
theorem dX7_reads_92 : decode cX7_reads 92 = .ok (.aload_n 0, 1) := by decide +kernel
theorem dX7_reads_93 : decode cX7_reads 93 = .ok (.getfield 129, 3) := by decide +kernel
theorem dX7_reads_96 : decode cX7_reads 96 = .ok (.invokevirtual 132, 3) := by decide +kernel
theorem dX7_reads_99 : decode cX7_reads 99 = .ok (.bipush 44, 2) := by decide +kernel
theorem dX7_reads_101 : decode cX7_reads 101 = .ok (.if_icmp .ne 21, 3) := by decide +kernel
theorem dX7_reads_104 : decode cX7_reads 104 = .ok (.aload_n 0, 1) := by decide +kernel
theorem dX7_reads_105 : decode cX7_reads 105 = .ok (.dup, 1) := by decide +kernel
theorem dX7_reads_106 : decode cX7_reads 106 = .ok (.getfield 129, 3) := by decide +kernel
theorem dX7_reads_109 : decode cX7_reads 109 = .ok (.iconst 1, 1) := by decide +kernel
theorem dX7_reads_110 : decode cX7_reads 110 = .ok (.iadd, 1) := by decide +kernel
theorem dX7_reads_111 : decode cX7_reads 111 = .ok (.putfield 129, 3) := by decide +kernel
theorem dX7_reads_114 : decode cX7_reads 114 = .ok (.aload_n 0, 1) := by decide +kernel
theorem dX7_reads_115 : decode cX7_reads 115 = .ok (.iconst 1, 1) := by decide +kernel
theorem dX7_reads_116 : decode cX7_reads 116 = .ok (.putfield 147, 3) := by decide +kernel
theorem dX7_reads_119 : decode cX7_reads 119 = .ok (.goto (-65), 3) := by decide +kernel
theorem dX7_reads_122 : decode cX7_reads 122 = .ok (.aload_n 0, 1) := by decide +kernel
theorem dX7_reads_123 : decode cX7_reads 123 = .ok (.aload_n 0, 1) := by decide +kernel
theorem dX7_reads_124 : decode cX7_reads 124 = .ok (.getfield 129, 3) := by decide +kernel
theorem dX7_reads_127 : decode cX7_reads 127 = .ok (.invokevirtual 132, 3) := by decide +kernel
theorem dX7_reads_130 : decode cX7_reads 130 = .ok (.bipush 41, 2) := by decide +kernel
theorem dX7_reads_132 : decode cX7_reads 132 = .ok (.if_icmp .ne 26, 3) := by decide +kernel
theorem dX7_reads_135 : decode cX7_reads 135 = .ok (.aload_n 0, 1) := by decide +kernel
theorem dX7_reads_136 : decode cX7_reads 136 = .ok (.dup, 1) := by decide +kernel
theorem dX7_reads_137 : decode cX7_reads 137 = .ok (.getfield 129, 3) := by decide +kernel
theorem dX7_reads_140 : decode cX7_reads 140 = .ok (.iconst 1, 1) := by decide +kernel
theorem dX7_reads_141 : decode cX7_reads 141 = .ok (.iadd, 1) := by decide +kernel
theorem dX7_reads_142 : decode cX7_reads 142 = .ok (.putfield 129, 3) := by decide +kernel
theorem dX7_reads_145 : decode cX7_reads 145 = .ok (.aload_n 0, 1) := by decide +kernel
theorem dX7_reads_146 : decode cX7_reads 146 = .ok (.dup, 1) := by decide +kernel
theorem dX7_reads_147 : decode cX7_reads 147 = .ok (.getfield 140, 3) := by decide +kernel
theorem dX7_reads_150 : decode cX7_reads 150 = .ok (.iconst 1, 1) := by decide +kernel
theorem dX7_reads_151 : decode cX7_reads 151 = .ok (.isub, 1) := by decide +kernel
theorem dX7_reads_152 : decode cX7_reads 152 = .ok (.putfield 140, 3) := by decide +kernel
theorem dX7_reads_155 : decode cX7_reads 155 = .ok (.goto (-101), 3) := by decide +kernel
theorem dX7_reads_158 : decode cX7_reads 158 = .ok (.aload_n 0, 1) := by decide +kernel
theorem dX7_reads_159 : decode cX7_reads 159 = .ok (.iconst 1, 1) := by decide +kernel
theorem dX7_reads_160 : decode cX7_reads 160 = .ok (.aload_n 0, 1) := by decide +kernel
theorem dX7_reads_161 : decode cX7_reads 161 = .ok (.getfield 129, 3) := by decide +kernel
theorem dX7_reads_164 : decode cX7_reads 164 = .ok (.invokevirtual 136, 3) := by decide +kernel
theorem dX7_reads_167 : decode cX7_reads 167 = .ok (.ireturn, 1) := by decide +kernel
theorem dX7_reads_168 : decode cX7_reads 168 = .ok (.aload_n 0, 1) := by decide +kernel
theorem dX7_reads_169 : decode cX7_reads 169 = .ok (.getfield 129, 3) := by decide +kernel
theorem dX7_reads_172 : decode cX7_reads 172 = .ok (.aload_n 0, 1) := by decide +kernel
theorem dX7_reads_173 : decode cX7_reads 173 = .ok (.getfield 126, 3) := by decide +kernel
theorem dX7_reads_176 : decode cX7_reads 176 = .ok (.if_icmp .eq 15, 3) := by decide +kernel
theorem dX7_reads_179 : decode cX7_reads 179 = .ok (.aload_n 0, 1) := by decide +kernel
theorem dX7_reads_180 : decode cX7_reads 180 = .ok (.iconst 1, 1) := by decide +kernel
theorem dX7_reads_181 : decode cX7_reads 181 = .ok (.aload_n 0, 1) := by decide +kernel
theorem dX7_reads_182 : decode cX7_reads 182 = .ok (.getfield 129, 3) := by decide +kernel
theorem dX7_reads_185 : decode cX7_reads 185 = .ok (.invokevirtual 136, 3) := by decide +kernel
theorem dX7_reads_188 : decode cX7_reads 188 = .ok (.ifCond .eq 7, 3) := by decide +kernel
theorem dX7_reads_191 : decode cX7_reads 191 = .ok (.iconst 1, 1) := by decide +kernel
theorem dX7_reads_192 : decode cX7_reads 192 = .ok (.goto 4, 3) := by decide +kernel
theorem dX7_reads_195 : decode cX7_reads 195 = .ok (.iconst 0, 1) := by decide +kernel
theorem dX7_reads_196 : decode cX7_reads 196 = .ok (.ireturn, 1) := by decide +kernel
theorem dX7_isSet_0 : decode cX7_isSet 0 = .ok (.aload_n 0, 1) := by decide +kernel
theorem dX7_isSet_1 : decode cX7_isSet 1 = .ok (.getfield 7, 3) := by decide +kernel
theorem dX7_isSet_4 : decode cX7_isSet 4 = .ok (.sipush 776, 3) := by decide +kernel
theorem dX7_isSet_7 : decode cX7_isSet 7 = .ok (.iload_n 1, 1) := by decide +kernel
theorem dX7_isSet_8 : decode cX7_isSet 8 = .ok (.iadd, 1) := by decide +kernel
theorem dX7_isSet_9 : decode cX7_isSet 9 = .ok (.iaload, 1) := by decide +kernel
theorem dX7_isSet_10 : decode cX7_isSet 10 = .ok (.iload_n 2, 1) := by decide +kernel
theorem dX7_isSet_11 : decode cX7_isSet 11 = .ok (.ishr, 1) := by decide +kernel
theorem dX7_isSet_12 : decode cX7_isSet 12 = .ok (.iconst 1, 1) := by decide +kernel
theorem dX7_isSet_13 : decode cX7_isSet 13 = .ok (.iand, 1) := by decide +kernel
theorem dX7_isSet_14 : decode cX7_isSet 14 = .ok (.iconst 1, 1) := by decide +kernel
theorem dX7_isSet_15 : decode cX7_isSet 15 = .ok (.if_icmp .ne 7, 3) := by decide +kernel
theorem dX7_isSet_18 : decode cX7_isSet 18 = .ok (.iconst 1, 1) := by decide +kernel
theorem dX7_isSet_19 : decode cX7_isSet 19 = .ok (.goto 4, 3) := by decide +kernel
theorem dX7_isSet_22 : decode cX7_isSet 22 = .ok (.iconst 0, 1) := by decide +kernel
theorem dX7_isSet_23 : decode cX7_isSet 23 = .ok (.ireturn, 1) := by decide +kernel
theorem dX7_flattens_0 : decode cX7_flattens 0 = .ok (.iconst 1, 1) := by decide +kernel
theorem dX7_flattens_1 : decode cX7_flattens 1 = .ok (.istore_n 1, 1) := by decide +kernel
theorem dX7_flattens_2 : decode cX7_flattens 2 = .ok (.aload_n 0, 1) := by decide +kernel
theorem dX7_flattens_3 : decode cX7_flattens 3 = .ok (.sipush 5460, 3) := by decide +kernel
theorem dX7_flattens_6 : decode cX7_flattens 6 = .ok (.invokevirtual 155, 3) := by decide +kernel
theorem dX7_flattens_9 : decode cX7_flattens 9 = .ok (.iload_n 1, 1) := by decide +kernel
theorem dX7_flattens_10 : decode cX7_flattens 10 = .ok (.aload_n 0, 1) := by decide +kernel
theorem dX7_flattens_11 : decode cX7_flattens 11 = .ok (.getfield 7, 3) := by decide +kernel
theorem dX7_flattens_14 : decode cX7_flattens 14 = .ok (.sipush 5460, 3) := by decide +kernel
theorem dX7_flattens_17 : decode cX7_flattens 17 = .ok (.iaload, 1) := by decide +kernel
theorem dX7_flattens_18 : decode cX7_flattens 18 = .ok (.if_icmp .ge 193, 3) := by decide +kernel
theorem dX7_flattens_21 : decode cX7_flattens 21 = .ok (.aload_n 0, 1) := by decide +kernel
theorem dX7_flattens_22 : decode cX7_flattens 22 = .ok (.getfield 29, 3) := by decide +kernel
theorem dX7_flattens_25 : decode cX7_flattens 25 = .ok (.iload_n 1, 1) := by decide +kernel
theorem dX7_flattens_26 : decode cX7_flattens 26 = .ok (.iaload, 1) := by decide +kernel
theorem dX7_flattens_27 : decode cX7_flattens 27 = .ok (.istore_n 2, 1) := by decide +kernel
theorem dX7_flattens_28 : decode cX7_flattens 28 = .ok (.aload_n 0, 1) := by decide +kernel
theorem dX7_flattens_29 : decode cX7_flattens 29 = .ok (.sipush 5460, 3) := by decide +kernel
theorem dX7_flattens_32 : decode cX7_flattens 32 = .ok (.iload_n 1, 1) := by decide +kernel
theorem dX7_flattens_33 : decode cX7_flattens 33 = .ok (.invokevirtual 119, 3) := by decide +kernel
theorem dX7_flattens_36 : decode cX7_flattens 36 = .ok (.ifCond .ne 64, 3) := by decide +kernel
theorem dX7_flattens_39 : decode cX7_flattens 39 = .ok (.aload_n 0, 1) := by decide +kernel
theorem dX7_flattens_40 : decode cX7_flattens 40 = .ok (.sipush 5460, 3) := by decide +kernel
theorem dX7_flattens_43 : decode cX7_flattens 43 = .ok (.iload_n 2, 1) := by decide +kernel
theorem dX7_flattens_44 : decode cX7_flattens 44 = .ok (.invokevirtual 119, 3) := by decide +kernel
theorem dX7_flattens_47 : decode cX7_flattens 47 = .ok (.ifCond .ne 53, 3) := by decide +kernel
theorem dX7_flattens_50 : decode cX7_flattens 50 = .ok (.aload_n 0, 1) := by decide +kernel
theorem dX7_flattens_51 : decode cX7_flattens 51 = .ok (.sipush 5460, 3) := by decide +kernel
theorem dX7_flattens_54 : decode cX7_flattens 54 = .ok (.iload_n 1, 1) := by decide +kernel
theorem dX7_flattens_55 : decode cX7_flattens 55 = .ok (.invokevirtual 159, 3) := by decide +kernel
theorem dX7_flattens_58 : decode cX7_flattens 58 = .ok (.aload_n 0, 1) := by decide +kernel
theorem dX7_flattens_59 : decode cX7_flattens 59 = .ok (.sipush 5460, 3) := by decide +kernel
theorem dX7_flattens_62 : decode cX7_flattens 62 = .ok (.iload_n 2, 1) := by decide +kernel
theorem dX7_flattens_63 : decode cX7_flattens 63 = .ok (.invokevirtual 159, 3) := by decide +kernel
theorem dX7_flattens_66 : decode cX7_flattens 66 = .ok (.if_icmp .ne 34, 3) := by decide +kernel
theorem dX7_flattens_69 : decode cX7_flattens 69 = .ok (.aload_n 0, 1) := by decide +kernel
theorem dX7_flattens_70 : decode cX7_flattens 70 = .ok (.sipush 5460, 3) := by decide +kernel
theorem dX7_flattens_73 : decode cX7_flattens 73 = .ok (.iload_n 1, 1) := by decide +kernel
theorem dX7_flattens_74 : decode cX7_flattens 74 = .ok (.invokevirtual 111, 3) := by decide +kernel
theorem dX7_flattens_77 : decode cX7_flattens 77 = .ok (.ifCond .le 23, 3) := by decide +kernel
theorem dX7_flattens_80 : decode cX7_flattens 80 = .ok (.aload_n 0, 1) := by decide +kernel
theorem dX7_flattens_81 : decode cX7_flattens 81 = .ok (.iconst 2, 1) := by decide +kernel
theorem dX7_flattens_82 : decode cX7_flattens 82 = .ok (.aload_n 0, 1) := by decide +kernel
theorem dX7_flattens_83 : decode cX7_flattens 83 = .ok (.sipush 5460, 3) := by decide +kernel
theorem dX7_flattens_86 : decode cX7_flattens 86 = .ok (.iload_n 1, 1) := by decide +kernel
theorem dX7_flattens_87 : decode cX7_flattens 87 = .ok (.invokevirtual 159, 3) := by decide +kernel
theorem dX7_flattens_90 : decode cX7_flattens 90 = .ok (.invokevirtual 162, 3) := by decide +kernel
theorem dX7_flattens_93 : decode cX7_flattens 93 = .ok (.ifCond .eq 7, 3) := by decide +kernel
theorem dX7_flattens_96 : decode cX7_flattens 96 = .ok (.iconst 1, 1) := by decide +kernel
theorem dX7_flattens_97 : decode cX7_flattens 97 = .ok (.goto 4, 3) := by decide +kernel
theorem dX7_flattens_100 : decode cX7_flattens 100 = .ok (.iconst 0, 1) := by decide +kernel
theorem dX7_flattens_101 : decode cX7_flattens 101 = .ok (.istore_n 3, 1) := by decide +kernel
theorem dX7_flattens_102 : decode cX7_flattens 102 = .ok (.iload_n 3, 1) := by decide +kernel
theorem dX7_flattens_103 : decode cX7_flattens 103 = .ok (.ifCond .eq 102, 3) := by decide +kernel
theorem dX7_flattens_106 : decode cX7_flattens 106 = .ok (.aload_n 0, 1) := by decide +kernel
theorem dX7_flattens_107 : decode cX7_flattens 107 = .ok (.getfield 7, 3) := by decide +kernel
theorem dX7_flattens_110 : decode cX7_flattens 110 = .ok (.sipush 5463, 3) := by decide +kernel
theorem dX7_flattens_113 : decode cX7_flattens 113 = .ok (.iconst 3, 1) := by decide +kernel
theorem dX7_flattens_114 : decode cX7_flattens 114 = .ok (.iload_n 2, 1) := by decide +kernel
theorem dX7_flattens_115 : decode cX7_flattens 115 = .ok (.imul, 1) := by decide +kernel
theorem dX7_flattens_116 : decode cX7_flattens 116 = .ok (.iadd, 1) := by decide +kernel
theorem dX7_flattens_117 : decode cX7_flattens 117 = .ok (.dup2, 1) := by decide +kernel
theorem dX7_flattens_118 : decode cX7_flattens 118 = .ok (.iaload, 1) := by decide +kernel
theorem dX7_flattens_119 : decode cX7_flattens 119 = .ok (.aload_n 0, 1) := by decide +kernel
theorem dX7_flattens_120 : decode cX7_flattens 120 = .ok (.sipush 5460, 3) := by decide +kernel
theorem dX7_flattens_123 : decode cX7_flattens 123 = .ok (.iload_n 1, 1) := by decide +kernel
theorem dX7_flattens_124 : decode cX7_flattens 124 = .ok (.invokevirtual 111, 3) := by decide +kernel
theorem dX7_flattens_127 : decode cX7_flattens 127 = .ok (.iconst 1, 1) := by decide +kernel
theorem dX7_flattens_128 : decode cX7_flattens 128 = .ok (.isub, 1) := by decide +kernel
theorem dX7_flattens_129 : decode cX7_flattens 129 = .ok (.iadd, 1) := by decide +kernel
theorem dX7_flattens_130 : decode cX7_flattens 130 = .ok (.iastore, 1) := by decide +kernel
theorem dX7_flattens_131 : decode cX7_flattens 131 = .ok (.sipush 5461, 3) := by decide +kernel
theorem dX7_flattens_134 : decode cX7_flattens 134 = .ok (.iconst 3, 1) := by decide +kernel
theorem dX7_flattens_135 : decode cX7_flattens 135 = .ok (.iload_n 1, 1) := by decide +kernel
theorem dX7_flattens_136 : decode cX7_flattens 136 = .ok (.imul, 1) := by decide +kernel
theorem dX7_flattens_137 : decode cX7_flattens 137 = .ok (.iadd, 1) := by decide +kernel
theorem dX7_flattens_138 : decode cX7_flattens 138 = .ok (.istore 4, 2) := by decide +kernel
theorem dX7_flattens_140 : decode cX7_flattens 140 = .ok (.iload 4, 2) := by decide +kernel
theorem dX7_flattens_142 : decode cX7_flattens 142 = .ok (.iconst 3, 1) := by decide +kernel
theorem dX7_flattens_143 : decode cX7_flattens 143 = .ok (.iadd, 1) := by decide +kernel
theorem dX7_flattens_144 : decode cX7_flattens 144 = .ok (.sipush 5461, 3) := by decide +kernel
theorem dX7_flattens_147 : decode cX7_flattens 147 = .ok (.iconst 3, 1) := by decide +kernel
theorem dX7_flattens_148 : decode cX7_flattens 148 = .ok (.aload_n 0, 1) := by decide +kernel
theorem dX7_flattens_149 : decode cX7_flattens 149 = .ok (.getfield 7, 3) := by decide +kernel
theorem dX7_flattens_152 : decode cX7_flattens 152 = .ok (.sipush 5460, 3) := by decide +kernel
theorem dX7_flattens_155 : decode cX7_flattens 155 = .ok (.iaload, 1) := by decide +kernel
theorem dX7_flattens_156 : decode cX7_flattens 156 = .ok (.imul, 1) := by decide +kernel
theorem dX7_flattens_157 : decode cX7_flattens 157 = .ok (.iadd, 1) := by decide +kernel
theorem dX7_flattens_158 : decode cX7_flattens 158 = .ok (.if_icmp .ge 25, 3) := by decide +kernel
theorem dX7_flattens_161 : decode cX7_flattens 161 = .ok (.aload_n 0, 1) := by decide +kernel
theorem dX7_flattens_162 : decode cX7_flattens 162 = .ok (.getfield 7, 3) := by decide +kernel
theorem dX7_flattens_165 : decode cX7_flattens 165 = .ok (.iload 4, 2) := by decide +kernel
theorem dX7_flattens_167 : decode cX7_flattens 167 = .ok (.aload_n 0, 1) := by decide +kernel
theorem dX7_flattens_168 : decode cX7_flattens 168 = .ok (.getfield 7, 3) := by decide +kernel
theorem dX7_flattens_171 : decode cX7_flattens 171 = .ok (.iload 4, 2) := by decide +kernel
theorem dX7_flattens_173 : decode cX7_flattens 173 = .ok (.iconst 3, 1) := by decide +kernel
theorem dX7_flattens_174 : decode cX7_flattens 174 = .ok (.iadd, 1) := by decide +kernel
theorem dX7_flattens_175 : decode cX7_flattens 175 = .ok (.iaload, 1) := by decide +kernel
theorem dX7_flattens_176 : decode cX7_flattens 176 = .ok (.iastore, 1) := by decide +kernel
theorem dX7_flattens_177 : decode cX7_flattens 177 = .ok (.iinc 4 1, 3) := by decide +kernel
theorem dX7_flattens_180 : decode cX7_flattens 180 = .ok (.goto (-40), 3) := by decide +kernel
theorem dX7_flattens_183 : decode cX7_flattens 183 = .ok (.aload_n 0, 1) := by decide +kernel
theorem dX7_flattens_184 : decode cX7_flattens 184 = .ok (.getfield 7, 3) := by decide +kernel
theorem dX7_flattens_187 : decode cX7_flattens 187 = .ok (.sipush 5460, 3) := by decide +kernel
theorem dX7_flattens_190 : decode cX7_flattens 190 = .ok (.dup2, 1) := by decide +kernel
theorem dX7_flattens_191 : decode cX7_flattens 191 = .ok (.iaload, 1) := by decide +kernel
theorem dX7_flattens_192 : decode cX7_flattens 192 = .ok (.iconst 1, 1) := by decide +kernel
theorem dX7_flattens_193 : decode cX7_flattens 193 = .ok (.isub, 1) := by decide +kernel
theorem dX7_flattens_194 : decode cX7_flattens 194 = .ok (.iastore, 1) := by decide +kernel
theorem dX7_flattens_195 : decode cX7_flattens 195 = .ok (.aload_n 0, 1) := by decide +kernel
theorem dX7_flattens_196 : decode cX7_flattens 196 = .ok (.sipush 5460, 3) := by decide +kernel
theorem dX7_flattens_199 : decode cX7_flattens 199 = .ok (.invokevirtual 155, 3) := by decide +kernel
theorem dX7_flattens_202 : decode cX7_flattens 202 = .ok (.goto 6, 3) := by decide +kernel
theorem dX7_flattens_205 : decode cX7_flattens 205 = .ok (.iinc 1 1, 3) := by decide +kernel
theorem dX7_flattens_208 : decode cX7_flattens 208 = .ok (.goto (-199), 3) := by decide +kernel
theorem dX7_flattens_211 : decode cX7_flattens 211 = .ok (.return_, 1) := by decide +kernel
theorem dX7_isSound_0 : decode cX7_isSound 0 = .ok (.aload_n 0, 1) := by decide +kernel
theorem dX7_isSound_1 : decode cX7_isSound 1 = .ok (.sipush 5460, 3) := by decide +kernel
theorem dX7_isSound_4 : decode cX7_isSound 4 = .ok (.aload_n 0, 1) := by decide +kernel
theorem dX7_isSound_5 : decode cX7_isSound 5 = .ok (.getfield 20, 3) := by decide +kernel
theorem dX7_isSound_8 : decode cX7_isSound 8 = .ok (.invokevirtual 115, 3) := by decide +kernel
theorem dX7_isSound_11 : decode cX7_isSound 11 = .ok (.iconst 1, 1) := by decide +kernel
theorem dX7_isSound_12 : decode cX7_isSound 12 = .ok (.istore_n 1, 1) := by decide +kernel
theorem dX7_isSound_13 : decode cX7_isSound 13 = .ok (.iconst 0, 1) := by decide +kernel
theorem dX7_isSound_14 : decode cX7_isSound 14 = .ok (.istore_n 2, 1) := by decide +kernel
theorem dX7_isSound_15 : decode cX7_isSound 15 = .ok (.iload_n 2, 1) := by decide +kernel
theorem dX7_isSound_16 : decode cX7_isSound 16 = .ok (.aload_n 0, 1) := by decide +kernel
theorem dX7_isSound_17 : decode cX7_isSound 17 = .ok (.getfield 7, 3) := by decide +kernel
theorem dX7_isSound_20 : decode cX7_isSound 20 = .ok (.sipush 5460, 3) := by decide +kernel
theorem dX7_isSound_23 : decode cX7_isSound 23 = .ok (.iaload, 1) := by decide +kernel
theorem dX7_isSound_24 : decode cX7_isSound 24 = .ok (.if_icmp .ge 99, 3) := by decide +kernel
theorem dX7_isSound_27 : decode cX7_isSound 27 = .ok (.iconst 0, 1) := by decide +kernel
theorem dX7_isSound_28 : decode cX7_isSound 28 = .ok (.istore_n 3, 1) := by decide +kernel
theorem dX7_isSound_29 : decode cX7_isSound 29 = .ok (.iload_n 2, 1) := by decide +kernel
theorem dX7_isSound_30 : decode cX7_isSound 30 = .ok (.iconst 1, 1) := by decide +kernel
theorem dX7_isSound_31 : decode cX7_isSound 31 = .ok (.iadd, 1) := by decide +kernel
theorem dX7_isSound_32 : decode cX7_isSound 32 = .ok (.istore 4, 2) := by decide +kernel
theorem dX7_isSound_34 : decode cX7_isSound 34 = .ok (.iconst 0, 1) := by decide +kernel
theorem dX7_isSound_35 : decode cX7_isSound 35 = .ok (.istore 5, 2) := by decide +kernel
theorem dX7_isSound_37 : decode cX7_isSound 37 = .ok (.iload 5, 2) := by decide +kernel
theorem dX7_isSound_39 : decode cX7_isSound 39 = .ok (.aload_n 0, 1) := by decide +kernel
theorem dX7_isSound_40 : decode cX7_isSound 40 = .ok (.sipush 5460, 3) := by decide +kernel
theorem dX7_isSound_43 : decode cX7_isSound 43 = .ok (.iload_n 2, 1) := by decide +kernel
theorem dX7_isSound_44 : decode cX7_isSound 44 = .ok (.invokevirtual 111, 3) := by decide +kernel
theorem dX7_isSound_47 : decode cX7_isSound 47 = .ok (.if_icmp .ge 42, 3) := by decide +kernel
theorem dX7_isSound_50 : decode cX7_isSound 50 = .ok (.iload_n 3, 1) := by decide +kernel
theorem dX7_isSound_51 : decode cX7_isSound 51 = .ok (.aload_n 0, 1) := by decide +kernel
theorem dX7_isSound_52 : decode cX7_isSound 52 = .ok (.sipush 5460, 3) := by decide +kernel
theorem dX7_isSound_55 : decode cX7_isSound 55 = .ok (.iload 4, 2) := by decide +kernel
theorem dX7_isSound_57 : decode cX7_isSound 57 = .ok (.invokevirtual 119, 3) := by decide +kernel
theorem dX7_isSound_60 : decode cX7_isSound 60 = .ok (.iconst 3, 1) := by decide +kernel
theorem dX7_isSound_61 : decode cX7_isSound 61 = .ok (.if_icmp .ne 7, 3) := by decide +kernel
theorem dX7_isSound_64 : decode cX7_isSound 64 = .ok (.iconst 1, 1) := by decide +kernel
theorem dX7_isSound_65 : decode cX7_isSound 65 = .ok (.goto 4, 3) := by decide +kernel
theorem dX7_isSound_68 : decode cX7_isSound 68 = .ok (.iconst 0, 1) := by decide +kernel
theorem dX7_isSound_69 : decode cX7_isSound 69 = .ok (.iadd, 1) := by decide +kernel
theorem dX7_isSound_70 : decode cX7_isSound 70 = .ok (.istore_n 3, 1) := by decide +kernel
theorem dX7_isSound_71 : decode cX7_isSound 71 = .ok (.iload 4, 2) := by decide +kernel
theorem dX7_isSound_73 : decode cX7_isSound 73 = .ok (.aload_n 0, 1) := by decide +kernel
theorem dX7_isSound_74 : decode cX7_isSound 74 = .ok (.getfield 20, 3) := by decide +kernel
theorem dX7_isSound_77 : decode cX7_isSound 77 = .ok (.iload 4, 2) := by decide +kernel
theorem dX7_isSound_79 : decode cX7_isSound 79 = .ok (.iaload, 1) := by decide +kernel
theorem dX7_isSound_80 : decode cX7_isSound 80 = .ok (.iadd, 1) := by decide +kernel
theorem dX7_isSound_81 : decode cX7_isSound 81 = .ok (.istore 4, 2) := by decide +kernel
theorem dX7_isSound_83 : decode cX7_isSound 83 = .ok (.iinc 5 1, 3) := by decide +kernel
theorem dX7_isSound_86 : decode cX7_isSound 86 = .ok (.goto (-49), 3) := by decide +kernel
theorem dX7_isSound_89 : decode cX7_isSound 89 = .ok (.iload_n 1, 1) := by decide +kernel
theorem dX7_isSound_90 : decode cX7_isSound 90 = .ok (.ifCond .eq 25, 3) := by decide +kernel
theorem dX7_isSound_93 : decode cX7_isSound 93 = .ok (.aload_n 0, 1) := by decide +kernel
theorem dX7_isSound_94 : decode cX7_isSound 94 = .ok (.sipush 5460, 3) := by decide +kernel
theorem dX7_isSound_97 : decode cX7_isSound 97 = .ok (.iload_n 2, 1) := by decide +kernel
theorem dX7_isSound_98 : decode cX7_isSound 98 = .ok (.invokevirtual 111, 3) := by decide +kernel
theorem dX7_isSound_101 : decode cX7_isSound 101 = .ok (.bipush 8, 2) := by decide +kernel
theorem dX7_isSound_103 : decode cX7_isSound 103 = .ok (.if_icmp .gt 12, 3) := by decide +kernel
theorem dX7_isSound_106 : decode cX7_isSound 106 = .ok (.iload_n 3, 1) := by decide +kernel
theorem dX7_isSound_107 : decode cX7_isSound 107 = .ok (.iconst 2, 1) := by decide +kernel
theorem dX7_isSound_108 : decode cX7_isSound 108 = .ok (.if_icmp .ge 7, 3) := by decide +kernel
theorem dX7_isSound_111 : decode cX7_isSound 111 = .ok (.iconst 1, 1) := by decide +kernel
theorem dX7_isSound_112 : decode cX7_isSound 112 = .ok (.goto 4, 3) := by decide +kernel
theorem dX7_isSound_115 : decode cX7_isSound 115 = .ok (.iconst 0, 1) := by decide +kernel
theorem dX7_isSound_116 : decode cX7_isSound 116 = .ok (.istore_n 1, 1) := by decide +kernel
theorem dX7_isSound_117 : decode cX7_isSound 117 = .ok (.iinc 2 1, 3) := by decide +kernel
theorem dX7_isSound_120 : decode cX7_isSound 120 = .ok (.goto (-105), 3) := by decide +kernel
theorem dX7_isSound_123 : decode cX7_isSound 123 = .ok (.iload_n 1, 1) := by decide +kernel
theorem dX7_isSound_124 : decode cX7_isSound 124 = .ok (.ireturn, 1) := by decide +kernel
theorem dX7_order_0 : decode cX7_order 0 = .ok (.aload_n 0, 1) := by decide +kernel
theorem dX7_order_1 : decode cX7_order 1 = .ok (.getfield 20, 3) := by decide +kernel
theorem dX7_order_4 : decode cX7_order 4 = .ok (.iload_n 1, 1) := by decide +kernel
theorem dX7_order_5 : decode cX7_order 5 = .ok (.iaload, 1) := by decide +kernel
theorem dX7_order_6 : decode cX7_order 6 = .ok (.aload_n 0, 1) := by decide +kernel
theorem dX7_order_7 : decode cX7_order 7 = .ok (.getfield 20, 3) := by decide +kernel
theorem dX7_order_10 : decode cX7_order 10 = .ok (.iload_n 2, 1) := by decide +kernel
theorem dX7_order_11 : decode cX7_order 11 = .ok (.iaload, 1) := by decide +kernel
theorem dX7_order_12 : decode cX7_order 12 = .ok (.if_icmp .eq 17, 3) := by decide +kernel
theorem dX7_order_15 : decode cX7_order 15 = .ok (.aload_n 0, 1) := by decide +kernel
theorem dX7_order_16 : decode cX7_order 16 = .ok (.getfield 20, 3) := by decide +kernel
theorem dX7_order_19 : decode cX7_order 19 = .ok (.iload_n 1, 1) := by decide +kernel
theorem dX7_order_20 : decode cX7_order 20 = .ok (.iaload, 1) := by decide +kernel
theorem dX7_order_21 : decode cX7_order 21 = .ok (.aload_n 0, 1) := by decide +kernel
theorem dX7_order_22 : decode cX7_order 22 = .ok (.getfield 20, 3) := by decide +kernel
theorem dX7_order_25 : decode cX7_order 25 = .ok (.iload_n 2, 1) := by decide +kernel
theorem dX7_order_26 : decode cX7_order 26 = .ok (.iaload, 1) := by decide +kernel
theorem dX7_order_27 : decode cX7_order 27 = .ok (.isub, 1) := by decide +kernel
theorem dX7_order_28 : decode cX7_order 28 = .ok (.ireturn, 1) := by decide +kernel
theorem dX7_order_29 : decode cX7_order 29 = .ok (.iconst 0, 1) := by decide +kernel
theorem dX7_order_30 : decode cX7_order 30 = .ok (.istore_n 3, 1) := by decide +kernel
theorem dX7_order_31 : decode cX7_order 31 = .ok (.iload_n 3, 1) := by decide +kernel
theorem dX7_order_32 : decode cX7_order 32 = .ok (.iconst 3, 1) := by decide +kernel
theorem dX7_order_33 : decode cX7_order 33 = .ok (.aload_n 0, 1) := by decide +kernel
theorem dX7_order_34 : decode cX7_order 34 = .ok (.getfield 20, 3) := by decide +kernel
theorem dX7_order_37 : decode cX7_order 37 = .ok (.iload_n 1, 1) := by decide +kernel
theorem dX7_order_38 : decode cX7_order 38 = .ok (.iaload, 1) := by decide +kernel
theorem dX7_order_39 : decode cX7_order 39 = .ok (.imul, 1) := by decide +kernel
theorem dX7_order_40 : decode cX7_order 40 = .ok (.if_icmp .ge 48, 3) := by decide +kernel
theorem dX7_order_43 : decode cX7_order 43 = .ok (.aload_n 0, 1) := by decide +kernel
theorem dX7_order_44 : decode cX7_order 44 = .ok (.getfield 7, 3) := by decide +kernel
theorem dX7_order_47 : decode cX7_order 47 = .ok (.sipush 5461, 3) := by decide +kernel
theorem dX7_order_50 : decode cX7_order 50 = .ok (.iconst 3, 1) := by decide +kernel
theorem dX7_order_51 : decode cX7_order 51 = .ok (.iload_n 1, 1) := by decide +kernel
theorem dX7_order_52 : decode cX7_order 52 = .ok (.imul, 1) := by decide +kernel
theorem dX7_order_53 : decode cX7_order 53 = .ok (.iadd, 1) := by decide +kernel
theorem dX7_order_54 : decode cX7_order 54 = .ok (.iload_n 3, 1) := by decide +kernel
theorem dX7_order_55 : decode cX7_order 55 = .ok (.iadd, 1) := by decide +kernel
theorem dX7_order_56 : decode cX7_order 56 = .ok (.iaload, 1) := by decide +kernel
theorem dX7_order_57 : decode cX7_order 57 = .ok (.aload_n 0, 1) := by decide +kernel
theorem dX7_order_58 : decode cX7_order 58 = .ok (.getfield 7, 3) := by decide +kernel
theorem dX7_order_61 : decode cX7_order 61 = .ok (.sipush 5461, 3) := by decide +kernel
theorem dX7_order_64 : decode cX7_order 64 = .ok (.iconst 3, 1) := by decide +kernel
theorem dX7_order_65 : decode cX7_order 65 = .ok (.iload_n 2, 1) := by decide +kernel
theorem dX7_order_66 : decode cX7_order 66 = .ok (.imul, 1) := by decide +kernel
theorem dX7_order_67 : decode cX7_order 67 = .ok (.iadd, 1) := by decide +kernel
theorem dX7_order_68 : decode cX7_order 68 = .ok (.iload_n 3, 1) := by decide +kernel
theorem dX7_order_69 : decode cX7_order 69 = .ok (.iadd, 1) := by decide +kernel
theorem dX7_order_70 : decode cX7_order 70 = .ok (.iaload, 1) := by decide +kernel
theorem dX7_order_71 : decode cX7_order 71 = .ok (.isub, 1) := by decide +kernel
theorem dX7_order_72 : decode cX7_order 72 = .ok (.istore 4, 2) := by decide +kernel
theorem dX7_order_74 : decode cX7_order 74 = .ok (.iload 4, 2) := by decide +kernel
theorem dX7_order_76 : decode cX7_order 76 = .ok (.ifCond .eq 6, 3) := by decide +kernel
theorem dX7_order_79 : decode cX7_order 79 = .ok (.iload 4, 2) := by decide +kernel
theorem dX7_order_81 : decode cX7_order 81 = .ok (.ireturn, 1) := by decide +kernel
theorem dX7_order_82 : decode cX7_order 82 = .ok (.iinc 3 1, 3) := by decide +kernel
theorem dX7_order_85 : decode cX7_order 85 = .ok (.goto (-54), 3) := by decide +kernel
theorem dX7_order_88 : decode cX7_order 88 = .ok (.iconst 0, 1) := by decide +kernel
theorem dX7_order_89 : decode cX7_order 89 = .ok (.ireturn, 1) := by decide +kernel
theorem dX7_sorted_0 : decode cX7_sorted 0 = .ok (.aload_n 0, 1) := by decide +kernel
theorem dX7_sorted_1 : decode cX7_sorted 1 = .ok (.sipush 5460, 3) := by decide +kernel
theorem dX7_sorted_4 : decode cX7_sorted 4 = .ok (.iload_n 1, 1) := by decide +kernel
theorem dX7_sorted_5 : decode cX7_sorted 5 = .ok (.invokevirtual 111, 3) := by decide +kernel
theorem dX7_sorted_8 : decode cX7_sorted 8 = .ok (.istore_n 2, 1) := by decide +kernel
theorem dX7_sorted_9 : decode cX7_sorted 9 = .ok (.iconst 0, 1) := by decide +kernel
theorem dX7_sorted_10 : decode cX7_sorted 10 = .ok (.istore_n 3, 1) := by decide +kernel
theorem dX7_sorted_11 : decode cX7_sorted 11 = .ok (.iload_n 3, 1) := by decide +kernel
theorem dX7_sorted_12 : decode cX7_sorted 12 = .ok (.iload_n 2, 1) := by decide +kernel
theorem dX7_sorted_13 : decode cX7_sorted 13 = .ok (.if_icmp .ge 78, 3) := by decide +kernel
theorem dX7_sorted_16 : decode cX7_sorted 16 = .ok (.aload_n 0, 1) := by decide +kernel
theorem dX7_sorted_17 : decode cX7_sorted 17 = .ok (.iload_n 1, 1) := by decide +kernel
theorem dX7_sorted_18 : decode cX7_sorted 18 = .ok (.iload_n 3, 1) := by decide +kernel
theorem dX7_sorted_19 : decode cX7_sorted 19 = .ok (.aload_n 0, 1) := by decide +kernel
theorem dX7_sorted_20 : decode cX7_sorted 20 = .ok (.getfield 20, 3) := by decide +kernel
theorem dX7_sorted_23 : decode cX7_sorted 23 = .ok (.invokevirtual 165, 3) := by decide +kernel
theorem dX7_sorted_26 : decode cX7_sorted 26 = .ok (.istore 4, 2) := by decide +kernel
theorem dX7_sorted_28 : decode cX7_sorted 28 = .ok (.iload_n 3, 1) := by decide +kernel
theorem dX7_sorted_29 : decode cX7_sorted 29 = .ok (.istore 5, 2) := by decide +kernel
theorem dX7_sorted_31 : decode cX7_sorted 31 = .ok (.iload 5, 2) := by decide +kernel
theorem dX7_sorted_33 : decode cX7_sorted 33 = .ok (.ifCond .le 43, 3) := by decide +kernel
theorem dX7_sorted_36 : decode cX7_sorted 36 = .ok (.aload_n 0, 1) := by decide +kernel
theorem dX7_sorted_37 : decode cX7_sorted 37 = .ok (.aload_n 0, 1) := by decide +kernel
theorem dX7_sorted_38 : decode cX7_sorted 38 = .ok (.getfield 42, 3) := by decide +kernel
theorem dX7_sorted_41 : decode cX7_sorted 41 = .ok (.iload 5, 2) := by decide +kernel
theorem dX7_sorted_43 : decode cX7_sorted 43 = .ok (.iconst 1, 1) := by decide +kernel
theorem dX7_sorted_44 : decode cX7_sorted 44 = .ok (.isub, 1) := by decide +kernel
theorem dX7_sorted_45 : decode cX7_sorted 45 = .ok (.iaload, 1) := by decide +kernel
theorem dX7_sorted_46 : decode cX7_sorted 46 = .ok (.iload 4, 2) := by decide +kernel
theorem dX7_sorted_48 : decode cX7_sorted 48 = .ok (.invokevirtual 169, 3) := by decide +kernel
theorem dX7_sorted_51 : decode cX7_sorted 51 = .ok (.ifCond .le 25, 3) := by decide +kernel
theorem dX7_sorted_54 : decode cX7_sorted 54 = .ok (.aload_n 0, 1) := by decide +kernel
theorem dX7_sorted_55 : decode cX7_sorted 55 = .ok (.getfield 42, 3) := by decide +kernel
theorem dX7_sorted_58 : decode cX7_sorted 58 = .ok (.iload 5, 2) := by decide +kernel
theorem dX7_sorted_60 : decode cX7_sorted 60 = .ok (.aload_n 0, 1) := by decide +kernel
theorem dX7_sorted_61 : decode cX7_sorted 61 = .ok (.getfield 42, 3) := by decide +kernel
theorem dX7_sorted_64 : decode cX7_sorted 64 = .ok (.iload 5, 2) := by decide +kernel
theorem dX7_sorted_66 : decode cX7_sorted 66 = .ok (.iconst 1, 1) := by decide +kernel
theorem dX7_sorted_67 : decode cX7_sorted 67 = .ok (.isub, 1) := by decide +kernel
theorem dX7_sorted_68 : decode cX7_sorted 68 = .ok (.iaload, 1) := by decide +kernel
theorem dX7_sorted_69 : decode cX7_sorted 69 = .ok (.iastore, 1) := by decide +kernel
theorem dX7_sorted_70 : decode cX7_sorted 70 = .ok (.iinc 5 (-1), 3) := by decide +kernel
theorem dX7_sorted_73 : decode cX7_sorted 73 = .ok (.goto (-42), 3) := by decide +kernel
theorem dX7_sorted_76 : decode cX7_sorted 76 = .ok (.aload_n 0, 1) := by decide +kernel
theorem dX7_sorted_77 : decode cX7_sorted 77 = .ok (.getfield 42, 3) := by decide +kernel
theorem dX7_sorted_80 : decode cX7_sorted 80 = .ok (.iload 5, 2) := by decide +kernel
theorem dX7_sorted_82 : decode cX7_sorted 82 = .ok (.iload 4, 2) := by decide +kernel
theorem dX7_sorted_84 : decode cX7_sorted 84 = .ok (.iastore, 1) := by decide +kernel
theorem dX7_sorted_85 : decode cX7_sorted 85 = .ok (.iinc 3 1, 3) := by decide +kernel
theorem dX7_sorted_88 : decode cX7_sorted 88 = .ok (.goto (-77), 3) := by decide +kernel
theorem dX7_sorted_91 : decode cX7_sorted 91 = .ok (.iload_n 1, 1) := by decide +kernel
theorem dX7_sorted_92 : decode cX7_sorted 92 = .ok (.iconst 1, 1) := by decide +kernel
theorem dX7_sorted_93 : decode cX7_sorted 93 = .ok (.iadd, 1) := by decide +kernel
theorem dX7_sorted_94 : decode cX7_sorted 94 = .ok (.istore_n 3, 1) := by decide +kernel
theorem dX7_sorted_95 : decode cX7_sorted 95 = .ok (.iconst 0, 1) := by decide +kernel
theorem dX7_sorted_96 : decode cX7_sorted 96 = .ok (.istore 4, 2) := by decide +kernel
theorem dX7_sorted_98 : decode cX7_sorted 98 = .ok (.iload 4, 2) := by decide +kernel
theorem dX7_sorted_100 : decode cX7_sorted 100 = .ok (.iload_n 2, 1) := by decide +kernel
theorem dX7_sorted_101 : decode cX7_sorted 101 = .ok (.if_icmp .ge 97, 3) := by decide +kernel
theorem dX7_sorted_104 : decode cX7_sorted 104 = .ok (.iconst 0, 1) := by decide +kernel
theorem dX7_sorted_105 : decode cX7_sorted 105 = .ok (.istore 5, 2) := by decide +kernel
theorem dX7_sorted_107 : decode cX7_sorted 107 = .ok (.iload 5, 2) := by decide +kernel
theorem dX7_sorted_109 : decode cX7_sorted 109 = .ok (.aload_n 0, 1) := by decide +kernel
theorem dX7_sorted_110 : decode cX7_sorted 110 = .ok (.getfield 20, 3) := by decide +kernel
theorem dX7_sorted_113 : decode cX7_sorted 113 = .ok (.aload_n 0, 1) := by decide +kernel
theorem dX7_sorted_114 : decode cX7_sorted 114 = .ok (.getfield 42, 3) := by decide +kernel
theorem dX7_sorted_117 : decode cX7_sorted 117 = .ok (.iload 4, 2) := by decide +kernel
theorem dX7_sorted_119 : decode cX7_sorted 119 = .ok (.iaload, 1) := by decide +kernel
theorem dX7_sorted_120 : decode cX7_sorted 120 = .ok (.iaload, 1) := by decide +kernel
theorem dX7_sorted_121 : decode cX7_sorted 121 = .ok (.if_icmp .ge 71, 3) := by decide +kernel
theorem dX7_sorted_124 : decode cX7_sorted 124 = .ok (.aload_n 0, 1) := by decide +kernel
theorem dX7_sorted_125 : decode cX7_sorted 125 = .ok (.sipush 5557, 3) := by decide +kernel
theorem dX7_sorted_128 : decode cX7_sorted 128 = .ok (.iload_n 3, 1) := by decide +kernel
theorem dX7_sorted_129 : decode cX7_sorted 129 = .ok (.aload_n 0, 1) := by decide +kernel
theorem dX7_sorted_130 : decode cX7_sorted 130 = .ok (.sipush 5460, 3) := by decide +kernel
theorem dX7_sorted_133 : decode cX7_sorted 133 = .ok (.aload_n 0, 1) := by decide +kernel
theorem dX7_sorted_134 : decode cX7_sorted 134 = .ok (.getfield 42, 3) := by decide +kernel
theorem dX7_sorted_137 : decode cX7_sorted 137 = .ok (.iload 4, 2) := by decide +kernel
theorem dX7_sorted_139 : decode cX7_sorted 139 = .ok (.iaload, 1) := by decide +kernel
theorem dX7_sorted_140 : decode cX7_sorted 140 = .ok (.iload 5, 2) := by decide +kernel
theorem dX7_sorted_142 : decode cX7_sorted 142 = .ok (.iadd, 1) := by decide +kernel
theorem dX7_sorted_143 : decode cX7_sorted 143 = .ok (.invokevirtual 119, 3) := by decide +kernel
theorem dX7_sorted_146 : decode cX7_sorted 146 = .ok (.aload_n 0, 1) := by decide +kernel
theorem dX7_sorted_147 : decode cX7_sorted 147 = .ok (.sipush 5460, 3) := by decide +kernel
theorem dX7_sorted_150 : decode cX7_sorted 150 = .ok (.aload_n 0, 1) := by decide +kernel
theorem dX7_sorted_151 : decode cX7_sorted 151 = .ok (.getfield 42, 3) := by decide +kernel
theorem dX7_sorted_154 : decode cX7_sorted 154 = .ok (.iload 4, 2) := by decide +kernel
theorem dX7_sorted_156 : decode cX7_sorted 156 = .ok (.iaload, 1) := by decide +kernel
theorem dX7_sorted_157 : decode cX7_sorted 157 = .ok (.iload 5, 2) := by decide +kernel
theorem dX7_sorted_159 : decode cX7_sorted 159 = .ok (.iadd, 1) := by decide +kernel
theorem dX7_sorted_160 : decode cX7_sorted 160 = .ok (.invokevirtual 159, 3) := by decide +kernel
theorem dX7_sorted_163 : decode cX7_sorted 163 = .ok (.aload_n 0, 1) := by decide +kernel
theorem dX7_sorted_164 : decode cX7_sorted 164 = .ok (.sipush 5460, 3) := by decide +kernel
theorem dX7_sorted_167 : decode cX7_sorted 167 = .ok (.aload_n 0, 1) := by decide +kernel
theorem dX7_sorted_168 : decode cX7_sorted 168 = .ok (.getfield 42, 3) := by decide +kernel
theorem dX7_sorted_171 : decode cX7_sorted 171 = .ok (.iload 4, 2) := by decide +kernel
theorem dX7_sorted_173 : decode cX7_sorted 173 = .ok (.iaload, 1) := by decide +kernel
theorem dX7_sorted_174 : decode cX7_sorted 174 = .ok (.iload 5, 2) := by decide +kernel
theorem dX7_sorted_176 : decode cX7_sorted 176 = .ok (.iadd, 1) := by decide +kernel
theorem dX7_sorted_177 : decode cX7_sorted 177 = .ok (.invokevirtual 111, 3) := by decide +kernel
theorem dX7_sorted_180 : decode cX7_sorted 180 = .ok (.invokevirtual 143, 3) := by decide +kernel
theorem dX7_sorted_183 : decode cX7_sorted 183 = .ok (.iinc 3 1, 3) := by decide +kernel
theorem dX7_sorted_186 : decode cX7_sorted 186 = .ok (.iinc 5 1, 3) := by decide +kernel
theorem dX7_sorted_189 : decode cX7_sorted 189 = .ok (.goto (-82), 3) := by decide +kernel
theorem dX7_sorted_192 : decode cX7_sorted 192 = .ok (.iinc 4 1, 3) := by decide +kernel
theorem dX7_sorted_195 : decode cX7_sorted 195 = .ok (.goto (-97), 3) := by decide +kernel
theorem dX7_sorted_198 : decode cX7_sorted 198 = .ok (.iload_n 1, 1) := by decide +kernel
theorem dX7_sorted_199 : decode cX7_sorted 199 = .ok (.iconst 1, 1) := by decide +kernel
theorem dX7_sorted_200 : decode cX7_sorted 200 = .ok (.iadd, 1) := by decide +kernel
theorem dX7_sorted_201 : decode cX7_sorted 201 = .ok (.istore 4, 2) := by decide +kernel
theorem dX7_sorted_203 : decode cX7_sorted 203 = .ok (.iload 4, 2) := by decide +kernel
theorem dX7_sorted_205 : decode cX7_sorted 205 = .ok (.iload_n 3, 1) := by decide +kernel
theorem dX7_sorted_206 : decode cX7_sorted 206 = .ok (.if_icmp .ge 45, 3) := by decide +kernel
theorem dX7_sorted_209 : decode cX7_sorted 209 = .ok (.aload_n 0, 1) := by decide +kernel
theorem dX7_sorted_210 : decode cX7_sorted 210 = .ok (.sipush 5460, 3) := by decide +kernel
theorem dX7_sorted_213 : decode cX7_sorted 213 = .ok (.iload 4, 2) := by decide +kernel
theorem dX7_sorted_215 : decode cX7_sorted 215 = .ok (.aload_n 0, 1) := by decide +kernel
theorem dX7_sorted_216 : decode cX7_sorted 216 = .ok (.sipush 5557, 3) := by decide +kernel
theorem dX7_sorted_219 : decode cX7_sorted 219 = .ok (.iload 4, 2) := by decide +kernel
theorem dX7_sorted_221 : decode cX7_sorted 221 = .ok (.invokevirtual 119, 3) := by decide +kernel
theorem dX7_sorted_224 : decode cX7_sorted 224 = .ok (.aload_n 0, 1) := by decide +kernel
theorem dX7_sorted_225 : decode cX7_sorted 225 = .ok (.sipush 5557, 3) := by decide +kernel
theorem dX7_sorted_228 : decode cX7_sorted 228 = .ok (.iload 4, 2) := by decide +kernel
theorem dX7_sorted_230 : decode cX7_sorted 230 = .ok (.invokevirtual 159, 3) := by decide +kernel
theorem dX7_sorted_233 : decode cX7_sorted 233 = .ok (.aload_n 0, 1) := by decide +kernel
theorem dX7_sorted_234 : decode cX7_sorted 234 = .ok (.sipush 5557, 3) := by decide +kernel
theorem dX7_sorted_237 : decode cX7_sorted 237 = .ok (.iload 4, 2) := by decide +kernel
theorem dX7_sorted_239 : decode cX7_sorted 239 = .ok (.invokevirtual 111, 3) := by decide +kernel
theorem dX7_sorted_242 : decode cX7_sorted 242 = .ok (.invokevirtual 143, 3) := by decide +kernel
theorem dX7_sorted_245 : decode cX7_sorted 245 = .ok (.iinc 4 1, 3) := by decide +kernel
theorem dX7_sorted_248 : decode cX7_sorted 248 = .ok (.goto (-45), 3) := by decide +kernel
theorem dX7_sorted_251 : decode cX7_sorted 251 = .ok (.return_, 1) := by decide +kernel
theorem dX7_sortsAll_0 : decode cX7_sortsAll 0 = .ok (.aload_n 0, 1) := by decide +kernel
theorem dX7_sortsAll_1 : decode cX7_sortsAll 1 = .ok (.getfield 7, 3) := by decide +kernel
theorem dX7_sortsAll_4 : decode cX7_sortsAll 4 = .ok (.sipush 5460, 3) := by decide +kernel
theorem dX7_sortsAll_7 : decode cX7_sortsAll 7 = .ok (.iaload, 1) := by decide +kernel
theorem dX7_sortsAll_8 : decode cX7_sortsAll 8 = .ok (.iconst 1, 1) := by decide +kernel
theorem dX7_sortsAll_9 : decode cX7_sortsAll 9 = .ok (.isub, 1) := by decide +kernel
theorem dX7_sortsAll_10 : decode cX7_sortsAll 10 = .ok (.istore_n 1, 1) := by decide +kernel
theorem dX7_sortsAll_11 : decode cX7_sortsAll 11 = .ok (.iload_n 1, 1) := by decide +kernel
theorem dX7_sortsAll_12 : decode cX7_sortsAll 12 = .ok (.ifCond .lt 69, 3) := by decide +kernel
theorem dX7_sortsAll_15 : decode cX7_sortsAll 15 = .ok (.aload_n 0, 1) := by decide +kernel
theorem dX7_sortsAll_16 : decode cX7_sortsAll 16 = .ok (.sipush 5460, 3) := by decide +kernel
theorem dX7_sortsAll_19 : decode cX7_sortsAll 19 = .ok (.aload_n 0, 1) := by decide +kernel
theorem dX7_sortsAll_20 : decode cX7_sortsAll 20 = .ok (.getfield 20, 3) := by decide +kernel
theorem dX7_sortsAll_23 : decode cX7_sortsAll 23 = .ok (.invokevirtual 115, 3) := by decide +kernel
theorem dX7_sortsAll_26 : decode cX7_sortsAll 26 = .ok (.aload_n 0, 1) := by decide +kernel
theorem dX7_sortsAll_27 : decode cX7_sortsAll 27 = .ok (.sipush 5460, 3) := by decide +kernel
theorem dX7_sortsAll_30 : decode cX7_sortsAll 30 = .ok (.iload_n 1, 1) := by decide +kernel
theorem dX7_sortsAll_31 : decode cX7_sortsAll 31 = .ok (.invokevirtual 119, 3) := by decide +kernel
theorem dX7_sortsAll_34 : decode cX7_sortsAll 34 = .ok (.ifCond .ne 41, 3) := by decide +kernel
theorem dX7_sortsAll_37 : decode cX7_sortsAll 37 = .ok (.aload_n 0, 1) := by decide +kernel
theorem dX7_sortsAll_38 : decode cX7_sortsAll 38 = .ok (.iconst 3, 1) := by decide +kernel
theorem dX7_sortsAll_39 : decode cX7_sortsAll 39 = .ok (.aload_n 0, 1) := by decide +kernel
theorem dX7_sortsAll_40 : decode cX7_sortsAll 40 = .ok (.sipush 5460, 3) := by decide +kernel
theorem dX7_sortsAll_43 : decode cX7_sortsAll 43 = .ok (.iload_n 1, 1) := by decide +kernel
theorem dX7_sortsAll_44 : decode cX7_sortsAll 44 = .ok (.invokevirtual 159, 3) := by decide +kernel
theorem dX7_sortsAll_47 : decode cX7_sortsAll 47 = .ok (.invokevirtual 162, 3) := by decide +kernel
theorem dX7_sortsAll_50 : decode cX7_sortsAll 50 = .ok (.ifCond .eq 25, 3) := by decide +kernel
theorem dX7_sortsAll_53 : decode cX7_sortsAll 53 = .ok (.aload_n 0, 1) := by decide +kernel
theorem dX7_sortsAll_54 : decode cX7_sortsAll 54 = .ok (.sipush 5460, 3) := by decide +kernel
theorem dX7_sortsAll_57 : decode cX7_sortsAll 57 = .ok (.iload_n 1, 1) := by decide +kernel
theorem dX7_sortsAll_58 : decode cX7_sortsAll 58 = .ok (.aload_n 0, 1) := by decide +kernel
theorem dX7_sortsAll_59 : decode cX7_sortsAll 59 = .ok (.getfield 20, 3) := by decide +kernel
theorem dX7_sortsAll_62 : decode cX7_sortsAll 62 = .ok (.invokevirtual 172, 3) := by decide +kernel
theorem dX7_sortsAll_65 : decode cX7_sortsAll 65 = .ok (.bipush (-9), 2) := by decide +kernel
theorem dX7_sortsAll_67 : decode cX7_sortsAll 67 = .ok (.if_icmp .ne 8, 3) := by decide +kernel
theorem dX7_sortsAll_70 : decode cX7_sortsAll 70 = .ok (.aload_n 0, 1) := by decide +kernel
theorem dX7_sortsAll_71 : decode cX7_sortsAll 71 = .ok (.iload_n 1, 1) := by decide +kernel
theorem dX7_sortsAll_72 : decode cX7_sortsAll 72 = .ok (.invokevirtual 175, 3) := by decide +kernel
theorem dX7_sortsAll_75 : decode cX7_sortsAll 75 = .ok (.iinc 1 (-1), 3) := by decide +kernel
theorem dX7_sortsAll_78 : decode cX7_sortsAll 78 = .ok (.goto (-67), 3) := by decide +kernel
theorem dX7_sortsAll_81 : decode cX7_sortsAll 81 = .ok (.return_, 1) := by decide +kernel
theorem dX7_isRegister_0 : decode cX7_isRegister 0 = .ok (.iload_n 0, 1) := by decide +kernel
theorem dX7_isRegister_1 : decode cX7_isRegister 1 = .ok (.iconst 0, 1) := by decide +kernel
theorem dX7_isRegister_2 : decode cX7_isRegister 2 = .ok (.bipush 7, 2) := by decide +kernel
theorem dX7_isRegister_4 : decode cX7_isRegister 4 = .ok (.invokestatic 122, 3) := by decide +kernel
theorem dX7_isRegister_7 : decode cX7_isRegister 7 = .ok (.ireturn, 1) := by decide +kernel
theorem dX7_isEmpty_0 : decode cX7_isEmpty 0 = .ok (.aload_n 0, 1) := by decide +kernel
theorem dX7_isEmpty_1 : decode cX7_isEmpty 1 = .ok (.getfield 7, 3) := by decide +kernel
theorem dX7_isEmpty_4 : decode cX7_isEmpty 4 = .ok (.bipush 97, 2) := by decide +kernel
theorem dX7_isEmpty_6 : decode cX7_isEmpty 6 = .ok (.iload_n 1, 1) := by decide +kernel
theorem dX7_isEmpty_7 : decode cX7_isEmpty 7 = .ok (.imul, 1) := by decide +kernel
theorem dX7_isEmpty_8 : decode cX7_isEmpty 8 = .ok (.iaload, 1) := by decide +kernel
theorem dX7_isEmpty_9 : decode cX7_isEmpty 9 = .ok (.ifCond .ne 7, 3) := by decide +kernel
theorem dX7_isEmpty_12 : decode cX7_isEmpty 12 = .ok (.iconst 1, 1) := by decide +kernel
theorem dX7_isEmpty_13 : decode cX7_isEmpty 13 = .ok (.goto 4, 3) := by decide +kernel
theorem dX7_isEmpty_16 : decode cX7_isEmpty 16 = .ok (.iconst 0, 1) := by decide +kernel
theorem dX7_isEmpty_17 : decode cX7_isEmpty 17 = .ok (.ireturn, 1) := by decide +kernel
theorem dX7_puts_0 : decode cX7_puts 0 = .ok (.aload_n 0, 1) := by decide +kernel
theorem dX7_puts_1 : decode cX7_puts 1 = .ok (.iload_n 1, 1) := by decide +kernel
theorem dX7_puts_2 : decode cX7_puts 2 = .ok (.bipush 97, 2) := by decide +kernel
theorem dX7_puts_4 : decode cX7_puts 4 = .ok (.iload_n 2, 1) := by decide +kernel
theorem dX7_puts_5 : decode cX7_puts 5 = .ok (.imul, 1) := by decide +kernel
theorem dX7_puts_6 : decode cX7_puts 6 = .ok (.invokevirtual 178, 3) := by decide +kernel
theorem dX7_puts_9 : decode cX7_puts 9 = .ok (.aload_n 0, 1) := by decide +kernel
theorem dX7_puts_10 : decode cX7_puts 10 = .ok (.getfield 7, 3) := by decide +kernel
theorem dX7_puts_13 : decode cX7_puts 13 = .ok (.bipush 97, 2) := by decide +kernel
theorem dX7_puts_15 : decode cX7_puts 15 = .ok (.iload_n 2, 1) := by decide +kernel
theorem dX7_puts_16 : decode cX7_puts 16 = .ok (.imul, 1) := by decide +kernel
theorem dX7_puts_17 : decode cX7_puts 17 = .ok (.iaload, 1) := by decide +kernel
theorem dX7_puts_18 : decode cX7_puts 18 = .ok (.ireturn, 1) := by decide +kernel
theorem dX7_put_0 : decode cX7_put 0 = .ok (.iload_n 1, 1) := by decide +kernel
theorem dX7_put_1 : decode cX7_put 1 = .ok (.invokestatic 182, 3) := by decide +kernel
theorem dX7_put_4 : decode cX7_put 4 = .ok (.ifCond .ne 5, 3) := by decide +kernel
theorem dX7_put_7 : decode cX7_put 7 = .ok (.iconst (-1), 1) := by decide +kernel
theorem dX7_put_8 : decode cX7_put 8 = .ok (.ireturn, 1) := by decide +kernel
theorem dX7_put_9 : decode cX7_put 9 = .ok (.aload_n 0, 1) := by decide +kernel
theorem dX7_put_10 : decode cX7_put 10 = .ok (.bipush (-9), 2) := by decide +kernel
theorem dX7_put_12 : decode cX7_put 12 = .ok (.putfield 16, 3) := by decide +kernel
theorem dX7_put_15 : decode cX7_put 15 = .ok (.aload_n 0, 1) := by decide +kernel
theorem dX7_put_16 : decode cX7_put 16 = .ok (.invokevirtual 186, 3) := by decide +kernel
theorem dX7_put_19 : decode cX7_put 19 = .ok (.ifCond .ne 11, 3) := by decide +kernel
theorem dX7_put_22 : decode cX7_put 22 = .ok (.bipush (-10), 2) := by decide +kernel
theorem dX7_put_24 : decode cX7_put 24 = .ok (.aload_n 0, 1) := by decide +kernel
theorem dX7_put_25 : decode cX7_put 25 = .ok (.getfield 129, 3) := by decide +kernel
theorem dX7_put_28 : decode cX7_put 28 = .ok (.isub, 1) := by decide +kernel
theorem dX7_put_29 : decode cX7_put 29 = .ok (.ireturn, 1) := by decide +kernel
theorem dX7_put_30 : decode cX7_put 30 = .ok (.aload_n 0, 1) := by decide +kernel
theorem dX7_put_31 : decode cX7_put 31 = .ok (.invokevirtual 189, 3) := by decide +kernel
theorem dX7_put_34 : decode cX7_put 34 = .ok (.aload_n 0, 1) := by decide +kernel
theorem dX7_put_35 : decode cX7_put 35 = .ok (.invokevirtual 192, 3) := by decide +kernel
theorem dX7_put_38 : decode cX7_put 38 = .ok (.ifCond .ne 16, 3) := by decide +kernel
theorem dX7_put_41 : decode cX7_put 41 = .ok (.aload_n 0, 1) := by decide +kernel
theorem dX7_put_42 : decode cX7_put 42 = .ok (.iconst 5, 1) := by decide +kernel
theorem dX7_put_43 : decode cX7_put 43 = .ok (.putfield 16, 3) := by decide +kernel
theorem dX7_put_46 : decode cX7_put 46 = .ok (.bipush (-10), 2) := by decide +kernel
theorem dX7_put_48 : decode cX7_put 48 = .ok (.aload_n 0, 1) := by decide +kernel
theorem dX7_put_49 : decode cX7_put 49 = .ok (.getfield 126, 3) := by decide +kernel
theorem dX7_put_52 : decode cX7_put 52 = .ok (.isub, 1) := by decide +kernel
theorem dX7_put_53 : decode cX7_put 53 = .ok (.ireturn, 1) := by decide +kernel
theorem dX7_put_54 : decode cX7_put 54 = .ok (.aload_n 0, 1) := by decide +kernel
theorem dX7_put_55 : decode cX7_put 55 = .ok (.invokevirtual 195, 3) := by decide +kernel
theorem dX7_put_58 : decode cX7_put 58 = .ok (.aload_n 0, 1) := by decide +kernel
theorem dX7_put_59 : decode cX7_put 59 = .ok (.invokevirtual 198, 3) := by decide +kernel
theorem dX7_put_62 : decode cX7_put 62 = .ok (.aload_n 0, 1) := by decide +kernel
theorem dX7_put_63 : decode cX7_put 63 = .ok (.sipush 5460, 3) := by decide +kernel
theorem dX7_put_66 : decode cX7_put 66 = .ok (.iload_n 1, 1) := by decide +kernel
theorem dX7_put_67 : decode cX7_put 67 = .ok (.invokevirtual 201, 3) := by decide +kernel
theorem dX7_put_70 : decode cX7_put 70 = .ok (.ireturn, 1) := by decide +kernel
theorem dX7_fault_0 : decode cX7_fault 0 = .ok (.aload_n 0, 1) := by decide +kernel
theorem dX7_fault_1 : decode cX7_fault 1 = .ok (.getfield 16, 3) := by decide +kernel
theorem dX7_fault_4 : decode cX7_fault 4 = .ok (.ireturn, 1) := by decide +kernel
theorem dX7_empty_0 : decode cX7_empty 0 = .ok (.iload_n 1, 1) := by decide +kernel
theorem dX7_empty_1 : decode cX7_empty 1 = .ok (.invokestatic 182, 3) := by decide +kernel
theorem dX7_empty_4 : decode cX7_empty 4 = .ok (.ifCond .ne 5, 3) := by decide +kernel
theorem dX7_empty_7 : decode cX7_empty 7 = .ok (.iconst (-1), 1) := by decide +kernel
theorem dX7_empty_8 : decode cX7_empty 8 = .ok (.ireturn, 1) := by decide +kernel
theorem dX7_empty_9 : decode cX7_empty 9 = .ok (.aload_n 0, 1) := by decide +kernel
theorem dX7_empty_10 : decode cX7_empty 10 = .ok (.iload_n 1, 1) := by decide +kernel
theorem dX7_empty_11 : decode cX7_empty 11 = .ok (.invokevirtual 204, 3) := by decide +kernel
theorem dX7_empty_14 : decode cX7_empty 14 = .ok (.ifCond .eq 6, 3) := by decide +kernel
theorem dX7_empty_17 : decode cX7_empty 17 = .ok (.bipush (-2), 2) := by decide +kernel
theorem dX7_empty_19 : decode cX7_empty 19 = .ok (.ireturn, 1) := by decide +kernel
theorem dX7_empty_20 : decode cX7_empty 20 = .ok (.aload_n 0, 1) := by decide +kernel
theorem dX7_empty_21 : decode cX7_empty 21 = .ok (.invokevirtual 198, 3) := by decide +kernel
theorem dX7_empty_24 : decode cX7_empty 24 = .ok (.aload_n 0, 1) := by decide +kernel
theorem dX7_empty_25 : decode cX7_empty 25 = .ok (.getfield 7, 3) := by decide +kernel
theorem dX7_empty_28 : decode cX7_empty 28 = .ok (.bipush 97, 2) := by decide +kernel
theorem dX7_empty_30 : decode cX7_empty 30 = .ok (.iload_n 1, 1) := by decide +kernel
theorem dX7_empty_31 : decode cX7_empty 31 = .ok (.imul, 1) := by decide +kernel
theorem dX7_empty_32 : decode cX7_empty 32 = .ok (.iaload, 1) := by decide +kernel
theorem dX7_empty_33 : decode cX7_empty 33 = .ok (.istore_n 2, 1) := by decide +kernel
theorem dX7_empty_34 : decode cX7_empty 34 = .ok (.aload_n 0, 1) := by decide +kernel
theorem dX7_empty_35 : decode cX7_empty 35 = .ok (.getfield 7, 3) := by decide +kernel
theorem dX7_empty_38 : decode cX7_empty 38 = .ok (.bipush 97, 2) := by decide +kernel
theorem dX7_empty_40 : decode cX7_empty 40 = .ok (.iload_n 1, 1) := by decide +kernel
theorem dX7_empty_41 : decode cX7_empty 41 = .ok (.imul, 1) := by decide +kernel
theorem dX7_empty_42 : decode cX7_empty 42 = .ok (.iconst 0, 1) := by decide +kernel
theorem dX7_empty_43 : decode cX7_empty 43 = .ok (.iastore, 1) := by decide +kernel
theorem dX7_empty_44 : decode cX7_empty 44 = .ok (.iload_n 2, 1) := by decide +kernel
theorem dX7_empty_45 : decode cX7_empty 45 = .ok (.ireturn, 1) := by decide +kernel
theorem dX7_set_0 : decode cX7_set 0 = .ok (.iload_n 1, 1) := by decide +kernel
theorem dX7_set_1 : decode cX7_set 1 = .ok (.iconst 0, 1) := by decide +kernel
theorem dX7_set_2 : decode cX7_set 2 = .ok (.iconst 3, 1) := by decide +kernel
theorem dX7_set_3 : decode cX7_set 3 = .ok (.invokestatic 122, 3) := by decide +kernel
theorem dX7_set_6 : decode cX7_set 6 = .ok (.ifCond .eq 23, 3) := by decide +kernel
theorem dX7_set_9 : decode cX7_set 9 = .ok (.iload_n 2, 1) := by decide +kernel
theorem dX7_set_10 : decode cX7_set 10 = .ok (.iconst 0, 1) := by decide +kernel
theorem dX7_set_11 : decode cX7_set 11 = .ok (.iload_n 1, 1) := by decide +kernel
theorem dX7_set_12 : decode cX7_set 12 = .ok (.iconst 2, 1) := by decide +kernel
theorem dX7_set_13 : decode cX7_set 13 = .ok (.if_icmp .ge 7, 3) := by decide +kernel
theorem dX7_set_16 : decode cX7_set 16 = .ok (.iconst 1, 1) := by decide +kernel
theorem dX7_set_17 : decode cX7_set 17 = .ok (.goto 6, 3) := by decide +kernel
theorem dX7_set_20 : decode cX7_set 20 = .ok (.sipush 8191, 3) := by decide +kernel
theorem dX7_set_23 : decode cX7_set 23 = .ok (.invokestatic 122, 3) := by decide +kernel
theorem dX7_set_26 : decode cX7_set 26 = .ok (.ifCond .ne 5, 3) := by decide +kernel
theorem dX7_set_29 : decode cX7_set 29 = .ok (.iconst (-1), 1) := by decide +kernel
theorem dX7_set_30 : decode cX7_set 30 = .ok (.ireturn, 1) := by decide +kernel
theorem dX7_set_31 : decode cX7_set 31 = .ok (.aload_n 0, 1) := by decide +kernel
theorem dX7_set_32 : decode cX7_set 32 = .ok (.invokevirtual 198, 3) := by decide +kernel
theorem dX7_set_35 : decode cX7_set 35 = .ok (.aload_n 0, 1) := by decide +kernel
theorem dX7_set_36 : decode cX7_set 36 = .ok (.getfield 7, 3) := by decide +kernel
theorem dX7_set_39 : decode cX7_set 39 = .ok (.sipush 776, 3) := by decide +kernel
theorem dX7_set_42 : decode cX7_set 42 = .ok (.iload_n 1, 1) := by decide +kernel
theorem dX7_set_43 : decode cX7_set 43 = .ok (.iadd, 1) := by decide +kernel
theorem dX7_set_44 : decode cX7_set 44 = .ok (.iaload, 1) := by decide +kernel
theorem dX7_set_45 : decode cX7_set 45 = .ok (.istore_n 3, 1) := by decide +kernel
theorem dX7_set_46 : decode cX7_set 46 = .ok (.aload_n 0, 1) := by decide +kernel
theorem dX7_set_47 : decode cX7_set 47 = .ok (.getfield 7, 3) := by decide +kernel
theorem dX7_set_50 : decode cX7_set 50 = .ok (.sipush 776, 3) := by decide +kernel
theorem dX7_set_53 : decode cX7_set 53 = .ok (.iload_n 1, 1) := by decide +kernel
theorem dX7_set_54 : decode cX7_set 54 = .ok (.iadd, 1) := by decide +kernel
theorem dX7_set_55 : decode cX7_set 55 = .ok (.iload_n 2, 1) := by decide +kernel
theorem dX7_set_56 : decode cX7_set 56 = .ok (.iastore, 1) := by decide +kernel
theorem dX7_set_57 : decode cX7_set 57 = .ok (.iload_n 3, 1) := by decide +kernel
theorem dX7_set_58 : decode cX7_set 58 = .ok (.ireturn, 1) := by decide +kernel
theorem dX7_nodeOf_0 : decode cX7_nodeOf 0 = .ok (.aload_n 0, 1) := by decide +kernel
theorem dX7_nodeOf_1 : decode cX7_nodeOf 1 = .ok (.bipush 97, 2) := by decide +kernel
theorem dX7_nodeOf_3 : decode cX7_nodeOf 3 = .ok (.iload_n 1, 1) := by decide +kernel
theorem dX7_nodeOf_4 : decode cX7_nodeOf 4 = .ok (.imul, 1) := by decide +kernel
theorem dX7_nodeOf_5 : decode cX7_nodeOf 5 = .ok (.invokevirtual 155, 3) := by decide +kernel
theorem dX7_nodeOf_8 : decode cX7_nodeOf 8 = .ok (.iload_n 3, 1) := by decide +kernel
theorem dX7_nodeOf_9 : decode cX7_nodeOf 9 = .ok (.tableswitch 68 0 3 #[31, 41, 51, 61], 31) := by decide +kernel
theorem dX7_nodeOf_40 : decode cX7_nodeOf 40 = .ok (.aload_n 0, 1) := by decide +kernel
theorem dX7_nodeOf_41 : decode cX7_nodeOf 41 = .ok (.bipush 97, 2) := by decide +kernel
theorem dX7_nodeOf_43 : decode cX7_nodeOf 43 = .ok (.iload_n 1, 1) := by decide +kernel
theorem dX7_nodeOf_44 : decode cX7_nodeOf 44 = .ok (.imul, 1) := by decide +kernel
theorem dX7_nodeOf_45 : decode cX7_nodeOf 45 = .ok (.iload_n 2, 1) := by decide +kernel
theorem dX7_nodeOf_46 : decode cX7_nodeOf 46 = .ok (.invokevirtual 119, 3) := by decide +kernel
theorem dX7_nodeOf_49 : decode cX7_nodeOf 49 = .ok (.ireturn, 1) := by decide +kernel
theorem dX7_nodeOf_50 : decode cX7_nodeOf 50 = .ok (.aload_n 0, 1) := by decide +kernel
theorem dX7_nodeOf_51 : decode cX7_nodeOf 51 = .ok (.bipush 97, 2) := by decide +kernel
theorem dX7_nodeOf_53 : decode cX7_nodeOf 53 = .ok (.iload_n 1, 1) := by decide +kernel
theorem dX7_nodeOf_54 : decode cX7_nodeOf 54 = .ok (.imul, 1) := by decide +kernel
theorem dX7_nodeOf_55 : decode cX7_nodeOf 55 = .ok (.iload_n 2, 1) := by decide +kernel
theorem dX7_nodeOf_56 : decode cX7_nodeOf 56 = .ok (.invokevirtual 159, 3) := by decide +kernel
theorem dX7_nodeOf_59 : decode cX7_nodeOf 59 = .ok (.ireturn, 1) := by decide +kernel
theorem dX7_nodeOf_60 : decode cX7_nodeOf 60 = .ok (.aload_n 0, 1) := by decide +kernel
theorem dX7_nodeOf_61 : decode cX7_nodeOf 61 = .ok (.bipush 97, 2) := by decide +kernel
theorem dX7_nodeOf_63 : decode cX7_nodeOf 63 = .ok (.iload_n 1, 1) := by decide +kernel
theorem dX7_nodeOf_64 : decode cX7_nodeOf 64 = .ok (.imul, 1) := by decide +kernel
theorem dX7_nodeOf_65 : decode cX7_nodeOf 65 = .ok (.iload_n 2, 1) := by decide +kernel
theorem dX7_nodeOf_66 : decode cX7_nodeOf 66 = .ok (.invokevirtual 111, 3) := by decide +kernel
theorem dX7_nodeOf_69 : decode cX7_nodeOf 69 = .ok (.ireturn, 1) := by decide +kernel
theorem dX7_nodeOf_70 : decode cX7_nodeOf 70 = .ok (.aload_n 0, 1) := by decide +kernel
theorem dX7_nodeOf_71 : decode cX7_nodeOf 71 = .ok (.getfield 26, 3) := by decide +kernel
theorem dX7_nodeOf_74 : decode cX7_nodeOf 74 = .ok (.iload_n 2, 1) := by decide +kernel
theorem dX7_nodeOf_75 : decode cX7_nodeOf 75 = .ok (.iaload, 1) := by decide +kernel
theorem dX7_nodeOf_76 : decode cX7_nodeOf 76 = .ok (.ireturn, 1) := by decide +kernel
theorem dX7_nodeOf_77 : decode cX7_nodeOf 77 = .ok (.aload_n 0, 1) := by decide +kernel
theorem dX7_nodeOf_78 : decode cX7_nodeOf 78 = .ok (.getfield 20, 3) := by decide +kernel
theorem dX7_nodeOf_81 : decode cX7_nodeOf 81 = .ok (.iload_n 2, 1) := by decide +kernel
theorem dX7_nodeOf_82 : decode cX7_nodeOf 82 = .ok (.iaload, 1) := by decide +kernel
theorem dX7_nodeOf_83 : decode cX7_nodeOf 83 = .ok (.ireturn, 1) := by decide +kernel
theorem dX7_node_0 : decode cX7_node 0 = .ok (.iload_n 1, 1) := by decide +kernel
theorem dX7_node_1 : decode cX7_node 1 = .ok (.invokestatic 182, 3) := by decide +kernel
theorem dX7_node_4 : decode cX7_node 4 = .ok (.ifCond .eq 16, 3) := by decide +kernel
theorem dX7_node_7 : decode cX7_node 7 = .ok (.iload_n 2, 1) := by decide +kernel
theorem dX7_node_8 : decode cX7_node 8 = .ok (.ifCond .lt 12, 3) := by decide +kernel
theorem dX7_node_11 : decode cX7_node 11 = .ok (.iload_n 3, 1) := by decide +kernel
theorem dX7_node_12 : decode cX7_node 12 = .ok (.iconst 0, 1) := by decide +kernel
theorem dX7_node_13 : decode cX7_node 13 = .ok (.iconst 4, 1) := by decide +kernel
theorem dX7_node_14 : decode cX7_node 14 = .ok (.invokestatic 122, 3) := by decide +kernel
theorem dX7_node_17 : decode cX7_node 17 = .ok (.ifCond .ne 5, 3) := by decide +kernel
theorem dX7_node_20 : decode cX7_node 20 = .ok (.iconst (-1), 1) := by decide +kernel
theorem dX7_node_21 : decode cX7_node 21 = .ok (.ireturn, 1) := by decide +kernel
theorem dX7_node_22 : decode cX7_node 22 = .ok (.aload_n 0, 1) := by decide +kernel
theorem dX7_node_23 : decode cX7_node 23 = .ok (.iload_n 1, 1) := by decide +kernel
theorem dX7_node_24 : decode cX7_node 24 = .ok (.invokevirtual 204, 3) := by decide +kernel
theorem dX7_node_27 : decode cX7_node 27 = .ok (.ifCond .eq 8, 3) := by decide +kernel
theorem dX7_node_30 : decode cX7_node 30 = .ok (.bipush (-2), 2) := by decide +kernel
theorem dX7_node_32 : decode cX7_node 32 = .ok (.goto 28, 3) := by decide +kernel
theorem dX7_node_35 : decode cX7_node 35 = .ok (.iload_n 2, 1) := by decide +kernel
theorem dX7_node_36 : decode cX7_node 36 = .ok (.aload_n 0, 1) := by decide +kernel
theorem dX7_node_37 : decode cX7_node 37 = .ok (.getfield 7, 3) := by decide +kernel
theorem dX7_node_40 : decode cX7_node 40 = .ok (.bipush 97, 2) := by decide +kernel
theorem dX7_node_42 : decode cX7_node 42 = .ok (.iload_n 1, 1) := by decide +kernel
theorem dX7_node_43 : decode cX7_node 43 = .ok (.imul, 1) := by decide +kernel
theorem dX7_node_44 : decode cX7_node 44 = .ok (.iaload, 1) := by decide +kernel
theorem dX7_node_45 : decode cX7_node 45 = .ok (.if_icmp .ge 13, 3) := by decide +kernel
theorem dX7_node_48 : decode cX7_node 48 = .ok (.aload_n 0, 1) := by decide +kernel
theorem dX7_node_49 : decode cX7_node 49 = .ok (.iload_n 1, 1) := by decide +kernel
theorem dX7_node_50 : decode cX7_node 50 = .ok (.iload_n 2, 1) := by decide +kernel
theorem dX7_node_51 : decode cX7_node 51 = .ok (.iload_n 3, 1) := by decide +kernel
theorem dX7_node_52 : decode cX7_node 52 = .ok (.invokevirtual 207, 3) := by decide +kernel
theorem dX7_node_55 : decode cX7_node 55 = .ok (.goto 5, 3) := by decide +kernel
theorem dX7_node_58 : decode cX7_node 58 = .ok (.bipush (-9), 2) := by decide +kernel
theorem dX7_node_60 : decode cX7_node 60 = .ok (.ireturn, 1) := by decide +kernel
theorem dX7_holesOf_0 : decode cX7_holesOf 0 = .ok (.iconst 0, 1) := by decide +kernel
theorem dX7_holesOf_1 : decode cX7_holesOf 1 = .ok (.istore_n 2, 1) := by decide +kernel
theorem dX7_holesOf_2 : decode cX7_holesOf 2 = .ok (.iconst 0, 1) := by decide +kernel
theorem dX7_holesOf_3 : decode cX7_holesOf 3 = .ok (.istore_n 3, 1) := by decide +kernel
theorem dX7_holesOf_4 : decode cX7_holesOf 4 = .ok (.iload_n 3, 1) := by decide +kernel
theorem dX7_holesOf_5 : decode cX7_holesOf 5 = .ok (.aload_n 0, 1) := by decide +kernel
theorem dX7_holesOf_6 : decode cX7_holesOf 6 = .ok (.getfield 7, 3) := by decide +kernel
theorem dX7_holesOf_9 : decode cX7_holesOf 9 = .ok (.iload_n 1, 1) := by decide +kernel
theorem dX7_holesOf_10 : decode cX7_holesOf 10 = .ok (.iaload, 1) := by decide +kernel
theorem dX7_holesOf_11 : decode cX7_holesOf 11 = .ok (.if_icmp .ge 33, 3) := by decide +kernel
theorem dX7_holesOf_14 : decode cX7_holesOf 14 = .ok (.iload_n 2, 1) := by decide +kernel
theorem dX7_holesOf_15 : decode cX7_holesOf 15 = .ok (.aload_n 0, 1) := by decide +kernel
theorem dX7_holesOf_16 : decode cX7_holesOf 16 = .ok (.iload_n 1, 1) := by decide +kernel
theorem dX7_holesOf_17 : decode cX7_holesOf 17 = .ok (.iload_n 3, 1) := by decide +kernel
theorem dX7_holesOf_18 : decode cX7_holesOf 18 = .ok (.invokevirtual 119, 3) := by decide +kernel
theorem dX7_holesOf_21 : decode cX7_holesOf 21 = .ok (.ifCond .ne 7, 3) := by decide +kernel
theorem dX7_holesOf_24 : decode cX7_holesOf 24 = .ok (.iconst 0, 1) := by decide +kernel
theorem dX7_holesOf_25 : decode cX7_holesOf 25 = .ok (.goto 11, 3) := by decide +kernel
theorem dX7_holesOf_28 : decode cX7_holesOf 28 = .ok (.iconst 1, 1) := by decide +kernel
theorem dX7_holesOf_29 : decode cX7_holesOf 29 = .ok (.aload_n 0, 1) := by decide +kernel
theorem dX7_holesOf_30 : decode cX7_holesOf 30 = .ok (.iload_n 1, 1) := by decide +kernel
theorem dX7_holesOf_31 : decode cX7_holesOf 31 = .ok (.iload_n 3, 1) := by decide +kernel
theorem dX7_holesOf_32 : decode cX7_holesOf 32 = .ok (.invokevirtual 159, 3) := by decide +kernel
theorem dX7_holesOf_35 : decode cX7_holesOf 35 = .ok (.ishl, 1) := by decide +kernel
theorem dX7_holesOf_36 : decode cX7_holesOf 36 = .ok (.ior, 1) := by decide +kernel
theorem dX7_holesOf_37 : decode cX7_holesOf 37 = .ok (.istore_n 2, 1) := by decide +kernel
theorem dX7_holesOf_38 : decode cX7_holesOf 38 = .ok (.iinc 3 1, 3) := by decide +kernel
theorem dX7_holesOf_41 : decode cX7_holesOf 41 = .ok (.goto (-37), 3) := by decide +kernel
theorem dX7_holesOf_44 : decode cX7_holesOf 44 = .ok (.iload_n 2, 1) := by decide +kernel
theorem dX7_holesOf_45 : decode cX7_holesOf 45 = .ok (.ireturn, 1) := by decide +kernel
theorem dX7_sizeOf_0 : decode cX7_sizeOf 0 = .ok (.bipush 97, 2) := by decide +kernel
theorem dX7_sizeOf_2 : decode cX7_sizeOf 2 = .ok (.iload_n 1, 1) := by decide +kernel
theorem dX7_sizeOf_3 : decode cX7_sizeOf 3 = .ok (.imul, 1) := by decide +kernel
theorem dX7_sizeOf_4 : decode cX7_sizeOf 4 = .ok (.istore_n 3, 1) := by decide +kernel
theorem dX7_sizeOf_5 : decode cX7_sizeOf 5 = .ok (.aload_n 0, 1) := by decide +kernel
theorem dX7_sizeOf_6 : decode cX7_sizeOf 6 = .ok (.iload_n 3, 1) := by decide +kernel
theorem dX7_sizeOf_7 : decode cX7_sizeOf 7 = .ok (.invokevirtual 211, 3) := by decide +kernel
theorem dX7_sizeOf_10 : decode cX7_sizeOf 10 = .ok (.istore 4, 2) := by decide +kernel
theorem dX7_sizeOf_12 : decode cX7_sizeOf 12 = .ok (.iconst 0, 1) := by decide +kernel
theorem dX7_sizeOf_13 : decode cX7_sizeOf 13 = .ok (.istore 5, 2) := by decide +kernel
theorem dX7_sizeOf_15 : decode cX7_sizeOf 15 = .ok (.iconst 0, 1) := by decide +kernel
theorem dX7_sizeOf_16 : decode cX7_sizeOf 16 = .ok (.istore 6, 2) := by decide +kernel
theorem dX7_sizeOf_18 : decode cX7_sizeOf 18 = .ok (.aload_n 0, 1) := by decide +kernel
theorem dX7_sizeOf_19 : decode cX7_sizeOf 19 = .ok (.iload_n 3, 1) := by decide +kernel
theorem dX7_sizeOf_20 : decode cX7_sizeOf 20 = .ok (.invokevirtual 155, 3) := by decide +kernel
theorem dX7_sizeOf_23 : decode cX7_sizeOf 23 = .ok (.iconst 0, 1) := by decide +kernel
theorem dX7_sizeOf_24 : decode cX7_sizeOf 24 = .ok (.istore 7, 2) := by decide +kernel
theorem dX7_sizeOf_26 : decode cX7_sizeOf 26 = .ok (.iload 7, 2) := by decide +kernel
theorem dX7_sizeOf_28 : decode cX7_sizeOf 28 = .ok (.aload_n 0, 1) := by decide +kernel
theorem dX7_sizeOf_29 : decode cX7_sizeOf 29 = .ok (.getfield 7, 3) := by decide +kernel
theorem dX7_sizeOf_32 : decode cX7_sizeOf 32 = .ok (.iload_n 3, 1) := by decide +kernel
theorem dX7_sizeOf_33 : decode cX7_sizeOf 33 = .ok (.iaload, 1) := by decide +kernel
theorem dX7_sizeOf_34 : decode cX7_sizeOf 34 = .ok (.if_icmp .ge 55, 3) := by decide +kernel
theorem dX7_sizeOf_37 : decode cX7_sizeOf 37 = .ok (.iload 5, 2) := by decide +kernel
theorem dX7_sizeOf_39 : decode cX7_sizeOf 39 = .ok (.aload_n 0, 1) := by decide +kernel
theorem dX7_sizeOf_40 : decode cX7_sizeOf 40 = .ok (.iload_n 3, 1) := by decide +kernel
theorem dX7_sizeOf_41 : decode cX7_sizeOf 41 = .ok (.iload 7, 2) := by decide +kernel
theorem dX7_sizeOf_43 : decode cX7_sizeOf 43 = .ok (.invokevirtual 119, 3) := by decide +kernel
theorem dX7_sizeOf_46 : decode cX7_sizeOf 46 = .ok (.ifCond .ne 7, 3) := by decide +kernel
theorem dX7_sizeOf_49 : decode cX7_sizeOf 49 = .ok (.iconst 1, 1) := by decide +kernel
theorem dX7_sizeOf_50 : decode cX7_sizeOf 50 = .ok (.goto 4, 3) := by decide +kernel
theorem dX7_sizeOf_53 : decode cX7_sizeOf 53 = .ok (.iconst 0, 1) := by decide +kernel
theorem dX7_sizeOf_54 : decode cX7_sizeOf 54 = .ok (.iadd, 1) := by decide +kernel
theorem dX7_sizeOf_55 : decode cX7_sizeOf 55 = .ok (.istore 5, 2) := by decide +kernel
theorem dX7_sizeOf_57 : decode cX7_sizeOf 57 = .ok (.aload_n 0, 1) := by decide +kernel
theorem dX7_sizeOf_58 : decode cX7_sizeOf 58 = .ok (.getfield 26, 3) := by decide +kernel
theorem dX7_sizeOf_61 : decode cX7_sizeOf 61 = .ok (.iload 7, 2) := by decide +kernel
theorem dX7_sizeOf_63 : decode cX7_sizeOf 63 = .ok (.iaload, 1) := by decide +kernel
theorem dX7_sizeOf_64 : decode cX7_sizeOf 64 = .ok (.iload 6, 2) := by decide +kernel
theorem dX7_sizeOf_66 : decode cX7_sizeOf 66 = .ok (.if_icmp .le 13, 3) := by decide +kernel
theorem dX7_sizeOf_69 : decode cX7_sizeOf 69 = .ok (.aload_n 0, 1) := by decide +kernel
theorem dX7_sizeOf_70 : decode cX7_sizeOf 70 = .ok (.getfield 26, 3) := by decide +kernel
theorem dX7_sizeOf_73 : decode cX7_sizeOf 73 = .ok (.iload 7, 2) := by decide +kernel
theorem dX7_sizeOf_75 : decode cX7_sizeOf 75 = .ok (.iaload, 1) := by decide +kernel
theorem dX7_sizeOf_76 : decode cX7_sizeOf 76 = .ok (.goto 5, 3) := by decide +kernel
theorem dX7_sizeOf_79 : decode cX7_sizeOf 79 = .ok (.iload 6, 2) := by decide +kernel
theorem dX7_sizeOf_81 : decode cX7_sizeOf 81 = .ok (.istore 6, 2) := by decide +kernel
theorem dX7_sizeOf_83 : decode cX7_sizeOf 83 = .ok (.iinc 7 1, 3) := by decide +kernel
theorem dX7_sizeOf_86 : decode cX7_sizeOf 86 = .ok (.goto (-60), 3) := by decide +kernel
theorem dX7_sizeOf_89 : decode cX7_sizeOf 89 = .ok (.iconst 0, 1) := by decide +kernel
theorem dX7_sizeOf_90 : decode cX7_sizeOf 90 = .ok (.istore 7, 2) := by decide +kernel
theorem dX7_sizeOf_92 : decode cX7_sizeOf 92 = .ok (.iconst 0, 1) := by decide +kernel
theorem dX7_sizeOf_93 : decode cX7_sizeOf 93 = .ok (.istore 8, 2) := by decide +kernel
theorem dX7_sizeOf_95 : decode cX7_sizeOf 95 = .ok (.iconst 0, 1) := by decide +kernel
theorem dX7_sizeOf_96 : decode cX7_sizeOf 96 = .ok (.istore 9, 2) := by decide +kernel
theorem dX7_sizeOf_98 : decode cX7_sizeOf 98 = .ok (.iload 9, 2) := by decide +kernel
theorem dX7_sizeOf_100 : decode cX7_sizeOf 100 = .ok (.bipush 10, 2) := by decide +kernel
theorem dX7_sizeOf_102 : decode cX7_sizeOf 102 = .ok (.if_icmp .ge 36, 3) := by decide +kernel
theorem dX7_sizeOf_105 : decode cX7_sizeOf 105 = .ok (.iload 7, 2) := by decide +kernel
theorem dX7_sizeOf_107 : decode cX7_sizeOf 107 = .ok (.iload 4, 2) := by decide +kernel
theorem dX7_sizeOf_109 : decode cX7_sizeOf 109 = .ok (.iload 9, 2) := by decide +kernel
theorem dX7_sizeOf_111 : decode cX7_sizeOf 111 = .ok (.ishr, 1) := by decide +kernel
theorem dX7_sizeOf_112 : decode cX7_sizeOf 112 = .ok (.iconst 1, 1) := by decide +kernel
theorem dX7_sizeOf_113 : decode cX7_sizeOf 113 = .ok (.iand, 1) := by decide +kernel
theorem dX7_sizeOf_114 : decode cX7_sizeOf 114 = .ok (.iadd, 1) := by decide +kernel
theorem dX7_sizeOf_115 : decode cX7_sizeOf 115 = .ok (.istore 7, 2) := by decide +kernel
theorem dX7_sizeOf_117 : decode cX7_sizeOf 117 = .ok (.iload 8, 2) := by decide +kernel
theorem dX7_sizeOf_119 : decode cX7_sizeOf 119 = .ok (.iload 4, 2) := by decide +kernel
theorem dX7_sizeOf_121 : decode cX7_sizeOf 121 = .ok (.iload 9, 2) := by decide +kernel
theorem dX7_sizeOf_123 : decode cX7_sizeOf 123 = .ok (.ishr, 1) := by decide +kernel
theorem dX7_sizeOf_124 : decode cX7_sizeOf 124 = .ok (.iconst 1, 1) := by decide +kernel
theorem dX7_sizeOf_125 : decode cX7_sizeOf 125 = .ok (.iand, 1) := by decide +kernel
theorem dX7_sizeOf_126 : decode cX7_sizeOf 126 = .ok (.iload 9, 2) := by decide +kernel
theorem dX7_sizeOf_128 : decode cX7_sizeOf 128 = .ok (.imul, 1) := by decide +kernel
theorem dX7_sizeOf_129 : decode cX7_sizeOf 129 = .ok (.iadd, 1) := by decide +kernel
theorem dX7_sizeOf_130 : decode cX7_sizeOf 130 = .ok (.istore 8, 2) := by decide +kernel
theorem dX7_sizeOf_132 : decode cX7_sizeOf 132 = .ok (.iinc 9 1, 3) := by decide +kernel
theorem dX7_sizeOf_135 : decode cX7_sizeOf 135 = .ok (.goto (-37), 3) := by decide +kernel
theorem dX7_sizeOf_138 : decode cX7_sizeOf 138 = .ok (.iload_n 2, 1) := by decide +kernel
theorem dX7_sizeOf_139 : decode cX7_sizeOf 139 = .ok (.ifCond .ne 12, 3) := by decide +kernel
theorem dX7_sizeOf_142 : decode cX7_sizeOf 142 = .ok (.aload_n 0, 1) := by decide +kernel
theorem dX7_sizeOf_143 : decode cX7_sizeOf 143 = .ok (.getfield 7, 3) := by decide +kernel
theorem dX7_sizeOf_146 : decode cX7_sizeOf 146 = .ok (.iload_n 3, 1) := by decide +kernel
theorem dX7_sizeOf_147 : decode cX7_sizeOf 147 = .ok (.iaload, 1) := by decide +kernel
theorem dX7_sizeOf_148 : decode cX7_sizeOf 148 = .ok (.goto 35, 3) := by decide +kernel
theorem dX7_sizeOf_151 : decode cX7_sizeOf 151 = .ok (.iload_n 2, 1) := by decide +kernel
theorem dX7_sizeOf_152 : decode cX7_sizeOf 152 = .ok (.iconst 1, 1) := by decide +kernel
theorem dX7_sizeOf_153 : decode cX7_sizeOf 153 = .ok (.if_icmp .ne 8, 3) := by decide +kernel
theorem dX7_sizeOf_156 : decode cX7_sizeOf 156 = .ok (.iload 5, 2) := by decide +kernel
theorem dX7_sizeOf_158 : decode cX7_sizeOf 158 = .ok (.goto 25, 3) := by decide +kernel
theorem dX7_sizeOf_161 : decode cX7_sizeOf 161 = .ok (.iload_n 2, 1) := by decide +kernel
theorem dX7_sizeOf_162 : decode cX7_sizeOf 162 = .ok (.iconst 2, 1) := by decide +kernel
theorem dX7_sizeOf_163 : decode cX7_sizeOf 163 = .ok (.if_icmp .ne 8, 3) := by decide +kernel
theorem dX7_sizeOf_166 : decode cX7_sizeOf 166 = .ok (.iload 7, 2) := by decide +kernel
theorem dX7_sizeOf_168 : decode cX7_sizeOf 168 = .ok (.goto 15, 3) := by decide +kernel
theorem dX7_sizeOf_171 : decode cX7_sizeOf 171 = .ok (.iload_n 2, 1) := by decide +kernel
theorem dX7_sizeOf_172 : decode cX7_sizeOf 172 = .ok (.iconst 3, 1) := by decide +kernel
theorem dX7_sizeOf_173 : decode cX7_sizeOf 173 = .ok (.if_icmp .ne 8, 3) := by decide +kernel
theorem dX7_sizeOf_176 : decode cX7_sizeOf 176 = .ok (.iload 6, 2) := by decide +kernel
theorem dX7_sizeOf_178 : decode cX7_sizeOf 178 = .ok (.goto 5, 3) := by decide +kernel
theorem dX7_sizeOf_181 : decode cX7_sizeOf 181 = .ok (.iload 8, 2) := by decide +kernel
theorem dX7_sizeOf_183 : decode cX7_sizeOf 183 = .ok (.ireturn, 1) := by decide +kernel
theorem dX7_size_0 : decode cX7_size 0 = .ok (.iload_n 1, 1) := by decide +kernel
theorem dX7_size_1 : decode cX7_size 1 = .ok (.invokestatic 182, 3) := by decide +kernel
theorem dX7_size_4 : decode cX7_size 4 = .ok (.ifCond .eq 12, 3) := by decide +kernel
theorem dX7_size_7 : decode cX7_size 7 = .ok (.iload_n 2, 1) := by decide +kernel
theorem dX7_size_8 : decode cX7_size 8 = .ok (.iconst 0, 1) := by decide +kernel
theorem dX7_size_9 : decode cX7_size 9 = .ok (.iconst 4, 1) := by decide +kernel
theorem dX7_size_10 : decode cX7_size 10 = .ok (.invokestatic 122, 3) := by decide +kernel
theorem dX7_size_13 : decode cX7_size 13 = .ok (.ifCond .ne 5, 3) := by decide +kernel
theorem dX7_size_16 : decode cX7_size 16 = .ok (.iconst (-1), 1) := by decide +kernel
theorem dX7_size_17 : decode cX7_size 17 = .ok (.ireturn, 1) := by decide +kernel
theorem dX7_size_18 : decode cX7_size 18 = .ok (.aload_n 0, 1) := by decide +kernel
theorem dX7_size_19 : decode cX7_size 19 = .ok (.iload_n 1, 1) := by decide +kernel
theorem dX7_size_20 : decode cX7_size 20 = .ok (.invokevirtual 204, 3) := by decide +kernel
theorem dX7_size_23 : decode cX7_size 23 = .ok (.ifCond .eq 8, 3) := by decide +kernel
theorem dX7_size_26 : decode cX7_size 26 = .ok (.bipush (-2), 2) := by decide +kernel
theorem dX7_size_28 : decode cX7_size 28 = .ok (.goto 9, 3) := by decide +kernel
theorem dX7_size_31 : decode cX7_size 31 = .ok (.aload_n 0, 1) := by decide +kernel
theorem dX7_size_32 : decode cX7_size 32 = .ok (.iload_n 1, 1) := by decide +kernel
theorem dX7_size_33 : decode cX7_size 33 = .ok (.iload_n 2, 1) := by decide +kernel
theorem dX7_size_34 : decode cX7_size 34 = .ok (.invokevirtual 214, 3) := by decide +kernel
theorem dX7_size_37 : decode cX7_size 37 = .ok (.ireturn, 1) := by decide +kernel
theorem dX7_isPair_0 : decode cX7_isPair 0 = .ok (.aload_n 0, 1) := by decide +kernel
theorem dX7_isPair_1 : decode cX7_isPair 1 = .ok (.getfield 45, 3) := by decide +kernel
theorem dX7_isPair_4 : decode cX7_isPair 4 = .ok (.iload_n 1, 1) := by decide +kernel
theorem dX7_isPair_5 : decode cX7_isPair 5 = .ok (.iaload, 1) := by decide +kernel
theorem dX7_isPair_6 : decode cX7_isPair 6 = .ok (.iload_n 2, 1) := by decide +kernel
theorem dX7_isPair_7 : decode cX7_isPair 7 = .ok (.if_icmp .ne 25, 3) := by decide +kernel
theorem dX7_isPair_10 : decode cX7_isPair 10 = .ok (.aload_n 0, 1) := by decide +kernel
theorem dX7_isPair_11 : decode cX7_isPair 11 = .ok (.getfield 54, 3) := by decide +kernel
theorem dX7_isPair_14 : decode cX7_isPair 14 = .ok (.iload_n 1, 1) := by decide +kernel
theorem dX7_isPair_15 : decode cX7_isPair 15 = .ok (.iaload, 1) := by decide +kernel
theorem dX7_isPair_16 : decode cX7_isPair 16 = .ok (.iload 5, 2) := by decide +kernel
theorem dX7_isPair_18 : decode cX7_isPair 18 = .ok (.if_icmp .ne 14, 3) := by decide +kernel
theorem dX7_isPair_21 : decode cX7_isPair 21 = .ok (.aload_n 0, 1) := by decide +kernel
theorem dX7_isPair_22 : decode cX7_isPair 22 = .ok (.getfield 63, 3) := by decide +kernel
theorem dX7_isPair_25 : decode cX7_isPair 25 = .ok (.iload_n 1, 1) := by decide +kernel
theorem dX7_isPair_26 : decode cX7_isPair 26 = .ok (.iaload, 1) := by decide +kernel
theorem dX7_isPair_27 : decode cX7_isPair 27 = .ok (.iload 8, 2) := by decide +kernel
theorem dX7_isPair_29 : decode cX7_isPair 29 = .ok (.if_icmp .eq 5, 3) := by decide +kernel
theorem dX7_isPair_32 : decode cX7_isPair 32 = .ok (.iconst 0, 1) := by decide +kernel
theorem dX7_isPair_33 : decode cX7_isPair 33 = .ok (.ireturn, 1) := by decide +kernel
theorem dX7_isPair_34 : decode cX7_isPair 34 = .ok (.iload_n 2, 1) := by decide +kernel
theorem dX7_isPair_35 : decode cX7_isPair 35 = .ok (.iconst 2, 1) := by decide +kernel
theorem dX7_isPair_36 : decode cX7_isPair 36 = .ok (.if_icmp .ne 62, 3) := by decide +kernel
theorem dX7_isPair_39 : decode cX7_isPair 39 = .ok (.aload_n 0, 1) := by decide +kernel
theorem dX7_isPair_40 : decode cX7_isPair 40 = .ok (.aload_n 0, 1) := by decide +kernel
theorem dX7_isPair_41 : decode cX7_isPair 41 = .ok (.getfield 48, 3) := by decide +kernel
theorem dX7_isPair_44 : decode cX7_isPair 44 = .ok (.iload_n 1, 1) := by decide +kernel
theorem dX7_isPair_45 : decode cX7_isPair 45 = .ok (.iaload, 1) := by decide +kernel
theorem dX7_isPair_46 : decode cX7_isPair 46 = .ok (.aload_n 0, 1) := by decide +kernel
theorem dX7_isPair_47 : decode cX7_isPair 47 = .ok (.getfield 51, 3) := by decide +kernel
theorem dX7_isPair_50 : decode cX7_isPair 50 = .ok (.iload_n 1, 1) := by decide +kernel
theorem dX7_isPair_51 : decode cX7_isPair 51 = .ok (.iaload, 1) := by decide +kernel
theorem dX7_isPair_52 : decode cX7_isPair 52 = .ok (.invokevirtual 159, 3) := by decide +kernel
theorem dX7_isPair_55 : decode cX7_isPair 55 = .ok (.aload_n 0, 1) := by decide +kernel
theorem dX7_isPair_56 : decode cX7_isPair 56 = .ok (.iload_n 3, 1) := by decide +kernel
theorem dX7_isPair_57 : decode cX7_isPair 57 = .ok (.iload 4, 2) := by decide +kernel
theorem dX7_isPair_59 : decode cX7_isPair 59 = .ok (.invokevirtual 159, 3) := by decide +kernel
theorem dX7_isPair_62 : decode cX7_isPair 62 = .ok (.if_icmp .ne 34, 3) := by decide +kernel
theorem dX7_isPair_65 : decode cX7_isPair 65 = .ok (.aload_n 0, 1) := by decide +kernel
theorem dX7_isPair_66 : decode cX7_isPair 66 = .ok (.aload_n 0, 1) := by decide +kernel
theorem dX7_isPair_67 : decode cX7_isPair 67 = .ok (.getfield 57, 3) := by decide +kernel
theorem dX7_isPair_70 : decode cX7_isPair 70 = .ok (.iload_n 1, 1) := by decide +kernel
theorem dX7_isPair_71 : decode cX7_isPair 71 = .ok (.iaload, 1) := by decide +kernel
theorem dX7_isPair_72 : decode cX7_isPair 72 = .ok (.aload_n 0, 1) := by decide +kernel
theorem dX7_isPair_73 : decode cX7_isPair 73 = .ok (.getfield 60, 3) := by decide +kernel
theorem dX7_isPair_76 : decode cX7_isPair 76 = .ok (.iload_n 1, 1) := by decide +kernel
theorem dX7_isPair_77 : decode cX7_isPair 77 = .ok (.iaload, 1) := by decide +kernel
theorem dX7_isPair_78 : decode cX7_isPair 78 = .ok (.invokevirtual 159, 3) := by decide +kernel
theorem dX7_isPair_81 : decode cX7_isPair 81 = .ok (.aload_n 0, 1) := by decide +kernel
theorem dX7_isPair_82 : decode cX7_isPair 82 = .ok (.iload 6, 2) := by decide +kernel
theorem dX7_isPair_84 : decode cX7_isPair 84 = .ok (.iload 7, 2) := by decide +kernel
theorem dX7_isPair_86 : decode cX7_isPair 86 = .ok (.invokevirtual 159, 3) := by decide +kernel
theorem dX7_isPair_89 : decode cX7_isPair 89 = .ok (.if_icmp .ne 7, 3) := by decide +kernel
theorem dX7_isPair_92 : decode cX7_isPair 92 = .ok (.iconst 1, 1) := by decide +kernel
theorem dX7_isPair_93 : decode cX7_isPair 93 = .ok (.goto 4, 3) := by decide +kernel
theorem dX7_isPair_96 : decode cX7_isPair 96 = .ok (.iconst 0, 1) := by decide +kernel
theorem dX7_isPair_97 : decode cX7_isPair 97 = .ok (.ireturn, 1) := by decide +kernel
theorem dX7_isPair_98 : decode cX7_isPair 98 = .ok (.aload_n 0, 1) := by decide +kernel
theorem dX7_isPair_99 : decode cX7_isPair 99 = .ok (.aload_n 0, 1) := by decide +kernel
theorem dX7_isPair_100 : decode cX7_isPair 100 = .ok (.getfield 48, 3) := by decide +kernel
theorem dX7_isPair_103 : decode cX7_isPair 103 = .ok (.iload_n 1, 1) := by decide +kernel
theorem dX7_isPair_104 : decode cX7_isPair 104 = .ok (.iaload, 1) := by decide +kernel
theorem dX7_isPair_105 : decode cX7_isPair 105 = .ok (.aload_n 0, 1) := by decide +kernel
theorem dX7_isPair_106 : decode cX7_isPair 106 = .ok (.getfield 51, 3) := by decide +kernel
theorem dX7_isPair_109 : decode cX7_isPair 109 = .ok (.iload_n 1, 1) := by decide +kernel
theorem dX7_isPair_110 : decode cX7_isPair 110 = .ok (.iaload, 1) := by decide +kernel
theorem dX7_isPair_111 : decode cX7_isPair 111 = .ok (.iload_n 3, 1) := by decide +kernel
theorem dX7_isPair_112 : decode cX7_isPair 112 = .ok (.iload 4, 2) := by decide +kernel
theorem dX7_isPair_114 : decode cX7_isPair 114 = .ok (.iload 5, 2) := by decide +kernel
theorem dX7_isPair_116 : decode cX7_isPair 116 = .ok (.invokevirtual 217, 3) := by decide +kernel
theorem dX7_isPair_119 : decode cX7_isPair 119 = .ok (.ifCond .eq 32, 3) := by decide +kernel
theorem dX7_isPair_122 : decode cX7_isPair 122 = .ok (.aload_n 0, 1) := by decide +kernel
theorem dX7_isPair_123 : decode cX7_isPair 123 = .ok (.aload_n 0, 1) := by decide +kernel
theorem dX7_isPair_124 : decode cX7_isPair 124 = .ok (.getfield 57, 3) := by decide +kernel
theorem dX7_isPair_127 : decode cX7_isPair 127 = .ok (.iload_n 1, 1) := by decide +kernel
theorem dX7_isPair_128 : decode cX7_isPair 128 = .ok (.iaload, 1) := by decide +kernel
theorem dX7_isPair_129 : decode cX7_isPair 129 = .ok (.aload_n 0, 1) := by decide +kernel
theorem dX7_isPair_130 : decode cX7_isPair 130 = .ok (.getfield 60, 3) := by decide +kernel
theorem dX7_isPair_133 : decode cX7_isPair 133 = .ok (.iload_n 1, 1) := by decide +kernel
theorem dX7_isPair_134 : decode cX7_isPair 134 = .ok (.iaload, 1) := by decide +kernel
theorem dX7_isPair_135 : decode cX7_isPair 135 = .ok (.iload 6, 2) := by decide +kernel
theorem dX7_isPair_137 : decode cX7_isPair 137 = .ok (.iload 7, 2) := by decide +kernel
theorem dX7_isPair_139 : decode cX7_isPair 139 = .ok (.iload 8, 2) := by decide +kernel
theorem dX7_isPair_141 : decode cX7_isPair 141 = .ok (.invokevirtual 217, 3) := by decide +kernel
theorem dX7_isPair_144 : decode cX7_isPair 144 = .ok (.ifCond .eq 7, 3) := by decide +kernel
theorem dX7_isPair_147 : decode cX7_isPair 147 = .ok (.iconst 1, 1) := by decide +kernel
theorem dX7_isPair_148 : decode cX7_isPair 148 = .ok (.goto 4, 3) := by decide +kernel
theorem dX7_isPair_151 : decode cX7_isPair 151 = .ok (.iconst 0, 1) := by decide +kernel
theorem dX7_isPair_152 : decode cX7_isPair 152 = .ok (.ireturn, 1) := by decide +kernel
theorem dX7_holeFor_0 : decode cX7_holeFor 0 = .ok (.iconst 0, 1) := by decide +kernel
theorem dX7_holeFor_1 : decode cX7_holeFor 1 = .ok (.istore 8, 2) := by decide +kernel
theorem dX7_holeFor_3 : decode cX7_holeFor 3 = .ok (.iload 8, 2) := by decide +kernel
theorem dX7_holeFor_5 : decode cX7_holeFor 5 = .ok (.aload_n 0, 1) := by decide +kernel
theorem dX7_holeFor_6 : decode cX7_holeFor 6 = .ok (.getfield 221, 3) := by decide +kernel
theorem dX7_holeFor_9 : decode cX7_holeFor 9 = .ok (.if_icmp .ge 32, 3) := by decide +kernel
theorem dX7_holeFor_12 : decode cX7_holeFor 12 = .ok (.aload_n 0, 1) := by decide +kernel
theorem dX7_holeFor_13 : decode cX7_holeFor 13 = .ok (.iload 8, 2) := by decide +kernel
theorem dX7_holeFor_15 : decode cX7_holeFor 15 = .ok (.iload_n 1, 1) := by decide +kernel
theorem dX7_holeFor_16 : decode cX7_holeFor 16 = .ok (.iload_n 2, 1) := by decide +kernel
theorem dX7_holeFor_17 : decode cX7_holeFor 17 = .ok (.iload_n 3, 1) := by decide +kernel
theorem dX7_holeFor_18 : decode cX7_holeFor 18 = .ok (.iload 4, 2) := by decide +kernel
theorem dX7_holeFor_20 : decode cX7_holeFor 20 = .ok (.iload 5, 2) := by decide +kernel
theorem dX7_holeFor_22 : decode cX7_holeFor 22 = .ok (.iload 6, 2) := by decide +kernel
theorem dX7_holeFor_24 : decode cX7_holeFor 24 = .ok (.iload 7, 2) := by decide +kernel
theorem dX7_holeFor_26 : decode cX7_holeFor 26 = .ok (.invokevirtual 224, 3) := by decide +kernel
theorem dX7_holeFor_29 : decode cX7_holeFor 29 = .ok (.ifCond .eq 6, 3) := by decide +kernel
theorem dX7_holeFor_32 : decode cX7_holeFor 32 = .ok (.iload 8, 2) := by decide +kernel
theorem dX7_holeFor_34 : decode cX7_holeFor 34 = .ok (.ireturn, 1) := by decide +kernel
theorem dX7_holeFor_35 : decode cX7_holeFor 35 = .ok (.iinc 8 1, 3) := by decide +kernel
theorem dX7_holeFor_38 : decode cX7_holeFor 38 = .ok (.goto (-35), 3) := by decide +kernel
theorem dX7_holeFor_41 : decode cX7_holeFor 41 = .ok (.aload_n 0, 1) := by decide +kernel
theorem dX7_holeFor_42 : decode cX7_holeFor 42 = .ok (.getfield 221, 3) := by decide +kernel
theorem dX7_holeFor_45 : decode cX7_holeFor 45 = .ok (.bipush 10, 2) := by decide +kernel
theorem dX7_holeFor_47 : decode cX7_holeFor 47 = .ok (.if_icmp .ne 6, 3) := by decide +kernel
theorem dX7_holeFor_50 : decode cX7_holeFor 50 = .ok (.bipush (-9), 2) := by decide +kernel
theorem dX7_holeFor_52 : decode cX7_holeFor 52 = .ok (.ireturn, 1) := by decide +kernel
theorem dX7_holeFor_53 : decode cX7_holeFor 53 = .ok (.aload_n 0, 1) := by decide +kernel
theorem dX7_holeFor_54 : decode cX7_holeFor 54 = .ok (.getfield 45, 3) := by decide +kernel
theorem dX7_holeFor_57 : decode cX7_holeFor 57 = .ok (.aload_n 0, 1) := by decide +kernel
theorem dX7_holeFor_58 : decode cX7_holeFor 58 = .ok (.getfield 221, 3) := by decide +kernel
theorem dX7_holeFor_61 : decode cX7_holeFor 61 = .ok (.iload_n 1, 1) := by decide +kernel
theorem dX7_holeFor_62 : decode cX7_holeFor 62 = .ok (.iastore, 1) := by decide +kernel
theorem dX7_holeFor_63 : decode cX7_holeFor 63 = .ok (.aload_n 0, 1) := by decide +kernel
theorem dX7_holeFor_64 : decode cX7_holeFor 64 = .ok (.getfield 48, 3) := by decide +kernel
theorem dX7_holeFor_67 : decode cX7_holeFor 67 = .ok (.aload_n 0, 1) := by decide +kernel
theorem dX7_holeFor_68 : decode cX7_holeFor 68 = .ok (.getfield 221, 3) := by decide +kernel
theorem dX7_holeFor_71 : decode cX7_holeFor 71 = .ok (.iload_n 2, 1) := by decide +kernel
theorem dX7_holeFor_72 : decode cX7_holeFor 72 = .ok (.iastore, 1) := by decide +kernel
theorem dX7_holeFor_73 : decode cX7_holeFor 73 = .ok (.aload_n 0, 1) := by decide +kernel
theorem dX7_holeFor_74 : decode cX7_holeFor 74 = .ok (.getfield 51, 3) := by decide +kernel
theorem dX7_holeFor_77 : decode cX7_holeFor 77 = .ok (.aload_n 0, 1) := by decide +kernel
theorem dX7_holeFor_78 : decode cX7_holeFor 78 = .ok (.getfield 221, 3) := by decide +kernel
theorem dX7_holeFor_81 : decode cX7_holeFor 81 = .ok (.iload_n 3, 1) := by decide +kernel
theorem dX7_holeFor_82 : decode cX7_holeFor 82 = .ok (.iastore, 1) := by decide +kernel
theorem dX7_holeFor_83 : decode cX7_holeFor 83 = .ok (.aload_n 0, 1) := by decide +kernel
theorem dX7_holeFor_84 : decode cX7_holeFor 84 = .ok (.getfield 54, 3) := by decide +kernel
theorem dX7_holeFor_87 : decode cX7_holeFor 87 = .ok (.aload_n 0, 1) := by decide +kernel
theorem dX7_holeFor_88 : decode cX7_holeFor 88 = .ok (.getfield 221, 3) := by decide +kernel
theorem dX7_holeFor_91 : decode cX7_holeFor 91 = .ok (.iload 4, 2) := by decide +kernel
theorem dX7_holeFor_93 : decode cX7_holeFor 93 = .ok (.iastore, 1) := by decide +kernel
theorem dX7_holeFor_94 : decode cX7_holeFor 94 = .ok (.aload_n 0, 1) := by decide +kernel
theorem dX7_holeFor_95 : decode cX7_holeFor 95 = .ok (.getfield 57, 3) := by decide +kernel
theorem dX7_holeFor_98 : decode cX7_holeFor 98 = .ok (.aload_n 0, 1) := by decide +kernel
theorem dX7_holeFor_99 : decode cX7_holeFor 99 = .ok (.getfield 221, 3) := by decide +kernel
theorem dX7_holeFor_102 : decode cX7_holeFor 102 = .ok (.iload 5, 2) := by decide +kernel
theorem dX7_holeFor_104 : decode cX7_holeFor 104 = .ok (.iastore, 1) := by decide +kernel
theorem dX7_holeFor_105 : decode cX7_holeFor 105 = .ok (.aload_n 0, 1) := by decide +kernel
theorem dX7_holeFor_106 : decode cX7_holeFor 106 = .ok (.getfield 60, 3) := by decide +kernel
theorem dX7_holeFor_109 : decode cX7_holeFor 109 = .ok (.aload_n 0, 1) := by decide +kernel
theorem dX7_holeFor_110 : decode cX7_holeFor 110 = .ok (.getfield 221, 3) := by decide +kernel
theorem dX7_holeFor_113 : decode cX7_holeFor 113 = .ok (.iload 6, 2) := by decide +kernel
theorem dX7_holeFor_115 : decode cX7_holeFor 115 = .ok (.iastore, 1) := by decide +kernel
theorem dX7_holeFor_116 : decode cX7_holeFor 116 = .ok (.aload_n 0, 1) := by decide +kernel
theorem dX7_holeFor_117 : decode cX7_holeFor 117 = .ok (.getfield 63, 3) := by decide +kernel
theorem dX7_holeFor_120 : decode cX7_holeFor 120 = .ok (.aload_n 0, 1) := by decide +kernel
theorem dX7_holeFor_121 : decode cX7_holeFor 121 = .ok (.getfield 221, 3) := by decide +kernel
theorem dX7_holeFor_124 : decode cX7_holeFor 124 = .ok (.iload 7, 2) := by decide +kernel
theorem dX7_holeFor_126 : decode cX7_holeFor 126 = .ok (.iastore, 1) := by decide +kernel
theorem dX7_holeFor_127 : decode cX7_holeFor 127 = .ok (.aload_n 0, 1) := by decide +kernel
theorem dX7_holeFor_128 : decode cX7_holeFor 128 = .ok (.dup, 1) := by decide +kernel
theorem dX7_holeFor_129 : decode cX7_holeFor 129 = .ok (.getfield 221, 3) := by decide +kernel
theorem dX7_holeFor_132 : decode cX7_holeFor 132 = .ok (.iconst 1, 1) := by decide +kernel
theorem dX7_holeFor_133 : decode cX7_holeFor 133 = .ok (.iadd, 1) := by decide +kernel
theorem dX7_holeFor_134 : decode cX7_holeFor 134 = .ok (.putfield 221, 3) := by decide +kernel
theorem dX7_holeFor_137 : decode cX7_holeFor 137 = .ok (.aload_n 0, 1) := by decide +kernel
theorem dX7_holeFor_138 : decode cX7_holeFor 138 = .ok (.getfield 221, 3) := by decide +kernel
theorem dX7_holeFor_141 : decode cX7_holeFor 141 = .ok (.iconst 1, 1) := by decide +kernel
theorem dX7_holeFor_142 : decode cX7_holeFor 142 = .ok (.isub, 1) := by decide +kernel
theorem dX7_holeFor_143 : decode cX7_holeFor 143 = .ok (.ireturn, 1) := by decide +kernel
theorem dX7_pushes_0 : decode cX7_pushes 0 = .ok (.aload_n 0, 1) := by decide +kernel
theorem dX7_pushes_1 : decode cX7_pushes 1 = .ok (.getfield 66, 3) := by decide +kernel
theorem dX7_pushes_4 : decode cX7_pushes 4 = .ok (.aload_n 0, 1) := by decide +kernel
theorem dX7_pushes_5 : decode cX7_pushes 5 = .ok (.getfield 228, 3) := by decide +kernel
theorem dX7_pushes_8 : decode cX7_pushes 8 = .ok (.iload_n 1, 1) := by decide +kernel
theorem dX7_pushes_9 : decode cX7_pushes 9 = .ok (.bastore, 1) := by decide +kernel
theorem dX7_pushes_10 : decode cX7_pushes 10 = .ok (.aload_n 0, 1) := by decide +kernel
theorem dX7_pushes_11 : decode cX7_pushes 11 = .ok (.getfield 69, 3) := by decide +kernel
theorem dX7_pushes_14 : decode cX7_pushes 14 = .ok (.aload_n 0, 1) := by decide +kernel
theorem dX7_pushes_15 : decode cX7_pushes 15 = .ok (.getfield 228, 3) := by decide +kernel
theorem dX7_pushes_18 : decode cX7_pushes 18 = .ok (.iload_n 2, 1) := by decide +kernel
theorem dX7_pushes_19 : decode cX7_pushes 19 = .ok (.iastore, 1) := by decide +kernel
theorem dX7_pushes_20 : decode cX7_pushes 20 = .ok (.aload_n 0, 1) := by decide +kernel
theorem dX7_pushes_21 : decode cX7_pushes 21 = .ok (.getfield 75, 3) := by decide +kernel
theorem dX7_pushes_24 : decode cX7_pushes 24 = .ok (.aload_n 0, 1) := by decide +kernel
theorem dX7_pushes_25 : decode cX7_pushes 25 = .ok (.getfield 228, 3) := by decide +kernel
theorem dX7_pushes_28 : decode cX7_pushes 28 = .ok (.iload_n 3, 1) := by decide +kernel
theorem dX7_pushes_29 : decode cX7_pushes 29 = .ok (.iastore, 1) := by decide +kernel
theorem dX7_pushes_30 : decode cX7_pushes 30 = .ok (.aload_n 0, 1) := by decide +kernel
theorem dX7_pushes_31 : decode cX7_pushes 31 = .ok (.getfield 72, 3) := by decide +kernel
theorem dX7_pushes_34 : decode cX7_pushes 34 = .ok (.aload_n 0, 1) := by decide +kernel
theorem dX7_pushes_35 : decode cX7_pushes 35 = .ok (.getfield 228, 3) := by decide +kernel
theorem dX7_pushes_38 : decode cX7_pushes 38 = .ok (.iload 4, 2) := by decide +kernel
theorem dX7_pushes_40 : decode cX7_pushes 40 = .ok (.iastore, 1) := by decide +kernel
theorem dX7_pushes_41 : decode cX7_pushes 41 = .ok (.aload_n 0, 1) := by decide +kernel
theorem dX7_pushes_42 : decode cX7_pushes 42 = .ok (.getfield 78, 3) := by decide +kernel
theorem dX7_pushes_45 : decode cX7_pushes 45 = .ok (.aload_n 0, 1) := by decide +kernel
theorem dX7_pushes_46 : decode cX7_pushes 46 = .ok (.getfield 228, 3) := by decide +kernel
theorem dX7_pushes_49 : decode cX7_pushes 49 = .ok (.iload 5, 2) := by decide +kernel
theorem dX7_pushes_51 : decode cX7_pushes 51 = .ok (.iastore, 1) := by decide +kernel
theorem dX7_pushes_52 : decode cX7_pushes 52 = .ok (.aload_n 0, 1) := by decide +kernel
theorem dX7_pushes_53 : decode cX7_pushes 53 = .ok (.dup, 1) := by decide +kernel
theorem dX7_pushes_54 : decode cX7_pushes 54 = .ok (.getfield 228, 3) := by decide +kernel
theorem dX7_pushes_57 : decode cX7_pushes 57 = .ok (.iconst 1, 1) := by decide +kernel
theorem dX7_pushes_58 : decode cX7_pushes 58 = .ok (.iadd, 1) := by decide +kernel
theorem dX7_pushes_59 : decode cX7_pushes 59 = .ok (.putfield 228, 3) := by decide +kernel
theorem dX7_pushes_62 : decode cX7_pushes 62 = .ok (.return_, 1) := by decide +kernel
theorem dX7_isAlike_0 : decode cX7_isAlike 0 = .ok (.aload_n 0, 1) := by decide +kernel
theorem dX7_isAlike_1 : decode cX7_isAlike 1 = .ok (.iload_n 1, 1) := by decide +kernel
theorem dX7_isAlike_2 : decode cX7_isAlike 2 = .ok (.iload_n 2, 1) := by decide +kernel
theorem dX7_isAlike_3 : decode cX7_isAlike 3 = .ok (.invokevirtual 119, 3) := by decide +kernel
theorem dX7_isAlike_6 : decode cX7_isAlike 6 = .ok (.ifCond .ne 33, 3) := by decide +kernel
theorem dX7_isAlike_9 : decode cX7_isAlike 9 = .ok (.aload_n 0, 1) := by decide +kernel
theorem dX7_isAlike_10 : decode cX7_isAlike 10 = .ok (.iload_n 3, 1) := by decide +kernel
theorem dX7_isAlike_11 : decode cX7_isAlike 11 = .ok (.iload 4, 2) := by decide +kernel
theorem dX7_isAlike_13 : decode cX7_isAlike 13 = .ok (.invokevirtual 119, 3) := by decide +kernel
theorem dX7_isAlike_16 : decode cX7_isAlike 16 = .ok (.ifCond .ne 23, 3) := by decide +kernel
theorem dX7_isAlike_19 : decode cX7_isAlike 19 = .ok (.aload_n 0, 1) := by decide +kernel
theorem dX7_isAlike_20 : decode cX7_isAlike 20 = .ok (.iload_n 1, 1) := by decide +kernel
theorem dX7_isAlike_21 : decode cX7_isAlike 21 = .ok (.iload_n 2, 1) := by decide +kernel
theorem dX7_isAlike_22 : decode cX7_isAlike 22 = .ok (.invokevirtual 159, 3) := by decide +kernel
theorem dX7_isAlike_25 : decode cX7_isAlike 25 = .ok (.aload_n 0, 1) := by decide +kernel
theorem dX7_isAlike_26 : decode cX7_isAlike 26 = .ok (.iload_n 3, 1) := by decide +kernel
theorem dX7_isAlike_27 : decode cX7_isAlike 27 = .ok (.iload 4, 2) := by decide +kernel
theorem dX7_isAlike_29 : decode cX7_isAlike 29 = .ok (.invokevirtual 159, 3) := by decide +kernel
theorem dX7_isAlike_32 : decode cX7_isAlike 32 = .ok (.if_icmp .ne 7, 3) := by decide +kernel
theorem dX7_isAlike_35 : decode cX7_isAlike 35 = .ok (.iconst 1, 1) := by decide +kernel
theorem dX7_isAlike_36 : decode cX7_isAlike 36 = .ok (.goto 4, 3) := by decide +kernel
theorem dX7_isAlike_39 : decode cX7_isAlike 39 = .ok (.iconst 0, 1) := by decide +kernel
theorem dX7_isAlike_40 : decode cX7_isAlike 40 = .ok (.ireturn, 1) := by decide +kernel
theorem dX7_pushesEven_0 : decode cX7_pushesEven 0 = .ok (.iload_n 3, 1) := by decide +kernel
theorem dX7_pushesEven_1 : decode cX7_pushesEven 1 = .ok (.iconst 1, 1) := by decide +kernel
theorem dX7_pushesEven_2 : decode cX7_pushesEven 2 = .ok (.isub, 1) := by decide +kernel
theorem dX7_pushesEven_3 : decode cX7_pushesEven 3 = .ok (.istore 4, 2) := by decide +kernel
theorem dX7_pushesEven_5 : decode cX7_pushesEven 5 = .ok (.iload 4, 2) := by decide +kernel
theorem dX7_pushesEven_7 : decode cX7_pushesEven 7 = .ok (.ifCond .lt 38, 3) := by decide +kernel
theorem dX7_pushesEven_10 : decode cX7_pushesEven 10 = .ok (.aload_n 0, 1) := by decide +kernel
theorem dX7_pushesEven_11 : decode cX7_pushesEven 11 = .ok (.iconst 0, 1) := by decide +kernel
theorem dX7_pushesEven_12 : decode cX7_pushesEven 12 = .ok (.aload_n 0, 1) := by decide +kernel
theorem dX7_pushesEven_13 : decode cX7_pushesEven 13 = .ok (.iload_n 1, 1) := by decide +kernel
theorem dX7_pushesEven_14 : decode cX7_pushesEven 14 = .ok (.iload 4, 2) := by decide +kernel
theorem dX7_pushesEven_16 : decode cX7_pushesEven 16 = .ok (.aload_n 0, 1) := by decide +kernel
theorem dX7_pushesEven_17 : decode cX7_pushesEven 17 = .ok (.getfield 20, 3) := by decide +kernel
theorem dX7_pushesEven_20 : decode cX7_pushesEven 20 = .ok (.invokevirtual 165, 3) := by decide +kernel
theorem dX7_pushesEven_23 : decode cX7_pushesEven 23 = .ok (.iconst 0, 1) := by decide +kernel
theorem dX7_pushesEven_24 : decode cX7_pushesEven 24 = .ok (.aload_n 0, 1) := by decide +kernel
theorem dX7_pushesEven_25 : decode cX7_pushesEven 25 = .ok (.iload_n 2, 1) := by decide +kernel
theorem dX7_pushesEven_26 : decode cX7_pushesEven 26 = .ok (.iload 4, 2) := by decide +kernel
theorem dX7_pushesEven_28 : decode cX7_pushesEven 28 = .ok (.aload_n 0, 1) := by decide +kernel
theorem dX7_pushesEven_29 : decode cX7_pushesEven 29 = .ok (.getfield 23, 3) := by decide +kernel
theorem dX7_pushesEven_32 : decode cX7_pushesEven 32 = .ok (.invokevirtual 165, 3) := by decide +kernel
theorem dX7_pushesEven_35 : decode cX7_pushesEven 35 = .ok (.iconst 0, 1) := by decide +kernel
theorem dX7_pushesEven_36 : decode cX7_pushesEven 36 = .ok (.invokevirtual 231, 3) := by decide +kernel
theorem dX7_pushesEven_39 : decode cX7_pushesEven 39 = .ok (.iinc 4 (-1), 3) := by decide +kernel
theorem dX7_pushesEven_42 : decode cX7_pushesEven 42 = .ok (.goto (-37), 3) := by decide +kernel
theorem dX7_pushesEven_45 : decode cX7_pushesEven 45 = .ok (.return_, 1) := by decide +kernel
theorem dX7_pushesAligned_0 : decode cX7_pushesAligned 0 = .ok (.aload_n 0, 1) := by decide +kernel
theorem dX7_pushesAligned_1 : decode cX7_pushesAligned 1 = .ok (.iload_n 1, 1) := by decide +kernel
theorem dX7_pushesAligned_2 : decode cX7_pushesAligned 2 = .ok (.iload_n 2, 1) := by decide +kernel
theorem dX7_pushesAligned_3 : decode cX7_pushesAligned 3 = .ok (.invokevirtual 111, 3) := by decide +kernel
theorem dX7_pushesAligned_6 : decode cX7_pushesAligned 6 = .ok (.istore 5, 2) := by decide +kernel
theorem dX7_pushesAligned_8 : decode cX7_pushesAligned 8 = .ok (.aload_n 0, 1) := by decide +kernel
theorem dX7_pushesAligned_9 : decode cX7_pushesAligned 9 = .ok (.iload_n 3, 1) := by decide +kernel
theorem dX7_pushesAligned_10 : decode cX7_pushesAligned 10 = .ok (.iload 4, 2) := by decide +kernel
theorem dX7_pushesAligned_12 : decode cX7_pushesAligned 12 = .ok (.invokevirtual 111, 3) := by decide +kernel
theorem dX7_pushesAligned_15 : decode cX7_pushesAligned 15 = .ok (.istore 6, 2) := by decide +kernel
theorem dX7_pushesAligned_17 : decode cX7_pushesAligned 17 = .ok (.iconst 0, 1) := by decide +kernel
theorem dX7_pushesAligned_18 : decode cX7_pushesAligned 18 = .ok (.istore 7, 2) := by decide +kernel
theorem dX7_pushesAligned_20 : decode cX7_pushesAligned 20 = .ok (.iload 7, 2) := by decide +kernel
theorem dX7_pushesAligned_22 : decode cX7_pushesAligned 22 = .ok (.iload 5, 2) := by decide +kernel
theorem dX7_pushesAligned_24 : decode cX7_pushesAligned 24 = .ok (.if_icmp .ge 48, 3) := by decide +kernel
theorem dX7_pushesAligned_27 : decode cX7_pushesAligned 27 = .ok (.iload 7, 2) := by decide +kernel
theorem dX7_pushesAligned_29 : decode cX7_pushesAligned 29 = .ok (.iload 6, 2) := by decide +kernel
theorem dX7_pushesAligned_31 : decode cX7_pushesAligned 31 = .ok (.if_icmp .ge 41, 3) := by decide +kernel
theorem dX7_pushesAligned_34 : decode cX7_pushesAligned 34 = .ok (.aload_n 0, 1) := by decide +kernel
theorem dX7_pushesAligned_35 : decode cX7_pushesAligned 35 = .ok (.iload_n 1, 1) := by decide +kernel
theorem dX7_pushesAligned_36 : decode cX7_pushesAligned 36 = .ok (.aload_n 0, 1) := by decide +kernel
theorem dX7_pushesAligned_37 : decode cX7_pushesAligned 37 = .ok (.iload_n 2, 1) := by decide +kernel
theorem dX7_pushesAligned_38 : decode cX7_pushesAligned 38 = .ok (.iload 7, 2) := by decide +kernel
theorem dX7_pushesAligned_40 : decode cX7_pushesAligned 40 = .ok (.aload_n 0, 1) := by decide +kernel
theorem dX7_pushesAligned_41 : decode cX7_pushesAligned 41 = .ok (.getfield 20, 3) := by decide +kernel
theorem dX7_pushesAligned_44 : decode cX7_pushesAligned 44 = .ok (.invokevirtual 165, 3) := by decide +kernel
theorem dX7_pushesAligned_47 : decode cX7_pushesAligned 47 = .ok (.iload_n 3, 1) := by decide +kernel
theorem dX7_pushesAligned_48 : decode cX7_pushesAligned 48 = .ok (.aload_n 0, 1) := by decide +kernel
theorem dX7_pushesAligned_49 : decode cX7_pushesAligned 49 = .ok (.iload 4, 2) := by decide +kernel
theorem dX7_pushesAligned_51 : decode cX7_pushesAligned 51 = .ok (.iload 7, 2) := by decide +kernel
theorem dX7_pushesAligned_53 : decode cX7_pushesAligned 53 = .ok (.aload_n 0, 1) := by decide +kernel
theorem dX7_pushesAligned_54 : decode cX7_pushesAligned 54 = .ok (.getfield 23, 3) := by decide +kernel
theorem dX7_pushesAligned_57 : decode cX7_pushesAligned 57 = .ok (.invokevirtual 165, 3) := by decide +kernel
theorem dX7_pushesAligned_60 : decode cX7_pushesAligned 60 = .ok (.invokevirtual 235, 3) := by decide +kernel
theorem dX7_pushesAligned_63 : decode cX7_pushesAligned 63 = .ok (.ifCond .eq 9, 3) := by decide +kernel
theorem dX7_pushesAligned_66 : decode cX7_pushesAligned 66 = .ok (.iinc 7 1, 3) := by decide +kernel
theorem dX7_pushesAligned_69 : decode cX7_pushesAligned 69 = .ok (.goto (-49), 3) := by decide +kernel
theorem dX7_pushesAligned_72 : decode cX7_pushesAligned 72 = .ok (.iconst 0, 1) := by decide +kernel
theorem dX7_pushesAligned_73 : decode cX7_pushesAligned 73 = .ok (.istore 8, 2) := by decide +kernel
theorem dX7_pushesAligned_75 : decode cX7_pushesAligned 75 = .ok (.iload 7, 2) := by decide +kernel
theorem dX7_pushesAligned_77 : decode cX7_pushesAligned 77 = .ok (.iload 8, 2) := by decide +kernel
theorem dX7_pushesAligned_79 : decode cX7_pushesAligned 79 = .ok (.iadd, 1) := by decide +kernel
theorem dX7_pushesAligned_80 : decode cX7_pushesAligned 80 = .ok (.iload 5, 2) := by decide +kernel
theorem dX7_pushesAligned_82 : decode cX7_pushesAligned 82 = .ok (.if_icmp .ge 61, 3) := by decide +kernel
theorem dX7_pushesAligned_85 : decode cX7_pushesAligned 85 = .ok (.iload 7, 2) := by decide +kernel
theorem dX7_pushesAligned_87 : decode cX7_pushesAligned 87 = .ok (.iload 8, 2) := by decide +kernel
theorem dX7_pushesAligned_89 : decode cX7_pushesAligned 89 = .ok (.iadd, 1) := by decide +kernel
theorem dX7_pushesAligned_90 : decode cX7_pushesAligned 90 = .ok (.iload 6, 2) := by decide +kernel
theorem dX7_pushesAligned_92 : decode cX7_pushesAligned 92 = .ok (.if_icmp .ge 51, 3) := by decide +kernel
theorem dX7_pushesAligned_95 : decode cX7_pushesAligned 95 = .ok (.aload_n 0, 1) := by decide +kernel
theorem dX7_pushesAligned_96 : decode cX7_pushesAligned 96 = .ok (.iload_n 1, 1) := by decide +kernel
theorem dX7_pushesAligned_97 : decode cX7_pushesAligned 97 = .ok (.aload_n 0, 1) := by decide +kernel
theorem dX7_pushesAligned_98 : decode cX7_pushesAligned 98 = .ok (.iload_n 2, 1) := by decide +kernel
theorem dX7_pushesAligned_99 : decode cX7_pushesAligned 99 = .ok (.iload 5, 2) := by decide +kernel
theorem dX7_pushesAligned_101 : decode cX7_pushesAligned 101 = .ok (.iconst 1, 1) := by decide +kernel
theorem dX7_pushesAligned_102 : decode cX7_pushesAligned 102 = .ok (.isub, 1) := by decide +kernel
theorem dX7_pushesAligned_103 : decode cX7_pushesAligned 103 = .ok (.iload 8, 2) := by decide +kernel
theorem dX7_pushesAligned_105 : decode cX7_pushesAligned 105 = .ok (.isub, 1) := by decide +kernel
theorem dX7_pushesAligned_106 : decode cX7_pushesAligned 106 = .ok (.aload_n 0, 1) := by decide +kernel
theorem dX7_pushesAligned_107 : decode cX7_pushesAligned 107 = .ok (.getfield 20, 3) := by decide +kernel
theorem dX7_pushesAligned_110 : decode cX7_pushesAligned 110 = .ok (.invokevirtual 165, 3) := by decide +kernel
theorem dX7_pushesAligned_113 : decode cX7_pushesAligned 113 = .ok (.iload_n 3, 1) := by decide +kernel
theorem dX7_pushesAligned_114 : decode cX7_pushesAligned 114 = .ok (.aload_n 0, 1) := by decide +kernel
theorem dX7_pushesAligned_115 : decode cX7_pushesAligned 115 = .ok (.iload 4, 2) := by decide +kernel
theorem dX7_pushesAligned_117 : decode cX7_pushesAligned 117 = .ok (.iload 6, 2) := by decide +kernel
theorem dX7_pushesAligned_119 : decode cX7_pushesAligned 119 = .ok (.iconst 1, 1) := by decide +kernel
theorem dX7_pushesAligned_120 : decode cX7_pushesAligned 120 = .ok (.isub, 1) := by decide +kernel
theorem dX7_pushesAligned_121 : decode cX7_pushesAligned 121 = .ok (.iload 8, 2) := by decide +kernel
theorem dX7_pushesAligned_123 : decode cX7_pushesAligned 123 = .ok (.isub, 1) := by decide +kernel
theorem dX7_pushesAligned_124 : decode cX7_pushesAligned 124 = .ok (.aload_n 0, 1) := by decide +kernel
theorem dX7_pushesAligned_125 : decode cX7_pushesAligned 125 = .ok (.getfield 23, 3) := by decide +kernel
theorem dX7_pushesAligned_128 : decode cX7_pushesAligned 128 = .ok (.invokevirtual 165, 3) := by decide +kernel
theorem dX7_pushesAligned_131 : decode cX7_pushesAligned 131 = .ok (.invokevirtual 235, 3) := by decide +kernel
theorem dX7_pushesAligned_134 : decode cX7_pushesAligned 134 = .ok (.ifCond .eq 9, 3) := by decide +kernel
theorem dX7_pushesAligned_137 : decode cX7_pushesAligned 137 = .ok (.iinc 8 1, 3) := by decide +kernel
theorem dX7_pushesAligned_140 : decode cX7_pushesAligned 140 = .ok (.goto (-65), 3) := by decide +kernel
theorem dX7_pushesAligned_143 : decode cX7_pushesAligned 143 = .ok (.iconst 0, 1) := by decide +kernel
theorem dX7_pushesAligned_144 : decode cX7_pushesAligned 144 = .ok (.istore 9, 2) := by decide +kernel
theorem dX7_pushesAligned_146 : decode cX7_pushesAligned 146 = .ok (.iload 9, 2) := by decide +kernel
theorem dX7_pushesAligned_148 : decode cX7_pushesAligned 148 = .ok (.iload 8, 2) := by decide +kernel
theorem dX7_pushesAligned_150 : decode cX7_pushesAligned 150 = .ok (.if_icmp .ge 49, 3) := by decide +kernel
theorem dX7_pushesAligned_153 : decode cX7_pushesAligned 153 = .ok (.aload_n 0, 1) := by decide +kernel
theorem dX7_pushesAligned_154 : decode cX7_pushesAligned 154 = .ok (.iconst 0, 1) := by decide +kernel
theorem dX7_pushesAligned_155 : decode cX7_pushesAligned 155 = .ok (.aload_n 0, 1) := by decide +kernel
theorem dX7_pushesAligned_156 : decode cX7_pushesAligned 156 = .ok (.iload_n 2, 1) := by decide +kernel
theorem dX7_pushesAligned_157 : decode cX7_pushesAligned 157 = .ok (.iload 5, 2) := by decide +kernel
theorem dX7_pushesAligned_159 : decode cX7_pushesAligned 159 = .ok (.iconst 1, 1) := by decide +kernel
theorem dX7_pushesAligned_160 : decode cX7_pushesAligned 160 = .ok (.isub, 1) := by decide +kernel
theorem dX7_pushesAligned_161 : decode cX7_pushesAligned 161 = .ok (.iload 9, 2) := by decide +kernel
theorem dX7_pushesAligned_163 : decode cX7_pushesAligned 163 = .ok (.isub, 1) := by decide +kernel
theorem dX7_pushesAligned_164 : decode cX7_pushesAligned 164 = .ok (.aload_n 0, 1) := by decide +kernel
theorem dX7_pushesAligned_165 : decode cX7_pushesAligned 165 = .ok (.getfield 20, 3) := by decide +kernel
theorem dX7_pushesAligned_168 : decode cX7_pushesAligned 168 = .ok (.invokevirtual 165, 3) := by decide +kernel
theorem dX7_pushesAligned_171 : decode cX7_pushesAligned 171 = .ok (.iconst 0, 1) := by decide +kernel
theorem dX7_pushesAligned_172 : decode cX7_pushesAligned 172 = .ok (.aload_n 0, 1) := by decide +kernel
theorem dX7_pushesAligned_173 : decode cX7_pushesAligned 173 = .ok (.iload 4, 2) := by decide +kernel
theorem dX7_pushesAligned_175 : decode cX7_pushesAligned 175 = .ok (.iload 6, 2) := by decide +kernel
theorem dX7_pushesAligned_177 : decode cX7_pushesAligned 177 = .ok (.iconst 1, 1) := by decide +kernel
theorem dX7_pushesAligned_178 : decode cX7_pushesAligned 178 = .ok (.isub, 1) := by decide +kernel
theorem dX7_pushesAligned_179 : decode cX7_pushesAligned 179 = .ok (.iload 9, 2) := by decide +kernel
theorem dX7_pushesAligned_181 : decode cX7_pushesAligned 181 = .ok (.isub, 1) := by decide +kernel
theorem dX7_pushesAligned_182 : decode cX7_pushesAligned 182 = .ok (.aload_n 0, 1) := by decide +kernel
theorem dX7_pushesAligned_183 : decode cX7_pushesAligned 183 = .ok (.getfield 23, 3) := by decide +kernel
theorem dX7_pushesAligned_186 : decode cX7_pushesAligned 186 = .ok (.invokevirtual 165, 3) := by decide +kernel
theorem dX7_pushesAligned_189 : decode cX7_pushesAligned 189 = .ok (.iconst 0, 1) := by decide +kernel
theorem dX7_pushesAligned_190 : decode cX7_pushesAligned 190 = .ok (.invokevirtual 231, 3) := by decide +kernel
theorem dX7_pushesAligned_193 : decode cX7_pushesAligned 193 = .ok (.iinc 9 1, 3) := by decide +kernel
theorem dX7_pushesAligned_196 : decode cX7_pushesAligned 196 = .ok (.goto (-50), 3) := by decide +kernel
theorem dX7_pushesAligned_199 : decode cX7_pushesAligned 199 = .ok (.aload_n 0, 1) := by decide +kernel
theorem dX7_pushesAligned_200 : decode cX7_pushesAligned 200 = .ok (.iload_n 2, 1) := by decide +kernel
theorem dX7_pushesAligned_201 : decode cX7_pushesAligned 201 = .ok (.iload 7, 2) := by decide +kernel
theorem dX7_pushesAligned_203 : decode cX7_pushesAligned 203 = .ok (.aload_n 0, 1) := by decide +kernel
theorem dX7_pushesAligned_204 : decode cX7_pushesAligned 204 = .ok (.getfield 20, 3) := by decide +kernel
theorem dX7_pushesAligned_207 : decode cX7_pushesAligned 207 = .ok (.invokevirtual 165, 3) := by decide +kernel
theorem dX7_pushesAligned_210 : decode cX7_pushesAligned 210 = .ok (.istore 9, 2) := by decide +kernel
theorem dX7_pushesAligned_212 : decode cX7_pushesAligned 212 = .ok (.aload_n 0, 1) := by decide +kernel
theorem dX7_pushesAligned_213 : decode cX7_pushesAligned 213 = .ok (.iload 4, 2) := by decide +kernel
theorem dX7_pushesAligned_215 : decode cX7_pushesAligned 215 = .ok (.iload 7, 2) := by decide +kernel
theorem dX7_pushesAligned_217 : decode cX7_pushesAligned 217 = .ok (.aload_n 0, 1) := by decide +kernel
theorem dX7_pushesAligned_218 : decode cX7_pushesAligned 218 = .ok (.getfield 23, 3) := by decide +kernel
theorem dX7_pushesAligned_221 : decode cX7_pushesAligned 221 = .ok (.invokevirtual 165, 3) := by decide +kernel
theorem dX7_pushesAligned_224 : decode cX7_pushesAligned 224 = .ok (.istore 10, 2) := by decide +kernel
theorem dX7_pushesAligned_226 : decode cX7_pushesAligned 226 = .ok (.aload_n 0, 1) := by decide +kernel
theorem dX7_pushesAligned_227 : decode cX7_pushesAligned 227 = .ok (.iconst 1, 1) := by decide +kernel
theorem dX7_pushesAligned_228 : decode cX7_pushesAligned 228 = .ok (.iload 9, 2) := by decide +kernel
theorem dX7_pushesAligned_230 : decode cX7_pushesAligned 230 = .ok (.aload_n 0, 1) := by decide +kernel
theorem dX7_pushesAligned_231 : decode cX7_pushesAligned 231 = .ok (.iload_n 2, 1) := by decide +kernel
theorem dX7_pushesAligned_232 : decode cX7_pushesAligned 232 = .ok (.iload 5, 2) := by decide +kernel
theorem dX7_pushesAligned_234 : decode cX7_pushesAligned 234 = .ok (.iload 8, 2) := by decide +kernel
theorem dX7_pushesAligned_236 : decode cX7_pushesAligned 236 = .ok (.isub, 1) := by decide +kernel
theorem dX7_pushesAligned_237 : decode cX7_pushesAligned 237 = .ok (.aload_n 0, 1) := by decide +kernel
theorem dX7_pushesAligned_238 : decode cX7_pushesAligned 238 = .ok (.getfield 20, 3) := by decide +kernel
theorem dX7_pushesAligned_241 : decode cX7_pushesAligned 241 = .ok (.invokevirtual 165, 3) := by decide +kernel
theorem dX7_pushesAligned_244 : decode cX7_pushesAligned 244 = .ok (.iload 9, 2) := by decide +kernel
theorem dX7_pushesAligned_246 : decode cX7_pushesAligned 246 = .ok (.isub, 1) := by decide +kernel
theorem dX7_pushesAligned_247 : decode cX7_pushesAligned 247 = .ok (.iload 10, 2) := by decide +kernel
theorem dX7_pushesAligned_249 : decode cX7_pushesAligned 249 = .ok (.aload_n 0, 1) := by decide +kernel
theorem dX7_pushesAligned_250 : decode cX7_pushesAligned 250 = .ok (.iload 4, 2) := by decide +kernel
theorem dX7_pushesAligned_252 : decode cX7_pushesAligned 252 = .ok (.iload 6, 2) := by decide +kernel
theorem dX7_pushesAligned_254 : decode cX7_pushesAligned 254 = .ok (.iload 8, 2) := by decide +kernel
theorem dX7_pushesAligned_256 : decode cX7_pushesAligned 256 = .ok (.isub, 1) := by decide +kernel
theorem dX7_pushesAligned_257 : decode cX7_pushesAligned 257 = .ok (.aload_n 0, 1) := by decide +kernel
theorem dX7_pushesAligned_258 : decode cX7_pushesAligned 258 = .ok (.getfield 23, 3) := by decide +kernel
theorem dX7_pushesAligned_261 : decode cX7_pushesAligned 261 = .ok (.invokevirtual 165, 3) := by decide +kernel
theorem dX7_pushesAligned_264 : decode cX7_pushesAligned 264 = .ok (.iload 10, 2) := by decide +kernel
theorem dX7_pushesAligned_266 : decode cX7_pushesAligned 266 = .ok (.isub, 1) := by decide +kernel
theorem dX7_pushesAligned_267 : decode cX7_pushesAligned 267 = .ok (.invokevirtual 231, 3) := by decide +kernel
theorem dX7_pushesAligned_270 : decode cX7_pushesAligned 270 = .ok (.iload 7, 2) := by decide +kernel
theorem dX7_pushesAligned_272 : decode cX7_pushesAligned 272 = .ok (.iconst 1, 1) := by decide +kernel
theorem dX7_pushesAligned_273 : decode cX7_pushesAligned 273 = .ok (.isub, 1) := by decide +kernel
theorem dX7_pushesAligned_274 : decode cX7_pushesAligned 274 = .ok (.istore 11, 2) := by decide +kernel
theorem dX7_pushesAligned_276 : decode cX7_pushesAligned 276 = .ok (.iload 11, 2) := by decide +kernel
theorem dX7_pushesAligned_278 : decode cX7_pushesAligned 278 = .ok (.ifCond .lt 39, 3) := by decide +kernel
theorem dX7_pushesAligned_281 : decode cX7_pushesAligned 281 = .ok (.aload_n 0, 1) := by decide +kernel
theorem dX7_pushesAligned_282 : decode cX7_pushesAligned 282 = .ok (.iconst 0, 1) := by decide +kernel
theorem dX7_pushesAligned_283 : decode cX7_pushesAligned 283 = .ok (.aload_n 0, 1) := by decide +kernel
theorem dX7_pushesAligned_284 : decode cX7_pushesAligned 284 = .ok (.iload_n 2, 1) := by decide +kernel
theorem dX7_pushesAligned_285 : decode cX7_pushesAligned 285 = .ok (.iload 11, 2) := by decide +kernel
theorem dX7_pushesAligned_287 : decode cX7_pushesAligned 287 = .ok (.aload_n 0, 1) := by decide +kernel
theorem dX7_pushesAligned_288 : decode cX7_pushesAligned 288 = .ok (.getfield 20, 3) := by decide +kernel
theorem dX7_pushesAligned_291 : decode cX7_pushesAligned 291 = .ok (.invokevirtual 165, 3) := by decide +kernel
theorem dX7_pushesAligned_294 : decode cX7_pushesAligned 294 = .ok (.iconst 0, 1) := by decide +kernel
theorem dX7_pushesAligned_295 : decode cX7_pushesAligned 295 = .ok (.aload_n 0, 1) := by decide +kernel
theorem dX7_pushesAligned_296 : decode cX7_pushesAligned 296 = .ok (.iload 4, 2) := by decide +kernel
theorem dX7_pushesAligned_298 : decode cX7_pushesAligned 298 = .ok (.iload 11, 2) := by decide +kernel
theorem dX7_pushesAligned_300 : decode cX7_pushesAligned 300 = .ok (.aload_n 0, 1) := by decide +kernel
theorem dX7_pushesAligned_301 : decode cX7_pushesAligned 301 = .ok (.getfield 23, 3) := by decide +kernel
theorem dX7_pushesAligned_304 : decode cX7_pushesAligned 304 = .ok (.invokevirtual 165, 3) := by decide +kernel
theorem dX7_pushesAligned_307 : decode cX7_pushesAligned 307 = .ok (.iconst 0, 1) := by decide +kernel
theorem dX7_pushesAligned_308 : decode cX7_pushesAligned 308 = .ok (.invokevirtual 231, 3) := by decide +kernel
theorem dX7_pushesAligned_311 : decode cX7_pushesAligned 311 = .ok (.iinc 11 (-1), 3) := by decide +kernel
theorem dX7_pushesAligned_314 : decode cX7_pushesAligned 314 = .ok (.goto (-38), 3) := by decide +kernel
theorem dX7_pushesAligned_317 : decode cX7_pushesAligned 317 = .ok (.iload 7, 2) := by decide +kernel
theorem dX7_pushesAligned_319 : decode cX7_pushesAligned 319 = .ok (.iconst 1, 1) := by decide +kernel
theorem dX7_pushesAligned_320 : decode cX7_pushesAligned 320 = .ok (.iadd, 1) := by decide +kernel
theorem dX7_pushesAligned_321 : decode cX7_pushesAligned 321 = .ok (.iload 8, 2) := by decide +kernel
theorem dX7_pushesAligned_323 : decode cX7_pushesAligned 323 = .ok (.iadd, 1) := by decide +kernel
theorem dX7_pushesAligned_324 : decode cX7_pushesAligned 324 = .ok (.ireturn, 1) := by decide +kernel
theorem dX7_joins_0 : decode cX7_joins 0 = .ok (.aload_n 0, 1) := by decide +kernel
theorem dX7_joins_1 : decode cX7_joins 1 = .ok (.iload_n 1, 1) := by decide +kernel
theorem dX7_joins_2 : decode cX7_joins 2 = .ok (.aload_n 0, 1) := by decide +kernel
theorem dX7_joins_3 : decode cX7_joins 3 = .ok (.getfield 20, 3) := by decide +kernel
theorem dX7_joins_6 : decode cX7_joins 6 = .ok (.invokevirtual 115, 3) := by decide +kernel
theorem dX7_joins_9 : decode cX7_joins 9 = .ok (.aload_n 0, 1) := by decide +kernel
theorem dX7_joins_10 : decode cX7_joins 10 = .ok (.iload_n 2, 1) := by decide +kernel
theorem dX7_joins_11 : decode cX7_joins 11 = .ok (.aload_n 0, 1) := by decide +kernel
theorem dX7_joins_12 : decode cX7_joins 12 = .ok (.getfield 23, 3) := by decide +kernel
theorem dX7_joins_15 : decode cX7_joins 15 = .ok (.invokevirtual 115, 3) := by decide +kernel
theorem dX7_joins_18 : decode cX7_joins 18 = .ok (.aload_n 0, 1) := by decide +kernel
theorem dX7_joins_19 : decode cX7_joins 19 = .ok (.getfield 7, 3) := by decide +kernel
theorem dX7_joins_22 : decode cX7_joins 22 = .ok (.iload_n 3, 1) := by decide +kernel
theorem dX7_joins_23 : decode cX7_joins 23 = .ok (.iconst 0, 1) := by decide +kernel
theorem dX7_joins_24 : decode cX7_joins 24 = .ok (.iastore, 1) := by decide +kernel
theorem dX7_joins_25 : decode cX7_joins 25 = .ok (.aload_n 0, 1) := by decide +kernel
theorem dX7_joins_26 : decode cX7_joins 26 = .ok (.iconst 0, 1) := by decide +kernel
theorem dX7_joins_27 : decode cX7_joins 27 = .ok (.putfield 228, 3) := by decide +kernel
theorem dX7_joins_30 : decode cX7_joins 30 = .ok (.aload_n 0, 1) := by decide +kernel
theorem dX7_joins_31 : decode cX7_joins 31 = .ok (.iconst 0, 1) := by decide +kernel
theorem dX7_joins_32 : decode cX7_joins 32 = .ok (.iconst 0, 1) := by decide +kernel
theorem dX7_joins_33 : decode cX7_joins 33 = .ok (.iconst 0, 1) := by decide +kernel
theorem dX7_joins_34 : decode cX7_joins 34 = .ok (.iconst 0, 1) := by decide +kernel
theorem dX7_joins_35 : decode cX7_joins 35 = .ok (.iconst 0, 1) := by decide +kernel
theorem dX7_joins_36 : decode cX7_joins 36 = .ok (.invokevirtual 231, 3) := by decide +kernel
theorem dX7_joins_39 : decode cX7_joins 39 = .ok (.aload_n 0, 1) := by decide +kernel
theorem dX7_joins_40 : decode cX7_joins 40 = .ok (.getfield 228, 3) := by decide +kernel
theorem dX7_joins_43 : decode cX7_joins 43 = .ok (.ifCond .le 49, 3) := by decide +kernel
theorem dX7_joins_46 : decode cX7_joins 46 = .ok (.aload_n 0, 1) := by decide +kernel
theorem dX7_joins_47 : decode cX7_joins 47 = .ok (.dup, 1) := by decide +kernel
theorem dX7_joins_48 : decode cX7_joins 48 = .ok (.getfield 228, 3) := by decide +kernel
theorem dX7_joins_51 : decode cX7_joins 51 = .ok (.iconst 1, 1) := by decide +kernel
theorem dX7_joins_52 : decode cX7_joins 52 = .ok (.isub, 1) := by decide +kernel
theorem dX7_joins_53 : decode cX7_joins 53 = .ok (.putfield 228, 3) := by decide +kernel
theorem dX7_joins_56 : decode cX7_joins 56 = .ok (.aload_n 0, 1) := by decide +kernel
theorem dX7_joins_57 : decode cX7_joins 57 = .ok (.getfield 7, 3) := by decide +kernel
theorem dX7_joins_60 : decode cX7_joins 60 = .ok (.iload_n 3, 1) := by decide +kernel
theorem dX7_joins_61 : decode cX7_joins 61 = .ok (.iaload, 1) := by decide +kernel
theorem dX7_joins_62 : decode cX7_joins 62 = .ok (.bipush 32, 2) := by decide +kernel
theorem dX7_joins_64 : decode cX7_joins 64 = .ok (.if_icmp .eq 13, 3) := by decide +kernel
theorem dX7_joins_67 : decode cX7_joins 67 = .ok (.aload_n 0, 1) := by decide +kernel
theorem dX7_joins_68 : decode cX7_joins 68 = .ok (.iload_n 1, 1) := by decide +kernel
theorem dX7_joins_69 : decode cX7_joins 69 = .ok (.iload_n 2, 1) := by decide +kernel
theorem dX7_joins_70 : decode cX7_joins 70 = .ok (.iload_n 3, 1) := by decide +kernel
theorem dX7_joins_71 : decode cX7_joins 71 = .ok (.invokevirtual 239, 3) := by decide +kernel
theorem dX7_joins_74 : decode cX7_joins 74 = .ok (.ifCond .ne 5, 3) := by decide +kernel
theorem dX7_joins_77 : decode cX7_joins 77 = .ok (.iconst 0, 1) := by decide +kernel
theorem dX7_joins_78 : decode cX7_joins 78 = .ok (.ireturn, 1) := by decide +kernel
theorem dX7_joins_79 : decode cX7_joins 79 = .ok (.aload_n 0, 1) := by decide +kernel
theorem dX7_joins_80 : decode cX7_joins 80 = .ok (.getfield 7, 3) := by decide +kernel
theorem dX7_joins_83 : decode cX7_joins 83 = .ok (.iload_n 3, 1) := by decide +kernel
theorem dX7_joins_84 : decode cX7_joins 84 = .ok (.dup2, 1) := by decide +kernel
theorem dX7_joins_85 : decode cX7_joins 85 = .ok (.iaload, 1) := by decide +kernel
theorem dX7_joins_86 : decode cX7_joins 86 = .ok (.iconst 1, 1) := by decide +kernel
theorem dX7_joins_87 : decode cX7_joins 87 = .ok (.iadd, 1) := by decide +kernel
theorem dX7_joins_88 : decode cX7_joins 88 = .ok (.iastore, 1) := by decide +kernel
theorem dX7_joins_89 : decode cX7_joins 89 = .ok (.goto (-50), 3) := by decide +kernel
theorem dX7_joins_92 : decode cX7_joins 92 = .ok (.iconst 1, 1) := by decide +kernel
theorem dX7_joins_93 : decode cX7_joins 93 = .ok (.ireturn, 1) := by decide +kernel
theorem dX7_joinsNext_0 : decode cX7_joinsNext 0 = .ok (.aload_n 0, 1) := by decide +kernel
theorem dX7_joinsNext_1 : decode cX7_joinsNext 1 = .ok (.getfield 69, 3) := by decide +kernel
theorem dX7_joinsNext_4 : decode cX7_joinsNext 4 = .ok (.aload_n 0, 1) := by decide +kernel
theorem dX7_joinsNext_5 : decode cX7_joinsNext 5 = .ok (.getfield 228, 3) := by decide +kernel
theorem dX7_joinsNext_8 : decode cX7_joinsNext 8 = .ok (.iaload, 1) := by decide +kernel
theorem dX7_joinsNext_9 : decode cX7_joinsNext 9 = .ok (.istore 4, 2) := by decide +kernel
theorem dX7_joinsNext_11 : decode cX7_joinsNext 11 = .ok (.aload_n 0, 1) := by decide +kernel
theorem dX7_joinsNext_12 : decode cX7_joinsNext 12 = .ok (.getfield 72, 3) := by decide +kernel
theorem dX7_joinsNext_15 : decode cX7_joinsNext 15 = .ok (.aload_n 0, 1) := by decide +kernel
theorem dX7_joinsNext_16 : decode cX7_joinsNext 16 = .ok (.getfield 228, 3) := by decide +kernel
theorem dX7_joinsNext_19 : decode cX7_joinsNext 19 = .ok (.iaload, 1) := by decide +kernel
theorem dX7_joinsNext_20 : decode cX7_joinsNext 20 = .ok (.istore 5, 2) := by decide +kernel
theorem dX7_joinsNext_22 : decode cX7_joinsNext 22 = .ok (.aload_n 0, 1) := by decide +kernel
theorem dX7_joinsNext_23 : decode cX7_joinsNext 23 = .ok (.getfield 66, 3) := by decide +kernel
theorem dX7_joinsNext_26 : decode cX7_joinsNext 26 = .ok (.aload_n 0, 1) := by decide +kernel
theorem dX7_joinsNext_27 : decode cX7_joinsNext 27 = .ok (.getfield 228, 3) := by decide +kernel
theorem dX7_joinsNext_30 : decode cX7_joinsNext 30 = .ok (.baload, 1) := by decide +kernel
theorem dX7_joinsNext_31 : decode cX7_joinsNext 31 = .ok (.ifCond .eq 62, 3) := by decide +kernel
theorem dX7_joinsNext_34 : decode cX7_joinsNext 34 = .ok (.aload_n 0, 1) := by decide +kernel
theorem dX7_joinsNext_35 : decode cX7_joinsNext 35 = .ok (.iconst 3, 1) := by decide +kernel
theorem dX7_joinsNext_36 : decode cX7_joinsNext 36 = .ok (.iload_n 1, 1) := by decide +kernel
theorem dX7_joinsNext_37 : decode cX7_joinsNext 37 = .ok (.iload 4, 2) := by decide +kernel
theorem dX7_joinsNext_39 : decode cX7_joinsNext 39 = .ok (.aload_n 0, 1) := by decide +kernel
theorem dX7_joinsNext_40 : decode cX7_joinsNext 40 = .ok (.getfield 75, 3) := by decide +kernel
theorem dX7_joinsNext_43 : decode cX7_joinsNext 43 = .ok (.aload_n 0, 1) := by decide +kernel
theorem dX7_joinsNext_44 : decode cX7_joinsNext 44 = .ok (.getfield 228, 3) := by decide +kernel
theorem dX7_joinsNext_47 : decode cX7_joinsNext 47 = .ok (.iaload, 1) := by decide +kernel
theorem dX7_joinsNext_48 : decode cX7_joinsNext 48 = .ok (.iload_n 2, 1) := by decide +kernel
theorem dX7_joinsNext_49 : decode cX7_joinsNext 49 = .ok (.iload 5, 2) := by decide +kernel
theorem dX7_joinsNext_51 : decode cX7_joinsNext 51 = .ok (.aload_n 0, 1) := by decide +kernel
theorem dX7_joinsNext_52 : decode cX7_joinsNext 52 = .ok (.getfield 78, 3) := by decide +kernel
theorem dX7_joinsNext_55 : decode cX7_joinsNext 55 = .ok (.aload_n 0, 1) := by decide +kernel
theorem dX7_joinsNext_56 : decode cX7_joinsNext 56 = .ok (.getfield 228, 3) := by decide +kernel
theorem dX7_joinsNext_59 : decode cX7_joinsNext 59 = .ok (.iaload, 1) := by decide +kernel
theorem dX7_joinsNext_60 : decode cX7_joinsNext 60 = .ok (.invokevirtual 242, 3) := by decide +kernel
theorem dX7_joinsNext_63 : decode cX7_joinsNext 63 = .ok (.istore 6, 2) := by decide +kernel
theorem dX7_joinsNext_65 : decode cX7_joinsNext 65 = .ok (.aload_n 0, 1) := by decide +kernel
theorem dX7_joinsNext_66 : decode cX7_joinsNext 66 = .ok (.iload_n 3, 1) := by decide +kernel
theorem dX7_joinsNext_67 : decode cX7_joinsNext 67 = .ok (.aload_n 0, 1) := by decide +kernel
theorem dX7_joinsNext_68 : decode cX7_joinsNext 68 = .ok (.getfield 7, 3) := by decide +kernel
theorem dX7_joinsNext_71 : decode cX7_joinsNext 71 = .ok (.iload_n 3, 1) := by decide +kernel
theorem dX7_joinsNext_72 : decode cX7_joinsNext 72 = .ok (.iaload, 1) := by decide +kernel
theorem dX7_joinsNext_73 : decode cX7_joinsNext 73 = .ok (.iconst 3, 1) := by decide +kernel
theorem dX7_joinsNext_74 : decode cX7_joinsNext 74 = .ok (.iload 6, 2) := by decide +kernel
theorem dX7_joinsNext_76 : decode cX7_joinsNext 76 = .ok (.iconst 0, 1) := by decide +kernel
theorem dX7_joinsNext_77 : decode cX7_joinsNext 77 = .ok (.invokevirtual 143, 3) := by decide +kernel
theorem dX7_joinsNext_80 : decode cX7_joinsNext 80 = .ok (.iload 6, 2) := by decide +kernel
theorem dX7_joinsNext_82 : decode cX7_joinsNext 82 = .ok (.bipush (-9), 2) := by decide +kernel
theorem dX7_joinsNext_84 : decode cX7_joinsNext 84 = .ok (.if_icmp .eq 7, 3) := by decide +kernel
theorem dX7_joinsNext_87 : decode cX7_joinsNext 87 = .ok (.iconst 1, 1) := by decide +kernel
theorem dX7_joinsNext_88 : decode cX7_joinsNext 88 = .ok (.goto 4, 3) := by decide +kernel
theorem dX7_joinsNext_91 : decode cX7_joinsNext 91 = .ok (.iconst 0, 1) := by decide +kernel
theorem dX7_joinsNext_92 : decode cX7_joinsNext 92 = .ok (.ireturn, 1) := by decide +kernel
theorem dX7_joinsNext_93 : decode cX7_joinsNext 93 = .ok (.aload_n 0, 1) := by decide +kernel
theorem dX7_joinsNext_94 : decode cX7_joinsNext 94 = .ok (.iload_n 1, 1) := by decide +kernel
theorem dX7_joinsNext_95 : decode cX7_joinsNext 95 = .ok (.iload 4, 2) := by decide +kernel
theorem dX7_joinsNext_97 : decode cX7_joinsNext 97 = .ok (.invokevirtual 111, 3) := by decide +kernel
theorem dX7_joinsNext_100 : decode cX7_joinsNext 100 = .ok (.istore 6, 2) := by decide +kernel
theorem dX7_joinsNext_102 : decode cX7_joinsNext 102 = .ok (.aload_n 0, 1) := by decide +kernel
theorem dX7_joinsNext_103 : decode cX7_joinsNext 103 = .ok (.iload_n 1, 1) := by decide +kernel
theorem dX7_joinsNext_104 : decode cX7_joinsNext 104 = .ok (.iload 4, 2) := by decide +kernel
theorem dX7_joinsNext_106 : decode cX7_joinsNext 106 = .ok (.aload_n 0, 1) := by decide +kernel
theorem dX7_joinsNext_107 : decode cX7_joinsNext 107 = .ok (.getfield 20, 3) := by decide +kernel
theorem dX7_joinsNext_110 : decode cX7_joinsNext 110 = .ok (.invokevirtual 172, 3) := by decide +kernel
theorem dX7_joinsNext_113 : decode cX7_joinsNext 113 = .ok (.bipush (-9), 2) := by decide +kernel
theorem dX7_joinsNext_115 : decode cX7_joinsNext 115 = .ok (.if_icmp .ne 19, 3) := by decide +kernel
theorem dX7_joinsNext_118 : decode cX7_joinsNext 118 = .ok (.aload_n 0, 1) := by decide +kernel
theorem dX7_joinsNext_119 : decode cX7_joinsNext 119 = .ok (.iload_n 2, 1) := by decide +kernel
theorem dX7_joinsNext_120 : decode cX7_joinsNext 120 = .ok (.iload 5, 2) := by decide +kernel
theorem dX7_joinsNext_122 : decode cX7_joinsNext 122 = .ok (.aload_n 0, 1) := by decide +kernel
theorem dX7_joinsNext_123 : decode cX7_joinsNext 123 = .ok (.getfield 23, 3) := by decide +kernel
theorem dX7_joinsNext_126 : decode cX7_joinsNext 126 = .ok (.invokevirtual 172, 3) := by decide +kernel
theorem dX7_joinsNext_129 : decode cX7_joinsNext 129 = .ok (.bipush (-9), 2) := by decide +kernel
theorem dX7_joinsNext_131 : decode cX7_joinsNext 131 = .ok (.if_icmp .eq 7, 3) := by decide +kernel
theorem dX7_joinsNext_134 : decode cX7_joinsNext 134 = .ok (.iconst 1, 1) := by decide +kernel
theorem dX7_joinsNext_135 : decode cX7_joinsNext 135 = .ok (.goto 4, 3) := by decide +kernel
theorem dX7_joinsNext_138 : decode cX7_joinsNext 138 = .ok (.iconst 0, 1) := by decide +kernel
theorem dX7_joinsNext_139 : decode cX7_joinsNext 139 = .ok (.istore 7, 2) := by decide +kernel
theorem dX7_joinsNext_141 : decode cX7_joinsNext 141 = .ok (.iload 6, 2) := by decide +kernel
theorem dX7_joinsNext_143 : decode cX7_joinsNext 143 = .ok (.aload_n 0, 1) := by decide +kernel
theorem dX7_joinsNext_144 : decode cX7_joinsNext 144 = .ok (.iload_n 2, 1) := by decide +kernel
theorem dX7_joinsNext_145 : decode cX7_joinsNext 145 = .ok (.iload 5, 2) := by decide +kernel
theorem dX7_joinsNext_147 : decode cX7_joinsNext 147 = .ok (.invokevirtual 111, 3) := by decide +kernel
theorem dX7_joinsNext_150 : decode cX7_joinsNext 150 = .ok (.if_icmp .ne 12, 3) := by decide +kernel
theorem dX7_joinsNext_153 : decode cX7_joinsNext 153 = .ok (.iload 7, 2) := by decide +kernel
theorem dX7_joinsNext_155 : decode cX7_joinsNext 155 = .ok (.ifCond .ne 7, 3) := by decide +kernel
theorem dX7_joinsNext_158 : decode cX7_joinsNext 158 = .ok (.iconst 1, 1) := by decide +kernel
theorem dX7_joinsNext_159 : decode cX7_joinsNext 159 = .ok (.goto 4, 3) := by decide +kernel
theorem dX7_joinsNext_162 : decode cX7_joinsNext 162 = .ok (.iconst 0, 1) := by decide +kernel
theorem dX7_joinsNext_163 : decode cX7_joinsNext 163 = .ok (.istore 8, 2) := by decide +kernel
theorem dX7_joinsNext_165 : decode cX7_joinsNext 165 = .ok (.aload_n 0, 1) := by decide +kernel
theorem dX7_joinsNext_166 : decode cX7_joinsNext 166 = .ok (.iload_n 1, 1) := by decide +kernel
theorem dX7_joinsNext_167 : decode cX7_joinsNext 167 = .ok (.iload 4, 2) := by decide +kernel
theorem dX7_joinsNext_169 : decode cX7_joinsNext 169 = .ok (.invokevirtual 119, 3) := by decide +kernel
theorem dX7_joinsNext_172 : decode cX7_joinsNext 172 = .ok (.ifCond .ne 17, 3) := by decide +kernel
theorem dX7_joinsNext_175 : decode cX7_joinsNext 175 = .ok (.aload_n 0, 1) := by decide +kernel
theorem dX7_joinsNext_176 : decode cX7_joinsNext 176 = .ok (.iload_n 2, 1) := by decide +kernel
theorem dX7_joinsNext_177 : decode cX7_joinsNext 177 = .ok (.iload 5, 2) := by decide +kernel
theorem dX7_joinsNext_179 : decode cX7_joinsNext 179 = .ok (.invokevirtual 119, 3) := by decide +kernel
theorem dX7_joinsNext_182 : decode cX7_joinsNext 182 = .ok (.ifCond .ne 7, 3) := by decide +kernel
theorem dX7_joinsNext_185 : decode cX7_joinsNext 185 = .ok (.iconst 1, 1) := by decide +kernel
theorem dX7_joinsNext_186 : decode cX7_joinsNext 186 = .ok (.goto 4, 3) := by decide +kernel
theorem dX7_joinsNext_189 : decode cX7_joinsNext 189 = .ok (.iconst 0, 1) := by decide +kernel
theorem dX7_joinsNext_190 : decode cX7_joinsNext 190 = .ok (.istore 9, 2) := by decide +kernel
theorem dX7_joinsNext_192 : decode cX7_joinsNext 192 = .ok (.aload_n 0, 1) := by decide +kernel
theorem dX7_joinsNext_193 : decode cX7_joinsNext 193 = .ok (.iload_n 1, 1) := by decide +kernel
theorem dX7_joinsNext_194 : decode cX7_joinsNext 194 = .ok (.iload 4, 2) := by decide +kernel
theorem dX7_joinsNext_196 : decode cX7_joinsNext 196 = .ok (.iload_n 2, 1) := by decide +kernel
theorem dX7_joinsNext_197 : decode cX7_joinsNext 197 = .ok (.iload 5, 2) := by decide +kernel
theorem dX7_joinsNext_199 : decode cX7_joinsNext 199 = .ok (.invokevirtual 235, 3) := by decide +kernel
theorem dX7_joinsNext_202 : decode cX7_joinsNext 202 = .ok (.ifCond .eq 41, 3) := by decide +kernel
theorem dX7_joinsNext_205 : decode cX7_joinsNext 205 = .ok (.iload 8, 2) := by decide +kernel
theorem dX7_joinsNext_207 : decode cX7_joinsNext 207 = .ok (.ifCond .eq 36, 3) := by decide +kernel
theorem dX7_joinsNext_210 : decode cX7_joinsNext 210 = .ok (.aload_n 0, 1) := by decide +kernel
theorem dX7_joinsNext_211 : decode cX7_joinsNext 211 = .ok (.iload_n 3, 1) := by decide +kernel
theorem dX7_joinsNext_212 : decode cX7_joinsNext 212 = .ok (.aload_n 0, 1) := by decide +kernel
theorem dX7_joinsNext_213 : decode cX7_joinsNext 213 = .ok (.getfield 7, 3) := by decide +kernel
theorem dX7_joinsNext_216 : decode cX7_joinsNext 216 = .ok (.iload_n 3, 1) := by decide +kernel
theorem dX7_joinsNext_217 : decode cX7_joinsNext 217 = .ok (.iaload, 1) := by decide +kernel
theorem dX7_joinsNext_218 : decode cX7_joinsNext 218 = .ok (.iconst 0, 1) := by decide +kernel
theorem dX7_joinsNext_219 : decode cX7_joinsNext 219 = .ok (.aload_n 0, 1) := by decide +kernel
theorem dX7_joinsNext_220 : decode cX7_joinsNext 220 = .ok (.iload_n 1, 1) := by decide +kernel
theorem dX7_joinsNext_221 : decode cX7_joinsNext 221 = .ok (.iload 4, 2) := by decide +kernel
theorem dX7_joinsNext_223 : decode cX7_joinsNext 223 = .ok (.invokevirtual 159, 3) := by decide +kernel
theorem dX7_joinsNext_226 : decode cX7_joinsNext 226 = .ok (.iload 6, 2) := by decide +kernel
theorem dX7_joinsNext_228 : decode cX7_joinsNext 228 = .ok (.invokevirtual 143, 3) := by decide +kernel
theorem dX7_joinsNext_231 : decode cX7_joinsNext 231 = .ok (.aload_n 0, 1) := by decide +kernel
theorem dX7_joinsNext_232 : decode cX7_joinsNext 232 = .ok (.iload 4, 2) := by decide +kernel
theorem dX7_joinsNext_234 : decode cX7_joinsNext 234 = .ok (.iload 5, 2) := by decide +kernel
theorem dX7_joinsNext_236 : decode cX7_joinsNext 236 = .ok (.iload 6, 2) := by decide +kernel
theorem dX7_joinsNext_238 : decode cX7_joinsNext 238 = .ok (.invokevirtual 246, 3) := by decide +kernel
theorem dX7_joinsNext_241 : decode cX7_joinsNext 241 = .ok (.iconst 1, 1) := by decide +kernel
theorem dX7_joinsNext_242 : decode cX7_joinsNext 242 = .ok (.ireturn, 1) := by decide +kernel
theorem dX7_joinsNext_243 : decode cX7_joinsNext 243 = .ok (.aload_n 0, 1) := by decide +kernel
theorem dX7_joinsNext_244 : decode cX7_joinsNext 244 = .ok (.iload_n 1, 1) := by decide +kernel
theorem dX7_joinsNext_245 : decode cX7_joinsNext 245 = .ok (.iload 4, 2) := by decide +kernel
theorem dX7_joinsNext_247 : decode cX7_joinsNext 247 = .ok (.iload_n 2, 1) := by decide +kernel
theorem dX7_joinsNext_248 : decode cX7_joinsNext 248 = .ok (.iload 5, 2) := by decide +kernel
theorem dX7_joinsNext_250 : decode cX7_joinsNext 250 = .ok (.invokevirtual 235, 3) := by decide +kernel
theorem dX7_joinsNext_253 : decode cX7_joinsNext 253 = .ok (.ifCond .eq 51, 3) := by decide +kernel
theorem dX7_joinsNext_256 : decode cX7_joinsNext 256 = .ok (.aload_n 0, 1) := by decide +kernel
theorem dX7_joinsNext_257 : decode cX7_joinsNext 257 = .ok (.getfield 7, 3) := by decide +kernel
theorem dX7_joinsNext_260 : decode cX7_joinsNext 260 = .ok (.sipush 777, 3) := by decide +kernel
theorem dX7_joinsNext_263 : decode cX7_joinsNext 263 = .ok (.iaload, 1) := by decide +kernel
theorem dX7_joinsNext_264 : decode cX7_joinsNext 264 = .ok (.iconst 1, 1) := by decide +kernel
theorem dX7_joinsNext_265 : decode cX7_joinsNext 265 = .ok (.if_icmp .eq 8, 3) := by decide +kernel
theorem dX7_joinsNext_268 : decode cX7_joinsNext 268 = .ok (.iload 7, 2) := by decide +kernel
theorem dX7_joinsNext_270 : decode cX7_joinsNext 270 = .ok (.ifCond .eq 34, 3) := by decide +kernel
theorem dX7_joinsNext_273 : decode cX7_joinsNext 273 = .ok (.aload_n 0, 1) := by decide +kernel
theorem dX7_joinsNext_274 : decode cX7_joinsNext 274 = .ok (.iload_n 3, 1) := by decide +kernel
theorem dX7_joinsNext_275 : decode cX7_joinsNext 275 = .ok (.aload_n 0, 1) := by decide +kernel
theorem dX7_joinsNext_276 : decode cX7_joinsNext 276 = .ok (.getfield 7, 3) := by decide +kernel
theorem dX7_joinsNext_279 : decode cX7_joinsNext 279 = .ok (.iload_n 3, 1) := by decide +kernel
theorem dX7_joinsNext_280 : decode cX7_joinsNext 280 = .ok (.iaload, 1) := by decide +kernel
theorem dX7_joinsNext_281 : decode cX7_joinsNext 281 = .ok (.iconst 0, 1) := by decide +kernel
theorem dX7_joinsNext_282 : decode cX7_joinsNext 282 = .ok (.aload_n 0, 1) := by decide +kernel
theorem dX7_joinsNext_283 : decode cX7_joinsNext 283 = .ok (.iload_n 1, 1) := by decide +kernel
theorem dX7_joinsNext_284 : decode cX7_joinsNext 284 = .ok (.iload 4, 2) := by decide +kernel
theorem dX7_joinsNext_286 : decode cX7_joinsNext 286 = .ok (.invokevirtual 159, 3) := by decide +kernel
theorem dX7_joinsNext_289 : decode cX7_joinsNext 289 = .ok (.aload_n 0, 1) := by decide +kernel
theorem dX7_joinsNext_290 : decode cX7_joinsNext 290 = .ok (.iload_n 1, 1) := by decide +kernel
theorem dX7_joinsNext_291 : decode cX7_joinsNext 291 = .ok (.iload 4, 2) := by decide +kernel
theorem dX7_joinsNext_293 : decode cX7_joinsNext 293 = .ok (.iload_n 2, 1) := by decide +kernel
theorem dX7_joinsNext_294 : decode cX7_joinsNext 294 = .ok (.iload 5, 2) := by decide +kernel
theorem dX7_joinsNext_296 : decode cX7_joinsNext 296 = .ok (.invokevirtual 250, 3) := by decide +kernel
theorem dX7_joinsNext_299 : decode cX7_joinsNext 299 = .ok (.invokevirtual 143, 3) := by decide +kernel
theorem dX7_joinsNext_302 : decode cX7_joinsNext 302 = .ok (.iconst 1, 1) := by decide +kernel
theorem dX7_joinsNext_303 : decode cX7_joinsNext 303 = .ok (.ireturn, 1) := by decide +kernel
theorem dX7_joinsNext_304 : decode cX7_joinsNext 304 = .ok (.iload 9, 2) := by decide +kernel
theorem dX7_joinsNext_306 : decode cX7_joinsNext 306 = .ok (.ifCond .eq 92, 3) := by decide +kernel
theorem dX7_joinsNext_309 : decode cX7_joinsNext 309 = .ok (.aload_n 0, 1) := by decide +kernel
theorem dX7_joinsNext_310 : decode cX7_joinsNext 310 = .ok (.iload_n 1, 1) := by decide +kernel
theorem dX7_joinsNext_311 : decode cX7_joinsNext 311 = .ok (.iload 4, 2) := by decide +kernel
theorem dX7_joinsNext_313 : decode cX7_joinsNext 313 = .ok (.iload_n 2, 1) := by decide +kernel
theorem dX7_joinsNext_314 : decode cX7_joinsNext 314 = .ok (.iload 5, 2) := by decide +kernel
theorem dX7_joinsNext_316 : decode cX7_joinsNext 316 = .ok (.invokevirtual 235, 3) := by decide +kernel
theorem dX7_joinsNext_319 : decode cX7_joinsNext 319 = .ok (.ifCond .ne 79, 3) := by decide +kernel
theorem dX7_joinsNext_322 : decode cX7_joinsNext 322 = .ok (.aload_n 0, 1) := by decide +kernel
theorem dX7_joinsNext_323 : decode cX7_joinsNext 323 = .ok (.getfield 7, 3) := by decide +kernel
theorem dX7_joinsNext_326 : decode cX7_joinsNext 326 = .ok (.sipush 776, 3) := by decide +kernel
theorem dX7_joinsNext_329 : decode cX7_joinsNext 329 = .ok (.iaload, 1) := by decide +kernel
theorem dX7_joinsNext_330 : decode cX7_joinsNext 330 = .ok (.iconst 1, 1) := by decide +kernel
theorem dX7_joinsNext_331 : decode cX7_joinsNext 331 = .ok (.if_icmp .ne 67, 3) := by decide +kernel
theorem dX7_joinsNext_334 : decode cX7_joinsNext 334 = .ok (.iload 8, 2) := by decide +kernel
theorem dX7_joinsNext_336 : decode cX7_joinsNext 336 = .ok (.ifCond .eq 62, 3) := by decide +kernel
theorem dX7_joinsNext_339 : decode cX7_joinsNext 339 = .ok (.iload 6, 2) := by decide +kernel
theorem dX7_joinsNext_341 : decode cX7_joinsNext 341 = .ok (.ifCond .le 57, 3) := by decide +kernel
theorem dX7_joinsNext_344 : decode cX7_joinsNext 344 = .ok (.aload_n 0, 1) := by decide +kernel
theorem dX7_joinsNext_345 : decode cX7_joinsNext 345 = .ok (.iconst 2, 1) := by decide +kernel
theorem dX7_joinsNext_346 : decode cX7_joinsNext 346 = .ok (.iload_n 1, 1) := by decide +kernel
theorem dX7_joinsNext_347 : decode cX7_joinsNext 347 = .ok (.iload 4, 2) := by decide +kernel
theorem dX7_joinsNext_349 : decode cX7_joinsNext 349 = .ok (.iconst 1, 1) := by decide +kernel
theorem dX7_joinsNext_350 : decode cX7_joinsNext 350 = .ok (.iload_n 2, 1) := by decide +kernel
theorem dX7_joinsNext_351 : decode cX7_joinsNext 351 = .ok (.iload 5, 2) := by decide +kernel
theorem dX7_joinsNext_353 : decode cX7_joinsNext 353 = .ok (.iconst 1, 1) := by decide +kernel
theorem dX7_joinsNext_354 : decode cX7_joinsNext 354 = .ok (.invokevirtual 242, 3) := by decide +kernel
theorem dX7_joinsNext_357 : decode cX7_joinsNext 357 = .ok (.istore 10, 2) := by decide +kernel
theorem dX7_joinsNext_359 : decode cX7_joinsNext 359 = .ok (.aload_n 0, 1) := by decide +kernel
theorem dX7_joinsNext_360 : decode cX7_joinsNext 360 = .ok (.iload_n 3, 1) := by decide +kernel
theorem dX7_joinsNext_361 : decode cX7_joinsNext 361 = .ok (.aload_n 0, 1) := by decide +kernel
theorem dX7_joinsNext_362 : decode cX7_joinsNext 362 = .ok (.getfield 7, 3) := by decide +kernel
theorem dX7_joinsNext_365 : decode cX7_joinsNext 365 = .ok (.iload_n 3, 1) := by decide +kernel
theorem dX7_joinsNext_366 : decode cX7_joinsNext 366 = .ok (.iaload, 1) := by decide +kernel
theorem dX7_joinsNext_367 : decode cX7_joinsNext 367 = .ok (.iconst 2, 1) := by decide +kernel
theorem dX7_joinsNext_368 : decode cX7_joinsNext 368 = .ok (.iload 10, 2) := by decide +kernel
theorem dX7_joinsNext_370 : decode cX7_joinsNext 370 = .ok (.iload 6, 2) := by decide +kernel
theorem dX7_joinsNext_372 : decode cX7_joinsNext 372 = .ok (.invokevirtual 143, 3) := by decide +kernel
theorem dX7_joinsNext_375 : decode cX7_joinsNext 375 = .ok (.aload_n 0, 1) := by decide +kernel
theorem dX7_joinsNext_376 : decode cX7_joinsNext 376 = .ok (.iload 4, 2) := by decide +kernel
theorem dX7_joinsNext_378 : decode cX7_joinsNext 378 = .ok (.iload 5, 2) := by decide +kernel
theorem dX7_joinsNext_380 : decode cX7_joinsNext 380 = .ok (.iload 6, 2) := by decide +kernel
theorem dX7_joinsNext_382 : decode cX7_joinsNext 382 = .ok (.invokevirtual 246, 3) := by decide +kernel
theorem dX7_joinsNext_385 : decode cX7_joinsNext 385 = .ok (.iload 10, 2) := by decide +kernel
theorem dX7_joinsNext_387 : decode cX7_joinsNext 387 = .ok (.bipush (-9), 2) := by decide +kernel
theorem dX7_joinsNext_389 : decode cX7_joinsNext 389 = .ok (.if_icmp .eq 7, 3) := by decide +kernel
theorem dX7_joinsNext_392 : decode cX7_joinsNext 392 = .ok (.iconst 1, 1) := by decide +kernel
theorem dX7_joinsNext_393 : decode cX7_joinsNext 393 = .ok (.goto 4, 3) := by decide +kernel
theorem dX7_joinsNext_396 : decode cX7_joinsNext 396 = .ok (.iconst 0, 1) := by decide +kernel
theorem dX7_joinsNext_397 : decode cX7_joinsNext 397 = .ok (.ireturn, 1) := by decide +kernel
theorem dX7_joinsNext_398 : decode cX7_joinsNext 398 = .ok (.aload_n 0, 1) := by decide +kernel
theorem dX7_joinsNext_399 : decode cX7_joinsNext 399 = .ok (.iconst 1, 1) := by decide +kernel
theorem dX7_joinsNext_400 : decode cX7_joinsNext 400 = .ok (.iload_n 1, 1) := by decide +kernel
theorem dX7_joinsNext_401 : decode cX7_joinsNext 401 = .ok (.iload 4, 2) := by decide +kernel
theorem dX7_joinsNext_403 : decode cX7_joinsNext 403 = .ok (.aload_n 0, 1) := by decide +kernel
theorem dX7_joinsNext_404 : decode cX7_joinsNext 404 = .ok (.getfield 20, 3) := by decide +kernel
theorem dX7_joinsNext_407 : decode cX7_joinsNext 407 = .ok (.iload 4, 2) := by decide +kernel
theorem dX7_joinsNext_409 : decode cX7_joinsNext 409 = .ok (.iaload, 1) := by decide +kernel
theorem dX7_joinsNext_410 : decode cX7_joinsNext 410 = .ok (.iload_n 2, 1) := by decide +kernel
theorem dX7_joinsNext_411 : decode cX7_joinsNext 411 = .ok (.iload 5, 2) := by decide +kernel
theorem dX7_joinsNext_413 : decode cX7_joinsNext 413 = .ok (.aload_n 0, 1) := by decide +kernel
theorem dX7_joinsNext_414 : decode cX7_joinsNext 414 = .ok (.getfield 23, 3) := by decide +kernel
theorem dX7_joinsNext_417 : decode cX7_joinsNext 417 = .ok (.iload 5, 2) := by decide +kernel
theorem dX7_joinsNext_419 : decode cX7_joinsNext 419 = .ok (.iaload, 1) := by decide +kernel
theorem dX7_joinsNext_420 : decode cX7_joinsNext 420 = .ok (.invokevirtual 242, 3) := by decide +kernel
theorem dX7_joinsNext_423 : decode cX7_joinsNext 423 = .ok (.istore 10, 2) := by decide +kernel
theorem dX7_joinsNext_425 : decode cX7_joinsNext 425 = .ok (.aload_n 0, 1) := by decide +kernel
theorem dX7_joinsNext_426 : decode cX7_joinsNext 426 = .ok (.iload_n 3, 1) := by decide +kernel
theorem dX7_joinsNext_427 : decode cX7_joinsNext 427 = .ok (.aload_n 0, 1) := by decide +kernel
theorem dX7_joinsNext_428 : decode cX7_joinsNext 428 = .ok (.getfield 7, 3) := by decide +kernel
theorem dX7_joinsNext_431 : decode cX7_joinsNext 431 = .ok (.iload_n 3, 1) := by decide +kernel
theorem dX7_joinsNext_432 : decode cX7_joinsNext 432 = .ok (.iaload, 1) := by decide +kernel
theorem dX7_joinsNext_433 : decode cX7_joinsNext 433 = .ok (.iconst 1, 1) := by decide +kernel
theorem dX7_joinsNext_434 : decode cX7_joinsNext 434 = .ok (.iload 10, 2) := by decide +kernel
theorem dX7_joinsNext_436 : decode cX7_joinsNext 436 = .ok (.iconst 0, 1) := by decide +kernel
theorem dX7_joinsNext_437 : decode cX7_joinsNext 437 = .ok (.invokevirtual 143, 3) := by decide +kernel
theorem dX7_joinsNext_440 : decode cX7_joinsNext 440 = .ok (.iload 10, 2) := by decide +kernel
theorem dX7_joinsNext_442 : decode cX7_joinsNext 442 = .ok (.bipush (-9), 2) := by decide +kernel
theorem dX7_joinsNext_444 : decode cX7_joinsNext 444 = .ok (.if_icmp .eq 7, 3) := by decide +kernel
theorem dX7_joinsNext_447 : decode cX7_joinsNext 447 = .ok (.iconst 1, 1) := by decide +kernel
theorem dX7_joinsNext_448 : decode cX7_joinsNext 448 = .ok (.goto 4, 3) := by decide +kernel
theorem dX7_joinsNext_451 : decode cX7_joinsNext 451 = .ok (.iconst 0, 1) := by decide +kernel
theorem dX7_joinsNext_452 : decode cX7_joinsNext 452 = .ok (.ireturn, 1) := by decide +kernel
theorem dX7_wrong_0 : decode cX7_wrong 0 = .ok (.iload_n 3, 1) := by decide +kernel
theorem dX7_wrong_1 : decode cX7_wrong 1 = .ok (.ifCond .eq 17, 3) := by decide +kernel
theorem dX7_wrong_4 : decode cX7_wrong 4 = .ok (.iload_n 1, 1) := by decide +kernel
theorem dX7_wrong_5 : decode cX7_wrong 5 = .ok (.invokestatic 182, 3) := by decide +kernel
theorem dX7_wrong_8 : decode cX7_wrong 8 = .ok (.ifCond .eq 10, 3) := by decide +kernel
theorem dX7_wrong_11 : decode cX7_wrong 11 = .ok (.iload_n 2, 1) := by decide +kernel
theorem dX7_wrong_12 : decode cX7_wrong 12 = .ok (.invokestatic 182, 3) := by decide +kernel
theorem dX7_wrong_15 : decode cX7_wrong 15 = .ok (.ifCond .ne 7, 3) := by decide +kernel
theorem dX7_wrong_18 : decode cX7_wrong 18 = .ok (.iconst (-1), 1) := by decide +kernel
theorem dX7_wrong_19 : decode cX7_wrong 19 = .ok (.goto 25, 3) := by decide +kernel
theorem dX7_wrong_22 : decode cX7_wrong 22 = .ok (.aload_n 0, 1) := by decide +kernel
theorem dX7_wrong_23 : decode cX7_wrong 23 = .ok (.iload_n 1, 1) := by decide +kernel
theorem dX7_wrong_24 : decode cX7_wrong 24 = .ok (.invokevirtual 204, 3) := by decide +kernel
theorem dX7_wrong_27 : decode cX7_wrong 27 = .ok (.ifCond .ne 11, 3) := by decide +kernel
theorem dX7_wrong_30 : decode cX7_wrong 30 = .ok (.aload_n 0, 1) := by decide +kernel
theorem dX7_wrong_31 : decode cX7_wrong 31 = .ok (.iload_n 2, 1) := by decide +kernel
theorem dX7_wrong_32 : decode cX7_wrong 32 = .ok (.invokevirtual 204, 3) := by decide +kernel
theorem dX7_wrong_35 : decode cX7_wrong 35 = .ok (.ifCond .eq 8, 3) := by decide +kernel
theorem dX7_wrong_38 : decode cX7_wrong 38 = .ok (.bipush (-2), 2) := by decide +kernel
theorem dX7_wrong_40 : decode cX7_wrong 40 = .ok (.goto 4, 3) := by decide +kernel
theorem dX7_wrong_43 : decode cX7_wrong 43 = .ok (.iconst 0, 1) := by decide +kernel
theorem dX7_wrong_44 : decode cX7_wrong 44 = .ok (.ireturn, 1) := by decide +kernel
theorem dX7_join_0 : decode cX7_join 0 = .ok (.aload_n 0, 1) := by decide +kernel
theorem dX7_join_1 : decode cX7_join 1 = .ok (.iload_n 1, 1) := by decide +kernel
theorem dX7_join_2 : decode cX7_join 2 = .ok (.iload_n 2, 1) := by decide +kernel
theorem dX7_join_3 : decode cX7_join 3 = .ok (.iload_n 3, 1) := by decide +kernel
theorem dX7_join_4 : decode cX7_join 4 = .ok (.invokestatic 182, 3) := by decide +kernel
theorem dX7_join_7 : decode cX7_join 7 = .ok (.invokevirtual 254, 3) := by decide +kernel
theorem dX7_join_10 : decode cX7_join 10 = .ok (.istore 4, 2) := by decide +kernel
theorem dX7_join_12 : decode cX7_join 12 = .ok (.iload 4, 2) := by decide +kernel
theorem dX7_join_14 : decode cX7_join 14 = .ok (.ifCond .eq 6, 3) := by decide +kernel
theorem dX7_join_17 : decode cX7_join 17 = .ok (.iload 4, 2) := by decide +kernel
theorem dX7_join_19 : decode cX7_join 19 = .ok (.ireturn, 1) := by decide +kernel
theorem dX7_join_20 : decode cX7_join 20 = .ok (.aload_n 0, 1) := by decide +kernel
theorem dX7_join_21 : decode cX7_join 21 = .ok (.iconst 0, 1) := by decide +kernel
theorem dX7_join_22 : decode cX7_join 22 = .ok (.putfield 221, 3) := by decide +kernel
theorem dX7_join_25 : decode cX7_join 25 = .ok (.aload_n 0, 1) := by decide +kernel
theorem dX7_join_26 : decode cX7_join 26 = .ok (.bipush 97, 2) := by decide +kernel
theorem dX7_join_28 : decode cX7_join 28 = .ok (.iload_n 1, 1) := by decide +kernel
theorem dX7_join_29 : decode cX7_join 29 = .ok (.imul, 1) := by decide +kernel
theorem dX7_join_30 : decode cX7_join 30 = .ok (.bipush 97, 2) := by decide +kernel
theorem dX7_join_32 : decode cX7_join 32 = .ok (.iload_n 2, 1) := by decide +kernel
theorem dX7_join_33 : decode cX7_join 33 = .ok (.imul, 1) := by decide +kernel
theorem dX7_join_34 : decode cX7_join 34 = .ok (.sipush 5460, 3) := by decide +kernel
theorem dX7_join_37 : decode cX7_join 37 = .ok (.invokevirtual 258, 3) := by decide +kernel
theorem dX7_join_40 : decode cX7_join 40 = .ok (.ifCond .ne 6, 3) := by decide +kernel
theorem dX7_join_43 : decode cX7_join 43 = .ok (.bipush (-3), 2) := by decide +kernel
theorem dX7_join_45 : decode cX7_join 45 = .ok (.ireturn, 1) := by decide +kernel
theorem dX7_join_46 : decode cX7_join 46 = .ok (.aload_n 0, 1) := by decide +kernel
theorem dX7_join_47 : decode cX7_join 47 = .ok (.invokevirtual 198, 3) := by decide +kernel
theorem dX7_join_50 : decode cX7_join 50 = .ok (.aload_n 0, 1) := by decide +kernel
theorem dX7_join_51 : decode cX7_join 51 = .ok (.sipush 5460, 3) := by decide +kernel
theorem dX7_join_54 : decode cX7_join 54 = .ok (.iload_n 3, 1) := by decide +kernel
theorem dX7_join_55 : decode cX7_join 55 = .ok (.invokevirtual 201, 3) := by decide +kernel
theorem dX7_join_58 : decode cX7_join 58 = .ok (.ireturn, 1) := by decide +kernel
theorem dX7_joinAll_0 : decode cX7_joinAll 0 = .ok (.iload_n 1, 1) := by decide +kernel
theorem dX7_joinAll_1 : decode cX7_joinAll 1 = .ok (.iconst 0, 1) := by decide +kernel
theorem dX7_joinAll_2 : decode cX7_joinAll 2 = .ok (.sipush 255, 3) := by decide +kernel
theorem dX7_joinAll_5 : decode cX7_joinAll 5 = .ok (.invokestatic 122, 3) := by decide +kernel
theorem dX7_joinAll_8 : decode cX7_joinAll 8 = .ok (.ifCond .eq 10, 3) := by decide +kernel
theorem dX7_joinAll_11 : decode cX7_joinAll 11 = .ok (.iload_n 2, 1) := by decide +kernel
theorem dX7_joinAll_12 : decode cX7_joinAll 12 = .ok (.invokestatic 182, 3) := by decide +kernel
theorem dX7_joinAll_15 : decode cX7_joinAll 15 = .ok (.ifCond .ne 5, 3) := by decide +kernel
theorem dX7_joinAll_18 : decode cX7_joinAll 18 = .ok (.iconst (-1), 1) := by decide +kernel
theorem dX7_joinAll_19 : decode cX7_joinAll 19 = .ok (.ireturn, 1) := by decide +kernel
theorem dX7_joinAll_20 : decode cX7_joinAll 20 = .ok (.iconst 0, 1) := by decide +kernel
theorem dX7_joinAll_21 : decode cX7_joinAll 21 = .ok (.istore_n 3, 1) := by decide +kernel
theorem dX7_joinAll_22 : decode cX7_joinAll 22 = .ok (.iconst 1, 1) := by decide +kernel
theorem dX7_joinAll_23 : decode cX7_joinAll 23 = .ok (.istore 4, 2) := by decide +kernel
theorem dX7_joinAll_25 : decode cX7_joinAll 25 = .ok (.iconst 0, 1) := by decide +kernel
theorem dX7_joinAll_26 : decode cX7_joinAll 26 = .ok (.istore 5, 2) := by decide +kernel
theorem dX7_joinAll_28 : decode cX7_joinAll 28 = .ok (.iload 5, 2) := by decide +kernel
theorem dX7_joinAll_30 : decode cX7_joinAll 30 = .ok (.bipush 8, 2) := by decide +kernel
theorem dX7_joinAll_32 : decode cX7_joinAll 32 = .ok (.if_icmp .ge 48, 3) := by decide +kernel
theorem dX7_joinAll_35 : decode cX7_joinAll 35 = .ok (.iload_n 3, 1) := by decide +kernel
theorem dX7_joinAll_36 : decode cX7_joinAll 36 = .ok (.iload_n 1, 1) := by decide +kernel
theorem dX7_joinAll_37 : decode cX7_joinAll 37 = .ok (.iload 5, 2) := by decide +kernel
theorem dX7_joinAll_39 : decode cX7_joinAll 39 = .ok (.ishr, 1) := by decide +kernel
theorem dX7_joinAll_40 : decode cX7_joinAll 40 = .ok (.iconst 1, 1) := by decide +kernel
theorem dX7_joinAll_41 : decode cX7_joinAll 41 = .ok (.iand, 1) := by decide +kernel
theorem dX7_joinAll_42 : decode cX7_joinAll 42 = .ok (.iadd, 1) := by decide +kernel
theorem dX7_joinAll_43 : decode cX7_joinAll 43 = .ok (.istore_n 3, 1) := by decide +kernel
theorem dX7_joinAll_44 : decode cX7_joinAll 44 = .ok (.iload 4, 2) := by decide +kernel
theorem dX7_joinAll_46 : decode cX7_joinAll 46 = .ok (.ifCond .eq 25, 3) := by decide +kernel
theorem dX7_joinAll_49 : decode cX7_joinAll 49 = .ok (.iload_n 1, 1) := by decide +kernel
theorem dX7_joinAll_50 : decode cX7_joinAll 50 = .ok (.iload 5, 2) := by decide +kernel
theorem dX7_joinAll_52 : decode cX7_joinAll 52 = .ok (.ishr, 1) := by decide +kernel
theorem dX7_joinAll_53 : decode cX7_joinAll 53 = .ok (.iconst 1, 1) := by decide +kernel
theorem dX7_joinAll_54 : decode cX7_joinAll 54 = .ok (.iand, 1) := by decide +kernel
theorem dX7_joinAll_55 : decode cX7_joinAll 55 = .ok (.ifCond .eq 12, 3) := by decide +kernel
theorem dX7_joinAll_58 : decode cX7_joinAll 58 = .ok (.aload_n 0, 1) := by decide +kernel
theorem dX7_joinAll_59 : decode cX7_joinAll 59 = .ok (.iload 5, 2) := by decide +kernel
theorem dX7_joinAll_61 : decode cX7_joinAll 61 = .ok (.invokevirtual 204, 3) := by decide +kernel
theorem dX7_joinAll_64 : decode cX7_joinAll 64 = .ok (.ifCond .ne 7, 3) := by decide +kernel
theorem dX7_joinAll_67 : decode cX7_joinAll 67 = .ok (.iconst 1, 1) := by decide +kernel
theorem dX7_joinAll_68 : decode cX7_joinAll 68 = .ok (.goto 4, 3) := by decide +kernel
theorem dX7_joinAll_71 : decode cX7_joinAll 71 = .ok (.iconst 0, 1) := by decide +kernel
theorem dX7_joinAll_72 : decode cX7_joinAll 72 = .ok (.istore 4, 2) := by decide +kernel
theorem dX7_joinAll_74 : decode cX7_joinAll 74 = .ok (.iinc 5 1, 3) := by decide +kernel
theorem dX7_joinAll_77 : decode cX7_joinAll 77 = .ok (.goto (-49), 3) := by decide +kernel
theorem dX7_joinAll_80 : decode cX7_joinAll 80 = .ok (.iload_n 3, 1) := by decide +kernel
theorem dX7_joinAll_81 : decode cX7_joinAll 81 = .ok (.iconst 2, 1) := by decide +kernel
theorem dX7_joinAll_82 : decode cX7_joinAll 82 = .ok (.if_icmp .lt 8, 3) := by decide +kernel
theorem dX7_joinAll_85 : decode cX7_joinAll 85 = .ok (.iload 4, 2) := by decide +kernel
theorem dX7_joinAll_87 : decode cX7_joinAll 87 = .ok (.ifCond .ne 6, 3) := by decide +kernel
theorem dX7_joinAll_90 : decode cX7_joinAll 90 = .ok (.bipush (-2), 2) := by decide +kernel
theorem dX7_joinAll_92 : decode cX7_joinAll 92 = .ok (.ireturn, 1) := by decide +kernel
theorem dX7_joinAll_93 : decode cX7_joinAll 93 = .ok (.aload_n 0, 1) := by decide +kernel
theorem dX7_joinAll_94 : decode cX7_joinAll 94 = .ok (.getfield 7, 3) := by decide +kernel
theorem dX7_joinAll_97 : decode cX7_joinAll 97 = .ok (.sipush 5557, 3) := by decide +kernel
theorem dX7_joinAll_100 : decode cX7_joinAll 100 = .ok (.iconst 0, 1) := by decide +kernel
theorem dX7_joinAll_101 : decode cX7_joinAll 101 = .ok (.iastore, 1) := by decide +kernel
theorem dX7_joinAll_102 : decode cX7_joinAll 102 = .ok (.iconst 0, 1) := by decide +kernel
theorem dX7_joinAll_103 : decode cX7_joinAll 103 = .ok (.istore 5, 2) := by decide +kernel
theorem dX7_joinAll_105 : decode cX7_joinAll 105 = .ok (.iload 5, 2) := by decide +kernel
theorem dX7_joinAll_107 : decode cX7_joinAll 107 = .ok (.bipush 8, 2) := by decide +kernel
theorem dX7_joinAll_109 : decode cX7_joinAll 109 = .ok (.if_icmp .ge 91, 3) := by decide +kernel
theorem dX7_joinAll_112 : decode cX7_joinAll 112 = .ok (.iload_n 1, 1) := by decide +kernel
theorem dX7_joinAll_113 : decode cX7_joinAll 113 = .ok (.iload 5, 2) := by decide +kernel
theorem dX7_joinAll_115 : decode cX7_joinAll 115 = .ok (.ishr, 1) := by decide +kernel
theorem dX7_joinAll_116 : decode cX7_joinAll 116 = .ok (.iconst 1, 1) := by decide +kernel
theorem dX7_joinAll_117 : decode cX7_joinAll 117 = .ok (.iand, 1) := by decide +kernel
theorem dX7_joinAll_118 : decode cX7_joinAll 118 = .ok (.iconst 1, 1) := by decide +kernel
theorem dX7_joinAll_119 : decode cX7_joinAll 119 = .ok (.if_icmp .ne 75, 3) := by decide +kernel
theorem dX7_joinAll_122 : decode cX7_joinAll 122 = .ok (.aload_n 0, 1) := by decide +kernel
theorem dX7_joinAll_123 : decode cX7_joinAll 123 = .ok (.iconst 0, 1) := by decide +kernel
theorem dX7_joinAll_124 : decode cX7_joinAll 124 = .ok (.putfield 221, 3) := by decide +kernel
theorem dX7_joinAll_127 : decode cX7_joinAll 127 = .ok (.aload_n 0, 1) := by decide +kernel
theorem dX7_joinAll_128 : decode cX7_joinAll 128 = .ok (.getfield 7, 3) := by decide +kernel
theorem dX7_joinAll_131 : decode cX7_joinAll 131 = .ok (.sipush 5557, 3) := by decide +kernel
theorem dX7_joinAll_134 : decode cX7_joinAll 134 = .ok (.iaload, 1) := by decide +kernel
theorem dX7_joinAll_135 : decode cX7_joinAll 135 = .ok (.ifCond .ne 7, 3) := by decide +kernel
theorem dX7_joinAll_138 : decode cX7_joinAll 138 = .ok (.iconst 1, 1) := by decide +kernel
theorem dX7_joinAll_139 : decode cX7_joinAll 139 = .ok (.goto 4, 3) := by decide +kernel
theorem dX7_joinAll_142 : decode cX7_joinAll 142 = .ok (.iconst 0, 1) := by decide +kernel
theorem dX7_joinAll_143 : decode cX7_joinAll 143 = .ok (.istore 6, 2) := by decide +kernel
theorem dX7_joinAll_145 : decode cX7_joinAll 145 = .ok (.iload 6, 2) := by decide +kernel
theorem dX7_joinAll_147 : decode cX7_joinAll 147 = .ok (.ifCond .ne 24, 3) := by decide +kernel
theorem dX7_joinAll_150 : decode cX7_joinAll 150 = .ok (.aload_n 0, 1) := by decide +kernel
theorem dX7_joinAll_151 : decode cX7_joinAll 151 = .ok (.sipush 5557, 3) := by decide +kernel
theorem dX7_joinAll_154 : decode cX7_joinAll 154 = .ok (.bipush 97, 2) := by decide +kernel
theorem dX7_joinAll_156 : decode cX7_joinAll 156 = .ok (.iload 5, 2) := by decide +kernel
theorem dX7_joinAll_158 : decode cX7_joinAll 158 = .ok (.imul, 1) := by decide +kernel
theorem dX7_joinAll_159 : decode cX7_joinAll 159 = .ok (.sipush 5460, 3) := by decide +kernel
theorem dX7_joinAll_162 : decode cX7_joinAll 162 = .ok (.invokevirtual 258, 3) := by decide +kernel
theorem dX7_joinAll_165 : decode cX7_joinAll 165 = .ok (.ifCond .ne 6, 3) := by decide +kernel
theorem dX7_joinAll_168 : decode cX7_joinAll 168 = .ok (.bipush (-3), 2) := by decide +kernel
theorem dX7_joinAll_170 : decode cX7_joinAll 170 = .ok (.ireturn, 1) := by decide +kernel
theorem dX7_joinAll_171 : decode cX7_joinAll 171 = .ok (.aload_n 0, 1) := by decide +kernel
theorem dX7_joinAll_172 : decode cX7_joinAll 172 = .ok (.iload 6, 2) := by decide +kernel
theorem dX7_joinAll_174 : decode cX7_joinAll 174 = .ok (.ifCond .eq 11, 3) := by decide +kernel
theorem dX7_joinAll_177 : decode cX7_joinAll 177 = .ok (.bipush 97, 2) := by decide +kernel
theorem dX7_joinAll_179 : decode cX7_joinAll 179 = .ok (.iload 5, 2) := by decide +kernel
theorem dX7_joinAll_181 : decode cX7_joinAll 181 = .ok (.imul, 1) := by decide +kernel
theorem dX7_joinAll_182 : decode cX7_joinAll 182 = .ok (.goto 6, 3) := by decide +kernel
theorem dX7_joinAll_185 : decode cX7_joinAll 185 = .ok (.sipush 5460, 3) := by decide +kernel
theorem dX7_joinAll_188 : decode cX7_joinAll 188 = .ok (.sipush 5557, 3) := by decide +kernel
theorem dX7_joinAll_191 : decode cX7_joinAll 191 = .ok (.invokevirtual 178, 3) := by decide +kernel
theorem dX7_joinAll_194 : decode cX7_joinAll 194 = .ok (.iinc 5 1, 3) := by decide +kernel
theorem dX7_joinAll_197 : decode cX7_joinAll 197 = .ok (.goto (-92), 3) := by decide +kernel
theorem dX7_joinAll_200 : decode cX7_joinAll 200 = .ok (.aload_n 0, 1) := by decide +kernel
theorem dX7_joinAll_201 : decode cX7_joinAll 201 = .ok (.invokevirtual 198, 3) := by decide +kernel
theorem dX7_joinAll_204 : decode cX7_joinAll 204 = .ok (.aload_n 0, 1) := by decide +kernel
theorem dX7_joinAll_205 : decode cX7_joinAll 205 = .ok (.sipush 5557, 3) := by decide +kernel
theorem dX7_joinAll_208 : decode cX7_joinAll 208 = .ok (.iload_n 2, 1) := by decide +kernel
theorem dX7_joinAll_209 : decode cX7_joinAll 209 = .ok (.invokevirtual 201, 3) := by decide +kernel
theorem dX7_joinAll_212 : decode cX7_joinAll 212 = .ok (.ireturn, 1) := by decide +kernel
theorem dX7_originOf_0 : decode cX7_originOf 0 = .ok (.iload_n 2, 1) := by decide +kernel
theorem dX7_originOf_1 : decode cX7_originOf 1 = .ok (.iconst 2, 1) := by decide +kernel
theorem dX7_originOf_2 : decode cX7_originOf 2 = .ok (.if_icmp .ge 12, 3) := by decide +kernel
theorem dX7_originOf_5 : decode cX7_originOf 5 = .ok (.aload_n 0, 1) := by decide +kernel
theorem dX7_originOf_6 : decode cX7_originOf 6 = .ok (.getfield 54, 3) := by decide +kernel
theorem dX7_originOf_9 : decode cX7_originOf 9 = .ok (.iload_n 1, 1) := by decide +kernel
theorem dX7_originOf_10 : decode cX7_originOf 10 = .ok (.iaload, 1) := by decide +kernel
theorem dX7_originOf_11 : decode cX7_originOf 11 = .ok (.goto 9, 3) := by decide +kernel
theorem dX7_originOf_14 : decode cX7_originOf 14 = .ok (.aload_n 0, 1) := by decide +kernel
theorem dX7_originOf_15 : decode cX7_originOf 15 = .ok (.getfield 63, 3) := by decide +kernel
theorem dX7_originOf_18 : decode cX7_originOf 18 = .ok (.iload_n 1, 1) := by decide +kernel
theorem dX7_originOf_19 : decode cX7_originOf 19 = .ok (.iaload, 1) := by decide +kernel
theorem dX7_originOf_20 : decode cX7_originOf 20 = .ok (.istore_n 3, 1) := by decide +kernel
theorem dX7_originOf_21 : decode cX7_originOf 21 = .ok (.iload_n 2, 1) := by decide +kernel
theorem dX7_originOf_22 : decode cX7_originOf 22 = .ok (.iconst 2, 1) := by decide +kernel
theorem dX7_originOf_23 : decode cX7_originOf 23 = .ok (.if_icmp .ge 12, 3) := by decide +kernel
theorem dX7_originOf_26 : decode cX7_originOf 26 = .ok (.aload_n 0, 1) := by decide +kernel
theorem dX7_originOf_27 : decode cX7_originOf 27 = .ok (.getfield 51, 3) := by decide +kernel
theorem dX7_originOf_30 : decode cX7_originOf 30 = .ok (.iload_n 1, 1) := by decide +kernel
theorem dX7_originOf_31 : decode cX7_originOf 31 = .ok (.iaload, 1) := by decide +kernel
theorem dX7_originOf_32 : decode cX7_originOf 32 = .ok (.goto 9, 3) := by decide +kernel
theorem dX7_originOf_35 : decode cX7_originOf 35 = .ok (.aload_n 0, 1) := by decide +kernel
theorem dX7_originOf_36 : decode cX7_originOf 36 = .ok (.getfield 60, 3) := by decide +kernel
theorem dX7_originOf_39 : decode cX7_originOf 39 = .ok (.iload_n 1, 1) := by decide +kernel
theorem dX7_originOf_40 : decode cX7_originOf 40 = .ok (.iaload, 1) := by decide +kernel
theorem dX7_originOf_41 : decode cX7_originOf 41 = .ok (.istore 4, 2) := by decide +kernel
theorem dX7_originOf_43 : decode cX7_originOf 43 = .ok (.iload_n 2, 1) := by decide +kernel
theorem dX7_originOf_44 : decode cX7_originOf 44 = .ok (.iconst 2, 1) := by decide +kernel
theorem dX7_originOf_45 : decode cX7_originOf 45 = .ok (.irem, 1) := by decide +kernel
theorem dX7_originOf_46 : decode cX7_originOf 46 = .ok (.iconst 1, 1) := by decide +kernel
theorem dX7_originOf_47 : decode cX7_originOf 47 = .ok (.if_icmp .ne 7, 3) := by decide +kernel
theorem dX7_originOf_50 : decode cX7_originOf 50 = .ok (.iload_n 3, 1) := by decide +kernel
theorem dX7_originOf_51 : decode cX7_originOf 51 = .ok (.goto 14, 3) := by decide +kernel
theorem dX7_originOf_54 : decode cX7_originOf 54 = .ok (.iload_n 3, 1) := by decide +kernel
theorem dX7_originOf_55 : decode cX7_originOf 55 = .ok (.ifCond .ne 8, 3) := by decide +kernel
theorem dX7_originOf_58 : decode cX7_originOf 58 = .ok (.bipush (-9), 2) := by decide +kernel
theorem dX7_originOf_60 : decode cX7_originOf 60 = .ok (.goto 5, 3) := by decide +kernel
theorem dX7_originOf_63 : decode cX7_originOf 63 = .ok (.iload 4, 2) := by decide +kernel
theorem dX7_originOf_65 : decode cX7_originOf 65 = .ok (.ireturn, 1) := by decide +kernel
theorem dX7_origin_0 : decode cX7_origin 0 = .ok (.aload_n 0, 1) := by decide +kernel
theorem dX7_origin_1 : decode cX7_origin 1 = .ok (.iload_n 1, 1) := by decide +kernel
theorem dX7_origin_2 : decode cX7_origin 2 = .ok (.iload_n 2, 1) := by decide +kernel
theorem dX7_origin_3 : decode cX7_origin 3 = .ok (.iload_n 3, 1) := by decide +kernel
theorem dX7_origin_4 : decode cX7_origin 4 = .ok (.iconst 0, 1) := by decide +kernel
theorem dX7_origin_5 : decode cX7_origin 5 = .ok (.bipush 9, 2) := by decide +kernel
theorem dX7_origin_7 : decode cX7_origin 7 = .ok (.invokestatic 122, 3) := by decide +kernel
theorem dX7_origin_10 : decode cX7_origin 10 = .ok (.ifCond .eq 17, 3) := by decide +kernel
theorem dX7_origin_13 : decode cX7_origin 13 = .ok (.iload 4, 2) := by decide +kernel
theorem dX7_origin_15 : decode cX7_origin 15 = .ok (.iconst 0, 1) := by decide +kernel
theorem dX7_origin_16 : decode cX7_origin 16 = .ok (.iconst 3, 1) := by decide +kernel
theorem dX7_origin_17 : decode cX7_origin 17 = .ok (.invokestatic 122, 3) := by decide +kernel
theorem dX7_origin_20 : decode cX7_origin 20 = .ok (.ifCond .eq 7, 3) := by decide +kernel
theorem dX7_origin_23 : decode cX7_origin 23 = .ok (.iconst 1, 1) := by decide +kernel
theorem dX7_origin_24 : decode cX7_origin 24 = .ok (.goto 4, 3) := by decide +kernel
theorem dX7_origin_27 : decode cX7_origin 27 = .ok (.iconst 0, 1) := by decide +kernel
theorem dX7_origin_28 : decode cX7_origin 28 = .ok (.invokevirtual 254, 3) := by decide +kernel
theorem dX7_origin_31 : decode cX7_origin 31 = .ok (.istore 5, 2) := by decide +kernel
theorem dX7_origin_33 : decode cX7_origin 33 = .ok (.iload 5, 2) := by decide +kernel
theorem dX7_origin_35 : decode cX7_origin 35 = .ok (.ifCond .eq 6, 3) := by decide +kernel
theorem dX7_origin_38 : decode cX7_origin 38 = .ok (.iload 5, 2) := by decide +kernel
theorem dX7_origin_40 : decode cX7_origin 40 = .ok (.ireturn, 1) := by decide +kernel
theorem dX7_origin_41 : decode cX7_origin 41 = .ok (.aload_n 0, 1) := by decide +kernel
theorem dX7_origin_42 : decode cX7_origin 42 = .ok (.iconst 0, 1) := by decide +kernel
theorem dX7_origin_43 : decode cX7_origin 43 = .ok (.putfield 221, 3) := by decide +kernel
theorem dX7_origin_46 : decode cX7_origin 46 = .ok (.aload_n 0, 1) := by decide +kernel
theorem dX7_origin_47 : decode cX7_origin 47 = .ok (.bipush 97, 2) := by decide +kernel
theorem dX7_origin_49 : decode cX7_origin 49 = .ok (.iload_n 1, 1) := by decide +kernel
theorem dX7_origin_50 : decode cX7_origin 50 = .ok (.imul, 1) := by decide +kernel
theorem dX7_origin_51 : decode cX7_origin 51 = .ok (.bipush 97, 2) := by decide +kernel
theorem dX7_origin_53 : decode cX7_origin 53 = .ok (.iload_n 2, 1) := by decide +kernel
theorem dX7_origin_54 : decode cX7_origin 54 = .ok (.imul, 1) := by decide +kernel
theorem dX7_origin_55 : decode cX7_origin 55 = .ok (.sipush 5460, 3) := by decide +kernel
theorem dX7_origin_58 : decode cX7_origin 58 = .ok (.invokevirtual 258, 3) := by decide +kernel
theorem dX7_origin_61 : decode cX7_origin 61 = .ok (.ifCond .ne 6, 3) := by decide +kernel
theorem dX7_origin_64 : decode cX7_origin 64 = .ok (.bipush (-3), 2) := by decide +kernel
theorem dX7_origin_66 : decode cX7_origin 66 = .ok (.ireturn, 1) := by decide +kernel
theorem dX7_origin_67 : decode cX7_origin 67 = .ok (.iload_n 3, 1) := by decide +kernel
theorem dX7_origin_68 : decode cX7_origin 68 = .ok (.aload_n 0, 1) := by decide +kernel
theorem dX7_origin_69 : decode cX7_origin 69 = .ok (.getfield 221, 3) := by decide +kernel
theorem dX7_origin_72 : decode cX7_origin 72 = .ok (.if_icmp .ge 13, 3) := by decide +kernel
theorem dX7_origin_75 : decode cX7_origin 75 = .ok (.aload_n 0, 1) := by decide +kernel
theorem dX7_origin_76 : decode cX7_origin 76 = .ok (.iload_n 3, 1) := by decide +kernel
theorem dX7_origin_77 : decode cX7_origin 77 = .ok (.iload 4, 2) := by decide +kernel
theorem dX7_origin_79 : decode cX7_origin 79 = .ok (.invokevirtual 261, 3) := by decide +kernel
theorem dX7_origin_82 : decode cX7_origin 82 = .ok (.goto 5, 3) := by decide +kernel
theorem dX7_origin_85 : decode cX7_origin 85 = .ok (.bipush (-9), 2) := by decide +kernel
theorem dX7_origin_87 : decode cX7_origin 87 = .ok (.ireturn, 1) := by decide +kernel
theorem dX7_fills_0 : decode cX7_fills 0 = .ok (.aload_n 0, 1) := by decide +kernel
theorem dX7_fills_1 : decode cX7_fills 1 = .ok (.getfield 84, 3) := by decide +kernel
theorem dX7_fills_4 : decode cX7_fills 4 = .ok (.iload_n 2, 1) := by decide +kernel
theorem dX7_fills_5 : decode cX7_fills 5 = .ok (.iaload, 1) := by decide +kernel
theorem dX7_fills_6 : decode cX7_fills 6 = .ok (.ifCond .ge 29, 3) := by decide +kernel
theorem dX7_fills_9 : decode cX7_fills 9 = .ok (.aload_n 0, 1) := by decide +kernel
theorem dX7_fills_10 : decode cX7_fills 10 = .ok (.getfield 81, 3) := by decide +kernel
theorem dX7_fills_13 : decode cX7_fills 13 = .ok (.iload_n 2, 1) := by decide +kernel
theorem dX7_fills_14 : decode cX7_fills 14 = .ok (.iload 4, 2) := by decide +kernel
theorem dX7_fills_16 : decode cX7_fills 16 = .ok (.iastore, 1) := by decide +kernel
theorem dX7_fills_17 : decode cX7_fills 17 = .ok (.aload_n 0, 1) := by decide +kernel
theorem dX7_fills_18 : decode cX7_fills 18 = .ok (.getfield 84, 3) := by decide +kernel
theorem dX7_fills_21 : decode cX7_fills 21 = .ok (.iload_n 2, 1) := by decide +kernel
theorem dX7_fills_22 : decode cX7_fills 22 = .ok (.iload 5, 2) := by decide +kernel
theorem dX7_fills_24 : decode cX7_fills 24 = .ok (.iastore, 1) := by decide +kernel
theorem dX7_fills_25 : decode cX7_fills 25 = .ok (.aload_n 0, 1) := by decide +kernel
theorem dX7_fills_26 : decode cX7_fills 26 = .ok (.getfield 87, 3) := by decide +kernel
theorem dX7_fills_29 : decode cX7_fills 29 = .ok (.iload_n 2, 1) := by decide +kernel
theorem dX7_fills_30 : decode cX7_fills 30 = .ok (.iload 6, 2) := by decide +kernel
theorem dX7_fills_32 : decode cX7_fills 32 = .ok (.iastore, 1) := by decide +kernel
theorem dX7_fills_33 : decode cX7_fills 33 = .ok (.iconst 1, 1) := by decide +kernel
theorem dX7_fills_34 : decode cX7_fills 34 = .ok (.ireturn, 1) := by decide +kernel
theorem dX7_fills_35 : decode cX7_fills 35 = .ok (.iload_n 3, 1) := by decide +kernel
theorem dX7_fills_36 : decode cX7_fills 36 = .ok (.ifCond .eq 51, 3) := by decide +kernel
theorem dX7_fills_39 : decode cX7_fills 39 = .ok (.aload_n 0, 1) := by decide +kernel
theorem dX7_fills_40 : decode cX7_fills 40 = .ok (.iload_n 1, 1) := by decide +kernel
theorem dX7_fills_41 : decode cX7_fills 41 = .ok (.iload 4, 2) := by decide +kernel
theorem dX7_fills_43 : decode cX7_fills 43 = .ok (.invokevirtual 119, 3) := by decide +kernel
theorem dX7_fills_46 : decode cX7_fills 46 = .ok (.aload_n 0, 1) := by decide +kernel
theorem dX7_fills_47 : decode cX7_fills 47 = .ok (.iload_n 1, 1) := by decide +kernel
theorem dX7_fills_48 : decode cX7_fills 48 = .ok (.aload_n 0, 1) := by decide +kernel
theorem dX7_fills_49 : decode cX7_fills 49 = .ok (.getfield 81, 3) := by decide +kernel
theorem dX7_fills_52 : decode cX7_fills 52 = .ok (.iload_n 2, 1) := by decide +kernel
theorem dX7_fills_53 : decode cX7_fills 53 = .ok (.iaload, 1) := by decide +kernel
theorem dX7_fills_54 : decode cX7_fills 54 = .ok (.invokevirtual 119, 3) := by decide +kernel
theorem dX7_fills_57 : decode cX7_fills 57 = .ok (.if_icmp .ne 28, 3) := by decide +kernel
theorem dX7_fills_60 : decode cX7_fills 60 = .ok (.aload_n 0, 1) := by decide +kernel
theorem dX7_fills_61 : decode cX7_fills 61 = .ok (.iload_n 1, 1) := by decide +kernel
theorem dX7_fills_62 : decode cX7_fills 62 = .ok (.iload 4, 2) := by decide +kernel
theorem dX7_fills_64 : decode cX7_fills 64 = .ok (.invokevirtual 159, 3) := by decide +kernel
theorem dX7_fills_67 : decode cX7_fills 67 = .ok (.aload_n 0, 1) := by decide +kernel
theorem dX7_fills_68 : decode cX7_fills 68 = .ok (.iload_n 1, 1) := by decide +kernel
theorem dX7_fills_69 : decode cX7_fills 69 = .ok (.aload_n 0, 1) := by decide +kernel
theorem dX7_fills_70 : decode cX7_fills 70 = .ok (.getfield 81, 3) := by decide +kernel
theorem dX7_fills_73 : decode cX7_fills 73 = .ok (.iload_n 2, 1) := by decide +kernel
theorem dX7_fills_74 : decode cX7_fills 74 = .ok (.iaload, 1) := by decide +kernel
theorem dX7_fills_75 : decode cX7_fills 75 = .ok (.invokevirtual 159, 3) := by decide +kernel
theorem dX7_fills_78 : decode cX7_fills 78 = .ok (.if_icmp .ne 7, 3) := by decide +kernel
theorem dX7_fills_81 : decode cX7_fills 81 = .ok (.iconst 1, 1) := by decide +kernel
theorem dX7_fills_82 : decode cX7_fills 82 = .ok (.goto 4, 3) := by decide +kernel
theorem dX7_fills_85 : decode cX7_fills 85 = .ok (.iconst 0, 1) := by decide +kernel
theorem dX7_fills_86 : decode cX7_fills 86 = .ok (.ireturn, 1) := by decide +kernel
theorem dX7_fills_87 : decode cX7_fills 87 = .ok (.aload_n 0, 1) := by decide +kernel
theorem dX7_fills_88 : decode cX7_fills 88 = .ok (.getfield 84, 3) := by decide +kernel
theorem dX7_fills_91 : decode cX7_fills 91 = .ok (.iload_n 2, 1) := by decide +kernel
theorem dX7_fills_92 : decode cX7_fills 92 = .ok (.iaload, 1) := by decide +kernel
theorem dX7_fills_93 : decode cX7_fills 93 = .ok (.iload 5, 2) := by decide +kernel
theorem dX7_fills_95 : decode cX7_fills 95 = .ok (.if_icmp .ne 26, 3) := by decide +kernel
theorem dX7_fills_98 : decode cX7_fills 98 = .ok (.aload_n 0, 1) := by decide +kernel
theorem dX7_fills_99 : decode cX7_fills 99 = .ok (.iload_n 1, 1) := by decide +kernel
theorem dX7_fills_100 : decode cX7_fills 100 = .ok (.aload_n 0, 1) := by decide +kernel
theorem dX7_fills_101 : decode cX7_fills 101 = .ok (.getfield 81, 3) := by decide +kernel
theorem dX7_fills_104 : decode cX7_fills 104 = .ok (.iload_n 2, 1) := by decide +kernel
theorem dX7_fills_105 : decode cX7_fills 105 = .ok (.iaload, 1) := by decide +kernel
theorem dX7_fills_106 : decode cX7_fills 106 = .ok (.iload_n 1, 1) := by decide +kernel
theorem dX7_fills_107 : decode cX7_fills 107 = .ok (.iload 4, 2) := by decide +kernel
theorem dX7_fills_109 : decode cX7_fills 109 = .ok (.iload 5, 2) := by decide +kernel
theorem dX7_fills_111 : decode cX7_fills 111 = .ok (.invokevirtual 217, 3) := by decide +kernel
theorem dX7_fills_114 : decode cX7_fills 114 = .ok (.ifCond .eq 7, 3) := by decide +kernel
theorem dX7_fills_117 : decode cX7_fills 117 = .ok (.iconst 1, 1) := by decide +kernel
theorem dX7_fills_118 : decode cX7_fills 118 = .ok (.goto 4, 3) := by decide +kernel
theorem dX7_fills_121 : decode cX7_fills 121 = .ok (.iconst 0, 1) := by decide +kernel
theorem dX7_fills_122 : decode cX7_fills 122 = .ok (.ireturn, 1) := by decide +kernel
theorem dX7_matchesArguments_0 : decode cX7_matchesArguments 0 = .ok (.aload_n 0, 1) := by decide +kernel
theorem dX7_matchesArguments_1 : decode cX7_matchesArguments 1 = .ok (.iload_n 1, 1) := by decide +kernel
theorem dX7_matchesArguments_2 : decode cX7_matchesArguments 2 = .ok (.iload_n 2, 1) := by decide +kernel
theorem dX7_matchesArguments_3 : decode cX7_matchesArguments 3 = .ok (.invokevirtual 111, 3) := by decide +kernel
theorem dX7_matchesArguments_6 : decode cX7_matchesArguments 6 = .ok (.istore 5, 2) := by decide +kernel
theorem dX7_matchesArguments_8 : decode cX7_matchesArguments 8 = .ok (.aload_n 0, 1) := by decide +kernel
theorem dX7_matchesArguments_9 : decode cX7_matchesArguments 9 = .ok (.iload_n 3, 1) := by decide +kernel
theorem dX7_matchesArguments_10 : decode cX7_matchesArguments 10 = .ok (.iload 4, 2) := by decide +kernel
theorem dX7_matchesArguments_12 : decode cX7_matchesArguments 12 = .ok (.invokevirtual 111, 3) := by decide +kernel
theorem dX7_matchesArguments_15 : decode cX7_matchesArguments 15 = .ok (.istore 6, 2) := by decide +kernel
theorem dX7_matchesArguments_17 : decode cX7_matchesArguments 17 = .ok (.aload_n 0, 1) := by decide +kernel
theorem dX7_matchesArguments_18 : decode cX7_matchesArguments 18 = .ok (.iload_n 1, 1) := by decide +kernel
theorem dX7_matchesArguments_19 : decode cX7_matchesArguments 19 = .ok (.iload_n 2, 1) := by decide +kernel
theorem dX7_matchesArguments_20 : decode cX7_matchesArguments 20 = .ok (.aload_n 0, 1) := by decide +kernel
theorem dX7_matchesArguments_21 : decode cX7_matchesArguments 21 = .ok (.getfield 20, 3) := by decide +kernel
theorem dX7_matchesArguments_24 : decode cX7_matchesArguments 24 = .ok (.invokevirtual 172, 3) := by decide +kernel
theorem dX7_matchesArguments_27 : decode cX7_matchesArguments 27 = .ok (.istore 7, 2) := by decide +kernel
theorem dX7_matchesArguments_29 : decode cX7_matchesArguments 29 = .ok (.iload 7, 2) := by decide +kernel
theorem dX7_matchesArguments_31 : decode cX7_matchesArguments 31 = .ok (.bipush (-9), 2) := by decide +kernel
theorem dX7_matchesArguments_33 : decode cX7_matchesArguments 33 = .ok (.if_icmp .ne 32, 3) := by decide +kernel
theorem dX7_matchesArguments_36 : decode cX7_matchesArguments 36 = .ok (.iload 5, 2) := by decide +kernel
theorem dX7_matchesArguments_38 : decode cX7_matchesArguments 38 = .ok (.iload 6, 2) := by decide +kernel
theorem dX7_matchesArguments_40 : decode cX7_matchesArguments 40 = .ok (.if_icmp .ne 12, 3) := by decide +kernel
theorem dX7_matchesArguments_43 : decode cX7_matchesArguments 43 = .ok (.aload_n 0, 1) := by decide +kernel
theorem dX7_matchesArguments_44 : decode cX7_matchesArguments 44 = .ok (.iload_n 2, 1) := by decide +kernel
theorem dX7_matchesArguments_45 : decode cX7_matchesArguments 45 = .ok (.iload 4, 2) := by decide +kernel
theorem dX7_matchesArguments_47 : decode cX7_matchesArguments 47 = .ok (.iload 6, 2) := by decide +kernel
theorem dX7_matchesArguments_49 : decode cX7_matchesArguments 49 = .ok (.invokevirtual 246, 3) := by decide +kernel
theorem dX7_matchesArguments_52 : decode cX7_matchesArguments 52 = .ok (.iload 5, 2) := by decide +kernel
theorem dX7_matchesArguments_54 : decode cX7_matchesArguments 54 = .ok (.iload 6, 2) := by decide +kernel
theorem dX7_matchesArguments_56 : decode cX7_matchesArguments 56 = .ok (.if_icmp .ne 7, 3) := by decide +kernel
theorem dX7_matchesArguments_59 : decode cX7_matchesArguments 59 = .ok (.iconst 1, 1) := by decide +kernel
theorem dX7_matchesArguments_60 : decode cX7_matchesArguments 60 = .ok (.goto 4, 3) := by decide +kernel
theorem dX7_matchesArguments_63 : decode cX7_matchesArguments 63 = .ok (.iconst 0, 1) := by decide +kernel
theorem dX7_matchesArguments_64 : decode cX7_matchesArguments 64 = .ok (.ireturn, 1) := by decide +kernel
theorem dX7_matchesArguments_65 : decode cX7_matchesArguments 65 = .ok (.iload 5, 2) := by decide +kernel
theorem dX7_matchesArguments_67 : decode cX7_matchesArguments 67 = .ok (.iconst 1, 1) := by decide +kernel
theorem dX7_matchesArguments_68 : decode cX7_matchesArguments 68 = .ok (.isub, 1) := by decide +kernel
theorem dX7_matchesArguments_69 : decode cX7_matchesArguments 69 = .ok (.iload 7, 2) := by decide +kernel
theorem dX7_matchesArguments_71 : decode cX7_matchesArguments 71 = .ok (.isub, 1) := by decide +kernel
theorem dX7_matchesArguments_72 : decode cX7_matchesArguments 72 = .ok (.istore 8, 2) := by decide +kernel
theorem dX7_matchesArguments_74 : decode cX7_matchesArguments 74 = .ok (.iload 6, 2) := by decide +kernel
theorem dX7_matchesArguments_76 : decode cX7_matchesArguments 76 = .ok (.iload 5, 2) := by decide +kernel
theorem dX7_matchesArguments_78 : decode cX7_matchesArguments 78 = .ok (.iconst 1, 1) := by decide +kernel
theorem dX7_matchesArguments_79 : decode cX7_matchesArguments 79 = .ok (.isub, 1) := by decide +kernel
theorem dX7_matchesArguments_80 : decode cX7_matchesArguments 80 = .ok (.if_icmp .ge 5, 3) := by decide +kernel
theorem dX7_matchesArguments_83 : decode cX7_matchesArguments 83 = .ok (.iconst 0, 1) := by decide +kernel
theorem dX7_matchesArguments_84 : decode cX7_matchesArguments 84 = .ok (.ireturn, 1) := by decide +kernel
theorem dX7_matchesArguments_85 : decode cX7_matchesArguments 85 = .ok (.iconst 0, 1) := by decide +kernel
theorem dX7_matchesArguments_86 : decode cX7_matchesArguments 86 = .ok (.istore 9, 2) := by decide +kernel
theorem dX7_matchesArguments_88 : decode cX7_matchesArguments 88 = .ok (.iload 9, 2) := by decide +kernel
theorem dX7_matchesArguments_90 : decode cX7_matchesArguments 90 = .ok (.iload 8, 2) := by decide +kernel
theorem dX7_matchesArguments_92 : decode cX7_matchesArguments 92 = .ok (.if_icmp .ge 49, 3) := by decide +kernel
theorem dX7_matchesArguments_95 : decode cX7_matchesArguments 95 = .ok (.aload_n 0, 1) := by decide +kernel
theorem dX7_matchesArguments_96 : decode cX7_matchesArguments 96 = .ok (.iconst 0, 1) := by decide +kernel
theorem dX7_matchesArguments_97 : decode cX7_matchesArguments 97 = .ok (.aload_n 0, 1) := by decide +kernel
theorem dX7_matchesArguments_98 : decode cX7_matchesArguments 98 = .ok (.iload_n 2, 1) := by decide +kernel
theorem dX7_matchesArguments_99 : decode cX7_matchesArguments 99 = .ok (.iload 5, 2) := by decide +kernel
theorem dX7_matchesArguments_101 : decode cX7_matchesArguments 101 = .ok (.iconst 1, 1) := by decide +kernel
theorem dX7_matchesArguments_102 : decode cX7_matchesArguments 102 = .ok (.isub, 1) := by decide +kernel
theorem dX7_matchesArguments_103 : decode cX7_matchesArguments 103 = .ok (.iload 9, 2) := by decide +kernel
theorem dX7_matchesArguments_105 : decode cX7_matchesArguments 105 = .ok (.isub, 1) := by decide +kernel
theorem dX7_matchesArguments_106 : decode cX7_matchesArguments 106 = .ok (.aload_n 0, 1) := by decide +kernel
theorem dX7_matchesArguments_107 : decode cX7_matchesArguments 107 = .ok (.getfield 20, 3) := by decide +kernel
theorem dX7_matchesArguments_110 : decode cX7_matchesArguments 110 = .ok (.invokevirtual 165, 3) := by decide +kernel
theorem dX7_matchesArguments_113 : decode cX7_matchesArguments 113 = .ok (.iconst 0, 1) := by decide +kernel
theorem dX7_matchesArguments_114 : decode cX7_matchesArguments 114 = .ok (.aload_n 0, 1) := by decide +kernel
theorem dX7_matchesArguments_115 : decode cX7_matchesArguments 115 = .ok (.iload 4, 2) := by decide +kernel
theorem dX7_matchesArguments_117 : decode cX7_matchesArguments 117 = .ok (.iload 6, 2) := by decide +kernel
theorem dX7_matchesArguments_119 : decode cX7_matchesArguments 119 = .ok (.iconst 1, 1) := by decide +kernel
theorem dX7_matchesArguments_120 : decode cX7_matchesArguments 120 = .ok (.isub, 1) := by decide +kernel
theorem dX7_matchesArguments_121 : decode cX7_matchesArguments 121 = .ok (.iload 9, 2) := by decide +kernel
theorem dX7_matchesArguments_123 : decode cX7_matchesArguments 123 = .ok (.isub, 1) := by decide +kernel
theorem dX7_matchesArguments_124 : decode cX7_matchesArguments 124 = .ok (.aload_n 0, 1) := by decide +kernel
theorem dX7_matchesArguments_125 : decode cX7_matchesArguments 125 = .ok (.getfield 23, 3) := by decide +kernel
theorem dX7_matchesArguments_128 : decode cX7_matchesArguments 128 = .ok (.invokevirtual 165, 3) := by decide +kernel
theorem dX7_matchesArguments_131 : decode cX7_matchesArguments 131 = .ok (.iconst 0, 1) := by decide +kernel
theorem dX7_matchesArguments_132 : decode cX7_matchesArguments 132 = .ok (.invokevirtual 231, 3) := by decide +kernel
theorem dX7_matchesArguments_135 : decode cX7_matchesArguments 135 = .ok (.iinc 9 1, 3) := by decide +kernel
theorem dX7_matchesArguments_138 : decode cX7_matchesArguments 138 = .ok (.goto (-50), 3) := by decide +kernel
theorem dX7_matchesArguments_141 : decode cX7_matchesArguments 141 = .ok (.aload_n 0, 1) := by decide +kernel
theorem dX7_matchesArguments_142 : decode cX7_matchesArguments 142 = .ok (.iload 4, 2) := by decide +kernel
theorem dX7_matchesArguments_144 : decode cX7_matchesArguments 144 = .ok (.iload 7, 2) := by decide +kernel
theorem dX7_matchesArguments_146 : decode cX7_matchesArguments 146 = .ok (.aload_n 0, 1) := by decide +kernel
theorem dX7_matchesArguments_147 : decode cX7_matchesArguments 147 = .ok (.getfield 23, 3) := by decide +kernel
theorem dX7_matchesArguments_150 : decode cX7_matchesArguments 150 = .ok (.invokevirtual 165, 3) := by decide +kernel
theorem dX7_matchesArguments_153 : decode cX7_matchesArguments 153 = .ok (.istore 9, 2) := by decide +kernel
theorem dX7_matchesArguments_155 : decode cX7_matchesArguments 155 = .ok (.aload_n 0, 1) := by decide +kernel
theorem dX7_matchesArguments_156 : decode cX7_matchesArguments 156 = .ok (.iconst 1, 1) := by decide +kernel
theorem dX7_matchesArguments_157 : decode cX7_matchesArguments 157 = .ok (.aload_n 0, 1) := by decide +kernel
theorem dX7_matchesArguments_158 : decode cX7_matchesArguments 158 = .ok (.iload_n 2, 1) := by decide +kernel
theorem dX7_matchesArguments_159 : decode cX7_matchesArguments 159 = .ok (.iload 7, 2) := by decide +kernel
theorem dX7_matchesArguments_161 : decode cX7_matchesArguments 161 = .ok (.aload_n 0, 1) := by decide +kernel
theorem dX7_matchesArguments_162 : decode cX7_matchesArguments 162 = .ok (.getfield 20, 3) := by decide +kernel
theorem dX7_matchesArguments_165 : decode cX7_matchesArguments 165 = .ok (.invokevirtual 165, 3) := by decide +kernel
theorem dX7_matchesArguments_168 : decode cX7_matchesArguments 168 = .ok (.iload 6, 2) := by decide +kernel
theorem dX7_matchesArguments_170 : decode cX7_matchesArguments 170 = .ok (.iload 5, 2) := by decide +kernel
theorem dX7_matchesArguments_172 : decode cX7_matchesArguments 172 = .ok (.isub, 1) := by decide +kernel
theorem dX7_matchesArguments_173 : decode cX7_matchesArguments 173 = .ok (.iconst 1, 1) := by decide +kernel
theorem dX7_matchesArguments_174 : decode cX7_matchesArguments 174 = .ok (.iadd, 1) := by decide +kernel
theorem dX7_matchesArguments_175 : decode cX7_matchesArguments 175 = .ok (.iload 9, 2) := by decide +kernel
theorem dX7_matchesArguments_177 : decode cX7_matchesArguments 177 = .ok (.aload_n 0, 1) := by decide +kernel
theorem dX7_matchesArguments_178 : decode cX7_matchesArguments 178 = .ok (.iload 4, 2) := by decide +kernel
theorem dX7_matchesArguments_180 : decode cX7_matchesArguments 180 = .ok (.iload 6, 2) := by decide +kernel
theorem dX7_matchesArguments_182 : decode cX7_matchesArguments 182 = .ok (.iload 8, 2) := by decide +kernel
theorem dX7_matchesArguments_184 : decode cX7_matchesArguments 184 = .ok (.isub, 1) := by decide +kernel
theorem dX7_matchesArguments_185 : decode cX7_matchesArguments 185 = .ok (.aload_n 0, 1) := by decide +kernel
theorem dX7_matchesArguments_186 : decode cX7_matchesArguments 186 = .ok (.getfield 23, 3) := by decide +kernel
theorem dX7_matchesArguments_189 : decode cX7_matchesArguments 189 = .ok (.invokevirtual 165, 3) := by decide +kernel
theorem dX7_matchesArguments_192 : decode cX7_matchesArguments 192 = .ok (.iload 9, 2) := by decide +kernel
theorem dX7_matchesArguments_194 : decode cX7_matchesArguments 194 = .ok (.isub, 1) := by decide +kernel
theorem dX7_matchesArguments_195 : decode cX7_matchesArguments 195 = .ok (.invokevirtual 231, 3) := by decide +kernel
theorem dX7_matchesArguments_198 : decode cX7_matchesArguments 198 = .ok (.iload 7, 2) := by decide +kernel
theorem dX7_matchesArguments_200 : decode cX7_matchesArguments 200 = .ok (.iconst 1, 1) := by decide +kernel
theorem dX7_matchesArguments_201 : decode cX7_matchesArguments 201 = .ok (.isub, 1) := by decide +kernel
theorem dX7_matchesArguments_202 : decode cX7_matchesArguments 202 = .ok (.istore 10, 2) := by decide +kernel
theorem dX7_matchesArguments_204 : decode cX7_matchesArguments 204 = .ok (.iload 10, 2) := by decide +kernel
theorem dX7_matchesArguments_206 : decode cX7_matchesArguments 206 = .ok (.ifCond .lt 39, 3) := by decide +kernel
theorem dX7_matchesArguments_209 : decode cX7_matchesArguments 209 = .ok (.aload_n 0, 1) := by decide +kernel
theorem dX7_matchesArguments_210 : decode cX7_matchesArguments 210 = .ok (.iconst 0, 1) := by decide +kernel
theorem dX7_matchesArguments_211 : decode cX7_matchesArguments 211 = .ok (.aload_n 0, 1) := by decide +kernel
theorem dX7_matchesArguments_212 : decode cX7_matchesArguments 212 = .ok (.iload_n 2, 1) := by decide +kernel
theorem dX7_matchesArguments_213 : decode cX7_matchesArguments 213 = .ok (.iload 10, 2) := by decide +kernel
theorem dX7_matchesArguments_215 : decode cX7_matchesArguments 215 = .ok (.aload_n 0, 1) := by decide +kernel
theorem dX7_matchesArguments_216 : decode cX7_matchesArguments 216 = .ok (.getfield 20, 3) := by decide +kernel
theorem dX7_matchesArguments_219 : decode cX7_matchesArguments 219 = .ok (.invokevirtual 165, 3) := by decide +kernel
theorem dX7_matchesArguments_222 : decode cX7_matchesArguments 222 = .ok (.iconst 0, 1) := by decide +kernel
theorem dX7_matchesArguments_223 : decode cX7_matchesArguments 223 = .ok (.aload_n 0, 1) := by decide +kernel
theorem dX7_matchesArguments_224 : decode cX7_matchesArguments 224 = .ok (.iload 4, 2) := by decide +kernel
theorem dX7_matchesArguments_226 : decode cX7_matchesArguments 226 = .ok (.iload 10, 2) := by decide +kernel
theorem dX7_matchesArguments_228 : decode cX7_matchesArguments 228 = .ok (.aload_n 0, 1) := by decide +kernel
theorem dX7_matchesArguments_229 : decode cX7_matchesArguments 229 = .ok (.getfield 23, 3) := by decide +kernel
theorem dX7_matchesArguments_232 : decode cX7_matchesArguments 232 = .ok (.invokevirtual 165, 3) := by decide +kernel
theorem dX7_matchesArguments_235 : decode cX7_matchesArguments 235 = .ok (.iconst 0, 1) := by decide +kernel
theorem dX7_matchesArguments_236 : decode cX7_matchesArguments 236 = .ok (.invokevirtual 231, 3) := by decide +kernel
theorem dX7_matchesArguments_239 : decode cX7_matchesArguments 239 = .ok (.iinc 10 (-1), 3) := by decide +kernel
theorem dX7_matchesArguments_242 : decode cX7_matchesArguments 242 = .ok (.goto (-38), 3) := by decide +kernel
theorem dX7_matchesArguments_245 : decode cX7_matchesArguments 245 = .ok (.iconst 1, 1) := by decide +kernel
theorem dX7_matchesArguments_246 : decode cX7_matchesArguments 246 = .ok (.ireturn, 1) := by decide +kernel
theorem dX7_matchesNext_0 : decode cX7_matchesNext 0 = .ok (.aload_n 0, 1) := by decide +kernel
theorem dX7_matchesNext_1 : decode cX7_matchesNext 1 = .ok (.getfield 69, 3) := by decide +kernel
theorem dX7_matchesNext_4 : decode cX7_matchesNext 4 = .ok (.aload_n 0, 1) := by decide +kernel
theorem dX7_matchesNext_5 : decode cX7_matchesNext 5 = .ok (.getfield 228, 3) := by decide +kernel
theorem dX7_matchesNext_8 : decode cX7_matchesNext 8 = .ok (.iaload, 1) := by decide +kernel
theorem dX7_matchesNext_9 : decode cX7_matchesNext 9 = .ok (.istore_n 3, 1) := by decide +kernel
theorem dX7_matchesNext_10 : decode cX7_matchesNext 10 = .ok (.aload_n 0, 1) := by decide +kernel
theorem dX7_matchesNext_11 : decode cX7_matchesNext 11 = .ok (.getfield 72, 3) := by decide +kernel
theorem dX7_matchesNext_14 : decode cX7_matchesNext 14 = .ok (.aload_n 0, 1) := by decide +kernel
theorem dX7_matchesNext_15 : decode cX7_matchesNext 15 = .ok (.getfield 228, 3) := by decide +kernel
theorem dX7_matchesNext_18 : decode cX7_matchesNext 18 = .ok (.iaload, 1) := by decide +kernel
theorem dX7_matchesNext_19 : decode cX7_matchesNext 19 = .ok (.istore 4, 2) := by decide +kernel
theorem dX7_matchesNext_21 : decode cX7_matchesNext 21 = .ok (.aload_n 0, 1) := by decide +kernel
theorem dX7_matchesNext_22 : decode cX7_matchesNext 22 = .ok (.getfield 66, 3) := by decide +kernel
theorem dX7_matchesNext_25 : decode cX7_matchesNext 25 = .ok (.aload_n 0, 1) := by decide +kernel
theorem dX7_matchesNext_26 : decode cX7_matchesNext 26 = .ok (.getfield 228, 3) := by decide +kernel
theorem dX7_matchesNext_29 : decode cX7_matchesNext 29 = .ok (.baload, 1) := by decide +kernel
theorem dX7_matchesNext_30 : decode cX7_matchesNext 30 = .ok (.ifCond .eq 36, 3) := by decide +kernel
theorem dX7_matchesNext_33 : decode cX7_matchesNext 33 = .ok (.aload_n 0, 1) := by decide +kernel
theorem dX7_matchesNext_34 : decode cX7_matchesNext 34 = .ok (.iload_n 2, 1) := by decide +kernel
theorem dX7_matchesNext_35 : decode cX7_matchesNext 35 = .ok (.aload_n 0, 1) := by decide +kernel
theorem dX7_matchesNext_36 : decode cX7_matchesNext 36 = .ok (.iload_n 1, 1) := by decide +kernel
theorem dX7_matchesNext_37 : decode cX7_matchesNext 37 = .ok (.iload_n 3, 1) := by decide +kernel
theorem dX7_matchesNext_38 : decode cX7_matchesNext 38 = .ok (.invokevirtual 159, 3) := by decide +kernel
theorem dX7_matchesNext_41 : decode cX7_matchesNext 41 = .ok (.iconst 0, 1) := by decide +kernel
theorem dX7_matchesNext_42 : decode cX7_matchesNext 42 = .ok (.iload 4, 2) := by decide +kernel
theorem dX7_matchesNext_44 : decode cX7_matchesNext 44 = .ok (.aload_n 0, 1) := by decide +kernel
theorem dX7_matchesNext_45 : decode cX7_matchesNext 45 = .ok (.getfield 78, 3) := by decide +kernel
theorem dX7_matchesNext_48 : decode cX7_matchesNext 48 = .ok (.aload_n 0, 1) := by decide +kernel
theorem dX7_matchesNext_49 : decode cX7_matchesNext 49 = .ok (.getfield 228, 3) := by decide +kernel
theorem dX7_matchesNext_52 : decode cX7_matchesNext 52 = .ok (.iaload, 1) := by decide +kernel
theorem dX7_matchesNext_53 : decode cX7_matchesNext 53 = .ok (.aload_n 0, 1) := by decide +kernel
theorem dX7_matchesNext_54 : decode cX7_matchesNext 54 = .ok (.getfield 75, 3) := by decide +kernel
theorem dX7_matchesNext_57 : decode cX7_matchesNext 57 = .ok (.aload_n 0, 1) := by decide +kernel
theorem dX7_matchesNext_58 : decode cX7_matchesNext 58 = .ok (.getfield 228, 3) := by decide +kernel
theorem dX7_matchesNext_61 : decode cX7_matchesNext 61 = .ok (.iaload, 1) := by decide +kernel
theorem dX7_matchesNext_62 : decode cX7_matchesNext 62 = .ok (.invokevirtual 264, 3) := by decide +kernel
theorem dX7_matchesNext_65 : decode cX7_matchesNext 65 = .ok (.ireturn, 1) := by decide +kernel
theorem dX7_matchesNext_66 : decode cX7_matchesNext 66 = .ok (.aload_n 0, 1) := by decide +kernel
theorem dX7_matchesNext_67 : decode cX7_matchesNext 67 = .ok (.iload_n 1, 1) := by decide +kernel
theorem dX7_matchesNext_68 : decode cX7_matchesNext 68 = .ok (.iload_n 3, 1) := by decide +kernel
theorem dX7_matchesNext_69 : decode cX7_matchesNext 69 = .ok (.invokevirtual 119, 3) := by decide +kernel
theorem dX7_matchesNext_72 : decode cX7_matchesNext 72 = .ok (.iconst 1, 1) := by decide +kernel
theorem dX7_matchesNext_73 : decode cX7_matchesNext 73 = .ok (.if_icmp .ne 45, 3) := by decide +kernel
theorem dX7_matchesNext_76 : decode cX7_matchesNext 76 = .ok (.aload_n 0, 1) := by decide +kernel
theorem dX7_matchesNext_77 : decode cX7_matchesNext 77 = .ok (.iload_n 2, 1) := by decide +kernel
theorem dX7_matchesNext_78 : decode cX7_matchesNext 78 = .ok (.iload 4, 2) := by decide +kernel
theorem dX7_matchesNext_80 : decode cX7_matchesNext 80 = .ok (.invokevirtual 119, 3) := by decide +kernel
theorem dX7_matchesNext_83 : decode cX7_matchesNext 83 = .ok (.iconst 3, 1) := by decide +kernel
theorem dX7_matchesNext_84 : decode cX7_matchesNext 84 = .ok (.if_icmp .eq 32, 3) := by decide +kernel
theorem dX7_matchesNext_87 : decode cX7_matchesNext 87 = .ok (.aload_n 0, 1) := by decide +kernel
theorem dX7_matchesNext_88 : decode cX7_matchesNext 88 = .ok (.iload_n 2, 1) := by decide +kernel
theorem dX7_matchesNext_89 : decode cX7_matchesNext 89 = .ok (.aload_n 0, 1) := by decide +kernel
theorem dX7_matchesNext_90 : decode cX7_matchesNext 90 = .ok (.iload_n 1, 1) := by decide +kernel
theorem dX7_matchesNext_91 : decode cX7_matchesNext 91 = .ok (.iload_n 3, 1) := by decide +kernel
theorem dX7_matchesNext_92 : decode cX7_matchesNext 92 = .ok (.invokevirtual 159, 3) := by decide +kernel
theorem dX7_matchesNext_95 : decode cX7_matchesNext 95 = .ok (.iconst 0, 1) := by decide +kernel
theorem dX7_matchesNext_96 : decode cX7_matchesNext 96 = .ok (.iload 4, 2) := by decide +kernel
theorem dX7_matchesNext_98 : decode cX7_matchesNext 98 = .ok (.aload_n 0, 1) := by decide +kernel
theorem dX7_matchesNext_99 : decode cX7_matchesNext 99 = .ok (.getfield 23, 3) := by decide +kernel
theorem dX7_matchesNext_102 : decode cX7_matchesNext 102 = .ok (.iload 4, 2) := by decide +kernel
theorem dX7_matchesNext_104 : decode cX7_matchesNext 104 = .ok (.iaload, 1) := by decide +kernel
theorem dX7_matchesNext_105 : decode cX7_matchesNext 105 = .ok (.iconst 1, 1) := by decide +kernel
theorem dX7_matchesNext_106 : decode cX7_matchesNext 106 = .ok (.invokevirtual 264, 3) := by decide +kernel
theorem dX7_matchesNext_109 : decode cX7_matchesNext 109 = .ok (.ifCond .eq 7, 3) := by decide +kernel
theorem dX7_matchesNext_112 : decode cX7_matchesNext 112 = .ok (.iconst 1, 1) := by decide +kernel
theorem dX7_matchesNext_113 : decode cX7_matchesNext 113 = .ok (.goto 4, 3) := by decide +kernel
theorem dX7_matchesNext_116 : decode cX7_matchesNext 116 = .ok (.iconst 0, 1) := by decide +kernel
theorem dX7_matchesNext_117 : decode cX7_matchesNext 117 = .ok (.ireturn, 1) := by decide +kernel
theorem dX7_matchesNext_118 : decode cX7_matchesNext 118 = .ok (.aload_n 0, 1) := by decide +kernel
theorem dX7_matchesNext_119 : decode cX7_matchesNext 119 = .ok (.iload_n 1, 1) := by decide +kernel
theorem dX7_matchesNext_120 : decode cX7_matchesNext 120 = .ok (.iload_n 3, 1) := by decide +kernel
theorem dX7_matchesNext_121 : decode cX7_matchesNext 121 = .ok (.invokevirtual 119, 3) := by decide +kernel
theorem dX7_matchesNext_124 : decode cX7_matchesNext 124 = .ok (.iconst 2, 1) := by decide +kernel
theorem dX7_matchesNext_125 : decode cX7_matchesNext 125 = .ok (.if_icmp .ne 73, 3) := by decide +kernel
theorem dX7_matchesNext_128 : decode cX7_matchesNext 128 = .ok (.aload_n 0, 1) := by decide +kernel
theorem dX7_matchesNext_129 : decode cX7_matchesNext 129 = .ok (.iload_n 2, 1) := by decide +kernel
theorem dX7_matchesNext_130 : decode cX7_matchesNext 130 = .ok (.iload 4, 2) := by decide +kernel
theorem dX7_matchesNext_132 : decode cX7_matchesNext 132 = .ok (.invokevirtual 119, 3) := by decide +kernel
theorem dX7_matchesNext_135 : decode cX7_matchesNext 135 = .ok (.ifCond .eq 14, 3) := by decide +kernel
theorem dX7_matchesNext_138 : decode cX7_matchesNext 138 = .ok (.aload_n 0, 1) := by decide +kernel
theorem dX7_matchesNext_139 : decode cX7_matchesNext 139 = .ok (.iload_n 2, 1) := by decide +kernel
theorem dX7_matchesNext_140 : decode cX7_matchesNext 140 = .ok (.iload 4, 2) := by decide +kernel
theorem dX7_matchesNext_142 : decode cX7_matchesNext 142 = .ok (.invokevirtual 119, 3) := by decide +kernel
theorem dX7_matchesNext_145 : decode cX7_matchesNext 145 = .ok (.iconst 2, 1) := by decide +kernel
theorem dX7_matchesNext_146 : decode cX7_matchesNext 146 = .ok (.if_icmp .ne 7, 3) := by decide +kernel
theorem dX7_matchesNext_149 : decode cX7_matchesNext 149 = .ok (.iconst 1, 1) := by decide +kernel
theorem dX7_matchesNext_150 : decode cX7_matchesNext 150 = .ok (.goto 4, 3) := by decide +kernel
theorem dX7_matchesNext_153 : decode cX7_matchesNext 153 = .ok (.iconst 0, 1) := by decide +kernel
theorem dX7_matchesNext_154 : decode cX7_matchesNext 154 = .ok (.istore 5, 2) := by decide +kernel
theorem dX7_matchesNext_156 : decode cX7_matchesNext 156 = .ok (.iload 5, 2) := by decide +kernel
theorem dX7_matchesNext_158 : decode cX7_matchesNext 158 = .ok (.ifCond .eq 38, 3) := by decide +kernel
theorem dX7_matchesNext_161 : decode cX7_matchesNext 161 = .ok (.aload_n 0, 1) := by decide +kernel
theorem dX7_matchesNext_162 : decode cX7_matchesNext 162 = .ok (.iload_n 2, 1) := by decide +kernel
theorem dX7_matchesNext_163 : decode cX7_matchesNext 163 = .ok (.aload_n 0, 1) := by decide +kernel
theorem dX7_matchesNext_164 : decode cX7_matchesNext 164 = .ok (.iload_n 1, 1) := by decide +kernel
theorem dX7_matchesNext_165 : decode cX7_matchesNext 165 = .ok (.iload_n 3, 1) := by decide +kernel
theorem dX7_matchesNext_166 : decode cX7_matchesNext 166 = .ok (.invokevirtual 159, 3) := by decide +kernel
theorem dX7_matchesNext_169 : decode cX7_matchesNext 169 = .ok (.iconst 1, 1) := by decide +kernel
theorem dX7_matchesNext_170 : decode cX7_matchesNext 170 = .ok (.iload 4, 2) := by decide +kernel
theorem dX7_matchesNext_172 : decode cX7_matchesNext 172 = .ok (.iconst 1, 1) := by decide +kernel
theorem dX7_matchesNext_173 : decode cX7_matchesNext 173 = .ok (.iconst 1, 1) := by decide +kernel
theorem dX7_matchesNext_174 : decode cX7_matchesNext 174 = .ok (.invokevirtual 264, 3) := by decide +kernel
theorem dX7_matchesNext_177 : decode cX7_matchesNext 177 = .ok (.ifCond .eq 19, 3) := by decide +kernel
theorem dX7_matchesNext_180 : decode cX7_matchesNext 180 = .ok (.aload_n 0, 1) := by decide +kernel
theorem dX7_matchesNext_181 : decode cX7_matchesNext 181 = .ok (.iload_n 1, 1) := by decide +kernel
theorem dX7_matchesNext_182 : decode cX7_matchesNext 182 = .ok (.iload_n 3, 1) := by decide +kernel
theorem dX7_matchesNext_183 : decode cX7_matchesNext 183 = .ok (.iload_n 2, 1) := by decide +kernel
theorem dX7_matchesNext_184 : decode cX7_matchesNext 184 = .ok (.iload 4, 2) := by decide +kernel
theorem dX7_matchesNext_186 : decode cX7_matchesNext 186 = .ok (.invokevirtual 268, 3) := by decide +kernel
theorem dX7_matchesNext_189 : decode cX7_matchesNext 189 = .ok (.ifCond .eq 7, 3) := by decide +kernel
theorem dX7_matchesNext_192 : decode cX7_matchesNext 192 = .ok (.iconst 1, 1) := by decide +kernel
theorem dX7_matchesNext_193 : decode cX7_matchesNext 193 = .ok (.goto 4, 3) := by decide +kernel
theorem dX7_matchesNext_196 : decode cX7_matchesNext 196 = .ok (.iconst 0, 1) := by decide +kernel
theorem dX7_matchesNext_197 : decode cX7_matchesNext 197 = .ok (.ireturn, 1) := by decide +kernel
theorem dX7_matchesNext_198 : decode cX7_matchesNext 198 = .ok (.aload_n 0, 1) := by decide +kernel
theorem dX7_matchesNext_199 : decode cX7_matchesNext 199 = .ok (.iload_n 1, 1) := by decide +kernel
theorem dX7_matchesNext_200 : decode cX7_matchesNext 200 = .ok (.iload_n 3, 1) := by decide +kernel
theorem dX7_matchesNext_201 : decode cX7_matchesNext 201 = .ok (.iload_n 2, 1) := by decide +kernel
theorem dX7_matchesNext_202 : decode cX7_matchesNext 202 = .ok (.iload 4, 2) := by decide +kernel
theorem dX7_matchesNext_204 : decode cX7_matchesNext 204 = .ok (.invokevirtual 235, 3) := by decide +kernel
theorem dX7_matchesNext_207 : decode cX7_matchesNext 207 = .ok (.ifCond .eq 19, 3) := by decide +kernel
theorem dX7_matchesNext_210 : decode cX7_matchesNext 210 = .ok (.aload_n 0, 1) := by decide +kernel
theorem dX7_matchesNext_211 : decode cX7_matchesNext 211 = .ok (.iload_n 1, 1) := by decide +kernel
theorem dX7_matchesNext_212 : decode cX7_matchesNext 212 = .ok (.iload_n 3, 1) := by decide +kernel
theorem dX7_matchesNext_213 : decode cX7_matchesNext 213 = .ok (.iload_n 2, 1) := by decide +kernel
theorem dX7_matchesNext_214 : decode cX7_matchesNext 214 = .ok (.iload 4, 2) := by decide +kernel
theorem dX7_matchesNext_216 : decode cX7_matchesNext 216 = .ok (.invokevirtual 268, 3) := by decide +kernel
theorem dX7_matchesNext_219 : decode cX7_matchesNext 219 = .ok (.ifCond .eq 7, 3) := by decide +kernel
theorem dX7_matchesNext_222 : decode cX7_matchesNext 222 = .ok (.iconst 1, 1) := by decide +kernel
theorem dX7_matchesNext_223 : decode cX7_matchesNext 223 = .ok (.goto 4, 3) := by decide +kernel
theorem dX7_matchesNext_226 : decode cX7_matchesNext 226 = .ok (.iconst 0, 1) := by decide +kernel
theorem dX7_matchesNext_227 : decode cX7_matchesNext 227 = .ok (.ireturn, 1) := by decide +kernel
theorem dX7_matches_0 : decode cX7_matches 0 = .ok (.aload_n 0, 1) := by decide +kernel
theorem dX7_matches_1 : decode cX7_matches 1 = .ok (.iload_n 1, 1) := by decide +kernel
theorem dX7_matches_2 : decode cX7_matches 2 = .ok (.aload_n 0, 1) := by decide +kernel
theorem dX7_matches_3 : decode cX7_matches 3 = .ok (.getfield 20, 3) := by decide +kernel
theorem dX7_matches_6 : decode cX7_matches 6 = .ok (.invokevirtual 115, 3) := by decide +kernel
theorem dX7_matches_9 : decode cX7_matches 9 = .ok (.aload_n 0, 1) := by decide +kernel
theorem dX7_matches_10 : decode cX7_matches 10 = .ok (.iload_n 2, 1) := by decide +kernel
theorem dX7_matches_11 : decode cX7_matches 11 = .ok (.aload_n 0, 1) := by decide +kernel
theorem dX7_matches_12 : decode cX7_matches 12 = .ok (.getfield 23, 3) := by decide +kernel
theorem dX7_matches_15 : decode cX7_matches 15 = .ok (.invokevirtual 115, 3) := by decide +kernel
theorem dX7_matches_18 : decode cX7_matches 18 = .ok (.iconst 0, 1) := by decide +kernel
theorem dX7_matches_19 : decode cX7_matches 19 = .ok (.istore_n 3, 1) := by decide +kernel
theorem dX7_matches_20 : decode cX7_matches 20 = .ok (.iload_n 3, 1) := by decide +kernel
theorem dX7_matches_21 : decode cX7_matches 21 = .ok (.bipush 10, 2) := by decide +kernel
theorem dX7_matches_23 : decode cX7_matches 23 = .ok (.if_icmp .ge 16, 3) := by decide +kernel
theorem dX7_matches_26 : decode cX7_matches 26 = .ok (.aload_n 0, 1) := by decide +kernel
theorem dX7_matches_27 : decode cX7_matches 27 = .ok (.getfield 84, 3) := by decide +kernel
theorem dX7_matches_30 : decode cX7_matches 30 = .ok (.iload_n 3, 1) := by decide +kernel
theorem dX7_matches_31 : decode cX7_matches 31 = .ok (.iconst (-1), 1) := by decide +kernel
theorem dX7_matches_32 : decode cX7_matches 32 = .ok (.iastore, 1) := by decide +kernel
theorem dX7_matches_33 : decode cX7_matches 33 = .ok (.iinc 3 1, 3) := by decide +kernel
theorem dX7_matches_36 : decode cX7_matches 36 = .ok (.goto (-16), 3) := by decide +kernel
theorem dX7_matches_39 : decode cX7_matches 39 = .ok (.aload_n 0, 1) := by decide +kernel
theorem dX7_matches_40 : decode cX7_matches 40 = .ok (.iconst 0, 1) := by decide +kernel
theorem dX7_matches_41 : decode cX7_matches 41 = .ok (.putfield 228, 3) := by decide +kernel
theorem dX7_matches_44 : decode cX7_matches 44 = .ok (.aload_n 0, 1) := by decide +kernel
theorem dX7_matches_45 : decode cX7_matches 45 = .ok (.iconst 0, 1) := by decide +kernel
theorem dX7_matches_46 : decode cX7_matches 46 = .ok (.iconst 0, 1) := by decide +kernel
theorem dX7_matches_47 : decode cX7_matches 47 = .ok (.iconst 0, 1) := by decide +kernel
theorem dX7_matches_48 : decode cX7_matches 48 = .ok (.iconst 0, 1) := by decide +kernel
theorem dX7_matches_49 : decode cX7_matches 49 = .ok (.iconst 0, 1) := by decide +kernel
theorem dX7_matches_50 : decode cX7_matches 50 = .ok (.invokevirtual 231, 3) := by decide +kernel
theorem dX7_matches_53 : decode cX7_matches 53 = .ok (.iconst 1, 1) := by decide +kernel
theorem dX7_matches_54 : decode cX7_matches 54 = .ok (.istore_n 3, 1) := by decide +kernel
theorem dX7_matches_55 : decode cX7_matches 55 = .ok (.iload_n 3, 1) := by decide +kernel
theorem dX7_matches_56 : decode cX7_matches 56 = .ok (.ifCond .eq 30, 3) := by decide +kernel
theorem dX7_matches_59 : decode cX7_matches 59 = .ok (.aload_n 0, 1) := by decide +kernel
theorem dX7_matches_60 : decode cX7_matches 60 = .ok (.getfield 228, 3) := by decide +kernel
theorem dX7_matches_63 : decode cX7_matches 63 = .ok (.ifCond .le 23, 3) := by decide +kernel
theorem dX7_matches_66 : decode cX7_matches 66 = .ok (.aload_n 0, 1) := by decide +kernel
theorem dX7_matches_67 : decode cX7_matches 67 = .ok (.dup, 1) := by decide +kernel
theorem dX7_matches_68 : decode cX7_matches 68 = .ok (.getfield 228, 3) := by decide +kernel
theorem dX7_matches_71 : decode cX7_matches 71 = .ok (.iconst 1, 1) := by decide +kernel
theorem dX7_matches_72 : decode cX7_matches 72 = .ok (.isub, 1) := by decide +kernel
theorem dX7_matches_73 : decode cX7_matches 73 = .ok (.putfield 228, 3) := by decide +kernel
theorem dX7_matches_76 : decode cX7_matches 76 = .ok (.aload_n 0, 1) := by decide +kernel
theorem dX7_matches_77 : decode cX7_matches 77 = .ok (.iload_n 1, 1) := by decide +kernel
theorem dX7_matches_78 : decode cX7_matches 78 = .ok (.iload_n 2, 1) := by decide +kernel
theorem dX7_matches_79 : decode cX7_matches 79 = .ok (.invokevirtual 271, 3) := by decide +kernel
theorem dX7_matches_82 : decode cX7_matches 82 = .ok (.istore_n 3, 1) := by decide +kernel
theorem dX7_matches_83 : decode cX7_matches 83 = .ok (.goto (-28), 3) := by decide +kernel
theorem dX7_matches_86 : decode cX7_matches 86 = .ok (.iload_n 3, 1) := by decide +kernel
theorem dX7_matches_87 : decode cX7_matches 87 = .ok (.ireturn, 1) := by decide +kernel
theorem dX7_covers_0 : decode cX7_covers 0 = .ok (.aload_n 0, 1) := by decide +kernel
theorem dX7_covers_1 : decode cX7_covers 1 = .ok (.iload_n 1, 1) := by decide +kernel
theorem dX7_covers_2 : decode cX7_covers 2 = .ok (.iload_n 2, 1) := by decide +kernel
theorem dX7_covers_3 : decode cX7_covers 3 = .ok (.iconst 1, 1) := by decide +kernel
theorem dX7_covers_4 : decode cX7_covers 4 = .ok (.invokevirtual 254, 3) := by decide +kernel
theorem dX7_covers_7 : decode cX7_covers 7 = .ok (.istore_n 3, 1) := by decide +kernel
theorem dX7_covers_8 : decode cX7_covers 8 = .ok (.iload_n 3, 1) := by decide +kernel
theorem dX7_covers_9 : decode cX7_covers 9 = .ok (.ifCond .eq 7, 3) := by decide +kernel
theorem dX7_covers_12 : decode cX7_covers 12 = .ok (.iload_n 3, 1) := by decide +kernel
theorem dX7_covers_13 : decode cX7_covers 13 = .ok (.goto 23, 3) := by decide +kernel
theorem dX7_covers_16 : decode cX7_covers 16 = .ok (.aload_n 0, 1) := by decide +kernel
theorem dX7_covers_17 : decode cX7_covers 17 = .ok (.bipush 97, 2) := by decide +kernel
theorem dX7_covers_19 : decode cX7_covers 19 = .ok (.iload_n 1, 1) := by decide +kernel
theorem dX7_covers_20 : decode cX7_covers 20 = .ok (.imul, 1) := by decide +kernel
theorem dX7_covers_21 : decode cX7_covers 21 = .ok (.bipush 97, 2) := by decide +kernel
theorem dX7_covers_23 : decode cX7_covers 23 = .ok (.iload_n 2, 1) := by decide +kernel
theorem dX7_covers_24 : decode cX7_covers 24 = .ok (.imul, 1) := by decide +kernel
theorem dX7_covers_25 : decode cX7_covers 25 = .ok (.invokevirtual 274, 3) := by decide +kernel
theorem dX7_covers_28 : decode cX7_covers 28 = .ok (.ifCond .eq 7, 3) := by decide +kernel
theorem dX7_covers_31 : decode cX7_covers 31 = .ok (.iconst 1, 1) := by decide +kernel
theorem dX7_covers_32 : decode cX7_covers 32 = .ok (.goto 4, 3) := by decide +kernel
theorem dX7_covers_35 : decode cX7_covers 35 = .ok (.iconst 0, 1) := by decide +kernel
theorem dX7_covers_36 : decode cX7_covers 36 = .ok (.ireturn, 1) := by decide +kernel
theorem dX7_filled_0 : decode cX7_filled 0 = .ok (.aload_n 0, 1) := by decide +kernel
theorem dX7_filled_1 : decode cX7_filled 1 = .ok (.iload_n 1, 1) := by decide +kernel
theorem dX7_filled_2 : decode cX7_filled 2 = .ok (.iload_n 2, 1) := by decide +kernel
theorem dX7_filled_3 : decode cX7_filled 3 = .ok (.iload_n 3, 1) := by decide +kernel
theorem dX7_filled_4 : decode cX7_filled 4 = .ok (.iconst 0, 1) := by decide +kernel
theorem dX7_filled_5 : decode cX7_filled 5 = .ok (.bipush 9, 2) := by decide +kernel
theorem dX7_filled_7 : decode cX7_filled 7 = .ok (.invokestatic 122, 3) := by decide +kernel
theorem dX7_filled_10 : decode cX7_filled 10 = .ok (.ifCond .eq 17, 3) := by decide +kernel
theorem dX7_filled_13 : decode cX7_filled 13 = .ok (.iload 4, 2) := by decide +kernel
theorem dX7_filled_15 : decode cX7_filled 15 = .ok (.iconst 0, 1) := by decide +kernel
theorem dX7_filled_16 : decode cX7_filled 16 = .ok (.iconst 2, 1) := by decide +kernel
theorem dX7_filled_17 : decode cX7_filled 17 = .ok (.invokestatic 122, 3) := by decide +kernel
theorem dX7_filled_20 : decode cX7_filled 20 = .ok (.ifCond .eq 7, 3) := by decide +kernel
theorem dX7_filled_23 : decode cX7_filled 23 = .ok (.iconst 1, 1) := by decide +kernel
theorem dX7_filled_24 : decode cX7_filled 24 = .ok (.goto 4, 3) := by decide +kernel
theorem dX7_filled_27 : decode cX7_filled 27 = .ok (.iconst 0, 1) := by decide +kernel
theorem dX7_filled_28 : decode cX7_filled 28 = .ok (.invokevirtual 254, 3) := by decide +kernel
theorem dX7_filled_31 : decode cX7_filled 31 = .ok (.istore 5, 2) := by decide +kernel
theorem dX7_filled_33 : decode cX7_filled 33 = .ok (.iload 5, 2) := by decide +kernel
theorem dX7_filled_35 : decode cX7_filled 35 = .ok (.ifCond .eq 6, 3) := by decide +kernel
theorem dX7_filled_38 : decode cX7_filled 38 = .ok (.iload 5, 2) := by decide +kernel
theorem dX7_filled_40 : decode cX7_filled 40 = .ok (.ireturn, 1) := by decide +kernel
theorem dX7_filled_41 : decode cX7_filled 41 = .ok (.aload_n 0, 1) := by decide +kernel
theorem dX7_filled_42 : decode cX7_filled 42 = .ok (.bipush 97, 2) := by decide +kernel
theorem dX7_filled_44 : decode cX7_filled 44 = .ok (.iload_n 1, 1) := by decide +kernel
theorem dX7_filled_45 : decode cX7_filled 45 = .ok (.imul, 1) := by decide +kernel
theorem dX7_filled_46 : decode cX7_filled 46 = .ok (.bipush 97, 2) := by decide +kernel
theorem dX7_filled_48 : decode cX7_filled 48 = .ok (.iload_n 2, 1) := by decide +kernel
theorem dX7_filled_49 : decode cX7_filled 49 = .ok (.imul, 1) := by decide +kernel
theorem dX7_filled_50 : decode cX7_filled 50 = .ok (.invokevirtual 274, 3) := by decide +kernel
theorem dX7_filled_53 : decode cX7_filled 53 = .ok (.ifCond .eq 12, 3) := by decide +kernel
theorem dX7_filled_56 : decode cX7_filled 56 = .ok (.aload_n 0, 1) := by decide +kernel
theorem dX7_filled_57 : decode cX7_filled 57 = .ok (.getfield 84, 3) := by decide +kernel
theorem dX7_filled_60 : decode cX7_filled 60 = .ok (.iload_n 3, 1) := by decide +kernel
theorem dX7_filled_61 : decode cX7_filled 61 = .ok (.iaload, 1) := by decide +kernel
theorem dX7_filled_62 : decode cX7_filled 62 = .ok (.ifCond .ge 6, 3) := by decide +kernel
theorem dX7_filled_65 : decode cX7_filled 65 = .ok (.bipush (-9), 2) := by decide +kernel
theorem dX7_filled_67 : decode cX7_filled 67 = .ok (.ireturn, 1) := by decide +kernel
theorem dX7_filled_68 : decode cX7_filled 68 = .ok (.iload 4, 2) := by decide +kernel
theorem dX7_filled_70 : decode cX7_filled 70 = .ok (.iconst 1, 1) := by decide +kernel
theorem dX7_filled_71 : decode cX7_filled 71 = .ok (.if_icmp .ne 12, 3) := by decide +kernel
theorem dX7_filled_74 : decode cX7_filled 74 = .ok (.aload_n 0, 1) := by decide +kernel
theorem dX7_filled_75 : decode cX7_filled 75 = .ok (.getfield 84, 3) := by decide +kernel
theorem dX7_filled_78 : decode cX7_filled 78 = .ok (.iload_n 3, 1) := by decide +kernel
theorem dX7_filled_79 : decode cX7_filled 79 = .ok (.iaload, 1) := by decide +kernel
theorem dX7_filled_80 : decode cX7_filled 80 = .ok (.goto 38, 3) := by decide +kernel
theorem dX7_filled_83 : decode cX7_filled 83 = .ok (.iload 4, 2) := by decide +kernel
theorem dX7_filled_85 : decode cX7_filled 85 = .ok (.iconst 2, 1) := by decide +kernel
theorem dX7_filled_86 : decode cX7_filled 86 = .ok (.if_icmp .ne 12, 3) := by decide +kernel
theorem dX7_filled_89 : decode cX7_filled 89 = .ok (.aload_n 0, 1) := by decide +kernel
theorem dX7_filled_90 : decode cX7_filled 90 = .ok (.getfield 87, 3) := by decide +kernel
theorem dX7_filled_93 : decode cX7_filled 93 = .ok (.iload_n 3, 1) := by decide +kernel
theorem dX7_filled_94 : decode cX7_filled 94 = .ok (.iaload, 1) := by decide +kernel
theorem dX7_filled_95 : decode cX7_filled 95 = .ok (.goto 23, 3) := by decide +kernel
theorem dX7_filled_98 : decode cX7_filled 98 = .ok (.aload_n 0, 1) := by decide +kernel
theorem dX7_filled_99 : decode cX7_filled 99 = .ok (.getfield 84, 3) := by decide +kernel
theorem dX7_filled_102 : decode cX7_filled 102 = .ok (.iload_n 3, 1) := by decide +kernel
theorem dX7_filled_103 : decode cX7_filled 103 = .ok (.iaload, 1) := by decide +kernel
theorem dX7_filled_104 : decode cX7_filled 104 = .ok (.ifCond .ne 8, 3) := by decide +kernel
theorem dX7_filled_107 : decode cX7_filled 107 = .ok (.bipush (-9), 2) := by decide +kernel
theorem dX7_filled_109 : decode cX7_filled 109 = .ok (.goto 9, 3) := by decide +kernel
theorem dX7_filled_112 : decode cX7_filled 112 = .ok (.aload_n 0, 1) := by decide +kernel
theorem dX7_filled_113 : decode cX7_filled 113 = .ok (.getfield 81, 3) := by decide +kernel
theorem dX7_filled_116 : decode cX7_filled 116 = .ok (.iload_n 3, 1) := by decide +kernel
theorem dX7_filled_117 : decode cX7_filled 117 = .ok (.iaload, 1) := by decide +kernel
theorem dX7_filled_118 : decode cX7_filled 118 = .ok (.ireturn, 1) := by decide +kernel
theorem dX7_compare_0 : decode cX7_compare 0 = .ok (.aload_n 0, 1) := by decide +kernel
theorem dX7_compare_1 : decode cX7_compare 1 = .ok (.iload_n 1, 1) := by decide +kernel
theorem dX7_compare_2 : decode cX7_compare 2 = .ok (.iload_n 2, 1) := by decide +kernel
theorem dX7_compare_3 : decode cX7_compare 3 = .ok (.iconst 1, 1) := by decide +kernel
theorem dX7_compare_4 : decode cX7_compare 4 = .ok (.invokevirtual 254, 3) := by decide +kernel
theorem dX7_compare_7 : decode cX7_compare 7 = .ok (.istore_n 3, 1) := by decide +kernel
theorem dX7_compare_8 : decode cX7_compare 8 = .ok (.iload_n 3, 1) := by decide +kernel
theorem dX7_compare_9 : decode cX7_compare 9 = .ok (.ifCond .eq 5, 3) := by decide +kernel
theorem dX7_compare_12 : decode cX7_compare 12 = .ok (.iload_n 3, 1) := by decide +kernel
theorem dX7_compare_13 : decode cX7_compare 13 = .ok (.ireturn, 1) := by decide +kernel
theorem dX7_compare_14 : decode cX7_compare 14 = .ok (.aload_n 0, 1) := by decide +kernel
theorem dX7_compare_15 : decode cX7_compare 15 = .ok (.bipush 97, 2) := by decide +kernel
theorem dX7_compare_17 : decode cX7_compare 17 = .ok (.iload_n 1, 1) := by decide +kernel
theorem dX7_compare_18 : decode cX7_compare 18 = .ok (.imul, 1) := by decide +kernel
theorem dX7_compare_19 : decode cX7_compare 19 = .ok (.bipush 97, 2) := by decide +kernel
theorem dX7_compare_21 : decode cX7_compare 21 = .ok (.iload_n 2, 1) := by decide +kernel
theorem dX7_compare_22 : decode cX7_compare 22 = .ok (.imul, 1) := by decide +kernel
theorem dX7_compare_23 : decode cX7_compare 23 = .ok (.invokevirtual 274, 3) := by decide +kernel
theorem dX7_compare_26 : decode cX7_compare 26 = .ok (.istore 4, 2) := by decide +kernel
theorem dX7_compare_28 : decode cX7_compare 28 = .ok (.aload_n 0, 1) := by decide +kernel
theorem dX7_compare_29 : decode cX7_compare 29 = .ok (.bipush 97, 2) := by decide +kernel
theorem dX7_compare_31 : decode cX7_compare 31 = .ok (.iload_n 2, 1) := by decide +kernel
theorem dX7_compare_32 : decode cX7_compare 32 = .ok (.imul, 1) := by decide +kernel
theorem dX7_compare_33 : decode cX7_compare 33 = .ok (.bipush 97, 2) := by decide +kernel
theorem dX7_compare_35 : decode cX7_compare 35 = .ok (.iload_n 1, 1) := by decide +kernel
theorem dX7_compare_36 : decode cX7_compare 36 = .ok (.imul, 1) := by decide +kernel
theorem dX7_compare_37 : decode cX7_compare 37 = .ok (.invokevirtual 274, 3) := by decide +kernel
theorem dX7_compare_40 : decode cX7_compare 40 = .ok (.istore 5, 2) := by decide +kernel
theorem dX7_compare_42 : decode cX7_compare 42 = .ok (.iload 4, 2) := by decide +kernel
theorem dX7_compare_44 : decode cX7_compare 44 = .ok (.ifCond .eq 12, 3) := by decide +kernel
theorem dX7_compare_47 : decode cX7_compare 47 = .ok (.iload 5, 2) := by decide +kernel
theorem dX7_compare_49 : decode cX7_compare 49 = .ok (.ifCond .eq 7, 3) := by decide +kernel
theorem dX7_compare_52 : decode cX7_compare 52 = .ok (.iconst 0, 1) := by decide +kernel
theorem dX7_compare_53 : decode cX7_compare 53 = .ok (.goto 22, 3) := by decide +kernel
theorem dX7_compare_56 : decode cX7_compare 56 = .ok (.iload 4, 2) := by decide +kernel
theorem dX7_compare_58 : decode cX7_compare 58 = .ok (.ifCond .eq 7, 3) := by decide +kernel
theorem dX7_compare_61 : decode cX7_compare 61 = .ok (.iconst 1, 1) := by decide +kernel
theorem dX7_compare_62 : decode cX7_compare 62 = .ok (.goto 13, 3) := by decide +kernel
theorem dX7_compare_65 : decode cX7_compare 65 = .ok (.iload 5, 2) := by decide +kernel
theorem dX7_compare_67 : decode cX7_compare 67 = .ok (.ifCond .eq 7, 3) := by decide +kernel
theorem dX7_compare_70 : decode cX7_compare 70 = .ok (.iconst 2, 1) := by decide +kernel
theorem dX7_compare_71 : decode cX7_compare 71 = .ok (.goto 4, 3) := by decide +kernel
theorem dX7_compare_74 : decode cX7_compare 74 = .ok (.iconst 3, 1) := by decide +kernel
theorem dX7_compare_75 : decode cX7_compare 75 = .ok (.ireturn, 1) := by decide +kernel
theorem dX7_coveredBy_0 : decode cX7_coveredBy 0 = .ok (.iconst 0, 1) := by decide +kernel
theorem dX7_coveredBy_1 : decode cX7_coveredBy 1 = .ok (.istore_n 2, 1) := by decide +kernel
theorem dX7_coveredBy_2 : decode cX7_coveredBy 2 = .ok (.iconst 0, 1) := by decide +kernel
theorem dX7_coveredBy_3 : decode cX7_coveredBy 3 = .ok (.istore_n 3, 1) := by decide +kernel
theorem dX7_coveredBy_4 : decode cX7_coveredBy 4 = .ok (.iload_n 3, 1) := by decide +kernel
theorem dX7_coveredBy_5 : decode cX7_coveredBy 5 = .ok (.bipush 8, 2) := by decide +kernel
theorem dX7_coveredBy_7 : decode cX7_coveredBy 7 = .ok (.if_icmp .ge 42, 3) := by decide +kernel
theorem dX7_coveredBy_10 : decode cX7_coveredBy 10 = .ok (.iload_n 2, 1) := by decide +kernel
theorem dX7_coveredBy_11 : decode cX7_coveredBy 11 = .ok (.aload_n 0, 1) := by decide +kernel
theorem dX7_coveredBy_12 : decode cX7_coveredBy 12 = .ok (.iload_n 3, 1) := by decide +kernel
theorem dX7_coveredBy_13 : decode cX7_coveredBy 13 = .ok (.invokevirtual 204, 3) := by decide +kernel
theorem dX7_coveredBy_16 : decode cX7_coveredBy 16 = .ok (.ifCond .ne 24, 3) := by decide +kernel
theorem dX7_coveredBy_19 : decode cX7_coveredBy 19 = .ok (.aload_n 0, 1) := by decide +kernel
theorem dX7_coveredBy_20 : decode cX7_coveredBy 20 = .ok (.bipush 97, 2) := by decide +kernel
theorem dX7_coveredBy_22 : decode cX7_coveredBy 22 = .ok (.iload_n 1, 1) := by decide +kernel
theorem dX7_coveredBy_23 : decode cX7_coveredBy 23 = .ok (.imul, 1) := by decide +kernel
theorem dX7_coveredBy_24 : decode cX7_coveredBy 24 = .ok (.bipush 97, 2) := by decide +kernel
theorem dX7_coveredBy_26 : decode cX7_coveredBy 26 = .ok (.iload_n 3, 1) := by decide +kernel
theorem dX7_coveredBy_27 : decode cX7_coveredBy 27 = .ok (.imul, 1) := by decide +kernel
theorem dX7_coveredBy_28 : decode cX7_coveredBy 28 = .ok (.invokevirtual 274, 3) := by decide +kernel
theorem dX7_coveredBy_31 : decode cX7_coveredBy 31 = .ok (.ifCond .eq 9, 3) := by decide +kernel
theorem dX7_coveredBy_34 : decode cX7_coveredBy 34 = .ok (.iconst 1, 1) := by decide +kernel
theorem dX7_coveredBy_35 : decode cX7_coveredBy 35 = .ok (.iload_n 3, 1) := by decide +kernel
theorem dX7_coveredBy_36 : decode cX7_coveredBy 36 = .ok (.ishl, 1) := by decide +kernel
theorem dX7_coveredBy_37 : decode cX7_coveredBy 37 = .ok (.goto 4, 3) := by decide +kernel
theorem dX7_coveredBy_40 : decode cX7_coveredBy 40 = .ok (.iconst 0, 1) := by decide +kernel
theorem dX7_coveredBy_41 : decode cX7_coveredBy 41 = .ok (.ior, 1) := by decide +kernel
theorem dX7_coveredBy_42 : decode cX7_coveredBy 42 = .ok (.istore_n 2, 1) := by decide +kernel
theorem dX7_coveredBy_43 : decode cX7_coveredBy 43 = .ok (.iinc 3 1, 3) := by decide +kernel
theorem dX7_coveredBy_46 : decode cX7_coveredBy 46 = .ok (.goto (-42), 3) := by decide +kernel
theorem dX7_coveredBy_49 : decode cX7_coveredBy 49 = .ok (.iload_n 2, 1) := by decide +kernel
theorem dX7_coveredBy_50 : decode cX7_coveredBy 50 = .ok (.ireturn, 1) := by decide +kernel
theorem dX7_covered_0 : decode cX7_covered 0 = .ok (.aload_n 0, 1) := by decide +kernel
theorem dX7_covered_1 : decode cX7_covered 1 = .ok (.iload_n 1, 1) := by decide +kernel
theorem dX7_covered_2 : decode cX7_covered 2 = .ok (.iload_n 1, 1) := by decide +kernel
theorem dX7_covered_3 : decode cX7_covered 3 = .ok (.iconst 1, 1) := by decide +kernel
theorem dX7_covered_4 : decode cX7_covered 4 = .ok (.invokevirtual 254, 3) := by decide +kernel
theorem dX7_covered_7 : decode cX7_covered 7 = .ok (.istore_n 2, 1) := by decide +kernel
theorem dX7_covered_8 : decode cX7_covered 8 = .ok (.iload_n 2, 1) := by decide +kernel
theorem dX7_covered_9 : decode cX7_covered 9 = .ok (.ifCond .eq 7, 3) := by decide +kernel
theorem dX7_covered_12 : decode cX7_covered 12 = .ok (.iload_n 2, 1) := by decide +kernel
theorem dX7_covered_13 : decode cX7_covered 13 = .ok (.goto 8, 3) := by decide +kernel
theorem dX7_covered_16 : decode cX7_covered 16 = .ok (.aload_n 0, 1) := by decide +kernel
theorem dX7_covered_17 : decode cX7_covered 17 = .ok (.iload_n 1, 1) := by decide +kernel
theorem dX7_covered_18 : decode cX7_covered 18 = .ok (.invokevirtual 277, 3) := by decide +kernel
theorem dX7_covered_21 : decode cX7_covered 21 = .ok (.ireturn, 1) := by decide +kernel
theorem dX7_isLike_0 : decode cX7_isLike 0 = .ok (.iload 4, 2) := by decide +kernel
theorem dX7_isLike_2 : decode cX7_isLike 2 = .ok (.iconst 2, 1) := by decide +kernel
theorem dX7_isLike_3 : decode cX7_isLike 3 = .ok (.if_icmp .ne 59, 3) := by decide +kernel
theorem dX7_isLike_6 : decode cX7_isLike 6 = .ok (.aload_n 0, 1) := by decide +kernel
theorem dX7_isLike_7 : decode cX7_isLike 7 = .ok (.iload_n 1, 1) := by decide +kernel
theorem dX7_isLike_8 : decode cX7_isLike 8 = .ok (.aload_n 0, 1) := by decide +kernel
theorem dX7_isLike_9 : decode cX7_isLike 9 = .ok (.getfield 81, 3) := by decide +kernel
theorem dX7_isLike_12 : decode cX7_isLike 12 = .ok (.iload_n 2, 1) := by decide +kernel
theorem dX7_isLike_13 : decode cX7_isLike 13 = .ok (.iaload, 1) := by decide +kernel
theorem dX7_isLike_14 : decode cX7_isLike 14 = .ok (.invokevirtual 119, 3) := by decide +kernel
theorem dX7_isLike_17 : decode cX7_isLike 17 = .ok (.aload_n 0, 1) := by decide +kernel
theorem dX7_isLike_18 : decode cX7_isLike 18 = .ok (.iload_n 1, 1) := by decide +kernel
theorem dX7_isLike_19 : decode cX7_isLike 19 = .ok (.aload_n 0, 1) := by decide +kernel
theorem dX7_isLike_20 : decode cX7_isLike 20 = .ok (.getfield 81, 3) := by decide +kernel
theorem dX7_isLike_23 : decode cX7_isLike 23 = .ok (.iload_n 3, 1) := by decide +kernel
theorem dX7_isLike_24 : decode cX7_isLike 24 = .ok (.iaload, 1) := by decide +kernel
theorem dX7_isLike_25 : decode cX7_isLike 25 = .ok (.invokevirtual 119, 3) := by decide +kernel
theorem dX7_isLike_28 : decode cX7_isLike 28 = .ok (.if_icmp .ne 32, 3) := by decide +kernel
theorem dX7_isLike_31 : decode cX7_isLike 31 = .ok (.aload_n 0, 1) := by decide +kernel
theorem dX7_isLike_32 : decode cX7_isLike 32 = .ok (.iload_n 1, 1) := by decide +kernel
theorem dX7_isLike_33 : decode cX7_isLike 33 = .ok (.aload_n 0, 1) := by decide +kernel
theorem dX7_isLike_34 : decode cX7_isLike 34 = .ok (.getfield 81, 3) := by decide +kernel
theorem dX7_isLike_37 : decode cX7_isLike 37 = .ok (.iload_n 2, 1) := by decide +kernel
theorem dX7_isLike_38 : decode cX7_isLike 38 = .ok (.iaload, 1) := by decide +kernel
theorem dX7_isLike_39 : decode cX7_isLike 39 = .ok (.invokevirtual 159, 3) := by decide +kernel
theorem dX7_isLike_42 : decode cX7_isLike 42 = .ok (.aload_n 0, 1) := by decide +kernel
theorem dX7_isLike_43 : decode cX7_isLike 43 = .ok (.iload_n 1, 1) := by decide +kernel
theorem dX7_isLike_44 : decode cX7_isLike 44 = .ok (.aload_n 0, 1) := by decide +kernel
theorem dX7_isLike_45 : decode cX7_isLike 45 = .ok (.getfield 81, 3) := by decide +kernel
theorem dX7_isLike_48 : decode cX7_isLike 48 = .ok (.iload_n 3, 1) := by decide +kernel
theorem dX7_isLike_49 : decode cX7_isLike 49 = .ok (.iaload, 1) := by decide +kernel
theorem dX7_isLike_50 : decode cX7_isLike 50 = .ok (.invokevirtual 159, 3) := by decide +kernel
theorem dX7_isLike_53 : decode cX7_isLike 53 = .ok (.if_icmp .ne 7, 3) := by decide +kernel
theorem dX7_isLike_56 : decode cX7_isLike 56 = .ok (.iconst 1, 1) := by decide +kernel
theorem dX7_isLike_57 : decode cX7_isLike 57 = .ok (.goto 4, 3) := by decide +kernel
theorem dX7_isLike_60 : decode cX7_isLike 60 = .ok (.iconst 0, 1) := by decide +kernel
theorem dX7_isLike_61 : decode cX7_isLike 61 = .ok (.ireturn, 1) := by decide +kernel
theorem dX7_isLike_62 : decode cX7_isLike 62 = .ok (.aload_n 0, 1) := by decide +kernel
theorem dX7_isLike_63 : decode cX7_isLike 63 = .ok (.getfield 84, 3) := by decide +kernel
theorem dX7_isLike_66 : decode cX7_isLike 66 = .ok (.iload_n 2, 1) := by decide +kernel
theorem dX7_isLike_67 : decode cX7_isLike 67 = .ok (.iaload, 1) := by decide +kernel
theorem dX7_isLike_68 : decode cX7_isLike 68 = .ok (.aload_n 0, 1) := by decide +kernel
theorem dX7_isLike_69 : decode cX7_isLike 69 = .ok (.getfield 84, 3) := by decide +kernel
theorem dX7_isLike_72 : decode cX7_isLike 72 = .ok (.iload_n 3, 1) := by decide +kernel
theorem dX7_isLike_73 : decode cX7_isLike 73 = .ok (.iaload, 1) := by decide +kernel
theorem dX7_isLike_74 : decode cX7_isLike 74 = .ok (.if_icmp .ne 34, 3) := by decide +kernel
theorem dX7_isLike_77 : decode cX7_isLike 77 = .ok (.aload_n 0, 1) := by decide +kernel
theorem dX7_isLike_78 : decode cX7_isLike 78 = .ok (.iload_n 1, 1) := by decide +kernel
theorem dX7_isLike_79 : decode cX7_isLike 79 = .ok (.aload_n 0, 1) := by decide +kernel
theorem dX7_isLike_80 : decode cX7_isLike 80 = .ok (.getfield 81, 3) := by decide +kernel
theorem dX7_isLike_83 : decode cX7_isLike 83 = .ok (.iload_n 2, 1) := by decide +kernel
theorem dX7_isLike_84 : decode cX7_isLike 84 = .ok (.iaload, 1) := by decide +kernel
theorem dX7_isLike_85 : decode cX7_isLike 85 = .ok (.iload_n 1, 1) := by decide +kernel
theorem dX7_isLike_86 : decode cX7_isLike 86 = .ok (.aload_n 0, 1) := by decide +kernel
theorem dX7_isLike_87 : decode cX7_isLike 87 = .ok (.getfield 81, 3) := by decide +kernel
theorem dX7_isLike_90 : decode cX7_isLike 90 = .ok (.iload_n 3, 1) := by decide +kernel
theorem dX7_isLike_91 : decode cX7_isLike 91 = .ok (.iaload, 1) := by decide +kernel
theorem dX7_isLike_92 : decode cX7_isLike 92 = .ok (.aload_n 0, 1) := by decide +kernel
theorem dX7_isLike_93 : decode cX7_isLike 93 = .ok (.getfield 84, 3) := by decide +kernel
theorem dX7_isLike_96 : decode cX7_isLike 96 = .ok (.iload_n 2, 1) := by decide +kernel
theorem dX7_isLike_97 : decode cX7_isLike 97 = .ok (.iaload, 1) := by decide +kernel
theorem dX7_isLike_98 : decode cX7_isLike 98 = .ok (.invokevirtual 217, 3) := by decide +kernel
theorem dX7_isLike_101 : decode cX7_isLike 101 = .ok (.ifCond .eq 7, 3) := by decide +kernel
theorem dX7_isLike_104 : decode cX7_isLike 104 = .ok (.iconst 1, 1) := by decide +kernel
theorem dX7_isLike_105 : decode cX7_isLike 105 = .ok (.goto 4, 3) := by decide +kernel
theorem dX7_isLike_108 : decode cX7_isLike 108 = .ok (.iconst 0, 1) := by decide +kernel
theorem dX7_isLike_109 : decode cX7_isLike 109 = .ok (.ireturn, 1) := by decide +kernel
theorem dX7_lastSort_0 : decode cX7_lastSort 0 = .ok (.aload_n 0, 1) := by decide +kernel
theorem dX7_lastSort_1 : decode cX7_lastSort 1 = .ok (.getfield 81, 3) := by decide +kernel
theorem dX7_lastSort_4 : decode cX7_lastSort 4 = .ok (.iload_n 2, 1) := by decide +kernel
theorem dX7_lastSort_5 : decode cX7_lastSort 5 = .ok (.iaload, 1) := by decide +kernel
theorem dX7_lastSort_6 : decode cX7_lastSort 6 = .ok (.istore_n 3, 1) := by decide +kernel
theorem dX7_lastSort_7 : decode cX7_lastSort 7 = .ok (.iload_n 3, 1) := by decide +kernel
theorem dX7_lastSort_8 : decode cX7_lastSort 8 = .ok (.istore 4, 2) := by decide +kernel
theorem dX7_lastSort_10 : decode cX7_lastSort 10 = .ok (.iload_n 3, 1) := by decide +kernel
theorem dX7_lastSort_11 : decode cX7_lastSort 11 = .ok (.aload_n 0, 1) := by decide +kernel
theorem dX7_lastSort_12 : decode cX7_lastSort 12 = .ok (.getfield 81, 3) := by decide +kernel
theorem dX7_lastSort_15 : decode cX7_lastSort 15 = .ok (.iload_n 2, 1) := by decide +kernel
theorem dX7_lastSort_16 : decode cX7_lastSort 16 = .ok (.iaload, 1) := by decide +kernel
theorem dX7_lastSort_17 : decode cX7_lastSort 17 = .ok (.aload_n 0, 1) := by decide +kernel
theorem dX7_lastSort_18 : decode cX7_lastSort 18 = .ok (.getfield 84, 3) := by decide +kernel
theorem dX7_lastSort_21 : decode cX7_lastSort 21 = .ok (.iload_n 2, 1) := by decide +kernel
theorem dX7_lastSort_22 : decode cX7_lastSort 22 = .ok (.iaload, 1) := by decide +kernel
theorem dX7_lastSort_23 : decode cX7_lastSort 23 = .ok (.iadd, 1) := by decide +kernel
theorem dX7_lastSort_24 : decode cX7_lastSort 24 = .ok (.if_icmp .ge 18, 3) := by decide +kernel
theorem dX7_lastSort_27 : decode cX7_lastSort 27 = .ok (.iload_n 3, 1) := by decide +kernel
theorem dX7_lastSort_28 : decode cX7_lastSort 28 = .ok (.istore 4, 2) := by decide +kernel
theorem dX7_lastSort_30 : decode cX7_lastSort 30 = .ok (.iload_n 3, 1) := by decide +kernel
theorem dX7_lastSort_31 : decode cX7_lastSort 31 = .ok (.aload_n 0, 1) := by decide +kernel
theorem dX7_lastSort_32 : decode cX7_lastSort 32 = .ok (.getfield 23, 3) := by decide +kernel
theorem dX7_lastSort_35 : decode cX7_lastSort 35 = .ok (.iload_n 3, 1) := by decide +kernel
theorem dX7_lastSort_36 : decode cX7_lastSort 36 = .ok (.iaload, 1) := by decide +kernel
theorem dX7_lastSort_37 : decode cX7_lastSort 37 = .ok (.iadd, 1) := by decide +kernel
theorem dX7_lastSort_38 : decode cX7_lastSort 38 = .ok (.istore_n 3, 1) := by decide +kernel
theorem dX7_lastSort_39 : decode cX7_lastSort 39 = .ok (.goto (-29), 3) := by decide +kernel
theorem dX7_lastSort_42 : decode cX7_lastSort 42 = .ok (.aload_n 0, 1) := by decide +kernel
theorem dX7_lastSort_43 : decode cX7_lastSort 43 = .ok (.iload_n 1, 1) := by decide +kernel
theorem dX7_lastSort_44 : decode cX7_lastSort 44 = .ok (.iload 4, 2) := by decide +kernel
theorem dX7_lastSort_46 : decode cX7_lastSort 46 = .ok (.invokevirtual 119, 3) := by decide +kernel
theorem dX7_lastSort_49 : decode cX7_lastSort 49 = .ok (.ireturn, 1) := by decide +kernel
theorem dX7_lays_0 : decode cX7_lays 0 = .ok (.aload_n 0, 1) := by decide +kernel
theorem dX7_lays_1 : decode cX7_lays 1 = .ok (.iload_n 1, 1) := by decide +kernel
theorem dX7_lays_2 : decode cX7_lays 2 = .ok (.iload_n 2, 1) := by decide +kernel
theorem dX7_lays_3 : decode cX7_lays 3 = .ok (.invokevirtual 274, 3) := by decide +kernel
theorem dX7_lays_6 : decode cX7_lays 6 = .ok (.pop, 1) := by decide +kernel
theorem dX7_lays_7 : decode cX7_lays 7 = .ok (.iconst 0, 1) := by decide +kernel
theorem dX7_lays_8 : decode cX7_lays 8 = .ok (.istore 4, 2) := by decide +kernel
theorem dX7_lays_10 : decode cX7_lays 10 = .ok (.iload 4, 2) := by decide +kernel
theorem dX7_lays_12 : decode cX7_lays 12 = .ok (.bipush 10, 2) := by decide +kernel
theorem dX7_lays_14 : decode cX7_lays 14 = .ok (.if_icmp .ge 498, 3) := by decide +kernel
theorem dX7_lays_17 : decode cX7_lays 17 = .ok (.aload_n 0, 1) := by decide +kernel
theorem dX7_lays_18 : decode cX7_lays 18 = .ok (.getfield 84, 3) := by decide +kernel
theorem dX7_lays_21 : decode cX7_lays 21 = .ok (.iload 4, 2) := by decide +kernel
theorem dX7_lays_23 : decode cX7_lays 23 = .ok (.iaload, 1) := by decide +kernel
theorem dX7_lays_24 : decode cX7_lays 24 = .ok (.ifCond .ge 8, 3) := by decide +kernel
theorem dX7_lays_27 : decode cX7_lays 27 = .ok (.bipush (-9), 2) := by decide +kernel
theorem dX7_lays_29 : decode cX7_lays 29 = .ok (.goto 10, 3) := by decide +kernel
theorem dX7_lays_32 : decode cX7_lays 32 = .ok (.aload_n 0, 1) := by decide +kernel
theorem dX7_lays_33 : decode cX7_lays 33 = .ok (.getfield 45, 3) := by decide +kernel
theorem dX7_lays_36 : decode cX7_lays 36 = .ok (.iload 4, 2) := by decide +kernel
theorem dX7_lays_38 : decode cX7_lays 38 = .ok (.iaload, 1) := by decide +kernel
theorem dX7_lays_39 : decode cX7_lays 39 = .ok (.istore 5, 2) := by decide +kernel
theorem dX7_lays_41 : decode cX7_lays 41 = .ok (.iconst 0, 1) := by decide +kernel
theorem dX7_lays_42 : decode cX7_lays 42 = .ok (.istore 6, 2) := by decide +kernel
theorem dX7_lays_44 : decode cX7_lays 44 = .ok (.iload 6, 2) := by decide +kernel
theorem dX7_lays_46 : decode cX7_lays 46 = .ok (.bipush 10, 2) := by decide +kernel
theorem dX7_lays_48 : decode cX7_lays 48 = .ok (.if_icmp .ge 109, 3) := by decide +kernel
theorem dX7_lays_51 : decode cX7_lays 51 = .ok (.iload 6, 2) := by decide +kernel
theorem dX7_lays_53 : decode cX7_lays 53 = .ok (.iload 4, 2) := by decide +kernel
theorem dX7_lays_55 : decode cX7_lays 55 = .ok (.if_icmp .eq 50, 3) := by decide +kernel
theorem dX7_lays_58 : decode cX7_lays 58 = .ok (.iload 5, 2) := by decide +kernel
theorem dX7_lays_60 : decode cX7_lays 60 = .ok (.bipush (-9), 2) := by decide +kernel
theorem dX7_lays_62 : decode cX7_lays 62 = .ok (.if_icmp .eq 43, 3) := by decide +kernel
theorem dX7_lays_65 : decode cX7_lays 65 = .ok (.aload_n 0, 1) := by decide +kernel
theorem dX7_lays_66 : decode cX7_lays 66 = .ok (.getfield 84, 3) := by decide +kernel
theorem dX7_lays_69 : decode cX7_lays 69 = .ok (.iload 6, 2) := by decide +kernel
theorem dX7_lays_71 : decode cX7_lays 71 = .ok (.iaload, 1) := by decide +kernel
theorem dX7_lays_72 : decode cX7_lays 72 = .ok (.ifCond .lt 33, 3) := by decide +kernel
theorem dX7_lays_75 : decode cX7_lays 75 = .ok (.aload_n 0, 1) := by decide +kernel
theorem dX7_lays_76 : decode cX7_lays 76 = .ok (.getfield 45, 3) := by decide +kernel
theorem dX7_lays_79 : decode cX7_lays 79 = .ok (.iload 6, 2) := by decide +kernel
theorem dX7_lays_81 : decode cX7_lays 81 = .ok (.iaload, 1) := by decide +kernel
theorem dX7_lays_82 : decode cX7_lays 82 = .ok (.iload 5, 2) := by decide +kernel
theorem dX7_lays_84 : decode cX7_lays 84 = .ok (.if_icmp .ne 21, 3) := by decide +kernel
theorem dX7_lays_87 : decode cX7_lays 87 = .ok (.aload_n 0, 1) := by decide +kernel
theorem dX7_lays_88 : decode cX7_lays 88 = .ok (.iload_n 2, 1) := by decide +kernel
theorem dX7_lays_89 : decode cX7_lays 89 = .ok (.iload 4, 2) := by decide +kernel
theorem dX7_lays_91 : decode cX7_lays 91 = .ok (.iload 6, 2) := by decide +kernel
theorem dX7_lays_93 : decode cX7_lays 93 = .ok (.iload 5, 2) := by decide +kernel
theorem dX7_lays_95 : decode cX7_lays 95 = .ok (.invokevirtual 280, 3) := by decide +kernel
theorem dX7_lays_98 : decode cX7_lays 98 = .ok (.ifCond .eq 7, 3) := by decide +kernel
theorem dX7_lays_101 : decode cX7_lays 101 = .ok (.iconst 1, 1) := by decide +kernel
theorem dX7_lays_102 : decode cX7_lays 102 = .ok (.goto 4, 3) := by decide +kernel
theorem dX7_lays_105 : decode cX7_lays 105 = .ok (.iconst 0, 1) := by decide +kernel
theorem dX7_lays_106 : decode cX7_lays 106 = .ok (.istore 7, 2) := by decide +kernel
theorem dX7_lays_108 : decode cX7_lays 108 = .ok (.aload_n 0, 1) := by decide +kernel
theorem dX7_lays_109 : decode cX7_lays 109 = .ok (.getfield 90, 3) := by decide +kernel
theorem dX7_lays_112 : decode cX7_lays 112 = .ok (.bipush 10, 2) := by decide +kernel
theorem dX7_lays_114 : decode cX7_lays 114 = .ok (.iload 4, 2) := by decide +kernel
theorem dX7_lays_116 : decode cX7_lays 116 = .ok (.imul, 1) := by decide +kernel
theorem dX7_lays_117 : decode cX7_lays 117 = .ok (.iload 6, 2) := by decide +kernel
theorem dX7_lays_119 : decode cX7_lays 119 = .ok (.iadd, 1) := by decide +kernel
theorem dX7_lays_120 : decode cX7_lays 120 = .ok (.iload 7, 2) := by decide +kernel
theorem dX7_lays_122 : decode cX7_lays 122 = .ok (.ifCond .eq 27, 3) := by decide +kernel
theorem dX7_lays_125 : decode cX7_lays 125 = .ok (.iload_n 3, 1) := by decide +kernel
theorem dX7_lays_126 : decode cX7_lays 126 = .ok (.ifCond .ne 19, 3) := by decide +kernel
theorem dX7_lays_129 : decode cX7_lays 129 = .ok (.aload_n 0, 1) := by decide +kernel
theorem dX7_lays_130 : decode cX7_lays 130 = .ok (.getfield 90, 3) := by decide +kernel
theorem dX7_lays_133 : decode cX7_lays 133 = .ok (.bipush 10, 2) := by decide +kernel
theorem dX7_lays_135 : decode cX7_lays 135 = .ok (.iload 4, 2) := by decide +kernel
theorem dX7_lays_137 : decode cX7_lays 137 = .ok (.imul, 1) := by decide +kernel
theorem dX7_lays_138 : decode cX7_lays 138 = .ok (.iload 6, 2) := by decide +kernel
theorem dX7_lays_140 : decode cX7_lays 140 = .ok (.iadd, 1) := by decide +kernel
theorem dX7_lays_141 : decode cX7_lays 141 = .ok (.baload, 1) := by decide +kernel
theorem dX7_lays_142 : decode cX7_lays 142 = .ok (.ifCond .eq 7, 3) := by decide +kernel
theorem dX7_lays_145 : decode cX7_lays 145 = .ok (.iconst 1, 1) := by decide +kernel
theorem dX7_lays_146 : decode cX7_lays 146 = .ok (.goto 4, 3) := by decide +kernel
theorem dX7_lays_149 : decode cX7_lays 149 = .ok (.iconst 0, 1) := by decide +kernel
theorem dX7_lays_150 : decode cX7_lays 150 = .ok (.bastore, 1) := by decide +kernel
theorem dX7_lays_151 : decode cX7_lays 151 = .ok (.iinc 6 1, 3) := by decide +kernel
theorem dX7_lays_154 : decode cX7_lays 154 = .ok (.goto (-110), 3) := by decide +kernel
theorem dX7_lays_157 : decode cX7_lays 157 = .ok (.iload 5, 2) := by decide +kernel
theorem dX7_lays_159 : decode cX7_lays 159 = .ok (.iconst 1, 1) := by decide +kernel
theorem dX7_lays_160 : decode cX7_lays 160 = .ok (.if_icmp .ne 39, 3) := by decide +kernel
theorem dX7_lays_163 : decode cX7_lays 163 = .ok (.aload_n 0, 1) := by decide +kernel
theorem dX7_lays_164 : decode cX7_lays 164 = .ok (.iload_n 2, 1) := by decide +kernel
theorem dX7_lays_165 : decode cX7_lays 165 = .ok (.aload_n 0, 1) := by decide +kernel
theorem dX7_lays_166 : decode cX7_lays 166 = .ok (.getfield 81, 3) := by decide +kernel
theorem dX7_lays_169 : decode cX7_lays 169 = .ok (.iload 4, 2) := by decide +kernel
theorem dX7_lays_171 : decode cX7_lays 171 = .ok (.iaload, 1) := by decide +kernel
theorem dX7_lays_172 : decode cX7_lays 172 = .ok (.invokevirtual 119, 3) := by decide +kernel
theorem dX7_lays_175 : decode cX7_lays 175 = .ok (.ifCond .ne 24, 3) := by decide +kernel
theorem dX7_lays_178 : decode cX7_lays 178 = .ok (.aload_n 0, 1) := by decide +kernel
theorem dX7_lays_179 : decode cX7_lays 179 = .ok (.iload_n 2, 1) := by decide +kernel
theorem dX7_lays_180 : decode cX7_lays 180 = .ok (.aload_n 0, 1) := by decide +kernel
theorem dX7_lays_181 : decode cX7_lays 181 = .ok (.getfield 81, 3) := by decide +kernel
theorem dX7_lays_184 : decode cX7_lays 184 = .ok (.iload 4, 2) := by decide +kernel
theorem dX7_lays_186 : decode cX7_lays 186 = .ok (.iaload, 1) := by decide +kernel
theorem dX7_lays_187 : decode cX7_lays 187 = .ok (.aload_n 0, 1) := by decide +kernel
theorem dX7_lays_188 : decode cX7_lays 188 = .ok (.getfield 23, 3) := by decide +kernel
theorem dX7_lays_191 : decode cX7_lays 191 = .ok (.invokevirtual 172, 3) := by decide +kernel
theorem dX7_lays_194 : decode cX7_lays 194 = .ok (.bipush (-9), 2) := by decide +kernel
theorem dX7_lays_196 : decode cX7_lays 196 = .ok (.if_icmp .eq 24, 3) := by decide +kernel
theorem dX7_lays_199 : decode cX7_lays 199 = .ok (.iload 5, 2) := by decide +kernel
theorem dX7_lays_201 : decode cX7_lays 201 = .ok (.iconst 2, 1) := by decide +kernel
theorem dX7_lays_202 : decode cX7_lays 202 = .ok (.if_icmp .ne 22, 3) := by decide +kernel
theorem dX7_lays_205 : decode cX7_lays 205 = .ok (.aload_n 0, 1) := by decide +kernel
theorem dX7_lays_206 : decode cX7_lays 206 = .ok (.iload_n 2, 1) := by decide +kernel
theorem dX7_lays_207 : decode cX7_lays 207 = .ok (.aload_n 0, 1) := by decide +kernel
theorem dX7_lays_208 : decode cX7_lays 208 = .ok (.getfield 81, 3) := by decide +kernel
theorem dX7_lays_211 : decode cX7_lays 211 = .ok (.iload 4, 2) := by decide +kernel
theorem dX7_lays_213 : decode cX7_lays 213 = .ok (.iaload, 1) := by decide +kernel
theorem dX7_lays_214 : decode cX7_lays 214 = .ok (.invokevirtual 119, 3) := by decide +kernel
theorem dX7_lays_217 : decode cX7_lays 217 = .ok (.ifCond .ne 7, 3) := by decide +kernel
theorem dX7_lays_220 : decode cX7_lays 220 = .ok (.iconst 1, 1) := by decide +kernel
theorem dX7_lays_221 : decode cX7_lays 221 = .ok (.goto 4, 3) := by decide +kernel
theorem dX7_lays_224 : decode cX7_lays 224 = .ok (.iconst 0, 1) := by decide +kernel
theorem dX7_lays_225 : decode cX7_lays 225 = .ok (.istore 6, 2) := by decide +kernel
theorem dX7_lays_227 : decode cX7_lays 227 = .ok (.iload 6, 2) := by decide +kernel
theorem dX7_lays_229 : decode cX7_lays 229 = .ok (.ifCond .eq 9, 3) := by decide +kernel
theorem dX7_lays_232 : decode cX7_lays 232 = .ok (.iload 5, 2) := by decide +kernel
theorem dX7_lays_234 : decode cX7_lays 234 = .ok (.iconst 2, 1) := by decide +kernel
theorem dX7_lays_235 : decode cX7_lays 235 = .ok (.if_icmp .ne 7, 3) := by decide +kernel
theorem dX7_lays_238 : decode cX7_lays 238 = .ok (.iconst 0, 1) := by decide +kernel
theorem dX7_lays_239 : decode cX7_lays 239 = .ok (.goto 15, 3) := by decide +kernel
theorem dX7_lays_242 : decode cX7_lays 242 = .ok (.aload_n 0, 1) := by decide +kernel
theorem dX7_lays_243 : decode cX7_lays 243 = .ok (.iload_n 2, 1) := by decide +kernel
theorem dX7_lays_244 : decode cX7_lays 244 = .ok (.aload_n 0, 1) := by decide +kernel
theorem dX7_lays_245 : decode cX7_lays 245 = .ok (.getfield 81, 3) := by decide +kernel
theorem dX7_lays_248 : decode cX7_lays 248 = .ok (.iload 4, 2) := by decide +kernel
theorem dX7_lays_250 : decode cX7_lays 250 = .ok (.iaload, 1) := by decide +kernel
theorem dX7_lays_251 : decode cX7_lays 251 = .ok (.invokevirtual 111, 3) := by decide +kernel
theorem dX7_lays_254 : decode cX7_lays 254 = .ok (.istore 7, 2) := by decide +kernel
theorem dX7_lays_256 : decode cX7_lays 256 = .ok (.iload 6, 2) := by decide +kernel
theorem dX7_lays_258 : decode cX7_lays 258 = .ok (.ifCond .eq 18, 3) := by decide +kernel
theorem dX7_lays_261 : decode cX7_lays 261 = .ok (.aload_n 0, 1) := by decide +kernel
theorem dX7_lays_262 : decode cX7_lays 262 = .ok (.iload_n 2, 1) := by decide +kernel
theorem dX7_lays_263 : decode cX7_lays 263 = .ok (.aload_n 0, 1) := by decide +kernel
theorem dX7_lays_264 : decode cX7_lays 264 = .ok (.getfield 81, 3) := by decide +kernel
theorem dX7_lays_267 : decode cX7_lays 267 = .ok (.iload 4, 2) := by decide +kernel
theorem dX7_lays_269 : decode cX7_lays 269 = .ok (.iaload, 1) := by decide +kernel
theorem dX7_lays_270 : decode cX7_lays 270 = .ok (.invokevirtual 159, 3) := by decide +kernel
theorem dX7_lays_273 : decode cX7_lays 273 = .ok (.goto 5, 3) := by decide +kernel
theorem dX7_lays_276 : decode cX7_lays 276 = .ok (.bipush (-9), 2) := by decide +kernel
theorem dX7_lays_278 : decode cX7_lays 278 = .ok (.istore 8, 2) := by decide +kernel
theorem dX7_lays_280 : decode cX7_lays 280 = .ok (.iload_n 3, 1) := by decide +kernel
theorem dX7_lays_281 : decode cX7_lays 281 = .ok (.ifCond .ne 27, 3) := by decide +kernel
theorem dX7_lays_284 : decode cX7_lays 284 = .ok (.aload_n 0, 1) := by decide +kernel
theorem dX7_lays_285 : decode cX7_lays 285 = .ok (.getfield 93, 3) := by decide +kernel
theorem dX7_lays_288 : decode cX7_lays 288 = .ok (.iload 4, 2) := by decide +kernel
theorem dX7_lays_290 : decode cX7_lays 290 = .ok (.iaload, 1) := by decide +kernel
theorem dX7_lays_291 : decode cX7_lays 291 = .ok (.iload 8, 2) := by decide +kernel
theorem dX7_lays_293 : decode cX7_lays 293 = .ok (.if_icmp .ne 19, 3) := by decide +kernel
theorem dX7_lays_296 : decode cX7_lays 296 = .ok (.aload_n 0, 1) := by decide +kernel
theorem dX7_lays_297 : decode cX7_lays 297 = .ok (.getfield 96, 3) := by decide +kernel
theorem dX7_lays_300 : decode cX7_lays 300 = .ok (.iload 4, 2) := by decide +kernel
theorem dX7_lays_302 : decode cX7_lays 302 = .ok (.iaload, 1) := by decide +kernel
theorem dX7_lays_303 : decode cX7_lays 303 = .ok (.iload 7, 2) := by decide +kernel
theorem dX7_lays_305 : decode cX7_lays 305 = .ok (.if_icmp .ne 7, 3) := by decide +kernel
theorem dX7_lays_308 : decode cX7_lays 308 = .ok (.iconst 1, 1) := by decide +kernel
theorem dX7_lays_309 : decode cX7_lays 309 = .ok (.goto 4, 3) := by decide +kernel
theorem dX7_lays_312 : decode cX7_lays 312 = .ok (.iconst 0, 1) := by decide +kernel
theorem dX7_lays_313 : decode cX7_lays 313 = .ok (.istore 9, 2) := by decide +kernel
theorem dX7_lays_315 : decode cX7_lays 315 = .ok (.aload_n 0, 1) := by decide +kernel
theorem dX7_lays_316 : decode cX7_lays 316 = .ok (.getfield 93, 3) := by decide +kernel
theorem dX7_lays_319 : decode cX7_lays 319 = .ok (.iload 4, 2) := by decide +kernel
theorem dX7_lays_321 : decode cX7_lays 321 = .ok (.iload 9, 2) := by decide +kernel
theorem dX7_lays_323 : decode cX7_lays 323 = .ok (.ifCond .eq 8, 3) := by decide +kernel
theorem dX7_lays_326 : decode cX7_lays 326 = .ok (.iload 8, 2) := by decide +kernel
theorem dX7_lays_328 : decode cX7_lays 328 = .ok (.goto 5, 3) := by decide +kernel
theorem dX7_lays_331 : decode cX7_lays 331 = .ok (.bipush (-9), 2) := by decide +kernel
theorem dX7_lays_333 : decode cX7_lays 333 = .ok (.iastore, 1) := by decide +kernel
theorem dX7_lays_334 : decode cX7_lays 334 = .ok (.aload_n 0, 1) := by decide +kernel
theorem dX7_lays_335 : decode cX7_lays 335 = .ok (.getfield 96, 3) := by decide +kernel
theorem dX7_lays_338 : decode cX7_lays 338 = .ok (.iload 4, 2) := by decide +kernel
theorem dX7_lays_340 : decode cX7_lays 340 = .ok (.iload 7, 2) := by decide +kernel
theorem dX7_lays_342 : decode cX7_lays 342 = .ok (.iastore, 1) := by decide +kernel
theorem dX7_lays_343 : decode cX7_lays 343 = .ok (.iload 5, 2) := by decide +kernel
theorem dX7_lays_345 : decode cX7_lays 345 = .ok (.iconst 3, 1) := by decide +kernel
theorem dX7_lays_346 : decode cX7_lays 346 = .ok (.if_icmp .ne 7, 3) := by decide +kernel
theorem dX7_lays_349 : decode cX7_lays 349 = .ok (.iconst 1, 1) := by decide +kernel
theorem dX7_lays_350 : decode cX7_lays 350 = .ok (.goto 4, 3) := by decide +kernel
theorem dX7_lays_353 : decode cX7_lays 353 = .ok (.iconst 0, 1) := by decide +kernel
theorem dX7_lays_354 : decode cX7_lays 354 = .ok (.istore 10, 2) := by decide +kernel
theorem dX7_lays_356 : decode cX7_lays 356 = .ok (.aload_n 0, 1) := by decide +kernel
theorem dX7_lays_357 : decode cX7_lays 357 = .ok (.getfield 99, 3) := by decide +kernel
theorem dX7_lays_360 : decode cX7_lays 360 = .ok (.iload 4, 2) := by decide +kernel
theorem dX7_lays_362 : decode cX7_lays 362 = .ok (.iload 10, 2) := by decide +kernel
theorem dX7_lays_364 : decode cX7_lays 364 = .ok (.ifCond .eq 31, 3) := by decide +kernel
theorem dX7_lays_367 : decode cX7_lays 367 = .ok (.aload_n 0, 1) := by decide +kernel
theorem dX7_lays_368 : decode cX7_lays 368 = .ok (.getfield 84, 3) := by decide +kernel
theorem dX7_lays_371 : decode cX7_lays 371 = .ok (.iload 4, 2) := by decide +kernel
theorem dX7_lays_373 : decode cX7_lays 373 = .ok (.iaload, 1) := by decide +kernel
theorem dX7_lays_374 : decode cX7_lays 374 = .ok (.ifCond .ne 21, 3) := by decide +kernel
theorem dX7_lays_377 : decode cX7_lays 377 = .ok (.iload_n 3, 1) := by decide +kernel
theorem dX7_lays_378 : decode cX7_lays 378 = .ok (.ifCond .ne 13, 3) := by decide +kernel
theorem dX7_lays_381 : decode cX7_lays 381 = .ok (.aload_n 0, 1) := by decide +kernel
theorem dX7_lays_382 : decode cX7_lays 382 = .ok (.getfield 99, 3) := by decide +kernel
theorem dX7_lays_385 : decode cX7_lays 385 = .ok (.iload 4, 2) := by decide +kernel
theorem dX7_lays_387 : decode cX7_lays 387 = .ok (.baload, 1) := by decide +kernel
theorem dX7_lays_388 : decode cX7_lays 388 = .ok (.ifCond .eq 7, 3) := by decide +kernel
theorem dX7_lays_391 : decode cX7_lays 391 = .ok (.iconst 1, 1) := by decide +kernel
theorem dX7_lays_392 : decode cX7_lays 392 = .ok (.goto 4, 3) := by decide +kernel
theorem dX7_lays_395 : decode cX7_lays 395 = .ok (.iconst 0, 1) := by decide +kernel
theorem dX7_lays_396 : decode cX7_lays 396 = .ok (.bastore, 1) := by decide +kernel
theorem dX7_lays_397 : decode cX7_lays 397 = .ok (.aload_n 0, 1) := by decide +kernel
theorem dX7_lays_398 : decode cX7_lays 398 = .ok (.getfield 102, 3) := by decide +kernel
theorem dX7_lays_401 : decode cX7_lays 401 = .ok (.iload 4, 2) := by decide +kernel
theorem dX7_lays_403 : decode cX7_lays 403 = .ok (.iload 10, 2) := by decide +kernel
theorem dX7_lays_405 : decode cX7_lays 405 = .ok (.ifCond .eq 47, 3) := by decide +kernel
theorem dX7_lays_408 : decode cX7_lays 408 = .ok (.aload_n 0, 1) := by decide +kernel
theorem dX7_lays_409 : decode cX7_lays 409 = .ok (.getfield 84, 3) := by decide +kernel
theorem dX7_lays_412 : decode cX7_lays 412 = .ok (.iload 4, 2) := by decide +kernel
theorem dX7_lays_414 : decode cX7_lays 414 = .ok (.iaload, 1) := by decide +kernel
theorem dX7_lays_415 : decode cX7_lays 415 = .ok (.ifCond .le 37, 3) := by decide +kernel
theorem dX7_lays_418 : decode cX7_lays 418 = .ok (.aload_n 0, 1) := by decide +kernel
theorem dX7_lays_419 : decode cX7_lays 419 = .ok (.iload_n 2, 1) := by decide +kernel
theorem dX7_lays_420 : decode cX7_lays 420 = .ok (.aload_n 0, 1) := by decide +kernel
theorem dX7_lays_421 : decode cX7_lays 421 = .ok (.getfield 81, 3) := by decide +kernel
theorem dX7_lays_424 : decode cX7_lays 424 = .ok (.iload 4, 2) := by decide +kernel
theorem dX7_lays_426 : decode cX7_lays 426 = .ok (.iaload, 1) := by decide +kernel
theorem dX7_lays_427 : decode cX7_lays 427 = .ok (.invokevirtual 119, 3) := by decide +kernel
theorem dX7_lays_430 : decode cX7_lays 430 = .ok (.iconst 3, 1) := by decide +kernel
theorem dX7_lays_431 : decode cX7_lays 431 = .ok (.if_icmp .eq 21, 3) := by decide +kernel
theorem dX7_lays_434 : decode cX7_lays 434 = .ok (.iload_n 3, 1) := by decide +kernel
theorem dX7_lays_435 : decode cX7_lays 435 = .ok (.ifCond .ne 13, 3) := by decide +kernel
theorem dX7_lays_438 : decode cX7_lays 438 = .ok (.aload_n 0, 1) := by decide +kernel
theorem dX7_lays_439 : decode cX7_lays 439 = .ok (.getfield 102, 3) := by decide +kernel
theorem dX7_lays_442 : decode cX7_lays 442 = .ok (.iload 4, 2) := by decide +kernel
theorem dX7_lays_444 : decode cX7_lays 444 = .ok (.baload, 1) := by decide +kernel
theorem dX7_lays_445 : decode cX7_lays 445 = .ok (.ifCond .eq 7, 3) := by decide +kernel
theorem dX7_lays_448 : decode cX7_lays 448 = .ok (.iconst 1, 1) := by decide +kernel
theorem dX7_lays_449 : decode cX7_lays 449 = .ok (.goto 4, 3) := by decide +kernel
theorem dX7_lays_452 : decode cX7_lays 452 = .ok (.iconst 0, 1) := by decide +kernel
theorem dX7_lays_453 : decode cX7_lays 453 = .ok (.bastore, 1) := by decide +kernel
theorem dX7_lays_454 : decode cX7_lays 454 = .ok (.aload_n 0, 1) := by decide +kernel
theorem dX7_lays_455 : decode cX7_lays 455 = .ok (.getfield 105, 3) := by decide +kernel
theorem dX7_lays_458 : decode cX7_lays 458 = .ok (.iload 4, 2) := by decide +kernel
theorem dX7_lays_460 : decode cX7_lays 460 = .ok (.iload 10, 2) := by decide +kernel
theorem dX7_lays_462 : decode cX7_lays 462 = .ok (.ifCond .eq 42, 3) := by decide +kernel
theorem dX7_lays_465 : decode cX7_lays 465 = .ok (.aload_n 0, 1) := by decide +kernel
theorem dX7_lays_466 : decode cX7_lays 466 = .ok (.getfield 84, 3) := by decide +kernel
theorem dX7_lays_469 : decode cX7_lays 469 = .ok (.iload 4, 2) := by decide +kernel
theorem dX7_lays_471 : decode cX7_lays 471 = .ok (.iaload, 1) := by decide +kernel
theorem dX7_lays_472 : decode cX7_lays 472 = .ok (.ifCond .le 32, 3) := by decide +kernel
theorem dX7_lays_475 : decode cX7_lays 475 = .ok (.aload_n 0, 1) := by decide +kernel
theorem dX7_lays_476 : decode cX7_lays 476 = .ok (.iload_n 2, 1) := by decide +kernel
theorem dX7_lays_477 : decode cX7_lays 477 = .ok (.iload 4, 2) := by decide +kernel
theorem dX7_lays_479 : decode cX7_lays 479 = .ok (.invokevirtual 283, 3) := by decide +kernel
theorem dX7_lays_482 : decode cX7_lays 482 = .ok (.iconst 3, 1) := by decide +kernel
theorem dX7_lays_483 : decode cX7_lays 483 = .ok (.if_icmp .eq 21, 3) := by decide +kernel
theorem dX7_lays_486 : decode cX7_lays 486 = .ok (.iload_n 3, 1) := by decide +kernel
theorem dX7_lays_487 : decode cX7_lays 487 = .ok (.ifCond .ne 13, 3) := by decide +kernel
theorem dX7_lays_490 : decode cX7_lays 490 = .ok (.aload_n 0, 1) := by decide +kernel
theorem dX7_lays_491 : decode cX7_lays 491 = .ok (.getfield 105, 3) := by decide +kernel
theorem dX7_lays_494 : decode cX7_lays 494 = .ok (.iload 4, 2) := by decide +kernel
theorem dX7_lays_496 : decode cX7_lays 496 = .ok (.baload, 1) := by decide +kernel
theorem dX7_lays_497 : decode cX7_lays 497 = .ok (.ifCond .eq 7, 3) := by decide +kernel
theorem dX7_lays_500 : decode cX7_lays 500 = .ok (.iconst 1, 1) := by decide +kernel
theorem dX7_lays_501 : decode cX7_lays 501 = .ok (.goto 4, 3) := by decide +kernel
theorem dX7_lays_504 : decode cX7_lays 504 = .ok (.iconst 0, 1) := by decide +kernel
theorem dX7_lays_505 : decode cX7_lays 505 = .ok (.bastore, 1) := by decide +kernel
theorem dX7_lays_506 : decode cX7_lays 506 = .ok (.iinc 4 1, 3) := by decide +kernel
theorem dX7_lays_509 : decode cX7_lays 509 = .ok (.goto (-499), 3) := by decide +kernel
theorem dX7_lays_512 : decode cX7_lays 512 = .ok (.return_, 1) := by decide +kernel
theorem dX7_isLeast_0 : decode cX7_isLeast 0 = .ok (.aload_n 0, 1) := by decide +kernel
theorem dX7_isLeast_1 : decode cX7_isLeast 1 = .ok (.iload_n 1, 1) := by decide +kernel
theorem dX7_isLeast_2 : decode cX7_isLeast 2 = .ok (.iload_n 2, 1) := by decide +kernel
theorem dX7_isLeast_3 : decode cX7_isLeast 3 = .ok (.iload_n 3, 1) := by decide +kernel
theorem dX7_isLeast_4 : decode cX7_isLeast 4 = .ok (.invokestatic 182, 3) := by decide +kernel
theorem dX7_isLeast_7 : decode cX7_isLeast 7 = .ok (.invokevirtual 254, 3) := by decide +kernel
theorem dX7_isLeast_10 : decode cX7_isLeast 10 = .ok (.istore 4, 2) := by decide +kernel
theorem dX7_isLeast_12 : decode cX7_isLeast 12 = .ok (.iload 4, 2) := by decide +kernel
theorem dX7_isLeast_14 : decode cX7_isLeast 14 = .ok (.ifCond .ne 16, 3) := by decide +kernel
theorem dX7_isLeast_17 : decode cX7_isLeast 17 = .ok (.aload_n 0, 1) := by decide +kernel
theorem dX7_isLeast_18 : decode cX7_isLeast 18 = .ok (.iload_n 3, 1) := by decide +kernel
theorem dX7_isLeast_19 : decode cX7_isLeast 19 = .ok (.invokevirtual 204, 3) := by decide +kernel
theorem dX7_isLeast_22 : decode cX7_isLeast 22 = .ok (.ifCond .eq 8, 3) := by decide +kernel
theorem dX7_isLeast_25 : decode cX7_isLeast 25 = .ok (.bipush (-2), 2) := by decide +kernel
theorem dX7_isLeast_27 : decode cX7_isLeast 27 = .ok (.goto 5, 3) := by decide +kernel
theorem dX7_isLeast_30 : decode cX7_isLeast 30 = .ok (.iload 4, 2) := by decide +kernel
theorem dX7_isLeast_32 : decode cX7_isLeast 32 = .ok (.istore 4, 2) := by decide +kernel
theorem dX7_isLeast_34 : decode cX7_isLeast 34 = .ok (.iload 4, 2) := by decide +kernel
theorem dX7_isLeast_36 : decode cX7_isLeast 36 = .ok (.ifCond .eq 6, 3) := by decide +kernel
theorem dX7_isLeast_39 : decode cX7_isLeast 39 = .ok (.iload 4, 2) := by decide +kernel
theorem dX7_isLeast_41 : decode cX7_isLeast 41 = .ok (.ireturn, 1) := by decide +kernel
theorem dX7_isLeast_42 : decode cX7_isLeast 42 = .ok (.aload_n 0, 1) := by decide +kernel
theorem dX7_isLeast_43 : decode cX7_isLeast 43 = .ok (.bipush 97, 2) := by decide +kernel
theorem dX7_isLeast_45 : decode cX7_isLeast 45 = .ok (.iload_n 1, 1) := by decide +kernel
theorem dX7_isLeast_46 : decode cX7_isLeast 46 = .ok (.imul, 1) := by decide +kernel
theorem dX7_isLeast_47 : decode cX7_isLeast 47 = .ok (.bipush 97, 2) := by decide +kernel
theorem dX7_isLeast_49 : decode cX7_isLeast 49 = .ok (.iload_n 2, 1) := by decide +kernel
theorem dX7_isLeast_50 : decode cX7_isLeast 50 = .ok (.imul, 1) := by decide +kernel
theorem dX7_isLeast_51 : decode cX7_isLeast 51 = .ok (.invokevirtual 274, 3) := by decide +kernel
theorem dX7_isLeast_54 : decode cX7_isLeast 54 = .ok (.ifCond .eq 18, 3) := by decide +kernel
theorem dX7_isLeast_57 : decode cX7_isLeast 57 = .ok (.aload_n 0, 1) := by decide +kernel
theorem dX7_isLeast_58 : decode cX7_isLeast 58 = .ok (.bipush 97, 2) := by decide +kernel
theorem dX7_isLeast_60 : decode cX7_isLeast 60 = .ok (.iload_n 1, 1) := by decide +kernel
theorem dX7_isLeast_61 : decode cX7_isLeast 61 = .ok (.imul, 1) := by decide +kernel
theorem dX7_isLeast_62 : decode cX7_isLeast 62 = .ok (.bipush 97, 2) := by decide +kernel
theorem dX7_isLeast_64 : decode cX7_isLeast 64 = .ok (.iload_n 3, 1) := by decide +kernel
theorem dX7_isLeast_65 : decode cX7_isLeast 65 = .ok (.imul, 1) := by decide +kernel
theorem dX7_isLeast_66 : decode cX7_isLeast 66 = .ok (.invokevirtual 274, 3) := by decide +kernel
theorem dX7_isLeast_69 : decode cX7_isLeast 69 = .ok (.ifCond .ne 5, 3) := by decide +kernel
theorem dX7_isLeast_72 : decode cX7_isLeast 72 = .ok (.iconst 0, 1) := by decide +kernel
theorem dX7_isLeast_73 : decode cX7_isLeast 73 = .ok (.ireturn, 1) := by decide +kernel
theorem dX7_isLeast_74 : decode cX7_isLeast 74 = .ok (.iconst 0, 1) := by decide +kernel
theorem dX7_isLeast_75 : decode cX7_isLeast 75 = .ok (.istore 5, 2) := by decide +kernel
theorem dX7_isLeast_77 : decode cX7_isLeast 77 = .ok (.iload 5, 2) := by decide +kernel
theorem dX7_isLeast_79 : decode cX7_isLeast 79 = .ok (.aload_n 0, 1) := by decide +kernel
theorem dX7_isLeast_80 : decode cX7_isLeast 80 = .ok (.getfield 7, 3) := by decide +kernel
theorem dX7_isLeast_83 : decode cX7_isLeast 83 = .ok (.bipush 97, 2) := by decide +kernel
theorem dX7_isLeast_85 : decode cX7_isLeast 85 = .ok (.iload_n 1, 1) := by decide +kernel
theorem dX7_isLeast_86 : decode cX7_isLeast 86 = .ok (.imul, 1) := by decide +kernel
theorem dX7_isLeast_87 : decode cX7_isLeast 87 = .ok (.iaload, 1) := by decide +kernel
theorem dX7_isLeast_88 : decode cX7_isLeast 88 = .ok (.if_icmp .ge 47, 3) := by decide +kernel
theorem dX7_isLeast_91 : decode cX7_isLeast 91 = .ok (.aload_n 0, 1) := by decide +kernel
theorem dX7_isLeast_92 : decode cX7_isLeast 92 = .ok (.bipush 97, 2) := by decide +kernel
theorem dX7_isLeast_94 : decode cX7_isLeast 94 = .ok (.iload_n 1, 1) := by decide +kernel
theorem dX7_isLeast_95 : decode cX7_isLeast 95 = .ok (.imul, 1) := by decide +kernel
theorem dX7_isLeast_96 : decode cX7_isLeast 96 = .ok (.iload 5, 2) := by decide +kernel
theorem dX7_isLeast_98 : decode cX7_isLeast 98 = .ok (.invokevirtual 119, 3) := by decide +kernel
theorem dX7_isLeast_101 : decode cX7_isLeast 101 = .ok (.ifCond .eq 28, 3) := by decide +kernel
theorem dX7_isLeast_104 : decode cX7_isLeast 104 = .ok (.aload_n 0, 1) := by decide +kernel
theorem dX7_isLeast_105 : decode cX7_isLeast 105 = .ok (.getfield 45, 3) := by decide +kernel
theorem dX7_isLeast_108 : decode cX7_isLeast 108 = .ok (.aload_n 0, 1) := by decide +kernel
theorem dX7_isLeast_109 : decode cX7_isLeast 109 = .ok (.bipush 97, 2) := by decide +kernel
theorem dX7_isLeast_111 : decode cX7_isLeast 111 = .ok (.iload_n 1, 1) := by decide +kernel
theorem dX7_isLeast_112 : decode cX7_isLeast 112 = .ok (.imul, 1) := by decide +kernel
theorem dX7_isLeast_113 : decode cX7_isLeast 113 = .ok (.iload 5, 2) := by decide +kernel
theorem dX7_isLeast_115 : decode cX7_isLeast 115 = .ok (.invokevirtual 159, 3) := by decide +kernel
theorem dX7_isLeast_118 : decode cX7_isLeast 118 = .ok (.aload_n 0, 1) := by decide +kernel
theorem dX7_isLeast_119 : decode cX7_isLeast 119 = .ok (.bipush 97, 2) := by decide +kernel
theorem dX7_isLeast_121 : decode cX7_isLeast 121 = .ok (.iload_n 1, 1) := by decide +kernel
theorem dX7_isLeast_122 : decode cX7_isLeast 122 = .ok (.imul, 1) := by decide +kernel
theorem dX7_isLeast_123 : decode cX7_isLeast 123 = .ok (.iload 5, 2) := by decide +kernel
theorem dX7_isLeast_125 : decode cX7_isLeast 125 = .ok (.invokevirtual 119, 3) := by decide +kernel
theorem dX7_isLeast_128 : decode cX7_isLeast 128 = .ok (.iastore, 1) := by decide +kernel
theorem dX7_isLeast_129 : decode cX7_isLeast 129 = .ok (.iinc 5 1, 3) := by decide +kernel
theorem dX7_isLeast_132 : decode cX7_isLeast 132 = .ok (.goto (-55), 3) := by decide +kernel
theorem dX7_isLeast_135 : decode cX7_isLeast 135 = .ok (.aload_n 0, 1) := by decide +kernel
theorem dX7_isLeast_136 : decode cX7_isLeast 136 = .ok (.bipush 97, 2) := by decide +kernel
theorem dX7_isLeast_138 : decode cX7_isLeast 138 = .ok (.iload_n 1, 1) := by decide +kernel
theorem dX7_isLeast_139 : decode cX7_isLeast 139 = .ok (.imul, 1) := by decide +kernel
theorem dX7_isLeast_140 : decode cX7_isLeast 140 = .ok (.bipush 97, 2) := by decide +kernel
theorem dX7_isLeast_142 : decode cX7_isLeast 142 = .ok (.iload_n 2, 1) := by decide +kernel
theorem dX7_isLeast_143 : decode cX7_isLeast 143 = .ok (.imul, 1) := by decide +kernel
theorem dX7_isLeast_144 : decode cX7_isLeast 144 = .ok (.iconst 1, 1) := by decide +kernel
theorem dX7_isLeast_145 : decode cX7_isLeast 145 = .ok (.invokevirtual 286, 3) := by decide +kernel
theorem dX7_isLeast_148 : decode cX7_isLeast 148 = .ok (.aload_n 0, 1) := by decide +kernel
theorem dX7_isLeast_149 : decode cX7_isLeast 149 = .ok (.bipush 97, 2) := by decide +kernel
theorem dX7_isLeast_151 : decode cX7_isLeast 151 = .ok (.iload_n 1, 1) := by decide +kernel
theorem dX7_isLeast_152 : decode cX7_isLeast 152 = .ok (.imul, 1) := by decide +kernel
theorem dX7_isLeast_153 : decode cX7_isLeast 153 = .ok (.bipush 97, 2) := by decide +kernel
theorem dX7_isLeast_155 : decode cX7_isLeast 155 = .ok (.iload_n 3, 1) := by decide +kernel
theorem dX7_isLeast_156 : decode cX7_isLeast 156 = .ok (.imul, 1) := by decide +kernel
theorem dX7_isLeast_157 : decode cX7_isLeast 157 = .ok (.iconst 0, 1) := by decide +kernel
theorem dX7_isLeast_158 : decode cX7_isLeast 158 = .ok (.invokevirtual 286, 3) := by decide +kernel
theorem dX7_isLeast_161 : decode cX7_isLeast 161 = .ok (.iconst 1, 1) := by decide +kernel
theorem dX7_isLeast_162 : decode cX7_isLeast 162 = .ok (.istore 5, 2) := by decide +kernel
theorem dX7_isLeast_164 : decode cX7_isLeast 164 = .ok (.iconst 0, 1) := by decide +kernel
theorem dX7_isLeast_165 : decode cX7_isLeast 165 = .ok (.istore 6, 2) := by decide +kernel
theorem dX7_isLeast_167 : decode cX7_isLeast 167 = .ok (.iload 6, 2) := by decide +kernel
theorem dX7_isLeast_169 : decode cX7_isLeast 169 = .ok (.bipush 10, 2) := by decide +kernel
theorem dX7_isLeast_171 : decode cX7_isLeast 171 = .ok (.if_icmp .ge 107, 3) := by decide +kernel
theorem dX7_isLeast_174 : decode cX7_isLeast 174 = .ok (.iload 5, 2) := by decide +kernel
theorem dX7_isLeast_176 : decode cX7_isLeast 176 = .ok (.ifCond .eq 49, 3) := by decide +kernel
theorem dX7_isLeast_179 : decode cX7_isLeast 179 = .ok (.aload_n 0, 1) := by decide +kernel
theorem dX7_isLeast_180 : decode cX7_isLeast 180 = .ok (.getfield 93, 3) := by decide +kernel
theorem dX7_isLeast_183 : decode cX7_isLeast 183 = .ok (.iload 6, 2) := by decide +kernel
theorem dX7_isLeast_185 : decode cX7_isLeast 185 = .ok (.iaload, 1) := by decide +kernel
theorem dX7_isLeast_186 : decode cX7_isLeast 186 = .ok (.bipush (-9), 2) := by decide +kernel
theorem dX7_isLeast_188 : decode cX7_isLeast 188 = .ok (.if_icmp .ne 37, 3) := by decide +kernel
theorem dX7_isLeast_191 : decode cX7_isLeast 191 = .ok (.aload_n 0, 1) := by decide +kernel
theorem dX7_isLeast_192 : decode cX7_isLeast 192 = .ok (.getfield 99, 3) := by decide +kernel
theorem dX7_isLeast_195 : decode cX7_isLeast 195 = .ok (.iload 6, 2) := by decide +kernel
theorem dX7_isLeast_197 : decode cX7_isLeast 197 = .ok (.baload, 1) := by decide +kernel
theorem dX7_isLeast_198 : decode cX7_isLeast 198 = .ok (.ifCond .ne 27, 3) := by decide +kernel
theorem dX7_isLeast_201 : decode cX7_isLeast 201 = .ok (.aload_n 0, 1) := by decide +kernel
theorem dX7_isLeast_202 : decode cX7_isLeast 202 = .ok (.getfield 102, 3) := by decide +kernel
theorem dX7_isLeast_205 : decode cX7_isLeast 205 = .ok (.iload 6, 2) := by decide +kernel
theorem dX7_isLeast_207 : decode cX7_isLeast 207 = .ok (.baload, 1) := by decide +kernel
theorem dX7_isLeast_208 : decode cX7_isLeast 208 = .ok (.ifCond .ne 17, 3) := by decide +kernel
theorem dX7_isLeast_211 : decode cX7_isLeast 211 = .ok (.aload_n 0, 1) := by decide +kernel
theorem dX7_isLeast_212 : decode cX7_isLeast 212 = .ok (.getfield 105, 3) := by decide +kernel
theorem dX7_isLeast_215 : decode cX7_isLeast 215 = .ok (.iload 6, 2) := by decide +kernel
theorem dX7_isLeast_217 : decode cX7_isLeast 217 = .ok (.baload, 1) := by decide +kernel
theorem dX7_isLeast_218 : decode cX7_isLeast 218 = .ok (.ifCond .ne 7, 3) := by decide +kernel
theorem dX7_isLeast_221 : decode cX7_isLeast 221 = .ok (.iconst 1, 1) := by decide +kernel
theorem dX7_isLeast_222 : decode cX7_isLeast 222 = .ok (.goto 4, 3) := by decide +kernel
theorem dX7_isLeast_225 : decode cX7_isLeast 225 = .ok (.iconst 0, 1) := by decide +kernel
theorem dX7_isLeast_226 : decode cX7_isLeast 226 = .ok (.istore 5, 2) := by decide +kernel
theorem dX7_isLeast_228 : decode cX7_isLeast 228 = .ok (.iconst 0, 1) := by decide +kernel
theorem dX7_isLeast_229 : decode cX7_isLeast 229 = .ok (.istore 7, 2) := by decide +kernel
theorem dX7_isLeast_231 : decode cX7_isLeast 231 = .ok (.iload 7, 2) := by decide +kernel
theorem dX7_isLeast_233 : decode cX7_isLeast 233 = .ok (.bipush 10, 2) := by decide +kernel
theorem dX7_isLeast_235 : decode cX7_isLeast 235 = .ok (.if_icmp .ge 37, 3) := by decide +kernel
theorem dX7_isLeast_238 : decode cX7_isLeast 238 = .ok (.iload 5, 2) := by decide +kernel
theorem dX7_isLeast_240 : decode cX7_isLeast 240 = .ok (.ifCond .eq 23, 3) := by decide +kernel
theorem dX7_isLeast_243 : decode cX7_isLeast 243 = .ok (.aload_n 0, 1) := by decide +kernel
theorem dX7_isLeast_244 : decode cX7_isLeast 244 = .ok (.getfield 90, 3) := by decide +kernel
theorem dX7_isLeast_247 : decode cX7_isLeast 247 = .ok (.bipush 10, 2) := by decide +kernel
theorem dX7_isLeast_249 : decode cX7_isLeast 249 = .ok (.iload 6, 2) := by decide +kernel
theorem dX7_isLeast_251 : decode cX7_isLeast 251 = .ok (.imul, 1) := by decide +kernel
theorem dX7_isLeast_252 : decode cX7_isLeast 252 = .ok (.iload 7, 2) := by decide +kernel
theorem dX7_isLeast_254 : decode cX7_isLeast 254 = .ok (.iadd, 1) := by decide +kernel
theorem dX7_isLeast_255 : decode cX7_isLeast 255 = .ok (.baload, 1) := by decide +kernel
theorem dX7_isLeast_256 : decode cX7_isLeast 256 = .ok (.ifCond .ne 7, 3) := by decide +kernel
theorem dX7_isLeast_259 : decode cX7_isLeast 259 = .ok (.iconst 1, 1) := by decide +kernel
theorem dX7_isLeast_260 : decode cX7_isLeast 260 = .ok (.goto 4, 3) := by decide +kernel
theorem dX7_isLeast_263 : decode cX7_isLeast 263 = .ok (.iconst 0, 1) := by decide +kernel
theorem dX7_isLeast_264 : decode cX7_isLeast 264 = .ok (.istore 5, 2) := by decide +kernel
theorem dX7_isLeast_266 : decode cX7_isLeast 266 = .ok (.iinc 7 1, 3) := by decide +kernel
theorem dX7_isLeast_269 : decode cX7_isLeast 269 = .ok (.goto (-38), 3) := by decide +kernel
theorem dX7_isLeast_272 : decode cX7_isLeast 272 = .ok (.iinc 6 1, 3) := by decide +kernel
theorem dX7_isLeast_275 : decode cX7_isLeast 275 = .ok (.goto (-108), 3) := by decide +kernel
theorem dX7_isLeast_278 : decode cX7_isLeast 278 = .ok (.iload 5, 2) := by decide +kernel
theorem dX7_isLeast_280 : decode cX7_isLeast 280 = .ok (.ifCond .eq 7, 3) := by decide +kernel
theorem dX7_isLeast_283 : decode cX7_isLeast 283 = .ok (.iconst 1, 1) := by decide +kernel
theorem dX7_isLeast_284 : decode cX7_isLeast 284 = .ok (.goto 4, 3) := by decide +kernel
theorem dX7_isLeast_287 : decode cX7_isLeast 287 = .ok (.iconst 0, 1) := by decide +kernel
theorem dX7_isLeast_288 : decode cX7_isLeast 288 = .ok (.ireturn, 1) := by decide +kernel
theorem dX7_learn_0 : decode cX7_learn 0 = .ok (.iload_n 1, 1) := by decide +kernel
theorem dX7_learn_1 : decode cX7_learn 1 = .ok (.invokestatic 182, 3) := by decide +kernel
theorem dX7_learn_4 : decode cX7_learn 4 = .ok (.ifCond .eq 48, 3) := by decide +kernel
theorem dX7_learn_7 : decode cX7_learn 7 = .ok (.iload_n 2, 1) := by decide +kernel
theorem dX7_learn_8 : decode cX7_learn 8 = .ok (.invokestatic 182, 3) := by decide +kernel
theorem dX7_learn_11 : decode cX7_learn 11 = .ok (.ifCond .eq 41, 3) := by decide +kernel
theorem dX7_learn_14 : decode cX7_learn 14 = .ok (.iload_n 3, 1) := by decide +kernel
theorem dX7_learn_15 : decode cX7_learn 15 = .ok (.invokestatic 182, 3) := by decide +kernel
theorem dX7_learn_18 : decode cX7_learn 18 = .ok (.ifCond .eq 34, 3) := by decide +kernel
theorem dX7_learn_21 : decode cX7_learn 21 = .ok (.iload 4, 2) := by decide +kernel
theorem dX7_learn_23 : decode cX7_learn 23 = .ok (.invokestatic 182, 3) := by decide +kernel
theorem dX7_learn_26 : decode cX7_learn 26 = .ok (.ifCond .eq 26, 3) := by decide +kernel
theorem dX7_learn_29 : decode cX7_learn 29 = .ok (.iload 5, 2) := by decide +kernel
theorem dX7_learn_31 : decode cX7_learn 31 = .ok (.invokestatic 182, 3) := by decide +kernel
theorem dX7_learn_34 : decode cX7_learn 34 = .ok (.ifCond .eq 18, 3) := by decide +kernel
theorem dX7_learn_37 : decode cX7_learn 37 = .ok (.iload 6, 2) := by decide +kernel
theorem dX7_learn_39 : decode cX7_learn 39 = .ok (.invokestatic 182, 3) := by decide +kernel
theorem dX7_learn_42 : decode cX7_learn 42 = .ok (.ifCond .eq 10, 3) := by decide +kernel
theorem dX7_learn_45 : decode cX7_learn 45 = .ok (.iload 5, 2) := by decide +kernel
theorem dX7_learn_47 : decode cX7_learn 47 = .ok (.iload 6, 2) := by decide +kernel
theorem dX7_learn_49 : decode cX7_learn 49 = .ok (.if_icmp .ne 5, 3) := by decide +kernel
theorem dX7_learn_52 : decode cX7_learn 52 = .ok (.iconst (-1), 1) := by decide +kernel
theorem dX7_learn_53 : decode cX7_learn 53 = .ok (.ireturn, 1) := by decide +kernel
theorem dX7_learn_54 : decode cX7_learn 54 = .ok (.aload_n 0, 1) := by decide +kernel
theorem dX7_learn_55 : decode cX7_learn 55 = .ok (.iload_n 1, 1) := by decide +kernel
theorem dX7_learn_56 : decode cX7_learn 56 = .ok (.invokevirtual 204, 3) := by decide +kernel
theorem dX7_learn_59 : decode cX7_learn 59 = .ok (.ifCond .ne 28, 3) := by decide +kernel
theorem dX7_learn_62 : decode cX7_learn 62 = .ok (.aload_n 0, 1) := by decide +kernel
theorem dX7_learn_63 : decode cX7_learn 63 = .ok (.iload_n 2, 1) := by decide +kernel
theorem dX7_learn_64 : decode cX7_learn 64 = .ok (.invokevirtual 204, 3) := by decide +kernel
theorem dX7_learn_67 : decode cX7_learn 67 = .ok (.ifCond .ne 20, 3) := by decide +kernel
theorem dX7_learn_70 : decode cX7_learn 70 = .ok (.aload_n 0, 1) := by decide +kernel
theorem dX7_learn_71 : decode cX7_learn 71 = .ok (.iload_n 3, 1) := by decide +kernel
theorem dX7_learn_72 : decode cX7_learn 72 = .ok (.invokevirtual 204, 3) := by decide +kernel
theorem dX7_learn_75 : decode cX7_learn 75 = .ok (.ifCond .ne 12, 3) := by decide +kernel
theorem dX7_learn_78 : decode cX7_learn 78 = .ok (.aload_n 0, 1) := by decide +kernel
theorem dX7_learn_79 : decode cX7_learn 79 = .ok (.iload 4, 2) := by decide +kernel
theorem dX7_learn_81 : decode cX7_learn 81 = .ok (.invokevirtual 204, 3) := by decide +kernel
theorem dX7_learn_84 : decode cX7_learn 84 = .ok (.ifCond .eq 6, 3) := by decide +kernel
theorem dX7_learn_87 : decode cX7_learn 87 = .ok (.bipush (-2), 2) := by decide +kernel
theorem dX7_learn_89 : decode cX7_learn 89 = .ok (.ireturn, 1) := by decide +kernel
theorem dX7_learn_90 : decode cX7_learn 90 = .ok (.aload_n 0, 1) := by decide +kernel
theorem dX7_learn_91 : decode cX7_learn 91 = .ok (.iconst 0, 1) := by decide +kernel
theorem dX7_learn_92 : decode cX7_learn 92 = .ok (.putfield 221, 3) := by decide +kernel
theorem dX7_learn_95 : decode cX7_learn 95 = .ok (.aload_n 0, 1) := by decide +kernel
theorem dX7_learn_96 : decode cX7_learn 96 = .ok (.bipush 97, 2) := by decide +kernel
theorem dX7_learn_98 : decode cX7_learn 98 = .ok (.iload_n 1, 1) := by decide +kernel
theorem dX7_learn_99 : decode cX7_learn 99 = .ok (.imul, 1) := by decide +kernel
theorem dX7_learn_100 : decode cX7_learn 100 = .ok (.bipush 97, 2) := by decide +kernel
theorem dX7_learn_102 : decode cX7_learn 102 = .ok (.iload_n 3, 1) := by decide +kernel
theorem dX7_learn_103 : decode cX7_learn 103 = .ok (.imul, 1) := by decide +kernel
theorem dX7_learn_104 : decode cX7_learn 104 = .ok (.sipush 5460, 3) := by decide +kernel
theorem dX7_learn_107 : decode cX7_learn 107 = .ok (.invokevirtual 258, 3) := by decide +kernel
theorem dX7_learn_110 : decode cX7_learn 110 = .ok (.ifCond .eq 22, 3) := by decide +kernel
theorem dX7_learn_113 : decode cX7_learn 113 = .ok (.aload_n 0, 1) := by decide +kernel
theorem dX7_learn_114 : decode cX7_learn 114 = .ok (.bipush 97, 2) := by decide +kernel
theorem dX7_learn_116 : decode cX7_learn 116 = .ok (.iload_n 2, 1) := by decide +kernel
theorem dX7_learn_117 : decode cX7_learn 117 = .ok (.imul, 1) := by decide +kernel
theorem dX7_learn_118 : decode cX7_learn 118 = .ok (.bipush 97, 2) := by decide +kernel
theorem dX7_learn_120 : decode cX7_learn 120 = .ok (.iload 4, 2) := by decide +kernel
theorem dX7_learn_122 : decode cX7_learn 122 = .ok (.imul, 1) := by decide +kernel
theorem dX7_learn_123 : decode cX7_learn 123 = .ok (.sipush 5557, 3) := by decide +kernel
theorem dX7_learn_126 : decode cX7_learn 126 = .ok (.invokevirtual 258, 3) := by decide +kernel
theorem dX7_learn_129 : decode cX7_learn 129 = .ok (.ifCond .ne 6, 3) := by decide +kernel
theorem dX7_learn_132 : decode cX7_learn 132 = .ok (.bipush (-3), 2) := by decide +kernel
theorem dX7_learn_134 : decode cX7_learn 134 = .ok (.ireturn, 1) := by decide +kernel
theorem dX7_learn_135 : decode cX7_learn 135 = .ok (.aload_n 0, 1) := by decide +kernel
theorem dX7_learn_136 : decode cX7_learn 136 = .ok (.invokevirtual 198, 3) := by decide +kernel
theorem dX7_learn_139 : decode cX7_learn 139 = .ok (.aload_n 0, 1) := by decide +kernel
theorem dX7_learn_140 : decode cX7_learn 140 = .ok (.sipush 5460, 3) := by decide +kernel
theorem dX7_learn_143 : decode cX7_learn 143 = .ok (.iload 5, 2) := by decide +kernel
theorem dX7_learn_145 : decode cX7_learn 145 = .ok (.invokevirtual 201, 3) := by decide +kernel
theorem dX7_learn_148 : decode cX7_learn 148 = .ok (.pop, 1) := by decide +kernel
theorem dX7_learn_149 : decode cX7_learn 149 = .ok (.aload_n 0, 1) := by decide +kernel
theorem dX7_learn_150 : decode cX7_learn 150 = .ok (.sipush 5557, 3) := by decide +kernel
theorem dX7_learn_153 : decode cX7_learn 153 = .ok (.iload 6, 2) := by decide +kernel
theorem dX7_learn_155 : decode cX7_learn 155 = .ok (.invokevirtual 201, 3) := by decide +kernel
theorem dX7_learn_158 : decode cX7_learn 158 = .ok (.pop, 1) := by decide +kernel
theorem dX7_learn_159 : decode cX7_learn 159 = .ok (.aload_n 0, 1) := by decide +kernel
theorem dX7_learn_160 : decode cX7_learn 160 = .ok (.sipush 5557, 3) := by decide +kernel
theorem dX7_learn_163 : decode cX7_learn 163 = .ok (.invokevirtual 211, 3) := by decide +kernel
theorem dX7_learn_166 : decode cX7_learn 166 = .ok (.aload_n 0, 1) := by decide +kernel
theorem dX7_learn_167 : decode cX7_learn 167 = .ok (.sipush 5460, 3) := by decide +kernel
theorem dX7_learn_170 : decode cX7_learn 170 = .ok (.invokevirtual 211, 3) := by decide +kernel
theorem dX7_learn_173 : decode cX7_learn 173 = .ok (.iconst (-1), 1) := by decide +kernel
theorem dX7_learn_174 : decode cX7_learn 174 = .ok (.ixor, 1) := by decide +kernel
theorem dX7_learn_175 : decode cX7_learn 175 = .ok (.iand, 1) := by decide +kernel
theorem dX7_learn_176 : decode cX7_learn 176 = .ok (.ifCond .ne 7, 3) := by decide +kernel
theorem dX7_learn_179 : decode cX7_learn 179 = .ok (.iconst 1, 1) := by decide +kernel
theorem dX7_learn_180 : decode cX7_learn 180 = .ok (.goto 4, 3) := by decide +kernel
theorem dX7_learn_183 : decode cX7_learn 183 = .ok (.iconst 0, 1) := by decide +kernel
theorem dX7_learn_184 : decode cX7_learn 184 = .ok (.ireturn, 1) := by decide +kernel
theorem dX7_sortOf_0 : decode cX7_sortOf 0 = .ok (.iconst 0, 1) := by decide +kernel
theorem dX7_sortOf_1 : decode cX7_sortOf 1 = .ok (.istore_n 3, 1) := by decide +kernel
theorem dX7_sortOf_2 : decode cX7_sortOf 2 = .ok (.iload_n 3, 1) := by decide +kernel
theorem dX7_sortOf_3 : decode cX7_sortOf 3 = .ok (.aload_n 0, 1) := by decide +kernel
theorem dX7_sortOf_4 : decode cX7_sortOf 4 = .ok (.getfield 7, 3) := by decide +kernel
theorem dX7_sortOf_7 : decode cX7_sortOf 7 = .ok (.iload_n 1, 1) := by decide +kernel
theorem dX7_sortOf_8 : decode cX7_sortOf 8 = .ok (.iaload, 1) := by decide +kernel
theorem dX7_sortOf_9 : decode cX7_sortOf 9 = .ok (.if_icmp .ge 35, 3) := by decide +kernel
theorem dX7_sortOf_12 : decode cX7_sortOf 12 = .ok (.aload_n 0, 1) := by decide +kernel
theorem dX7_sortOf_13 : decode cX7_sortOf 13 = .ok (.iload_n 1, 1) := by decide +kernel
theorem dX7_sortOf_14 : decode cX7_sortOf 14 = .ok (.iload_n 3, 1) := by decide +kernel
theorem dX7_sortOf_15 : decode cX7_sortOf 15 = .ok (.invokevirtual 119, 3) := by decide +kernel
theorem dX7_sortOf_18 : decode cX7_sortOf 18 = .ok (.ifCond .eq 20, 3) := by decide +kernel
theorem dX7_sortOf_21 : decode cX7_sortOf 21 = .ok (.aload_n 0, 1) := by decide +kernel
theorem dX7_sortOf_22 : decode cX7_sortOf 22 = .ok (.iload_n 1, 1) := by decide +kernel
theorem dX7_sortOf_23 : decode cX7_sortOf 23 = .ok (.iload_n 3, 1) := by decide +kernel
theorem dX7_sortOf_24 : decode cX7_sortOf 24 = .ok (.invokevirtual 159, 3) := by decide +kernel
theorem dX7_sortOf_27 : decode cX7_sortOf 27 = .ok (.iload_n 2, 1) := by decide +kernel
theorem dX7_sortOf_28 : decode cX7_sortOf 28 = .ok (.if_icmp .ne 10, 3) := by decide +kernel
theorem dX7_sortOf_31 : decode cX7_sortOf 31 = .ok (.aload_n 0, 1) := by decide +kernel
theorem dX7_sortOf_32 : decode cX7_sortOf 32 = .ok (.iload_n 1, 1) := by decide +kernel
theorem dX7_sortOf_33 : decode cX7_sortOf 33 = .ok (.iload_n 3, 1) := by decide +kernel
theorem dX7_sortOf_34 : decode cX7_sortOf 34 = .ok (.invokevirtual 119, 3) := by decide +kernel
theorem dX7_sortOf_37 : decode cX7_sortOf 37 = .ok (.ireturn, 1) := by decide +kernel
theorem dX7_sortOf_38 : decode cX7_sortOf 38 = .ok (.iinc 3 1, 3) := by decide +kernel
theorem dX7_sortOf_41 : decode cX7_sortOf 41 = .ok (.goto (-39), 3) := by decide +kernel
theorem dX7_sortOf_44 : decode cX7_sortOf 44 = .ok (.bipush (-9), 2) := by decide +kernel
theorem dX7_sortOf_46 : decode cX7_sortOf 46 = .ok (.ireturn, 1) := by decide +kernel
theorem dX7_widthOf_0 : decode cX7_widthOf 0 = .ok (.iconst 0, 1) := by decide +kernel
theorem dX7_widthOf_1 : decode cX7_widthOf 1 = .ok (.istore_n 3, 1) := by decide +kernel
theorem dX7_widthOf_2 : decode cX7_widthOf 2 = .ok (.iload_n 2, 1) := by decide +kernel
theorem dX7_widthOf_3 : decode cX7_widthOf 3 = .ok (.iconst 1, 1) := by decide +kernel
theorem dX7_widthOf_4 : decode cX7_widthOf 4 = .ok (.iadd, 1) := by decide +kernel
theorem dX7_widthOf_5 : decode cX7_widthOf 5 = .ok (.istore 4, 2) := by decide +kernel
theorem dX7_widthOf_7 : decode cX7_widthOf 7 = .ok (.iconst 0, 1) := by decide +kernel
theorem dX7_widthOf_8 : decode cX7_widthOf 8 = .ok (.istore 5, 2) := by decide +kernel
theorem dX7_widthOf_10 : decode cX7_widthOf 10 = .ok (.iload 5, 2) := by decide +kernel
theorem dX7_widthOf_12 : decode cX7_widthOf 12 = .ok (.aload_n 0, 1) := by decide +kernel
theorem dX7_widthOf_13 : decode cX7_widthOf 13 = .ok (.iload_n 1, 1) := by decide +kernel
theorem dX7_widthOf_14 : decode cX7_widthOf 14 = .ok (.iload_n 2, 1) := by decide +kernel
theorem dX7_widthOf_15 : decode cX7_widthOf 15 = .ok (.invokevirtual 111, 3) := by decide +kernel
theorem dX7_widthOf_18 : decode cX7_widthOf 18 = .ok (.if_icmp .ge 51, 3) := by decide +kernel
theorem dX7_widthOf_21 : decode cX7_widthOf 21 = .ok (.iload_n 3, 1) := by decide +kernel
theorem dX7_widthOf_22 : decode cX7_widthOf 22 = .ok (.aload_n 0, 1) := by decide +kernel
theorem dX7_widthOf_23 : decode cX7_widthOf 23 = .ok (.iload_n 1, 1) := by decide +kernel
theorem dX7_widthOf_24 : decode cX7_widthOf 24 = .ok (.iload 4, 2) := by decide +kernel
theorem dX7_widthOf_26 : decode cX7_widthOf 26 = .ok (.invokevirtual 119, 3) := by decide +kernel
theorem dX7_widthOf_29 : decode cX7_widthOf 29 = .ok (.iconst 3, 1) := by decide +kernel
theorem dX7_widthOf_30 : decode cX7_widthOf 30 = .ok (.if_icmp .ne 18, 3) := by decide +kernel
theorem dX7_widthOf_33 : decode cX7_widthOf 33 = .ok (.aload_n 0, 1) := by decide +kernel
theorem dX7_widthOf_34 : decode cX7_widthOf 34 = .ok (.getfield 87, 3) := by decide +kernel
theorem dX7_widthOf_37 : decode cX7_widthOf 37 = .ok (.aload_n 0, 1) := by decide +kernel
theorem dX7_widthOf_38 : decode cX7_widthOf 38 = .ok (.iload_n 1, 1) := by decide +kernel
theorem dX7_widthOf_39 : decode cX7_widthOf 39 = .ok (.iload 4, 2) := by decide +kernel
theorem dX7_widthOf_41 : decode cX7_widthOf 41 = .ok (.invokevirtual 159, 3) := by decide +kernel
theorem dX7_widthOf_44 : decode cX7_widthOf 44 = .ok (.iaload, 1) := by decide +kernel
theorem dX7_widthOf_45 : decode cX7_widthOf 45 = .ok (.goto 4, 3) := by decide +kernel
theorem dX7_widthOf_48 : decode cX7_widthOf 48 = .ok (.iconst 1, 1) := by decide +kernel
theorem dX7_widthOf_49 : decode cX7_widthOf 49 = .ok (.iadd, 1) := by decide +kernel
theorem dX7_widthOf_50 : decode cX7_widthOf 50 = .ok (.istore_n 3, 1) := by decide +kernel
theorem dX7_widthOf_51 : decode cX7_widthOf 51 = .ok (.iload 4, 2) := by decide +kernel
theorem dX7_widthOf_53 : decode cX7_widthOf 53 = .ok (.aload_n 0, 1) := by decide +kernel
theorem dX7_widthOf_54 : decode cX7_widthOf 54 = .ok (.getfield 20, 3) := by decide +kernel
theorem dX7_widthOf_57 : decode cX7_widthOf 57 = .ok (.iload 4, 2) := by decide +kernel
theorem dX7_widthOf_59 : decode cX7_widthOf 59 = .ok (.iaload, 1) := by decide +kernel
theorem dX7_widthOf_60 : decode cX7_widthOf 60 = .ok (.iadd, 1) := by decide +kernel
theorem dX7_widthOf_61 : decode cX7_widthOf 61 = .ok (.istore 4, 2) := by decide +kernel
theorem dX7_widthOf_63 : decode cX7_widthOf 63 = .ok (.iinc 5 1, 3) := by decide +kernel
theorem dX7_widthOf_66 : decode cX7_widthOf 66 = .ok (.goto (-56), 3) := by decide +kernel
theorem dX7_widthOf_69 : decode cX7_widthOf 69 = .ok (.iload_n 3, 1) := by decide +kernel
theorem dX7_widthOf_70 : decode cX7_widthOf 70 = .ok (.ireturn, 1) := by decide +kernel
theorem dX7_isApplicable_0 : decode cX7_isApplicable 0 = .ok (.iconst 1, 1) := by decide +kernel
theorem dX7_isApplicable_1 : decode cX7_isApplicable 1 = .ok (.istore 4, 2) := by decide +kernel
theorem dX7_isApplicable_3 : decode cX7_isApplicable 3 = .ok (.iconst 0, 1) := by decide +kernel
theorem dX7_isApplicable_4 : decode cX7_isApplicable 4 = .ok (.istore 5, 2) := by decide +kernel
theorem dX7_isApplicable_6 : decode cX7_isApplicable 6 = .ok (.iload 5, 2) := by decide +kernel
theorem dX7_isApplicable_8 : decode cX7_isApplicable 8 = .ok (.bipush 10, 2) := by decide +kernel
theorem dX7_isApplicable_10 : decode cX7_isApplicable 10 = .ok (.if_icmp .ge 49, 3) := by decide +kernel
theorem dX7_isApplicable_13 : decode cX7_isApplicable 13 = .ok (.aload_n 0, 1) := by decide +kernel
theorem dX7_isApplicable_14 : decode cX7_isApplicable 14 = .ok (.iload_n 2, 1) := by decide +kernel
theorem dX7_isApplicable_15 : decode cX7_isApplicable 15 = .ok (.iload 5, 2) := by decide +kernel
theorem dX7_isApplicable_17 : decode cX7_isApplicable 17 = .ok (.invokevirtual 290, 3) := by decide +kernel
theorem dX7_isApplicable_20 : decode cX7_isApplicable 20 = .ok (.istore 6, 2) := by decide +kernel
theorem dX7_isApplicable_22 : decode cX7_isApplicable 22 = .ok (.iload 4, 2) := by decide +kernel
theorem dX7_isApplicable_24 : decode cX7_isApplicable 24 = .ok (.ifCond .eq 26, 3) := by decide +kernel
theorem dX7_isApplicable_27 : decode cX7_isApplicable 27 = .ok (.iload 6, 2) := by decide +kernel
theorem dX7_isApplicable_29 : decode cX7_isApplicable 29 = .ok (.bipush (-9), 2) := by decide +kernel
theorem dX7_isApplicable_31 : decode cX7_isApplicable 31 = .ok (.if_icmp .eq 15, 3) := by decide +kernel
theorem dX7_isApplicable_34 : decode cX7_isApplicable 34 = .ok (.iload 6, 2) := by decide +kernel
theorem dX7_isApplicable_36 : decode cX7_isApplicable 36 = .ok (.aload_n 0, 1) := by decide +kernel
theorem dX7_isApplicable_37 : decode cX7_isApplicable 37 = .ok (.iload_n 1, 1) := by decide +kernel
theorem dX7_isApplicable_38 : decode cX7_isApplicable 38 = .ok (.iload 5, 2) := by decide +kernel
theorem dX7_isApplicable_40 : decode cX7_isApplicable 40 = .ok (.invokevirtual 290, 3) := by decide +kernel
theorem dX7_isApplicable_43 : decode cX7_isApplicable 43 = .ok (.if_icmp .ne 7, 3) := by decide +kernel
theorem dX7_isApplicable_46 : decode cX7_isApplicable 46 = .ok (.iconst 1, 1) := by decide +kernel
theorem dX7_isApplicable_47 : decode cX7_isApplicable 47 = .ok (.goto 4, 3) := by decide +kernel
theorem dX7_isApplicable_50 : decode cX7_isApplicable 50 = .ok (.iconst 0, 1) := by decide +kernel
theorem dX7_isApplicable_51 : decode cX7_isApplicable 51 = .ok (.istore 4, 2) := by decide +kernel
theorem dX7_isApplicable_53 : decode cX7_isApplicable 53 = .ok (.iinc 5 1, 3) := by decide +kernel
theorem dX7_isApplicable_56 : decode cX7_isApplicable 56 = .ok (.goto (-50), 3) := by decide +kernel
theorem dX7_isApplicable_59 : decode cX7_isApplicable 59 = .ok (.aload_n 0, 1) := by decide +kernel
theorem dX7_isApplicable_60 : decode cX7_isApplicable 60 = .ok (.iload_n 2, 1) := by decide +kernel
theorem dX7_isApplicable_61 : decode cX7_isApplicable 61 = .ok (.aload_n 0, 1) := by decide +kernel
theorem dX7_isApplicable_62 : decode cX7_isApplicable 62 = .ok (.getfield 20, 3) := by decide +kernel
theorem dX7_isApplicable_65 : decode cX7_isApplicable 65 = .ok (.invokevirtual 115, 3) := by decide +kernel
theorem dX7_isApplicable_68 : decode cX7_isApplicable 68 = .ok (.iconst 0, 1) := by decide +kernel
theorem dX7_isApplicable_69 : decode cX7_isApplicable 69 = .ok (.istore 5, 2) := by decide +kernel
theorem dX7_isApplicable_71 : decode cX7_isApplicable 71 = .ok (.iload 5, 2) := by decide +kernel
theorem dX7_isApplicable_73 : decode cX7_isApplicable 73 = .ok (.aload_n 0, 1) := by decide +kernel
theorem dX7_isApplicable_74 : decode cX7_isApplicable 74 = .ok (.getfield 7, 3) := by decide +kernel
theorem dX7_isApplicable_77 : decode cX7_isApplicable 77 = .ok (.iload_n 2, 1) := by decide +kernel
theorem dX7_isApplicable_78 : decode cX7_isApplicable 78 = .ok (.iaload, 1) := by decide +kernel
theorem dX7_isApplicable_79 : decode cX7_isApplicable 79 = .ok (.if_icmp .ge 75, 3) := by decide +kernel
theorem dX7_isApplicable_82 : decode cX7_isApplicable 82 = .ok (.iload 4, 2) := by decide +kernel
theorem dX7_isApplicable_84 : decode cX7_isApplicable 84 = .ok (.ifCond .eq 70, 3) := by decide +kernel
theorem dX7_isApplicable_87 : decode cX7_isApplicable 87 = .ok (.aload_n 0, 1) := by decide +kernel
theorem dX7_isApplicable_88 : decode cX7_isApplicable 88 = .ok (.iload_n 2, 1) := by decide +kernel
theorem dX7_isApplicable_89 : decode cX7_isApplicable 89 = .ok (.iload 5, 2) := by decide +kernel
theorem dX7_isApplicable_91 : decode cX7_isApplicable 91 = .ok (.invokevirtual 119, 3) := by decide +kernel
theorem dX7_isApplicable_94 : decode cX7_isApplicable 94 = .ok (.iconst 2, 1) := by decide +kernel
theorem dX7_isApplicable_95 : decode cX7_isApplicable 95 = .ok (.if_icmp .ne 28, 3) := by decide +kernel
theorem dX7_isApplicable_98 : decode cX7_isApplicable 98 = .ok (.aload_n 0, 1) := by decide +kernel
theorem dX7_isApplicable_99 : decode cX7_isApplicable 99 = .ok (.iload_n 3, 1) := by decide +kernel
theorem dX7_isApplicable_100 : decode cX7_isApplicable 100 = .ok (.aload_n 0, 1) := by decide +kernel
theorem dX7_isApplicable_101 : decode cX7_isApplicable 101 = .ok (.getfield 81, 3) := by decide +kernel
theorem dX7_isApplicable_104 : decode cX7_isApplicable 104 = .ok (.aload_n 0, 1) := by decide +kernel
theorem dX7_isApplicable_105 : decode cX7_isApplicable 105 = .ok (.iload_n 2, 1) := by decide +kernel
theorem dX7_isApplicable_106 : decode cX7_isApplicable 106 = .ok (.iload 5, 2) := by decide +kernel
theorem dX7_isApplicable_108 : decode cX7_isApplicable 108 = .ok (.invokevirtual 159, 3) := by decide +kernel
theorem dX7_isApplicable_111 : decode cX7_isApplicable 111 = .ok (.iaload, 1) := by decide +kernel
theorem dX7_isApplicable_112 : decode cX7_isApplicable 112 = .ok (.invokevirtual 119, 3) := by decide +kernel
theorem dX7_isApplicable_115 : decode cX7_isApplicable 115 = .ok (.iconst 2, 1) := by decide +kernel
theorem dX7_isApplicable_116 : decode cX7_isApplicable 116 = .ok (.if_icmp .ne 7, 3) := by decide +kernel
theorem dX7_isApplicable_119 : decode cX7_isApplicable 119 = .ok (.iconst 1, 1) := by decide +kernel
theorem dX7_isApplicable_120 : decode cX7_isApplicable 120 = .ok (.goto 4, 3) := by decide +kernel
theorem dX7_isApplicable_123 : decode cX7_isApplicable 123 = .ok (.iconst 0, 1) := by decide +kernel
theorem dX7_isApplicable_124 : decode cX7_isApplicable 124 = .ok (.istore 6, 2) := by decide +kernel
theorem dX7_isApplicable_126 : decode cX7_isApplicable 126 = .ok (.iload 6, 2) := by decide +kernel
theorem dX7_isApplicable_128 : decode cX7_isApplicable 128 = .ok (.ifCond .eq 13, 3) := by decide +kernel
theorem dX7_isApplicable_131 : decode cX7_isApplicable 131 = .ok (.aload_n 0, 1) := by decide +kernel
theorem dX7_isApplicable_132 : decode cX7_isApplicable 132 = .ok (.iload_n 2, 1) := by decide +kernel
theorem dX7_isApplicable_133 : decode cX7_isApplicable 133 = .ok (.iload 5, 2) := by decide +kernel
theorem dX7_isApplicable_135 : decode cX7_isApplicable 135 = .ok (.invokevirtual 293, 3) := by decide +kernel
theorem dX7_isApplicable_138 : decode cX7_isApplicable 138 = .ok (.ifCond .le 7, 3) := by decide +kernel
theorem dX7_isApplicable_141 : decode cX7_isApplicable 141 = .ok (.iconst 1, 1) := by decide +kernel
theorem dX7_isApplicable_142 : decode cX7_isApplicable 142 = .ok (.goto 4, 3) := by decide +kernel
theorem dX7_isApplicable_145 : decode cX7_isApplicable 145 = .ok (.iconst 0, 1) := by decide +kernel
theorem dX7_isApplicable_146 : decode cX7_isApplicable 146 = .ok (.istore 4, 2) := by decide +kernel
theorem dX7_isApplicable_148 : decode cX7_isApplicable 148 = .ok (.iinc 5 1, 3) := by decide +kernel
theorem dX7_isApplicable_151 : decode cX7_isApplicable 151 = .ok (.goto (-80), 3) := by decide +kernel
theorem dX7_isApplicable_154 : decode cX7_isApplicable 154 = .ok (.iload 4, 2) := by decide +kernel
theorem dX7_isApplicable_156 : decode cX7_isApplicable 156 = .ok (.ireturn, 1) := by decide +kernel
theorem dX7_builds_0 : decode cX7_builds 0 = .ok (.aload_n 0, 1) := by decide +kernel
theorem dX7_builds_1 : decode cX7_builds 1 = .ok (.iload_n 1, 1) := by decide +kernel
theorem dX7_builds_2 : decode cX7_builds 2 = .ok (.aload_n 0, 1) := by decide +kernel
theorem dX7_builds_3 : decode cX7_builds 3 = .ok (.getfield 20, 3) := by decide +kernel
theorem dX7_builds_6 : decode cX7_builds 6 = .ok (.invokevirtual 115, 3) := by decide +kernel
theorem dX7_builds_9 : decode cX7_builds 9 = .ok (.iconst 0, 1) := by decide +kernel
theorem dX7_builds_10 : decode cX7_builds 10 = .ok (.istore 4, 2) := by decide +kernel
theorem dX7_builds_12 : decode cX7_builds 12 = .ok (.iconst 0, 1) := by decide +kernel
theorem dX7_builds_13 : decode cX7_builds 13 = .ok (.istore 5, 2) := by decide +kernel
theorem dX7_builds_15 : decode cX7_builds 15 = .ok (.iload 5, 2) := by decide +kernel
theorem dX7_builds_17 : decode cX7_builds 17 = .ok (.aload_n 0, 1) := by decide +kernel
theorem dX7_builds_18 : decode cX7_builds 18 = .ok (.getfield 7, 3) := by decide +kernel
theorem dX7_builds_21 : decode cX7_builds 21 = .ok (.iload_n 1, 1) := by decide +kernel
theorem dX7_builds_22 : decode cX7_builds 22 = .ok (.iaload, 1) := by decide +kernel
theorem dX7_builds_23 : decode cX7_builds 23 = .ok (.if_icmp .ge 229, 3) := by decide +kernel
theorem dX7_builds_26 : decode cX7_builds 26 = .ok (.aload_n 0, 1) := by decide +kernel
theorem dX7_builds_27 : decode cX7_builds 27 = .ok (.iload_n 1, 1) := by decide +kernel
theorem dX7_builds_28 : decode cX7_builds 28 = .ok (.iload 5, 2) := by decide +kernel
theorem dX7_builds_30 : decode cX7_builds 30 = .ok (.invokevirtual 119, 3) := by decide +kernel
theorem dX7_builds_33 : decode cX7_builds 33 = .ok (.istore 6, 2) := by decide +kernel
theorem dX7_builds_35 : decode cX7_builds 35 = .ok (.aload_n 0, 1) := by decide +kernel
theorem dX7_builds_36 : decode cX7_builds 36 = .ok (.iload_n 1, 1) := by decide +kernel
theorem dX7_builds_37 : decode cX7_builds 37 = .ok (.iload 5, 2) := by decide +kernel
theorem dX7_builds_39 : decode cX7_builds 39 = .ok (.invokevirtual 159, 3) := by decide +kernel
theorem dX7_builds_42 : decode cX7_builds 42 = .ok (.istore 7, 2) := by decide +kernel
theorem dX7_builds_44 : decode cX7_builds 44 = .ok (.iload 6, 2) := by decide +kernel
theorem dX7_builds_46 : decode cX7_builds 46 = .ok (.iconst 1, 1) := by decide +kernel
theorem dX7_builds_47 : decode cX7_builds 47 = .ok (.if_icmp .eq 9, 3) := by decide +kernel
theorem dX7_builds_50 : decode cX7_builds 50 = .ok (.iload 6, 2) := by decide +kernel
theorem dX7_builds_52 : decode cX7_builds 52 = .ok (.iconst 3, 1) := by decide +kernel
theorem dX7_builds_53 : decode cX7_builds 53 = .ok (.if_icmp .ne 7, 3) := by decide +kernel
theorem dX7_builds_56 : decode cX7_builds 56 = .ok (.iconst 1, 1) := by decide +kernel
theorem dX7_builds_57 : decode cX7_builds 57 = .ok (.goto 4, 3) := by decide +kernel
theorem dX7_builds_60 : decode cX7_builds 60 = .ok (.iconst 0, 1) := by decide +kernel
theorem dX7_builds_61 : decode cX7_builds 61 = .ok (.istore 8, 2) := by decide +kernel
theorem dX7_builds_63 : decode cX7_builds 63 = .ok (.iload 8, 2) := by decide +kernel
theorem dX7_builds_65 : decode cX7_builds 65 = .ok (.ifCond .eq 13, 3) := by decide +kernel
theorem dX7_builds_68 : decode cX7_builds 68 = .ok (.aload_n 0, 1) := by decide +kernel
theorem dX7_builds_69 : decode cX7_builds 69 = .ok (.getfield 84, 3) := by decide +kernel
theorem dX7_builds_72 : decode cX7_builds 72 = .ok (.iload 7, 2) := by decide +kernel
theorem dX7_builds_74 : decode cX7_builds 74 = .ok (.iaload, 1) := by decide +kernel
theorem dX7_builds_75 : decode cX7_builds 75 = .ok (.goto 4, 3) := by decide +kernel
theorem dX7_builds_78 : decode cX7_builds 78 = .ok (.iconst 1, 1) := by decide +kernel
theorem dX7_builds_79 : decode cX7_builds 79 = .ok (.istore 9, 2) := by decide +kernel
theorem dX7_builds_81 : decode cX7_builds 81 = .ok (.iload 4, 2) := by decide +kernel
theorem dX7_builds_83 : decode cX7_builds 83 = .ok (.iload 9, 2) := by decide +kernel
theorem dX7_builds_85 : decode cX7_builds 85 = .ok (.iadd, 1) := by decide +kernel
theorem dX7_builds_86 : decode cX7_builds 86 = .ok (.bipush 32, 2) := by decide +kernel
theorem dX7_builds_88 : decode cX7_builds 88 = .ok (.if_icmp .gt 20, 3) := by decide +kernel
theorem dX7_builds_91 : decode cX7_builds 91 = .ok (.iload 8, 2) := by decide +kernel
theorem dX7_builds_93 : decode cX7_builds 93 = .ok (.ifCond .ne 17, 3) := by decide +kernel
theorem dX7_builds_96 : decode cX7_builds 96 = .ok (.aload_n 0, 1) := by decide +kernel
theorem dX7_builds_97 : decode cX7_builds 97 = .ok (.iload_n 1, 1) := by decide +kernel
theorem dX7_builds_98 : decode cX7_builds 98 = .ok (.iload 5, 2) := by decide +kernel
theorem dX7_builds_100 : decode cX7_builds 100 = .ok (.invokevirtual 293, 3) := by decide +kernel
theorem dX7_builds_103 : decode cX7_builds 103 = .ok (.bipush 8, 2) := by decide +kernel
theorem dX7_builds_105 : decode cX7_builds 105 = .ok (.if_icmp .le 5, 3) := by decide +kernel
theorem dX7_builds_108 : decode cX7_builds 108 = .ok (.iconst 0, 1) := by decide +kernel
theorem dX7_builds_109 : decode cX7_builds 109 = .ok (.ireturn, 1) := by decide +kernel
theorem dX7_builds_110 : decode cX7_builds 110 = .ok (.iconst 0, 1) := by decide +kernel
theorem dX7_builds_111 : decode cX7_builds 111 = .ok (.istore 10, 2) := by decide +kernel
theorem dX7_builds_113 : decode cX7_builds 113 = .ok (.iload 10, 2) := by decide +kernel
theorem dX7_builds_115 : decode cX7_builds 115 = .ok (.iload 9, 2) := by decide +kernel
theorem dX7_builds_117 : decode cX7_builds 117 = .ok (.if_icmp .ge 129, 3) := by decide +kernel
theorem dX7_builds_120 : decode cX7_builds 120 = .ok (.iload 8, 2) := by decide +kernel
theorem dX7_builds_122 : decode cX7_builds 122 = .ok (.ifCond .eq 58, 3) := by decide +kernel
theorem dX7_builds_125 : decode cX7_builds 125 = .ok (.aload_n 0, 1) := by decide +kernel
theorem dX7_builds_126 : decode cX7_builds 126 = .ok (.iload_n 3, 1) := by decide +kernel
theorem dX7_builds_127 : decode cX7_builds 127 = .ok (.iload 4, 2) := by decide +kernel
theorem dX7_builds_129 : decode cX7_builds 129 = .ok (.aload_n 0, 1) := by decide +kernel
theorem dX7_builds_130 : decode cX7_builds 130 = .ok (.iload_n 2, 1) := by decide +kernel
theorem dX7_builds_131 : decode cX7_builds 131 = .ok (.aload_n 0, 1) := by decide +kernel
theorem dX7_builds_132 : decode cX7_builds 132 = .ok (.getfield 81, 3) := by decide +kernel
theorem dX7_builds_135 : decode cX7_builds 135 = .ok (.iload 7, 2) := by decide +kernel
theorem dX7_builds_137 : decode cX7_builds 137 = .ok (.iaload, 1) := by decide +kernel
theorem dX7_builds_138 : decode cX7_builds 138 = .ok (.iload 10, 2) := by decide +kernel
theorem dX7_builds_140 : decode cX7_builds 140 = .ok (.iadd, 1) := by decide +kernel
theorem dX7_builds_141 : decode cX7_builds 141 = .ok (.invokevirtual 119, 3) := by decide +kernel
theorem dX7_builds_144 : decode cX7_builds 144 = .ok (.aload_n 0, 1) := by decide +kernel
theorem dX7_builds_145 : decode cX7_builds 145 = .ok (.iload_n 2, 1) := by decide +kernel
theorem dX7_builds_146 : decode cX7_builds 146 = .ok (.aload_n 0, 1) := by decide +kernel
theorem dX7_builds_147 : decode cX7_builds 147 = .ok (.getfield 81, 3) := by decide +kernel
theorem dX7_builds_150 : decode cX7_builds 150 = .ok (.iload 7, 2) := by decide +kernel
theorem dX7_builds_152 : decode cX7_builds 152 = .ok (.iaload, 1) := by decide +kernel
theorem dX7_builds_153 : decode cX7_builds 153 = .ok (.iload 10, 2) := by decide +kernel
theorem dX7_builds_155 : decode cX7_builds 155 = .ok (.iadd, 1) := by decide +kernel
theorem dX7_builds_156 : decode cX7_builds 156 = .ok (.invokevirtual 159, 3) := by decide +kernel
theorem dX7_builds_159 : decode cX7_builds 159 = .ok (.aload_n 0, 1) := by decide +kernel
theorem dX7_builds_160 : decode cX7_builds 160 = .ok (.iload_n 2, 1) := by decide +kernel
theorem dX7_builds_161 : decode cX7_builds 161 = .ok (.aload_n 0, 1) := by decide +kernel
theorem dX7_builds_162 : decode cX7_builds 162 = .ok (.getfield 81, 3) := by decide +kernel
theorem dX7_builds_165 : decode cX7_builds 165 = .ok (.iload 7, 2) := by decide +kernel
theorem dX7_builds_167 : decode cX7_builds 167 = .ok (.iaload, 1) := by decide +kernel
theorem dX7_builds_168 : decode cX7_builds 168 = .ok (.iload 10, 2) := by decide +kernel
theorem dX7_builds_170 : decode cX7_builds 170 = .ok (.iadd, 1) := by decide +kernel
theorem dX7_builds_171 : decode cX7_builds 171 = .ok (.invokevirtual 111, 3) := by decide +kernel
theorem dX7_builds_174 : decode cX7_builds 174 = .ok (.invokevirtual 143, 3) := by decide +kernel
theorem dX7_builds_177 : decode cX7_builds 177 = .ok (.goto 60, 3) := by decide +kernel
theorem dX7_builds_180 : decode cX7_builds 180 = .ok (.aload_n 0, 1) := by decide +kernel
theorem dX7_builds_181 : decode cX7_builds 181 = .ok (.iload_n 3, 1) := by decide +kernel
theorem dX7_builds_182 : decode cX7_builds 182 = .ok (.iload 4, 2) := by decide +kernel
theorem dX7_builds_184 : decode cX7_builds 184 = .ok (.iload 6, 2) := by decide +kernel
theorem dX7_builds_186 : decode cX7_builds 186 = .ok (.ifCond .ne 7, 3) := by decide +kernel
theorem dX7_builds_189 : decode cX7_builds 189 = .ok (.iconst 0, 1) := by decide +kernel
theorem dX7_builds_190 : decode cX7_builds 190 = .ok (.goto 15, 3) := by decide +kernel
theorem dX7_builds_193 : decode cX7_builds 193 = .ok (.aload_n 0, 1) := by decide +kernel
theorem dX7_builds_194 : decode cX7_builds 194 = .ok (.iload_n 2, 1) := by decide +kernel
theorem dX7_builds_195 : decode cX7_builds 195 = .ok (.aload_n 0, 1) := by decide +kernel
theorem dX7_builds_196 : decode cX7_builds 196 = .ok (.getfield 81, 3) := by decide +kernel
theorem dX7_builds_199 : decode cX7_builds 199 = .ok (.iload 7, 2) := by decide +kernel
theorem dX7_builds_201 : decode cX7_builds 201 = .ok (.iaload, 1) := by decide +kernel
theorem dX7_builds_202 : decode cX7_builds 202 = .ok (.invokevirtual 119, 3) := by decide +kernel
theorem dX7_builds_205 : decode cX7_builds 205 = .ok (.iload 6, 2) := by decide +kernel
theorem dX7_builds_207 : decode cX7_builds 207 = .ok (.ifCond .ne 8, 3) := by decide +kernel
theorem dX7_builds_210 : decode cX7_builds 210 = .ok (.iload 7, 2) := by decide +kernel
theorem dX7_builds_212 : decode cX7_builds 212 = .ok (.goto 15, 3) := by decide +kernel
theorem dX7_builds_215 : decode cX7_builds 215 = .ok (.aload_n 0, 1) := by decide +kernel
theorem dX7_builds_216 : decode cX7_builds 216 = .ok (.iload_n 2, 1) := by decide +kernel
theorem dX7_builds_217 : decode cX7_builds 217 = .ok (.aload_n 0, 1) := by decide +kernel
theorem dX7_builds_218 : decode cX7_builds 218 = .ok (.getfield 81, 3) := by decide +kernel
theorem dX7_builds_221 : decode cX7_builds 221 = .ok (.iload 7, 2) := by decide +kernel
theorem dX7_builds_223 : decode cX7_builds 223 = .ok (.iaload, 1) := by decide +kernel
theorem dX7_builds_224 : decode cX7_builds 224 = .ok (.invokevirtual 159, 3) := by decide +kernel
theorem dX7_builds_227 : decode cX7_builds 227 = .ok (.aload_n 0, 1) := by decide +kernel
theorem dX7_builds_228 : decode cX7_builds 228 = .ok (.iload_n 1, 1) := by decide +kernel
theorem dX7_builds_229 : decode cX7_builds 229 = .ok (.iload 5, 2) := by decide +kernel
theorem dX7_builds_231 : decode cX7_builds 231 = .ok (.invokevirtual 293, 3) := by decide +kernel
theorem dX7_builds_234 : decode cX7_builds 234 = .ok (.invokevirtual 143, 3) := by decide +kernel
theorem dX7_builds_237 : decode cX7_builds 237 = .ok (.iinc 4 1, 3) := by decide +kernel
theorem dX7_builds_240 : decode cX7_builds 240 = .ok (.iinc 10 1, 3) := by decide +kernel
theorem dX7_builds_243 : decode cX7_builds 243 = .ok (.goto (-130), 3) := by decide +kernel
theorem dX7_builds_246 : decode cX7_builds 246 = .ok (.iinc 5 1, 3) := by decide +kernel
theorem dX7_builds_249 : decode cX7_builds 249 = .ok (.goto (-234), 3) := by decide +kernel
theorem dX7_builds_252 : decode cX7_builds 252 = .ok (.aload_n 0, 1) := by decide +kernel
theorem dX7_builds_253 : decode cX7_builds 253 = .ok (.getfield 7, 3) := by decide +kernel
theorem dX7_builds_256 : decode cX7_builds 256 = .ok (.iload_n 3, 1) := by decide +kernel
theorem dX7_builds_257 : decode cX7_builds 257 = .ok (.iload 4, 2) := by decide +kernel
theorem dX7_builds_259 : decode cX7_builds 259 = .ok (.iastore, 1) := by decide +kernel
theorem dX7_builds_260 : decode cX7_builds 260 = .ok (.aload_n 0, 1) := by decide +kernel
theorem dX7_builds_261 : decode cX7_builds 261 = .ok (.iload_n 3, 1) := by decide +kernel
theorem dX7_builds_262 : decode cX7_builds 262 = .ok (.invokevirtual 155, 3) := by decide +kernel
theorem dX7_builds_265 : decode cX7_builds 265 = .ok (.iconst 1, 1) := by decide +kernel
theorem dX7_builds_266 : decode cX7_builds 266 = .ok (.istore 5, 2) := by decide +kernel
theorem dX7_builds_268 : decode cX7_builds 268 = .ok (.iconst 0, 1) := by decide +kernel
theorem dX7_builds_269 : decode cX7_builds 269 = .ok (.istore 6, 2) := by decide +kernel
theorem dX7_builds_271 : decode cX7_builds 271 = .ok (.iload 6, 2) := by decide +kernel
theorem dX7_builds_273 : decode cX7_builds 273 = .ok (.iload 4, 2) := by decide +kernel
theorem dX7_builds_275 : decode cX7_builds 275 = .ok (.if_icmp .ge 33, 3) := by decide +kernel
theorem dX7_builds_278 : decode cX7_builds 278 = .ok (.iload 5, 2) := by decide +kernel
theorem dX7_builds_280 : decode cX7_builds 280 = .ok (.ifCond .eq 19, 3) := by decide +kernel
theorem dX7_builds_283 : decode cX7_builds 283 = .ok (.aload_n 0, 1) := by decide +kernel
theorem dX7_builds_284 : decode cX7_builds 284 = .ok (.getfield 26, 3) := by decide +kernel
theorem dX7_builds_287 : decode cX7_builds 287 = .ok (.iload 6, 2) := by decide +kernel
theorem dX7_builds_289 : decode cX7_builds 289 = .ok (.iaload, 1) := by decide +kernel
theorem dX7_builds_290 : decode cX7_builds 290 = .ok (.bipush 7, 2) := by decide +kernel
theorem dX7_builds_292 : decode cX7_builds 292 = .ok (.if_icmp .gt 7, 3) := by decide +kernel
theorem dX7_builds_295 : decode cX7_builds 295 = .ok (.iconst 1, 1) := by decide +kernel
theorem dX7_builds_296 : decode cX7_builds 296 = .ok (.goto 4, 3) := by decide +kernel
theorem dX7_builds_299 : decode cX7_builds 299 = .ok (.iconst 0, 1) := by decide +kernel
theorem dX7_builds_300 : decode cX7_builds 300 = .ok (.istore 5, 2) := by decide +kernel
theorem dX7_builds_302 : decode cX7_builds 302 = .ok (.iinc 6 1, 3) := by decide +kernel
theorem dX7_builds_305 : decode cX7_builds 305 = .ok (.goto (-34), 3) := by decide +kernel
theorem dX7_builds_308 : decode cX7_builds 308 = .ok (.iload 5, 2) := by decide +kernel
theorem dX7_builds_310 : decode cX7_builds 310 = .ok (.ireturn, 1) := by decide +kernel
theorem dX7_apply_0 : decode cX7_apply 0 = .ok (.aload_n 0, 1) := by decide +kernel
theorem dX7_apply_1 : decode cX7_apply 1 = .ok (.iload_n 1, 1) := by decide +kernel
theorem dX7_apply_2 : decode cX7_apply 2 = .ok (.iload_n 2, 1) := by decide +kernel
theorem dX7_apply_3 : decode cX7_apply 3 = .ok (.iload_n 3, 1) := by decide +kernel
theorem dX7_apply_4 : decode cX7_apply 4 = .ok (.invokestatic 182, 3) := by decide +kernel
theorem dX7_apply_7 : decode cX7_apply 7 = .ok (.ifCond .eq 15, 3) := by decide +kernel
theorem dX7_apply_10 : decode cX7_apply 10 = .ok (.iload 4, 2) := by decide +kernel
theorem dX7_apply_12 : decode cX7_apply 12 = .ok (.invokestatic 182, 3) := by decide +kernel
theorem dX7_apply_15 : decode cX7_apply 15 = .ok (.ifCond .eq 7, 3) := by decide +kernel
theorem dX7_apply_18 : decode cX7_apply 18 = .ok (.iconst 1, 1) := by decide +kernel
theorem dX7_apply_19 : decode cX7_apply 19 = .ok (.goto 4, 3) := by decide +kernel
theorem dX7_apply_22 : decode cX7_apply 22 = .ok (.iconst 0, 1) := by decide +kernel
theorem dX7_apply_23 : decode cX7_apply 23 = .ok (.invokevirtual 254, 3) := by decide +kernel
theorem dX7_apply_26 : decode cX7_apply 26 = .ok (.istore 5, 2) := by decide +kernel
theorem dX7_apply_28 : decode cX7_apply 28 = .ok (.iload 5, 2) := by decide +kernel
theorem dX7_apply_30 : decode cX7_apply 30 = .ok (.ifCond .ne 16, 3) := by decide +kernel
theorem dX7_apply_33 : decode cX7_apply 33 = .ok (.aload_n 0, 1) := by decide +kernel
theorem dX7_apply_34 : decode cX7_apply 34 = .ok (.iload_n 3, 1) := by decide +kernel
theorem dX7_apply_35 : decode cX7_apply 35 = .ok (.invokevirtual 204, 3) := by decide +kernel
theorem dX7_apply_38 : decode cX7_apply 38 = .ok (.ifCond .eq 8, 3) := by decide +kernel
theorem dX7_apply_41 : decode cX7_apply 41 = .ok (.bipush (-2), 2) := by decide +kernel
theorem dX7_apply_43 : decode cX7_apply 43 = .ok (.goto 5, 3) := by decide +kernel
theorem dX7_apply_46 : decode cX7_apply 46 = .ok (.iload 5, 2) := by decide +kernel
theorem dX7_apply_48 : decode cX7_apply 48 = .ok (.istore 5, 2) := by decide +kernel
theorem dX7_apply_50 : decode cX7_apply 50 = .ok (.iload 5, 2) := by decide +kernel
theorem dX7_apply_52 : decode cX7_apply 52 = .ok (.ifCond .eq 6, 3) := by decide +kernel
theorem dX7_apply_55 : decode cX7_apply 55 = .ok (.iload 5, 2) := by decide +kernel
theorem dX7_apply_57 : decode cX7_apply 57 = .ok (.ireturn, 1) := by decide +kernel
theorem dX7_apply_58 : decode cX7_apply 58 = .ok (.aload_n 0, 1) := by decide +kernel
theorem dX7_apply_59 : decode cX7_apply 59 = .ok (.bipush 97, 2) := by decide +kernel
theorem dX7_apply_61 : decode cX7_apply 61 = .ok (.iload_n 1, 1) := by decide +kernel
theorem dX7_apply_62 : decode cX7_apply 62 = .ok (.imul, 1) := by decide +kernel
theorem dX7_apply_63 : decode cX7_apply 63 = .ok (.bipush 97, 2) := by decide +kernel
theorem dX7_apply_65 : decode cX7_apply 65 = .ok (.iload_n 3, 1) := by decide +kernel
theorem dX7_apply_66 : decode cX7_apply 66 = .ok (.imul, 1) := by decide +kernel
theorem dX7_apply_67 : decode cX7_apply 67 = .ok (.invokevirtual 274, 3) := by decide +kernel
theorem dX7_apply_70 : decode cX7_apply 70 = .ok (.ifCond .eq 22, 3) := by decide +kernel
theorem dX7_apply_73 : decode cX7_apply 73 = .ok (.aload_n 0, 1) := by decide +kernel
theorem dX7_apply_74 : decode cX7_apply 74 = .ok (.bipush 97, 2) := by decide +kernel
theorem dX7_apply_76 : decode cX7_apply 76 = .ok (.iload_n 1, 1) := by decide +kernel
theorem dX7_apply_77 : decode cX7_apply 77 = .ok (.imul, 1) := by decide +kernel
theorem dX7_apply_78 : decode cX7_apply 78 = .ok (.bipush 97, 2) := by decide +kernel
theorem dX7_apply_80 : decode cX7_apply 80 = .ok (.iload_n 2, 1) := by decide +kernel
theorem dX7_apply_81 : decode cX7_apply 81 = .ok (.imul, 1) := by decide +kernel
theorem dX7_apply_82 : decode cX7_apply 82 = .ok (.bipush 97, 2) := by decide +kernel
theorem dX7_apply_84 : decode cX7_apply 84 = .ok (.iload_n 3, 1) := by decide +kernel
theorem dX7_apply_85 : decode cX7_apply 85 = .ok (.imul, 1) := by decide +kernel
theorem dX7_apply_86 : decode cX7_apply 86 = .ok (.invokevirtual 296, 3) := by decide +kernel
theorem dX7_apply_89 : decode cX7_apply 89 = .ok (.ifCond .ne 6, 3) := by decide +kernel
theorem dX7_apply_92 : decode cX7_apply 92 = .ok (.bipush (-2), 2) := by decide +kernel
theorem dX7_apply_94 : decode cX7_apply 94 = .ok (.ireturn, 1) := by decide +kernel
theorem dX7_apply_95 : decode cX7_apply 95 = .ok (.aload_n 0, 1) := by decide +kernel
theorem dX7_apply_96 : decode cX7_apply 96 = .ok (.bipush 97, 2) := by decide +kernel
theorem dX7_apply_98 : decode cX7_apply 98 = .ok (.iload_n 2, 1) := by decide +kernel
theorem dX7_apply_99 : decode cX7_apply 99 = .ok (.imul, 1) := by decide +kernel
theorem dX7_apply_100 : decode cX7_apply 100 = .ok (.bipush 97, 2) := by decide +kernel
theorem dX7_apply_102 : decode cX7_apply 102 = .ok (.iload_n 3, 1) := by decide +kernel
theorem dX7_apply_103 : decode cX7_apply 103 = .ok (.imul, 1) := by decide +kernel
theorem dX7_apply_104 : decode cX7_apply 104 = .ok (.sipush 5654, 3) := by decide +kernel
theorem dX7_apply_107 : decode cX7_apply 107 = .ok (.invokevirtual 299, 3) := by decide +kernel
theorem dX7_apply_110 : decode cX7_apply 110 = .ok (.ifCond .ne 6, 3) := by decide +kernel
theorem dX7_apply_113 : decode cX7_apply 113 = .ok (.bipush (-3), 2) := by decide +kernel
theorem dX7_apply_115 : decode cX7_apply 115 = .ok (.ireturn, 1) := by decide +kernel
theorem dX7_apply_116 : decode cX7_apply 116 = .ok (.aload_n 0, 1) := by decide +kernel
theorem dX7_apply_117 : decode cX7_apply 117 = .ok (.invokevirtual 198, 3) := by decide +kernel
theorem dX7_apply_120 : decode cX7_apply 120 = .ok (.aload_n 0, 1) := by decide +kernel
theorem dX7_apply_121 : decode cX7_apply 121 = .ok (.sipush 5654, 3) := by decide +kernel
theorem dX7_apply_124 : decode cX7_apply 124 = .ok (.iload 4, 2) := by decide +kernel
theorem dX7_apply_126 : decode cX7_apply 126 = .ok (.invokevirtual 201, 3) := by decide +kernel
theorem dX7_apply_129 : decode cX7_apply 129 = .ok (.ireturn, 1) := by decide +kernel
theorem dX7_sumOf_0 : decode cX7_sumOf 0 = .ok (.iconst 0, 1) := by decide +kernel
theorem dX7_sumOf_1 : decode cX7_sumOf 1 = .ok (.istore_n 2, 1) := by decide +kernel
theorem dX7_sumOf_2 : decode cX7_sumOf 2 = .ok (.iconst 0, 1) := by decide +kernel
theorem dX7_sumOf_3 : decode cX7_sumOf 3 = .ok (.istore_n 3, 1) := by decide +kernel
theorem dX7_sumOf_4 : decode cX7_sumOf 4 = .ok (.iload_n 3, 1) := by decide +kernel
theorem dX7_sumOf_5 : decode cX7_sumOf 5 = .ok (.bipush 8, 2) := by decide +kernel
theorem dX7_sumOf_7 : decode cX7_sumOf 7 = .ok (.if_icmp .ge 41, 3) := by decide +kernel
theorem dX7_sumOf_10 : decode cX7_sumOf 10 = .ok (.iload_n 2, 1) := by decide +kernel
theorem dX7_sumOf_11 : decode cX7_sumOf 11 = .ok (.iload_n 1, 1) := by decide +kernel
theorem dX7_sumOf_12 : decode cX7_sumOf 12 = .ok (.ifCond .eq 15, 3) := by decide +kernel
theorem dX7_sumOf_15 : decode cX7_sumOf 15 = .ok (.aload_n 0, 1) := by decide +kernel
theorem dX7_sumOf_16 : decode cX7_sumOf 16 = .ok (.getfield 7, 3) := by decide +kernel
theorem dX7_sumOf_19 : decode cX7_sumOf 19 = .ok (.bipush 97, 2) := by decide +kernel
theorem dX7_sumOf_21 : decode cX7_sumOf 21 = .ok (.iload_n 3, 1) := by decide +kernel
theorem dX7_sumOf_22 : decode cX7_sumOf 22 = .ok (.imul, 1) := by decide +kernel
theorem dX7_sumOf_23 : decode cX7_sumOf 23 = .ok (.iaload, 1) := by decide +kernel
theorem dX7_sumOf_24 : decode cX7_sumOf 24 = .ok (.goto 16, 3) := by decide +kernel
theorem dX7_sumOf_27 : decode cX7_sumOf 27 = .ok (.aload_n 0, 1) := by decide +kernel
theorem dX7_sumOf_28 : decode cX7_sumOf 28 = .ok (.iload_n 3, 1) := by decide +kernel
theorem dX7_sumOf_29 : decode cX7_sumOf 29 = .ok (.invokevirtual 204, 3) := by decide +kernel
theorem dX7_sumOf_32 : decode cX7_sumOf 32 = .ok (.ifCond .eq 7, 3) := by decide +kernel
theorem dX7_sumOf_35 : decode cX7_sumOf 35 = .ok (.iconst 0, 1) := by decide +kernel
theorem dX7_sumOf_36 : decode cX7_sumOf 36 = .ok (.goto 4, 3) := by decide +kernel
theorem dX7_sumOf_39 : decode cX7_sumOf 39 = .ok (.iconst 1, 1) := by decide +kernel
theorem dX7_sumOf_40 : decode cX7_sumOf 40 = .ok (.iadd, 1) := by decide +kernel
theorem dX7_sumOf_41 : decode cX7_sumOf 41 = .ok (.istore_n 2, 1) := by decide +kernel
theorem dX7_sumOf_42 : decode cX7_sumOf 42 = .ok (.iinc 3 1, 3) := by decide +kernel
theorem dX7_sumOf_45 : decode cX7_sumOf 45 = .ok (.goto (-41), 3) := by decide +kernel
theorem dX7_sumOf_48 : decode cX7_sumOf 48 = .ok (.iload_n 2, 1) := by decide +kernel
theorem dX7_sumOf_49 : decode cX7_sumOf 49 = .ok (.ireturn, 1) := by decide +kernel
theorem dX7_told_0 : decode cX7_told 0 = .ok (.iload_n 1, 1) := by decide +kernel
theorem dX7_told_1 : decode cX7_told 1 = .ok (.tableswitch 80 0 7 #[47, 47, 47, 47, 58, 64, 70, 75], 47) := by decide +kernel
theorem dX7_told_48 : decode cX7_told 48 = .ok (.aload_n 0, 1) := by decide +kernel
theorem dX7_told_49 : decode cX7_told 49 = .ok (.getfield 7, 3) := by decide +kernel
theorem dX7_told_52 : decode cX7_told 52 = .ok (.sipush 776, 3) := by decide +kernel
theorem dX7_told_55 : decode cX7_told 55 = .ok (.iload_n 1, 1) := by decide +kernel
theorem dX7_told_56 : decode cX7_told 56 = .ok (.iadd, 1) := by decide +kernel
theorem dX7_told_57 : decode cX7_told 57 = .ok (.iaload, 1) := by decide +kernel
theorem dX7_told_58 : decode cX7_told 58 = .ok (.ireturn, 1) := by decide +kernel
theorem dX7_told_59 : decode cX7_told 59 = .ok (.aload_n 0, 1) := by decide +kernel
theorem dX7_told_60 : decode cX7_told 60 = .ok (.iconst 0, 1) := by decide +kernel
theorem dX7_told_61 : decode cX7_told 61 = .ok (.invokevirtual 302, 3) := by decide +kernel
theorem dX7_told_64 : decode cX7_told 64 = .ok (.ireturn, 1) := by decide +kernel
theorem dX7_told_65 : decode cX7_told 65 = .ok (.aload_n 0, 1) := by decide +kernel
theorem dX7_told_66 : decode cX7_told 66 = .ok (.iconst 1, 1) := by decide +kernel
theorem dX7_told_67 : decode cX7_told 67 = .ok (.invokevirtual 302, 3) := by decide +kernel
theorem dX7_told_70 : decode cX7_told 70 = .ok (.ireturn, 1) := by decide +kernel
theorem dX7_told_71 : decode cX7_told 71 = .ok (.aload_n 0, 1) := by decide +kernel
theorem dX7_told_72 : decode cX7_told 72 = .ok (.getfield 126, 3) := by decide +kernel
theorem dX7_told_75 : decode cX7_told 75 = .ok (.ireturn, 1) := by decide +kernel
theorem dX7_told_76 : decode cX7_told 76 = .ok (.aload_n 0, 1) := by decide +kernel
theorem dX7_told_77 : decode cX7_told 77 = .ok (.getfield 108, 3) := by decide +kernel
theorem dX7_told_80 : decode cX7_told 80 = .ok (.ireturn, 1) := by decide +kernel
theorem dX7_told_81 : decode cX7_told 81 = .ok (.iconst (-1), 1) := by decide +kernel
theorem dX7_told_82 : decode cX7_told 82 = .ok (.ireturn, 1) := by decide +kernel
theorem dX7_undo_0 : decode cX7_undo 0 = .ok (.aload_n 0, 1) := by decide +kernel
theorem dX7_undo_1 : decode cX7_undo 1 = .ok (.getfield 108, 3) := by decide +kernel
theorem dX7_undo_4 : decode cX7_undo 4 = .ok (.ifCond .ne 6, 3) := by decide +kernel
theorem dX7_undo_7 : decode cX7_undo 7 = .ok (.bipush (-2), 2) := by decide +kernel
theorem dX7_undo_9 : decode cX7_undo 9 = .ok (.ireturn, 1) := by decide +kernel
theorem dX7_undo_10 : decode cX7_undo 10 = .ok (.iconst 0, 1) := by decide +kernel
theorem dX7_undo_11 : decode cX7_undo 11 = .ok (.istore_n 1, 1) := by decide +kernel
theorem dX7_undo_12 : decode cX7_undo 12 = .ok (.iload_n 1, 1) := by decide +kernel
theorem dX7_undo_13 : decode cX7_undo 13 = .ok (.sipush 780, 3) := by decide +kernel
theorem dX7_undo_16 : decode cX7_undo 16 = .ok (.if_icmp .ge 30, 3) := by decide +kernel
theorem dX7_undo_19 : decode cX7_undo 19 = .ok (.aload_n 0, 1) := by decide +kernel
theorem dX7_undo_20 : decode cX7_undo 20 = .ok (.getfield 7, 3) := by decide +kernel
theorem dX7_undo_23 : decode cX7_undo 23 = .ok (.iload_n 1, 1) := by decide +kernel
theorem dX7_undo_24 : decode cX7_undo 24 = .ok (.aload_n 0, 1) := by decide +kernel
theorem dX7_undo_25 : decode cX7_undo 25 = .ok (.getfield 7, 3) := by decide +kernel
theorem dX7_undo_28 : decode cX7_undo 28 = .ok (.sipush 780, 3) := by decide +kernel
theorem dX7_undo_31 : decode cX7_undo 31 = .ok (.aload_n 0, 1) := by decide +kernel
theorem dX7_undo_32 : decode cX7_undo 32 = .ok (.getfield 108, 3) := by decide +kernel
theorem dX7_undo_35 : decode cX7_undo 35 = .ok (.imul, 1) := by decide +kernel
theorem dX7_undo_36 : decode cX7_undo 36 = .ok (.iload_n 1, 1) := by decide +kernel
theorem dX7_undo_37 : decode cX7_undo 37 = .ok (.iadd, 1) := by decide +kernel
theorem dX7_undo_38 : decode cX7_undo 38 = .ok (.iaload, 1) := by decide +kernel
theorem dX7_undo_39 : decode cX7_undo 39 = .ok (.iastore, 1) := by decide +kernel
theorem dX7_undo_40 : decode cX7_undo 40 = .ok (.iinc 1 1, 3) := by decide +kernel
theorem dX7_undo_43 : decode cX7_undo 43 = .ok (.goto (-31), 3) := by decide +kernel
theorem dX7_undo_46 : decode cX7_undo 46 = .ok (.aload_n 0, 1) := by decide +kernel
theorem dX7_undo_47 : decode cX7_undo 47 = .ok (.dup, 1) := by decide +kernel
theorem dX7_undo_48 : decode cX7_undo 48 = .ok (.getfield 108, 3) := by decide +kernel
theorem dX7_undo_51 : decode cX7_undo 51 = .ok (.iconst 1, 1) := by decide +kernel
theorem dX7_undo_52 : decode cX7_undo 52 = .ok (.isub, 1) := by decide +kernel
theorem dX7_undo_53 : decode cX7_undo 53 = .ok (.putfield 108, 3) := by decide +kernel
theorem dX7_undo_56 : decode cX7_undo 56 = .ok (.aload_n 0, 1) := by decide +kernel
theorem dX7_undo_57 : decode cX7_undo 57 = .ok (.getfield 108, 3) := by decide +kernel
theorem dX7_undo_60 : decode cX7_undo 60 = .ok (.ireturn, 1) := by decide +kernel
theorem dX7_mixedRegister_0 : decode cX7_mixedRegister 0 = .ok (.ldc2_w 306, 3) := by decide +kernel
theorem dX7_mixedRegister_3 : decode cX7_mixedRegister 3 = .ok (.lload_n 1, 1) := by decide +kernel
theorem dX7_mixedRegister_4 : decode cX7_mixedRegister 4 = .ok (.lmul, 1) := by decide +kernel
theorem dX7_mixedRegister_5 : decode cX7_mixedRegister 5 = .ok (.iload_n 3, 1) := by decide +kernel
theorem dX7_mixedRegister_6 : decode cX7_mixedRegister 6 = .ok (.i2l, 1) := by decide +kernel
theorem dX7_mixedRegister_7 : decode cX7_mixedRegister 7 = .ok (.ladd, 1) := by decide +kernel
theorem dX7_mixedRegister_8 : decode cX7_mixedRegister 8 = .ok (.lstore 4, 2) := by decide +kernel
theorem dX7_mixedRegister_10 : decode cX7_mixedRegister 10 = .ok (.iconst 0, 1) := by decide +kernel
theorem dX7_mixedRegister_11 : decode cX7_mixedRegister 11 = .ok (.istore 6, 2) := by decide +kernel
theorem dX7_mixedRegister_13 : decode cX7_mixedRegister 13 = .ok (.iload 6, 2) := by decide +kernel
theorem dX7_mixedRegister_15 : decode cX7_mixedRegister 15 = .ok (.iconst 4, 1) := by decide +kernel
theorem dX7_mixedRegister_16 : decode cX7_mixedRegister 16 = .ok (.if_icmp .gt 26, 3) := by decide +kernel
theorem dX7_mixedRegister_19 : decode cX7_mixedRegister 19 = .ok (.ldc2_w 306, 3) := by decide +kernel
theorem dX7_mixedRegister_22 : decode cX7_mixedRegister 22 = .ok (.lload 4, 2) := by decide +kernel
theorem dX7_mixedRegister_24 : decode cX7_mixedRegister 24 = .ok (.lmul, 1) := by decide +kernel
theorem dX7_mixedRegister_25 : decode cX7_mixedRegister 25 = .ok (.aload_n 0, 1) := by decide +kernel
theorem dX7_mixedRegister_26 : decode cX7_mixedRegister 26 = .ok (.iload_n 3, 1) := by decide +kernel
theorem dX7_mixedRegister_27 : decode cX7_mixedRegister 27 = .ok (.iload 6, 2) := by decide +kernel
theorem dX7_mixedRegister_29 : decode cX7_mixedRegister 29 = .ok (.invokevirtual 214, 3) := by decide +kernel
theorem dX7_mixedRegister_32 : decode cX7_mixedRegister 32 = .ok (.i2l, 1) := by decide +kernel
theorem dX7_mixedRegister_33 : decode cX7_mixedRegister 33 = .ok (.ladd, 1) := by decide +kernel
theorem dX7_mixedRegister_34 : decode cX7_mixedRegister 34 = .ok (.lstore 4, 2) := by decide +kernel
theorem dX7_mixedRegister_36 : decode cX7_mixedRegister 36 = .ok (.iinc 6 1, 3) := by decide +kernel
theorem dX7_mixedRegister_39 : decode cX7_mixedRegister 39 = .ok (.goto (-26), 3) := by decide +kernel
theorem dX7_mixedRegister_42 : decode cX7_mixedRegister 42 = .ok (.iconst 0, 1) := by decide +kernel
theorem dX7_mixedRegister_43 : decode cX7_mixedRegister 43 = .ok (.istore 6, 2) := by decide +kernel
theorem dX7_mixedRegister_45 : decode cX7_mixedRegister 45 = .ok (.iload 6, 2) := by decide +kernel
theorem dX7_mixedRegister_47 : decode cX7_mixedRegister 47 = .ok (.aload_n 0, 1) := by decide +kernel
theorem dX7_mixedRegister_48 : decode cX7_mixedRegister 48 = .ok (.getfield 7, 3) := by decide +kernel
theorem dX7_mixedRegister_51 : decode cX7_mixedRegister 51 = .ok (.bipush 97, 2) := by decide +kernel
theorem dX7_mixedRegister_53 : decode cX7_mixedRegister 53 = .ok (.iload_n 3, 1) := by decide +kernel
theorem dX7_mixedRegister_54 : decode cX7_mixedRegister 54 = .ok (.imul, 1) := by decide +kernel
theorem dX7_mixedRegister_55 : decode cX7_mixedRegister 55 = .ok (.iaload, 1) := by decide +kernel
theorem dX7_mixedRegister_56 : decode cX7_mixedRegister 56 = .ok (.if_icmp .ge 43, 3) := by decide +kernel
theorem dX7_mixedRegister_59 : decode cX7_mixedRegister 59 = .ok (.iconst 0, 1) := by decide +kernel
theorem dX7_mixedRegister_60 : decode cX7_mixedRegister 60 = .ok (.istore 7, 2) := by decide +kernel
theorem dX7_mixedRegister_62 : decode cX7_mixedRegister 62 = .ok (.iload 7, 2) := by decide +kernel
theorem dX7_mixedRegister_64 : decode cX7_mixedRegister 64 = .ok (.iconst 4, 1) := by decide +kernel
theorem dX7_mixedRegister_65 : decode cX7_mixedRegister 65 = .ok (.if_icmp .gt 28, 3) := by decide +kernel
theorem dX7_mixedRegister_68 : decode cX7_mixedRegister 68 = .ok (.ldc2_w 306, 3) := by decide +kernel
theorem dX7_mixedRegister_71 : decode cX7_mixedRegister 71 = .ok (.lload 4, 2) := by decide +kernel
theorem dX7_mixedRegister_73 : decode cX7_mixedRegister 73 = .ok (.lmul, 1) := by decide +kernel
theorem dX7_mixedRegister_74 : decode cX7_mixedRegister 74 = .ok (.aload_n 0, 1) := by decide +kernel
theorem dX7_mixedRegister_75 : decode cX7_mixedRegister 75 = .ok (.iload_n 3, 1) := by decide +kernel
theorem dX7_mixedRegister_76 : decode cX7_mixedRegister 76 = .ok (.iload 6, 2) := by decide +kernel
theorem dX7_mixedRegister_78 : decode cX7_mixedRegister 78 = .ok (.iload 7, 2) := by decide +kernel
theorem dX7_mixedRegister_80 : decode cX7_mixedRegister 80 = .ok (.invokevirtual 207, 3) := by decide +kernel
theorem dX7_mixedRegister_83 : decode cX7_mixedRegister 83 = .ok (.i2l, 1) := by decide +kernel
theorem dX7_mixedRegister_84 : decode cX7_mixedRegister 84 = .ok (.ladd, 1) := by decide +kernel
theorem dX7_mixedRegister_85 : decode cX7_mixedRegister 85 = .ok (.lstore 4, 2) := by decide +kernel
theorem dX7_mixedRegister_87 : decode cX7_mixedRegister 87 = .ok (.iinc 7 1, 3) := by decide +kernel
theorem dX7_mixedRegister_90 : decode cX7_mixedRegister 90 = .ok (.goto (-28), 3) := by decide +kernel
theorem dX7_mixedRegister_93 : decode cX7_mixedRegister 93 = .ok (.iinc 6 1, 3) := by decide +kernel
theorem dX7_mixedRegister_96 : decode cX7_mixedRegister 96 = .ok (.goto (-51), 3) := by decide +kernel
theorem dX7_mixedRegister_99 : decode cX7_mixedRegister 99 = .ok (.ldc2_w 306, 3) := by decide +kernel
theorem dX7_mixedRegister_102 : decode cX7_mixedRegister 102 = .ok (.lload 4, 2) := by decide +kernel
theorem dX7_mixedRegister_104 : decode cX7_mixedRegister 104 = .ok (.lmul, 1) := by decide +kernel
theorem dX7_mixedRegister_105 : decode cX7_mixedRegister 105 = .ok (.aload_n 0, 1) := by decide +kernel
theorem dX7_mixedRegister_106 : decode cX7_mixedRegister 106 = .ok (.iload_n 3, 1) := by decide +kernel
theorem dX7_mixedRegister_107 : decode cX7_mixedRegister 107 = .ok (.invokevirtual 277, 3) := by decide +kernel
theorem dX7_mixedRegister_110 : decode cX7_mixedRegister 110 = .ok (.i2l, 1) := by decide +kernel
theorem dX7_mixedRegister_111 : decode cX7_mixedRegister 111 = .ok (.ladd, 1) := by decide +kernel
theorem dX7_mixedRegister_112 : decode cX7_mixedRegister 112 = .ok (.lreturn, 1) := by decide +kernel
theorem dX7_digest_0 : decode cX7_digest 0 = .ok (.ldc2_w 308, 3) := by decide +kernel
theorem dX7_digest_3 : decode cX7_digest 3 = .ok (.lstore_n 1, 1) := by decide +kernel
theorem dX7_digest_4 : decode cX7_digest 4 = .ok (.iconst 0, 1) := by decide +kernel
theorem dX7_digest_5 : decode cX7_digest 5 = .ok (.istore_n 3, 1) := by decide +kernel
theorem dX7_digest_6 : decode cX7_digest 6 = .ok (.iload_n 3, 1) := by decide +kernel
theorem dX7_digest_7 : decode cX7_digest 7 = .ok (.bipush 7, 2) := by decide +kernel
theorem dX7_digest_9 : decode cX7_digest 9 = .ok (.if_icmp .gt 22, 3) := by decide +kernel
theorem dX7_digest_12 : decode cX7_digest 12 = .ok (.ldc2_w 306, 3) := by decide +kernel
theorem dX7_digest_15 : decode cX7_digest 15 = .ok (.lload_n 1, 1) := by decide +kernel
theorem dX7_digest_16 : decode cX7_digest 16 = .ok (.lmul, 1) := by decide +kernel
theorem dX7_digest_17 : decode cX7_digest 17 = .ok (.aload_n 0, 1) := by decide +kernel
theorem dX7_digest_18 : decode cX7_digest 18 = .ok (.iload_n 3, 1) := by decide +kernel
theorem dX7_digest_19 : decode cX7_digest 19 = .ok (.invokevirtual 310, 3) := by decide +kernel
theorem dX7_digest_22 : decode cX7_digest 22 = .ok (.i2l, 1) := by decide +kernel
theorem dX7_digest_23 : decode cX7_digest 23 = .ok (.ladd, 1) := by decide +kernel
theorem dX7_digest_24 : decode cX7_digest 24 = .ok (.lstore_n 1, 1) := by decide +kernel
theorem dX7_digest_25 : decode cX7_digest 25 = .ok (.iinc 3 1, 3) := by decide +kernel
theorem dX7_digest_28 : decode cX7_digest 28 = .ok (.goto (-22), 3) := by decide +kernel
theorem dX7_digest_31 : decode cX7_digest 31 = .ok (.iconst 0, 1) := by decide +kernel
theorem dX7_digest_32 : decode cX7_digest 32 = .ok (.istore_n 3, 1) := by decide +kernel
theorem dX7_digest_33 : decode cX7_digest 33 = .ok (.iload_n 3, 1) := by decide +kernel
theorem dX7_digest_34 : decode cX7_digest 34 = .ok (.bipush 8, 2) := by decide +kernel
theorem dX7_digest_36 : decode cX7_digest 36 = .ok (.if_icmp .ge 28, 3) := by decide +kernel
theorem dX7_digest_39 : decode cX7_digest 39 = .ok (.aload_n 0, 1) := by decide +kernel
theorem dX7_digest_40 : decode cX7_digest 40 = .ok (.iload_n 3, 1) := by decide +kernel
theorem dX7_digest_41 : decode cX7_digest 41 = .ok (.invokevirtual 204, 3) := by decide +kernel
theorem dX7_digest_44 : decode cX7_digest 44 = .ok (.ifCond .eq 7, 3) := by decide +kernel
theorem dX7_digest_47 : decode cX7_digest 47 = .ok (.lload_n 1, 1) := by decide +kernel
theorem dX7_digest_48 : decode cX7_digest 48 = .ok (.goto 9, 3) := by decide +kernel
theorem dX7_digest_51 : decode cX7_digest 51 = .ok (.aload_n 0, 1) := by decide +kernel
theorem dX7_digest_52 : decode cX7_digest 52 = .ok (.lload_n 1, 1) := by decide +kernel
theorem dX7_digest_53 : decode cX7_digest 53 = .ok (.iload_n 3, 1) := by decide +kernel
theorem dX7_digest_54 : decode cX7_digest 54 = .ok (.invokevirtual 313, 3) := by decide +kernel
theorem dX7_digest_57 : decode cX7_digest 57 = .ok (.lstore_n 1, 1) := by decide +kernel
theorem dX7_digest_58 : decode cX7_digest 58 = .ok (.iinc 3 1, 3) := by decide +kernel
theorem dX7_digest_61 : decode cX7_digest 61 = .ok (.goto (-28), 3) := by decide +kernel
theorem dX7_digest_64 : decode cX7_digest 64 = .ok (.ldc2_w 306, 3) := by decide +kernel
theorem dX7_digest_67 : decode cX7_digest 67 = .ok (.lload_n 1, 1) := by decide +kernel
theorem dX7_digest_68 : decode cX7_digest 68 = .ok (.lmul, 1) := by decide +kernel
theorem dX7_digest_69 : decode cX7_digest 69 = .ok (.aload_n 0, 1) := by decide +kernel
theorem dX7_digest_70 : decode cX7_digest 70 = .ok (.getfield 16, 3) := by decide +kernel
theorem dX7_digest_73 : decode cX7_digest 73 = .ok (.i2l, 1) := by decide +kernel
theorem dX7_digest_74 : decode cX7_digest 74 = .ok (.ladd, 1) := by decide +kernel
theorem dX7_digest_75 : decode cX7_digest 75 = .ok (.lreturn, 1) := by decide +kernel
