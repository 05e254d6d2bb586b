theorem dL_cell_0 : decode cL_cell 0 = .ok (.iload_n 1, 1) := by decide +kernel
theorem dL_cell_1 : decode cL_cell 1 = .ok (.aload_n 0, 1) := by decide +kernel
theorem dL_cell_2 : decode cL_cell 2 = .ok (.arraylength, 1) := by decide +kernel
theorem dL_cell_3 : decode cL_cell 3 = .ok (.if_icmp .ge 9, 3) := by decide +kernel
theorem dL_cell_6 : decode cL_cell 6 = .ok (.aload_n 0, 1) := by decide +kernel
theorem dL_cell_7 : decode cL_cell 7 = .ok (.iload_n 1, 1) := by decide +kernel
theorem dL_cell_8 : decode cL_cell 8 = .ok (.iaload, 1) := by decide +kernel
theorem dL_cell_9 : decode cL_cell 9 = .ok (.goto 11, 3) := by decide +kernel
theorem dL_cell_12 : decode cL_cell 12 = .ok (.ldc 7, 2) := by decide +kernel
theorem dL_cell_14 : decode cL_cell 14 = .ok (.iload_n 1, 1) := by decide +kernel
theorem dL_cell_15 : decode cL_cell 15 = .ok (.imul, 1) := by decide +kernel
theorem dL_cell_16 : decode cL_cell 16 = .ok (.sipush 1103, 3) := by decide +kernel
theorem dL_cell_19 : decode cL_cell 19 = .ok (.iadd, 1) := by decide +kernel
theorem dL_cell_20 : decode cL_cell 20 = .ok (.ldc 8, 2) := by decide +kernel
theorem dL_cell_22 : decode cL_cell 22 = .ok (.iand, 1) := by decide +kernel
theorem dL_cell_23 : decode cL_cell 23 = .ok (.ireturn, 1) := by decide +kernel
theorem dL_draws_0 : decode cL_draws 0 = .ok (.bipush 8, 2) := by decide +kernel
theorem dL_draws_2 : decode cL_draws 2 = .ok (.newarray .int, 2) := by decide +kernel
theorem dL_draws_4 : decode cL_draws 4 = .ok (.astore 4, 2) := by decide +kernel
theorem dL_draws_6 : decode cL_draws 6 = .ok (.iconst 0, 1) := by decide +kernel
theorem dL_draws_7 : decode cL_draws 7 = .ok (.istore 5, 2) := by decide +kernel
theorem dL_draws_9 : decode cL_draws 9 = .ok (.iconst 0, 1) := by decide +kernel
theorem dL_draws_10 : decode cL_draws 10 = .ok (.istore 6, 2) := by decide +kernel
theorem dL_draws_12 : decode cL_draws 12 = .ok (.iconst 1, 1) := by decide +kernel
theorem dL_draws_13 : decode cL_draws 13 = .ok (.istore 7, 2) := by decide +kernel
theorem dL_draws_15 : decode cL_draws 15 = .ok (.aload 4, 2) := by decide +kernel
theorem dL_draws_17 : decode cL_draws 17 = .ok (.iconst 0, 1) := by decide +kernel
theorem dL_draws_18 : decode cL_draws 18 = .ok (.iconst 1, 1) := by decide +kernel
theorem dL_draws_19 : decode cL_draws 19 = .ok (.iastore, 1) := by decide +kernel
theorem dL_draws_20 : decode cL_draws 20 = .ok (.iload 5, 2) := by decide +kernel
theorem dL_draws_22 : decode cL_draws 22 = .ok (.ifCond .lt 151, 3) := by decide +kernel
theorem dL_draws_25 : decode cL_draws 25 = .ok (.iload_n 1, 1) := by decide +kernel
theorem dL_draws_26 : decode cL_draws 26 = .ok (.iconst 2, 1) := by decide +kernel
theorem dL_draws_27 : decode cL_draws 27 = .ok (.iload 6, 2) := by decide +kernel
theorem dL_draws_29 : decode cL_draws 29 = .ok (.imul, 1) := by decide +kernel
theorem dL_draws_30 : decode cL_draws 30 = .ok (.bipush 25, 2) := by decide +kernel
theorem dL_draws_32 : decode cL_draws 32 = .ok (.irem, 1) := by decide +kernel
theorem dL_draws_33 : decode cL_draws 33 = .ok (.ishr, 1) := by decide +kernel
theorem dL_draws_34 : decode cL_draws 34 = .ok (.bipush 7, 2) := by decide +kernel
theorem dL_draws_36 : decode cL_draws 36 = .ok (.iand, 1) := by decide +kernel
theorem dL_draws_37 : decode cL_draws 37 = .ok (.iconst 4, 1) := by decide +kernel
theorem dL_draws_38 : decode cL_draws 38 = .ok (.irem, 1) := by decide +kernel
theorem dL_draws_39 : decode cL_draws 39 = .ok (.istore 8, 2) := by decide +kernel
theorem dL_draws_41 : decode cL_draws 41 = .ok (.iload 6, 2) := by decide +kernel
theorem dL_draws_43 : decode cL_draws 43 = .ok (.ifCond .ne 12, 3) := by decide +kernel
theorem dL_draws_46 : decode cL_draws 46 = .ok (.iload 8, 2) := by decide +kernel
theorem dL_draws_48 : decode cL_draws 48 = .ok (.ifCond .ne 7, 3) := by decide +kernel
theorem dL_draws_51 : decode cL_draws 51 = .ok (.iconst 2, 1) := by decide +kernel
theorem dL_draws_52 : decode cL_draws 52 = .ok (.goto 5, 3) := by decide +kernel
theorem dL_draws_55 : decode cL_draws 55 = .ok (.iload 8, 2) := by decide +kernel
theorem dL_draws_57 : decode cL_draws 57 = .ok (.istore 8, 2) := by decide +kernel
theorem dL_draws_59 : decode cL_draws 59 = .ok (.iload 5, 2) := by decide +kernel
theorem dL_draws_61 : decode cL_draws 61 = .ok (.iconst 4, 1) := by decide +kernel
theorem dL_draws_62 : decode cL_draws 62 = .ok (.if_icmp .gt 15, 3) := by decide +kernel
theorem dL_draws_65 : decode cL_draws 65 = .ok (.iload 6, 2) := by decide +kernel
theorem dL_draws_67 : decode cL_draws 67 = .ok (.iload 7, 2) := by decide +kernel
theorem dL_draws_69 : decode cL_draws 69 = .ok (.iadd, 1) := by decide +kernel
theorem dL_draws_70 : decode cL_draws 70 = .ok (.iload 8, 2) := by decide +kernel
theorem dL_draws_72 : decode cL_draws 72 = .ok (.iadd, 1) := by decide +kernel
theorem dL_draws_73 : decode cL_draws 73 = .ok (.iload_n 3, 1) := by decide +kernel
theorem dL_draws_74 : decode cL_draws 74 = .ok (.if_icmp .le 7, 3) := by decide +kernel
theorem dL_draws_77 : decode cL_draws 77 = .ok (.iconst 0, 1) := by decide +kernel
theorem dL_draws_78 : decode cL_draws 78 = .ok (.goto 5, 3) := by decide +kernel
theorem dL_draws_81 : decode cL_draws 81 = .ok (.iload 8, 2) := by decide +kernel
theorem dL_draws_83 : decode cL_draws 83 = .ok (.istore 8, 2) := by decide +kernel
theorem dL_draws_85 : decode cL_draws 85 = .ok (.aload_n 0, 1) := by decide +kernel
theorem dL_draws_86 : decode cL_draws 86 = .ok (.iconst 2, 1) := by decide +kernel
theorem dL_draws_87 : decode cL_draws 87 = .ok (.iload 6, 2) := by decide +kernel
theorem dL_draws_89 : decode cL_draws 89 = .ok (.imul, 1) := by decide +kernel
theorem dL_draws_90 : decode cL_draws 90 = .ok (.iload_n 2, 1) := by decide +kernel
theorem dL_draws_91 : decode cL_draws 91 = .ok (.iconst 3, 1) := by decide +kernel
theorem dL_draws_92 : decode cL_draws 92 = .ok (.iload 6, 2) := by decide +kernel
theorem dL_draws_94 : decode cL_draws 94 = .ok (.imul, 1) := by decide +kernel
theorem dL_draws_95 : decode cL_draws 95 = .ok (.bipush 28, 2) := by decide +kernel
theorem dL_draws_97 : decode cL_draws 97 = .ok (.irem, 1) := by decide +kernel
theorem dL_draws_98 : decode cL_draws 98 = .ok (.ishr, 1) := by decide +kernel
theorem dL_draws_99 : decode cL_draws 99 = .ok (.bipush 7, 2) := by decide +kernel
theorem dL_draws_101 : decode cL_draws 101 = .ok (.iand, 1) := by decide +kernel
theorem dL_draws_102 : decode cL_draws 102 = .ok (.iconst 3, 1) := by decide +kernel
theorem dL_draws_103 : decode cL_draws 103 = .ok (.irem, 1) := by decide +kernel
theorem dL_draws_104 : decode cL_draws 104 = .ok (.iastore, 1) := by decide +kernel
theorem dL_draws_105 : decode cL_draws 105 = .ok (.aload_n 0, 1) := by decide +kernel
theorem dL_draws_106 : decode cL_draws 106 = .ok (.iconst 2, 1) := by decide +kernel
theorem dL_draws_107 : decode cL_draws 107 = .ok (.iload 6, 2) := by decide +kernel
theorem dL_draws_109 : decode cL_draws 109 = .ok (.imul, 1) := by decide +kernel
theorem dL_draws_110 : decode cL_draws 110 = .ok (.iconst 1, 1) := by decide +kernel
theorem dL_draws_111 : decode cL_draws 111 = .ok (.iadd, 1) := by decide +kernel
theorem dL_draws_112 : decode cL_draws 112 = .ok (.iload 8, 2) := by decide +kernel
theorem dL_draws_114 : decode cL_draws 114 = .ok (.iastore, 1) := by decide +kernel
theorem dL_draws_115 : decode cL_draws 115 = .ok (.iinc 6 1, 3) := by decide +kernel
theorem dL_draws_118 : decode cL_draws 118 = .ok (.iload 7, 2) := by decide +kernel
theorem dL_draws_120 : decode cL_draws 120 = .ok (.iload 8, 2) := by decide +kernel
theorem dL_draws_122 : decode cL_draws 122 = .ok (.iconst 1, 1) := by decide +kernel
theorem dL_draws_123 : decode cL_draws 123 = .ok (.isub, 1) := by decide +kernel
theorem dL_draws_124 : decode cL_draws 124 = .ok (.iadd, 1) := by decide +kernel
theorem dL_draws_125 : decode cL_draws 125 = .ok (.istore 7, 2) := by decide +kernel
theorem dL_draws_127 : decode cL_draws 127 = .ok (.aload 4, 2) := by decide +kernel
theorem dL_draws_129 : decode cL_draws 129 = .ok (.iload 5, 2) := by decide +kernel
theorem dL_draws_131 : decode cL_draws 131 = .ok (.dup2, 1) := by decide +kernel
theorem dL_draws_132 : decode cL_draws 132 = .ok (.iaload, 1) := by decide +kernel
theorem dL_draws_133 : decode cL_draws 133 = .ok (.iconst 1, 1) := by decide +kernel
theorem dL_draws_134 : decode cL_draws 134 = .ok (.isub, 1) := by decide +kernel
theorem dL_draws_135 : decode cL_draws 135 = .ok (.iastore, 1) := by decide +kernel
theorem dL_draws_136 : decode cL_draws 136 = .ok (.iload 8, 2) := by decide +kernel
theorem dL_draws_138 : decode cL_draws 138 = .ok (.ifCond .le 13, 3) := by decide +kernel
theorem dL_draws_141 : decode cL_draws 141 = .ok (.iinc 5 1, 3) := by decide +kernel
theorem dL_draws_144 : decode cL_draws 144 = .ok (.aload 4, 2) := by decide +kernel
theorem dL_draws_146 : decode cL_draws 146 = .ok (.iload 5, 2) := by decide +kernel
theorem dL_draws_148 : decode cL_draws 148 = .ok (.iload 8, 2) := by decide +kernel
theorem dL_draws_150 : decode cL_draws 150 = .ok (.iastore, 1) := by decide +kernel
theorem dL_draws_151 : decode cL_draws 151 = .ok (.iload 5, 2) := by decide +kernel
theorem dL_draws_153 : decode cL_draws 153 = .ok (.ifCond .lt 17, 3) := by decide +kernel
theorem dL_draws_156 : decode cL_draws 156 = .ok (.aload 4, 2) := by decide +kernel
theorem dL_draws_158 : decode cL_draws 158 = .ok (.iload 5, 2) := by decide +kernel
theorem dL_draws_160 : decode cL_draws 160 = .ok (.iaload, 1) := by decide +kernel
theorem dL_draws_161 : decode cL_draws 161 = .ok (.ifCond .ne 9, 3) := by decide +kernel
theorem dL_draws_164 : decode cL_draws 164 = .ok (.iinc 5 (-1), 3) := by decide +kernel
theorem dL_draws_167 : decode cL_draws 167 = .ok (.goto (-16), 3) := by decide +kernel
theorem dL_draws_170 : decode cL_draws 170 = .ok (.goto (-150), 3) := by decide +kernel
theorem dL_draws_173 : decode cL_draws 173 = .ok (.aload_n 0, 1) := by decide +kernel
theorem dL_draws_174 : decode cL_draws 174 = .ok (.bipush 62, 2) := by decide +kernel
theorem dL_draws_176 : decode cL_draws 176 = .ok (.iload 6, 2) := by decide +kernel
theorem dL_draws_178 : decode cL_draws 178 = .ok (.iastore, 1) := by decide +kernel
theorem dL_draws_179 : decode cL_draws 179 = .ok (.return_, 1) := by decide +kernel
theorem dL_types_0 : decode cL_types 0 = .ok (.bipush 8, 2) := by decide +kernel
theorem dL_types_2 : decode cL_types 2 = .ok (.newarray .int, 2) := by decide +kernel
theorem dL_types_4 : decode cL_types 4 = .ok (.astore_n 2, 1) := by decide +kernel
theorem dL_types_5 : decode cL_types 5 = .ok (.iconst 0, 1) := by decide +kernel
theorem dL_types_6 : decode cL_types 6 = .ok (.istore_n 3, 1) := by decide +kernel
theorem dL_types_7 : decode cL_types 7 = .ok (.iconst 1, 1) := by decide +kernel
theorem dL_types_8 : decode cL_types 8 = .ok (.istore 4, 2) := by decide +kernel
theorem dL_types_10 : decode cL_types 10 = .ok (.iconst 0, 1) := by decide +kernel
theorem dL_types_11 : decode cL_types 11 = .ok (.istore 5, 2) := by decide +kernel
theorem dL_types_13 : decode cL_types 13 = .ok (.iload 5, 2) := by decide +kernel
theorem dL_types_15 : decode cL_types 15 = .ok (.aload_n 1, 1) := by decide +kernel
theorem dL_types_16 : decode cL_types 16 = .ok (.bipush 62, 2) := by decide +kernel
theorem dL_types_18 : decode cL_types 18 = .ok (.iaload, 1) := by decide +kernel
theorem dL_types_19 : decode cL_types 19 = .ok (.if_icmp .ge 162, 3) := by decide +kernel
theorem dL_types_22 : decode cL_types 22 = .ok (.iload 4, 2) := by decide +kernel
theorem dL_types_24 : decode cL_types 24 = .ok (.ifCond .eq 157, 3) := by decide +kernel
theorem dL_types_27 : decode cL_types 27 = .ok (.aload_n 0, 1) := by decide +kernel
theorem dL_types_28 : decode cL_types 28 = .ok (.bipush 97, 2) := by decide +kernel
theorem dL_types_30 : decode cL_types 30 = .ok (.aload_n 1, 1) := by decide +kernel
theorem dL_types_31 : decode cL_types 31 = .ok (.iconst 2, 1) := by decide +kernel
theorem dL_types_32 : decode cL_types 32 = .ok (.iload 5, 2) := by decide +kernel
theorem dL_types_34 : decode cL_types 34 = .ok (.imul, 1) := by decide +kernel
theorem dL_types_35 : decode cL_types 35 = .ok (.iaload, 1) := by decide +kernel
theorem dL_types_36 : decode cL_types 36 = .ok (.iadd, 1) := by decide +kernel
theorem dL_types_37 : decode cL_types 37 = .ok (.invokevirtual 9, 3) := by decide +kernel
theorem dL_types_40 : decode cL_types 40 = .ok (.ifCond .le 7, 3) := by decide +kernel
theorem dL_types_43 : decode cL_types 43 = .ok (.iconst 1, 1) := by decide +kernel
theorem dL_types_44 : decode cL_types 44 = .ok (.goto 4, 3) := by decide +kernel
theorem dL_types_47 : decode cL_types 47 = .ok (.iconst 0, 1) := by decide +kernel
theorem dL_types_48 : decode cL_types 48 = .ok (.istore 4, 2) := by decide +kernel
theorem dL_types_50 : decode cL_types 50 = .ok (.aload_n 1, 1) := by decide +kernel
theorem dL_types_51 : decode cL_types 51 = .ok (.iconst 2, 1) := by decide +kernel
theorem dL_types_52 : decode cL_types 52 = .ok (.iload 5, 2) := by decide +kernel
theorem dL_types_54 : decode cL_types 54 = .ok (.imul, 1) := by decide +kernel
theorem dL_types_55 : decode cL_types 55 = .ok (.iconst 1, 1) := by decide +kernel
theorem dL_types_56 : decode cL_types 56 = .ok (.iadd, 1) := by decide +kernel
theorem dL_types_57 : decode cL_types 57 = .ok (.iaload, 1) := by decide +kernel
theorem dL_types_58 : decode cL_types 58 = .ok (.ifCond .le 41, 3) := by decide +kernel
theorem dL_types_61 : decode cL_types 61 = .ok (.iload 4, 2) := by decide +kernel
theorem dL_types_63 : decode cL_types 63 = .ok (.ifCond .eq 16, 3) := by decide +kernel
theorem dL_types_66 : decode cL_types 66 = .ok (.aload_n 0, 1) := by decide +kernel
theorem dL_types_67 : decode cL_types 67 = .ok (.bipush 40, 2) := by decide +kernel
theorem dL_types_69 : decode cL_types 69 = .ok (.invokevirtual 9, 3) := by decide +kernel
theorem dL_types_72 : decode cL_types 72 = .ok (.ifCond .le 7, 3) := by decide +kernel
theorem dL_types_75 : decode cL_types 75 = .ok (.iconst 1, 1) := by decide +kernel
theorem dL_types_76 : decode cL_types 76 = .ok (.goto 4, 3) := by decide +kernel
theorem dL_types_79 : decode cL_types 79 = .ok (.iconst 0, 1) := by decide +kernel
theorem dL_types_80 : decode cL_types 80 = .ok (.istore 4, 2) := by decide +kernel
theorem dL_types_82 : decode cL_types 82 = .ok (.iinc 3 1, 3) := by decide +kernel
theorem dL_types_85 : decode cL_types 85 = .ok (.aload_n 2, 1) := by decide +kernel
theorem dL_types_86 : decode cL_types 86 = .ok (.iload_n 3, 1) := by decide +kernel
theorem dL_types_87 : decode cL_types 87 = .ok (.aload_n 1, 1) := by decide +kernel
theorem dL_types_88 : decode cL_types 88 = .ok (.iconst 2, 1) := by decide +kernel
theorem dL_types_89 : decode cL_types 89 = .ok (.iload 5, 2) := by decide +kernel
theorem dL_types_91 : decode cL_types 91 = .ok (.imul, 1) := by decide +kernel
theorem dL_types_92 : decode cL_types 92 = .ok (.iconst 1, 1) := by decide +kernel
theorem dL_types_93 : decode cL_types 93 = .ok (.iadd, 1) := by decide +kernel
theorem dL_types_94 : decode cL_types 94 = .ok (.iaload, 1) := by decide +kernel
theorem dL_types_95 : decode cL_types 95 = .ok (.iastore, 1) := by decide +kernel
theorem dL_types_96 : decode cL_types 96 = .ok (.goto 79, 3) := by decide +kernel
theorem dL_types_99 : decode cL_types 99 = .ok (.aload_n 2, 1) := by decide +kernel
theorem dL_types_100 : decode cL_types 100 = .ok (.iload_n 3, 1) := by decide +kernel
theorem dL_types_101 : decode cL_types 101 = .ok (.dup2, 1) := by decide +kernel
theorem dL_types_102 : decode cL_types 102 = .ok (.iaload, 1) := by decide +kernel
theorem dL_types_103 : decode cL_types 103 = .ok (.iconst 1, 1) := by decide +kernel
theorem dL_types_104 : decode cL_types 104 = .ok (.isub, 1) := by decide +kernel
theorem dL_types_105 : decode cL_types 105 = .ok (.iastore, 1) := by decide +kernel
theorem dL_types_106 : decode cL_types 106 = .ok (.iload_n 3, 1) := by decide +kernel
theorem dL_types_107 : decode cL_types 107 = .ok (.ifCond .le 43, 3) := by decide +kernel
theorem dL_types_110 : decode cL_types 110 = .ok (.aload_n 2, 1) := by decide +kernel
theorem dL_types_111 : decode cL_types 111 = .ok (.iload_n 3, 1) := by decide +kernel
theorem dL_types_112 : decode cL_types 112 = .ok (.iaload, 1) := by decide +kernel
theorem dL_types_113 : decode cL_types 113 = .ok (.ifCond .ne 37, 3) := by decide +kernel
theorem dL_types_116 : decode cL_types 116 = .ok (.iload 4, 2) := by decide +kernel
theorem dL_types_118 : decode cL_types 118 = .ok (.ifCond .eq 16, 3) := by decide +kernel
theorem dL_types_121 : decode cL_types 121 = .ok (.aload_n 0, 1) := by decide +kernel
theorem dL_types_122 : decode cL_types 122 = .ok (.bipush 41, 2) := by decide +kernel
theorem dL_types_124 : decode cL_types 124 = .ok (.invokevirtual 9, 3) := by decide +kernel
theorem dL_types_127 : decode cL_types 127 = .ok (.ifCond .le 7, 3) := by decide +kernel
theorem dL_types_130 : decode cL_types 130 = .ok (.iconst 1, 1) := by decide +kernel
theorem dL_types_131 : decode cL_types 131 = .ok (.goto 4, 3) := by decide +kernel
theorem dL_types_134 : decode cL_types 134 = .ok (.iconst 0, 1) := by decide +kernel
theorem dL_types_135 : decode cL_types 135 = .ok (.istore 4, 2) := by decide +kernel
theorem dL_types_137 : decode cL_types 137 = .ok (.iinc 3 (-1), 3) := by decide +kernel
theorem dL_types_140 : decode cL_types 140 = .ok (.aload_n 2, 1) := by decide +kernel
theorem dL_types_141 : decode cL_types 141 = .ok (.iload_n 3, 1) := by decide +kernel
theorem dL_types_142 : decode cL_types 142 = .ok (.dup2, 1) := by decide +kernel
theorem dL_types_143 : decode cL_types 143 = .ok (.iaload, 1) := by decide +kernel
theorem dL_types_144 : decode cL_types 144 = .ok (.iconst 1, 1) := by decide +kernel
theorem dL_types_145 : decode cL_types 145 = .ok (.isub, 1) := by decide +kernel
theorem dL_types_146 : decode cL_types 146 = .ok (.iastore, 1) := by decide +kernel
theorem dL_types_147 : decode cL_types 147 = .ok (.goto (-41), 3) := by decide +kernel
theorem dL_types_150 : decode cL_types 150 = .ok (.iload 4, 2) := by decide +kernel
theorem dL_types_152 : decode cL_types 152 = .ok (.ifCond .eq 20, 3) := by decide +kernel
theorem dL_types_155 : decode cL_types 155 = .ok (.iload_n 3, 1) := by decide +kernel
theorem dL_types_156 : decode cL_types 156 = .ok (.ifCond .eq 12, 3) := by decide +kernel
theorem dL_types_159 : decode cL_types 159 = .ok (.aload_n 0, 1) := by decide +kernel
theorem dL_types_160 : decode cL_types 160 = .ok (.bipush 44, 2) := by decide +kernel
theorem dL_types_162 : decode cL_types 162 = .ok (.invokevirtual 9, 3) := by decide +kernel
theorem dL_types_165 : decode cL_types 165 = .ok (.ifCond .le 7, 3) := by decide +kernel
theorem dL_types_168 : decode cL_types 168 = .ok (.iconst 1, 1) := by decide +kernel
theorem dL_types_169 : decode cL_types 169 = .ok (.goto 4, 3) := by decide +kernel
theorem dL_types_172 : decode cL_types 172 = .ok (.iconst 0, 1) := by decide +kernel
theorem dL_types_173 : decode cL_types 173 = .ok (.istore 4, 2) := by decide +kernel
theorem dL_types_175 : decode cL_types 175 = .ok (.iinc 5 1, 3) := by decide +kernel
theorem dL_types_178 : decode cL_types 178 = .ok (.goto (-165), 3) := by decide +kernel
theorem dL_types_181 : decode cL_types 181 = .ok (.iload 4, 2) := by decide +kernel
theorem dL_types_183 : decode cL_types 183 = .ok (.ireturn, 1) := by decide +kernel
theorem dL_puts_0 : decode cL_puts 0 = .ok (.aload_n 0, 1) := by decide +kernel
theorem dL_puts_1 : decode cL_puts 1 = .ok (.invokevirtual 15, 3) := by decide +kernel
theorem dL_puts_4 : decode cL_puts 4 = .ok (.ifCond .lt 27, 3) := by decide +kernel
theorem dL_puts_7 : decode cL_puts 7 = .ok (.aload_n 0, 1) := by decide +kernel
theorem dL_puts_8 : decode cL_puts 8 = .ok (.aload_n 2, 1) := by decide +kernel
theorem dL_puts_9 : decode cL_puts 9 = .ok (.invokestatic 19, 3) := by decide +kernel
theorem dL_puts_12 : decode cL_puts 12 = .ok (.ifCond .eq 19, 3) := by decide +kernel
theorem dL_puts_15 : decode cL_puts 15 = .ok (.aload_n 0, 1) := by decide +kernel
theorem dL_puts_16 : decode cL_puts 16 = .ok (.iload_n 1, 1) := by decide +kernel
theorem dL_puts_17 : decode cL_puts 17 = .ok (.invokevirtual 25, 3) := by decide +kernel
theorem dL_puts_20 : decode cL_puts 20 = .ok (.aload_n 2, 1) := by decide +kernel
theorem dL_puts_21 : decode cL_puts 21 = .ok (.bipush 62, 2) := by decide +kernel
theorem dL_puts_23 : decode cL_puts 23 = .ok (.iaload, 1) := by decide +kernel
theorem dL_puts_24 : decode cL_puts 24 = .ok (.if_icmp .ne 7, 3) := by decide +kernel
theorem dL_puts_27 : decode cL_puts 27 = .ok (.iconst 1, 1) := by decide +kernel
theorem dL_puts_28 : decode cL_puts 28 = .ok (.goto 4, 3) := by decide +kernel
theorem dL_puts_31 : decode cL_puts 31 = .ok (.iconst 0, 1) := by decide +kernel
theorem dL_puts_32 : decode cL_puts 32 = .ok (.ireturn, 1) := by decide +kernel
theorem dL_joins_0 : decode cL_joins 0 = .ok (.aload_n 0, 1) := by decide +kernel
theorem dL_joins_1 : decode cL_joins 1 = .ok (.iconst 0, 1) := by decide +kernel
theorem dL_joins_2 : decode cL_joins 2 = .ok (.iconst 1, 1) := by decide +kernel
theorem dL_joins_3 : decode cL_joins 3 = .ok (.iconst 3, 1) := by decide +kernel
theorem dL_joins_4 : decode cL_joins 4 = .ok (.invokevirtual 32, 3) := by decide +kernel
theorem dL_joins_7 : decode cL_joins 7 = .ok (.istore_n 2, 1) := by decide +kernel
theorem dL_joins_8 : decode cL_joins 8 = .ok (.iload_n 2, 1) := by decide +kernel
theorem dL_joins_9 : decode cL_joins 9 = .ok (.bipush (-3), 2) := by decide +kernel
theorem dL_joins_11 : decode cL_joins 11 = .ok (.if_icmp .ne 33, 3) := by decide +kernel
theorem dL_joins_14 : decode cL_joins 14 = .ok (.aload_n 0, 1) := by decide +kernel
theorem dL_joins_15 : decode cL_joins 15 = .ok (.iconst 1, 1) := by decide +kernel
theorem dL_joins_16 : decode cL_joins 16 = .ok (.iconst 0, 1) := by decide +kernel
theorem dL_joins_17 : decode cL_joins 17 = .ok (.iconst 4, 1) := by decide +kernel
theorem dL_joins_18 : decode cL_joins 18 = .ok (.invokevirtual 32, 3) := by decide +kernel
theorem dL_joins_21 : decode cL_joins 21 = .ok (.bipush (-3), 2) := by decide +kernel
theorem dL_joins_23 : decode cL_joins 23 = .ok (.if_icmp .ne 19, 3) := by decide +kernel
theorem dL_joins_26 : decode cL_joins 26 = .ok (.aload_n 0, 1) := by decide +kernel
theorem dL_joins_27 : decode cL_joins 27 = .ok (.iconst 3, 1) := by decide +kernel
theorem dL_joins_28 : decode cL_joins 28 = .ok (.iconst 0, 1) := by decide +kernel
theorem dL_joins_29 : decode cL_joins 29 = .ok (.iconst 0, 1) := by decide +kernel
theorem dL_joins_30 : decode cL_joins 30 = .ok (.invokevirtual 36, 3) := by decide +kernel
theorem dL_joins_33 : decode cL_joins 33 = .ok (.bipush (-2), 2) := by decide +kernel
theorem dL_joins_35 : decode cL_joins 35 = .ok (.if_icmp .ne 7, 3) := by decide +kernel
theorem dL_joins_38 : decode cL_joins 38 = .ok (.iconst 1, 1) := by decide +kernel
theorem dL_joins_39 : decode cL_joins 39 = .ok (.goto 4, 3) := by decide +kernel
theorem dL_joins_42 : decode cL_joins 42 = .ok (.iconst 0, 1) := by decide +kernel
theorem dL_joins_43 : decode cL_joins 43 = .ok (.ireturn, 1) := by decide +kernel
theorem dL_joins_44 : decode cL_joins 44 = .ok (.iload_n 2, 1) := by decide +kernel
theorem dL_joins_45 : decode cL_joins 45 = .ok (.ifCond .le 69, 3) := by decide +kernel
theorem dL_joins_48 : decode cL_joins 48 = .ok (.aload_n 0, 1) := by decide +kernel
theorem dL_joins_49 : decode cL_joins 49 = .ok (.iconst 3, 1) := by decide +kernel
theorem dL_joins_50 : decode cL_joins 50 = .ok (.iconst 0, 1) := by decide +kernel
theorem dL_joins_51 : decode cL_joins 51 = .ok (.invokevirtual 39, 3) := by decide +kernel
theorem dL_joins_54 : decode cL_joins 54 = .ok (.iconst 1, 1) := by decide +kernel
theorem dL_joins_55 : decode cL_joins 55 = .ok (.if_icmp .ne 59, 3) := by decide +kernel
theorem dL_joins_58 : decode cL_joins 58 = .ok (.aload_n 0, 1) := by decide +kernel
theorem dL_joins_59 : decode cL_joins 59 = .ok (.iconst 3, 1) := by decide +kernel
theorem dL_joins_60 : decode cL_joins 60 = .ok (.iconst 1, 1) := by decide +kernel
theorem dL_joins_61 : decode cL_joins 61 = .ok (.invokevirtual 39, 3) := by decide +kernel
theorem dL_joins_64 : decode cL_joins 64 = .ok (.iconst 1, 1) := by decide +kernel
theorem dL_joins_65 : decode cL_joins 65 = .ok (.if_icmp .ne 49, 3) := by decide +kernel
theorem dL_joins_68 : decode cL_joins 68 = .ok (.aload_n 0, 1) := by decide +kernel
theorem dL_joins_69 : decode cL_joins 69 = .ok (.iconst 1, 1) := by decide +kernel
theorem dL_joins_70 : decode cL_joins 70 = .ok (.iconst 0, 1) := by decide +kernel
theorem dL_joins_71 : decode cL_joins 71 = .ok (.iconst 4, 1) := by decide +kernel
theorem dL_joins_72 : decode cL_joins 72 = .ok (.invokevirtual 32, 3) := by decide +kernel
theorem dL_joins_75 : decode cL_joins 75 = .ok (.iload_n 2, 1) := by decide +kernel
theorem dL_joins_76 : decode cL_joins 76 = .ok (.if_icmp .ne 38, 3) := by decide +kernel
theorem dL_joins_79 : decode cL_joins 79 = .ok (.aload_n 0, 1) := by decide +kernel
theorem dL_joins_80 : decode cL_joins 80 = .ok (.iconst 3, 1) := by decide +kernel
theorem dL_joins_81 : decode cL_joins 81 = .ok (.iconst 4, 1) := by decide +kernel
theorem dL_joins_82 : decode cL_joins 82 = .ok (.invokevirtual 43, 3) := by decide +kernel
theorem dL_joins_85 : decode cL_joins 85 = .ok (.ifCond .ne 29, 3) := by decide +kernel
theorem dL_joins_88 : decode cL_joins 88 = .ok (.aload_n 0, 1) := by decide +kernel
theorem dL_joins_89 : decode cL_joins 89 = .ok (.iconst 3, 1) := by decide +kernel
theorem dL_joins_90 : decode cL_joins 90 = .ok (.iconst 0, 1) := by decide +kernel
theorem dL_joins_91 : decode cL_joins 91 = .ok (.iconst 1, 1) := by decide +kernel
theorem dL_joins_92 : decode cL_joins 92 = .ok (.invokevirtual 46, 3) := by decide +kernel
theorem dL_joins_95 : decode cL_joins 95 = .ok (.iconst 1, 1) := by decide +kernel
theorem dL_joins_96 : decode cL_joins 96 = .ok (.if_icmp .ne 18, 3) := by decide +kernel
theorem dL_joins_99 : decode cL_joins 99 = .ok (.aload_n 0, 1) := by decide +kernel
theorem dL_joins_100 : decode cL_joins 100 = .ok (.iconst 4, 1) := by decide +kernel
theorem dL_joins_101 : decode cL_joins 101 = .ok (.iconst 0, 1) := by decide +kernel
theorem dL_joins_102 : decode cL_joins 102 = .ok (.iconst 1, 1) := by decide +kernel
theorem dL_joins_103 : decode cL_joins 103 = .ok (.invokevirtual 46, 3) := by decide +kernel
theorem dL_joins_106 : decode cL_joins 106 = .ok (.iconst 1, 1) := by decide +kernel
theorem dL_joins_107 : decode cL_joins 107 = .ok (.if_icmp .ne 7, 3) := by decide +kernel
theorem dL_joins_110 : decode cL_joins 110 = .ok (.iconst 1, 1) := by decide +kernel
theorem dL_joins_111 : decode cL_joins 111 = .ok (.goto 4, 3) := by decide +kernel
theorem dL_joins_114 : decode cL_joins 114 = .ok (.iconst 0, 1) := by decide +kernel
theorem dL_joins_115 : decode cL_joins 115 = .ok (.istore_n 3, 1) := by decide +kernel
theorem dL_joins_116 : decode cL_joins 116 = .ok (.iload_n 3, 1) := by decide +kernel
theorem dL_joins_117 : decode cL_joins 117 = .ok (.ifCond .eq 54, 3) := by decide +kernel
theorem dL_joins_120 : decode cL_joins 120 = .ok (.aload_n 0, 1) := by decide +kernel
theorem dL_joins_121 : decode cL_joins 121 = .ok (.iconst 0, 1) := by decide +kernel
theorem dL_joins_122 : decode cL_joins 122 = .ok (.iconst 0, 1) := by decide +kernel
theorem dL_joins_123 : decode cL_joins 123 = .ok (.iconst 4, 1) := by decide +kernel
theorem dL_joins_124 : decode cL_joins 124 = .ok (.invokevirtual 32, 3) := by decide +kernel
theorem dL_joins_127 : decode cL_joins 127 = .ok (.aload_n 0, 1) := by decide +kernel
theorem dL_joins_128 : decode cL_joins 128 = .ok (.iconst 0, 1) := by decide +kernel
theorem dL_joins_129 : decode cL_joins 129 = .ok (.iconst 0, 1) := by decide +kernel
theorem dL_joins_130 : decode cL_joins 130 = .ok (.invokevirtual 49, 3) := by decide +kernel
theorem dL_joins_133 : decode cL_joins 133 = .ok (.if_icmp .ne 38, 3) := by decide +kernel
theorem dL_joins_136 : decode cL_joins 136 = .ok (.aload_n 0, 1) := by decide +kernel
theorem dL_joins_137 : decode cL_joins 137 = .ok (.iconst 4, 1) := by decide +kernel
theorem dL_joins_138 : decode cL_joins 138 = .ok (.iconst 0, 1) := by decide +kernel
theorem dL_joins_139 : decode cL_joins 139 = .ok (.invokevirtual 43, 3) := by decide +kernel
theorem dL_joins_142 : decode cL_joins 142 = .ok (.ifCond .ne 29, 3) := by decide +kernel
theorem dL_joins_145 : decode cL_joins 145 = .ok (.aload_n 0, 1) := by decide +kernel
theorem dL_joins_146 : decode cL_joins 146 = .ok (.iconst 4, 1) := by decide +kernel
theorem dL_joins_147 : decode cL_joins 147 = .ok (.iconst 2, 1) := by decide +kernel
theorem dL_joins_148 : decode cL_joins 148 = .ok (.invokevirtual 49, 3) := by decide +kernel
theorem dL_joins_151 : decode cL_joins 151 = .ok (.ifCond .ne 20, 3) := by decide +kernel
theorem dL_joins_154 : decode cL_joins 154 = .ok (.aload_n 0, 1) := by decide +kernel
theorem dL_joins_155 : decode cL_joins 155 = .ok (.iconst 3, 1) := by decide +kernel
theorem dL_joins_156 : decode cL_joins 156 = .ok (.invokevirtual 52, 3) := by decide +kernel
theorem dL_joins_159 : decode cL_joins 159 = .ok (.bipush 27, 2) := by decide +kernel
theorem dL_joins_161 : decode cL_joins 161 = .ok (.iand, 1) := by decide +kernel
theorem dL_joins_162 : decode cL_joins 162 = .ok (.bipush 27, 2) := by decide +kernel
theorem dL_joins_164 : decode cL_joins 164 = .ok (.if_icmp .ne 7, 3) := by decide +kernel
theorem dL_joins_167 : decode cL_joins 167 = .ok (.iconst 1, 1) := by decide +kernel
theorem dL_joins_168 : decode cL_joins 168 = .ok (.goto 4, 3) := by decide +kernel
theorem dL_joins_171 : decode cL_joins 171 = .ok (.iconst 0, 1) := by decide +kernel
theorem dL_joins_172 : decode cL_joins 172 = .ok (.istore_n 3, 1) := by decide +kernel
theorem dL_joins_173 : decode cL_joins 173 = .ok (.iconst 0, 1) := by decide +kernel
theorem dL_joins_174 : decode cL_joins 174 = .ok (.istore 4, 2) := by decide +kernel
theorem dL_joins_176 : decode cL_joins 176 = .ok (.iload 4, 2) := by decide +kernel
theorem dL_joins_178 : decode cL_joins 178 = .ok (.bipush 10, 2) := by decide +kernel
theorem dL_joins_180 : decode cL_joins 180 = .ok (.if_icmp .ge 103, 3) := by decide +kernel
theorem dL_joins_183 : decode cL_joins 183 = .ok (.iload_n 3, 1) := by decide +kernel
theorem dL_joins_184 : decode cL_joins 184 = .ok (.ifCond .eq 99, 3) := by decide +kernel
theorem dL_joins_187 : decode cL_joins 187 = .ok (.aload_n 0, 1) := by decide +kernel
theorem dL_joins_188 : decode cL_joins 188 = .ok (.iconst 3, 1) := by decide +kernel
theorem dL_joins_189 : decode cL_joins 189 = .ok (.iconst 0, 1) := by decide +kernel
theorem dL_joins_190 : decode cL_joins 190 = .ok (.iload 4, 2) := by decide +kernel
theorem dL_joins_192 : decode cL_joins 192 = .ok (.iconst 0, 1) := by decide +kernel
theorem dL_joins_193 : decode cL_joins 193 = .ok (.invokevirtual 55, 3) := by decide +kernel
theorem dL_joins_196 : decode cL_joins 196 = .ok (.aload_n 0, 1) := by decide +kernel
theorem dL_joins_197 : decode cL_joins 197 = .ok (.iconst 0, 1) := by decide +kernel
theorem dL_joins_198 : decode cL_joins 198 = .ok (.iconst 1, 1) := by decide +kernel
theorem dL_joins_199 : decode cL_joins 199 = .ok (.iload 4, 2) := by decide +kernel
theorem dL_joins_201 : decode cL_joins 201 = .ok (.iconst 0, 1) := by decide +kernel
theorem dL_joins_202 : decode cL_joins 202 = .ok (.invokevirtual 59, 3) := by decide +kernel
theorem dL_joins_205 : decode cL_joins 205 = .ok (.if_icmp .ne 70, 3) := by decide +kernel
theorem dL_joins_208 : decode cL_joins 208 = .ok (.aload_n 0, 1) := by decide +kernel
theorem dL_joins_209 : decode cL_joins 209 = .ok (.iconst 3, 1) := by decide +kernel
theorem dL_joins_210 : decode cL_joins 210 = .ok (.iconst 1, 1) := by decide +kernel
theorem dL_joins_211 : decode cL_joins 211 = .ok (.iload 4, 2) := by decide +kernel
theorem dL_joins_213 : decode cL_joins 213 = .ok (.iconst 0, 1) := by decide +kernel
theorem dL_joins_214 : decode cL_joins 214 = .ok (.invokevirtual 55, 3) := by decide +kernel
theorem dL_joins_217 : decode cL_joins 217 = .ok (.aload_n 0, 1) := by decide +kernel
theorem dL_joins_218 : decode cL_joins 218 = .ok (.iconst 0, 1) := by decide +kernel
theorem dL_joins_219 : decode cL_joins 219 = .ok (.iconst 1, 1) := by decide +kernel
theorem dL_joins_220 : decode cL_joins 220 = .ok (.iload 4, 2) := by decide +kernel
theorem dL_joins_222 : decode cL_joins 222 = .ok (.iconst 2, 1) := by decide +kernel
theorem dL_joins_223 : decode cL_joins 223 = .ok (.invokevirtual 59, 3) := by decide +kernel
theorem dL_joins_226 : decode cL_joins 226 = .ok (.if_icmp .ne 49, 3) := by decide +kernel
theorem dL_joins_229 : decode cL_joins 229 = .ok (.aload_n 0, 1) := by decide +kernel
theorem dL_joins_230 : decode cL_joins 230 = .ok (.iconst 3, 1) := by decide +kernel
theorem dL_joins_231 : decode cL_joins 231 = .ok (.iconst 0, 1) := by decide +kernel
theorem dL_joins_232 : decode cL_joins 232 = .ok (.iload 4, 2) := by decide +kernel
theorem dL_joins_234 : decode cL_joins 234 = .ok (.iconst 1, 1) := by decide +kernel
theorem dL_joins_235 : decode cL_joins 235 = .ok (.invokevirtual 55, 3) := by decide +kernel
theorem dL_joins_238 : decode cL_joins 238 = .ok (.aload_n 0, 1) := by decide +kernel
theorem dL_joins_239 : decode cL_joins 239 = .ok (.iconst 0, 1) := by decide +kernel
theorem dL_joins_240 : decode cL_joins 240 = .ok (.iconst 1, 1) := by decide +kernel
theorem dL_joins_241 : decode cL_joins 241 = .ok (.iload 4, 2) := by decide +kernel
theorem dL_joins_243 : decode cL_joins 243 = .ok (.iconst 1, 1) := by decide +kernel
theorem dL_joins_244 : decode cL_joins 244 = .ok (.invokevirtual 59, 3) := by decide +kernel
theorem dL_joins_247 : decode cL_joins 247 = .ok (.if_icmp .ne 28, 3) := by decide +kernel
theorem dL_joins_250 : decode cL_joins 250 = .ok (.aload_n 0, 1) := by decide +kernel
theorem dL_joins_251 : decode cL_joins 251 = .ok (.iconst 3, 1) := by decide +kernel
theorem dL_joins_252 : decode cL_joins 252 = .ok (.iconst 1, 1) := by decide +kernel
theorem dL_joins_253 : decode cL_joins 253 = .ok (.iload 4, 2) := by decide +kernel
theorem dL_joins_255 : decode cL_joins 255 = .ok (.iconst 1, 1) := by decide +kernel
theorem dL_joins_256 : decode cL_joins 256 = .ok (.invokevirtual 55, 3) := by decide +kernel
theorem dL_joins_259 : decode cL_joins 259 = .ok (.aload_n 0, 1) := by decide +kernel
theorem dL_joins_260 : decode cL_joins 260 = .ok (.iconst 0, 1) := by decide +kernel
theorem dL_joins_261 : decode cL_joins 261 = .ok (.iconst 1, 1) := by decide +kernel
theorem dL_joins_262 : decode cL_joins 262 = .ok (.iload 4, 2) := by decide +kernel
theorem dL_joins_264 : decode cL_joins 264 = .ok (.iconst 3, 1) := by decide +kernel
theorem dL_joins_265 : decode cL_joins 265 = .ok (.invokevirtual 59, 3) := by decide +kernel
theorem dL_joins_268 : decode cL_joins 268 = .ok (.if_icmp .ne 7, 3) := by decide +kernel
theorem dL_joins_271 : decode cL_joins 271 = .ok (.iconst 1, 1) := by decide +kernel
theorem dL_joins_272 : decode cL_joins 272 = .ok (.goto 4, 3) := by decide +kernel
theorem dL_joins_275 : decode cL_joins 275 = .ok (.iconst 0, 1) := by decide +kernel
theorem dL_joins_276 : decode cL_joins 276 = .ok (.istore_n 3, 1) := by decide +kernel
theorem dL_joins_277 : decode cL_joins 277 = .ok (.iinc 4 1, 3) := by decide +kernel
theorem dL_joins_280 : decode cL_joins 280 = .ok (.goto (-104), 3) := by decide +kernel
theorem dL_joins_283 : decode cL_joins 283 = .ok (.aload_n 0, 1) := by decide +kernel
theorem dL_joins_284 : decode cL_joins 284 = .ok (.iconst 0, 1) := by decide +kernel
theorem dL_joins_285 : decode cL_joins 285 = .ok (.iconst 3, 1) := by decide +kernel
theorem dL_joins_286 : decode cL_joins 286 = .ok (.invokevirtual 39, 3) := by decide +kernel
theorem dL_joins_289 : decode cL_joins 289 = .ok (.ifCond .ne 7, 3) := by decide +kernel
theorem dL_joins_292 : decode cL_joins 292 = .ok (.iconst 1, 1) := by decide +kernel
theorem dL_joins_293 : decode cL_joins 293 = .ok (.goto 4, 3) := by decide +kernel
theorem dL_joins_296 : decode cL_joins 296 = .ok (.iconst 0, 1) := by decide +kernel
theorem dL_joins_297 : decode cL_joins 297 = .ok (.istore 4, 2) := by decide +kernel
theorem dL_joins_299 : decode cL_joins 299 = .ok (.iload_n 3, 1) := by decide +kernel
theorem dL_joins_300 : decode cL_joins 300 = .ok (.ifCond .eq 49, 3) := by decide +kernel
theorem dL_joins_303 : decode cL_joins 303 = .ok (.aload_n 0, 1) := by decide +kernel
theorem dL_joins_304 : decode cL_joins 304 = .ok (.iconst 3, 1) := by decide +kernel
theorem dL_joins_305 : decode cL_joins 305 = .ok (.iconst 0, 1) := by decide +kernel
theorem dL_joins_306 : decode cL_joins 306 = .ok (.invokevirtual 43, 3) := by decide +kernel
theorem dL_joins_309 : decode cL_joins 309 = .ok (.iload 4, 2) := by decide +kernel
theorem dL_joins_311 : decode cL_joins 311 = .ok (.ifCond .eq 7, 3) := by decide +kernel
theorem dL_joins_314 : decode cL_joins 314 = .ok (.iconst 1, 1) := by decide +kernel
theorem dL_joins_315 : decode cL_joins 315 = .ok (.goto 4, 3) := by decide +kernel
theorem dL_joins_318 : decode cL_joins 318 = .ok (.iconst 0, 1) := by decide +kernel
theorem dL_joins_319 : decode cL_joins 319 = .ok (.if_icmp .ne 30, 3) := by decide +kernel
theorem dL_joins_322 : decode cL_joins 322 = .ok (.aload_n 0, 1) := by decide +kernel
theorem dL_joins_323 : decode cL_joins 323 = .ok (.iconst 0, 1) := by decide +kernel
theorem dL_joins_324 : decode cL_joins 324 = .ok (.iconst 3, 1) := by decide +kernel
theorem dL_joins_325 : decode cL_joins 325 = .ok (.invokevirtual 43, 3) := by decide +kernel
theorem dL_joins_328 : decode cL_joins 328 = .ok (.iload 4, 2) := by decide +kernel
theorem dL_joins_330 : decode cL_joins 330 = .ok (.ifCond .eq 7, 3) := by decide +kernel
theorem dL_joins_333 : decode cL_joins 333 = .ok (.iconst 2, 1) := by decide +kernel
theorem dL_joins_334 : decode cL_joins 334 = .ok (.goto 4, 3) := by decide +kernel
theorem dL_joins_337 : decode cL_joins 337 = .ok (.iconst 0, 1) := by decide +kernel
theorem dL_joins_338 : decode cL_joins 338 = .ok (.if_icmp .ne 11, 3) := by decide +kernel
theorem dL_joins_341 : decode cL_joins 341 = .ok (.iload_n 1, 1) := by decide +kernel
theorem dL_joins_342 : decode cL_joins 342 = .ok (.ifCond .lt 7, 3) := by decide +kernel
theorem dL_joins_345 : decode cL_joins 345 = .ok (.iconst 1, 1) := by decide +kernel
theorem dL_joins_346 : decode cL_joins 346 = .ok (.goto 4, 3) := by decide +kernel
theorem dL_joins_349 : decode cL_joins 349 = .ok (.iconst 0, 1) := by decide +kernel
theorem dL_joins_350 : decode cL_joins 350 = .ok (.ireturn, 1) := by decide +kernel
theorem dL_all_0 : decode cL_all 0 = .ok (.aload_n 0, 1) := by decide +kernel
theorem dL_all_1 : decode cL_all 1 = .ok (.bipush 7, 2) := by decide +kernel
theorem dL_all_3 : decode cL_all 3 = .ok (.iconst 5, 1) := by decide +kernel
theorem dL_all_4 : decode cL_all 4 = .ok (.invokevirtual 62, 3) := by decide +kernel
theorem dL_all_7 : decode cL_all 7 = .ok (.istore_n 1, 1) := by decide +kernel
theorem dL_all_8 : decode cL_all 8 = .ok (.aload_n 0, 1) := by decide +kernel
theorem dL_all_9 : decode cL_all 9 = .ok (.iconst 2, 1) := by decide +kernel
theorem dL_all_10 : decode cL_all 10 = .ok (.iconst 1, 1) := by decide +kernel
theorem dL_all_11 : decode cL_all 11 = .ok (.bipush 6, 2) := by decide +kernel
theorem dL_all_13 : decode cL_all 13 = .ok (.invokevirtual 32, 3) := by decide +kernel
theorem dL_all_16 : decode cL_all 16 = .ok (.istore_n 2, 1) := by decide +kernel
theorem dL_all_17 : decode cL_all 17 = .ok (.iload_n 2, 1) := by decide +kernel
theorem dL_all_18 : decode cL_all 18 = .ok (.ifCond .ge 8, 3) := by decide +kernel
theorem dL_all_21 : decode cL_all 21 = .ok (.bipush (-3), 2) := by decide +kernel
theorem dL_all_23 : decode cL_all 23 = .ok (.goto 12, 3) := by decide +kernel
theorem dL_all_26 : decode cL_all 26 = .ok (.aload_n 0, 1) := by decide +kernel
theorem dL_all_27 : decode cL_all 27 = .ok (.bipush 6, 2) := by decide +kernel
theorem dL_all_29 : decode cL_all 29 = .ok (.iconst 0, 1) := by decide +kernel
theorem dL_all_30 : decode cL_all 30 = .ok (.bipush 7, 2) := by decide +kernel
theorem dL_all_32 : decode cL_all 32 = .ok (.invokevirtual 32, 3) := by decide +kernel
theorem dL_all_35 : decode cL_all 35 = .ok (.istore_n 3, 1) := by decide +kernel
theorem dL_all_36 : decode cL_all 36 = .ok (.iload_n 1, 1) := by decide +kernel
theorem dL_all_37 : decode cL_all 37 = .ok (.ifCond .lt 7, 3) := by decide +kernel
theorem dL_all_40 : decode cL_all 40 = .ok (.iload_n 3, 1) := by decide +kernel
theorem dL_all_41 : decode cL_all 41 = .ok (.ifCond .ge 21, 3) := by decide +kernel
theorem dL_all_44 : decode cL_all 44 = .ok (.iload_n 1, 1) := by decide +kernel
theorem dL_all_45 : decode cL_all 45 = .ok (.bipush (-3), 2) := by decide +kernel
theorem dL_all_47 : decode cL_all 47 = .ok (.if_icmp .eq 9, 3) := by decide +kernel
theorem dL_all_50 : decode cL_all 50 = .ok (.iload_n 3, 1) := by decide +kernel
theorem dL_all_51 : decode cL_all 51 = .ok (.bipush (-3), 2) := by decide +kernel
theorem dL_all_53 : decode cL_all 53 = .ok (.if_icmp .ne 7, 3) := by decide +kernel
theorem dL_all_56 : decode cL_all 56 = .ok (.iconst 1, 1) := by decide +kernel
theorem dL_all_57 : decode cL_all 57 = .ok (.goto 4, 3) := by decide +kernel
theorem dL_all_60 : decode cL_all 60 = .ok (.iconst 0, 1) := by decide +kernel
theorem dL_all_61 : decode cL_all 61 = .ok (.ireturn, 1) := by decide +kernel
theorem dL_all_62 : decode cL_all 62 = .ok (.iload_n 1, 1) := by decide +kernel
theorem dL_all_63 : decode cL_all 63 = .ok (.iload_n 3, 1) := by decide +kernel
theorem dL_all_64 : decode cL_all 64 = .ok (.if_icmp .ne 58, 3) := by decide +kernel
theorem dL_all_67 : decode cL_all 67 = .ok (.aload_n 0, 1) := by decide +kernel
theorem dL_all_68 : decode cL_all 68 = .ok (.iconst 5, 1) := by decide +kernel
theorem dL_all_69 : decode cL_all 69 = .ok (.bipush 7, 2) := by decide +kernel
theorem dL_all_71 : decode cL_all 71 = .ok (.invokevirtual 43, 3) := by decide +kernel
theorem dL_all_74 : decode cL_all 74 = .ok (.ifCond .ne 48, 3) := by decide +kernel
theorem dL_all_77 : decode cL_all 77 = .ok (.aload_n 0, 1) := by decide +kernel
theorem dL_all_78 : decode cL_all 78 = .ok (.iconst 5, 1) := by decide +kernel
theorem dL_all_79 : decode cL_all 79 = .ok (.iconst 0, 1) := by decide +kernel
theorem dL_all_80 : decode cL_all 80 = .ok (.invokevirtual 39, 3) := by decide +kernel
theorem dL_all_83 : decode cL_all 83 = .ok (.iconst 1, 1) := by decide +kernel
theorem dL_all_84 : decode cL_all 84 = .ok (.if_icmp .ne 38, 3) := by decide +kernel
theorem dL_all_87 : decode cL_all 87 = .ok (.aload_n 0, 1) := by decide +kernel
theorem dL_all_88 : decode cL_all 88 = .ok (.iconst 5, 1) := by decide +kernel
theorem dL_all_89 : decode cL_all 89 = .ok (.iconst 1, 1) := by decide +kernel
theorem dL_all_90 : decode cL_all 90 = .ok (.invokevirtual 39, 3) := by decide +kernel
theorem dL_all_93 : decode cL_all 93 = .ok (.iconst 1, 1) := by decide +kernel
theorem dL_all_94 : decode cL_all 94 = .ok (.if_icmp .ne 28, 3) := by decide +kernel
theorem dL_all_97 : decode cL_all 97 = .ok (.aload_n 0, 1) := by decide +kernel
theorem dL_all_98 : decode cL_all 98 = .ok (.iconst 5, 1) := by decide +kernel
theorem dL_all_99 : decode cL_all 99 = .ok (.iconst 2, 1) := by decide +kernel
theorem dL_all_100 : decode cL_all 100 = .ok (.invokevirtual 39, 3) := by decide +kernel
theorem dL_all_103 : decode cL_all 103 = .ok (.iconst 1, 1) := by decide +kernel
theorem dL_all_104 : decode cL_all 104 = .ok (.if_icmp .ne 18, 3) := by decide +kernel
theorem dL_all_107 : decode cL_all 107 = .ok (.aload_n 0, 1) := by decide +kernel
theorem dL_all_108 : decode cL_all 108 = .ok (.iconst 5, 1) := by decide +kernel
theorem dL_all_109 : decode cL_all 109 = .ok (.bipush 6, 2) := by decide +kernel
theorem dL_all_111 : decode cL_all 111 = .ok (.invokevirtual 39, 3) := by decide +kernel
theorem dL_all_114 : decode cL_all 114 = .ok (.iconst 1, 1) := by decide +kernel
theorem dL_all_115 : decode cL_all 115 = .ok (.if_icmp .ne 7, 3) := by decide +kernel
theorem dL_all_118 : decode cL_all 118 = .ok (.iconst 1, 1) := by decide +kernel
theorem dL_all_119 : decode cL_all 119 = .ok (.goto 4, 3) := by decide +kernel
theorem dL_all_122 : decode cL_all 122 = .ok (.iconst 0, 1) := by decide +kernel
theorem dL_all_123 : decode cL_all 123 = .ok (.ireturn, 1) := by decide +kernel
theorem dL_rules_0 : decode cL_rules 0 = .ok (.aload_n 0, 1) := by decide +kernel
theorem dL_rules_1 : decode cL_rules 1 = .ok (.iconst 0, 1) := by decide +kernel
theorem dL_rules_2 : decode cL_rules 2 = .ok (.iconst 1, 1) := by decide +kernel
theorem dL_rules_3 : decode cL_rules 3 = .ok (.iconst 0, 1) := by decide +kernel
theorem dL_rules_4 : decode cL_rules 4 = .ok (.iconst 1, 1) := by decide +kernel
theorem dL_rules_5 : decode cL_rules 5 = .ok (.bipush 6, 2) := by decide +kernel
theorem dL_rules_7 : decode cL_rules 7 = .ok (.bipush 7, 2) := by decide +kernel
theorem dL_rules_9 : decode cL_rules 9 = .ok (.invokevirtual 65, 3) := by decide +kernel
theorem dL_rules_12 : decode cL_rules 12 = .ok (.istore_n 1, 1) := by decide +kernel
theorem dL_rules_13 : decode cL_rules 13 = .ok (.iload_n 1, 1) := by decide +kernel
theorem dL_rules_14 : decode cL_rules 14 = .ok (.iconst 1, 1) := by decide +kernel
theorem dL_rules_15 : decode cL_rules 15 = .ok (.if_icmp .ne 55, 3) := by decide +kernel
theorem dL_rules_18 : decode cL_rules 18 = .ok (.aload_n 0, 1) := by decide +kernel
theorem dL_rules_19 : decode cL_rules 19 = .ok (.bipush 6, 2) := by decide +kernel
theorem dL_rules_21 : decode cL_rules 21 = .ok (.iconst 0, 1) := by decide +kernel
theorem dL_rules_22 : decode cL_rules 22 = .ok (.invokevirtual 43, 3) := by decide +kernel
theorem dL_rules_25 : decode cL_rules 25 = .ok (.ifCond .ne 45, 3) := by decide +kernel
theorem dL_rules_28 : decode cL_rules 28 = .ok (.aload_n 0, 1) := by decide +kernel
theorem dL_rules_29 : decode cL_rules 29 = .ok (.bipush 7, 2) := by decide +kernel
theorem dL_rules_31 : decode cL_rules 31 = .ok (.iconst 1, 1) := by decide +kernel
theorem dL_rules_32 : decode cL_rules 32 = .ok (.invokevirtual 43, 3) := by decide +kernel
theorem dL_rules_35 : decode cL_rules 35 = .ok (.ifCond .ne 35, 3) := by decide +kernel
theorem dL_rules_38 : decode cL_rules 38 = .ok (.aload_n 0, 1) := by decide +kernel
theorem dL_rules_39 : decode cL_rules 39 = .ok (.bipush 6, 2) := by decide +kernel
theorem dL_rules_41 : decode cL_rules 41 = .ok (.bipush 7, 2) := by decide +kernel
theorem dL_rules_43 : decode cL_rules 43 = .ok (.iconst 0, 1) := by decide +kernel
theorem dL_rules_44 : decode cL_rules 44 = .ok (.iconst 5, 1) := by decide +kernel
theorem dL_rules_45 : decode cL_rules 45 = .ok (.invokevirtual 69, 3) := by decide +kernel
theorem dL_rules_48 : decode cL_rules 48 = .ok (.aload_n 0, 1) := by decide +kernel
theorem dL_rules_49 : decode cL_rules 49 = .ok (.iconst 1, 1) := by decide +kernel
theorem dL_rules_50 : decode cL_rules 50 = .ok (.iconst 0, 1) := by decide +kernel
theorem dL_rules_51 : decode cL_rules 51 = .ok (.invokevirtual 49, 3) := by decide +kernel
theorem dL_rules_54 : decode cL_rules 54 = .ok (.if_icmp .ne 16, 3) := by decide +kernel
theorem dL_rules_57 : decode cL_rules 57 = .ok (.aload_n 0, 1) := by decide +kernel
theorem dL_rules_58 : decode cL_rules 58 = .ok (.iconst 5, 1) := by decide +kernel
theorem dL_rules_59 : decode cL_rules 59 = .ok (.iconst 1, 1) := by decide +kernel
theorem dL_rules_60 : decode cL_rules 60 = .ok (.invokevirtual 43, 3) := by decide +kernel
theorem dL_rules_63 : decode cL_rules 63 = .ok (.ifCond .ne 7, 3) := by decide +kernel
theorem dL_rules_66 : decode cL_rules 66 = .ok (.iconst 1, 1) := by decide +kernel
theorem dL_rules_67 : decode cL_rules 67 = .ok (.goto 4, 3) := by decide +kernel
theorem dL_rules_70 : decode cL_rules 70 = .ok (.iconst 0, 1) := by decide +kernel
theorem dL_rules_71 : decode cL_rules 71 = .ok (.istore_n 2, 1) := by decide +kernel
theorem dL_rules_72 : decode cL_rules 72 = .ok (.aload_n 0, 1) := by decide +kernel
theorem dL_rules_73 : decode cL_rules 73 = .ok (.iconst 0, 1) := by decide +kernel
theorem dL_rules_74 : decode cL_rules 74 = .ok (.iconst 2, 1) := by decide +kernel
theorem dL_rules_75 : decode cL_rules 75 = .ok (.invokevirtual 39, 3) := by decide +kernel
theorem dL_rules_78 : decode cL_rules 78 = .ok (.ifCond .ne 26, 3) := by decide +kernel
theorem dL_rules_81 : decode cL_rules 81 = .ok (.iload_n 2, 1) := by decide +kernel
theorem dL_rules_82 : decode cL_rules 82 = .ok (.ifCond .eq 20, 3) := by decide +kernel
theorem dL_rules_85 : decode cL_rules 85 = .ok (.aload_n 0, 1) := by decide +kernel
theorem dL_rules_86 : decode cL_rules 86 = .ok (.iconst 0, 1) := by decide +kernel
theorem dL_rules_87 : decode cL_rules 87 = .ok (.iconst 1, 1) := by decide +kernel
theorem dL_rules_88 : decode cL_rules 88 = .ok (.iconst 2, 1) := by decide +kernel
theorem dL_rules_89 : decode cL_rules 89 = .ok (.iconst 5, 1) := by decide +kernel
theorem dL_rules_90 : decode cL_rules 90 = .ok (.invokevirtual 69, 3) := by decide +kernel
theorem dL_rules_93 : decode cL_rules 93 = .ok (.bipush (-2), 2) := by decide +kernel
theorem dL_rules_95 : decode cL_rules 95 = .ok (.if_icmp .ne 7, 3) := by decide +kernel
theorem dL_rules_98 : decode cL_rules 98 = .ok (.iconst 1, 1) := by decide +kernel
theorem dL_rules_99 : decode cL_rules 99 = .ok (.goto 4, 3) := by decide +kernel
theorem dL_rules_102 : decode cL_rules 102 = .ok (.iconst 0, 1) := by decide +kernel
theorem dL_rules_103 : decode cL_rules 103 = .ok (.istore_n 2, 1) := by decide +kernel
theorem dL_rules_104 : decode cL_rules 104 = .ok (.iload_n 2, 1) := by decide +kernel
theorem dL_rules_105 : decode cL_rules 105 = .ok (.ireturn, 1) := by decide +kernel
theorem dL_undoes_0 : decode cL_undoes 0 = .ok (.aload_n 0, 1) := by decide +kernel
theorem dL_undoes_1 : decode cL_undoes 1 = .ok (.iconst 0, 1) := by decide +kernel
theorem dL_undoes_2 : decode cL_undoes 2 = .ok (.iconst 0, 1) := by decide +kernel
theorem dL_undoes_3 : decode cL_undoes 3 = .ok (.invokevirtual 49, 3) := by decide +kernel
theorem dL_undoes_6 : decode cL_undoes 6 = .ok (.istore_n 1, 1) := by decide +kernel
theorem dL_undoes_7 : decode cL_undoes 7 = .ok (.aload_n 0, 1) := by decide +kernel
theorem dL_undoes_8 : decode cL_undoes 8 = .ok (.iconst 2, 1) := by decide +kernel
theorem dL_undoes_9 : decode cL_undoes 9 = .ok (.invokevirtual 72, 3) := by decide +kernel
theorem dL_undoes_12 : decode cL_undoes 12 = .ok (.istore_n 2, 1) := by decide +kernel
theorem dL_undoes_13 : decode cL_undoes 13 = .ok (.aload_n 0, 1) := by decide +kernel
theorem dL_undoes_14 : decode cL_undoes 14 = .ok (.iconst 0, 1) := by decide +kernel
theorem dL_undoes_15 : decode cL_undoes 15 = .ok (.invokevirtual 75, 3) := by decide +kernel
theorem dL_undoes_18 : decode cL_undoes 18 = .ok (.iload_n 1, 1) := by decide +kernel
theorem dL_undoes_19 : decode cL_undoes 19 = .ok (.if_icmp .ne 62, 3) := by decide +kernel
theorem dL_undoes_22 : decode cL_undoes 22 = .ok (.aload_n 0, 1) := by decide +kernel
theorem dL_undoes_23 : decode cL_undoes 23 = .ok (.iconst 0, 1) := by decide +kernel
theorem dL_undoes_24 : decode cL_undoes 24 = .ok (.iconst 1, 1) := by decide +kernel
theorem dL_undoes_25 : decode cL_undoes 25 = .ok (.invokevirtual 39, 3) := by decide +kernel
theorem dL_undoes_28 : decode cL_undoes 28 = .ok (.bipush (-2), 2) := by decide +kernel
theorem dL_undoes_30 : decode cL_undoes 30 = .ok (.if_icmp .ne 51, 3) := by decide +kernel
theorem dL_undoes_33 : decode cL_undoes 33 = .ok (.aload_n 0, 1) := by decide +kernel
theorem dL_undoes_34 : decode cL_undoes 34 = .ok (.iconst 2, 1) := by decide +kernel
theorem dL_undoes_35 : decode cL_undoes 35 = .ok (.bipush 7, 2) := by decide +kernel
theorem dL_undoes_37 : decode cL_undoes 37 = .ok (.invokevirtual 78, 3) := by decide +kernel
theorem dL_undoes_40 : decode cL_undoes 40 = .ok (.iload_n 2, 1) := by decide +kernel
theorem dL_undoes_41 : decode cL_undoes 41 = .ok (.if_icmp .ne 40, 3) := by decide +kernel
theorem dL_undoes_44 : decode cL_undoes 44 = .ok (.aload_n 0, 1) := by decide +kernel
theorem dL_undoes_45 : decode cL_undoes 45 = .ok (.invokevirtual 81, 3) := by decide +kernel
theorem dL_undoes_48 : decode cL_undoes 48 = .ok (.ifCond .lt 33, 3) := by decide +kernel
theorem dL_undoes_51 : decode cL_undoes 51 = .ok (.aload_n 0, 1) := by decide +kernel
theorem dL_undoes_52 : decode cL_undoes 52 = .ok (.iconst 2, 1) := by decide +kernel
theorem dL_undoes_53 : decode cL_undoes 53 = .ok (.invokevirtual 72, 3) := by decide +kernel
theorem dL_undoes_56 : decode cL_undoes 56 = .ok (.iload_n 2, 1) := by decide +kernel
theorem dL_undoes_57 : decode cL_undoes 57 = .ok (.if_icmp .ne 24, 3) := by decide +kernel
theorem dL_undoes_60 : decode cL_undoes 60 = .ok (.aload_n 0, 1) := by decide +kernel
theorem dL_undoes_61 : decode cL_undoes 61 = .ok (.invokevirtual 81, 3) := by decide +kernel
theorem dL_undoes_64 : decode cL_undoes 64 = .ok (.ifCond .lt 17, 3) := by decide +kernel
theorem dL_undoes_67 : decode cL_undoes 67 = .ok (.aload_n 0, 1) := by decide +kernel
theorem dL_undoes_68 : decode cL_undoes 68 = .ok (.iconst 0, 1) := by decide +kernel
theorem dL_undoes_69 : decode cL_undoes 69 = .ok (.iconst 0, 1) := by decide +kernel
theorem dL_undoes_70 : decode cL_undoes 70 = .ok (.invokevirtual 49, 3) := by decide +kernel
theorem dL_undoes_73 : decode cL_undoes 73 = .ok (.iload_n 1, 1) := by decide +kernel
theorem dL_undoes_74 : decode cL_undoes 74 = .ok (.if_icmp .ne 7, 3) := by decide +kernel
theorem dL_undoes_77 : decode cL_undoes 77 = .ok (.iconst 1, 1) := by decide +kernel
theorem dL_undoes_78 : decode cL_undoes 78 = .ok (.goto 4, 3) := by decide +kernel
theorem dL_undoes_81 : decode cL_undoes 81 = .ok (.iconst 0, 1) := by decide +kernel
theorem dL_undoes_82 : decode cL_undoes 82 = .ok (.ireturn, 1) := by decide +kernel
theorem dL_law_0 : decode cL_law 0 = .ok (.new 10, 3) := by decide +kernel
theorem dL_law_3 : decode cL_law 3 = .ok (.dup, 1) := by decide +kernel
theorem dL_law_4 : decode cL_law 4 = .ok (.invokespecial 84, 3) := by decide +kernel
theorem dL_law_7 : decode cL_law 7 = .ok (.astore_n 1, 1) := by decide +kernel
theorem dL_law_8 : decode cL_law 8 = .ok (.bipush 63, 2) := by decide +kernel
theorem dL_law_10 : decode cL_law 10 = .ok (.newarray .int, 2) := by decide +kernel
theorem dL_law_12 : decode cL_law 12 = .ok (.astore_n 2, 1) := by decide +kernel
theorem dL_law_13 : decode cL_law 13 = .ok (.bipush 63, 2) := by decide +kernel
theorem dL_law_15 : decode cL_law 15 = .ok (.newarray .int, 2) := by decide +kernel
theorem dL_law_17 : decode cL_law 17 = .ok (.astore_n 3, 1) := by decide +kernel
theorem dL_law_18 : decode cL_law 18 = .ok (.bipush 63, 2) := by decide +kernel
theorem dL_law_20 : decode cL_law 20 = .ok (.newarray .int, 2) := by decide +kernel
theorem dL_law_22 : decode cL_law 22 = .ok (.astore 4, 2) := by decide +kernel
theorem dL_law_24 : decode cL_law 24 = .ok (.aload_n 2, 1) := by decide +kernel
theorem dL_law_25 : decode cL_law 25 = .ok (.aload_n 0, 1) := by decide +kernel
theorem dL_law_26 : decode cL_law 26 = .ok (.iconst 0, 1) := by decide +kernel
theorem dL_law_27 : decode cL_law 27 = .ok (.invokestatic 85, 3) := by decide +kernel
theorem dL_law_30 : decode cL_law 30 = .ok (.aload_n 0, 1) := by decide +kernel
theorem dL_law_31 : decode cL_law 31 = .ok (.iconst 1, 1) := by decide +kernel
theorem dL_law_32 : decode cL_law 32 = .ok (.invokestatic 85, 3) := by decide +kernel
theorem dL_law_35 : decode cL_law 35 = .ok (.bipush 14, 2) := by decide +kernel
theorem dL_law_37 : decode cL_law 37 = .ok (.invokestatic 88, 3) := by decide +kernel
theorem dL_law_40 : decode cL_law 40 = .ok (.aload_n 3, 1) := by decide +kernel
theorem dL_law_41 : decode cL_law 41 = .ok (.aload_n 0, 1) := by decide +kernel
theorem dL_law_42 : decode cL_law 42 = .ok (.iconst 0, 1) := by decide +kernel
theorem dL_law_43 : decode cL_law 43 = .ok (.invokestatic 85, 3) := by decide +kernel
theorem dL_law_46 : decode cL_law 46 = .ok (.aload_n 0, 1) := by decide +kernel
theorem dL_law_47 : decode cL_law 47 = .ok (.iconst 2, 1) := by decide +kernel
theorem dL_law_48 : decode cL_law 48 = .ok (.invokestatic 85, 3) := by decide +kernel
theorem dL_law_51 : decode cL_law 51 = .ok (.bipush 14, 2) := by decide +kernel
theorem dL_law_53 : decode cL_law 53 = .ok (.invokestatic 88, 3) := by decide +kernel
theorem dL_law_56 : decode cL_law 56 = .ok (.aload 4, 2) := by decide +kernel
theorem dL_law_58 : decode cL_law 58 = .ok (.aload_n 0, 1) := by decide +kernel
theorem dL_law_59 : decode cL_law 59 = .ok (.iconst 3, 1) := by decide +kernel
theorem dL_law_60 : decode cL_law 60 = .ok (.invokestatic 85, 3) := by decide +kernel
theorem dL_law_63 : decode cL_law 63 = .ok (.aload_n 0, 1) := by decide +kernel
theorem dL_law_64 : decode cL_law 64 = .ok (.iconst 4, 1) := by decide +kernel
theorem dL_law_65 : decode cL_law 65 = .ok (.invokestatic 85, 3) := by decide +kernel
theorem dL_law_68 : decode cL_law 68 = .ok (.bipush 14, 2) := by decide +kernel
theorem dL_law_70 : decode cL_law 70 = .ok (.invokestatic 88, 3) := by decide +kernel
theorem dL_law_73 : decode cL_law 73 = .ok (.aload_n 0, 1) := by decide +kernel
theorem dL_law_74 : decode cL_law 74 = .ok (.iconst 5, 1) := by decide +kernel
theorem dL_law_75 : decode cL_law 75 = .ok (.invokestatic 85, 3) := by decide +kernel
theorem dL_law_78 : decode cL_law 78 = .ok (.iconst 3, 1) := by decide +kernel
theorem dL_law_79 : decode cL_law 79 = .ok (.irem, 1) := by decide +kernel
theorem dL_law_80 : decode cL_law 80 = .ok (.ifCond .ne 20, 3) := by decide +kernel
theorem dL_law_83 : decode cL_law 83 = .ok (.aload_n 3, 1) := by decide +kernel
theorem dL_law_84 : decode cL_law 84 = .ok (.aload_n 0, 1) := by decide +kernel
theorem dL_law_85 : decode cL_law 85 = .ok (.bipush 6, 2) := by decide +kernel
theorem dL_law_87 : decode cL_law 87 = .ok (.invokestatic 85, 3) := by decide +kernel
theorem dL_law_90 : decode cL_law 90 = .ok (.aload_n 0, 1) := by decide +kernel
theorem dL_law_91 : decode cL_law 91 = .ok (.iconst 2, 1) := by decide +kernel
theorem dL_law_92 : decode cL_law 92 = .ok (.invokestatic 85, 3) := by decide +kernel
theorem dL_law_95 : decode cL_law 95 = .ok (.bipush 14, 2) := by decide +kernel
theorem dL_law_97 : decode cL_law 97 = .ok (.invokestatic 88, 3) := by decide +kernel
theorem dL_law_100 : decode cL_law 100 = .ok (.aload_n 0, 1) := by decide +kernel
theorem dL_law_101 : decode cL_law 101 = .ok (.iconst 5, 1) := by decide +kernel
theorem dL_law_102 : decode cL_law 102 = .ok (.invokestatic 85, 3) := by decide +kernel
theorem dL_law_105 : decode cL_law 105 = .ok (.iconst 3, 1) := by decide +kernel
theorem dL_law_106 : decode cL_law 106 = .ok (.ishr, 1) := by decide +kernel
theorem dL_law_107 : decode cL_law 107 = .ok (.iconst 1, 1) := by decide +kernel
theorem dL_law_108 : decode cL_law 108 = .ok (.iand, 1) := by decide +kernel
theorem dL_law_109 : decode cL_law 109 = .ok (.istore 5, 2) := by decide +kernel
theorem dL_law_111 : decode cL_law 111 = .ok (.aload_n 1, 1) := by decide +kernel
theorem dL_law_112 : decode cL_law 112 = .ok (.iconst 0, 1) := by decide +kernel
theorem dL_law_113 : decode cL_law 113 = .ok (.aload_n 2, 1) := by decide +kernel
theorem dL_law_114 : decode cL_law 114 = .ok (.invokestatic 92, 3) := by decide +kernel
theorem dL_law_117 : decode cL_law 117 = .ok (.ifCond .eq 32, 3) := by decide +kernel
theorem dL_law_120 : decode cL_law 120 = .ok (.aload_n 1, 1) := by decide +kernel
theorem dL_law_121 : decode cL_law 121 = .ok (.iconst 1, 1) := by decide +kernel
theorem dL_law_122 : decode cL_law 122 = .ok (.aload_n 3, 1) := by decide +kernel
theorem dL_law_123 : decode cL_law 123 = .ok (.invokestatic 92, 3) := by decide +kernel
theorem dL_law_126 : decode cL_law 126 = .ok (.ifCond .eq 23, 3) := by decide +kernel
theorem dL_law_129 : decode cL_law 129 = .ok (.aload_n 1, 1) := by decide +kernel
theorem dL_law_130 : decode cL_law 130 = .ok (.iconst 2, 1) := by decide +kernel
theorem dL_law_131 : decode cL_law 131 = .ok (.aload 4, 2) := by decide +kernel
theorem dL_law_133 : decode cL_law 133 = .ok (.invokestatic 92, 3) := by decide +kernel
theorem dL_law_136 : decode cL_law 136 = .ok (.ifCond .eq 13, 3) := by decide +kernel
theorem dL_law_139 : decode cL_law 139 = .ok (.aload_n 1, 1) := by decide +kernel
theorem dL_law_140 : decode cL_law 140 = .ok (.iconst 0, 1) := by decide +kernel
theorem dL_law_141 : decode cL_law 141 = .ok (.iload 5, 2) := by decide +kernel
theorem dL_law_143 : decode cL_law 143 = .ok (.invokevirtual 78, 3) := by decide +kernel
theorem dL_law_146 : decode cL_law 146 = .ok (.ifCond .eq 5, 3) := by decide +kernel
theorem dL_law_149 : decode cL_law 149 = .ok (.iconst 0, 1) := by decide +kernel
theorem dL_law_150 : decode cL_law 150 = .ok (.ireturn, 1) := by decide +kernel
theorem dL_law_151 : decode cL_law 151 = .ok (.aload_n 1, 1) := by decide +kernel
theorem dL_law_152 : decode cL_law 152 = .ok (.iload 5, 2) := by decide +kernel
theorem dL_law_154 : decode cL_law 154 = .ok (.invokestatic 96, 3) := by decide +kernel
theorem dL_law_157 : decode cL_law 157 = .ok (.ifCond .eq 59, 3) := by decide +kernel
theorem dL_law_160 : decode cL_law 160 = .ok (.iload 5, 2) := by decide +kernel
theorem dL_law_162 : decode cL_law 162 = .ok (.iconst 1, 1) := by decide +kernel
theorem dL_law_163 : decode cL_law 163 = .ok (.if_icmp .eq 10, 3) := by decide +kernel
theorem dL_law_166 : decode cL_law 166 = .ok (.aload_n 1, 1) := by decide +kernel
theorem dL_law_167 : decode cL_law 167 = .ok (.invokestatic 100, 3) := by decide +kernel
theorem dL_law_170 : decode cL_law 170 = .ok (.ifCond .eq 46, 3) := by decide +kernel
theorem dL_law_173 : decode cL_law 173 = .ok (.aload_n 1, 1) := by decide +kernel
theorem dL_law_174 : decode cL_law 174 = .ok (.invokestatic 104, 3) := by decide +kernel
theorem dL_law_177 : decode cL_law 177 = .ok (.ifCond .eq 39, 3) := by decide +kernel
theorem dL_law_180 : decode cL_law 180 = .ok (.aload_n 1, 1) := by decide +kernel
theorem dL_law_181 : decode cL_law 181 = .ok (.invokestatic 107, 3) := by decide +kernel
theorem dL_law_184 : decode cL_law 184 = .ok (.ifCond .eq 32, 3) := by decide +kernel
theorem dL_law_187 : decode cL_law 187 = .ok (.aload_n 1, 1) := by decide +kernel
theorem dL_law_188 : decode cL_law 188 = .ok (.bipush 8, 2) := by decide +kernel
theorem dL_law_190 : decode cL_law 190 = .ok (.invokevirtual 25, 3) := by decide +kernel
theorem dL_law_193 : decode cL_law 193 = .ok (.iconst (-1), 1) := by decide +kernel
theorem dL_law_194 : decode cL_law 194 = .ok (.if_icmp .ne 22, 3) := by decide +kernel
theorem dL_law_197 : decode cL_law 197 = .ok (.aload_n 1, 1) := by decide +kernel
theorem dL_law_198 : decode cL_law 198 = .ok (.iconst 0, 1) := by decide +kernel
theorem dL_law_199 : decode cL_law 199 = .ok (.aload_n 2, 1) := by decide +kernel
theorem dL_law_200 : decode cL_law 200 = .ok (.bipush 62, 2) := by decide +kernel
theorem dL_law_202 : decode cL_law 202 = .ok (.iaload, 1) := by decide +kernel
theorem dL_law_203 : decode cL_law 203 = .ok (.iconst 0, 1) := by decide +kernel
theorem dL_law_204 : decode cL_law 204 = .ok (.invokevirtual 36, 3) := by decide +kernel
theorem dL_law_207 : decode cL_law 207 = .ok (.bipush (-9), 2) := by decide +kernel
theorem dL_law_209 : decode cL_law 209 = .ok (.if_icmp .ne 7, 3) := by decide +kernel
theorem dL_law_212 : decode cL_law 212 = .ok (.iconst 1, 1) := by decide +kernel
theorem dL_law_213 : decode cL_law 213 = .ok (.goto 4, 3) := by decide +kernel
theorem dL_law_216 : decode cL_law 216 = .ok (.iconst 0, 1) := by decide +kernel
theorem dL_law_217 : decode cL_law 217 = .ok (.ireturn, 1) := by decide +kernel
