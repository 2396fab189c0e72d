theorem dX12_readLine_57 : decode cX12_readLine 57 = .ok (.aload_n 0, 1) := by decide +kernel
theorem dX12_readLine_58 : decode cX12_readLine 58 = .ok (.getfield 34, 3) := by decide +kernel
theorem dX12_readLine_61 : decode cX12_readLine 61 = .ok (.bipush 6, 2) := by decide +kernel
theorem dX12_readLine_63 : decode cX12_readLine 63 = .ok (.iaload, 1) := by decide +kernel
theorem dX12_readLine_64 : decode cX12_readLine 64 = .ok (.iconst 4, 1) := by decide +kernel
theorem dX12_readLine_65 : decode cX12_readLine 65 = .ok (.if_icmp .ne 11, 3) := by decide +kernel
theorem dX12_readLine_68 : decode cX12_readLine 68 = .ok (.aload_n 0, 1) := by decide +kernel
theorem dX12_readLine_69 : decode cX12_readLine 69 = .ok (.iconst 2, 1) := by decide +kernel
theorem dX12_readLine_70 : decode cX12_readLine 70 = .ok (.invokevirtual 213, 3) := by decide +kernel
theorem dX12_readLine_73 : decode cX12_readLine 73 = .ok (.goto 22, 3) := by decide +kernel
theorem dX12_readLine_76 : decode cX12_readLine 76 = .ok (.iload_n 2, 1) := by decide +kernel
theorem dX12_readLine_77 : decode cX12_readLine 77 = .ok (.iconst 3, 1) := by decide +kernel
theorem dX12_readLine_78 : decode cX12_readLine 78 = .ok (.if_icmp .le 17, 3) := by decide +kernel
theorem dX12_readLine_81 : decode cX12_readLine 81 = .ok (.iload_n 1, 1) := by decide +kernel
theorem dX12_readLine_82 : decode cX12_readLine 82 = .ok (.iload_n 2, 1) := by decide +kernel
theorem dX12_readLine_83 : decode cX12_readLine 83 = .ok (.ishr, 1) := by decide +kernel
theorem dX12_readLine_84 : decode cX12_readLine 84 = .ok (.iconst 1, 1) := by decide +kernel
theorem dX12_readLine_85 : decode cX12_readLine 85 = .ok (.iand, 1) := by decide +kernel
theorem dX12_readLine_86 : decode cX12_readLine 86 = .ok (.iconst 1, 1) := by decide +kernel
theorem dX12_readLine_87 : decode cX12_readLine 87 = .ok (.if_icmp .ne 8, 3) := by decide +kernel
theorem dX12_readLine_90 : decode cX12_readLine 90 = .ok (.aload_n 0, 1) := by decide +kernel
theorem dX12_readLine_91 : decode cX12_readLine 91 = .ok (.iconst 4, 1) := by decide +kernel
theorem dX12_readLine_92 : decode cX12_readLine 92 = .ok (.invokevirtual 213, 3) := by decide +kernel
theorem dX12_readLine_95 : decode cX12_readLine 95 = .ok (.aload_n 0, 1) := by decide +kernel
theorem dX12_readLine_96 : decode cX12_readLine 96 = .ok (.getfield 192, 3) := by decide +kernel
theorem dX12_readLine_99 : decode cX12_readLine 99 = .ok (.ifCond .eq 5, 3) := by decide +kernel
theorem dX12_readLine_102 : decode cX12_readLine 102 = .ok (.iload_n 1, 1) := by decide +kernel
theorem dX12_readLine_103 : decode cX12_readLine 103 = .ok (.ireturn, 1) := by decide +kernel
theorem dX12_readLine_104 : decode cX12_readLine 104 = .ok (.aload_n 0, 1) := by decide +kernel
theorem dX12_readLine_105 : decode cX12_readLine 105 = .ok (.invokevirtual 210, 3) := by decide +kernel
theorem dX12_readLine_108 : decode cX12_readLine 108 = .ok (.iload_n 2, 1) := by decide +kernel
theorem dX12_readLine_109 : decode cX12_readLine 109 = .ok (.iconst 2, 1) := by decide +kernel
theorem dX12_readLine_110 : decode cX12_readLine 110 = .ok (.if_icmp .ge 11, 3) := by decide +kernel
theorem dX12_readLine_113 : decode cX12_readLine 113 = .ok (.aload_n 0, 1) := by decide +kernel
theorem dX12_readLine_114 : decode cX12_readLine 114 = .ok (.iload_n 2, 1) := by decide +kernel
theorem dX12_readLine_115 : decode cX12_readLine 115 = .ok (.invokevirtual 234, 3) := by decide +kernel
theorem dX12_readLine_118 : decode cX12_readLine 118 = .ok (.goto 68, 3) := by decide +kernel
theorem dX12_readLine_121 : decode cX12_readLine 121 = .ok (.iload_n 2, 1) := by decide +kernel
theorem dX12_readLine_122 : decode cX12_readLine 122 = .ok (.iconst 2, 1) := by decide +kernel
theorem dX12_readLine_123 : decode cX12_readLine 123 = .ok (.if_icmp .ne 10, 3) := by decide +kernel
theorem dX12_readLine_126 : decode cX12_readLine 126 = .ok (.aload_n 0, 1) := by decide +kernel
theorem dX12_readLine_127 : decode cX12_readLine 127 = .ok (.invokevirtual 237, 3) := by decide +kernel
theorem dX12_readLine_130 : decode cX12_readLine 130 = .ok (.goto 56, 3) := by decide +kernel
theorem dX12_readLine_133 : decode cX12_readLine 133 = .ok (.iload_n 2, 1) := by decide +kernel
theorem dX12_readLine_134 : decode cX12_readLine 134 = .ok (.iconst 3, 1) := by decide +kernel
theorem dX12_readLine_135 : decode cX12_readLine 135 = .ok (.if_icmp .ne 10, 3) := by decide +kernel
theorem dX12_readLine_138 : decode cX12_readLine 138 = .ok (.aload_n 0, 1) := by decide +kernel
theorem dX12_readLine_139 : decode cX12_readLine 139 = .ok (.invokevirtual 240, 3) := by decide +kernel
theorem dX12_readLine_142 : decode cX12_readLine 142 = .ok (.goto 44, 3) := by decide +kernel
theorem dX12_readLine_145 : decode cX12_readLine 145 = .ok (.iload_n 2, 1) := by decide +kernel
theorem dX12_readLine_146 : decode cX12_readLine 146 = .ok (.iconst 4, 1) := by decide +kernel
theorem dX12_readLine_147 : decode cX12_readLine 147 = .ok (.if_icmp .ne 22, 3) := by decide +kernel
theorem dX12_readLine_150 : decode cX12_readLine 150 = .ok (.aload_n 0, 1) := by decide +kernel
theorem dX12_readLine_151 : decode cX12_readLine 151 = .ok (.getfield 37, 3) := by decide +kernel
theorem dX12_readLine_154 : decode cX12_readLine 154 = .ok (.bipush 6, 2) := by decide +kernel
theorem dX12_readLine_156 : decode cX12_readLine 156 = .ok (.aload_n 0, 1) := by decide +kernel
theorem dX12_readLine_157 : decode cX12_readLine 157 = .ok (.iconst 0, 1) := by decide +kernel
theorem dX12_readLine_158 : decode cX12_readLine 158 = .ok (.sipush 1000, 3) := by decide +kernel
theorem dX12_readLine_161 : decode cX12_readLine 161 = .ok (.iconst (-1), 1) := by decide +kernel
theorem dX12_readLine_162 : decode cX12_readLine 162 = .ok (.invokevirtual 219, 3) := by decide +kernel
theorem dX12_readLine_165 : decode cX12_readLine 165 = .ok (.iastore, 1) := by decide +kernel
theorem dX12_readLine_166 : decode cX12_readLine 166 = .ok (.goto 20, 3) := by decide +kernel
theorem dX12_readLine_169 : decode cX12_readLine 169 = .ok (.aload_n 0, 1) := by decide +kernel
theorem dX12_readLine_170 : decode cX12_readLine 170 = .ok (.getfield 39, 3) := by decide +kernel
theorem dX12_readLine_173 : decode cX12_readLine 173 = .ok (.bipush 6, 2) := by decide +kernel
theorem dX12_readLine_175 : decode cX12_readLine 175 = .ok (.aload_n 0, 1) := by decide +kernel
theorem dX12_readLine_176 : decode cX12_readLine 176 = .ok (.bipush 50, 2) := by decide +kernel
theorem dX12_readLine_178 : decode cX12_readLine 178 = .ok (.sipush 150, 3) := by decide +kernel
theorem dX12_readLine_181 : decode cX12_readLine 181 = .ok (.iconst (-1), 1) := by decide +kernel
theorem dX12_readLine_182 : decode cX12_readLine 182 = .ok (.invokevirtual 219, 3) := by decide +kernel
theorem dX12_readLine_185 : decode cX12_readLine 185 = .ok (.iastore, 1) := by decide +kernel
theorem dX12_readLine_186 : decode cX12_readLine 186 = .ok (.aload_n 0, 1) := by decide +kernel
theorem dX12_readLine_187 : decode cX12_readLine 187 = .ok (.invokevirtual 243, 3) := by decide +kernel
theorem dX12_readLine_190 : decode cX12_readLine 190 = .ok (.iload_n 1, 1) := by decide +kernel
theorem dX12_readLine_191 : decode cX12_readLine 191 = .ok (.iconst 1, 1) := by decide +kernel
theorem dX12_readLine_192 : decode cX12_readLine 192 = .ok (.iload_n 2, 1) := by decide +kernel
theorem dX12_readLine_193 : decode cX12_readLine 193 = .ok (.ishl, 1) := by decide +kernel
theorem dX12_readLine_194 : decode cX12_readLine 194 = .ok (.ior, 1) := by decide +kernel
theorem dX12_readLine_195 : decode cX12_readLine 195 = .ok (.ireturn, 1) := by decide +kernel
theorem dX12_land_0 : decode cX12_land 0 = .ok (.aload_n 0, 1) := by decide +kernel
theorem dX12_land_1 : decode cX12_land 1 = .ok (.iconst 0, 1) := by decide +kernel
theorem dX12_land_2 : decode cX12_land 2 = .ok (.putfield 147, 3) := by decide +kernel
theorem dX12_land_5 : decode cX12_land 5 = .ok (.iload_n 1, 1) := by decide +kernel
theorem dX12_land_6 : decode cX12_land 6 = .ok (.invokestatic 246, 3) := by decide +kernel
theorem dX12_land_9 : decode cX12_land 9 = .ok (.ifCond .ne 9, 3) := by decide +kernel
theorem dX12_land_12 : decode cX12_land 12 = .ok (.aload_n 0, 1) := by decide +kernel
theorem dX12_land_13 : decode cX12_land 13 = .ok (.iconst 1, 1) := by decide +kernel
theorem dX12_land_14 : decode cX12_land 14 = .ok (.invokevirtual 249, 3) := by decide +kernel
theorem dX12_land_17 : decode cX12_land 17 = .ok (.ireturn, 1) := by decide +kernel
theorem dX12_land_18 : decode cX12_land 18 = .ok (.iload_n 2, 1) := by decide +kernel
theorem dX12_land_19 : decode cX12_land 19 = .ok (.ifCond .lt 11, 3) := by decide +kernel
theorem dX12_land_22 : decode cX12_land 22 = .ok (.iload_n 2, 1) := by decide +kernel
theorem dX12_land_23 : decode cX12_land 23 = .ok (.aload_n 0, 1) := by decide +kernel
theorem dX12_land_24 : decode cX12_land 24 = .ok (.getfield 154, 3) := by decide +kernel
theorem dX12_land_27 : decode cX12_land 27 = .ok (.if_icmp .le 9, 3) := by decide +kernel
theorem dX12_land_30 : decode cX12_land 30 = .ok (.aload_n 0, 1) := by decide +kernel
theorem dX12_land_31 : decode cX12_land 31 = .ok (.iconst 2, 1) := by decide +kernel
theorem dX12_land_32 : decode cX12_land 32 = .ok (.invokevirtual 249, 3) := by decide +kernel
theorem dX12_land_35 : decode cX12_land 35 = .ok (.ireturn, 1) := by decide +kernel
theorem dX12_land_36 : decode cX12_land 36 = .ok (.aload_n 0, 1) := by decide +kernel
theorem dX12_land_37 : decode cX12_land 37 = .ok (.iconst 0, 1) := by decide +kernel
theorem dX12_land_38 : decode cX12_land 38 = .ok (.putfield 154, 3) := by decide +kernel
theorem dX12_land_41 : decode cX12_land 41 = .ok (.aload_n 0, 1) := by decide +kernel
theorem dX12_land_42 : decode cX12_land 42 = .ok (.iload_n 2, 1) := by decide +kernel
theorem dX12_land_43 : decode cX12_land 43 = .ok (.putfield 157, 3) := by decide +kernel
theorem dX12_land_46 : decode cX12_land 46 = .ok (.aload_n 0, 1) := by decide +kernel
theorem dX12_land_47 : decode cX12_land 47 = .ok (.iconst 0, 1) := by decide +kernel
theorem dX12_land_48 : decode cX12_land 48 = .ok (.putfield 160, 3) := by decide +kernel
theorem dX12_land_51 : decode cX12_land 51 = .ok (.aload_n 0, 1) := by decide +kernel
theorem dX12_land_52 : decode cX12_land 52 = .ok (.iconst 0, 1) := by decide +kernel
theorem dX12_land_53 : decode cX12_land 53 = .ok (.putfield 192, 3) := by decide +kernel
theorem dX12_land_56 : decode cX12_land 56 = .ok (.aload_n 0, 1) := by decide +kernel
theorem dX12_land_57 : decode cX12_land 57 = .ok (.iconst (-1), 1) := by decide +kernel
theorem dX12_land_58 : decode cX12_land 58 = .ok (.putfield 54, 3) := by decide +kernel
theorem dX12_land_61 : decode cX12_land 61 = .ok (.aload_n 0, 1) := by decide +kernel
theorem dX12_land_62 : decode cX12_land 62 = .ok (.bipush 6, 2) := by decide +kernel
theorem dX12_land_64 : decode cX12_land 64 = .ok (.invokevirtual 143, 3) := by decide +kernel
theorem dX12_land_67 : decode cX12_land 67 = .ok (.aload_n 0, 1) := by decide +kernel
theorem dX12_land_68 : decode cX12_land 68 = .ok (.invokevirtual 210, 3) := by decide +kernel
theorem dX12_land_71 : decode cX12_land 71 = .ok (.iconst 0, 1) := by decide +kernel
theorem dX12_land_72 : decode cX12_land 72 = .ok (.istore_n 3, 1) := by decide +kernel
theorem dX12_land_73 : decode cX12_land 73 = .ok (.aload_n 0, 1) := by decide +kernel
theorem dX12_land_74 : decode cX12_land 74 = .ok (.getfield 192, 3) := by decide +kernel
theorem dX12_land_77 : decode cX12_land 77 = .ok (.ifCond .ne 19, 3) := by decide +kernel
theorem dX12_land_80 : decode cX12_land 80 = .ok (.aload_n 0, 1) := by decide +kernel
theorem dX12_land_81 : decode cX12_land 81 = .ok (.getfield 170, 3) := by decide +kernel
theorem dX12_land_84 : decode cX12_land 84 = .ok (.ifCond .eq 12, 3) := by decide +kernel
theorem dX12_land_87 : decode cX12_land 87 = .ok (.aload_n 0, 1) := by decide +kernel
theorem dX12_land_88 : decode cX12_land 88 = .ok (.iload_n 3, 1) := by decide +kernel
theorem dX12_land_89 : decode cX12_land 89 = .ok (.invokevirtual 252, 3) := by decide +kernel
theorem dX12_land_92 : decode cX12_land 92 = .ok (.istore_n 3, 1) := by decide +kernel
theorem dX12_land_93 : decode cX12_land 93 = .ok (.goto (-20), 3) := by decide +kernel
theorem dX12_land_96 : decode cX12_land 96 = .ok (.aload_n 0, 1) := by decide +kernel
theorem dX12_land_97 : decode cX12_land 97 = .ok (.getfield 192, 3) := by decide +kernel
theorem dX12_land_100 : decode cX12_land 100 = .ok (.ifCond .eq 26, 3) := by decide +kernel
theorem dX12_land_103 : decode cX12_land 103 = .ok (.aload_n 0, 1) := by decide +kernel
theorem dX12_land_104 : decode cX12_land 104 = .ok (.aload_n 0, 1) := by decide +kernel
theorem dX12_land_105 : decode cX12_land 105 = .ok (.getfield 195, 3) := by decide +kernel
theorem dX12_land_108 : decode cX12_land 108 = .ok (.putfield 54, 3) := by decide +kernel
theorem dX12_land_111 : decode cX12_land 111 = .ok (.aload_n 0, 1) := by decide +kernel
theorem dX12_land_112 : decode cX12_land 112 = .ok (.getfield 48, 3) := by decide +kernel
theorem dX12_land_115 : decode cX12_land 115 = .ok (.iconst 0, 1) := by decide +kernel
theorem dX12_land_116 : decode cX12_land 116 = .ok (.dup2, 1) := by decide +kernel
theorem dX12_land_117 : decode cX12_land 117 = .ok (.iaload, 1) := by decide +kernel
theorem dX12_land_118 : decode cX12_land 118 = .ok (.iconst 1, 1) := by decide +kernel
theorem dX12_land_119 : decode cX12_land 119 = .ok (.iadd, 1) := by decide +kernel
theorem dX12_land_120 : decode cX12_land 120 = .ok (.iastore, 1) := by decide +kernel
theorem dX12_land_121 : decode cX12_land 121 = .ok (.aload_n 0, 1) := by decide +kernel
theorem dX12_land_122 : decode cX12_land 122 = .ok (.getfield 192, 3) := by decide +kernel
theorem dX12_land_125 : decode cX12_land 125 = .ok (.ireturn, 1) := by decide +kernel
theorem dX12_land_126 : decode cX12_land 126 = .ok (.aload_n 0, 1) := by decide +kernel
theorem dX12_land_127 : decode cX12_land 127 = .ok (.getfield 27, 3) := by decide +kernel
theorem dX12_land_130 : decode cX12_land 130 = .ok (.iload_n 1, 1) := by decide +kernel
theorem dX12_land_131 : decode cX12_land 131 = .ok (.aload_n 0, 1) := by decide +kernel
theorem dX12_land_132 : decode cX12_land 132 = .ok (.getfield 27, 3) := by decide +kernel
theorem dX12_land_135 : decode cX12_land 135 = .ok (.bipush 6, 2) := by decide +kernel
theorem dX12_land_137 : decode cX12_land 137 = .ok (.iaload, 1) := by decide +kernel
theorem dX12_land_138 : decode cX12_land 138 = .ok (.iastore, 1) := by decide +kernel
theorem dX12_land_139 : decode cX12_land 139 = .ok (.aload_n 0, 1) := by decide +kernel
theorem dX12_land_140 : decode cX12_land 140 = .ok (.getfield 31, 3) := by decide +kernel
theorem dX12_land_143 : decode cX12_land 143 = .ok (.iload_n 1, 1) := by decide +kernel
theorem dX12_land_144 : decode cX12_land 144 = .ok (.aload_n 0, 1) := by decide +kernel
theorem dX12_land_145 : decode cX12_land 145 = .ok (.getfield 31, 3) := by decide +kernel
theorem dX12_land_148 : decode cX12_land 148 = .ok (.bipush 6, 2) := by decide +kernel
theorem dX12_land_150 : decode cX12_land 150 = .ok (.iaload, 1) := by decide +kernel
theorem dX12_land_151 : decode cX12_land 151 = .ok (.iastore, 1) := by decide +kernel
theorem dX12_land_152 : decode cX12_land 152 = .ok (.aload_n 0, 1) := by decide +kernel
theorem dX12_land_153 : decode cX12_land 153 = .ok (.getfield 34, 3) := by decide +kernel
theorem dX12_land_156 : decode cX12_land 156 = .ok (.iload_n 1, 1) := by decide +kernel
theorem dX12_land_157 : decode cX12_land 157 = .ok (.aload_n 0, 1) := by decide +kernel
theorem dX12_land_158 : decode cX12_land 158 = .ok (.getfield 34, 3) := by decide +kernel
theorem dX12_land_161 : decode cX12_land 161 = .ok (.bipush 6, 2) := by decide +kernel
theorem dX12_land_163 : decode cX12_land 163 = .ok (.iaload, 1) := by decide +kernel
theorem dX12_land_164 : decode cX12_land 164 = .ok (.iastore, 1) := by decide +kernel
theorem dX12_land_165 : decode cX12_land 165 = .ok (.aload_n 0, 1) := by decide +kernel
theorem dX12_land_166 : decode cX12_land 166 = .ok (.getfield 37, 3) := by decide +kernel
theorem dX12_land_169 : decode cX12_land 169 = .ok (.iload_n 1, 1) := by decide +kernel
theorem dX12_land_170 : decode cX12_land 170 = .ok (.aload_n 0, 1) := by decide +kernel
theorem dX12_land_171 : decode cX12_land 171 = .ok (.getfield 37, 3) := by decide +kernel
theorem dX12_land_174 : decode cX12_land 174 = .ok (.bipush 6, 2) := by decide +kernel
theorem dX12_land_176 : decode cX12_land 176 = .ok (.iaload, 1) := by decide +kernel
theorem dX12_land_177 : decode cX12_land 177 = .ok (.iastore, 1) := by decide +kernel
theorem dX12_land_178 : decode cX12_land 178 = .ok (.aload_n 0, 1) := by decide +kernel
theorem dX12_land_179 : decode cX12_land 179 = .ok (.getfield 39, 3) := by decide +kernel
theorem dX12_land_182 : decode cX12_land 182 = .ok (.iload_n 1, 1) := by decide +kernel
theorem dX12_land_183 : decode cX12_land 183 = .ok (.aload_n 0, 1) := by decide +kernel
theorem dX12_land_184 : decode cX12_land 184 = .ok (.getfield 39, 3) := by decide +kernel
theorem dX12_land_187 : decode cX12_land 187 = .ok (.bipush 6, 2) := by decide +kernel
theorem dX12_land_189 : decode cX12_land 189 = .ok (.iaload, 1) := by decide +kernel
theorem dX12_land_190 : decode cX12_land 190 = .ok (.iastore, 1) := by decide +kernel
theorem dX12_land_191 : decode cX12_land 191 = .ok (.iconst 0, 1) := by decide +kernel
theorem dX12_land_192 : decode cX12_land 192 = .ok (.istore 4, 2) := by decide +kernel
theorem dX12_land_194 : decode cX12_land 194 = .ok (.iload 4, 2) := by decide +kernel
theorem dX12_land_196 : decode cX12_land 196 = .ok (.bipush 40, 2) := by decide +kernel
theorem dX12_land_198 : decode cX12_land 198 = .ok (.if_icmp .ge 32, 3) := by decide +kernel
theorem dX12_land_201 : decode cX12_land 201 = .ok (.aload_n 0, 1) := by decide +kernel
theorem dX12_land_202 : decode cX12_land 202 = .ok (.getfield 41, 3) := by decide +kernel
theorem dX12_land_205 : decode cX12_land 205 = .ok (.bipush 40, 2) := by decide +kernel
theorem dX12_land_207 : decode cX12_land 207 = .ok (.iload_n 1, 1) := by decide +kernel
theorem dX12_land_208 : decode cX12_land 208 = .ok (.imul, 1) := by decide +kernel
theorem dX12_land_209 : decode cX12_land 209 = .ok (.iload 4, 2) := by decide +kernel
theorem dX12_land_211 : decode cX12_land 211 = .ok (.iadd, 1) := by decide +kernel
theorem dX12_land_212 : decode cX12_land 212 = .ok (.aload_n 0, 1) := by decide +kernel
theorem dX12_land_213 : decode cX12_land 213 = .ok (.getfield 41, 3) := by decide +kernel
theorem dX12_land_216 : decode cX12_land 216 = .ok (.sipush 240, 3) := by decide +kernel
theorem dX12_land_219 : decode cX12_land 219 = .ok (.iload 4, 2) := by decide +kernel
theorem dX12_land_221 : decode cX12_land 221 = .ok (.iadd, 1) := by decide +kernel
theorem dX12_land_222 : decode cX12_land 222 = .ok (.iaload, 1) := by decide +kernel
theorem dX12_land_223 : decode cX12_land 223 = .ok (.iastore, 1) := by decide +kernel
theorem dX12_land_224 : decode cX12_land 224 = .ok (.iinc 4 1, 3) := by decide +kernel
theorem dX12_land_227 : decode cX12_land 227 = .ok (.goto (-33), 3) := by decide +kernel
theorem dX12_land_230 : decode cX12_land 230 = .ok (.iconst 0, 1) := by decide +kernel
theorem dX12_land_231 : decode cX12_land 231 = .ok (.istore 4, 2) := by decide +kernel
theorem dX12_land_233 : decode cX12_land 233 = .ok (.iload 4, 2) := by decide +kernel
theorem dX12_land_235 : decode cX12_land 235 = .ok (.bipush 40, 2) := by decide +kernel
theorem dX12_land_237 : decode cX12_land 237 = .ok (.if_icmp .ge 32, 3) := by decide +kernel
theorem dX12_land_240 : decode cX12_land 240 = .ok (.aload_n 0, 1) := by decide +kernel
theorem dX12_land_241 : decode cX12_land 241 = .ok (.getfield 44, 3) := by decide +kernel
theorem dX12_land_244 : decode cX12_land 244 = .ok (.bipush 40, 2) := by decide +kernel
theorem dX12_land_246 : decode cX12_land 246 = .ok (.iload_n 1, 1) := by decide +kernel
theorem dX12_land_247 : decode cX12_land 247 = .ok (.imul, 1) := by decide +kernel
theorem dX12_land_248 : decode cX12_land 248 = .ok (.iload 4, 2) := by decide +kernel
theorem dX12_land_250 : decode cX12_land 250 = .ok (.iadd, 1) := by decide +kernel
theorem dX12_land_251 : decode cX12_land 251 = .ok (.aload_n 0, 1) := by decide +kernel
theorem dX12_land_252 : decode cX12_land 252 = .ok (.getfield 44, 3) := by decide +kernel
theorem dX12_land_255 : decode cX12_land 255 = .ok (.sipush 240, 3) := by decide +kernel
theorem dX12_land_258 : decode cX12_land 258 = .ok (.iload 4, 2) := by decide +kernel
theorem dX12_land_260 : decode cX12_land 260 = .ok (.iadd, 1) := by decide +kernel
theorem dX12_land_261 : decode cX12_land 261 = .ok (.iaload, 1) := by decide +kernel
theorem dX12_land_262 : decode cX12_land 262 = .ok (.iastore, 1) := by decide +kernel
theorem dX12_land_263 : decode cX12_land 263 = .ok (.iinc 4 1, 3) := by decide +kernel
theorem dX12_land_266 : decode cX12_land 266 = .ok (.goto (-33), 3) := by decide +kernel
theorem dX12_land_269 : decode cX12_land 269 = .ok (.iconst 0, 1) := by decide +kernel
theorem dX12_land_270 : decode cX12_land 270 = .ok (.istore 4, 2) := by decide +kernel
theorem dX12_land_272 : decode cX12_land 272 = .ok (.iload 4, 2) := by decide +kernel
theorem dX12_land_274 : decode cX12_land 274 = .ok (.bipush 28, 2) := by decide +kernel
theorem dX12_land_276 : decode cX12_land 276 = .ok (.if_icmp .ge 32, 3) := by decide +kernel
theorem dX12_land_279 : decode cX12_land 279 = .ok (.aload_n 0, 1) := by decide +kernel
theorem dX12_land_280 : decode cX12_land 280 = .ok (.getfield 46, 3) := by decide +kernel
theorem dX12_land_283 : decode cX12_land 283 = .ok (.bipush 28, 2) := by decide +kernel
theorem dX12_land_285 : decode cX12_land 285 = .ok (.iload_n 1, 1) := by decide +kernel
theorem dX12_land_286 : decode cX12_land 286 = .ok (.imul, 1) := by decide +kernel
theorem dX12_land_287 : decode cX12_land 287 = .ok (.iload 4, 2) := by decide +kernel
theorem dX12_land_289 : decode cX12_land 289 = .ok (.iadd, 1) := by decide +kernel
theorem dX12_land_290 : decode cX12_land 290 = .ok (.aload_n 0, 1) := by decide +kernel
theorem dX12_land_291 : decode cX12_land 291 = .ok (.getfield 46, 3) := by decide +kernel
theorem dX12_land_294 : decode cX12_land 294 = .ok (.sipush 168, 3) := by decide +kernel
theorem dX12_land_297 : decode cX12_land 297 = .ok (.iload 4, 2) := by decide +kernel
theorem dX12_land_299 : decode cX12_land 299 = .ok (.iadd, 1) := by decide +kernel
theorem dX12_land_300 : decode cX12_land 300 = .ok (.iaload, 1) := by decide +kernel
theorem dX12_land_301 : decode cX12_land 301 = .ok (.iastore, 1) := by decide +kernel
theorem dX12_land_302 : decode cX12_land 302 = .ok (.iinc 4 1, 3) := by decide +kernel
theorem dX12_land_305 : decode cX12_land 305 = .ok (.goto (-33), 3) := by decide +kernel
theorem dX12_land_308 : decode cX12_land 308 = .ok (.iconst 0, 1) := by decide +kernel
theorem dX12_land_309 : decode cX12_land 309 = .ok (.ireturn, 1) := by decide +kernel
theorem dX12_fault_0 : decode cX12_fault 0 = .ok (.aload_n 0, 1) := by decide +kernel
theorem dX12_fault_1 : decode cX12_fault 1 = .ok (.iconst 0, 1) := by decide +kernel
theorem dX12_fault_2 : decode cX12_fault 2 = .ok (.putfield 147, 3) := by decide +kernel
theorem dX12_fault_5 : decode cX12_fault 5 = .ok (.aload_n 0, 1) := by decide +kernel
theorem dX12_fault_6 : decode cX12_fault 6 = .ok (.getfield 54, 3) := by decide +kernel
theorem dX12_fault_9 : decode cX12_fault 9 = .ok (.ireturn, 1) := by decide +kernel
theorem dX12_count_0 : decode cX12_count 0 = .ok (.aload_n 0, 1) := by decide +kernel
theorem dX12_count_1 : decode cX12_count 1 = .ok (.iconst 0, 1) := by decide +kernel
theorem dX12_count_2 : decode cX12_count 2 = .ok (.putfield 147, 3) := by decide +kernel
theorem dX12_count_5 : decode cX12_count 5 = .ok (.iload_n 1, 1) := by decide +kernel
theorem dX12_count_6 : decode cX12_count 6 = .ok (.ifCond .ne 10, 3) := by decide +kernel
theorem dX12_count_9 : decode cX12_count 9 = .ok (.aload_n 0, 1) := by decide +kernel
theorem dX12_count_10 : decode cX12_count 10 = .ok (.getfield 154, 3) := by decide +kernel
theorem dX12_count_13 : decode cX12_count 13 = .ok (.goto 53, 3) := by decide +kernel
theorem dX12_count_16 : decode cX12_count 16 = .ok (.iload_n 1, 1) := by decide +kernel
theorem dX12_count_17 : decode cX12_count 17 = .ok (.iconst 1, 1) := by decide +kernel
theorem dX12_count_18 : decode cX12_count 18 = .ok (.if_icmp .ne 10, 3) := by decide +kernel
theorem dX12_count_21 : decode cX12_count 21 = .ok (.aload_n 0, 1) := by decide +kernel
theorem dX12_count_22 : decode cX12_count 22 = .ok (.getfield 255, 3) := by decide +kernel
theorem dX12_count_25 : decode cX12_count 25 = .ok (.goto 41, 3) := by decide +kernel
theorem dX12_count_28 : decode cX12_count 28 = .ok (.iload_n 1, 1) := by decide +kernel
theorem dX12_count_29 : decode cX12_count 29 = .ok (.iconst 2, 1) := by decide +kernel
theorem dX12_count_30 : decode cX12_count 30 = .ok (.if_icmp .ne 10, 3) := by decide +kernel
theorem dX12_count_33 : decode cX12_count 33 = .ok (.aload_n 0, 1) := by decide +kernel
theorem dX12_count_34 : decode cX12_count 34 = .ok (.getfield 258, 3) := by decide +kernel
theorem dX12_count_37 : decode cX12_count 37 = .ok (.goto 29, 3) := by decide +kernel
theorem dX12_count_40 : decode cX12_count 40 = .ok (.iload_n 1, 1) := by decide +kernel
theorem dX12_count_41 : decode cX12_count 41 = .ok (.iconst 3, 1) := by decide +kernel
theorem dX12_count_42 : decode cX12_count 42 = .ok (.bipush 6, 2) := by decide +kernel
theorem dX12_count_44 : decode cX12_count 44 = .ok (.invokestatic 150, 3) := by decide +kernel
theorem dX12_count_47 : decode cX12_count 47 = .ok (.ifCond .eq 14, 3) := by decide +kernel
theorem dX12_count_50 : decode cX12_count 50 = .ok (.aload_n 0, 1) := by decide +kernel
theorem dX12_count_51 : decode cX12_count 51 = .ok (.getfield 48, 3) := by decide +kernel
theorem dX12_count_54 : decode cX12_count 54 = .ok (.iload_n 1, 1) := by decide +kernel
theorem dX12_count_55 : decode cX12_count 55 = .ok (.iconst 3, 1) := by decide +kernel
theorem dX12_count_56 : decode cX12_count 56 = .ok (.isub, 1) := by decide +kernel
theorem dX12_count_57 : decode cX12_count 57 = .ok (.iaload, 1) := by decide +kernel
theorem dX12_count_58 : decode cX12_count 58 = .ok (.goto 8, 3) := by decide +kernel
theorem dX12_count_61 : decode cX12_count 61 = .ok (.aload_n 0, 1) := by decide +kernel
theorem dX12_count_62 : decode cX12_count 62 = .ok (.iconst 1, 1) := by decide +kernel
theorem dX12_count_63 : decode cX12_count 63 = .ok (.invokevirtual 249, 3) := by decide +kernel
theorem dX12_count_66 : decode cX12_count 66 = .ok (.ireturn, 1) := by decide +kernel
theorem dX12_about_0 : decode cX12_about 0 = .ok (.aload_n 0, 1) := by decide +kernel
theorem dX12_about_1 : decode cX12_about 1 = .ok (.iconst 0, 1) := by decide +kernel
theorem dX12_about_2 : decode cX12_about 2 = .ok (.putfield 147, 3) := by decide +kernel
theorem dX12_about_5 : decode cX12_about 5 = .ok (.iload_n 1, 1) := by decide +kernel
theorem dX12_about_6 : decode cX12_about 6 = .ok (.invokestatic 246, 3) := by decide +kernel
theorem dX12_about_9 : decode cX12_about 9 = .ok (.ifCond .ne 9, 3) := by decide +kernel
theorem dX12_about_12 : decode cX12_about 12 = .ok (.aload_n 0, 1) := by decide +kernel
theorem dX12_about_13 : decode cX12_about 13 = .ok (.iconst 1, 1) := by decide +kernel
theorem dX12_about_14 : decode cX12_about 14 = .ok (.invokevirtual 249, 3) := by decide +kernel
theorem dX12_about_17 : decode cX12_about 17 = .ok (.ireturn, 1) := by decide +kernel
theorem dX12_about_18 : decode cX12_about 18 = .ok (.iload_n 2, 1) := by decide +kernel
theorem dX12_about_19 : decode cX12_about 19 = .ok (.ifCond .ne 12, 3) := by decide +kernel
theorem dX12_about_22 : decode cX12_about 22 = .ok (.aload_n 0, 1) := by decide +kernel
theorem dX12_about_23 : decode cX12_about 23 = .ok (.getfield 27, 3) := by decide +kernel
theorem dX12_about_26 : decode cX12_about 26 = .ok (.iload_n 1, 1) := by decide +kernel
theorem dX12_about_27 : decode cX12_about 27 = .ok (.iaload, 1) := by decide +kernel
theorem dX12_about_28 : decode cX12_about 28 = .ok (.goto 64, 3) := by decide +kernel
theorem dX12_about_31 : decode cX12_about 31 = .ok (.iload_n 2, 1) := by decide +kernel
theorem dX12_about_32 : decode cX12_about 32 = .ok (.iconst 1, 1) := by decide +kernel
theorem dX12_about_33 : decode cX12_about 33 = .ok (.if_icmp .ne 12, 3) := by decide +kernel
theorem dX12_about_36 : decode cX12_about 36 = .ok (.aload_n 0, 1) := by decide +kernel
theorem dX12_about_37 : decode cX12_about 37 = .ok (.getfield 31, 3) := by decide +kernel
theorem dX12_about_40 : decode cX12_about 40 = .ok (.iload_n 1, 1) := by decide +kernel
theorem dX12_about_41 : decode cX12_about 41 = .ok (.iaload, 1) := by decide +kernel
theorem dX12_about_42 : decode cX12_about 42 = .ok (.goto 50, 3) := by decide +kernel
theorem dX12_about_45 : decode cX12_about 45 = .ok (.iload_n 2, 1) := by decide +kernel
theorem dX12_about_46 : decode cX12_about 46 = .ok (.iconst 2, 1) := by decide +kernel
theorem dX12_about_47 : decode cX12_about 47 = .ok (.if_icmp .ne 12, 3) := by decide +kernel
theorem dX12_about_50 : decode cX12_about 50 = .ok (.aload_n 0, 1) := by decide +kernel
theorem dX12_about_51 : decode cX12_about 51 = .ok (.getfield 34, 3) := by decide +kernel
theorem dX12_about_54 : decode cX12_about 54 = .ok (.iload_n 1, 1) := by decide +kernel
theorem dX12_about_55 : decode cX12_about 55 = .ok (.iaload, 1) := by decide +kernel
theorem dX12_about_56 : decode cX12_about 56 = .ok (.goto 36, 3) := by decide +kernel
theorem dX12_about_59 : decode cX12_about 59 = .ok (.iload_n 2, 1) := by decide +kernel
theorem dX12_about_60 : decode cX12_about 60 = .ok (.iconst 3, 1) := by decide +kernel
theorem dX12_about_61 : decode cX12_about 61 = .ok (.if_icmp .ne 12, 3) := by decide +kernel
theorem dX12_about_64 : decode cX12_about 64 = .ok (.aload_n 0, 1) := by decide +kernel
theorem dX12_about_65 : decode cX12_about 65 = .ok (.getfield 37, 3) := by decide +kernel
theorem dX12_about_68 : decode cX12_about 68 = .ok (.iload_n 1, 1) := by decide +kernel
theorem dX12_about_69 : decode cX12_about 69 = .ok (.iaload, 1) := by decide +kernel
theorem dX12_about_70 : decode cX12_about 70 = .ok (.goto 22, 3) := by decide +kernel
theorem dX12_about_73 : decode cX12_about 73 = .ok (.iload_n 2, 1) := by decide +kernel
theorem dX12_about_74 : decode cX12_about 74 = .ok (.iconst 4, 1) := by decide +kernel
theorem dX12_about_75 : decode cX12_about 75 = .ok (.if_icmp .ne 12, 3) := by decide +kernel
theorem dX12_about_78 : decode cX12_about 78 = .ok (.aload_n 0, 1) := by decide +kernel
theorem dX12_about_79 : decode cX12_about 79 = .ok (.getfield 39, 3) := by decide +kernel
theorem dX12_about_82 : decode cX12_about 82 = .ok (.iload_n 1, 1) := by decide +kernel
theorem dX12_about_83 : decode cX12_about 83 = .ok (.iaload, 1) := by decide +kernel
theorem dX12_about_84 : decode cX12_about 84 = .ok (.goto 8, 3) := by decide +kernel
theorem dX12_about_87 : decode cX12_about 87 = .ok (.aload_n 0, 1) := by decide +kernel
theorem dX12_about_88 : decode cX12_about 88 = .ok (.iconst 1, 1) := by decide +kernel
theorem dX12_about_89 : decode cX12_about 89 = .ok (.invokevirtual 249, 3) := by decide +kernel
theorem dX12_about_92 : decode cX12_about 92 = .ok (.ireturn, 1) := by decide +kernel
theorem dX12_side_0 : decode cX12_side 0 = .ok (.iload_n 2, 1) := by decide +kernel
theorem dX12_side_1 : decode cX12_side 1 = .ok (.iload_n 0, 1) := by decide +kernel
theorem dX12_side_2 : decode cX12_side 2 = .ok (.isub, 1) := by decide +kernel
theorem dX12_side_3 : decode cX12_side 3 = .ok (.iload 5, 2) := by decide +kernel
theorem dX12_side_5 : decode cX12_side 5 = .ok (.iload_n 1, 1) := by decide +kernel
theorem dX12_side_6 : decode cX12_side 6 = .ok (.isub, 1) := by decide +kernel
theorem dX12_side_7 : decode cX12_side 7 = .ok (.imul, 1) := by decide +kernel
theorem dX12_side_8 : decode cX12_side 8 = .ok (.iload_n 3, 1) := by decide +kernel
theorem dX12_side_9 : decode cX12_side 9 = .ok (.iload_n 1, 1) := by decide +kernel
theorem dX12_side_10 : decode cX12_side 10 = .ok (.isub, 1) := by decide +kernel
theorem dX12_side_11 : decode cX12_side 11 = .ok (.iload 4, 2) := by decide +kernel
theorem dX12_side_13 : decode cX12_side 13 = .ok (.iload_n 0, 1) := by decide +kernel
theorem dX12_side_14 : decode cX12_side 14 = .ok (.isub, 1) := by decide +kernel
theorem dX12_side_15 : decode cX12_side 15 = .ok (.imul, 1) := by decide +kernel
theorem dX12_side_16 : decode cX12_side 16 = .ok (.isub, 1) := by decide +kernel
theorem dX12_side_17 : decode cX12_side 17 = .ok (.istore 6, 2) := by decide +kernel
theorem dX12_side_19 : decode cX12_side 19 = .ok (.iload 6, 2) := by decide +kernel
theorem dX12_side_21 : decode cX12_side 21 = .ok (.ifCond .le 7, 3) := by decide +kernel
theorem dX12_side_24 : decode cX12_side 24 = .ok (.iconst 1, 1) := by decide +kernel
theorem dX12_side_25 : decode cX12_side 25 = .ok (.goto 13, 3) := by decide +kernel
theorem dX12_side_28 : decode cX12_side 28 = .ok (.iload 6, 2) := by decide +kernel
theorem dX12_side_30 : decode cX12_side 30 = .ok (.ifCond .ge 7, 3) := by decide +kernel
theorem dX12_side_33 : decode cX12_side 33 = .ok (.iconst (-1), 1) := by decide +kernel
theorem dX12_side_34 : decode cX12_side 34 = .ok (.goto 4, 3) := by decide +kernel
theorem dX12_side_37 : decode cX12_side 37 = .ok (.iconst 0, 1) := by decide +kernel
theorem dX12_side_38 : decode cX12_side 38 = .ok (.ireturn, 1) := by decide +kernel
theorem dX12_meets_0 : decode cX12_meets 0 = .ok (.aload_n 0, 1) := by decide +kernel
theorem dX12_meets_1 : decode cX12_meets 1 = .ok (.iload_n 1, 1) := by decide +kernel
theorem dX12_meets_2 : decode cX12_meets 2 = .ok (.iload_n 2, 1) := by decide +kernel
theorem dX12_meets_3 : decode cX12_meets 3 = .ok (.iconst 0, 1) := by decide +kernel
theorem dX12_meets_4 : decode cX12_meets 4 = .ok (.invokevirtual 261, 3) := by decide +kernel
theorem dX12_meets_7 : decode cX12_meets 7 = .ok (.istore 7, 2) := by decide +kernel
theorem dX12_meets_9 : decode cX12_meets 9 = .ok (.aload_n 0, 1) := by decide +kernel
theorem dX12_meets_10 : decode cX12_meets 10 = .ok (.iload_n 1, 1) := by decide +kernel
theorem dX12_meets_11 : decode cX12_meets 11 = .ok (.iload_n 2, 1) := by decide +kernel
theorem dX12_meets_12 : decode cX12_meets 12 = .ok (.iconst 1, 1) := by decide +kernel
theorem dX12_meets_13 : decode cX12_meets 13 = .ok (.invokevirtual 261, 3) := by decide +kernel
theorem dX12_meets_16 : decode cX12_meets 16 = .ok (.istore 8, 2) := by decide +kernel
theorem dX12_meets_18 : decode cX12_meets 18 = .ok (.aload_n 0, 1) := by decide +kernel
theorem dX12_meets_19 : decode cX12_meets 19 = .ok (.iload_n 1, 1) := by decide +kernel
theorem dX12_meets_20 : decode cX12_meets 20 = .ok (.iload_n 2, 1) := by decide +kernel
theorem dX12_meets_21 : decode cX12_meets 21 = .ok (.iconst 2, 1) := by decide +kernel
theorem dX12_meets_22 : decode cX12_meets 22 = .ok (.invokevirtual 261, 3) := by decide +kernel
theorem dX12_meets_25 : decode cX12_meets 25 = .ok (.istore 9, 2) := by decide +kernel
theorem dX12_meets_27 : decode cX12_meets 27 = .ok (.aload_n 0, 1) := by decide +kernel
theorem dX12_meets_28 : decode cX12_meets 28 = .ok (.iload_n 1, 1) := by decide +kernel
theorem dX12_meets_29 : decode cX12_meets 29 = .ok (.iload_n 2, 1) := by decide +kernel
theorem dX12_meets_30 : decode cX12_meets 30 = .ok (.iconst 3, 1) := by decide +kernel
theorem dX12_meets_31 : decode cX12_meets 31 = .ok (.invokevirtual 261, 3) := by decide +kernel
theorem dX12_meets_34 : decode cX12_meets 34 = .ok (.istore 10, 2) := by decide +kernel
theorem dX12_meets_36 : decode cX12_meets 36 = .ok (.iload_n 3, 1) := by decide +kernel
theorem dX12_meets_37 : decode cX12_meets 37 = .ok (.iload 5, 2) := by decide +kernel
theorem dX12_meets_39 : decode cX12_meets 39 = .ok (.invokestatic 264, 3) := by decide +kernel
theorem dX12_meets_42 : decode cX12_meets 42 = .ok (.iload 7, 2) := by decide +kernel
theorem dX12_meets_44 : decode cX12_meets 44 = .ok (.if_icmp .lt 38, 3) := by decide +kernel
theorem dX12_meets_47 : decode cX12_meets 47 = .ok (.iload_n 3, 1) := by decide +kernel
theorem dX12_meets_48 : decode cX12_meets 48 = .ok (.iload 5, 2) := by decide +kernel
theorem dX12_meets_50 : decode cX12_meets 50 = .ok (.invokestatic 183, 3) := by decide +kernel
theorem dX12_meets_53 : decode cX12_meets 53 = .ok (.iload 9, 2) := by decide +kernel
theorem dX12_meets_55 : decode cX12_meets 55 = .ok (.if_icmp .gt 27, 3) := by decide +kernel
theorem dX12_meets_58 : decode cX12_meets 58 = .ok (.iload 4, 2) := by decide +kernel
theorem dX12_meets_60 : decode cX12_meets 60 = .ok (.iload 6, 2) := by decide +kernel
theorem dX12_meets_62 : decode cX12_meets 62 = .ok (.invokestatic 264, 3) := by decide +kernel
theorem dX12_meets_65 : decode cX12_meets 65 = .ok (.iload 8, 2) := by decide +kernel
theorem dX12_meets_67 : decode cX12_meets 67 = .ok (.if_icmp .lt 15, 3) := by decide +kernel
theorem dX12_meets_70 : decode cX12_meets 70 = .ok (.iload 4, 2) := by decide +kernel
theorem dX12_meets_72 : decode cX12_meets 72 = .ok (.iload 6, 2) := by decide +kernel
theorem dX12_meets_74 : decode cX12_meets 74 = .ok (.invokestatic 183, 3) := by decide +kernel
theorem dX12_meets_77 : decode cX12_meets 77 = .ok (.iload 10, 2) := by decide +kernel
theorem dX12_meets_79 : decode cX12_meets 79 = .ok (.if_icmp .le 5, 3) := by decide +kernel
theorem dX12_meets_82 : decode cX12_meets 82 = .ok (.iconst 0, 1) := by decide +kernel
theorem dX12_meets_83 : decode cX12_meets 83 = .ok (.ireturn, 1) := by decide +kernel
theorem dX12_meets_84 : decode cX12_meets 84 = .ok (.iload_n 3, 1) := by decide +kernel
theorem dX12_meets_85 : decode cX12_meets 85 = .ok (.iload 4, 2) := by decide +kernel
theorem dX12_meets_87 : decode cX12_meets 87 = .ok (.iload 5, 2) := by decide +kernel
theorem dX12_meets_89 : decode cX12_meets 89 = .ok (.iload 6, 2) := by decide +kernel
theorem dX12_meets_91 : decode cX12_meets 91 = .ok (.iload 7, 2) := by decide +kernel
theorem dX12_meets_93 : decode cX12_meets 93 = .ok (.iload 8, 2) := by decide +kernel
theorem dX12_meets_95 : decode cX12_meets 95 = .ok (.invokestatic 267, 3) := by decide +kernel
theorem dX12_meets_98 : decode cX12_meets 98 = .ok (.iload_n 3, 1) := by decide +kernel
theorem dX12_meets_99 : decode cX12_meets 99 = .ok (.iload 4, 2) := by decide +kernel
theorem dX12_meets_101 : decode cX12_meets 101 = .ok (.iload 5, 2) := by decide +kernel
theorem dX12_meets_103 : decode cX12_meets 103 = .ok (.iload 6, 2) := by decide +kernel
theorem dX12_meets_105 : decode cX12_meets 105 = .ok (.iload 7, 2) := by decide +kernel
theorem dX12_meets_107 : decode cX12_meets 107 = .ok (.iload 10, 2) := by decide +kernel
theorem dX12_meets_109 : decode cX12_meets 109 = .ok (.invokestatic 267, 3) := by decide +kernel
theorem dX12_meets_112 : decode cX12_meets 112 = .ok (.iadd, 1) := by decide +kernel
theorem dX12_meets_113 : decode cX12_meets 113 = .ok (.iload_n 3, 1) := by decide +kernel
theorem dX12_meets_114 : decode cX12_meets 114 = .ok (.iload 4, 2) := by decide +kernel
theorem dX12_meets_116 : decode cX12_meets 116 = .ok (.iload 5, 2) := by decide +kernel
theorem dX12_meets_118 : decode cX12_meets 118 = .ok (.iload 6, 2) := by decide +kernel
theorem dX12_meets_120 : decode cX12_meets 120 = .ok (.iload 9, 2) := by decide +kernel
theorem dX12_meets_122 : decode cX12_meets 122 = .ok (.iload 8, 2) := by decide +kernel
theorem dX12_meets_124 : decode cX12_meets 124 = .ok (.invokestatic 267, 3) := by decide +kernel
theorem dX12_meets_127 : decode cX12_meets 127 = .ok (.iadd, 1) := by decide +kernel
theorem dX12_meets_128 : decode cX12_meets 128 = .ok (.iload_n 3, 1) := by decide +kernel
theorem dX12_meets_129 : decode cX12_meets 129 = .ok (.iload 4, 2) := by decide +kernel
theorem dX12_meets_131 : decode cX12_meets 131 = .ok (.iload 5, 2) := by decide +kernel
theorem dX12_meets_133 : decode cX12_meets 133 = .ok (.iload 6, 2) := by decide +kernel
theorem dX12_meets_135 : decode cX12_meets 135 = .ok (.iload 9, 2) := by decide +kernel
theorem dX12_meets_137 : decode cX12_meets 137 = .ok (.iload 10, 2) := by decide +kernel
theorem dX12_meets_139 : decode cX12_meets 139 = .ok (.invokestatic 267, 3) := by decide +kernel
theorem dX12_meets_142 : decode cX12_meets 142 = .ok (.iadd, 1) := by decide +kernel
theorem dX12_meets_143 : decode cX12_meets 143 = .ok (.istore 11, 2) := by decide +kernel
theorem dX12_meets_145 : decode cX12_meets 145 = .ok (.iload 11, 2) := by decide +kernel
theorem dX12_meets_147 : decode cX12_meets 147 = .ok (.bipush (-4), 2) := by decide +kernel
theorem dX12_meets_149 : decode cX12_meets 149 = .ok (.if_icmp .le 13, 3) := by decide +kernel
theorem dX12_meets_152 : decode cX12_meets 152 = .ok (.iload 11, 2) := by decide +kernel
theorem dX12_meets_154 : decode cX12_meets 154 = .ok (.iconst 4, 1) := by decide +kernel
theorem dX12_meets_155 : decode cX12_meets 155 = .ok (.if_icmp .ge 7, 3) := by decide +kernel
theorem dX12_meets_158 : decode cX12_meets 158 = .ok (.iconst 1, 1) := by decide +kernel
theorem dX12_meets_159 : decode cX12_meets 159 = .ok (.goto 4, 3) := by decide +kernel
theorem dX12_meets_162 : decode cX12_meets 162 = .ok (.iconst 0, 1) := by decide +kernel
theorem dX12_meets_163 : decode cX12_meets 163 = .ok (.ireturn, 1) := by decide +kernel
theorem dX12_throughWoods_0 : decode cX12_throughWoods 0 = .ok (.iload_n 3, 1) := by decide +kernel
theorem dX12_throughWoods_1 : decode cX12_throughWoods 1 = .ok (.istore 9, 2) := by decide +kernel
theorem dX12_throughWoods_3 : decode cX12_throughWoods 3 = .ok (.iconst 0, 1) := by decide +kernel
theorem dX12_throughWoods_4 : decode cX12_throughWoods 4 = .ok (.istore 10, 2) := by decide +kernel
theorem dX12_throughWoods_6 : decode cX12_throughWoods 6 = .ok (.iload 10, 2) := by decide +kernel
theorem dX12_throughWoods_8 : decode cX12_throughWoods 8 = .ok (.aload_n 0, 1) := by decide +kernel
theorem dX12_throughWoods_9 : decode cX12_throughWoods 9 = .ok (.getfield 34, 3) := by decide +kernel
theorem dX12_throughWoods_12 : decode cX12_throughWoods 12 = .ok (.iload_n 1, 1) := by decide +kernel
theorem dX12_throughWoods_13 : decode cX12_throughWoods 13 = .ok (.iaload, 1) := by decide +kernel
theorem dX12_throughWoods_14 : decode cX12_throughWoods 14 = .ok (.if_icmp .ge 67, 3) := by decide +kernel
theorem dX12_throughWoods_17 : decode cX12_throughWoods 17 = .ok (.aload_n 0, 1) := by decide +kernel
theorem dX12_throughWoods_18 : decode cX12_throughWoods 18 = .ok (.iload_n 1, 1) := by decide +kernel
theorem dX12_throughWoods_19 : decode cX12_throughWoods 19 = .ok (.iload 10, 2) := by decide +kernel
theorem dX12_throughWoods_21 : decode cX12_throughWoods 21 = .ok (.iload 5, 2) := by decide +kernel
theorem dX12_throughWoods_23 : decode cX12_throughWoods 23 = .ok (.iload 6, 2) := by decide +kernel
theorem dX12_throughWoods_25 : decode cX12_throughWoods 25 = .ok (.iload 7, 2) := by decide +kernel
theorem dX12_throughWoods_27 : decode cX12_throughWoods 27 = .ok (.iload 8, 2) := by decide +kernel
theorem dX12_throughWoods_29 : decode cX12_throughWoods 29 = .ok (.invokevirtual 271, 3) := by decide +kernel
theorem dX12_throughWoods_32 : decode cX12_throughWoods 32 = .ok (.ifCond .ne 6, 3) := by decide +kernel
theorem dX12_throughWoods_35 : decode cX12_throughWoods 35 = .ok (.goto 40, 3) := by decide +kernel
theorem dX12_throughWoods_38 : decode cX12_throughWoods 38 = .ok (.iconst 0, 1) := by decide +kernel
theorem dX12_throughWoods_39 : decode cX12_throughWoods 39 = .ok (.istore 11, 2) := by decide +kernel
theorem dX12_throughWoods_41 : decode cX12_throughWoods 41 = .ok (.iload 11, 2) := by decide +kernel
theorem dX12_throughWoods_43 : decode cX12_throughWoods 43 = .ok (.iload 4, 2) := by decide +kernel
theorem dX12_throughWoods_45 : decode cX12_throughWoods 45 = .ok (.if_icmp .ge 30, 3) := by decide +kernel
theorem dX12_throughWoods_48 : decode cX12_throughWoods 48 = .ok (.iload 9, 2) := by decide +kernel
theorem dX12_throughWoods_50 : decode cX12_throughWoods 50 = .ok (.bipush 100, 2) := by decide +kernel
theorem dX12_throughWoods_52 : decode cX12_throughWoods 52 = .ok (.aload_n 0, 1) := by decide +kernel
theorem dX12_throughWoods_53 : decode cX12_throughWoods 53 = .ok (.iload_n 1, 1) := by decide +kernel
theorem dX12_throughWoods_54 : decode cX12_throughWoods 54 = .ok (.iload 10, 2) := by decide +kernel
theorem dX12_throughWoods_56 : decode cX12_throughWoods 56 = .ok (.iconst 4, 1) := by decide +kernel
theorem dX12_throughWoods_57 : decode cX12_throughWoods 57 = .ok (.iload_n 2, 1) := by decide +kernel
theorem dX12_throughWoods_58 : decode cX12_throughWoods 58 = .ok (.iadd, 1) := by decide +kernel
theorem dX12_throughWoods_59 : decode cX12_throughWoods 59 = .ok (.invokevirtual 261, 3) := by decide +kernel
theorem dX12_throughWoods_62 : decode cX12_throughWoods 62 = .ok (.isub, 1) := by decide +kernel
theorem dX12_throughWoods_63 : decode cX12_throughWoods 63 = .ok (.imul, 1) := by decide +kernel
theorem dX12_throughWoods_64 : decode cX12_throughWoods 64 = .ok (.bipush 100, 2) := by decide +kernel
theorem dX12_throughWoods_66 : decode cX12_throughWoods 66 = .ok (.idiv, 1) := by decide +kernel
theorem dX12_throughWoods_67 : decode cX12_throughWoods 67 = .ok (.istore 9, 2) := by decide +kernel
theorem dX12_throughWoods_69 : decode cX12_throughWoods 69 = .ok (.iinc 11 1, 3) := by decide +kernel
theorem dX12_throughWoods_72 : decode cX12_throughWoods 72 = .ok (.goto (-31), 3) := by decide +kernel
theorem dX12_throughWoods_75 : decode cX12_throughWoods 75 = .ok (.iinc 10 1, 3) := by decide +kernel
theorem dX12_throughWoods_78 : decode cX12_throughWoods 78 = .ok (.goto (-72), 3) := by decide +kernel
theorem dX12_throughWoods_81 : decode cX12_throughWoods 81 = .ok (.iload 9, 2) := by decide +kernel
theorem dX12_throughWoods_83 : decode cX12_throughWoods 83 = .ok (.ireturn, 1) := by decide +kernel
theorem dX12_isHidden_0 : decode cX12_isHidden 0 = .ok (.iconst 0, 1) := by decide +kernel
theorem dX12_isHidden_1 : decode cX12_isHidden 1 = .ok (.istore 7, 2) := by decide +kernel
theorem dX12_isHidden_3 : decode cX12_isHidden 3 = .ok (.iload 7, 2) := by decide +kernel
theorem dX12_isHidden_5 : decode cX12_isHidden 5 = .ok (.aload_n 0, 1) := by decide +kernel
theorem dX12_isHidden_6 : decode cX12_isHidden 6 = .ok (.getfield 27, 3) := by decide +kernel
theorem dX12_isHidden_9 : decode cX12_isHidden 9 = .ok (.iload_n 1, 1) := by decide +kernel
theorem dX12_isHidden_10 : decode cX12_isHidden 10 = .ok (.iaload, 1) := by decide +kernel
theorem dX12_isHidden_11 : decode cX12_isHidden 11 = .ok (.if_icmp .ge 201, 3) := by decide +kernel
theorem dX12_isHidden_14 : decode cX12_isHidden 14 = .ok (.iload_n 2, 1) := by decide +kernel
theorem dX12_isHidden_15 : decode cX12_isHidden 15 = .ok (.bipush 8, 2) := by decide +kernel
theorem dX12_isHidden_17 : decode cX12_isHidden 17 = .ok (.iload 7, 2) := by decide +kernel
theorem dX12_isHidden_19 : decode cX12_isHidden 19 = .ok (.iadd, 1) := by decide +kernel
theorem dX12_isHidden_20 : decode cX12_isHidden 20 = .ok (.ishr, 1) := by decide +kernel
theorem dX12_isHidden_21 : decode cX12_isHidden 21 = .ok (.iconst 1, 1) := by decide +kernel
theorem dX12_isHidden_22 : decode cX12_isHidden 22 = .ok (.iand, 1) := by decide +kernel
theorem dX12_isHidden_23 : decode cX12_isHidden 23 = .ok (.iconst 1, 1) := by decide +kernel
theorem dX12_isHidden_24 : decode cX12_isHidden 24 = .ok (.if_icmp .ne 6, 3) := by decide +kernel
theorem dX12_isHidden_27 : decode cX12_isHidden 27 = .ok (.goto 179, 3) := by decide +kernel
theorem dX12_isHidden_30 : decode cX12_isHidden 30 = .ok (.aload_n 0, 1) := by decide +kernel
theorem dX12_isHidden_31 : decode cX12_isHidden 31 = .ok (.iload_n 1, 1) := by decide +kernel
theorem dX12_isHidden_32 : decode cX12_isHidden 32 = .ok (.iload 7, 2) := by decide +kernel
theorem dX12_isHidden_34 : decode cX12_isHidden 34 = .ok (.iconst 0, 1) := by decide +kernel
theorem dX12_isHidden_35 : decode cX12_isHidden 35 = .ok (.invokevirtual 275, 3) := by decide +kernel
theorem dX12_isHidden_38 : decode cX12_isHidden 38 = .ok (.iconst 1, 1) := by decide +kernel
theorem dX12_isHidden_39 : decode cX12_isHidden 39 = .ok (.if_icmp .ne 7, 3) := by decide +kernel
theorem dX12_isHidden_42 : decode cX12_isHidden 42 = .ok (.iconst 1, 1) := by decide +kernel
theorem dX12_isHidden_43 : decode cX12_isHidden 43 = .ok (.goto 4, 3) := by decide +kernel
theorem dX12_isHidden_46 : decode cX12_isHidden 46 = .ok (.iconst 0, 1) := by decide +kernel
theorem dX12_isHidden_47 : decode cX12_isHidden 47 = .ok (.istore 8, 2) := by decide +kernel
theorem dX12_isHidden_49 : decode cX12_isHidden 49 = .ok (.iload 8, 2) := by decide +kernel
theorem dX12_isHidden_51 : decode cX12_isHidden 51 = .ok (.ifCond .eq 8, 3) := by decide +kernel
theorem dX12_isHidden_54 : decode cX12_isHidden 54 = .ok (.iload 4, 2) := by decide +kernel
theorem dX12_isHidden_56 : decode cX12_isHidden 56 = .ok (.goto 4, 3) := by decide +kernel
theorem dX12_isHidden_59 : decode cX12_isHidden 59 = .ok (.iload_n 3, 1) := by decide +kernel
theorem dX12_isHidden_60 : decode cX12_isHidden 60 = .ok (.istore 9, 2) := by decide +kernel
theorem dX12_isHidden_62 : decode cX12_isHidden 62 = .ok (.iload 8, 2) := by decide +kernel
theorem dX12_isHidden_64 : decode cX12_isHidden 64 = .ok (.ifCond .eq 8, 3) := by decide +kernel
theorem dX12_isHidden_67 : decode cX12_isHidden 67 = .ok (.iload 6, 2) := by decide +kernel
theorem dX12_isHidden_69 : decode cX12_isHidden 69 = .ok (.goto 5, 3) := by decide +kernel
theorem dX12_isHidden_72 : decode cX12_isHidden 72 = .ok (.iload 5, 2) := by decide +kernel
theorem dX12_isHidden_74 : decode cX12_isHidden 74 = .ok (.istore 10, 2) := by decide +kernel
theorem dX12_isHidden_76 : decode cX12_isHidden 76 = .ok (.aload_n 0, 1) := by decide +kernel
theorem dX12_isHidden_77 : decode cX12_isHidden 77 = .ok (.iload_n 1, 1) := by decide +kernel
theorem dX12_isHidden_78 : decode cX12_isHidden 78 = .ok (.iload 7, 2) := by decide +kernel
theorem dX12_isHidden_80 : decode cX12_isHidden 80 = .ok (.iconst 1, 1) := by decide +kernel
theorem dX12_isHidden_81 : decode cX12_isHidden 81 = .ok (.invokevirtual 275, 3) := by decide +kernel
theorem dX12_isHidden_84 : decode cX12_isHidden 84 = .ok (.istore 11, 2) := by decide +kernel
theorem dX12_isHidden_86 : decode cX12_isHidden 86 = .ok (.iload 11, 2) := by decide +kernel
theorem dX12_isHidden_88 : decode cX12_isHidden 88 = .ok (.iload 9, 2) := by decide +kernel
theorem dX12_isHidden_90 : decode cX12_isHidden 90 = .ok (.iload 10, 2) := by decide +kernel
theorem dX12_isHidden_92 : decode cX12_isHidden 92 = .ok (.invokestatic 183, 3) := by decide +kernel
theorem dX12_isHidden_95 : decode cX12_isHidden 95 = .ok (.if_icmp .le 111, 3) := by decide +kernel
theorem dX12_isHidden_98 : decode cX12_isHidden 98 = .ok (.iload 11, 2) := by decide +kernel
theorem dX12_isHidden_100 : decode cX12_isHidden 100 = .ok (.iload 9, 2) := by decide +kernel
theorem dX12_isHidden_102 : decode cX12_isHidden 102 = .ok (.iload 10, 2) := by decide +kernel
theorem dX12_isHidden_104 : decode cX12_isHidden 104 = .ok (.invokestatic 264, 3) := by decide +kernel
theorem dX12_isHidden_107 : decode cX12_isHidden 107 = .ok (.if_icmp .lt 6, 3) := by decide +kernel
theorem dX12_isHidden_110 : decode cX12_isHidden 110 = .ok (.goto 96, 3) := by decide +kernel
theorem dX12_isHidden_113 : decode cX12_isHidden 113 = .ok (.iload 10, 2) := by decide +kernel
theorem dX12_isHidden_115 : decode cX12_isHidden 115 = .ok (.iload 9, 2) := by decide +kernel
theorem dX12_isHidden_117 : decode cX12_isHidden 117 = .ok (.isub, 1) := by decide +kernel
theorem dX12_isHidden_118 : decode cX12_isHidden 118 = .ok (.invokestatic 278, 3) := by decide +kernel
theorem dX12_isHidden_121 : decode cX12_isHidden 121 = .ok (.istore 12, 2) := by decide +kernel
theorem dX12_isHidden_123 : decode cX12_isHidden 123 = .ok (.iload 8, 2) := by decide +kernel
theorem dX12_isHidden_125 : decode cX12_isHidden 125 = .ok (.ifCond .eq 7, 3) := by decide +kernel
theorem dX12_isHidden_128 : decode cX12_isHidden 128 = .ok (.iload_n 3, 1) := by decide +kernel
theorem dX12_isHidden_129 : decode cX12_isHidden 129 = .ok (.goto 5, 3) := by decide +kernel
theorem dX12_isHidden_132 : decode cX12_isHidden 132 = .ok (.iload 4, 2) := by decide +kernel
theorem dX12_isHidden_134 : decode cX12_isHidden 134 = .ok (.istore 13, 2) := by decide +kernel
theorem dX12_isHidden_136 : decode cX12_isHidden 136 = .ok (.iload 8, 2) := by decide +kernel
theorem dX12_isHidden_138 : decode cX12_isHidden 138 = .ok (.ifCond .eq 8, 3) := by decide +kernel
theorem dX12_isHidden_141 : decode cX12_isHidden 141 = .ok (.iload 5, 2) := by decide +kernel
theorem dX12_isHidden_143 : decode cX12_isHidden 143 = .ok (.goto 5, 3) := by decide +kernel
theorem dX12_isHidden_146 : decode cX12_isHidden 146 = .ok (.iload 6, 2) := by decide +kernel
theorem dX12_isHidden_148 : decode cX12_isHidden 148 = .ok (.istore 14, 2) := by decide +kernel
theorem dX12_isHidden_150 : decode cX12_isHidden 150 = .ok (.iload 13, 2) := by decide +kernel
theorem dX12_isHidden_152 : decode cX12_isHidden 152 = .ok (.iload 12, 2) := by decide +kernel
theorem dX12_isHidden_154 : decode cX12_isHidden 154 = .ok (.imul, 1) := by decide +kernel
theorem dX12_isHidden_155 : decode cX12_isHidden 155 = .ok (.iload 14, 2) := by decide +kernel
theorem dX12_isHidden_157 : decode cX12_isHidden 157 = .ok (.iload 13, 2) := by decide +kernel
theorem dX12_isHidden_159 : decode cX12_isHidden 159 = .ok (.isub, 1) := by decide +kernel
theorem dX12_isHidden_160 : decode cX12_isHidden 160 = .ok (.iload 11, 2) := by decide +kernel
theorem dX12_isHidden_162 : decode cX12_isHidden 162 = .ok (.iload 9, 2) := by decide +kernel
theorem dX12_isHidden_164 : decode cX12_isHidden 164 = .ok (.isub, 1) := by decide +kernel
theorem dX12_isHidden_165 : decode cX12_isHidden 165 = .ok (.invokestatic 278, 3) := by decide +kernel
theorem dX12_isHidden_168 : decode cX12_isHidden 168 = .ok (.imul, 1) := by decide +kernel
theorem dX12_isHidden_169 : decode cX12_isHidden 169 = .ok (.iadd, 1) := by decide +kernel
theorem dX12_isHidden_170 : decode cX12_isHidden 170 = .ok (.istore 15, 2) := by decide +kernel
theorem dX12_isHidden_172 : decode cX12_isHidden 172 = .ok (.iload 15, 2) := by decide +kernel
theorem dX12_isHidden_174 : decode cX12_isHidden 174 = .ok (.aload_n 0, 1) := by decide +kernel
theorem dX12_isHidden_175 : decode cX12_isHidden 175 = .ok (.iload_n 1, 1) := by decide +kernel
theorem dX12_isHidden_176 : decode cX12_isHidden 176 = .ok (.iload 7, 2) := by decide +kernel
theorem dX12_isHidden_178 : decode cX12_isHidden 178 = .ok (.iconst 2, 1) := by decide +kernel
theorem dX12_isHidden_179 : decode cX12_isHidden 179 = .ok (.invokevirtual 275, 3) := by decide +kernel
theorem dX12_isHidden_182 : decode cX12_isHidden 182 = .ok (.iload 12, 2) := by decide +kernel
theorem dX12_isHidden_184 : decode cX12_isHidden 184 = .ok (.imul, 1) := by decide +kernel
theorem dX12_isHidden_185 : decode cX12_isHidden 185 = .ok (.if_icmp .lt 21, 3) := by decide +kernel
theorem dX12_isHidden_188 : decode cX12_isHidden 188 = .ok (.iload 15, 2) := by decide +kernel
theorem dX12_isHidden_190 : decode cX12_isHidden 190 = .ok (.aload_n 0, 1) := by decide +kernel
theorem dX12_isHidden_191 : decode cX12_isHidden 191 = .ok (.iload_n 1, 1) := by decide +kernel
theorem dX12_isHidden_192 : decode cX12_isHidden 192 = .ok (.iload 7, 2) := by decide +kernel
theorem dX12_isHidden_194 : decode cX12_isHidden 194 = .ok (.iconst 3, 1) := by decide +kernel
theorem dX12_isHidden_195 : decode cX12_isHidden 195 = .ok (.invokevirtual 275, 3) := by decide +kernel
theorem dX12_isHidden_198 : decode cX12_isHidden 198 = .ok (.iload 12, 2) := by decide +kernel
theorem dX12_isHidden_200 : decode cX12_isHidden 200 = .ok (.imul, 1) := by decide +kernel
theorem dX12_isHidden_201 : decode cX12_isHidden 201 = .ok (.if_icmp .gt 5, 3) := by decide +kernel
theorem dX12_isHidden_204 : decode cX12_isHidden 204 = .ok (.iconst 1, 1) := by decide +kernel
theorem dX12_isHidden_205 : decode cX12_isHidden 205 = .ok (.ireturn, 1) := by decide +kernel
theorem dX12_isHidden_206 : decode cX12_isHidden 206 = .ok (.iinc 7 1, 3) := by decide +kernel
theorem dX12_isHidden_209 : decode cX12_isHidden 209 = .ok (.goto (-206), 3) := by decide +kernel
theorem dX12_isHidden_212 : decode cX12_isHidden 212 = .ok (.iconst 0, 1) := by decide +kernel
theorem dX12_isHidden_213 : decode cX12_isHidden 213 = .ok (.ireturn, 1) := by decide +kernel
theorem dX12_reach_0 : decode cX12_reach 0 = .ok (.aload_n 0, 1) := by decide +kernel
theorem dX12_reach_1 : decode cX12_reach 1 = .ok (.iload_n 1, 1) := by decide +kernel
theorem dX12_reach_2 : decode cX12_reach 2 = .ok (.iload_n 2, 1) := by decide +kernel
theorem dX12_reach_3 : decode cX12_reach 3 = .ok (.iconst 0, 1) := by decide +kernel
theorem dX12_reach_4 : decode cX12_reach 4 = .ok (.invokevirtual 275, 3) := by decide +kernel
theorem dX12_reach_7 : decode cX12_reach 7 = .ok (.iconst 1, 1) := by decide +kernel
theorem dX12_reach_8 : decode cX12_reach 8 = .ok (.if_icmp .ne 7, 3) := by decide +kernel
theorem dX12_reach_11 : decode cX12_reach 11 = .ok (.iconst 1, 1) := by decide +kernel
theorem dX12_reach_12 : decode cX12_reach 12 = .ok (.goto 4, 3) := by decide +kernel
theorem dX12_reach_15 : decode cX12_reach 15 = .ok (.iconst 0, 1) := by decide +kernel
theorem dX12_reach_16 : decode cX12_reach 16 = .ok (.istore 5, 2) := by decide +kernel
theorem dX12_reach_18 : decode cX12_reach 18 = .ok (.iload 5, 2) := by decide +kernel
theorem dX12_reach_20 : decode cX12_reach 20 = .ok (.ifCond .eq 7, 3) := by decide +kernel
theorem dX12_reach_23 : decode cX12_reach 23 = .ok (.iload_n 3, 1) := by decide +kernel
theorem dX12_reach_24 : decode cX12_reach 24 = .ok (.goto 5, 3) := by decide +kernel
theorem dX12_reach_27 : decode cX12_reach 27 = .ok (.iload 4, 2) := by decide +kernel
theorem dX12_reach_29 : decode cX12_reach 29 = .ok (.istore 6, 2) := by decide +kernel
theorem dX12_reach_31 : decode cX12_reach 31 = .ok (.iload 6, 2) := by decide +kernel
theorem dX12_reach_33 : decode cX12_reach 33 = .ok (.aload_n 0, 1) := by decide +kernel
theorem dX12_reach_34 : decode cX12_reach 34 = .ok (.iload_n 1, 1) := by decide +kernel
theorem dX12_reach_35 : decode cX12_reach 35 = .ok (.iload_n 2, 1) := by decide +kernel
theorem dX12_reach_36 : decode cX12_reach 36 = .ok (.iconst 2, 1) := by decide +kernel
theorem dX12_reach_37 : decode cX12_reach 37 = .ok (.invokevirtual 275, 3) := by decide +kernel
theorem dX12_reach_40 : decode cX12_reach 40 = .ok (.aload_n 0, 1) := by decide +kernel
theorem dX12_reach_41 : decode cX12_reach 41 = .ok (.iload_n 1, 1) := by decide +kernel
theorem dX12_reach_42 : decode cX12_reach 42 = .ok (.iload_n 2, 1) := by decide +kernel
theorem dX12_reach_43 : decode cX12_reach 43 = .ok (.iconst 3, 1) := by decide +kernel
theorem dX12_reach_44 : decode cX12_reach 44 = .ok (.invokevirtual 275, 3) := by decide +kernel
theorem dX12_reach_47 : decode cX12_reach 47 = .ok (.invokestatic 150, 3) := by decide +kernel
theorem dX12_reach_50 : decode cX12_reach 50 = .ok (.ifCond .eq 25, 3) := by decide +kernel
theorem dX12_reach_53 : decode cX12_reach 53 = .ok (.aload_n 0, 1) := by decide +kernel
theorem dX12_reach_54 : decode cX12_reach 54 = .ok (.iload_n 1, 1) := by decide +kernel
theorem dX12_reach_55 : decode cX12_reach 55 = .ok (.iload_n 2, 1) := by decide +kernel
theorem dX12_reach_56 : decode cX12_reach 56 = .ok (.iconst 1, 1) := by decide +kernel
theorem dX12_reach_57 : decode cX12_reach 57 = .ok (.invokevirtual 275, 3) := by decide +kernel
theorem dX12_reach_60 : decode cX12_reach 60 = .ok (.iload 5, 2) := by decide +kernel
theorem dX12_reach_62 : decode cX12_reach 62 = .ok (.ifCond .eq 8, 3) := by decide +kernel
theorem dX12_reach_65 : decode cX12_reach 65 = .ok (.iload 4, 2) := by decide +kernel
theorem dX12_reach_67 : decode cX12_reach 67 = .ok (.goto 4, 3) := by decide +kernel
theorem dX12_reach_70 : decode cX12_reach 70 = .ok (.iload_n 3, 1) := by decide +kernel
theorem dX12_reach_71 : decode cX12_reach 71 = .ok (.isub, 1) := by decide +kernel
theorem dX12_reach_72 : decode cX12_reach 72 = .ok (.goto 4, 3) := by decide +kernel
theorem dX12_reach_75 : decode cX12_reach 75 = .ok (.iconst 0, 1) := by decide +kernel
theorem dX12_reach_76 : decode cX12_reach 76 = .ok (.ireturn, 1) := by decide +kernel
theorem dX12_isOut_0 : decode cX12_isOut 0 = .ok (.aload_n 0, 1) := by decide +kernel
theorem dX12_isOut_1 : decode cX12_isOut 1 = .ok (.iload_n 1, 1) := by decide +kernel
theorem dX12_isOut_2 : decode cX12_isOut 2 = .ok (.iload_n 3, 1) := by decide +kernel
theorem dX12_isOut_3 : decode cX12_isOut 3 = .ok (.iload 4, 2) := by decide +kernel
theorem dX12_isOut_5 : decode cX12_isOut 5 = .ok (.iload 5, 2) := by decide +kernel
theorem dX12_isOut_7 : decode cX12_isOut 7 = .ok (.invokevirtual 281, 3) := by decide +kernel
theorem dX12_isOut_10 : decode cX12_isOut 10 = .ok (.istore 6, 2) := by decide +kernel
theorem dX12_isOut_12 : decode cX12_isOut 12 = .ok (.iload 6, 2) := by decide +kernel
theorem dX12_isOut_14 : decode cX12_isOut 14 = .ok (.ifCond .eq 15, 3) := by decide +kernel
theorem dX12_isOut_17 : decode cX12_isOut 17 = .ok (.iload_n 2, 1) := by decide +kernel
theorem dX12_isOut_18 : decode cX12_isOut 18 = .ok (.bipush 8, 2) := by decide +kernel
theorem dX12_isOut_20 : decode cX12_isOut 20 = .ok (.iload_n 3, 1) := by decide +kernel
theorem dX12_isOut_21 : decode cX12_isOut 21 = .ok (.iadd, 1) := by decide +kernel
theorem dX12_isOut_22 : decode cX12_isOut 22 = .ok (.ishr, 1) := by decide +kernel
theorem dX12_isOut_23 : decode cX12_isOut 23 = .ok (.iconst 1, 1) := by decide +kernel
theorem dX12_isOut_24 : decode cX12_isOut 24 = .ok (.iand, 1) := by decide +kernel
theorem dX12_isOut_25 : decode cX12_isOut 25 = .ok (.iconst 1, 1) := by decide +kernel
theorem dX12_isOut_26 : decode cX12_isOut 26 = .ok (.if_icmp .ne 5, 3) := by decide +kernel
theorem dX12_isOut_29 : decode cX12_isOut 29 = .ok (.iconst 1, 1) := by decide +kernel
theorem dX12_isOut_30 : decode cX12_isOut 30 = .ok (.ireturn, 1) := by decide +kernel
theorem dX12_isOut_31 : decode cX12_isOut 31 = .ok (.iconst 0, 1) := by decide +kernel
theorem dX12_isOut_32 : decode cX12_isOut 32 = .ok (.istore 7, 2) := by decide +kernel
theorem dX12_isOut_34 : decode cX12_isOut 34 = .ok (.iload 7, 2) := by decide +kernel
theorem dX12_isOut_36 : decode cX12_isOut 36 = .ok (.aload_n 0, 1) := by decide +kernel
theorem dX12_isOut_37 : decode cX12_isOut 37 = .ok (.getfield 27, 3) := by decide +kernel
theorem dX12_isOut_40 : decode cX12_isOut 40 = .ok (.iload_n 1, 1) := by decide +kernel
theorem dX12_isOut_41 : decode cX12_isOut 41 = .ok (.iaload, 1) := by decide +kernel
theorem dX12_isOut_42 : decode cX12_isOut 42 = .ok (.if_icmp .ge 118, 3) := by decide +kernel
theorem dX12_isOut_45 : decode cX12_isOut 45 = .ok (.aload_n 0, 1) := by decide +kernel
theorem dX12_isOut_46 : decode cX12_isOut 46 = .ok (.iload_n 1, 1) := by decide +kernel
theorem dX12_isOut_47 : decode cX12_isOut 47 = .ok (.iload 7, 2) := by decide +kernel
theorem dX12_isOut_49 : decode cX12_isOut 49 = .ok (.iload 4, 2) := by decide +kernel
theorem dX12_isOut_51 : decode cX12_isOut 51 = .ok (.iload 5, 2) := by decide +kernel
theorem dX12_isOut_53 : decode cX12_isOut 53 = .ok (.invokevirtual 281, 3) := by decide +kernel
theorem dX12_isOut_56 : decode cX12_isOut 56 = .ok (.istore 8, 2) := by decide +kernel
theorem dX12_isOut_58 : decode cX12_isOut 58 = .ok (.iload 7, 2) := by decide +kernel
theorem dX12_isOut_60 : decode cX12_isOut 60 = .ok (.iload_n 3, 1) := by decide +kernel
theorem dX12_isOut_61 : decode cX12_isOut 61 = .ok (.if_icmp .eq 93, 3) := by decide +kernel
theorem dX12_isOut_64 : decode cX12_isOut 64 = .ok (.iload_n 2, 1) := by decide +kernel
theorem dX12_isOut_65 : decode cX12_isOut 65 = .ok (.bipush 8, 2) := by decide +kernel
theorem dX12_isOut_67 : decode cX12_isOut 67 = .ok (.iload 7, 2) := by decide +kernel
theorem dX12_isOut_69 : decode cX12_isOut 69 = .ok (.iadd, 1) := by decide +kernel
theorem dX12_isOut_70 : decode cX12_isOut 70 = .ok (.ishr, 1) := by decide +kernel
theorem dX12_isOut_71 : decode cX12_isOut 71 = .ok (.iconst 1, 1) := by decide +kernel
theorem dX12_isOut_72 : decode cX12_isOut 72 = .ok (.iand, 1) := by decide +kernel
theorem dX12_isOut_73 : decode cX12_isOut 73 = .ok (.iconst 1, 1) := by decide +kernel
theorem dX12_isOut_74 : decode cX12_isOut 74 = .ok (.if_icmp .eq 80, 3) := by decide +kernel
theorem dX12_isOut_77 : decode cX12_isOut 77 = .ok (.aload_n 0, 1) := by decide +kernel
theorem dX12_isOut_78 : decode cX12_isOut 78 = .ok (.iload_n 1, 1) := by decide +kernel
theorem dX12_isOut_79 : decode cX12_isOut 79 = .ok (.iload 7, 2) := by decide +kernel
theorem dX12_isOut_81 : decode cX12_isOut 81 = .ok (.iconst 0, 1) := by decide +kernel
theorem dX12_isOut_82 : decode cX12_isOut 82 = .ok (.invokevirtual 275, 3) := by decide +kernel
theorem dX12_isOut_85 : decode cX12_isOut 85 = .ok (.aload_n 0, 1) := by decide +kernel
theorem dX12_isOut_86 : decode cX12_isOut 86 = .ok (.iload_n 1, 1) := by decide +kernel
theorem dX12_isOut_87 : decode cX12_isOut 87 = .ok (.iload_n 3, 1) := by decide +kernel
theorem dX12_isOut_88 : decode cX12_isOut 88 = .ok (.iconst 0, 1) := by decide +kernel
theorem dX12_isOut_89 : decode cX12_isOut 89 = .ok (.invokevirtual 275, 3) := by decide +kernel
theorem dX12_isOut_92 : decode cX12_isOut 92 = .ok (.if_icmp .ne 62, 3) := by decide +kernel
theorem dX12_isOut_95 : decode cX12_isOut 95 = .ok (.iload 8, 2) := by decide +kernel
theorem dX12_isOut_97 : decode cX12_isOut 97 = .ok (.ifCond .eq 57, 3) := by decide +kernel
theorem dX12_isOut_100 : decode cX12_isOut 100 = .ok (.iload 8, 2) := by decide +kernel
theorem dX12_isOut_102 : decode cX12_isOut 102 = .ok (.ifCond .le 7, 3) := by decide +kernel
theorem dX12_isOut_105 : decode cX12_isOut 105 = .ok (.iconst 1, 1) := by decide +kernel
theorem dX12_isOut_106 : decode cX12_isOut 106 = .ok (.goto 4, 3) := by decide +kernel
theorem dX12_isOut_109 : decode cX12_isOut 109 = .ok (.iconst 0, 1) := by decide +kernel
theorem dX12_isOut_110 : decode cX12_isOut 110 = .ok (.iload 6, 2) := by decide +kernel
theorem dX12_isOut_112 : decode cX12_isOut 112 = .ok (.ifCond .le 7, 3) := by decide +kernel
theorem dX12_isOut_115 : decode cX12_isOut 115 = .ok (.iconst 1, 1) := by decide +kernel
theorem dX12_isOut_116 : decode cX12_isOut 116 = .ok (.goto 4, 3) := by decide +kernel
theorem dX12_isOut_119 : decode cX12_isOut 119 = .ok (.iconst 0, 1) := by decide +kernel
theorem dX12_isOut_120 : decode cX12_isOut 120 = .ok (.if_icmp .eq 6, 3) := by decide +kernel
theorem dX12_isOut_123 : decode cX12_isOut 123 = .ok (.goto 31, 3) := by decide +kernel
theorem dX12_isOut_126 : decode cX12_isOut 126 = .ok (.iload 8, 2) := by decide +kernel
theorem dX12_isOut_128 : decode cX12_isOut 128 = .ok (.invokestatic 278, 3) := by decide +kernel
theorem dX12_isOut_131 : decode cX12_isOut 131 = .ok (.iload 6, 2) := by decide +kernel
theorem dX12_isOut_133 : decode cX12_isOut 133 = .ok (.invokestatic 278, 3) := by decide +kernel
theorem dX12_isOut_136 : decode cX12_isOut 136 = .ok (.if_icmp .lt 16, 3) := by decide +kernel
theorem dX12_isOut_139 : decode cX12_isOut 139 = .ok (.iload 8, 2) := by decide +kernel
theorem dX12_isOut_141 : decode cX12_isOut 141 = .ok (.iload 6, 2) := by decide +kernel
theorem dX12_isOut_143 : decode cX12_isOut 143 = .ok (.if_icmp .ne 11, 3) := by decide +kernel
theorem dX12_isOut_146 : decode cX12_isOut 146 = .ok (.iload 7, 2) := by decide +kernel
theorem dX12_isOut_148 : decode cX12_isOut 148 = .ok (.iload_n 3, 1) := by decide +kernel
theorem dX12_isOut_149 : decode cX12_isOut 149 = .ok (.if_icmp .ge 5, 3) := by decide +kernel
theorem dX12_isOut_152 : decode cX12_isOut 152 = .ok (.iconst 1, 1) := by decide +kernel
theorem dX12_isOut_153 : decode cX12_isOut 153 = .ok (.ireturn, 1) := by decide +kernel
theorem dX12_isOut_154 : decode cX12_isOut 154 = .ok (.iinc 7 1, 3) := by decide +kernel
theorem dX12_isOut_157 : decode cX12_isOut 157 = .ok (.goto (-123), 3) := by decide +kernel
theorem dX12_isOut_160 : decode cX12_isOut 160 = .ok (.iconst 0, 1) := by decide +kernel
theorem dX12_isOut_161 : decode cX12_isOut 161 = .ok (.ireturn, 1) := by decide +kernel
theorem dX12_firstOf_0 : decode cX12_firstOf 0 = .ok (.aload_n 0, 1) := by decide +kernel
theorem dX12_firstOf_1 : decode cX12_firstOf 1 = .ok (.iload_n 1, 1) := by decide +kernel
theorem dX12_firstOf_2 : decode cX12_firstOf 2 = .ok (.iload_n 2, 1) := by decide +kernel
theorem dX12_firstOf_3 : decode cX12_firstOf 3 = .ok (.iload_n 3, 1) := by decide +kernel
theorem dX12_firstOf_4 : decode cX12_firstOf 4 = .ok (.iload 4, 2) := by decide +kernel
theorem dX12_firstOf_6 : decode cX12_firstOf 6 = .ok (.invokevirtual 281, 3) := by decide +kernel
theorem dX12_firstOf_9 : decode cX12_firstOf 9 = .ok (.istore 6, 2) := by decide +kernel
theorem dX12_firstOf_11 : decode cX12_firstOf 11 = .ok (.aload_n 0, 1) := by decide +kernel
theorem dX12_firstOf_12 : decode cX12_firstOf 12 = .ok (.iload_n 1, 1) := by decide +kernel
theorem dX12_firstOf_13 : decode cX12_firstOf 13 = .ok (.iload_n 2, 1) := by decide +kernel
theorem dX12_firstOf_14 : decode cX12_firstOf 14 = .ok (.iconst 0, 1) := by decide +kernel
theorem dX12_firstOf_15 : decode cX12_firstOf 15 = .ok (.invokevirtual 275, 3) := by decide +kernel
theorem dX12_firstOf_18 : decode cX12_firstOf 18 = .ok (.iconst 1, 1) := by decide +kernel
theorem dX12_firstOf_19 : decode cX12_firstOf 19 = .ok (.if_icmp .ne 7, 3) := by decide +kernel
theorem dX12_firstOf_22 : decode cX12_firstOf 22 = .ok (.iconst 1, 1) := by decide +kernel
theorem dX12_firstOf_23 : decode cX12_firstOf 23 = .ok (.goto 4, 3) := by decide +kernel
theorem dX12_firstOf_26 : decode cX12_firstOf 26 = .ok (.iconst 0, 1) := by decide +kernel
theorem dX12_firstOf_27 : decode cX12_firstOf 27 = .ok (.istore 7, 2) := by decide +kernel
theorem dX12_firstOf_29 : decode cX12_firstOf 29 = .ok (.aload_n 0, 1) := by decide +kernel
theorem dX12_firstOf_30 : decode cX12_firstOf 30 = .ok (.getfield 61, 3) := by decide +kernel
theorem dX12_firstOf_33 : decode cX12_firstOf 33 = .ok (.iload_n 2, 1) := by decide +kernel
theorem dX12_firstOf_34 : decode cX12_firstOf 34 = .ok (.iconst 4, 1) := by decide +kernel
theorem dX12_firstOf_35 : decode cX12_firstOf 35 = .ok (.iload 6, 2) := by decide +kernel
theorem dX12_firstOf_37 : decode cX12_firstOf 37 = .ok (.imul, 1) := by decide +kernel
theorem dX12_firstOf_38 : decode cX12_firstOf 38 = .ok (.iload 6, 2) := by decide +kernel
theorem dX12_firstOf_40 : decode cX12_firstOf 40 = .ok (.imul, 1) := by decide +kernel
theorem dX12_firstOf_41 : decode cX12_firstOf 41 = .ok (.iastore, 1) := by decide +kernel
theorem dX12_firstOf_42 : decode cX12_firstOf 42 = .ok (.aload_n 0, 1) := by decide +kernel
theorem dX12_firstOf_43 : decode cX12_firstOf 43 = .ok (.getfield 58, 3) := by decide +kernel
theorem dX12_firstOf_46 : decode cX12_firstOf 46 = .ok (.iload_n 2, 1) := by decide +kernel
theorem dX12_firstOf_47 : decode cX12_firstOf 47 = .ok (.aload_n 0, 1) := by decide +kernel
theorem dX12_firstOf_48 : decode cX12_firstOf 48 = .ok (.iload_n 1, 1) := by decide +kernel
theorem dX12_firstOf_49 : decode cX12_firstOf 49 = .ok (.iload 5, 2) := by decide +kernel
theorem dX12_firstOf_51 : decode cX12_firstOf 51 = .ok (.sipush 1000, 3) := by decide +kernel
theorem dX12_firstOf_54 : decode cX12_firstOf 54 = .ok (.bipush 100, 2) := by decide +kernel
theorem dX12_firstOf_56 : decode cX12_firstOf 56 = .ok (.aload_n 0, 1) := by decide +kernel
theorem dX12_firstOf_57 : decode cX12_firstOf 57 = .ok (.iload_n 1, 1) := by decide +kernel
theorem dX12_firstOf_58 : decode cX12_firstOf 58 = .ok (.iload_n 2, 1) := by decide +kernel
theorem dX12_firstOf_59 : decode cX12_firstOf 59 = .ok (.iconst 4, 1) := by decide +kernel
theorem dX12_firstOf_60 : decode cX12_firstOf 60 = .ok (.invokevirtual 275, 3) := by decide +kernel
theorem dX12_firstOf_63 : decode cX12_firstOf 63 = .ok (.isub, 1) := by decide +kernel
theorem dX12_firstOf_64 : decode cX12_firstOf 64 = .ok (.imul, 1) := by decide +kernel
theorem dX12_firstOf_65 : decode cX12_firstOf 65 = .ok (.bipush 100, 2) := by decide +kernel
theorem dX12_firstOf_67 : decode cX12_firstOf 67 = .ok (.idiv, 1) := by decide +kernel
theorem dX12_firstOf_68 : decode cX12_firstOf 68 = .ok (.iconst 2, 1) := by decide +kernel
theorem dX12_firstOf_69 : decode cX12_firstOf 69 = .ok (.iload_n 3, 1) := by decide +kernel
theorem dX12_firstOf_70 : decode cX12_firstOf 70 = .ok (.iload 4, 2) := by decide +kernel
theorem dX12_firstOf_72 : decode cX12_firstOf 72 = .ok (.iload 7, 2) := by decide +kernel
theorem dX12_firstOf_74 : decode cX12_firstOf 74 = .ok (.ifCond .eq 7, 3) := by decide +kernel
theorem dX12_firstOf_77 : decode cX12_firstOf 77 = .ok (.iload_n 3, 1) := by decide +kernel
theorem dX12_firstOf_78 : decode cX12_firstOf 78 = .ok (.goto 10, 3) := by decide +kernel
theorem dX12_firstOf_81 : decode cX12_firstOf 81 = .ok (.aload_n 0, 1) := by decide +kernel
theorem dX12_firstOf_82 : decode cX12_firstOf 82 = .ok (.iload_n 1, 1) := by decide +kernel
theorem dX12_firstOf_83 : decode cX12_firstOf 83 = .ok (.iload_n 2, 1) := by decide +kernel
theorem dX12_firstOf_84 : decode cX12_firstOf 84 = .ok (.iconst 1, 1) := by decide +kernel
theorem dX12_firstOf_85 : decode cX12_firstOf 85 = .ok (.invokevirtual 275, 3) := by decide +kernel
theorem dX12_firstOf_88 : decode cX12_firstOf 88 = .ok (.iload 7, 2) := by decide +kernel
theorem dX12_firstOf_90 : decode cX12_firstOf 90 = .ok (.ifCond .eq 13, 3) := by decide +kernel
theorem dX12_firstOf_93 : decode cX12_firstOf 93 = .ok (.aload_n 0, 1) := by decide +kernel
theorem dX12_firstOf_94 : decode cX12_firstOf 94 = .ok (.iload_n 1, 1) := by decide +kernel
theorem dX12_firstOf_95 : decode cX12_firstOf 95 = .ok (.iload_n 2, 1) := by decide +kernel
theorem dX12_firstOf_96 : decode cX12_firstOf 96 = .ok (.iconst 1, 1) := by decide +kernel
theorem dX12_firstOf_97 : decode cX12_firstOf 97 = .ok (.invokevirtual 275, 3) := by decide +kernel
theorem dX12_firstOf_100 : decode cX12_firstOf 100 = .ok (.goto 5, 3) := by decide +kernel
theorem dX12_firstOf_103 : decode cX12_firstOf 103 = .ok (.iload 4, 2) := by decide +kernel
theorem dX12_firstOf_105 : decode cX12_firstOf 105 = .ok (.invokevirtual 285, 3) := by decide +kernel
theorem dX12_firstOf_108 : decode cX12_firstOf 108 = .ok (.iastore, 1) := by decide +kernel
theorem dX12_firstOf_109 : decode cX12_firstOf 109 = .ok (.return_, 1) := by decide +kernel
theorem dX12_barnOf_0 : decode cX12_barnOf 0 = .ok (.aload_n 0, 1) := by decide +kernel
theorem dX12_barnOf_1 : decode cX12_barnOf 1 = .ok (.iload_n 1, 1) := by decide +kernel
theorem dX12_barnOf_2 : decode cX12_barnOf 2 = .ok (.iload_n 3, 1) := by decide +kernel
theorem dX12_barnOf_3 : decode cX12_barnOf 3 = .ok (.iconst 0, 1) := by decide +kernel
theorem dX12_barnOf_4 : decode cX12_barnOf 4 = .ok (.invokevirtual 289, 3) := by decide +kernel
theorem dX12_barnOf_7 : decode cX12_barnOf 7 = .ok (.istore 8, 2) := by decide +kernel
theorem dX12_barnOf_9 : decode cX12_barnOf 9 = .ok (.aload_n 0, 1) := by decide +kernel
theorem dX12_barnOf_10 : decode cX12_barnOf 10 = .ok (.iload_n 1, 1) := by decide +kernel
theorem dX12_barnOf_11 : decode cX12_barnOf 11 = .ok (.iload_n 3, 1) := by decide +kernel
theorem dX12_barnOf_12 : decode cX12_barnOf 12 = .ok (.iconst 1, 1) := by decide +kernel
theorem dX12_barnOf_13 : decode cX12_barnOf 13 = .ok (.invokevirtual 289, 3) := by decide +kernel
theorem dX12_barnOf_16 : decode cX12_barnOf 16 = .ok (.istore 9, 2) := by decide +kernel
theorem dX12_barnOf_18 : decode cX12_barnOf 18 = .ok (.iload_n 2, 1) := by decide +kernel
theorem dX12_barnOf_19 : decode cX12_barnOf 19 = .ok (.iload_n 3, 1) := by decide +kernel
theorem dX12_barnOf_20 : decode cX12_barnOf 20 = .ok (.ishr, 1) := by decide +kernel
theorem dX12_barnOf_21 : decode cX12_barnOf 21 = .ok (.iconst 1, 1) := by decide +kernel
theorem dX12_barnOf_22 : decode cX12_barnOf 22 = .ok (.iand, 1) := by decide +kernel
theorem dX12_barnOf_23 : decode cX12_barnOf 23 = .ok (.ifCond .ne 43, 3) := by decide +kernel
theorem dX12_barnOf_26 : decode cX12_barnOf 26 = .ok (.iload 6, 2) := by decide +kernel
theorem dX12_barnOf_28 : decode cX12_barnOf 28 = .ok (.aload_n 0, 1) := by decide +kernel
theorem dX12_barnOf_29 : decode cX12_barnOf 29 = .ok (.iload_n 1, 1) := by decide +kernel
theorem dX12_barnOf_30 : decode cX12_barnOf 30 = .ok (.iload_n 3, 1) := by decide +kernel
theorem dX12_barnOf_31 : decode cX12_barnOf 31 = .ok (.iconst 3, 1) := by decide +kernel
theorem dX12_barnOf_32 : decode cX12_barnOf 32 = .ok (.invokevirtual 289, 3) := by decide +kernel
theorem dX12_barnOf_35 : decode cX12_barnOf 35 = .ok (.aload_n 0, 1) := by decide +kernel
theorem dX12_barnOf_36 : decode cX12_barnOf 36 = .ok (.iload_n 1, 1) := by decide +kernel
theorem dX12_barnOf_37 : decode cX12_barnOf 37 = .ok (.iload_n 3, 1) := by decide +kernel
theorem dX12_barnOf_38 : decode cX12_barnOf 38 = .ok (.iconst 4, 1) := by decide +kernel
theorem dX12_barnOf_39 : decode cX12_barnOf 39 = .ok (.invokevirtual 289, 3) := by decide +kernel
theorem dX12_barnOf_42 : decode cX12_barnOf 42 = .ok (.invokestatic 150, 3) := by decide +kernel
theorem dX12_barnOf_45 : decode cX12_barnOf 45 = .ok (.ifCond .eq 21, 3) := by decide +kernel
theorem dX12_barnOf_48 : decode cX12_barnOf 48 = .ok (.iload 8, 2) := by decide +kernel
theorem dX12_barnOf_50 : decode cX12_barnOf 50 = .ok (.iload 4, 2) := by decide +kernel
theorem dX12_barnOf_52 : decode cX12_barnOf 52 = .ok (.if_icmp .ne 10, 3) := by decide +kernel
theorem dX12_barnOf_55 : decode cX12_barnOf 55 = .ok (.iload 9, 2) := by decide +kernel
theorem dX12_barnOf_57 : decode cX12_barnOf 57 = .ok (.iload 5, 2) := by decide +kernel
theorem dX12_barnOf_59 : decode cX12_barnOf 59 = .ok (.if_icmp .eq 7, 3) := by decide +kernel
theorem dX12_barnOf_62 : decode cX12_barnOf 62 = .ok (.iconst 1, 1) := by decide +kernel
theorem dX12_barnOf_63 : decode cX12_barnOf 63 = .ok (.goto 4, 3) := by decide +kernel
theorem dX12_barnOf_66 : decode cX12_barnOf 66 = .ok (.iconst 0, 1) := by decide +kernel
theorem dX12_barnOf_67 : decode cX12_barnOf 67 = .ok (.istore 10, 2) := by decide +kernel
theorem dX12_barnOf_69 : decode cX12_barnOf 69 = .ok (.iload 10, 2) := by decide +kernel
theorem dX12_barnOf_71 : decode cX12_barnOf 71 = .ok (.ifCond .eq 20, 3) := by decide +kernel
theorem dX12_barnOf_74 : decode cX12_barnOf 74 = .ok (.aload_n 0, 1) := by decide +kernel
theorem dX12_barnOf_75 : decode cX12_barnOf 75 = .ok (.iload_n 1, 1) := by decide +kernel
theorem dX12_barnOf_76 : decode cX12_barnOf 76 = .ok (.iload_n 2, 1) := by decide +kernel
theorem dX12_barnOf_77 : decode cX12_barnOf 77 = .ok (.iload 4, 2) := by decide +kernel
theorem dX12_barnOf_79 : decode cX12_barnOf 79 = .ok (.iload 5, 2) := by decide +kernel
theorem dX12_barnOf_81 : decode cX12_barnOf 81 = .ok (.iload 8, 2) := by decide +kernel
theorem dX12_barnOf_83 : decode cX12_barnOf 83 = .ok (.iload 9, 2) := by decide +kernel
theorem dX12_barnOf_85 : decode cX12_barnOf 85 = .ok (.invokevirtual 292, 3) := by decide +kernel
theorem dX12_barnOf_88 : decode cX12_barnOf 88 = .ok (.ifCond .eq 4, 3) := by decide +kernel
theorem dX12_barnOf_91 : decode cX12_barnOf 91 = .ok (.return_, 1) := by decide +kernel
theorem dX12_barnOf_92 : decode cX12_barnOf 92 = .ok (.aload_n 0, 1) := by decide +kernel
theorem dX12_barnOf_93 : decode cX12_barnOf 93 = .ok (.getfield 61, 3) := by decide +kernel
theorem dX12_barnOf_96 : decode cX12_barnOf 96 = .ok (.bipush 8, 2) := by decide +kernel
theorem dX12_barnOf_98 : decode cX12_barnOf 98 = .ok (.iload_n 3, 1) := by decide +kernel
theorem dX12_barnOf_99 : decode cX12_barnOf 99 = .ok (.iadd, 1) := by decide +kernel
theorem dX12_barnOf_100 : decode cX12_barnOf 100 = .ok (.iconst 4, 1) := by decide +kernel
theorem dX12_barnOf_101 : decode cX12_barnOf 101 = .ok (.iload 8, 2) := by decide +kernel
theorem dX12_barnOf_103 : decode cX12_barnOf 103 = .ok (.iload 4, 2) := by decide +kernel
theorem dX12_barnOf_105 : decode cX12_barnOf 105 = .ok (.isub, 1) := by decide +kernel
theorem dX12_barnOf_106 : decode cX12_barnOf 106 = .ok (.iload 8, 2) := by decide +kernel
theorem dX12_barnOf_108 : decode cX12_barnOf 108 = .ok (.iload 4, 2) := by decide +kernel
theorem dX12_barnOf_110 : decode cX12_barnOf 110 = .ok (.isub, 1) := by decide +kernel
theorem dX12_barnOf_111 : decode cX12_barnOf 111 = .ok (.imul, 1) := by decide +kernel
theorem dX12_barnOf_112 : decode cX12_barnOf 112 = .ok (.iload 9, 2) := by decide +kernel
theorem dX12_barnOf_114 : decode cX12_barnOf 114 = .ok (.iload 5, 2) := by decide +kernel
theorem dX12_barnOf_116 : decode cX12_barnOf 116 = .ok (.isub, 1) := by decide +kernel
theorem dX12_barnOf_117 : decode cX12_barnOf 117 = .ok (.iload 9, 2) := by decide +kernel
theorem dX12_barnOf_119 : decode cX12_barnOf 119 = .ok (.iload 5, 2) := by decide +kernel
theorem dX12_barnOf_121 : decode cX12_barnOf 121 = .ok (.isub, 1) := by decide +kernel
theorem dX12_barnOf_122 : decode cX12_barnOf 122 = .ok (.imul, 1) := by decide +kernel
theorem dX12_barnOf_123 : decode cX12_barnOf 123 = .ok (.iadd, 1) := by decide +kernel
theorem dX12_barnOf_124 : decode cX12_barnOf 124 = .ok (.imul, 1) := by decide +kernel
theorem dX12_barnOf_125 : decode cX12_barnOf 125 = .ok (.iastore, 1) := by decide +kernel
theorem dX12_barnOf_126 : decode cX12_barnOf 126 = .ok (.aload_n 0, 1) := by decide +kernel
theorem dX12_barnOf_127 : decode cX12_barnOf 127 = .ok (.getfield 58, 3) := by decide +kernel
theorem dX12_barnOf_130 : decode cX12_barnOf 130 = .ok (.bipush 8, 2) := by decide +kernel
theorem dX12_barnOf_132 : decode cX12_barnOf 132 = .ok (.iload_n 3, 1) := by decide +kernel
theorem dX12_barnOf_133 : decode cX12_barnOf 133 = .ok (.iadd, 1) := by decide +kernel
theorem dX12_barnOf_134 : decode cX12_barnOf 134 = .ok (.aload_n 0, 1) := by decide +kernel
theorem dX12_barnOf_135 : decode cX12_barnOf 135 = .ok (.iload_n 1, 1) := by decide +kernel
theorem dX12_barnOf_136 : decode cX12_barnOf 136 = .ok (.iload 7, 2) := by decide +kernel
theorem dX12_barnOf_138 : decode cX12_barnOf 138 = .ok (.sipush 1000, 3) := by decide +kernel
theorem dX12_barnOf_141 : decode cX12_barnOf 141 = .ok (.bipush 100, 2) := by decide +kernel
theorem dX12_barnOf_143 : decode cX12_barnOf 143 = .ok (.aload_n 0, 1) := by decide +kernel
theorem dX12_barnOf_144 : decode cX12_barnOf 144 = .ok (.iload_n 1, 1) := by decide +kernel
theorem dX12_barnOf_145 : decode cX12_barnOf 145 = .ok (.iload_n 3, 1) := by decide +kernel
theorem dX12_barnOf_146 : decode cX12_barnOf 146 = .ok (.iconst 2, 1) := by decide +kernel
theorem dX12_barnOf_147 : decode cX12_barnOf 147 = .ok (.invokevirtual 289, 3) := by decide +kernel
theorem dX12_barnOf_150 : decode cX12_barnOf 150 = .ok (.isub, 1) := by decide +kernel
theorem dX12_barnOf_151 : decode cX12_barnOf 151 = .ok (.imul, 1) := by decide +kernel
theorem dX12_barnOf_152 : decode cX12_barnOf 152 = .ok (.bipush 100, 2) := by decide +kernel
theorem dX12_barnOf_154 : decode cX12_barnOf 154 = .ok (.idiv, 1) := by decide +kernel
theorem dX12_barnOf_155 : decode cX12_barnOf 155 = .ok (.iconst 2, 1) := by decide +kernel
theorem dX12_barnOf_156 : decode cX12_barnOf 156 = .ok (.iload 4, 2) := by decide +kernel
theorem dX12_barnOf_158 : decode cX12_barnOf 158 = .ok (.iload 5, 2) := by decide +kernel
theorem dX12_barnOf_160 : decode cX12_barnOf 160 = .ok (.iload 8, 2) := by decide +kernel
theorem dX12_barnOf_162 : decode cX12_barnOf 162 = .ok (.iload 9, 2) := by decide +kernel
theorem dX12_barnOf_164 : decode cX12_barnOf 164 = .ok (.invokevirtual 285, 3) := by decide +kernel
theorem dX12_barnOf_167 : decode cX12_barnOf 167 = .ok (.iastore, 1) := by decide +kernel
theorem dX12_barnOf_168 : decode cX12_barnOf 168 = .ok (.return_, 1) := by decide +kernel
theorem dX12_secondOf_0 : decode cX12_secondOf 0 = .ok (.aload_n 0, 1) := by decide +kernel
theorem dX12_secondOf_1 : decode cX12_secondOf 1 = .ok (.iload_n 1, 1) := by decide +kernel
theorem dX12_secondOf_2 : decode cX12_secondOf 2 = .ok (.iload_n 2, 1) := by decide +kernel
theorem dX12_secondOf_3 : decode cX12_secondOf 3 = .ok (.iload 4, 2) := by decide +kernel
theorem dX12_secondOf_5 : decode cX12_secondOf 5 = .ok (.iload 5, 2) := by decide +kernel
theorem dX12_secondOf_7 : decode cX12_secondOf 7 = .ok (.invokevirtual 281, 3) := by decide +kernel
theorem dX12_secondOf_10 : decode cX12_secondOf 10 = .ok (.istore 6, 2) := by decide +kernel
theorem dX12_secondOf_12 : decode cX12_secondOf 12 = .ok (.aload_n 0, 1) := by decide +kernel
theorem dX12_secondOf_13 : decode cX12_secondOf 13 = .ok (.iload_n 1, 1) := by decide +kernel
theorem dX12_secondOf_14 : decode cX12_secondOf 14 = .ok (.iload_n 3, 1) := by decide +kernel
theorem dX12_secondOf_15 : decode cX12_secondOf 15 = .ok (.iload 4, 2) := by decide +kernel
theorem dX12_secondOf_17 : decode cX12_secondOf 17 = .ok (.iload 5, 2) := by decide +kernel
theorem dX12_secondOf_19 : decode cX12_secondOf 19 = .ok (.invokevirtual 281, 3) := by decide +kernel
theorem dX12_secondOf_22 : decode cX12_secondOf 22 = .ok (.istore 7, 2) := by decide +kernel
theorem dX12_secondOf_24 : decode cX12_secondOf 24 = .ok (.aload_n 0, 1) := by decide +kernel
theorem dX12_secondOf_25 : decode cX12_secondOf 25 = .ok (.iload_n 1, 1) := by decide +kernel
theorem dX12_secondOf_26 : decode cX12_secondOf 26 = .ok (.iload_n 2, 1) := by decide +kernel
theorem dX12_secondOf_27 : decode cX12_secondOf 27 = .ok (.iconst 0, 1) := by decide +kernel
theorem dX12_secondOf_28 : decode cX12_secondOf 28 = .ok (.invokevirtual 275, 3) := by decide +kernel
theorem dX12_secondOf_31 : decode cX12_secondOf 31 = .ok (.aload_n 0, 1) := by decide +kernel
theorem dX12_secondOf_32 : decode cX12_secondOf 32 = .ok (.iload_n 1, 1) := by decide +kernel
theorem dX12_secondOf_33 : decode cX12_secondOf 33 = .ok (.iload_n 3, 1) := by decide +kernel
theorem dX12_secondOf_34 : decode cX12_secondOf 34 = .ok (.iconst 0, 1) := by decide +kernel
theorem dX12_secondOf_35 : decode cX12_secondOf 35 = .ok (.invokevirtual 275, 3) := by decide +kernel
theorem dX12_secondOf_38 : decode cX12_secondOf 38 = .ok (.if_icmp .ne 7, 3) := by decide +kernel
theorem dX12_secondOf_41 : decode cX12_secondOf 41 = .ok (.iconst 1, 1) := by decide +kernel
theorem dX12_secondOf_42 : decode cX12_secondOf 42 = .ok (.goto 4, 3) := by decide +kernel
theorem dX12_secondOf_45 : decode cX12_secondOf 45 = .ok (.iconst 0, 1) := by decide +kernel
theorem dX12_secondOf_46 : decode cX12_secondOf 46 = .ok (.istore 8, 2) := by decide +kernel
theorem dX12_secondOf_48 : decode cX12_secondOf 48 = .ok (.aload_n 0, 1) := by decide +kernel
theorem dX12_secondOf_49 : decode cX12_secondOf 49 = .ok (.getfield 58, 3) := by decide +kernel
theorem dX12_secondOf_52 : decode cX12_secondOf 52 = .ok (.iload_n 2, 1) := by decide +kernel
theorem dX12_secondOf_53 : decode cX12_secondOf 53 = .ok (.iaload, 1) := by decide +kernel
theorem dX12_secondOf_54 : decode cX12_secondOf 54 = .ok (.iconst (-1), 1) := by decide +kernel
theorem dX12_secondOf_55 : decode cX12_secondOf 55 = .ok (.if_icmp .eq 41, 3) := by decide +kernel
theorem dX12_secondOf_58 : decode cX12_secondOf 58 = .ok (.aload_n 0, 1) := by decide +kernel
theorem dX12_secondOf_59 : decode cX12_secondOf 59 = .ok (.getfield 58, 3) := by decide +kernel
theorem dX12_secondOf_62 : decode cX12_secondOf 62 = .ok (.iload_n 3, 1) := by decide +kernel
theorem dX12_secondOf_63 : decode cX12_secondOf 63 = .ok (.iaload, 1) := by decide +kernel
theorem dX12_secondOf_64 : decode cX12_secondOf 64 = .ok (.iconst (-1), 1) := by decide +kernel
theorem dX12_secondOf_65 : decode cX12_secondOf 65 = .ok (.if_icmp .eq 31, 3) := by decide +kernel
theorem dX12_secondOf_68 : decode cX12_secondOf 68 = .ok (.iload 8, 2) := by decide +kernel
theorem dX12_secondOf_70 : decode cX12_secondOf 70 = .ok (.ifCond .eq 27, 3) := by decide +kernel
theorem dX12_secondOf_73 : decode cX12_secondOf 73 = .ok (.iload 6, 2) := by decide +kernel
theorem dX12_secondOf_75 : decode cX12_secondOf 75 = .ok (.ifCond .le 7, 3) := by decide +kernel
theorem dX12_secondOf_78 : decode cX12_secondOf 78 = .ok (.iconst 1, 1) := by decide +kernel
theorem dX12_secondOf_79 : decode cX12_secondOf 79 = .ok (.goto 4, 3) := by decide +kernel
theorem dX12_secondOf_82 : decode cX12_secondOf 82 = .ok (.iconst 0, 1) := by decide +kernel
theorem dX12_secondOf_83 : decode cX12_secondOf 83 = .ok (.iload 7, 2) := by decide +kernel
theorem dX12_secondOf_85 : decode cX12_secondOf 85 = .ok (.ifCond .le 7, 3) := by decide +kernel
theorem dX12_secondOf_88 : decode cX12_secondOf 88 = .ok (.iconst 1, 1) := by decide +kernel
theorem dX12_secondOf_89 : decode cX12_secondOf 89 = .ok (.goto 4, 3) := by decide +kernel
theorem dX12_secondOf_92 : decode cX12_secondOf 92 = .ok (.iconst 0, 1) := by decide +kernel
theorem dX12_secondOf_93 : decode cX12_secondOf 93 = .ok (.if_icmp .ne 4, 3) := by decide +kernel
theorem dX12_secondOf_96 : decode cX12_secondOf 96 = .ok (.return_, 1) := by decide +kernel
theorem dX12_secondOf_97 : decode cX12_secondOf 97 = .ok (.iconst 2, 1) := by decide +kernel
theorem dX12_secondOf_98 : decode cX12_secondOf 98 = .ok (.iload 6, 2) := by decide +kernel
theorem dX12_secondOf_100 : decode cX12_secondOf 100 = .ok (.invokestatic 278, 3) := by decide +kernel
theorem dX12_secondOf_103 : decode cX12_secondOf 103 = .ok (.imul, 1) := by decide +kernel
theorem dX12_secondOf_104 : decode cX12_secondOf 104 = .ok (.iconst 2, 1) := by decide +kernel
theorem dX12_secondOf_105 : decode cX12_secondOf 105 = .ok (.iload 7, 2) := by decide +kernel
theorem dX12_secondOf_107 : decode cX12_secondOf 107 = .ok (.invokestatic 278, 3) := by decide +kernel
theorem dX12_secondOf_110 : decode cX12_secondOf 110 = .ok (.imul, 1) := by decide +kernel
theorem dX12_secondOf_111 : decode cX12_secondOf 111 = .ok (.iadd, 1) := by decide +kernel
theorem dX12_secondOf_112 : decode cX12_secondOf 112 = .ok (.istore 9, 2) := by decide +kernel
theorem dX12_secondOf_114 : decode cX12_secondOf 114 = .ok (.aload_n 0, 1) := by decide +kernel
theorem dX12_secondOf_115 : decode cX12_secondOf 115 = .ok (.getfield 61, 3) := by decide +kernel
theorem dX12_secondOf_118 : decode cX12_secondOf 118 = .ok (.bipush 16, 2) := by decide +kernel
theorem dX12_secondOf_120 : decode cX12_secondOf 120 = .ok (.bipush 8, 2) := by decide +kernel
theorem dX12_secondOf_122 : decode cX12_secondOf 122 = .ok (.iload_n 2, 1) := by decide +kernel
theorem dX12_secondOf_123 : decode cX12_secondOf 123 = .ok (.imul, 1) := by decide +kernel
theorem dX12_secondOf_124 : decode cX12_secondOf 124 = .ok (.iadd, 1) := by decide +kernel
theorem dX12_secondOf_125 : decode cX12_secondOf 125 = .ok (.iload_n 3, 1) := by decide +kernel
theorem dX12_secondOf_126 : decode cX12_secondOf 126 = .ok (.iadd, 1) := by decide +kernel
theorem dX12_secondOf_127 : decode cX12_secondOf 127 = .ok (.iload 8, 2) := by decide +kernel
theorem dX12_secondOf_129 : decode cX12_secondOf 129 = .ok (.ifCond .eq 11, 3) := by decide +kernel
theorem dX12_secondOf_132 : decode cX12_secondOf 132 = .ok (.iload 9, 2) := by decide +kernel
theorem dX12_secondOf_134 : decode cX12_secondOf 134 = .ok (.iload 9, 2) := by decide +kernel
theorem dX12_secondOf_136 : decode cX12_secondOf 136 = .ok (.imul, 1) := by decide +kernel
theorem dX12_secondOf_137 : decode cX12_secondOf 137 = .ok (.goto 16, 3) := by decide +kernel
theorem dX12_secondOf_140 : decode cX12_secondOf 140 = .ok (.aload_n 0, 1) := by decide +kernel
theorem dX12_secondOf_141 : decode cX12_secondOf 141 = .ok (.getfield 61, 3) := by decide +kernel
theorem dX12_secondOf_144 : decode cX12_secondOf 144 = .ok (.iload_n 2, 1) := by decide +kernel
theorem dX12_secondOf_145 : decode cX12_secondOf 145 = .ok (.iaload, 1) := by decide +kernel
theorem dX12_secondOf_146 : decode cX12_secondOf 146 = .ok (.aload_n 0, 1) := by decide +kernel
theorem dX12_secondOf_147 : decode cX12_secondOf 147 = .ok (.getfield 61, 3) := by decide +kernel
theorem dX12_secondOf_150 : decode cX12_secondOf 150 = .ok (.iload_n 3, 1) := by decide +kernel
theorem dX12_secondOf_151 : decode cX12_secondOf 151 = .ok (.iaload, 1) := by decide +kernel
theorem dX12_secondOf_152 : decode cX12_secondOf 152 = .ok (.iadd, 1) := by decide +kernel
theorem dX12_secondOf_153 : decode cX12_secondOf 153 = .ok (.iastore, 1) := by decide +kernel
theorem dX12_secondOf_154 : decode cX12_secondOf 154 = .ok (.aload_n 0, 1) := by decide +kernel
theorem dX12_secondOf_155 : decode cX12_secondOf 155 = .ok (.getfield 58, 3) := by decide +kernel
theorem dX12_secondOf_158 : decode cX12_secondOf 158 = .ok (.bipush 16, 2) := by decide +kernel
theorem dX12_secondOf_160 : decode cX12_secondOf 160 = .ok (.bipush 8, 2) := by decide +kernel
theorem dX12_secondOf_162 : decode cX12_secondOf 162 = .ok (.iload_n 2, 1) := by decide +kernel
theorem dX12_secondOf_163 : decode cX12_secondOf 163 = .ok (.imul, 1) := by decide +kernel
theorem dX12_secondOf_164 : decode cX12_secondOf 164 = .ok (.iadd, 1) := by decide +kernel
theorem dX12_secondOf_165 : decode cX12_secondOf 165 = .ok (.iload_n 3, 1) := by decide +kernel
theorem dX12_secondOf_166 : decode cX12_secondOf 166 = .ok (.iadd, 1) := by decide +kernel
theorem dX12_secondOf_167 : decode cX12_secondOf 167 = .ok (.aload_n 0, 1) := by decide +kernel
theorem dX12_secondOf_168 : decode cX12_secondOf 168 = .ok (.getfield 58, 3) := by decide +kernel
theorem dX12_secondOf_171 : decode cX12_secondOf 171 = .ok (.iload_n 2, 1) := by decide +kernel
theorem dX12_secondOf_172 : decode cX12_secondOf 172 = .ok (.iaload, 1) := by decide +kernel
theorem dX12_secondOf_173 : decode cX12_secondOf 173 = .ok (.aload_n 0, 1) := by decide +kernel
theorem dX12_secondOf_174 : decode cX12_secondOf 174 = .ok (.getfield 58, 3) := by decide +kernel
theorem dX12_secondOf_177 : decode cX12_secondOf 177 = .ok (.iload_n 3, 1) := by decide +kernel
theorem dX12_secondOf_178 : decode cX12_secondOf 178 = .ok (.iaload, 1) := by decide +kernel
theorem dX12_secondOf_179 : decode cX12_secondOf 179 = .ok (.imul, 1) := by decide +kernel
theorem dX12_secondOf_180 : decode cX12_secondOf 180 = .ok (.sipush 1000, 3) := by decide +kernel
theorem dX12_secondOf_183 : decode cX12_secondOf 183 = .ok (.idiv, 1) := by decide +kernel
theorem dX12_secondOf_184 : decode cX12_secondOf 184 = .ok (.iastore, 1) := by decide +kernel
theorem dX12_secondOf_185 : decode cX12_secondOf 185 = .ok (.return_, 1) := by decide +kernel
theorem dX12_tellEchoes_0 : decode cX12_tellEchoes 0 = .ok (.iconst 0, 1) := by decide +kernel
theorem dX12_tellEchoes_1 : decode cX12_tellEchoes 1 = .ok (.istore 7, 2) := by decide +kernel
theorem dX12_tellEchoes_3 : decode cX12_tellEchoes 3 = .ok (.iload 7, 2) := by decide +kernel
theorem dX12_tellEchoes_5 : decode cX12_tellEchoes 5 = .ok (.bipush 80, 2) := by decide +kernel
theorem dX12_tellEchoes_7 : decode cX12_tellEchoes 7 = .ok (.if_icmp .ge 17, 3) := by decide +kernel
theorem dX12_tellEchoes_10 : decode cX12_tellEchoes 10 = .ok (.aload_n 0, 1) := by decide +kernel
theorem dX12_tellEchoes_11 : decode cX12_tellEchoes 11 = .ok (.getfield 58, 3) := by decide +kernel
theorem dX12_tellEchoes_14 : decode cX12_tellEchoes 14 = .ok (.iload 7, 2) := by decide +kernel
theorem dX12_tellEchoes_16 : decode cX12_tellEchoes 16 = .ok (.iconst (-1), 1) := by decide +kernel
theorem dX12_tellEchoes_17 : decode cX12_tellEchoes 17 = .ok (.iastore, 1) := by decide +kernel
theorem dX12_tellEchoes_18 : decode cX12_tellEchoes 18 = .ok (.iinc 7 1, 3) := by decide +kernel
theorem dX12_tellEchoes_21 : decode cX12_tellEchoes 21 = .ok (.goto (-18), 3) := by decide +kernel
theorem dX12_tellEchoes_24 : decode cX12_tellEchoes 24 = .ok (.iconst 0, 1) := by decide +kernel
theorem dX12_tellEchoes_25 : decode cX12_tellEchoes 25 = .ok (.istore 7, 2) := by decide +kernel
theorem dX12_tellEchoes_27 : decode cX12_tellEchoes 27 = .ok (.iload 7, 2) := by decide +kernel
theorem dX12_tellEchoes_29 : decode cX12_tellEchoes 29 = .ok (.aload_n 0, 1) := by decide +kernel
theorem dX12_tellEchoes_30 : decode cX12_tellEchoes 30 = .ok (.getfield 27, 3) := by decide +kernel
theorem dX12_tellEchoes_33 : decode cX12_tellEchoes 33 = .ok (.iload_n 1, 1) := by decide +kernel
theorem dX12_tellEchoes_34 : decode cX12_tellEchoes 34 = .ok (.iaload, 1) := by decide +kernel
theorem dX12_tellEchoes_35 : decode cX12_tellEchoes 35 = .ok (.if_icmp .ge 35, 3) := by decide +kernel
theorem dX12_tellEchoes_38 : decode cX12_tellEchoes 38 = .ok (.aload_n 0, 1) := by decide +kernel
theorem dX12_tellEchoes_39 : decode cX12_tellEchoes 39 = .ok (.iload_n 1, 1) := by decide +kernel
theorem dX12_tellEchoes_40 : decode cX12_tellEchoes 40 = .ok (.iload_n 2, 1) := by decide +kernel
theorem dX12_tellEchoes_41 : decode cX12_tellEchoes 41 = .ok (.iload 7, 2) := by decide +kernel
theorem dX12_tellEchoes_43 : decode cX12_tellEchoes 43 = .ok (.iload_n 3, 1) := by decide +kernel
theorem dX12_tellEchoes_44 : decode cX12_tellEchoes 44 = .ok (.iload 4, 2) := by decide +kernel
theorem dX12_tellEchoes_46 : decode cX12_tellEchoes 46 = .ok (.invokevirtual 295, 3) := by decide +kernel
theorem dX12_tellEchoes_49 : decode cX12_tellEchoes 49 = .ok (.ifCond .ne 15, 3) := by decide +kernel
theorem dX12_tellEchoes_52 : decode cX12_tellEchoes 52 = .ok (.aload_n 0, 1) := by decide +kernel
theorem dX12_tellEchoes_53 : decode cX12_tellEchoes 53 = .ok (.iload_n 1, 1) := by decide +kernel
theorem dX12_tellEchoes_54 : decode cX12_tellEchoes 54 = .ok (.iload 7, 2) := by decide +kernel
theorem dX12_tellEchoes_56 : decode cX12_tellEchoes 56 = .ok (.iload_n 3, 1) := by decide +kernel
theorem dX12_tellEchoes_57 : decode cX12_tellEchoes 57 = .ok (.iload 4, 2) := by decide +kernel
theorem dX12_tellEchoes_59 : decode cX12_tellEchoes 59 = .ok (.iload 6, 2) := by decide +kernel
theorem dX12_tellEchoes_61 : decode cX12_tellEchoes 61 = .ok (.invokevirtual 299, 3) := by decide +kernel
theorem dX12_tellEchoes_64 : decode cX12_tellEchoes 64 = .ok (.iinc 7 1, 3) := by decide +kernel
theorem dX12_tellEchoes_67 : decode cX12_tellEchoes 67 = .ok (.goto (-40), 3) := by decide +kernel
theorem dX12_tellEchoes_70 : decode cX12_tellEchoes 70 = .ok (.iconst 0, 1) := by decide +kernel
theorem dX12_tellEchoes_71 : decode cX12_tellEchoes 71 = .ok (.istore 7, 2) := by decide +kernel
theorem dX12_tellEchoes_73 : decode cX12_tellEchoes 73 = .ok (.iload 7, 2) := by decide +kernel
theorem dX12_tellEchoes_75 : decode cX12_tellEchoes 75 = .ok (.aload_n 0, 1) := by decide +kernel
theorem dX12_tellEchoes_76 : decode cX12_tellEchoes 76 = .ok (.getfield 31, 3) := by decide +kernel
theorem dX12_tellEchoes_79 : decode cX12_tellEchoes 79 = .ok (.iload_n 1, 1) := by decide +kernel
theorem dX12_tellEchoes_80 : decode cX12_tellEchoes 80 = .ok (.iaload, 1) := by decide +kernel
theorem dX12_tellEchoes_81 : decode cX12_tellEchoes 81 = .ok (.if_icmp .ge 24, 3) := by decide +kernel
theorem dX12_tellEchoes_84 : decode cX12_tellEchoes 84 = .ok (.aload_n 0, 1) := by decide +kernel
theorem dX12_tellEchoes_85 : decode cX12_tellEchoes 85 = .ok (.iload_n 1, 1) := by decide +kernel
theorem dX12_tellEchoes_86 : decode cX12_tellEchoes 86 = .ok (.iload_n 2, 1) := by decide +kernel
theorem dX12_tellEchoes_87 : decode cX12_tellEchoes 87 = .ok (.iload 7, 2) := by decide +kernel
theorem dX12_tellEchoes_89 : decode cX12_tellEchoes 89 = .ok (.iload_n 3, 1) := by decide +kernel
theorem dX12_tellEchoes_90 : decode cX12_tellEchoes 90 = .ok (.iload 4, 2) := by decide +kernel
theorem dX12_tellEchoes_92 : decode cX12_tellEchoes 92 = .ok (.iload 5, 2) := by decide +kernel
theorem dX12_tellEchoes_94 : decode cX12_tellEchoes 94 = .ok (.iload 6, 2) := by decide +kernel
theorem dX12_tellEchoes_96 : decode cX12_tellEchoes 96 = .ok (.invokevirtual 303, 3) := by decide +kernel
theorem dX12_tellEchoes_99 : decode cX12_tellEchoes 99 = .ok (.iinc 7 1, 3) := by decide +kernel
theorem dX12_tellEchoes_102 : decode cX12_tellEchoes 102 = .ok (.goto (-29), 3) := by decide +kernel
theorem dX12_tellEchoes_105 : decode cX12_tellEchoes 105 = .ok (.iconst 0, 1) := by decide +kernel
theorem dX12_tellEchoes_106 : decode cX12_tellEchoes 106 = .ok (.istore 7, 2) := by decide +kernel
theorem dX12_tellEchoes_108 : decode cX12_tellEchoes 108 = .ok (.iload 7, 2) := by decide +kernel
theorem dX12_tellEchoes_110 : decode cX12_tellEchoes 110 = .ok (.aload_n 0, 1) := by decide +kernel
theorem dX12_tellEchoes_111 : decode cX12_tellEchoes 111 = .ok (.getfield 27, 3) := by decide +kernel
theorem dX12_tellEchoes_114 : decode cX12_tellEchoes 114 = .ok (.iload_n 1, 1) := by decide +kernel
theorem dX12_tellEchoes_115 : decode cX12_tellEchoes 115 = .ok (.iaload, 1) := by decide +kernel
theorem dX12_tellEchoes_116 : decode cX12_tellEchoes 116 = .ok (.if_icmp .ge 44, 3) := by decide +kernel
theorem dX12_tellEchoes_119 : decode cX12_tellEchoes 119 = .ok (.iload 7, 2) := by decide +kernel
theorem dX12_tellEchoes_121 : decode cX12_tellEchoes 121 = .ok (.iconst 1, 1) := by decide +kernel
theorem dX12_tellEchoes_122 : decode cX12_tellEchoes 122 = .ok (.iadd, 1) := by decide +kernel
theorem dX12_tellEchoes_123 : decode cX12_tellEchoes 123 = .ok (.istore 8, 2) := by decide +kernel
theorem dX12_tellEchoes_125 : decode cX12_tellEchoes 125 = .ok (.iload 8, 2) := by decide +kernel
theorem dX12_tellEchoes_127 : decode cX12_tellEchoes 127 = .ok (.aload_n 0, 1) := by decide +kernel
theorem dX12_tellEchoes_128 : decode cX12_tellEchoes 128 = .ok (.getfield 27, 3) := by decide +kernel
theorem dX12_tellEchoes_131 : decode cX12_tellEchoes 131 = .ok (.iload_n 1, 1) := by decide +kernel
theorem dX12_tellEchoes_132 : decode cX12_tellEchoes 132 = .ok (.iaload, 1) := by decide +kernel
theorem dX12_tellEchoes_133 : decode cX12_tellEchoes 133 = .ok (.if_icmp .ge 21, 3) := by decide +kernel
theorem dX12_tellEchoes_136 : decode cX12_tellEchoes 136 = .ok (.aload_n 0, 1) := by decide +kernel
theorem dX12_tellEchoes_137 : decode cX12_tellEchoes 137 = .ok (.iload_n 1, 1) := by decide +kernel
theorem dX12_tellEchoes_138 : decode cX12_tellEchoes 138 = .ok (.iload 7, 2) := by decide +kernel
theorem dX12_tellEchoes_140 : decode cX12_tellEchoes 140 = .ok (.iload 8, 2) := by decide +kernel
theorem dX12_tellEchoes_142 : decode cX12_tellEchoes 142 = .ok (.iload_n 3, 1) := by decide +kernel
theorem dX12_tellEchoes_143 : decode cX12_tellEchoes 143 = .ok (.iload 4, 2) := by decide +kernel
theorem dX12_tellEchoes_145 : decode cX12_tellEchoes 145 = .ok (.invokevirtual 307, 3) := by decide +kernel
theorem dX12_tellEchoes_148 : decode cX12_tellEchoes 148 = .ok (.iinc 8 1, 3) := by decide +kernel
theorem dX12_tellEchoes_151 : decode cX12_tellEchoes 151 = .ok (.goto (-26), 3) := by decide +kernel
theorem dX12_tellEchoes_154 : decode cX12_tellEchoes 154 = .ok (.iinc 7 1, 3) := by decide +kernel
theorem dX12_tellEchoes_157 : decode cX12_tellEchoes 157 = .ok (.goto (-49), 3) := by decide +kernel
theorem dX12_tellEchoes_160 : decode cX12_tellEchoes 160 = .ok (.return_, 1) := by decide +kernel
theorem dX12_root_0 : decode cX12_root 0 = .ok (.iconst 0, 1) := by decide +kernel
theorem dX12_root_1 : decode cX12_root 1 = .ok (.istore_n 1, 1) := by decide +kernel
theorem dX12_root_2 : decode cX12_root 2 = .ok (.sipush 32767, 3) := by decide +kernel
theorem dX12_root_5 : decode cX12_root 5 = .ok (.istore_n 2, 1) := by decide +kernel
theorem dX12_root_6 : decode cX12_root 6 = .ok (.iload_n 1, 1) := by decide +kernel
theorem dX12_root_7 : decode cX12_root 7 = .ok (.iload_n 2, 1) := by decide +kernel
theorem dX12_root_8 : decode cX12_root 8 = .ok (.if_icmp .ge 30, 3) := by decide +kernel
theorem dX12_root_11 : decode cX12_root 11 = .ok (.iload_n 1, 1) := by decide +kernel
theorem dX12_root_12 : decode cX12_root 12 = .ok (.iload_n 2, 1) := by decide +kernel
theorem dX12_root_13 : decode cX12_root 13 = .ok (.iadd, 1) := by decide +kernel
theorem dX12_root_14 : decode cX12_root 14 = .ok (.iconst 1, 1) := by decide +kernel
theorem dX12_root_15 : decode cX12_root 15 = .ok (.iadd, 1) := by decide +kernel
theorem dX12_root_16 : decode cX12_root 16 = .ok (.iconst 2, 1) := by decide +kernel
theorem dX12_root_17 : decode cX12_root 17 = .ok (.idiv, 1) := by decide +kernel
theorem dX12_root_18 : decode cX12_root 18 = .ok (.istore_n 3, 1) := by decide +kernel
theorem dX12_root_19 : decode cX12_root 19 = .ok (.iload_n 3, 1) := by decide +kernel
theorem dX12_root_20 : decode cX12_root 20 = .ok (.iload_n 3, 1) := by decide +kernel
theorem dX12_root_21 : decode cX12_root 21 = .ok (.imul, 1) := by decide +kernel
theorem dX12_root_22 : decode cX12_root 22 = .ok (.iload_n 0, 1) := by decide +kernel
theorem dX12_root_23 : decode cX12_root 23 = .ok (.if_icmp .gt 8, 3) := by decide +kernel
theorem dX12_root_26 : decode cX12_root 26 = .ok (.iload_n 3, 1) := by decide +kernel
theorem dX12_root_27 : decode cX12_root 27 = .ok (.istore_n 1, 1) := by decide +kernel
theorem dX12_root_28 : decode cX12_root 28 = .ok (.goto 7, 3) := by decide +kernel
theorem dX12_root_31 : decode cX12_root 31 = .ok (.iload_n 3, 1) := by decide +kernel
theorem dX12_root_32 : decode cX12_root 32 = .ok (.iconst 1, 1) := by decide +kernel
theorem dX12_root_33 : decode cX12_root 33 = .ok (.isub, 1) := by decide +kernel
theorem dX12_root_34 : decode cX12_root 34 = .ok (.istore_n 2, 1) := by decide +kernel
theorem dX12_root_35 : decode cX12_root 35 = .ok (.goto (-29), 3) := by decide +kernel
theorem dX12_root_38 : decode cX12_root 38 = .ok (.iload_n 1, 1) := by decide +kernel
theorem dX12_root_39 : decode cX12_root 39 = .ok (.ireturn, 1) := by decide +kernel
theorem dX12_tickOf_0 : decode cX12_tickOf 0 = .ok (.sipush 10000, 3) := by decide +kernel
theorem dX12_tickOf_3 : decode cX12_tickOf 3 = .ok (.aload_n 0, 1) := by decide +kernel
theorem dX12_tickOf_4 : decode cX12_tickOf 4 = .ok (.getfield 61, 3) := by decide +kernel
theorem dX12_tickOf_7 : decode cX12_tickOf 7 = .ok (.iload_n 1, 1) := by decide +kernel
theorem dX12_tickOf_8 : decode cX12_tickOf 8 = .ok (.iaload, 1) := by decide +kernel
theorem dX12_tickOf_9 : decode cX12_tickOf 9 = .ok (.imul, 1) := by decide +kernel
theorem dX12_tickOf_10 : decode cX12_tickOf 10 = .ok (.invokestatic 310, 3) := by decide +kernel
theorem dX12_tickOf_13 : decode cX12_tickOf 13 = .ok (.iload_n 2, 1) := by decide +kernel
theorem dX12_tickOf_14 : decode cX12_tickOf 14 = .ok (.idiv, 1) := by decide +kernel
theorem dX12_tickOf_15 : decode cX12_tickOf 15 = .ok (.ireturn, 1) := by decide +kernel
theorem dX12_isHeard_0 : decode cX12_isHeard 0 = .ok (.aload_n 0, 1) := by decide +kernel
theorem dX12_isHeard_1 : decode cX12_isHeard 1 = .ok (.getfield 58, 3) := by decide +kernel
theorem dX12_isHeard_4 : decode cX12_isHeard 4 = .ok (.iload_n 2, 1) := by decide +kernel
theorem dX12_isHeard_5 : decode cX12_isHeard 5 = .ok (.iaload, 1) := by decide +kernel
theorem dX12_isHeard_6 : decode cX12_isHeard 6 = .ok (.iconst (-1), 1) := by decide +kernel
theorem dX12_isHeard_7 : decode cX12_isHeard 7 = .ok (.if_icmp .eq 22, 3) := by decide +kernel
theorem dX12_isHeard_10 : decode cX12_isHeard 10 = .ok (.aload_n 0, 1) := by decide +kernel
theorem dX12_isHeard_11 : decode cX12_isHeard 11 = .ok (.getfield 58, 3) := by decide +kernel
theorem dX12_isHeard_14 : decode cX12_isHeard 14 = .ok (.iload_n 2, 1) := by decide +kernel
theorem dX12_isHeard_15 : decode cX12_isHeard 15 = .ok (.iaload, 1) := by decide +kernel
theorem dX12_isHeard_16 : decode cX12_isHeard 16 = .ok (.aload_n 0, 1) := by decide +kernel
theorem dX12_isHeard_17 : decode cX12_isHeard 17 = .ok (.getfield 37, 3) := by decide +kernel
theorem dX12_isHeard_20 : decode cX12_isHeard 20 = .ok (.iload_n 1, 1) := by decide +kernel
theorem dX12_isHeard_21 : decode cX12_isHeard 21 = .ok (.iaload, 1) := by decide +kernel
theorem dX12_isHeard_22 : decode cX12_isHeard 22 = .ok (.if_icmp .lt 7, 3) := by decide +kernel
theorem dX12_isHeard_25 : decode cX12_isHeard 25 = .ok (.iconst 1, 1) := by decide +kernel
theorem dX12_isHeard_26 : decode cX12_isHeard 26 = .ok (.goto 4, 3) := by decide +kernel
theorem dX12_isHeard_29 : decode cX12_isHeard 29 = .ok (.iconst 0, 1) := by decide +kernel
theorem dX12_isHeard_30 : decode cX12_isHeard 30 = .ok (.ireturn, 1) := by decide +kernel
theorem dX12_lay_0 : decode cX12_lay 0 = .ok (.aload_n 0, 1) := by decide +kernel
theorem dX12_lay_1 : decode cX12_lay 1 = .ok (.getfield 313, 3) := by decide +kernel
theorem dX12_lay_4 : decode cX12_lay 4 = .ok (.istore_n 2, 1) := by decide +kernel
theorem dX12_lay_5 : decode cX12_lay 5 = .ok (.iload_n 2, 1) := by decide +kernel
theorem dX12_lay_6 : decode cX12_lay 6 = .ok (.ifCond .le 35, 3) := by decide +kernel
theorem dX12_lay_9 : decode cX12_lay 9 = .ok (.aload_n 0, 1) := by decide +kernel
theorem dX12_lay_10 : decode cX12_lay 10 = .ok (.getfield 64, 3) := by decide +kernel
theorem dX12_lay_13 : decode cX12_lay 13 = .ok (.iload_n 2, 1) := by decide +kernel
theorem dX12_lay_14 : decode cX12_lay 14 = .ok (.iconst 1, 1) := by decide +kernel
theorem dX12_lay_15 : decode cX12_lay 15 = .ok (.isub, 1) := by decide +kernel
theorem dX12_lay_16 : decode cX12_lay 16 = .ok (.iaload, 1) := by decide +kernel
theorem dX12_lay_17 : decode cX12_lay 17 = .ok (.iload_n 1, 1) := by decide +kernel
theorem dX12_lay_18 : decode cX12_lay 18 = .ok (.if_icmp .le 23, 3) := by decide +kernel
theorem dX12_lay_21 : decode cX12_lay 21 = .ok (.aload_n 0, 1) := by decide +kernel
theorem dX12_lay_22 : decode cX12_lay 22 = .ok (.getfield 64, 3) := by decide +kernel
theorem dX12_lay_25 : decode cX12_lay 25 = .ok (.iload_n 2, 1) := by decide +kernel
theorem dX12_lay_26 : decode cX12_lay 26 = .ok (.aload_n 0, 1) := by decide +kernel
theorem dX12_lay_27 : decode cX12_lay 27 = .ok (.getfield 64, 3) := by decide +kernel
theorem dX12_lay_30 : decode cX12_lay 30 = .ok (.iload_n 2, 1) := by decide +kernel
theorem dX12_lay_31 : decode cX12_lay 31 = .ok (.iconst 1, 1) := by decide +kernel
theorem dX12_lay_32 : decode cX12_lay 32 = .ok (.isub, 1) := by decide +kernel
theorem dX12_lay_33 : decode cX12_lay 33 = .ok (.iaload, 1) := by decide +kernel
theorem dX12_lay_34 : decode cX12_lay 34 = .ok (.iastore, 1) := by decide +kernel
theorem dX12_lay_35 : decode cX12_lay 35 = .ok (.iinc 2 (-1), 3) := by decide +kernel
theorem dX12_lay_38 : decode cX12_lay 38 = .ok (.goto (-33), 3) := by decide +kernel
theorem dX12_lay_41 : decode cX12_lay 41 = .ok (.aload_n 0, 1) := by decide +kernel
theorem dX12_lay_42 : decode cX12_lay 42 = .ok (.getfield 64, 3) := by decide +kernel
theorem dX12_lay_45 : decode cX12_lay 45 = .ok (.iload_n 2, 1) := by decide +kernel
theorem dX12_lay_46 : decode cX12_lay 46 = .ok (.iload_n 1, 1) := by decide +kernel
theorem dX12_lay_47 : decode cX12_lay 47 = .ok (.iastore, 1) := by decide +kernel
theorem dX12_lay_48 : decode cX12_lay 48 = .ok (.aload_n 0, 1) := by decide +kernel
theorem dX12_lay_49 : decode cX12_lay 49 = .ok (.dup, 1) := by decide +kernel
theorem dX12_lay_50 : decode cX12_lay 50 = .ok (.getfield 313, 3) := by decide +kernel
theorem dX12_lay_53 : decode cX12_lay 53 = .ok (.iconst 1, 1) := by decide +kernel
theorem dX12_lay_54 : decode cX12_lay 54 = .ok (.iadd, 1) := by decide +kernel
theorem dX12_lay_55 : decode cX12_lay 55 = .ok (.putfield 313, 3) := by decide +kernel
theorem dX12_lay_58 : decode cX12_lay 58 = .ok (.return_, 1) := by decide +kernel
theorem dX12_tellRow_0 : decode cX12_tellRow 0 = .ok (.aload_n 0, 1) := by decide +kernel
theorem dX12_tellRow_1 : decode cX12_tellRow 1 = .ok (.iload_n 1, 1) := by decide +kernel
theorem dX12_tellRow_2 : decode cX12_tellRow 2 = .ok (.iload_n 2, 1) := by decide +kernel
theorem dX12_tellRow_3 : decode cX12_tellRow 3 = .ok (.iload_n 3, 1) := by decide +kernel
theorem dX12_tellRow_4 : decode cX12_tellRow 4 = .ok (.iload 4, 2) := by decide +kernel
theorem dX12_tellRow_6 : decode cX12_tellRow 6 = .ok (.iload 5, 2) := by decide +kernel
theorem dX12_tellRow_8 : decode cX12_tellRow 8 = .ok (.iload 6, 2) := by decide +kernel
theorem dX12_tellRow_10 : decode cX12_tellRow 10 = .ok (.invokevirtual 316, 3) := by decide +kernel
theorem dX12_tellRow_13 : decode cX12_tellRow 13 = .ok (.aload_n 0, 1) := by decide +kernel
theorem dX12_tellRow_14 : decode cX12_tellRow 14 = .ok (.iconst 0, 1) := by decide +kernel
theorem dX12_tellRow_15 : decode cX12_tellRow 15 = .ok (.putfield 313, 3) := by decide +kernel
theorem dX12_tellRow_18 : decode cX12_tellRow 18 = .ok (.iconst 0, 1) := by decide +kernel
theorem dX12_tellRow_19 : decode cX12_tellRow 19 = .ok (.istore 8, 2) := by decide +kernel
theorem dX12_tellRow_21 : decode cX12_tellRow 21 = .ok (.iload 8, 2) := by decide +kernel
theorem dX12_tellRow_23 : decode cX12_tellRow 23 = .ok (.bipush 80, 2) := by decide +kernel
theorem dX12_tellRow_25 : decode cX12_tellRow 25 = .ok (.if_icmp .ge 31, 3) := by decide +kernel
theorem dX12_tellRow_28 : decode cX12_tellRow 28 = .ok (.aload_n 0, 1) := by decide +kernel
theorem dX12_tellRow_29 : decode cX12_tellRow 29 = .ok (.iload_n 1, 1) := by decide +kernel
theorem dX12_tellRow_30 : decode cX12_tellRow 30 = .ok (.iload 8, 2) := by decide +kernel
theorem dX12_tellRow_32 : decode cX12_tellRow 32 = .ok (.invokevirtual 320, 3) := by decide +kernel
theorem dX12_tellRow_35 : decode cX12_tellRow 35 = .ok (.ifCond .eq 15, 3) := by decide +kernel
theorem dX12_tellRow_38 : decode cX12_tellRow 38 = .ok (.aload_n 0, 1) := by decide +kernel
theorem dX12_tellRow_39 : decode cX12_tellRow 39 = .ok (.aload_n 0, 1) := by decide +kernel
theorem dX12_tellRow_40 : decode cX12_tellRow 40 = .ok (.iload 8, 2) := by decide +kernel
theorem dX12_tellRow_42 : decode cX12_tellRow 42 = .ok (.iload 7, 2) := by decide +kernel
theorem dX12_tellRow_44 : decode cX12_tellRow 44 = .ok (.invokevirtual 324, 3) := by decide +kernel
theorem dX12_tellRow_47 : decode cX12_tellRow 47 = .ok (.invokevirtual 327, 3) := by decide +kernel
theorem dX12_tellRow_50 : decode cX12_tellRow 50 = .ok (.iinc 8 1, 3) := by decide +kernel
theorem dX12_tellRow_53 : decode cX12_tellRow 53 = .ok (.goto (-32), 3) := by decide +kernel
theorem dX12_tellRow_56 : decode cX12_tellRow 56 = .ok (.return_, 1) := by decide +kernel
theorem dX12_clap_0 : decode cX12_clap 0 = .ok (.aload_n 0, 1) := by decide +kernel
theorem dX12_clap_1 : decode cX12_clap 1 = .ok (.iconst 0, 1) := by decide +kernel
theorem dX12_clap_2 : decode cX12_clap 2 = .ok (.putfield 147, 3) := by decide +kernel
theorem dX12_clap_5 : decode cX12_clap 5 = .ok (.iload_n 1, 1) := by decide +kernel
theorem dX12_clap_6 : decode cX12_clap 6 = .ok (.invokestatic 246, 3) := by decide +kernel
theorem dX12_clap_9 : decode cX12_clap 9 = .ok (.ifCond .eq 27, 3) := by decide +kernel
theorem dX12_clap_12 : decode cX12_clap 12 = .ok (.iload_n 2, 1) := by decide +kernel
theorem dX12_clap_13 : decode cX12_clap 13 = .ok (.iload_n 3, 1) := by decide +kernel
theorem dX12_clap_14 : decode cX12_clap 14 = .ok (.invokestatic 330, 3) := by decide +kernel
theorem dX12_clap_17 : decode cX12_clap 17 = .ok (.ifCond .eq 19, 3) := by decide +kernel
theorem dX12_clap_20 : decode cX12_clap 20 = .ok (.iload 4, 2) := by decide +kernel
theorem dX12_clap_22 : decode cX12_clap 22 = .ok (.invokestatic 333, 3) := by decide +kernel
theorem dX12_clap_25 : decode cX12_clap 25 = .ok (.ifCond .eq 11, 3) := by decide +kernel
theorem dX12_clap_28 : decode cX12_clap 28 = .ok (.iload 5, 2) := by decide +kernel
theorem dX12_clap_30 : decode cX12_clap 30 = .ok (.invokestatic 336, 3) := by decide +kernel
theorem dX12_clap_33 : decode cX12_clap 33 = .ok (.ifCond .ne 9, 3) := by decide +kernel
theorem dX12_clap_36 : decode cX12_clap 36 = .ok (.aload_n 0, 1) := by decide +kernel
theorem dX12_clap_37 : decode cX12_clap 37 = .ok (.iconst 1, 1) := by decide +kernel
theorem dX12_clap_38 : decode cX12_clap 38 = .ok (.invokevirtual 249, 3) := by decide +kernel
theorem dX12_clap_41 : decode cX12_clap 41 = .ok (.ireturn, 1) := by decide +kernel
theorem dX12_clap_42 : decode cX12_clap 42 = .ok (.aload_n 0, 1) := by decide +kernel
theorem dX12_clap_43 : decode cX12_clap 43 = .ok (.iload_n 1, 1) := by decide +kernel
theorem dX12_clap_44 : decode cX12_clap 44 = .ok (.iconst 0, 1) := by decide +kernel
theorem dX12_clap_45 : decode cX12_clap 45 = .ok (.iload_n 2, 1) := by decide +kernel
theorem dX12_clap_46 : decode cX12_clap 46 = .ok (.iload_n 3, 1) := by decide +kernel
theorem dX12_clap_47 : decode cX12_clap 47 = .ok (.iload 4, 2) := by decide +kernel
theorem dX12_clap_49 : decode cX12_clap 49 = .ok (.iload 5, 2) := by decide +kernel
theorem dX12_clap_51 : decode cX12_clap 51 = .ok (.aload_n 0, 1) := by decide +kernel
theorem dX12_clap_52 : decode cX12_clap 52 = .ok (.getfield 39, 3) := by decide +kernel
theorem dX12_clap_55 : decode cX12_clap 55 = .ok (.iload_n 1, 1) := by decide +kernel
theorem dX12_clap_56 : decode cX12_clap 56 = .ok (.iaload, 1) := by decide +kernel
theorem dX12_clap_57 : decode cX12_clap 57 = .ok (.invokevirtual 339, 3) := by decide +kernel
theorem dX12_clap_60 : decode cX12_clap 60 = .ok (.iload 6, 2) := by decide +kernel
theorem dX12_clap_62 : decode cX12_clap 62 = .ok (.iconst (-1), 1) := by decide +kernel
theorem dX12_clap_63 : decode cX12_clap 63 = .ok (.if_icmp .ne 10, 3) := by decide +kernel
theorem dX12_clap_66 : decode cX12_clap 66 = .ok (.aload_n 0, 1) := by decide +kernel
theorem dX12_clap_67 : decode cX12_clap 67 = .ok (.getfield 313, 3) := by decide +kernel
theorem dX12_clap_70 : decode cX12_clap 70 = .ok (.goto 33, 3) := by decide +kernel
theorem dX12_clap_73 : decode cX12_clap 73 = .ok (.iload 6, 2) := by decide +kernel
theorem dX12_clap_75 : decode cX12_clap 75 = .ok (.iconst 0, 1) := by decide +kernel
theorem dX12_clap_76 : decode cX12_clap 76 = .ok (.aload_n 0, 1) := by decide +kernel
theorem dX12_clap_77 : decode cX12_clap 77 = .ok (.getfield 313, 3) := by decide +kernel
theorem dX12_clap_80 : decode cX12_clap 80 = .ok (.iconst 1, 1) := by decide +kernel
theorem dX12_clap_81 : decode cX12_clap 81 = .ok (.isub, 1) := by decide +kernel
theorem dX12_clap_82 : decode cX12_clap 82 = .ok (.invokestatic 150, 3) := by decide +kernel
theorem dX12_clap_85 : decode cX12_clap 85 = .ok (.ifCond .eq 13, 3) := by decide +kernel
theorem dX12_clap_88 : decode cX12_clap 88 = .ok (.aload_n 0, 1) := by decide +kernel
theorem dX12_clap_89 : decode cX12_clap 89 = .ok (.getfield 64, 3) := by decide +kernel
theorem dX12_clap_92 : decode cX12_clap 92 = .ok (.iload 6, 2) := by decide +kernel
theorem dX12_clap_94 : decode cX12_clap 94 = .ok (.iaload, 1) := by decide +kernel
theorem dX12_clap_95 : decode cX12_clap 95 = .ok (.goto 8, 3) := by decide +kernel
theorem dX12_clap_98 : decode cX12_clap 98 = .ok (.aload_n 0, 1) := by decide +kernel
theorem dX12_clap_99 : decode cX12_clap 99 = .ok (.iconst 1, 1) := by decide +kernel
theorem dX12_clap_100 : decode cX12_clap 100 = .ok (.invokevirtual 249, 3) := by decide +kernel
theorem dX12_clap_103 : decode cX12_clap 103 = .ok (.ireturn, 1) := by decide +kernel
theorem dX12_strength_0 : decode cX12_strength 0 = .ok (.aload_n 0, 1) := by decide +kernel
theorem dX12_strength_1 : decode cX12_strength 1 = .ok (.iconst 0, 1) := by decide +kernel
theorem dX12_strength_2 : decode cX12_strength 2 = .ok (.putfield 147, 3) := by decide +kernel
theorem dX12_strength_5 : decode cX12_strength 5 = .ok (.iload_n 1, 1) := by decide +kernel
theorem dX12_strength_6 : decode cX12_strength 6 = .ok (.invokestatic 246, 3) := by decide +kernel
theorem dX12_strength_9 : decode cX12_strength 9 = .ok (.ifCond .eq 38, 3) := by decide +kernel
theorem dX12_strength_12 : decode cX12_strength 12 = .ok (.iload_n 2, 1) := by decide +kernel
theorem dX12_strength_13 : decode cX12_strength 13 = .ok (.iload_n 3, 1) := by decide +kernel
theorem dX12_strength_14 : decode cX12_strength 14 = .ok (.invokestatic 330, 3) := by decide +kernel
theorem dX12_strength_17 : decode cX12_strength 17 = .ok (.ifCond .eq 30, 3) := by decide +kernel
theorem dX12_strength_20 : decode cX12_strength 20 = .ok (.iload 4, 2) := by decide +kernel
theorem dX12_strength_22 : decode cX12_strength 22 = .ok (.invokestatic 333, 3) := by decide +kernel
theorem dX12_strength_25 : decode cX12_strength 25 = .ok (.ifCond .eq 22, 3) := by decide +kernel
theorem dX12_strength_28 : decode cX12_strength 28 = .ok (.iload 5, 2) := by decide +kernel
theorem dX12_strength_30 : decode cX12_strength 30 = .ok (.invokestatic 336, 3) := by decide +kernel
theorem dX12_strength_33 : decode cX12_strength 33 = .ok (.ifCond .eq 14, 3) := by decide +kernel
theorem dX12_strength_36 : decode cX12_strength 36 = .ok (.iload 6, 2) := by decide +kernel
theorem dX12_strength_38 : decode cX12_strength 38 = .ok (.iconst 0, 1) := by decide +kernel
theorem dX12_strength_39 : decode cX12_strength 39 = .ok (.bipush 79, 2) := by decide +kernel
theorem dX12_strength_41 : decode cX12_strength 41 = .ok (.invokestatic 150, 3) := by decide +kernel
theorem dX12_strength_44 : decode cX12_strength 44 = .ok (.ifCond .ne 9, 3) := by decide +kernel
theorem dX12_strength_47 : decode cX12_strength 47 = .ok (.aload_n 0, 1) := by decide +kernel
theorem dX12_strength_48 : decode cX12_strength 48 = .ok (.iconst 1, 1) := by decide +kernel
theorem dX12_strength_49 : decode cX12_strength 49 = .ok (.invokevirtual 249, 3) := by decide +kernel
theorem dX12_strength_52 : decode cX12_strength 52 = .ok (.ireturn, 1) := by decide +kernel
theorem dX12_strength_53 : decode cX12_strength 53 = .ok (.aload_n 0, 1) := by decide +kernel
theorem dX12_strength_54 : decode cX12_strength 54 = .ok (.iload_n 1, 1) := by decide +kernel
theorem dX12_strength_55 : decode cX12_strength 55 = .ok (.iconst 0, 1) := by decide +kernel
theorem dX12_strength_56 : decode cX12_strength 56 = .ok (.iload_n 2, 1) := by decide +kernel
theorem dX12_strength_57 : decode cX12_strength 57 = .ok (.iload_n 3, 1) := by decide +kernel
theorem dX12_strength_58 : decode cX12_strength 58 = .ok (.iload 4, 2) := by decide +kernel
theorem dX12_strength_60 : decode cX12_strength 60 = .ok (.iload 5, 2) := by decide +kernel
theorem dX12_strength_62 : decode cX12_strength 62 = .ok (.invokevirtual 316, 3) := by decide +kernel
theorem dX12_strength_65 : decode cX12_strength 65 = .ok (.aload_n 0, 1) := by decide +kernel
theorem dX12_strength_66 : decode cX12_strength 66 = .ok (.getfield 58, 3) := by decide +kernel
theorem dX12_strength_69 : decode cX12_strength 69 = .ok (.iload 6, 2) := by decide +kernel
theorem dX12_strength_71 : decode cX12_strength 71 = .ok (.iaload, 1) := by decide +kernel
theorem dX12_strength_72 : decode cX12_strength 72 = .ok (.ireturn, 1) := by decide +kernel
theorem dX12_isStation_0 : decode cX12_isStation 0 = .ok (.iload_n 1, 1) := by decide +kernel
theorem dX12_isStation_1 : decode cX12_isStation 1 = .ok (.iconst 0, 1) := by decide +kernel
theorem dX12_isStation_2 : decode cX12_isStation 2 = .ok (.aload_n 0, 1) := by decide +kernel
theorem dX12_isStation_3 : decode cX12_isStation 3 = .ok (.getfield 255, 3) := by decide +kernel
theorem dX12_isStation_6 : decode cX12_isStation 6 = .ok (.iconst 1, 1) := by decide +kernel
theorem dX12_isStation_7 : decode cX12_isStation 7 = .ok (.isub, 1) := by decide +kernel
theorem dX12_isStation_8 : decode cX12_isStation 8 = .ok (.invokestatic 150, 3) := by decide +kernel
theorem dX12_isStation_11 : decode cX12_isStation 11 = .ok (.ireturn, 1) := by decide +kernel
theorem dX12_station_0 : decode cX12_station 0 = .ok (.aload_n 0, 1) := by decide +kernel
theorem dX12_station_1 : decode cX12_station 1 = .ok (.iconst 0, 1) := by decide +kernel
theorem dX12_station_2 : decode cX12_station 2 = .ok (.putfield 147, 3) := by decide +kernel
theorem dX12_station_5 : decode cX12_station 5 = .ok (.iload_n 1, 1) := by decide +kernel
theorem dX12_station_6 : decode cX12_station 6 = .ok (.iload_n 2, 1) := by decide +kernel
theorem dX12_station_7 : decode cX12_station 7 = .ok (.invokestatic 330, 3) := by decide +kernel
theorem dX12_station_10 : decode cX12_station 10 = .ok (.ifCond .ne 13, 3) := by decide +kernel
theorem dX12_station_13 : decode cX12_station 13 = .ok (.iload_n 1, 1) := by decide +kernel
theorem dX12_station_14 : decode cX12_station 14 = .ok (.iconst (-1), 1) := by decide +kernel
theorem dX12_station_15 : decode cX12_station 15 = .ok (.if_icmp .ne 27, 3) := by decide +kernel
theorem dX12_station_18 : decode cX12_station 18 = .ok (.iload_n 2, 1) := by decide +kernel
theorem dX12_station_19 : decode cX12_station 19 = .ok (.iconst (-1), 1) := by decide +kernel
theorem dX12_station_20 : decode cX12_station 20 = .ok (.if_icmp .ne 22, 3) := by decide +kernel
theorem dX12_station_23 : decode cX12_station 23 = .ok (.iload_n 3, 1) := by decide +kernel
theorem dX12_station_24 : decode cX12_station 24 = .ok (.invokestatic 333, 3) := by decide +kernel
theorem dX12_station_27 : decode cX12_station 27 = .ok (.ifCond .eq 15, 3) := by decide +kernel
theorem dX12_station_30 : decode cX12_station 30 = .ok (.iload 4, 2) := by decide +kernel
theorem dX12_station_32 : decode cX12_station 32 = .ok (.invokestatic 336, 3) := by decide +kernel
theorem dX12_station_35 : decode cX12_station 35 = .ok (.ifCond .eq 7, 3) := by decide +kernel
theorem dX12_station_38 : decode cX12_station 38 = .ok (.iconst 1, 1) := by decide +kernel
theorem dX12_station_39 : decode cX12_station 39 = .ok (.goto 4, 3) := by decide +kernel
theorem dX12_station_42 : decode cX12_station 42 = .ok (.iconst 0, 1) := by decide +kernel
theorem dX12_station_43 : decode cX12_station 43 = .ok (.istore 5, 2) := by decide +kernel
theorem dX12_station_45 : decode cX12_station 45 = .ok (.aload_n 0, 1) := by decide +kernel
theorem dX12_station_46 : decode cX12_station 46 = .ok (.getfield 255, 3) := by decide +kernel
theorem dX12_station_49 : decode cX12_station 49 = .ok (.bipush 20, 2) := by decide +kernel
theorem dX12_station_51 : decode cX12_station 51 = .ok (.if_icmp .eq 8, 3) := by decide +kernel
theorem dX12_station_54 : decode cX12_station 54 = .ok (.iload 5, 2) := by decide +kernel
theorem dX12_station_56 : decode cX12_station 56 = .ok (.ifCond .ne 15, 3) := by decide +kernel
theorem dX12_station_59 : decode cX12_station 59 = .ok (.aload_n 0, 1) := by decide +kernel
theorem dX12_station_60 : decode cX12_station 60 = .ok (.getfield 48, 3) := by decide +kernel
theorem dX12_station_63 : decode cX12_station 63 = .ok (.iconst 1, 1) := by decide +kernel
theorem dX12_station_64 : decode cX12_station 64 = .ok (.dup2, 1) := by decide +kernel
theorem dX12_station_65 : decode cX12_station 65 = .ok (.iaload, 1) := by decide +kernel
theorem dX12_station_66 : decode cX12_station 66 = .ok (.iconst 1, 1) := by decide +kernel
theorem dX12_station_67 : decode cX12_station 67 = .ok (.iadd, 1) := by decide +kernel
theorem dX12_station_68 : decode cX12_station 68 = .ok (.iastore, 1) := by decide +kernel
theorem dX12_station_69 : decode cX12_station 69 = .ok (.iconst (-1), 1) := by decide +kernel
theorem dX12_station_70 : decode cX12_station 70 = .ok (.ireturn, 1) := by decide +kernel
theorem dX12_station_71 : decode cX12_station 71 = .ok (.aload_n 0, 1) := by decide +kernel
theorem dX12_station_72 : decode cX12_station 72 = .ok (.getfield 70, 3) := by decide +kernel
theorem dX12_station_75 : decode cX12_station 75 = .ok (.aload_n 0, 1) := by decide +kernel
theorem dX12_station_76 : decode cX12_station 76 = .ok (.getfield 255, 3) := by decide +kernel
theorem dX12_station_79 : decode cX12_station 79 = .ok (.iload_n 1, 1) := by decide +kernel
theorem dX12_station_80 : decode cX12_station 80 = .ok (.iastore, 1) := by decide +kernel
theorem dX12_station_81 : decode cX12_station 81 = .ok (.aload_n 0, 1) := by decide +kernel
theorem dX12_station_82 : decode cX12_station 82 = .ok (.getfield 73, 3) := by decide +kernel
theorem dX12_station_85 : decode cX12_station 85 = .ok (.aload_n 0, 1) := by decide +kernel
theorem dX12_station_86 : decode cX12_station 86 = .ok (.getfield 255, 3) := by decide +kernel
theorem dX12_station_89 : decode cX12_station 89 = .ok (.iload_n 2, 1) := by decide +kernel
theorem dX12_station_90 : decode cX12_station 90 = .ok (.iastore, 1) := by decide +kernel
theorem dX12_station_91 : decode cX12_station 91 = .ok (.aload_n 0, 1) := by decide +kernel
theorem dX12_station_92 : decode cX12_station 92 = .ok (.getfield 76, 3) := by decide +kernel
theorem dX12_station_95 : decode cX12_station 95 = .ok (.aload_n 0, 1) := by decide +kernel
theorem dX12_station_96 : decode cX12_station 96 = .ok (.getfield 255, 3) := by decide +kernel
theorem dX12_station_99 : decode cX12_station 99 = .ok (.iload_n 3, 1) := by decide +kernel
theorem dX12_station_100 : decode cX12_station 100 = .ok (.iastore, 1) := by decide +kernel
theorem dX12_station_101 : decode cX12_station 101 = .ok (.aload_n 0, 1) := by decide +kernel
theorem dX12_station_102 : decode cX12_station 102 = .ok (.getfield 79, 3) := by decide +kernel
theorem dX12_station_105 : decode cX12_station 105 = .ok (.aload_n 0, 1) := by decide +kernel
theorem dX12_station_106 : decode cX12_station 106 = .ok (.getfield 255, 3) := by decide +kernel
theorem dX12_station_109 : decode cX12_station 109 = .ok (.iload 4, 2) := by decide +kernel
theorem dX12_station_111 : decode cX12_station 111 = .ok (.iastore, 1) := by decide +kernel
theorem dX12_station_112 : decode cX12_station 112 = .ok (.aload_n 0, 1) := by decide +kernel
theorem dX12_station_113 : decode cX12_station 113 = .ok (.getfield 82, 3) := by decide +kernel
theorem dX12_station_116 : decode cX12_station 116 = .ok (.aload_n 0, 1) := by decide +kernel
theorem dX12_station_117 : decode cX12_station 117 = .ok (.getfield 255, 3) := by decide +kernel
theorem dX12_station_120 : decode cX12_station 120 = .ok (.iconst 0, 1) := by decide +kernel
theorem dX12_station_121 : decode cX12_station 121 = .ok (.iastore, 1) := by decide +kernel
theorem dX12_station_122 : decode cX12_station 122 = .ok (.aload_n 0, 1) := by decide +kernel
theorem dX12_station_123 : decode cX12_station 123 = .ok (.dup, 1) := by decide +kernel
theorem dX12_station_124 : decode cX12_station 124 = .ok (.getfield 255, 3) := by decide +kernel
theorem dX12_station_127 : decode cX12_station 127 = .ok (.iconst 1, 1) := by decide +kernel
theorem dX12_station_128 : decode cX12_station 128 = .ok (.iadd, 1) := by decide +kernel
theorem dX12_station_129 : decode cX12_station 129 = .ok (.putfield 255, 3) := by decide +kernel
theorem dX12_station_132 : decode cX12_station 132 = .ok (.aload_n 0, 1) := by decide +kernel
theorem dX12_station_133 : decode cX12_station 133 = .ok (.getfield 255, 3) := by decide +kernel
theorem dX12_station_136 : decode cX12_station 136 = .ok (.iconst 1, 1) := by decide +kernel
theorem dX12_station_137 : decode cX12_station 137 = .ok (.isub, 1) := by decide +kernel
theorem dX12_station_138 : decode cX12_station 138 = .ok (.ireturn, 1) := by decide +kernel
theorem dX12_tick_0 : decode cX12_tick 0 = .ok (.aload_n 0, 1) := by decide +kernel
theorem dX12_tick_1 : decode cX12_tick 1 = .ok (.iconst 0, 1) := by decide +kernel
theorem dX12_tick_2 : decode cX12_tick 2 = .ok (.putfield 147, 3) := by decide +kernel
theorem dX12_tick_5 : decode cX12_tick 5 = .ok (.aload_n 0, 1) := by decide +kernel
theorem dX12_tick_6 : decode cX12_tick 6 = .ok (.iload_n 1, 1) := by decide +kernel
theorem dX12_tick_7 : decode cX12_tick 7 = .ok (.invokevirtual 342, 3) := by decide +kernel
theorem dX12_tick_10 : decode cX12_tick 10 = .ok (.ifCond .ne 9, 3) := by decide +kernel
theorem dX12_tick_13 : decode cX12_tick 13 = .ok (.aload_n 0, 1) := by decide +kernel
theorem dX12_tick_14 : decode cX12_tick 14 = .ok (.iconst 1, 1) := by decide +kernel
theorem dX12_tick_15 : decode cX12_tick 15 = .ok (.invokevirtual 249, 3) := by decide +kernel
theorem dX12_tick_18 : decode cX12_tick 18 = .ok (.ireturn, 1) := by decide +kernel
theorem dX12_tick_19 : decode cX12_tick 19 = .ok (.aload_n 0, 1) := by decide +kernel
theorem dX12_tick_20 : decode cX12_tick 20 = .ok (.getfield 82, 3) := by decide +kernel
theorem dX12_tick_23 : decode cX12_tick 23 = .ok (.iload_n 1, 1) := by decide +kernel
theorem dX12_tick_24 : decode cX12_tick 24 = .ok (.iaload, 1) := by decide +kernel
theorem dX12_tick_25 : decode cX12_tick 25 = .ok (.bipush 12, 2) := by decide +kernel
theorem dX12_tick_27 : decode cX12_tick 27 = .ok (.if_icmp .eq 14, 3) := by decide +kernel
theorem dX12_tick_30 : decode cX12_tick 30 = .ok (.iload_n 2, 1) := by decide +kernel
theorem dX12_tick_31 : decode cX12_tick 31 = .ok (.iconst 0, 1) := by decide +kernel
theorem dX12_tick_32 : decode cX12_tick 32 = .ok (.sipush 9999, 3) := by decide +kernel
theorem dX12_tick_35 : decode cX12_tick 35 = .ok (.invokestatic 150, 3) := by decide +kernel
theorem dX12_tick_38 : decode cX12_tick 38 = .ok (.ifCond .ne 15, 3) := by decide +kernel
theorem dX12_tick_41 : decode cX12_tick 41 = .ok (.aload_n 0, 1) := by decide +kernel
theorem dX12_tick_42 : decode cX12_tick 42 = .ok (.getfield 48, 3) := by decide +kernel
theorem dX12_tick_45 : decode cX12_tick 45 = .ok (.iconst 2, 1) := by decide +kernel
theorem dX12_tick_46 : decode cX12_tick 46 = .ok (.dup2, 1) := by decide +kernel
theorem dX12_tick_47 : decode cX12_tick 47 = .ok (.iaload, 1) := by decide +kernel
theorem dX12_tick_48 : decode cX12_tick 48 = .ok (.iconst 1, 1) := by decide +kernel
theorem dX12_tick_49 : decode cX12_tick 49 = .ok (.iadd, 1) := by decide +kernel
theorem dX12_tick_50 : decode cX12_tick 50 = .ok (.iastore, 1) := by decide +kernel
theorem dX12_tick_51 : decode cX12_tick 51 = .ok (.iconst (-1), 1) := by decide +kernel
theorem dX12_tick_52 : decode cX12_tick 52 = .ok (.ireturn, 1) := by decide +kernel
theorem dX12_tick_53 : decode cX12_tick 53 = .ok (.bipush 12, 2) := by decide +kernel
theorem dX12_tick_55 : decode cX12_tick 55 = .ok (.iload_n 1, 1) := by decide +kernel
theorem dX12_tick_56 : decode cX12_tick 56 = .ok (.imul, 1) := by decide +kernel
theorem dX12_tick_57 : decode cX12_tick 57 = .ok (.aload_n 0, 1) := by decide +kernel
theorem dX12_tick_58 : decode cX12_tick 58 = .ok (.getfield 82, 3) := by decide +kernel
theorem dX12_tick_61 : decode cX12_tick 61 = .ok (.iload_n 1, 1) := by decide +kernel
theorem dX12_tick_62 : decode cX12_tick 62 = .ok (.iaload, 1) := by decide +kernel
theorem dX12_tick_63 : decode cX12_tick 63 = .ok (.iadd, 1) := by decide +kernel
theorem dX12_tick_64 : decode cX12_tick 64 = .ok (.istore_n 3, 1) := by decide +kernel
theorem dX12_tick_65 : decode cX12_tick 65 = .ok (.aload_n 0, 1) := by decide +kernel
theorem dX12_tick_66 : decode cX12_tick 66 = .ok (.getfield 85, 3) := by decide +kernel
theorem dX12_tick_69 : decode cX12_tick 69 = .ok (.iload_n 3, 1) := by decide +kernel
theorem dX12_tick_70 : decode cX12_tick 70 = .ok (.iload_n 2, 1) := by decide +kernel
theorem dX12_tick_71 : decode cX12_tick 71 = .ok (.iastore, 1) := by decide +kernel
theorem dX12_tick_72 : decode cX12_tick 72 = .ok (.iload_n 3, 1) := by decide +kernel
theorem dX12_tick_73 : decode cX12_tick 73 = .ok (.bipush 12, 2) := by decide +kernel
theorem dX12_tick_75 : decode cX12_tick 75 = .ok (.iload_n 1, 1) := by decide +kernel
theorem dX12_tick_76 : decode cX12_tick 76 = .ok (.imul, 1) := by decide +kernel
theorem dX12_tick_77 : decode cX12_tick 77 = .ok (.if_icmp .le 35, 3) := by decide +kernel
theorem dX12_tick_80 : decode cX12_tick 80 = .ok (.aload_n 0, 1) := by decide +kernel
theorem dX12_tick_81 : decode cX12_tick 81 = .ok (.getfield 88, 3) := by decide +kernel
theorem dX12_tick_84 : decode cX12_tick 84 = .ok (.iload_n 3, 1) := by decide +kernel
theorem dX12_tick_85 : decode cX12_tick 85 = .ok (.iconst 1, 1) := by decide +kernel
theorem dX12_tick_86 : decode cX12_tick 86 = .ok (.isub, 1) := by decide +kernel
theorem dX12_tick_87 : decode cX12_tick 87 = .ok (.iaload, 1) := by decide +kernel
theorem dX12_tick_88 : decode cX12_tick 88 = .ok (.iload_n 2, 1) := by decide +kernel
theorem dX12_tick_89 : decode cX12_tick 89 = .ok (.if_icmp .le 23, 3) := by decide +kernel
theorem dX12_tick_92 : decode cX12_tick 92 = .ok (.aload_n 0, 1) := by decide +kernel
theorem dX12_tick_93 : decode cX12_tick 93 = .ok (.getfield 88, 3) := by decide +kernel
theorem dX12_tick_96 : decode cX12_tick 96 = .ok (.iload_n 3, 1) := by decide +kernel
theorem dX12_tick_97 : decode cX12_tick 97 = .ok (.aload_n 0, 1) := by decide +kernel
theorem dX12_tick_98 : decode cX12_tick 98 = .ok (.getfield 88, 3) := by decide +kernel
theorem dX12_tick_101 : decode cX12_tick 101 = .ok (.iload_n 3, 1) := by decide +kernel
theorem dX12_tick_102 : decode cX12_tick 102 = .ok (.iconst 1, 1) := by decide +kernel
theorem dX12_tick_103 : decode cX12_tick 103 = .ok (.isub, 1) := by decide +kernel
theorem dX12_tick_104 : decode cX12_tick 104 = .ok (.iaload, 1) := by decide +kernel
theorem dX12_tick_105 : decode cX12_tick 105 = .ok (.iastore, 1) := by decide +kernel
theorem dX12_tick_106 : decode cX12_tick 106 = .ok (.iinc 3 (-1), 3) := by decide +kernel
theorem dX12_tick_109 : decode cX12_tick 109 = .ok (.goto (-37), 3) := by decide +kernel
theorem dX12_tick_112 : decode cX12_tick 112 = .ok (.aload_n 0, 1) := by decide +kernel
theorem dX12_tick_113 : decode cX12_tick 113 = .ok (.getfield 88, 3) := by decide +kernel
theorem dX12_tick_116 : decode cX12_tick 116 = .ok (.iload_n 3, 1) := by decide +kernel
theorem dX12_tick_117 : decode cX12_tick 117 = .ok (.iload_n 2, 1) := by decide +kernel
theorem dX12_tick_118 : decode cX12_tick 118 = .ok (.iastore, 1) := by decide +kernel
theorem dX12_tick_119 : decode cX12_tick 119 = .ok (.aload_n 0, 1) := by decide +kernel
theorem dX12_tick_120 : decode cX12_tick 120 = .ok (.getfield 82, 3) := by decide +kernel
theorem dX12_tick_123 : decode cX12_tick 123 = .ok (.iload_n 1, 1) := by decide +kernel
theorem dX12_tick_124 : decode cX12_tick 124 = .ok (.dup2, 1) := by decide +kernel
theorem dX12_tick_125 : decode cX12_tick 125 = .ok (.iaload, 1) := by decide +kernel
theorem dX12_tick_126 : decode cX12_tick 126 = .ok (.iconst 1, 1) := by decide +kernel
theorem dX12_tick_127 : decode cX12_tick 127 = .ok (.iadd, 1) := by decide +kernel
theorem dX12_tick_128 : decode cX12_tick 128 = .ok (.iastore, 1) := by decide +kernel
theorem dX12_tick_129 : decode cX12_tick 129 = .ok (.aload_n 0, 1) := by decide +kernel
theorem dX12_tick_130 : decode cX12_tick 130 = .ok (.getfield 82, 3) := by decide +kernel
theorem dX12_tick_133 : decode cX12_tick 133 = .ok (.iload_n 1, 1) := by decide +kernel
theorem dX12_tick_134 : decode cX12_tick 134 = .ok (.iaload, 1) := by decide +kernel
theorem dX12_tick_135 : decode cX12_tick 135 = .ok (.ireturn, 1) := by decide +kernel
theorem dX12_told_0 : decode cX12_told 0 = .ok (.aload_n 0, 1) := by decide +kernel
theorem dX12_told_1 : decode cX12_told 1 = .ok (.iconst 0, 1) := by decide +kernel
theorem dX12_told_2 : decode cX12_told 2 = .ok (.putfield 147, 3) := by decide +kernel
theorem dX12_told_5 : decode cX12_told 5 = .ok (.aload_n 0, 1) := by decide +kernel
theorem dX12_told_6 : decode cX12_told 6 = .ok (.iload_n 1, 1) := by decide +kernel
theorem dX12_told_7 : decode cX12_told 7 = .ok (.invokevirtual 342, 3) := by decide +kernel
theorem dX12_told_10 : decode cX12_told 10 = .ok (.ifCond .ne 9, 3) := by decide +kernel
theorem dX12_told_13 : decode cX12_told 13 = .ok (.aload_n 0, 1) := by decide +kernel
theorem dX12_told_14 : decode cX12_told 14 = .ok (.iconst 1, 1) := by decide +kernel
theorem dX12_told_15 : decode cX12_told 15 = .ok (.invokevirtual 249, 3) := by decide +kernel
theorem dX12_told_18 : decode cX12_told 18 = .ok (.ireturn, 1) := by decide +kernel
theorem dX12_told_19 : decode cX12_told 19 = .ok (.iload_n 2, 1) := by decide +kernel
theorem dX12_told_20 : decode cX12_told 20 = .ok (.bipush 10, 2) := by decide +kernel
theorem dX12_told_22 : decode cX12_told 22 = .ok (.if_icmp .lt 39, 3) := by decide +kernel
theorem dX12_told_25 : decode cX12_told 25 = .ok (.iload_n 2, 1) := by decide +kernel
theorem dX12_told_26 : decode cX12_told 26 = .ok (.bipush 10, 2) := by decide +kernel
theorem dX12_told_28 : decode cX12_told 28 = .ok (.isub, 1) := by decide +kernel
theorem dX12_told_29 : decode cX12_told 29 = .ok (.aload_n 0, 1) := by decide +kernel
theorem dX12_told_30 : decode cX12_told 30 = .ok (.getfield 82, 3) := by decide +kernel
theorem dX12_told_33 : decode cX12_told 33 = .ok (.iload_n 1, 1) := by decide +kernel
theorem dX12_told_34 : decode cX12_told 34 = .ok (.iaload, 1) := by decide +kernel
theorem dX12_told_35 : decode cX12_told 35 = .ok (.if_icmp .ge 20, 3) := by decide +kernel
theorem dX12_told_38 : decode cX12_told 38 = .ok (.aload_n 0, 1) := by decide +kernel
theorem dX12_told_39 : decode cX12_told 39 = .ok (.getfield 85, 3) := by decide +kernel
theorem dX12_told_42 : decode cX12_told 42 = .ok (.bipush 12, 2) := by decide +kernel
theorem dX12_told_44 : decode cX12_told 44 = .ok (.iload_n 1, 1) := by decide +kernel
theorem dX12_told_45 : decode cX12_told 45 = .ok (.imul, 1) := by decide +kernel
theorem dX12_told_46 : decode cX12_told 46 = .ok (.iload_n 2, 1) := by decide +kernel
theorem dX12_told_47 : decode cX12_told 47 = .ok (.iadd, 1) := by decide +kernel
theorem dX12_told_48 : decode cX12_told 48 = .ok (.bipush 10, 2) := by decide +kernel
theorem dX12_told_50 : decode cX12_told 50 = .ok (.isub, 1) := by decide +kernel
theorem dX12_told_51 : decode cX12_told 51 = .ok (.iaload, 1) := by decide +kernel
theorem dX12_told_52 : decode cX12_told 52 = .ok (.goto 8, 3) := by decide +kernel
theorem dX12_told_55 : decode cX12_told 55 = .ok (.aload_n 0, 1) := by decide +kernel
theorem dX12_told_56 : decode cX12_told 56 = .ok (.iconst 1, 1) := by decide +kernel
theorem dX12_told_57 : decode cX12_told 57 = .ok (.invokevirtual 249, 3) := by decide +kernel
theorem dX12_told_60 : decode cX12_told 60 = .ok (.ireturn, 1) := by decide +kernel
theorem dX12_told_61 : decode cX12_told 61 = .ok (.iload_n 2, 1) := by decide +kernel
theorem dX12_told_62 : decode cX12_told 62 = .ok (.tableswitch 69 0 4 #[34, 41, 48, 55, 62], 34) := by decide +kernel
theorem dX12_told_96 : decode cX12_told 96 = .ok (.aload_n 0, 1) := by decide +kernel
theorem dX12_told_97 : decode cX12_told 97 = .ok (.getfield 70, 3) := by decide +kernel
theorem dX12_told_100 : decode cX12_told 100 = .ok (.iload_n 1, 1) := by decide +kernel
theorem dX12_told_101 : decode cX12_told 101 = .ok (.iaload, 1) := by decide +kernel
theorem dX12_told_102 : decode cX12_told 102 = .ok (.ireturn, 1) := by decide +kernel
theorem dX12_told_103 : decode cX12_told 103 = .ok (.aload_n 0, 1) := by decide +kernel
theorem dX12_told_104 : decode cX12_told 104 = .ok (.getfield 73, 3) := by decide +kernel
theorem dX12_told_107 : decode cX12_told 107 = .ok (.iload_n 1, 1) := by decide +kernel
theorem dX12_told_108 : decode cX12_told 108 = .ok (.iaload, 1) := by decide +kernel
theorem dX12_told_109 : decode cX12_told 109 = .ok (.ireturn, 1) := by decide +kernel
theorem dX12_told_110 : decode cX12_told 110 = .ok (.aload_n 0, 1) := by decide +kernel
theorem dX12_told_111 : decode cX12_told 111 = .ok (.getfield 76, 3) := by decide +kernel
theorem dX12_told_114 : decode cX12_told 114 = .ok (.iload_n 1, 1) := by decide +kernel
theorem dX12_told_115 : decode cX12_told 115 = .ok (.iaload, 1) := by decide +kernel
theorem dX12_told_116 : decode cX12_told 116 = .ok (.ireturn, 1) := by decide +kernel
theorem dX12_told_117 : decode cX12_told 117 = .ok (.aload_n 0, 1) := by decide +kernel
theorem dX12_told_118 : decode cX12_told 118 = .ok (.getfield 79, 3) := by decide +kernel
theorem dX12_told_121 : decode cX12_told 121 = .ok (.iload_n 1, 1) := by decide +kernel
theorem dX12_told_122 : decode cX12_told 122 = .ok (.iaload, 1) := by decide +kernel
theorem dX12_told_123 : decode cX12_told 123 = .ok (.ireturn, 1) := by decide +kernel
theorem dX12_told_124 : decode cX12_told 124 = .ok (.aload_n 0, 1) := by decide +kernel
theorem dX12_told_125 : decode cX12_told 125 = .ok (.getfield 82, 3) := by decide +kernel
theorem dX12_told_128 : decode cX12_told 128 = .ok (.iload_n 1, 1) := by decide +kernel
theorem dX12_told_129 : decode cX12_told 129 = .ok (.iaload, 1) := by decide +kernel
theorem dX12_told_130 : decode cX12_told 130 = .ok (.ireturn, 1) := by decide +kernel
theorem dX12_told_131 : decode cX12_told 131 = .ok (.aload_n 0, 1) := by decide +kernel
theorem dX12_told_132 : decode cX12_told 132 = .ok (.iconst 1, 1) := by decide +kernel
theorem dX12_told_133 : decode cX12_told 133 = .ok (.invokevirtual 249, 3) := by decide +kernel
theorem dX12_told_136 : decode cX12_told 136 = .ok (.ireturn, 1) := by decide +kernel
theorem dX12_isWritten_0 : decode cX12_isWritten 0 = .ok (.aload_n 0, 1) := by decide +kernel
theorem dX12_isWritten_1 : decode cX12_isWritten 1 = .ok (.getfield 313, 3) := by decide +kernel
theorem dX12_isWritten_4 : decode cX12_isWritten 4 = .ok (.aload_n 0, 1) := by decide +kernel
theorem dX12_isWritten_5 : decode cX12_isWritten 5 = .ok (.getfield 82, 3) := by decide +kernel
theorem dX12_isWritten_8 : decode cX12_isWritten 8 = .ok (.iload_n 1, 1) := by decide +kernel
theorem dX12_isWritten_9 : decode cX12_isWritten 9 = .ok (.iaload, 1) := by decide +kernel
theorem dX12_isWritten_10 : decode cX12_isWritten 10 = .ok (.if_icmp .eq 5, 3) := by decide +kernel
theorem dX12_isWritten_13 : decode cX12_isWritten 13 = .ok (.iconst 0, 1) := by decide +kernel
theorem dX12_isWritten_14 : decode cX12_isWritten 14 = .ok (.ireturn, 1) := by decide +kernel
theorem dX12_isWritten_15 : decode cX12_isWritten 15 = .ok (.iconst 0, 1) := by decide +kernel
theorem dX12_isWritten_16 : decode cX12_isWritten 16 = .ok (.istore_n 2, 1) := by decide +kernel
theorem dX12_isWritten_17 : decode cX12_isWritten 17 = .ok (.iload_n 2, 1) := by decide +kernel
theorem dX12_isWritten_18 : decode cX12_isWritten 18 = .ok (.aload_n 0, 1) := by decide +kernel
theorem dX12_isWritten_19 : decode cX12_isWritten 19 = .ok (.getfield 313, 3) := by decide +kernel
theorem dX12_isWritten_22 : decode cX12_isWritten 22 = .ok (.if_icmp .ge 31, 3) := by decide +kernel
theorem dX12_isWritten_25 : decode cX12_isWritten 25 = .ok (.aload_n 0, 1) := by decide +kernel
theorem dX12_isWritten_26 : decode cX12_isWritten 26 = .ok (.getfield 64, 3) := by decide +kernel
theorem dX12_isWritten_29 : decode cX12_isWritten 29 = .ok (.iload_n 2, 1) := by decide +kernel
theorem dX12_isWritten_30 : decode cX12_isWritten 30 = .ok (.iaload, 1) := by decide +kernel
theorem dX12_isWritten_31 : decode cX12_isWritten 31 = .ok (.aload_n 0, 1) := by decide +kernel
theorem dX12_isWritten_32 : decode cX12_isWritten 32 = .ok (.getfield 88, 3) := by decide +kernel
theorem dX12_isWritten_35 : decode cX12_isWritten 35 = .ok (.bipush 12, 2) := by decide +kernel
theorem dX12_isWritten_37 : decode cX12_isWritten 37 = .ok (.iload_n 1, 1) := by decide +kernel
theorem dX12_isWritten_38 : decode cX12_isWritten 38 = .ok (.imul, 1) := by decide +kernel
theorem dX12_isWritten_39 : decode cX12_isWritten 39 = .ok (.iload_n 2, 1) := by decide +kernel
theorem dX12_isWritten_40 : decode cX12_isWritten 40 = .ok (.iadd, 1) := by decide +kernel
theorem dX12_isWritten_41 : decode cX12_isWritten 41 = .ok (.iaload, 1) := by decide +kernel
theorem dX12_isWritten_42 : decode cX12_isWritten 42 = .ok (.if_icmp .eq 5, 3) := by decide +kernel
theorem dX12_isWritten_45 : decode cX12_isWritten 45 = .ok (.iconst 0, 1) := by decide +kernel
theorem dX12_isWritten_46 : decode cX12_isWritten 46 = .ok (.ireturn, 1) := by decide +kernel
theorem dX12_isWritten_47 : decode cX12_isWritten 47 = .ok (.iinc 2 1, 3) := by decide +kernel
theorem dX12_isWritten_50 : decode cX12_isWritten 50 = .ok (.goto (-33), 3) := by decide +kernel
theorem dX12_isWritten_53 : decode cX12_isWritten 53 = .ok (.iconst 1, 1) := by decide +kernel
theorem dX12_isWritten_54 : decode cX12_isWritten 54 = .ok (.ireturn, 1) := by decide +kernel
theorem dX12_fitsAt_0 : decode cX12_fitsAt 0 = .ok (.aload_n 0, 1) := by decide +kernel
theorem dX12_fitsAt_1 : decode cX12_fitsAt 1 = .ok (.iload_n 1, 1) := by decide +kernel
theorem dX12_fitsAt_2 : decode cX12_fitsAt 2 = .ok (.iload_n 2, 1) := by decide +kernel
theorem dX12_fitsAt_3 : decode cX12_fitsAt 3 = .ok (.iload 4, 2) := by decide +kernel
theorem dX12_fitsAt_5 : decode cX12_fitsAt 5 = .ok (.iload 5, 2) := by decide +kernel
theorem dX12_fitsAt_7 : decode cX12_fitsAt 7 = .ok (.aload_n 0, 1) := by decide +kernel
theorem dX12_fitsAt_8 : decode cX12_fitsAt 8 = .ok (.getfield 76, 3) := by decide +kernel
theorem dX12_fitsAt_11 : decode cX12_fitsAt 11 = .ok (.iload_n 3, 1) := by decide +kernel
theorem dX12_fitsAt_12 : decode cX12_fitsAt 12 = .ok (.iaload, 1) := by decide +kernel
theorem dX12_fitsAt_13 : decode cX12_fitsAt 13 = .ok (.aload_n 0, 1) := by decide +kernel
theorem dX12_fitsAt_14 : decode cX12_fitsAt 14 = .ok (.getfield 79, 3) := by decide +kernel
theorem dX12_fitsAt_17 : decode cX12_fitsAt 17 = .ok (.iload_n 3, 1) := by decide +kernel
theorem dX12_fitsAt_18 : decode cX12_fitsAt 18 = .ok (.iaload, 1) := by decide +kernel
theorem dX12_fitsAt_19 : decode cX12_fitsAt 19 = .ok (.iload 6, 2) := by decide +kernel
theorem dX12_fitsAt_21 : decode cX12_fitsAt 21 = .ok (.invokevirtual 339, 3) := by decide +kernel
theorem dX12_fitsAt_24 : decode cX12_fitsAt 24 = .ok (.aload_n 0, 1) := by decide +kernel
theorem dX12_fitsAt_25 : decode cX12_fitsAt 25 = .ok (.iload_n 3, 1) := by decide +kernel
theorem dX12_fitsAt_26 : decode cX12_fitsAt 26 = .ok (.invokevirtual 345, 3) := by decide +kernel
theorem dX12_fitsAt_29 : decode cX12_fitsAt 29 = .ok (.ireturn, 1) := by decide +kernel
theorem dX12_isNamed_0 : decode cX12_isNamed 0 = .ok (.aload_n 0, 1) := by decide +kernel
theorem dX12_isNamed_1 : decode cX12_isNamed 1 = .ok (.getfield 70, 3) := by decide +kernel
theorem dX12_isNamed_4 : decode cX12_isNamed 4 = .ok (.iload_n 1, 1) := by decide +kernel
theorem dX12_isNamed_5 : decode cX12_isNamed 5 = .ok (.iaload, 1) := by decide +kernel
theorem dX12_isNamed_6 : decode cX12_isNamed 6 = .ok (.iconst (-1), 1) := by decide +kernel
theorem dX12_isNamed_7 : decode cX12_isNamed 7 = .ok (.if_icmp .eq 7, 3) := by decide +kernel
theorem dX12_isNamed_10 : decode cX12_isNamed 10 = .ok (.iconst 1, 1) := by decide +kernel
theorem dX12_isNamed_11 : decode cX12_isNamed 11 = .ok (.goto 4, 3) := by decide +kernel
theorem dX12_isNamed_14 : decode cX12_isNamed 14 = .ok (.iconst 0, 1) := by decide +kernel
theorem dX12_isNamed_15 : decode cX12_isNamed 15 = .ok (.ireturn, 1) := by decide +kernel
theorem dX12_fits_0 : decode cX12_fits 0 = .ok (.aload_n 0, 1) := by decide +kernel
theorem dX12_fits_1 : decode cX12_fits 1 = .ok (.iconst 0, 1) := by decide +kernel
theorem dX12_fits_2 : decode cX12_fits 2 = .ok (.putfield 147, 3) := by decide +kernel
theorem dX12_fits_5 : decode cX12_fits 5 = .ok (.iload_n 1, 1) := by decide +kernel
theorem dX12_fits_6 : decode cX12_fits 6 = .ok (.invokestatic 246, 3) := by decide +kernel
theorem dX12_fits_9 : decode cX12_fits 9 = .ok (.ifCond .eq 11, 3) := by decide +kernel
theorem dX12_fits_12 : decode cX12_fits 12 = .ok (.aload_n 0, 1) := by decide +kernel
theorem dX12_fits_13 : decode cX12_fits 13 = .ok (.iload_n 2, 1) := by decide +kernel
theorem dX12_fits_14 : decode cX12_fits 14 = .ok (.invokevirtual 342, 3) := by decide +kernel
theorem dX12_fits_17 : decode cX12_fits 17 = .ok (.ifCond .ne 10, 3) := by decide +kernel
theorem dX12_fits_20 : decode cX12_fits 20 = .ok (.aload_n 0, 1) := by decide +kernel
theorem dX12_fits_21 : decode cX12_fits 21 = .ok (.iconst 1, 1) := by decide +kernel
theorem dX12_fits_22 : decode cX12_fits 22 = .ok (.putfield 147, 3) := by decide +kernel
theorem dX12_fits_25 : decode cX12_fits 25 = .ok (.iconst 0, 1) := by decide +kernel
theorem dX12_fits_26 : decode cX12_fits 26 = .ok (.ireturn, 1) := by decide +kernel
theorem dX12_fits_27 : decode cX12_fits 27 = .ok (.aload_n 0, 1) := by decide +kernel
theorem dX12_fits_28 : decode cX12_fits 28 = .ok (.iload_n 2, 1) := by decide +kernel
theorem dX12_fits_29 : decode cX12_fits 29 = .ok (.invokevirtual 348, 3) := by decide +kernel
theorem dX12_fits_32 : decode cX12_fits 32 = .ok (.ifCond .eq 35, 3) := by decide +kernel
theorem dX12_fits_35 : decode cX12_fits 35 = .ok (.aload_n 0, 1) := by decide +kernel
theorem dX12_fits_36 : decode cX12_fits 36 = .ok (.iload_n 1, 1) := by decide +kernel
theorem dX12_fits_37 : decode cX12_fits 37 = .ok (.iconst 0, 1) := by decide +kernel
theorem dX12_fits_38 : decode cX12_fits 38 = .ok (.iload_n 2, 1) := by decide +kernel
theorem dX12_fits_39 : decode cX12_fits 39 = .ok (.aload_n 0, 1) := by decide +kernel
theorem dX12_fits_40 : decode cX12_fits 40 = .ok (.getfield 70, 3) := by decide +kernel
theorem dX12_fits_43 : decode cX12_fits 43 = .ok (.iload_n 2, 1) := by decide +kernel
theorem dX12_fits_44 : decode cX12_fits 44 = .ok (.iaload, 1) := by decide +kernel
theorem dX12_fits_45 : decode cX12_fits 45 = .ok (.aload_n 0, 1) := by decide +kernel
theorem dX12_fits_46 : decode cX12_fits 46 = .ok (.getfield 73, 3) := by decide +kernel
theorem dX12_fits_49 : decode cX12_fits 49 = .ok (.iload_n 2, 1) := by decide +kernel
theorem dX12_fits_50 : decode cX12_fits 50 = .ok (.iaload, 1) := by decide +kernel
theorem dX12_fits_51 : decode cX12_fits 51 = .ok (.aload_n 0, 1) := by decide +kernel
theorem dX12_fits_52 : decode cX12_fits 52 = .ok (.getfield 39, 3) := by decide +kernel
theorem dX12_fits_55 : decode cX12_fits 55 = .ok (.iload_n 1, 1) := by decide +kernel
theorem dX12_fits_56 : decode cX12_fits 56 = .ok (.iaload, 1) := by decide +kernel
theorem dX12_fits_57 : decode cX12_fits 57 = .ok (.invokevirtual 351, 3) := by decide +kernel
theorem dX12_fits_60 : decode cX12_fits 60 = .ok (.ifCond .eq 7, 3) := by decide +kernel
theorem dX12_fits_63 : decode cX12_fits 63 = .ok (.iconst 1, 1) := by decide +kernel
theorem dX12_fits_64 : decode cX12_fits 64 = .ok (.goto 4, 3) := by decide +kernel
theorem dX12_fits_67 : decode cX12_fits 67 = .ok (.iconst 0, 1) := by decide +kernel
theorem dX12_fits_68 : decode cX12_fits 68 = .ok (.ireturn, 1) := by decide +kernel
theorem dX12_where_0 : decode cX12_where 0 = .ok (.aload_n 0, 1) := by decide +kernel
theorem dX12_where_1 : decode cX12_where 1 = .ok (.iconst 0, 1) := by decide +kernel
theorem dX12_where_2 : decode cX12_where 2 = .ok (.putfield 147, 3) := by decide +kernel
theorem dX12_where_5 : decode cX12_where 5 = .ok (.iload_n 1, 1) := by decide +kernel
theorem dX12_where_6 : decode cX12_where 6 = .ok (.invokestatic 246, 3) := by decide +kernel
theorem dX12_where_9 : decode cX12_where 9 = .ok (.ifCond .eq 16, 3) := by decide +kernel
theorem dX12_where_12 : decode cX12_where 12 = .ok (.aload_n 0, 1) := by decide +kernel
theorem dX12_where_13 : decode cX12_where 13 = .ok (.iload_n 2, 1) := by decide +kernel
theorem dX12_where_14 : decode cX12_where 14 = .ok (.invokevirtual 342, 3) := by decide +kernel
