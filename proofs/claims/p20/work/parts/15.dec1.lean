theorem dX7_mustOff_102 : decode cX7_mustOff 102 = .ok (.iload 8, 2) := by decide +kernel
theorem dX7_mustOff_104 : decode cX7_mustOff 104 = .ok (.invokestatic 119, 3) := by decide +kernel
theorem dX7_mustOff_107 : decode cX7_mustOff 107 = .ok (.ifCond .ne 20, 3) := by decide +kernel
theorem dX7_mustOff_110 : decode cX7_mustOff 110 = .ok (.iload 6, 2) := by decide +kernel
theorem dX7_mustOff_112 : decode cX7_mustOff 112 = .ok (.ifCond .lt 19, 3) := by decide +kernel
theorem dX7_mustOff_115 : decode cX7_mustOff 115 = .ok (.iload 10, 2) := by decide +kernel
theorem dX7_mustOff_117 : decode cX7_mustOff 117 = .ok (.ifCond .lt 14, 3) := by decide +kernel
theorem dX7_mustOff_120 : decode cX7_mustOff 120 = .ok (.iload 10, 2) := by decide +kernel
theorem dX7_mustOff_122 : decode cX7_mustOff 122 = .ok (.iload 6, 2) := by decide +kernel
theorem dX7_mustOff_124 : decode cX7_mustOff 124 = .ok (.if_icmp .le 7, 3) := by decide +kernel
theorem dX7_mustOff_127 : decode cX7_mustOff 127 = .ok (.iconst 1, 1) := by decide +kernel
theorem dX7_mustOff_128 : decode cX7_mustOff 128 = .ok (.goto 4, 3) := by decide +kernel
theorem dX7_mustOff_131 : decode cX7_mustOff 131 = .ok (.iconst 0, 1) := by decide +kernel
theorem dX7_mustOff_132 : decode cX7_mustOff 132 = .ok (.ior, 1) := by decide +kernel
theorem dX7_mustOff_133 : decode cX7_mustOff 133 = .ok (.istore 7, 2) := by decide +kernel
theorem dX7_mustOff_135 : decode cX7_mustOff 135 = .ok (.iinc 8 1, 3) := by decide +kernel
theorem dX7_mustOff_138 : decode cX7_mustOff 138 = .ok (.goto (-100), 3) := by decide +kernel
theorem dX7_mustOff_141 : decode cX7_mustOff 141 = .ok (.iconst 0, 1) := by decide +kernel
theorem dX7_mustOff_142 : decode cX7_mustOff 142 = .ok (.istore 8, 2) := by decide +kernel
theorem dX7_mustOff_144 : decode cX7_mustOff 144 = .ok (.iload 8, 2) := by decide +kernel
theorem dX7_mustOff_146 : decode cX7_mustOff 146 = .ok (.iload 6, 2) := by decide +kernel
theorem dX7_mustOff_148 : decode cX7_mustOff 148 = .ok (.if_icmp .ge 79, 3) := by decide +kernel
theorem dX7_mustOff_151 : decode cX7_mustOff 151 = .ok (.aload_n 0, 1) := by decide +kernel
theorem dX7_mustOff_152 : decode cX7_mustOff 152 = .ok (.getfield 43, 3) := by decide +kernel
theorem dX7_mustOff_155 : decode cX7_mustOff 155 = .ok (.bipush 8, 2) := by decide +kernel
theorem dX7_mustOff_157 : decode cX7_mustOff 157 = .ok (.iload_n 2, 1) := by decide +kernel
theorem dX7_mustOff_158 : decode cX7_mustOff 158 = .ok (.imul, 1) := by decide +kernel
theorem dX7_mustOff_159 : decode cX7_mustOff 159 = .ok (.iload 8, 2) := by decide +kernel
theorem dX7_mustOff_161 : decode cX7_mustOff 161 = .ok (.iadd, 1) := by decide +kernel
theorem dX7_mustOff_162 : decode cX7_mustOff 162 = .ok (.iaload, 1) := by decide +kernel
theorem dX7_mustOff_163 : decode cX7_mustOff 163 = .ok (.istore 9, 2) := by decide +kernel
theorem dX7_mustOff_165 : decode cX7_mustOff 165 = .ok (.iload 7, 2) := by decide +kernel
theorem dX7_mustOff_167 : decode cX7_mustOff 167 = .ok (.aload_n 0, 1) := by decide +kernel
theorem dX7_mustOff_168 : decode cX7_mustOff 168 = .ok (.getfield 13, 3) := by decide +kernel
theorem dX7_mustOff_171 : decode cX7_mustOff 171 = .ok (.iload 9, 2) := by decide +kernel
theorem dX7_mustOff_173 : decode cX7_mustOff 173 = .ok (.iaload, 1) := by decide +kernel
theorem dX7_mustOff_174 : decode cX7_mustOff 174 = .ok (.aload_n 0, 1) := by decide +kernel
theorem dX7_mustOff_175 : decode cX7_mustOff 175 = .ok (.getfield 13, 3) := by decide +kernel
theorem dX7_mustOff_178 : decode cX7_mustOff 178 = .ok (.iload 5, 2) := by decide +kernel
theorem dX7_mustOff_180 : decode cX7_mustOff 180 = .ok (.iaload, 1) := by decide +kernel
theorem dX7_mustOff_181 : decode cX7_mustOff 181 = .ok (.if_icmp .ne 36, 3) := by decide +kernel
theorem dX7_mustOff_184 : decode cX7_mustOff 184 = .ok (.iload_n 3, 1) := by decide +kernel
theorem dX7_mustOff_185 : decode cX7_mustOff 185 = .ok (.iload 8, 2) := by decide +kernel
theorem dX7_mustOff_187 : decode cX7_mustOff 187 = .ok (.invokestatic 119, 3) := by decide +kernel
theorem dX7_mustOff_190 : decode cX7_mustOff 190 = .ok (.ifCond .ne 27, 3) := by decide +kernel
theorem dX7_mustOff_193 : decode cX7_mustOff 193 = .ok (.aload_n 0, 1) := by decide +kernel
theorem dX7_mustOff_194 : decode cX7_mustOff 194 = .ok (.iload_n 1, 1) := by decide +kernel
theorem dX7_mustOff_195 : decode cX7_mustOff 195 = .ok (.iload 9, 2) := by decide +kernel
theorem dX7_mustOff_197 : decode cX7_mustOff 197 = .ok (.invokevirtual 115, 3) := by decide +kernel
theorem dX7_mustOff_200 : decode cX7_mustOff 200 = .ok (.ifCond .lt 13, 3) := by decide +kernel
theorem dX7_mustOff_203 : decode cX7_mustOff 203 = .ok (.aload_n 0, 1) := by decide +kernel
theorem dX7_mustOff_204 : decode cX7_mustOff 204 = .ok (.iload_n 1, 1) := by decide +kernel
theorem dX7_mustOff_205 : decode cX7_mustOff 205 = .ok (.iload 9, 2) := by decide +kernel
theorem dX7_mustOff_207 : decode cX7_mustOff 207 = .ok (.invokevirtual 136, 3) := by decide +kernel
theorem dX7_mustOff_210 : decode cX7_mustOff 210 = .ok (.ifCond .eq 7, 3) := by decide +kernel
theorem dX7_mustOff_213 : decode cX7_mustOff 213 = .ok (.iconst 1, 1) := by decide +kernel
theorem dX7_mustOff_214 : decode cX7_mustOff 214 = .ok (.goto 4, 3) := by decide +kernel
theorem dX7_mustOff_217 : decode cX7_mustOff 217 = .ok (.iconst 0, 1) := by decide +kernel
theorem dX7_mustOff_218 : decode cX7_mustOff 218 = .ok (.ior, 1) := by decide +kernel
theorem dX7_mustOff_219 : decode cX7_mustOff 219 = .ok (.istore 7, 2) := by decide +kernel
theorem dX7_mustOff_221 : decode cX7_mustOff 221 = .ok (.iinc 8 1, 3) := by decide +kernel
theorem dX7_mustOff_224 : decode cX7_mustOff 224 = .ok (.goto (-80), 3) := by decide +kernel
theorem dX7_mustOff_227 : decode cX7_mustOff 227 = .ok (.iload 7, 2) := by decide +kernel
theorem dX7_mustOff_229 : decode cX7_mustOff 229 = .ok (.ireturn, 1) := by decide +kernel
theorem dX7_tell_0 : decode cX7_tell 0 = .ok (.aload_n 0, 1) := by decide +kernel
theorem dX7_tell_1 : decode cX7_tell 1 = .ok (.iconst 0, 1) := by decide +kernel
theorem dX7_tell_2 : decode cX7_tell 2 = .ok (.putfield 133, 3) := by decide +kernel
theorem dX7_tell_5 : decode cX7_tell 5 = .ok (.iconst 1, 1) := by decide +kernel
theorem dX7_tell_6 : decode cX7_tell 6 = .ok (.istore 4, 2) := by decide +kernel
theorem dX7_tell_8 : decode cX7_tell 8 = .ok (.iload 4, 2) := by decide +kernel
theorem dX7_tell_10 : decode cX7_tell 10 = .ok (.ifCond .eq 69, 3) := by decide +kernel
theorem dX7_tell_13 : decode cX7_tell 13 = .ok (.iconst 0, 1) := by decide +kernel
theorem dX7_tell_14 : decode cX7_tell 14 = .ok (.istore 4, 2) := by decide +kernel
theorem dX7_tell_16 : decode cX7_tell 16 = .ok (.iconst 0, 1) := by decide +kernel
theorem dX7_tell_17 : decode cX7_tell 17 = .ok (.istore 5, 2) := by decide +kernel
theorem dX7_tell_19 : decode cX7_tell 19 = .ok (.iload 5, 2) := by decide +kernel
theorem dX7_tell_21 : decode cX7_tell 21 = .ok (.aload_n 0, 1) := by decide +kernel
theorem dX7_tell_22 : decode cX7_tell 22 = .ok (.getfield 40, 3) := by decide +kernel
theorem dX7_tell_25 : decode cX7_tell 25 = .ok (.iload_n 1, 1) := by decide +kernel
theorem dX7_tell_26 : decode cX7_tell 26 = .ok (.iaload, 1) := by decide +kernel
theorem dX7_tell_27 : decode cX7_tell 27 = .ok (.if_icmp .ge 49, 3) := by decide +kernel
theorem dX7_tell_30 : decode cX7_tell 30 = .ok (.aload_n 0, 1) := by decide +kernel
theorem dX7_tell_31 : decode cX7_tell 31 = .ok (.getfield 133, 3) := by decide +kernel
theorem dX7_tell_34 : decode cX7_tell 34 = .ok (.iload 5, 2) := by decide +kernel
theorem dX7_tell_36 : decode cX7_tell 36 = .ok (.invokestatic 119, 3) := by decide +kernel
theorem dX7_tell_39 : decode cX7_tell 39 = .ok (.ifCond .ne 31, 3) := by decide +kernel
theorem dX7_tell_42 : decode cX7_tell 42 = .ok (.aload_n 0, 1) := by decide +kernel
theorem dX7_tell_43 : decode cX7_tell 43 = .ok (.iload_n 1, 1) := by decide +kernel
theorem dX7_tell_44 : decode cX7_tell 44 = .ok (.iload_n 2, 1) := by decide +kernel
theorem dX7_tell_45 : decode cX7_tell 45 = .ok (.iload_n 3, 1) := by decide +kernel
theorem dX7_tell_46 : decode cX7_tell 46 = .ok (.iload 5, 2) := by decide +kernel
theorem dX7_tell_48 : decode cX7_tell 48 = .ok (.invokevirtual 139, 3) := by decide +kernel
theorem dX7_tell_51 : decode cX7_tell 51 = .ok (.ifCond .eq 19, 3) := by decide +kernel
theorem dX7_tell_54 : decode cX7_tell 54 = .ok (.aload_n 0, 1) := by decide +kernel
theorem dX7_tell_55 : decode cX7_tell 55 = .ok (.dup, 1) := by decide +kernel
theorem dX7_tell_56 : decode cX7_tell 56 = .ok (.getfield 133, 3) := by decide +kernel
theorem dX7_tell_59 : decode cX7_tell 59 = .ok (.iconst 1, 1) := by decide +kernel
theorem dX7_tell_60 : decode cX7_tell 60 = .ok (.iload 5, 2) := by decide +kernel
theorem dX7_tell_62 : decode cX7_tell 62 = .ok (.ishl, 1) := by decide +kernel
theorem dX7_tell_63 : decode cX7_tell 63 = .ok (.ior, 1) := by decide +kernel
theorem dX7_tell_64 : decode cX7_tell 64 = .ok (.putfield 133, 3) := by decide +kernel
theorem dX7_tell_67 : decode cX7_tell 67 = .ok (.iconst 1, 1) := by decide +kernel
theorem dX7_tell_68 : decode cX7_tell 68 = .ok (.istore 4, 2) := by decide +kernel
theorem dX7_tell_70 : decode cX7_tell 70 = .ok (.iinc 5 1, 3) := by decide +kernel
theorem dX7_tell_73 : decode cX7_tell 73 = .ok (.goto (-54), 3) := by decide +kernel
theorem dX7_tell_76 : decode cX7_tell 76 = .ok (.goto (-68), 3) := by decide +kernel
theorem dX7_tell_79 : decode cX7_tell 79 = .ok (.aload_n 0, 1) := by decide +kernel
theorem dX7_tell_80 : decode cX7_tell 80 = .ok (.iconst 0, 1) := by decide +kernel
theorem dX7_tell_81 : decode cX7_tell 81 = .ok (.putfield 143, 3) := by decide +kernel
theorem dX7_tell_84 : decode cX7_tell 84 = .ok (.iconst 0, 1) := by decide +kernel
theorem dX7_tell_85 : decode cX7_tell 85 = .ok (.istore 5, 2) := by decide +kernel
theorem dX7_tell_87 : decode cX7_tell 87 = .ok (.iload 5, 2) := by decide +kernel
theorem dX7_tell_89 : decode cX7_tell 89 = .ok (.aload_n 0, 1) := by decide +kernel
theorem dX7_tell_90 : decode cX7_tell 90 = .ok (.getfield 40, 3) := by decide +kernel
theorem dX7_tell_93 : decode cX7_tell 93 = .ok (.iload_n 2, 1) := by decide +kernel
theorem dX7_tell_94 : decode cX7_tell 94 = .ok (.iaload, 1) := by decide +kernel
theorem dX7_tell_95 : decode cX7_tell 95 = .ok (.if_icmp .ge 69, 3) := by decide +kernel
theorem dX7_tell_98 : decode cX7_tell 98 = .ok (.aload_n 0, 1) := by decide +kernel
theorem dX7_tell_99 : decode cX7_tell 99 = .ok (.getfield 43, 3) := by decide +kernel
theorem dX7_tell_102 : decode cX7_tell 102 = .ok (.bipush 8, 2) := by decide +kernel
theorem dX7_tell_104 : decode cX7_tell 104 = .ok (.iload_n 2, 1) := by decide +kernel
theorem dX7_tell_105 : decode cX7_tell 105 = .ok (.imul, 1) := by decide +kernel
theorem dX7_tell_106 : decode cX7_tell 106 = .ok (.iload 5, 2) := by decide +kernel
theorem dX7_tell_108 : decode cX7_tell 108 = .ok (.iadd, 1) := by decide +kernel
theorem dX7_tell_109 : decode cX7_tell 109 = .ok (.iaload, 1) := by decide +kernel
theorem dX7_tell_110 : decode cX7_tell 110 = .ok (.istore 6, 2) := by decide +kernel
theorem dX7_tell_112 : decode cX7_tell 112 = .ok (.aload_n 0, 1) := by decide +kernel
theorem dX7_tell_113 : decode cX7_tell 113 = .ok (.dup, 1) := by decide +kernel
theorem dX7_tell_114 : decode cX7_tell 114 = .ok (.getfield 143, 3) := by decide +kernel
theorem dX7_tell_117 : decode cX7_tell 117 = .ok (.iload_n 3, 1) := by decide +kernel
theorem dX7_tell_118 : decode cX7_tell 118 = .ok (.iload 5, 2) := by decide +kernel
theorem dX7_tell_120 : decode cX7_tell 120 = .ok (.invokestatic 119, 3) := by decide +kernel
theorem dX7_tell_123 : decode cX7_tell 123 = .ok (.ifCond .ne 30, 3) := by decide +kernel
theorem dX7_tell_126 : decode cX7_tell 126 = .ok (.aload_n 0, 1) := by decide +kernel
theorem dX7_tell_127 : decode cX7_tell 127 = .ok (.iload_n 1, 1) := by decide +kernel
theorem dX7_tell_128 : decode cX7_tell 128 = .ok (.iload 6, 2) := by decide +kernel
theorem dX7_tell_130 : decode cX7_tell 130 = .ok (.invokevirtual 115, 3) := by decide +kernel
theorem dX7_tell_133 : decode cX7_tell 133 = .ok (.ifCond .lt 13, 3) := by decide +kernel
theorem dX7_tell_136 : decode cX7_tell 136 = .ok (.aload_n 0, 1) := by decide +kernel
theorem dX7_tell_137 : decode cX7_tell 137 = .ok (.iload_n 1, 1) := by decide +kernel
theorem dX7_tell_138 : decode cX7_tell 138 = .ok (.iload 6, 2) := by decide +kernel
theorem dX7_tell_140 : decode cX7_tell 140 = .ok (.invokevirtual 136, 3) := by decide +kernel
theorem dX7_tell_143 : decode cX7_tell 143 = .ok (.ifCond .eq 10, 3) := by decide +kernel
theorem dX7_tell_146 : decode cX7_tell 146 = .ok (.iconst 1, 1) := by decide +kernel
theorem dX7_tell_147 : decode cX7_tell 147 = .ok (.iload 5, 2) := by decide +kernel
theorem dX7_tell_149 : decode cX7_tell 149 = .ok (.ishl, 1) := by decide +kernel
theorem dX7_tell_150 : decode cX7_tell 150 = .ok (.goto 4, 3) := by decide +kernel
theorem dX7_tell_153 : decode cX7_tell 153 = .ok (.iconst 0, 1) := by decide +kernel
theorem dX7_tell_154 : decode cX7_tell 154 = .ok (.ior, 1) := by decide +kernel
theorem dX7_tell_155 : decode cX7_tell 155 = .ok (.putfield 143, 3) := by decide +kernel
theorem dX7_tell_158 : decode cX7_tell 158 = .ok (.iinc 5 1, 3) := by decide +kernel
theorem dX7_tell_161 : decode cX7_tell 161 = .ok (.goto (-74), 3) := by decide +kernel
theorem dX7_tell_164 : decode cX7_tell 164 = .ok (.return_, 1) := by decide +kernel
theorem dX7_countOf_0 : decode cX7_countOf 0 = .ok (.iconst 0, 1) := by decide +kernel
theorem dX7_countOf_1 : decode cX7_countOf 1 = .ok (.istore_n 1, 1) := by decide +kernel
theorem dX7_countOf_2 : decode cX7_countOf 2 = .ok (.iconst 0, 1) := by decide +kernel
theorem dX7_countOf_3 : decode cX7_countOf 3 = .ok (.istore_n 2, 1) := by decide +kernel
theorem dX7_countOf_4 : decode cX7_countOf 4 = .ok (.iload_n 2, 1) := by decide +kernel
theorem dX7_countOf_5 : decode cX7_countOf 5 = .ok (.bipush 12, 2) := by decide +kernel
theorem dX7_countOf_7 : decode cX7_countOf 7 = .ok (.if_icmp .ge 17, 3) := by decide +kernel
theorem dX7_countOf_10 : decode cX7_countOf 10 = .ok (.iload_n 1, 1) := by decide +kernel
theorem dX7_countOf_11 : decode cX7_countOf 11 = .ok (.iload_n 0, 1) := by decide +kernel
theorem dX7_countOf_12 : decode cX7_countOf 12 = .ok (.iload_n 2, 1) := by decide +kernel
theorem dX7_countOf_13 : decode cX7_countOf 13 = .ok (.ishr, 1) := by decide +kernel
theorem dX7_countOf_14 : decode cX7_countOf 14 = .ok (.iconst 1, 1) := by decide +kernel
theorem dX7_countOf_15 : decode cX7_countOf 15 = .ok (.iand, 1) := by decide +kernel
theorem dX7_countOf_16 : decode cX7_countOf 16 = .ok (.iadd, 1) := by decide +kernel
theorem dX7_countOf_17 : decode cX7_countOf 17 = .ok (.istore_n 1, 1) := by decide +kernel
theorem dX7_countOf_18 : decode cX7_countOf 18 = .ok (.iinc 2 1, 3) := by decide +kernel
theorem dX7_countOf_21 : decode cX7_countOf 21 = .ok (.goto (-17), 3) := by decide +kernel
theorem dX7_countOf_24 : decode cX7_countOf 24 = .ok (.iload_n 1, 1) := by decide +kernel
theorem dX7_countOf_25 : decode cX7_countOf 25 = .ok (.ireturn, 1) := by decide +kernel
theorem dX7_told_0 : decode cX7_told 0 = .ok (.aload_n 0, 1) := by decide +kernel
theorem dX7_told_1 : decode cX7_told 1 = .ok (.iload_n 1, 1) := by decide +kernel
theorem dX7_told_2 : decode cX7_told 2 = .ok (.iload_n 2, 1) := by decide +kernel
theorem dX7_told_3 : decode cX7_told 3 = .ok (.iload_n 3, 1) := by decide +kernel
theorem dX7_told_4 : decode cX7_told 4 = .ok (.invokevirtual 127, 3) := by decide +kernel
theorem dX7_told_7 : decode cX7_told 7 = .ok (.ifCond .eq 13, 3) := by decide +kernel
theorem dX7_told_10 : decode cX7_told 10 = .ok (.iload 4, 2) := by decide +kernel
theorem dX7_told_12 : decode cX7_told 12 = .ok (.iconst 0, 1) := by decide +kernel
theorem dX7_told_13 : decode cX7_told 13 = .ok (.iconst 3, 1) := by decide +kernel
theorem dX7_told_14 : decode cX7_told 14 = .ok (.invokestatic 100, 3) := by decide +kernel
theorem dX7_told_17 : decode cX7_told 17 = .ok (.ifCond .ne 9, 3) := by decide +kernel
theorem dX7_told_20 : decode cX7_told 20 = .ok (.aload_n 0, 1) := by decide +kernel
theorem dX7_told_21 : decode cX7_told 21 = .ok (.iconst 1, 1) := by decide +kernel
theorem dX7_told_22 : decode cX7_told 22 = .ok (.invokevirtual 104, 3) := by decide +kernel
theorem dX7_told_25 : decode cX7_told 25 = .ok (.ireturn, 1) := by decide +kernel
theorem dX7_told_26 : decode cX7_told 26 = .ok (.aload_n 0, 1) := by decide +kernel
theorem dX7_told_27 : decode cX7_told 27 = .ok (.iload_n 1, 1) := by decide +kernel
theorem dX7_told_28 : decode cX7_told 28 = .ok (.iload_n 2, 1) := by decide +kernel
theorem dX7_told_29 : decode cX7_told 29 = .ok (.iload_n 3, 1) := by decide +kernel
theorem dX7_told_30 : decode cX7_told 30 = .ok (.invokevirtual 130, 3) := by decide +kernel
theorem dX7_told_33 : decode cX7_told 33 = .ok (.ifCond .ne 9, 3) := by decide +kernel
theorem dX7_told_36 : decode cX7_told 36 = .ok (.aload_n 0, 1) := by decide +kernel
theorem dX7_told_37 : decode cX7_told 37 = .ok (.iconst 3, 1) := by decide +kernel
theorem dX7_told_38 : decode cX7_told 38 = .ok (.invokevirtual 104, 3) := by decide +kernel
theorem dX7_told_41 : decode cX7_told 41 = .ok (.ireturn, 1) := by decide +kernel
theorem dX7_told_42 : decode cX7_told 42 = .ok (.aload_n 0, 1) := by decide +kernel
theorem dX7_told_43 : decode cX7_told 43 = .ok (.iload_n 1, 1) := by decide +kernel
theorem dX7_told_44 : decode cX7_told 44 = .ok (.iload_n 2, 1) := by decide +kernel
theorem dX7_told_45 : decode cX7_told 45 = .ok (.iload_n 3, 1) := by decide +kernel
theorem dX7_told_46 : decode cX7_told 46 = .ok (.invokevirtual 146, 3) := by decide +kernel
theorem dX7_told_49 : decode cX7_told 49 = .ok (.iload 4, 2) := by decide +kernel
theorem dX7_told_51 : decode cX7_told 51 = .ok (.ifCond .ne 13, 3) := by decide +kernel
theorem dX7_told_54 : decode cX7_told 54 = .ok (.aload_n 0, 1) := by decide +kernel
theorem dX7_told_55 : decode cX7_told 55 = .ok (.getfield 133, 3) := by decide +kernel
theorem dX7_told_58 : decode cX7_told 58 = .ok (.invokestatic 150, 3) := by decide +kernel
theorem dX7_told_61 : decode cX7_told 61 = .ok (.goto 36, 3) := by decide +kernel
theorem dX7_told_64 : decode cX7_told 64 = .ok (.iload 4, 2) := by decide +kernel
theorem dX7_told_66 : decode cX7_told 66 = .ok (.iconst 1, 1) := by decide +kernel
theorem dX7_told_67 : decode cX7_told 67 = .ok (.if_icmp .ne 13, 3) := by decide +kernel
theorem dX7_told_70 : decode cX7_told 70 = .ok (.aload_n 0, 1) := by decide +kernel
theorem dX7_told_71 : decode cX7_told 71 = .ok (.getfield 143, 3) := by decide +kernel
theorem dX7_told_74 : decode cX7_told 74 = .ok (.invokestatic 150, 3) := by decide +kernel
theorem dX7_told_77 : decode cX7_told 77 = .ok (.goto 20, 3) := by decide +kernel
theorem dX7_told_80 : decode cX7_told 80 = .ok (.iload 4, 2) := by decide +kernel
theorem dX7_told_82 : decode cX7_told 82 = .ok (.iconst 2, 1) := by decide +kernel
theorem dX7_told_83 : decode cX7_told 83 = .ok (.if_icmp .ne 10, 3) := by decide +kernel
theorem dX7_told_86 : decode cX7_told 86 = .ok (.aload_n 0, 1) := by decide +kernel
theorem dX7_told_87 : decode cX7_told 87 = .ok (.getfield 133, 3) := by decide +kernel
theorem dX7_told_90 : decode cX7_told 90 = .ok (.goto 7, 3) := by decide +kernel
theorem dX7_told_93 : decode cX7_told 93 = .ok (.aload_n 0, 1) := by decide +kernel
theorem dX7_told_94 : decode cX7_told 94 = .ok (.getfield 143, 3) := by decide +kernel
theorem dX7_told_97 : decode cX7_told 97 = .ok (.ireturn, 1) := by decide +kernel
theorem dX1_sumOf_0 : decode cX1_sumOf 0 = .ok (.iconst 0, 1) := by decide +kernel
theorem dX1_sumOf_1 : decode cX1_sumOf 1 = .ok (.istore_n 3, 1) := by decide +kernel
theorem dX1_sumOf_2 : decode cX1_sumOf 2 = .ok (.iconst 0, 1) := by decide +kernel
theorem dX1_sumOf_3 : decode cX1_sumOf 3 = .ok (.istore 4, 2) := by decide +kernel
theorem dX1_sumOf_5 : decode cX1_sumOf 5 = .ok (.iload 4, 2) := by decide +kernel
theorem dX1_sumOf_7 : decode cX1_sumOf 7 = .ok (.iload_n 1, 1) := by decide +kernel
theorem dX1_sumOf_8 : decode cX1_sumOf 8 = .ok (.if_icmp .ge 32, 3) := by decide +kernel
theorem dX1_sumOf_11 : decode cX1_sumOf 11 = .ok (.iload 4, 2) := by decide +kernel
theorem dX1_sumOf_13 : decode cX1_sumOf 13 = .ok (.aload_n 0, 1) := by decide +kernel
theorem dX1_sumOf_14 : decode cX1_sumOf 14 = .ok (.arraylength, 1) := by decide +kernel
theorem dX1_sumOf_15 : decode cX1_sumOf 15 = .ok (.if_icmp .ge 25, 3) := by decide +kernel
theorem dX1_sumOf_18 : decode cX1_sumOf 18 = .ok (.iload_n 2, 1) := by decide +kernel
theorem dX1_sumOf_19 : decode cX1_sumOf 19 = .ok (.iload 4, 2) := by decide +kernel
theorem dX1_sumOf_21 : decode cX1_sumOf 21 = .ok (.invokestatic 97, 3) := by decide +kernel
theorem dX1_sumOf_24 : decode cX1_sumOf 24 = .ok (.ifCond .eq 10, 3) := by decide +kernel
theorem dX1_sumOf_27 : decode cX1_sumOf 27 = .ok (.iload_n 3, 1) := by decide +kernel
theorem dX1_sumOf_28 : decode cX1_sumOf 28 = .ok (.aload_n 0, 1) := by decide +kernel
theorem dX1_sumOf_29 : decode cX1_sumOf 29 = .ok (.iload 4, 2) := by decide +kernel
theorem dX1_sumOf_31 : decode cX1_sumOf 31 = .ok (.iaload, 1) := by decide +kernel
theorem dX1_sumOf_32 : decode cX1_sumOf 32 = .ok (.iadd, 1) := by decide +kernel
theorem dX1_sumOf_33 : decode cX1_sumOf 33 = .ok (.istore_n 3, 1) := by decide +kernel
theorem dX1_sumOf_34 : decode cX1_sumOf 34 = .ok (.iinc 4 1, 3) := by decide +kernel
theorem dX1_sumOf_37 : decode cX1_sumOf 37 = .ok (.goto (-32), 3) := by decide +kernel
theorem dX1_sumOf_40 : decode cX1_sumOf 40 = .ok (.iload_n 3, 1) := by decide +kernel
theorem dX1_sumOf_41 : decode cX1_sumOf 41 = .ok (.ireturn, 1) := by decide +kernel
theorem dX1_mostOf_0 : decode cX1_mostOf 0 = .ok (.iconst 0, 1) := by decide +kernel
theorem dX1_mostOf_1 : decode cX1_mostOf 1 = .ok (.istore_n 3, 1) := by decide +kernel
theorem dX1_mostOf_2 : decode cX1_mostOf 2 = .ok (.iconst 0, 1) := by decide +kernel
theorem dX1_mostOf_3 : decode cX1_mostOf 3 = .ok (.istore 4, 2) := by decide +kernel
theorem dX1_mostOf_5 : decode cX1_mostOf 5 = .ok (.iload 4, 2) := by decide +kernel
theorem dX1_mostOf_7 : decode cX1_mostOf 7 = .ok (.iload_n 1, 1) := by decide +kernel
theorem dX1_mostOf_8 : decode cX1_mostOf 8 = .ok (.if_icmp .ge 34, 3) := by decide +kernel
theorem dX1_mostOf_11 : decode cX1_mostOf 11 = .ok (.iload 4, 2) := by decide +kernel
theorem dX1_mostOf_13 : decode cX1_mostOf 13 = .ok (.aload_n 0, 1) := by decide +kernel
theorem dX1_mostOf_14 : decode cX1_mostOf 14 = .ok (.arraylength, 1) := by decide +kernel
theorem dX1_mostOf_15 : decode cX1_mostOf 15 = .ok (.if_icmp .ge 27, 3) := by decide +kernel
theorem dX1_mostOf_18 : decode cX1_mostOf 18 = .ok (.iload_n 2, 1) := by decide +kernel
theorem dX1_mostOf_19 : decode cX1_mostOf 19 = .ok (.iload 4, 2) := by decide +kernel
theorem dX1_mostOf_21 : decode cX1_mostOf 21 = .ok (.invokestatic 97, 3) := by decide +kernel
theorem dX1_mostOf_24 : decode cX1_mostOf 24 = .ok (.ifCond .eq 12, 3) := by decide +kernel
theorem dX1_mostOf_27 : decode cX1_mostOf 27 = .ok (.iload_n 3, 1) := by decide +kernel
theorem dX1_mostOf_28 : decode cX1_mostOf 28 = .ok (.aload_n 0, 1) := by decide +kernel
theorem dX1_mostOf_29 : decode cX1_mostOf 29 = .ok (.iload 4, 2) := by decide +kernel
theorem dX1_mostOf_31 : decode cX1_mostOf 31 = .ok (.iaload, 1) := by decide +kernel
theorem dX1_mostOf_32 : decode cX1_mostOf 32 = .ok (.invokestatic 136, 3) := by decide +kernel
theorem dX1_mostOf_35 : decode cX1_mostOf 35 = .ok (.istore_n 3, 1) := by decide +kernel
theorem dX1_mostOf_36 : decode cX1_mostOf 36 = .ok (.iinc 4 1, 3) := by decide +kernel
theorem dX1_mostOf_39 : decode cX1_mostOf 39 = .ok (.goto (-34), 3) := by decide +kernel
theorem dX1_mostOf_42 : decode cX1_mostOf 42 = .ok (.iload_n 3, 1) := by decide +kernel
theorem dX1_mostOf_43 : decode cX1_mostOf 43 = .ok (.ireturn, 1) := by decide +kernel
theorem dX1_secondsWith_0 : decode cX1_secondsWith 0 = .ok (.aload_n 0, 1) := by decide +kernel
theorem dX1_secondsWith_1 : decode cX1_secondsWith 1 = .ok (.getfield 108, 3) := by decide +kernel
theorem dX1_secondsWith_4 : decode cX1_secondsWith 4 = .ok (.aload_n 0, 1) := by decide +kernel
theorem dX1_secondsWith_5 : decode cX1_secondsWith 5 = .ok (.getfield 63, 3) := by decide +kernel
theorem dX1_secondsWith_8 : decode cX1_secondsWith 8 = .ok (.iand, 1) := by decide +kernel
theorem dX1_secondsWith_9 : decode cX1_secondsWith 9 = .ok (.ifCond .ne 15, 3) := by decide +kernel
theorem dX1_secondsWith_12 : decode cX1_secondsWith 12 = .ok (.aload_n 0, 1) := by decide +kernel
theorem dX1_secondsWith_13 : decode cX1_secondsWith 13 = .ok (.getfield 114, 3) := by decide +kernel
theorem dX1_secondsWith_16 : decode cX1_secondsWith 16 = .ok (.aload_n 0, 1) := by decide +kernel
theorem dX1_secondsWith_17 : decode cX1_secondsWith 17 = .ok (.getfield 66, 3) := by decide +kernel
theorem dX1_secondsWith_20 : decode cX1_secondsWith 20 = .ok (.iand, 1) := by decide +kernel
theorem dX1_secondsWith_21 : decode cX1_secondsWith 21 = .ok (.ifCond .eq 7, 3) := by decide +kernel
theorem dX1_secondsWith_24 : decode cX1_secondsWith 24 = .ok (.iconst 1, 1) := by decide +kernel
theorem dX1_secondsWith_25 : decode cX1_secondsWith 25 = .ok (.goto 4, 3) := by decide +kernel
theorem dX1_secondsWith_28 : decode cX1_secondsWith 28 = .ok (.iconst 0, 1) := by decide +kernel
theorem dX1_secondsWith_29 : decode cX1_secondsWith 29 = .ok (.istore_n 2, 1) := by decide +kernel
theorem dX1_secondsWith_30 : decode cX1_secondsWith 30 = .ok (.iload_n 1, 1) := by decide +kernel
theorem dX1_secondsWith_31 : decode cX1_secondsWith 31 = .ok (.iconst 0, 1) := by decide +kernel
theorem dX1_secondsWith_32 : decode cX1_secondsWith 32 = .ok (.iconst 3, 1) := by decide +kernel
theorem dX1_secondsWith_33 : decode cX1_secondsWith 33 = .ok (.invokestatic 124, 3) := by decide +kernel
theorem dX1_secondsWith_36 : decode cX1_secondsWith 36 = .ok (.ifCond .eq 11, 3) := by decide +kernel
theorem dX1_secondsWith_39 : decode cX1_secondsWith 39 = .ok (.iload_n 1, 1) := by decide +kernel
theorem dX1_secondsWith_40 : decode cX1_secondsWith 40 = .ok (.ifCond .ne 10, 3) := by decide +kernel
theorem dX1_secondsWith_43 : decode cX1_secondsWith 43 = .ok (.iload_n 2, 1) := by decide +kernel
theorem dX1_secondsWith_44 : decode cX1_secondsWith 44 = .ok (.ifCond .eq 6, 3) := by decide +kernel
theorem dX1_secondsWith_47 : decode cX1_secondsWith 47 = .ok (.ldc 128, 2) := by decide +kernel
theorem dX1_secondsWith_49 : decode cX1_secondsWith 49 = .ok (.ireturn, 1) := by decide +kernel
theorem dX1_secondsWith_50 : decode cX1_secondsWith 50 = .ok (.aload_n 0, 1) := by decide +kernel
theorem dX1_secondsWith_51 : decode cX1_secondsWith 51 = .ok (.getfield 27, 3) := by decide +kernel
theorem dX1_secondsWith_54 : decode cX1_secondsWith 54 = .ok (.aload_n 0, 1) := by decide +kernel
theorem dX1_secondsWith_55 : decode cX1_secondsWith 55 = .ok (.getfield 53, 3) := by decide +kernel
theorem dX1_secondsWith_58 : decode cX1_secondsWith 58 = .ok (.aload_n 0, 1) := by decide +kernel
theorem dX1_secondsWith_59 : decode cX1_secondsWith 59 = .ok (.getfield 108, 3) := by decide +kernel
theorem dX1_secondsWith_62 : decode cX1_secondsWith 62 = .ok (.invokestatic 129, 3) := by decide +kernel
theorem dX1_secondsWith_65 : decode cX1_secondsWith 65 = .ok (.aload_n 0, 1) := by decide +kernel
theorem dX1_secondsWith_66 : decode cX1_secondsWith 66 = .ok (.getfield 30, 3) := by decide +kernel
theorem dX1_secondsWith_69 : decode cX1_secondsWith 69 = .ok (.aload_n 0, 1) := by decide +kernel
theorem dX1_secondsWith_70 : decode cX1_secondsWith 70 = .ok (.getfield 57, 3) := by decide +kernel
theorem dX1_secondsWith_73 : decode cX1_secondsWith 73 = .ok (.aload_n 0, 1) := by decide +kernel
theorem dX1_secondsWith_74 : decode cX1_secondsWith 74 = .ok (.getfield 114, 3) := by decide +kernel
theorem dX1_secondsWith_77 : decode cX1_secondsWith 77 = .ok (.invokestatic 129, 3) := by decide +kernel
theorem dX1_secondsWith_80 : decode cX1_secondsWith 80 = .ok (.iadd, 1) := by decide +kernel
theorem dX1_secondsWith_81 : decode cX1_secondsWith 81 = .ok (.istore_n 3, 1) := by decide +kernel
theorem dX1_secondsWith_82 : decode cX1_secondsWith 82 = .ok (.aload_n 0, 1) := by decide +kernel
theorem dX1_secondsWith_83 : decode cX1_secondsWith 83 = .ok (.getfield 27, 3) := by decide +kernel
theorem dX1_secondsWith_86 : decode cX1_secondsWith 86 = .ok (.aload_n 0, 1) := by decide +kernel
theorem dX1_secondsWith_87 : decode cX1_secondsWith 87 = .ok (.getfield 53, 3) := by decide +kernel
theorem dX1_secondsWith_90 : decode cX1_secondsWith 90 = .ok (.aload_n 0, 1) := by decide +kernel
theorem dX1_secondsWith_91 : decode cX1_secondsWith 91 = .ok (.getfield 108, 3) := by decide +kernel
theorem dX1_secondsWith_94 : decode cX1_secondsWith 94 = .ok (.invokestatic 133, 3) := by decide +kernel
theorem dX1_secondsWith_97 : decode cX1_secondsWith 97 = .ok (.aload_n 0, 1) := by decide +kernel
theorem dX1_secondsWith_98 : decode cX1_secondsWith 98 = .ok (.getfield 30, 3) := by decide +kernel
theorem dX1_secondsWith_101 : decode cX1_secondsWith 101 = .ok (.aload_n 0, 1) := by decide +kernel
theorem dX1_secondsWith_102 : decode cX1_secondsWith 102 = .ok (.getfield 57, 3) := by decide +kernel
theorem dX1_secondsWith_105 : decode cX1_secondsWith 105 = .ok (.aload_n 0, 1) := by decide +kernel
theorem dX1_secondsWith_106 : decode cX1_secondsWith 106 = .ok (.getfield 114, 3) := by decide +kernel
theorem dX1_secondsWith_109 : decode cX1_secondsWith 109 = .ok (.invokestatic 133, 3) := by decide +kernel
theorem dX1_secondsWith_112 : decode cX1_secondsWith 112 = .ok (.invokestatic 136, 3) := by decide +kernel
theorem dX1_secondsWith_115 : decode cX1_secondsWith 115 = .ok (.istore 4, 2) := by decide +kernel
theorem dX1_secondsWith_117 : decode cX1_secondsWith 117 = .ok (.iload_n 3, 1) := by decide +kernel
theorem dX1_secondsWith_118 : decode cX1_secondsWith 118 = .ok (.iload_n 1, 1) := by decide +kernel
theorem dX1_secondsWith_119 : decode cX1_secondsWith 119 = .ok (.iadd, 1) := by decide +kernel
theorem dX1_secondsWith_120 : decode cX1_secondsWith 120 = .ok (.iload_n 1, 1) := by decide +kernel
theorem dX1_secondsWith_121 : decode cX1_secondsWith 121 = .ok (.iconst 1, 1) := by decide +kernel
theorem dX1_secondsWith_122 : decode cX1_secondsWith 122 = .ok (.iadd, 1) := by decide +kernel
theorem dX1_secondsWith_123 : decode cX1_secondsWith 123 = .ok (.idiv, 1) := by decide +kernel
theorem dX1_secondsWith_124 : decode cX1_secondsWith 124 = .ok (.iload 4, 2) := by decide +kernel
theorem dX1_secondsWith_126 : decode cX1_secondsWith 126 = .ok (.invokestatic 136, 3) := by decide +kernel
theorem dX1_secondsWith_129 : decode cX1_secondsWith 129 = .ok (.ireturn, 1) := by decide +kernel
theorem dX6_seconds_0 : decode cX6_seconds 0 = .ok (.aload_n 0, 1) := by decide +kernel
theorem dX6_seconds_1 : decode cX6_seconds 1 = .ok (.iload_n 1, 1) := by decide +kernel
theorem dX6_seconds_2 : decode cX6_seconds 2 = .ok (.iload_n 2, 1) := by decide +kernel
theorem dX6_seconds_3 : decode cX6_seconds 3 = .ok (.iload_n 3, 1) := by decide +kernel
theorem dX6_seconds_4 : decode cX6_seconds 4 = .ok (.invokevirtual 111, 3) := by decide +kernel
theorem dX6_seconds_7 : decode cX6_seconds 7 = .ok (.ifCond .eq 13, 3) := by decide +kernel
theorem dX6_seconds_10 : decode cX6_seconds 10 = .ok (.iload 4, 2) := by decide +kernel
theorem dX6_seconds_12 : decode cX6_seconds 12 = .ok (.iconst 0, 1) := by decide +kernel
theorem dX6_seconds_13 : decode cX6_seconds 13 = .ok (.iconst 3, 1) := by decide +kernel
theorem dX6_seconds_14 : decode cX6_seconds 14 = .ok (.invokestatic 88, 3) := by decide +kernel
theorem dX6_seconds_17 : decode cX6_seconds 17 = .ok (.ifCond .ne 9, 3) := by decide +kernel
theorem dX6_seconds_20 : decode cX6_seconds 20 = .ok (.aload_n 0, 1) := by decide +kernel
theorem dX6_seconds_21 : decode cX6_seconds 21 = .ok (.iconst 1, 1) := by decide +kernel
theorem dX6_seconds_22 : decode cX6_seconds 22 = .ok (.invokevirtual 72, 3) := by decide +kernel
theorem dX6_seconds_25 : decode cX6_seconds 25 = .ok (.ireturn, 1) := by decide +kernel
theorem dX6_seconds_26 : decode cX6_seconds 26 = .ok (.aload_n 0, 1) := by decide +kernel
theorem dX6_seconds_27 : decode cX6_seconds 27 = .ok (.iload_n 1, 1) := by decide +kernel
theorem dX6_seconds_28 : decode cX6_seconds 28 = .ok (.iload_n 2, 1) := by decide +kernel
theorem dX6_seconds_29 : decode cX6_seconds 29 = .ok (.iload_n 3, 1) := by decide +kernel
theorem dX6_seconds_30 : decode cX6_seconds 30 = .ok (.invokevirtual 114, 3) := by decide +kernel
theorem dX6_seconds_33 : decode cX6_seconds 33 = .ok (.ifCond .ne 9, 3) := by decide +kernel
theorem dX6_seconds_36 : decode cX6_seconds 36 = .ok (.aload_n 0, 1) := by decide +kernel
theorem dX6_seconds_37 : decode cX6_seconds 37 = .ok (.iconst 3, 1) := by decide +kernel
theorem dX6_seconds_38 : decode cX6_seconds 38 = .ok (.invokevirtual 72, 3) := by decide +kernel
theorem dX6_seconds_41 : decode cX6_seconds 41 = .ok (.ireturn, 1) := by decide +kernel
theorem dX6_seconds_42 : decode cX6_seconds 42 = .ok (.aload_n 0, 1) := by decide +kernel
theorem dX6_seconds_43 : decode cX6_seconds 43 = .ok (.getfield 28, 3) := by decide +kernel
theorem dX6_seconds_46 : decode cX6_seconds 46 = .ok (.iload_n 3, 1) := by decide +kernel
theorem dX6_seconds_47 : decode cX6_seconds 47 = .ok (.invokevirtual 117, 3) := by decide +kernel
theorem dX6_seconds_50 : decode cX6_seconds 50 = .ok (.aload_n 0, 1) := by decide +kernel
theorem dX6_seconds_51 : decode cX6_seconds 51 = .ok (.getfield 28, 3) := by decide +kernel
theorem dX6_seconds_54 : decode cX6_seconds 54 = .ok (.iload 4, 2) := by decide +kernel
theorem dX6_seconds_56 : decode cX6_seconds 56 = .ok (.invokevirtual 132, 3) := by decide +kernel
theorem dX6_seconds_59 : decode cX6_seconds 59 = .ok (.istore 5, 2) := by decide +kernel
theorem dX6_seconds_61 : decode cX6_seconds 61 = .ok (.iload 5, 2) := by decide +kernel
theorem dX6_seconds_63 : decode cX6_seconds 63 = .ok (.ldc 135, 2) := by decide +kernel
theorem dX6_seconds_65 : decode cX6_seconds 65 = .ok (.if_icmp .ne 11, 3) := by decide +kernel
theorem dX6_seconds_68 : decode cX6_seconds 68 = .ok (.aload_n 0, 1) := by decide +kernel
theorem dX6_seconds_69 : decode cX6_seconds 69 = .ok (.iconst 2, 1) := by decide +kernel
theorem dX6_seconds_70 : decode cX6_seconds 70 = .ok (.invokevirtual 72, 3) := by decide +kernel
theorem dX6_seconds_73 : decode cX6_seconds 73 = .ok (.goto 5, 3) := by decide +kernel
theorem dX6_seconds_76 : decode cX6_seconds 76 = .ok (.iload 5, 2) := by decide +kernel
theorem dX6_seconds_78 : decode cX6_seconds 78 = .ok (.ireturn, 1) := by decide +kernel
theorem dX7_secondsOf_0 : decode cX7_secondsOf 0 = .ok (.aload_n 0, 1) := by decide +kernel
theorem dX7_secondsOf_1 : decode cX7_secondsOf 1 = .ok (.iload_n 1, 1) := by decide +kernel
theorem dX7_secondsOf_2 : decode cX7_secondsOf 2 = .ok (.iload_n 2, 1) := by decide +kernel
theorem dX7_secondsOf_3 : decode cX7_secondsOf 3 = .ok (.iload_n 3, 1) := by decide +kernel
theorem dX7_secondsOf_4 : decode cX7_secondsOf 4 = .ok (.invokevirtual 146, 3) := by decide +kernel
theorem dX7_secondsOf_7 : decode cX7_secondsOf 7 = .ok (.iconst 0, 1) := by decide +kernel
theorem dX7_secondsOf_8 : decode cX7_secondsOf 8 = .ok (.istore 5, 2) := by decide +kernel
theorem dX7_secondsOf_10 : decode cX7_secondsOf 10 = .ok (.iconst 0, 1) := by decide +kernel
theorem dX7_secondsOf_11 : decode cX7_secondsOf 11 = .ok (.istore 6, 2) := by decide +kernel
theorem dX7_secondsOf_13 : decode cX7_secondsOf 13 = .ok (.iconst 0, 1) := by decide +kernel
theorem dX7_secondsOf_14 : decode cX7_secondsOf 14 = .ok (.istore 7, 2) := by decide +kernel
theorem dX7_secondsOf_16 : decode cX7_secondsOf 16 = .ok (.iconst 0, 1) := by decide +kernel
theorem dX7_secondsOf_17 : decode cX7_secondsOf 17 = .ok (.istore 8, 2) := by decide +kernel
theorem dX7_secondsOf_19 : decode cX7_secondsOf 19 = .ok (.iload 8, 2) := by decide +kernel
theorem dX7_secondsOf_21 : decode cX7_secondsOf 21 = .ok (.aload_n 0, 1) := by decide +kernel
theorem dX7_secondsOf_22 : decode cX7_secondsOf 22 = .ok (.getfield 40, 3) := by decide +kernel
theorem dX7_secondsOf_25 : decode cX7_secondsOf 25 = .ok (.iload_n 1, 1) := by decide +kernel
theorem dX7_secondsOf_26 : decode cX7_secondsOf 26 = .ok (.iaload, 1) := by decide +kernel
theorem dX7_secondsOf_27 : decode cX7_secondsOf 27 = .ok (.if_icmp .ge 97, 3) := by decide +kernel
theorem dX7_secondsOf_30 : decode cX7_secondsOf 30 = .ok (.aload_n 0, 1) := by decide +kernel
theorem dX7_secondsOf_31 : decode cX7_secondsOf 31 = .ok (.getfield 43, 3) := by decide +kernel
theorem dX7_secondsOf_34 : decode cX7_secondsOf 34 = .ok (.bipush 8, 2) := by decide +kernel
theorem dX7_secondsOf_36 : decode cX7_secondsOf 36 = .ok (.iload_n 1, 1) := by decide +kernel
theorem dX7_secondsOf_37 : decode cX7_secondsOf 37 = .ok (.imul, 1) := by decide +kernel
theorem dX7_secondsOf_38 : decode cX7_secondsOf 38 = .ok (.iload 8, 2) := by decide +kernel
theorem dX7_secondsOf_40 : decode cX7_secondsOf 40 = .ok (.iadd, 1) := by decide +kernel
theorem dX7_secondsOf_41 : decode cX7_secondsOf 41 = .ok (.iaload, 1) := by decide +kernel
theorem dX7_secondsOf_42 : decode cX7_secondsOf 42 = .ok (.istore 9, 2) := by decide +kernel
theorem dX7_secondsOf_44 : decode cX7_secondsOf 44 = .ok (.aload_n 0, 1) := by decide +kernel
theorem dX7_secondsOf_45 : decode cX7_secondsOf 45 = .ok (.getfield 133, 3) := by decide +kernel
theorem dX7_secondsOf_48 : decode cX7_secondsOf 48 = .ok (.iload 8, 2) := by decide +kernel
theorem dX7_secondsOf_50 : decode cX7_secondsOf 50 = .ok (.invokestatic 119, 3) := by decide +kernel
theorem dX7_secondsOf_53 : decode cX7_secondsOf 53 = .ok (.ifCond .eq 13, 3) := by decide +kernel
theorem dX7_secondsOf_56 : decode cX7_secondsOf 56 = .ok (.aload_n 0, 1) := by decide +kernel
theorem dX7_secondsOf_57 : decode cX7_secondsOf 57 = .ok (.getfield 22, 3) := by decide +kernel
theorem dX7_secondsOf_60 : decode cX7_secondsOf 60 = .ok (.iload 9, 2) := by decide +kernel
theorem dX7_secondsOf_62 : decode cX7_secondsOf 62 = .ok (.iaload, 1) := by decide +kernel
theorem dX7_secondsOf_63 : decode cX7_secondsOf 63 = .ok (.goto 4, 3) := by decide +kernel
theorem dX7_secondsOf_66 : decode cX7_secondsOf 66 = .ok (.iconst 0, 1) := by decide +kernel
theorem dX7_secondsOf_67 : decode cX7_secondsOf 67 = .ok (.istore 10, 2) := by decide +kernel
theorem dX7_secondsOf_69 : decode cX7_secondsOf 69 = .ok (.iload 5, 2) := by decide +kernel
theorem dX7_secondsOf_71 : decode cX7_secondsOf 71 = .ok (.iload 10, 2) := by decide +kernel
theorem dX7_secondsOf_73 : decode cX7_secondsOf 73 = .ok (.iadd, 1) := by decide +kernel
theorem dX7_secondsOf_74 : decode cX7_secondsOf 74 = .ok (.istore 5, 2) := by decide +kernel
theorem dX7_secondsOf_76 : decode cX7_secondsOf 76 = .ok (.iload 10, 2) := by decide +kernel
theorem dX7_secondsOf_78 : decode cX7_secondsOf 78 = .ok (.iload 6, 2) := by decide +kernel
theorem dX7_secondsOf_80 : decode cX7_secondsOf 80 = .ok (.if_icmp .le 8, 3) := by decide +kernel
theorem dX7_secondsOf_83 : decode cX7_secondsOf 83 = .ok (.iload 10, 2) := by decide +kernel
theorem dX7_secondsOf_85 : decode cX7_secondsOf 85 = .ok (.goto 5, 3) := by decide +kernel
theorem dX7_secondsOf_88 : decode cX7_secondsOf 88 = .ok (.iload 6, 2) := by decide +kernel
theorem dX7_secondsOf_90 : decode cX7_secondsOf 90 = .ok (.istore 6, 2) := by decide +kernel
theorem dX7_secondsOf_92 : decode cX7_secondsOf 92 = .ok (.iload 7, 2) := by decide +kernel
theorem dX7_secondsOf_94 : decode cX7_secondsOf 94 = .ok (.iload 10, 2) := by decide +kernel
theorem dX7_secondsOf_96 : decode cX7_secondsOf 96 = .ok (.ifCond .le 18, 3) := by decide +kernel
theorem dX7_secondsOf_99 : decode cX7_secondsOf 99 = .ok (.aload_n 0, 1) := by decide +kernel
theorem dX7_secondsOf_100 : decode cX7_secondsOf 100 = .ok (.getfield 7, 3) := by decide +kernel
theorem dX7_secondsOf_103 : decode cX7_secondsOf 103 = .ok (.iload 9, 2) := by decide +kernel
theorem dX7_secondsOf_105 : decode cX7_secondsOf 105 = .ok (.iaload, 1) := by decide +kernel
theorem dX7_secondsOf_106 : decode cX7_secondsOf 106 = .ok (.iconst 1, 1) := by decide +kernel
theorem dX7_secondsOf_107 : decode cX7_secondsOf 107 = .ok (.if_icmp .ne 7, 3) := by decide +kernel
theorem dX7_secondsOf_110 : decode cX7_secondsOf 110 = .ok (.iconst 1, 1) := by decide +kernel
theorem dX7_secondsOf_111 : decode cX7_secondsOf 111 = .ok (.goto 4, 3) := by decide +kernel
theorem dX7_secondsOf_114 : decode cX7_secondsOf 114 = .ok (.iconst 0, 1) := by decide +kernel
theorem dX7_secondsOf_115 : decode cX7_secondsOf 115 = .ok (.ior, 1) := by decide +kernel
theorem dX7_secondsOf_116 : decode cX7_secondsOf 116 = .ok (.istore 7, 2) := by decide +kernel
theorem dX7_secondsOf_118 : decode cX7_secondsOf 118 = .ok (.iinc 8 1, 3) := by decide +kernel
theorem dX7_secondsOf_121 : decode cX7_secondsOf 121 = .ok (.goto (-102), 3) := by decide +kernel
theorem dX7_secondsOf_124 : decode cX7_secondsOf 124 = .ok (.iconst 0, 1) := by decide +kernel
theorem dX7_secondsOf_125 : decode cX7_secondsOf 125 = .ok (.istore 8, 2) := by decide +kernel
theorem dX7_secondsOf_127 : decode cX7_secondsOf 127 = .ok (.iload 8, 2) := by decide +kernel
theorem dX7_secondsOf_129 : decode cX7_secondsOf 129 = .ok (.aload_n 0, 1) := by decide +kernel
theorem dX7_secondsOf_130 : decode cX7_secondsOf 130 = .ok (.getfield 40, 3) := by decide +kernel
theorem dX7_secondsOf_133 : decode cX7_secondsOf 133 = .ok (.iload_n 2, 1) := by decide +kernel
theorem dX7_secondsOf_134 : decode cX7_secondsOf 134 = .ok (.iaload, 1) := by decide +kernel
theorem dX7_secondsOf_135 : decode cX7_secondsOf 135 = .ok (.if_icmp .ge 97, 3) := by decide +kernel
theorem dX7_secondsOf_138 : decode cX7_secondsOf 138 = .ok (.aload_n 0, 1) := by decide +kernel
theorem dX7_secondsOf_139 : decode cX7_secondsOf 139 = .ok (.getfield 43, 3) := by decide +kernel
theorem dX7_secondsOf_142 : decode cX7_secondsOf 142 = .ok (.bipush 8, 2) := by decide +kernel
theorem dX7_secondsOf_144 : decode cX7_secondsOf 144 = .ok (.iload_n 2, 1) := by decide +kernel
theorem dX7_secondsOf_145 : decode cX7_secondsOf 145 = .ok (.imul, 1) := by decide +kernel
theorem dX7_secondsOf_146 : decode cX7_secondsOf 146 = .ok (.iload 8, 2) := by decide +kernel
theorem dX7_secondsOf_148 : decode cX7_secondsOf 148 = .ok (.iadd, 1) := by decide +kernel
theorem dX7_secondsOf_149 : decode cX7_secondsOf 149 = .ok (.iaload, 1) := by decide +kernel
theorem dX7_secondsOf_150 : decode cX7_secondsOf 150 = .ok (.istore 9, 2) := by decide +kernel
theorem dX7_secondsOf_152 : decode cX7_secondsOf 152 = .ok (.aload_n 0, 1) := by decide +kernel
theorem dX7_secondsOf_153 : decode cX7_secondsOf 153 = .ok (.getfield 143, 3) := by decide +kernel
theorem dX7_secondsOf_156 : decode cX7_secondsOf 156 = .ok (.iload 8, 2) := by decide +kernel
theorem dX7_secondsOf_158 : decode cX7_secondsOf 158 = .ok (.invokestatic 119, 3) := by decide +kernel
theorem dX7_secondsOf_161 : decode cX7_secondsOf 161 = .ok (.ifCond .eq 13, 3) := by decide +kernel
theorem dX7_secondsOf_164 : decode cX7_secondsOf 164 = .ok (.aload_n 0, 1) := by decide +kernel
theorem dX7_secondsOf_165 : decode cX7_secondsOf 165 = .ok (.getfield 19, 3) := by decide +kernel
theorem dX7_secondsOf_168 : decode cX7_secondsOf 168 = .ok (.iload 9, 2) := by decide +kernel
theorem dX7_secondsOf_170 : decode cX7_secondsOf 170 = .ok (.iaload, 1) := by decide +kernel
theorem dX7_secondsOf_171 : decode cX7_secondsOf 171 = .ok (.goto 4, 3) := by decide +kernel
theorem dX7_secondsOf_174 : decode cX7_secondsOf 174 = .ok (.iconst 0, 1) := by decide +kernel
theorem dX7_secondsOf_175 : decode cX7_secondsOf 175 = .ok (.istore 10, 2) := by decide +kernel
theorem dX7_secondsOf_177 : decode cX7_secondsOf 177 = .ok (.iload 5, 2) := by decide +kernel
theorem dX7_secondsOf_179 : decode cX7_secondsOf 179 = .ok (.iload 10, 2) := by decide +kernel
theorem dX7_secondsOf_181 : decode cX7_secondsOf 181 = .ok (.iadd, 1) := by decide +kernel
theorem dX7_secondsOf_182 : decode cX7_secondsOf 182 = .ok (.istore 5, 2) := by decide +kernel
theorem dX7_secondsOf_184 : decode cX7_secondsOf 184 = .ok (.iload 10, 2) := by decide +kernel
theorem dX7_secondsOf_186 : decode cX7_secondsOf 186 = .ok (.iload 6, 2) := by decide +kernel
theorem dX7_secondsOf_188 : decode cX7_secondsOf 188 = .ok (.if_icmp .le 8, 3) := by decide +kernel
theorem dX7_secondsOf_191 : decode cX7_secondsOf 191 = .ok (.iload 10, 2) := by decide +kernel
theorem dX7_secondsOf_193 : decode cX7_secondsOf 193 = .ok (.goto 5, 3) := by decide +kernel
theorem dX7_secondsOf_196 : decode cX7_secondsOf 196 = .ok (.iload 6, 2) := by decide +kernel
theorem dX7_secondsOf_198 : decode cX7_secondsOf 198 = .ok (.istore 6, 2) := by decide +kernel
theorem dX7_secondsOf_200 : decode cX7_secondsOf 200 = .ok (.iload 7, 2) := by decide +kernel
theorem dX7_secondsOf_202 : decode cX7_secondsOf 202 = .ok (.iload 10, 2) := by decide +kernel
theorem dX7_secondsOf_204 : decode cX7_secondsOf 204 = .ok (.ifCond .le 18, 3) := by decide +kernel
theorem dX7_secondsOf_207 : decode cX7_secondsOf 207 = .ok (.aload_n 0, 1) := by decide +kernel
theorem dX7_secondsOf_208 : decode cX7_secondsOf 208 = .ok (.getfield 7, 3) := by decide +kernel
theorem dX7_secondsOf_211 : decode cX7_secondsOf 211 = .ok (.iload 9, 2) := by decide +kernel
theorem dX7_secondsOf_213 : decode cX7_secondsOf 213 = .ok (.iaload, 1) := by decide +kernel
theorem dX7_secondsOf_214 : decode cX7_secondsOf 214 = .ok (.iconst 1, 1) := by decide +kernel
theorem dX7_secondsOf_215 : decode cX7_secondsOf 215 = .ok (.if_icmp .ne 7, 3) := by decide +kernel
theorem dX7_secondsOf_218 : decode cX7_secondsOf 218 = .ok (.iconst 1, 1) := by decide +kernel
theorem dX7_secondsOf_219 : decode cX7_secondsOf 219 = .ok (.goto 4, 3) := by decide +kernel
theorem dX7_secondsOf_222 : decode cX7_secondsOf 222 = .ok (.iconst 0, 1) := by decide +kernel
theorem dX7_secondsOf_223 : decode cX7_secondsOf 223 = .ok (.ior, 1) := by decide +kernel
theorem dX7_secondsOf_224 : decode cX7_secondsOf 224 = .ok (.istore 7, 2) := by decide +kernel
theorem dX7_secondsOf_226 : decode cX7_secondsOf 226 = .ok (.iinc 8 1, 3) := by decide +kernel
theorem dX7_secondsOf_229 : decode cX7_secondsOf 229 = .ok (.goto (-102), 3) := by decide +kernel
theorem dX7_secondsOf_232 : decode cX7_secondsOf 232 = .ok (.iload 5, 2) := by decide +kernel
theorem dX7_secondsOf_234 : decode cX7_secondsOf 234 = .ok (.iload 4, 2) := by decide +kernel
theorem dX7_secondsOf_236 : decode cX7_secondsOf 236 = .ok (.iadd, 1) := by decide +kernel
theorem dX7_secondsOf_237 : decode cX7_secondsOf 237 = .ok (.iload 4, 2) := by decide +kernel
theorem dX7_secondsOf_239 : decode cX7_secondsOf 239 = .ok (.iconst 1, 1) := by decide +kernel
theorem dX7_secondsOf_240 : decode cX7_secondsOf 240 = .ok (.iadd, 1) := by decide +kernel
theorem dX7_secondsOf_241 : decode cX7_secondsOf 241 = .ok (.idiv, 1) := by decide +kernel
theorem dX7_secondsOf_242 : decode cX7_secondsOf 242 = .ok (.istore 8, 2) := by decide +kernel
theorem dX7_secondsOf_244 : decode cX7_secondsOf 244 = .ok (.iload 4, 2) := by decide +kernel
theorem dX7_secondsOf_246 : decode cX7_secondsOf 246 = .ok (.ifCond .ne 12, 3) := by decide +kernel
theorem dX7_secondsOf_249 : decode cX7_secondsOf 249 = .ok (.iload 7, 2) := by decide +kernel
theorem dX7_secondsOf_251 : decode cX7_secondsOf 251 = .ok (.ifCond .eq 7, 3) := by decide +kernel
theorem dX7_secondsOf_254 : decode cX7_secondsOf 254 = .ok (.iconst (-1), 1) := by decide +kernel
theorem dX7_secondsOf_255 : decode cX7_secondsOf 255 = .ok (.goto 17, 3) := by decide +kernel
theorem dX7_secondsOf_258 : decode cX7_secondsOf 258 = .ok (.iload 8, 2) := by decide +kernel
theorem dX7_secondsOf_260 : decode cX7_secondsOf 260 = .ok (.iload 6, 2) := by decide +kernel
theorem dX7_secondsOf_262 : decode cX7_secondsOf 262 = .ok (.if_icmp .le 8, 3) := by decide +kernel
theorem dX7_secondsOf_265 : decode cX7_secondsOf 265 = .ok (.iload 8, 2) := by decide +kernel
theorem dX7_secondsOf_267 : decode cX7_secondsOf 267 = .ok (.goto 5, 3) := by decide +kernel
theorem dX7_secondsOf_270 : decode cX7_secondsOf 270 = .ok (.iload 6, 2) := by decide +kernel
theorem dX7_secondsOf_272 : decode cX7_secondsOf 272 = .ok (.ireturn, 1) := by decide +kernel
theorem dX7_seconds_0 : decode cX7_seconds 0 = .ok (.aload_n 0, 1) := by decide +kernel
theorem dX7_seconds_1 : decode cX7_seconds 1 = .ok (.iload_n 1, 1) := by decide +kernel
theorem dX7_seconds_2 : decode cX7_seconds 2 = .ok (.iload_n 2, 1) := by decide +kernel
theorem dX7_seconds_3 : decode cX7_seconds 3 = .ok (.iload_n 3, 1) := by decide +kernel
theorem dX7_seconds_4 : decode cX7_seconds 4 = .ok (.invokevirtual 127, 3) := by decide +kernel
theorem dX7_seconds_7 : decode cX7_seconds 7 = .ok (.ifCond .eq 13, 3) := by decide +kernel
theorem dX7_seconds_10 : decode cX7_seconds 10 = .ok (.iload 4, 2) := by decide +kernel
theorem dX7_seconds_12 : decode cX7_seconds 12 = .ok (.iconst 0, 1) := by decide +kernel
theorem dX7_seconds_13 : decode cX7_seconds 13 = .ok (.iconst 3, 1) := by decide +kernel
theorem dX7_seconds_14 : decode cX7_seconds 14 = .ok (.invokestatic 100, 3) := by decide +kernel
theorem dX7_seconds_17 : decode cX7_seconds 17 = .ok (.ifCond .ne 9, 3) := by decide +kernel
theorem dX7_seconds_20 : decode cX7_seconds 20 = .ok (.aload_n 0, 1) := by decide +kernel
theorem dX7_seconds_21 : decode cX7_seconds 21 = .ok (.iconst 1, 1) := by decide +kernel
theorem dX7_seconds_22 : decode cX7_seconds 22 = .ok (.invokevirtual 104, 3) := by decide +kernel
theorem dX7_seconds_25 : decode cX7_seconds 25 = .ok (.ireturn, 1) := by decide +kernel
theorem dX7_seconds_26 : decode cX7_seconds 26 = .ok (.aload_n 0, 1) := by decide +kernel
theorem dX7_seconds_27 : decode cX7_seconds 27 = .ok (.iload_n 1, 1) := by decide +kernel
theorem dX7_seconds_28 : decode cX7_seconds 28 = .ok (.iload_n 2, 1) := by decide +kernel
theorem dX7_seconds_29 : decode cX7_seconds 29 = .ok (.iload_n 3, 1) := by decide +kernel
theorem dX7_seconds_30 : decode cX7_seconds 30 = .ok (.invokevirtual 130, 3) := by decide +kernel
theorem dX7_seconds_33 : decode cX7_seconds 33 = .ok (.ifCond .ne 9, 3) := by decide +kernel
theorem dX7_seconds_36 : decode cX7_seconds 36 = .ok (.aload_n 0, 1) := by decide +kernel
theorem dX7_seconds_37 : decode cX7_seconds 37 = .ok (.iconst 3, 1) := by decide +kernel
theorem dX7_seconds_38 : decode cX7_seconds 38 = .ok (.invokevirtual 104, 3) := by decide +kernel
theorem dX7_seconds_41 : decode cX7_seconds 41 = .ok (.ireturn, 1) := by decide +kernel
theorem dX7_seconds_42 : decode cX7_seconds 42 = .ok (.aload_n 0, 1) := by decide +kernel
theorem dX7_seconds_43 : decode cX7_seconds 43 = .ok (.iload_n 1, 1) := by decide +kernel
theorem dX7_seconds_44 : decode cX7_seconds 44 = .ok (.iload_n 2, 1) := by decide +kernel
theorem dX7_seconds_45 : decode cX7_seconds 45 = .ok (.iload_n 3, 1) := by decide +kernel
theorem dX7_seconds_46 : decode cX7_seconds 46 = .ok (.iload 4, 2) := by decide +kernel
theorem dX7_seconds_48 : decode cX7_seconds 48 = .ok (.invokevirtual 153, 3) := by decide +kernel
theorem dX7_seconds_51 : decode cX7_seconds 51 = .ok (.istore 5, 2) := by decide +kernel
theorem dX7_seconds_53 : decode cX7_seconds 53 = .ok (.iload 5, 2) := by decide +kernel
theorem dX7_seconds_55 : decode cX7_seconds 55 = .ok (.ifCond .ge 11, 3) := by decide +kernel
theorem dX7_seconds_58 : decode cX7_seconds 58 = .ok (.aload_n 0, 1) := by decide +kernel
theorem dX7_seconds_59 : decode cX7_seconds 59 = .ok (.iconst 2, 1) := by decide +kernel
theorem dX7_seconds_60 : decode cX7_seconds 60 = .ok (.invokevirtual 104, 3) := by decide +kernel
theorem dX7_seconds_63 : decode cX7_seconds 63 = .ok (.goto 5, 3) := by decide +kernel
theorem dX7_seconds_66 : decode cX7_seconds 66 = .ok (.iload 5, 2) := by decide +kernel
theorem dX7_seconds_68 : decode cX7_seconds 68 = .ok (.ireturn, 1) := by decide +kernel
theorem dX1_keepIfBetter_0 : decode cX1_keepIfBetter 0 = .ok (.iload_n 2, 1) := by decide +kernel
theorem dX1_keepIfBetter_1 : decode cX1_keepIfBetter 1 = .ok (.aload_n 0, 1) := by decide +kernel
theorem dX1_keepIfBetter_2 : decode cX1_keepIfBetter 2 = .ok (.getfield 146, 3) := by decide +kernel
theorem dX1_keepIfBetter_5 : decode cX1_keepIfBetter 5 = .ok (.if_icmp .lt 25, 3) := by decide +kernel
theorem dX1_keepIfBetter_8 : decode cX1_keepIfBetter 8 = .ok (.iload_n 2, 1) := by decide +kernel
theorem dX1_keepIfBetter_9 : decode cX1_keepIfBetter 9 = .ok (.aload_n 0, 1) := by decide +kernel
theorem dX1_keepIfBetter_10 : decode cX1_keepIfBetter 10 = .ok (.getfield 146, 3) := by decide +kernel
theorem dX1_keepIfBetter_13 : decode cX1_keepIfBetter 13 = .ok (.if_icmp .ne 27, 3) := by decide +kernel
theorem dX1_keepIfBetter_16 : decode cX1_keepIfBetter 16 = .ok (.iload_n 1, 1) := by decide +kernel
theorem dX1_keepIfBetter_17 : decode cX1_keepIfBetter 17 = .ok (.invokestatic 162, 3) := by decide +kernel
theorem dX1_keepIfBetter_20 : decode cX1_keepIfBetter 20 = .ok (.aload_n 0, 1) := by decide +kernel
theorem dX1_keepIfBetter_21 : decode cX1_keepIfBetter 21 = .ok (.getfield 143, 3) := by decide +kernel
theorem dX1_keepIfBetter_24 : decode cX1_keepIfBetter 24 = .ok (.invokestatic 162, 3) := by decide +kernel
theorem dX1_keepIfBetter_27 : decode cX1_keepIfBetter 27 = .ok (.if_icmp .ge 13, 3) := by decide +kernel
theorem dX1_keepIfBetter_30 : decode cX1_keepIfBetter 30 = .ok (.aload_n 0, 1) := by decide +kernel
theorem dX1_keepIfBetter_31 : decode cX1_keepIfBetter 31 = .ok (.iload_n 1, 1) := by decide +kernel
theorem dX1_keepIfBetter_32 : decode cX1_keepIfBetter 32 = .ok (.putfield 143, 3) := by decide +kernel
theorem dX1_keepIfBetter_35 : decode cX1_keepIfBetter 35 = .ok (.aload_n 0, 1) := by decide +kernel
theorem dX1_keepIfBetter_36 : decode cX1_keepIfBetter 36 = .ok (.iload_n 2, 1) := by decide +kernel
theorem dX1_keepIfBetter_37 : decode cX1_keepIfBetter 37 = .ok (.putfield 146, 3) := by decide +kernel
theorem dX1_keepIfBetter_40 : decode cX1_keepIfBetter 40 = .ok (.return_, 1) := by decide +kernel
theorem dX1_findBest_0 : decode cX1_findBest 0 = .ok (.aload_n 0, 1) := by decide +kernel
theorem dX1_findBest_1 : decode cX1_findBest 1 = .ok (.iload_n 1, 1) := by decide +kernel
theorem dX1_findBest_2 : decode cX1_findBest 2 = .ok (.iload_n 2, 1) := by decide +kernel
theorem dX1_findBest_3 : decode cX1_findBest 3 = .ok (.invokevirtual 139, 3) := by decide +kernel
theorem dX1_findBest_6 : decode cX1_findBest 6 = .ok (.aload_n 0, 1) := by decide +kernel
theorem dX1_findBest_7 : decode cX1_findBest 7 = .ok (.iconst 0, 1) := by decide +kernel
theorem dX1_findBest_8 : decode cX1_findBest 8 = .ok (.putfield 143, 3) := by decide +kernel
theorem dX1_findBest_11 : decode cX1_findBest 11 = .ok (.aload_n 0, 1) := by decide +kernel
theorem dX1_findBest_12 : decode cX1_findBest 12 = .ok (.ldc 128, 2) := by decide +kernel
theorem dX1_findBest_14 : decode cX1_findBest 14 = .ok (.putfield 146, 3) := by decide +kernel
theorem dX1_findBest_17 : decode cX1_findBest 17 = .ok (.iconst 0, 1) := by decide +kernel
theorem dX1_findBest_18 : decode cX1_findBest 18 = .ok (.istore 5, 2) := by decide +kernel
theorem dX1_findBest_20 : decode cX1_findBest 20 = .ok (.iload 5, 2) := by decide +kernel
theorem dX1_findBest_22 : decode cX1_findBest 22 = .ok (.iconst 1, 1) := by decide +kernel
theorem dX1_findBest_23 : decode cX1_findBest 23 = .ok (.aload_n 0, 1) := by decide +kernel
theorem dX1_findBest_24 : decode cX1_findBest 24 = .ok (.getfield 57, 3) := by decide +kernel
theorem dX1_findBest_27 : decode cX1_findBest 27 = .ok (.ishl, 1) := by decide +kernel
theorem dX1_findBest_28 : decode cX1_findBest 28 = .ok (.if_icmp .ge 37, 3) := by decide +kernel
theorem dX1_findBest_31 : decode cX1_findBest 31 = .ok (.aload_n 0, 1) := by decide +kernel
theorem dX1_findBest_32 : decode cX1_findBest 32 = .ok (.iload 5, 2) := by decide +kernel
theorem dX1_findBest_34 : decode cX1_findBest 34 = .ok (.iload 4, 2) := by decide +kernel
theorem dX1_findBest_36 : decode cX1_findBest 36 = .ok (.invokevirtual 149, 3) := by decide +kernel
theorem dX1_findBest_39 : decode cX1_findBest 39 = .ok (.ifCond .eq 20, 3) := by decide +kernel
theorem dX1_findBest_42 : decode cX1_findBest 42 = .ok (.aload_n 0, 1) := by decide +kernel
theorem dX1_findBest_43 : decode cX1_findBest 43 = .ok (.iload 5, 2) := by decide +kernel
theorem dX1_findBest_45 : decode cX1_findBest 45 = .ok (.invokevirtual 152, 3) := by decide +kernel
theorem dX1_findBest_48 : decode cX1_findBest 48 = .ok (.aload_n 0, 1) := by decide +kernel
theorem dX1_findBest_49 : decode cX1_findBest 49 = .ok (.iload 5, 2) := by decide +kernel
theorem dX1_findBest_51 : decode cX1_findBest 51 = .ok (.aload_n 0, 1) := by decide +kernel
theorem dX1_findBest_52 : decode cX1_findBest 52 = .ok (.iload_n 3, 1) := by decide +kernel
theorem dX1_findBest_53 : decode cX1_findBest 53 = .ok (.invokevirtual 156, 3) := by decide +kernel
theorem dX1_findBest_56 : decode cX1_findBest 56 = .ok (.invokevirtual 159, 3) := by decide +kernel
theorem dX1_findBest_59 : decode cX1_findBest 59 = .ok (.iinc 5 1, 3) := by decide +kernel
theorem dX1_findBest_62 : decode cX1_findBest 62 = .ok (.goto (-42), 3) := by decide +kernel
theorem dX1_findBest_65 : decode cX1_findBest 65 = .ok (.return_, 1) := by decide +kernel
theorem dX6_best_0 : decode cX6_best 0 = .ok (.aload_n 0, 1) := by decide +kernel
theorem dX6_best_1 : decode cX6_best 1 = .ok (.iload_n 1, 1) := by decide +kernel
theorem dX6_best_2 : decode cX6_best 2 = .ok (.iload_n 2, 1) := by decide +kernel
theorem dX6_best_3 : decode cX6_best 3 = .ok (.iconst 0, 1) := by decide +kernel
theorem dX6_best_4 : decode cX6_best 4 = .ok (.invokevirtual 111, 3) := by decide +kernel
theorem dX6_best_7 : decode cX6_best 7 = .ok (.ifCond .eq 22, 3) := by decide +kernel
theorem dX6_best_10 : decode cX6_best 10 = .ok (.iload_n 3, 1) := by decide +kernel
theorem dX6_best_11 : decode cX6_best 11 = .ok (.iconst 0, 1) := by decide +kernel
theorem dX6_best_12 : decode cX6_best 12 = .ok (.iconst 3, 1) := by decide +kernel
theorem dX6_best_13 : decode cX6_best 13 = .ok (.invokestatic 88, 3) := by decide +kernel
theorem dX6_best_16 : decode cX6_best 16 = .ok (.ifCond .eq 13, 3) := by decide +kernel
theorem dX6_best_19 : decode cX6_best 19 = .ok (.iload 4, 2) := by decide +kernel
theorem dX6_best_21 : decode cX6_best 21 = .ok (.iconst 0, 1) := by decide +kernel
theorem dX6_best_22 : decode cX6_best 22 = .ok (.iconst 1, 1) := by decide +kernel
theorem dX6_best_23 : decode cX6_best 23 = .ok (.invokestatic 88, 3) := by decide +kernel
theorem dX6_best_26 : decode cX6_best 26 = .ok (.ifCond .ne 9, 3) := by decide +kernel
theorem dX6_best_29 : decode cX6_best 29 = .ok (.aload_n 0, 1) := by decide +kernel
theorem dX6_best_30 : decode cX6_best 30 = .ok (.iconst 1, 1) := by decide +kernel
theorem dX6_best_31 : decode cX6_best 31 = .ok (.invokevirtual 72, 3) := by decide +kernel
theorem dX6_best_34 : decode cX6_best 34 = .ok (.ireturn, 1) := by decide +kernel
theorem dX6_best_35 : decode cX6_best 35 = .ok (.aload_n 0, 1) := by decide +kernel
theorem dX6_best_36 : decode cX6_best 36 = .ok (.getfield 28, 3) := by decide +kernel
theorem dX6_best_39 : decode cX6_best 39 = .ok (.iload_n 1, 1) := by decide +kernel
theorem dX6_best_40 : decode cX6_best 40 = .ok (.iload_n 2, 1) := by decide +kernel
theorem dX6_best_41 : decode cX6_best 41 = .ok (.iload_n 3, 1) := by decide +kernel
theorem dX6_best_42 : decode cX6_best 42 = .ok (.aload_n 0, 1) := by decide +kernel
theorem dX6_best_43 : decode cX6_best 43 = .ok (.getfield 64, 3) := by decide +kernel
theorem dX6_best_46 : decode cX6_best 46 = .ok (.invokevirtual 136, 3) := by decide +kernel
theorem dX6_best_49 : decode cX6_best 49 = .ok (.aload_n 0, 1) := by decide +kernel
theorem dX6_best_50 : decode cX6_best 50 = .ok (.getfield 28, 3) := by decide +kernel
theorem dX6_best_53 : decode cX6_best 53 = .ok (.getfield 140, 3) := by decide +kernel
theorem dX6_best_56 : decode cX6_best 56 = .ok (.ldc 135, 2) := by decide +kernel
theorem dX6_best_58 : decode cX6_best 58 = .ok (.if_icmp .ne 9, 3) := by decide +kernel
theorem dX6_best_61 : decode cX6_best 61 = .ok (.aload_n 0, 1) := by decide +kernel
theorem dX6_best_62 : decode cX6_best 62 = .ok (.iconst 2, 1) := by decide +kernel
theorem dX6_best_63 : decode cX6_best 63 = .ok (.invokevirtual 72, 3) := by decide +kernel
theorem dX6_best_66 : decode cX6_best 66 = .ok (.ireturn, 1) := by decide +kernel
theorem dX6_best_67 : decode cX6_best 67 = .ok (.iload 4, 2) := by decide +kernel
theorem dX6_best_69 : decode cX6_best 69 = .ok (.ifCond .ne 13, 3) := by decide +kernel
theorem dX6_best_72 : decode cX6_best 72 = .ok (.aload_n 0, 1) := by decide +kernel
theorem dX6_best_73 : decode cX6_best 73 = .ok (.getfield 28, 3) := by decide +kernel
theorem dX6_best_76 : decode cX6_best 76 = .ok (.getfield 143, 3) := by decide +kernel
theorem dX6_best_79 : decode cX6_best 79 = .ok (.goto 10, 3) := by decide +kernel
theorem dX6_best_82 : decode cX6_best 82 = .ok (.aload_n 0, 1) := by decide +kernel
theorem dX6_best_83 : decode cX6_best 83 = .ok (.getfield 28, 3) := by decide +kernel
theorem dX6_best_86 : decode cX6_best 86 = .ok (.getfield 140, 3) := by decide +kernel
theorem dX6_best_89 : decode cX6_best 89 = .ok (.ireturn, 1) := by decide +kernel
theorem dX7_bestOf_0 : decode cX7_bestOf 0 = .ok (.iconst (-1), 1) := by decide +kernel
theorem dX7_bestOf_1 : decode cX7_bestOf 1 = .ok (.istore 4, 2) := by decide +kernel
theorem dX7_bestOf_3 : decode cX7_bestOf 3 = .ok (.aload_n 0, 1) := by decide +kernel
theorem dX7_bestOf_4 : decode cX7_bestOf 4 = .ok (.iconst 0, 1) := by decide +kernel
theorem dX7_bestOf_5 : decode cX7_bestOf 5 = .ok (.putfield 156, 3) := by decide +kernel
theorem dX7_bestOf_8 : decode cX7_bestOf 8 = .ok (.iconst 0, 1) := by decide +kernel
theorem dX7_bestOf_9 : decode cX7_bestOf 9 = .ok (.istore 5, 2) := by decide +kernel
theorem dX7_bestOf_11 : decode cX7_bestOf 11 = .ok (.iload 5, 2) := by decide +kernel
theorem dX7_bestOf_13 : decode cX7_bestOf 13 = .ok (.iconst 1, 1) := by decide +kernel
theorem dX7_bestOf_14 : decode cX7_bestOf 14 = .ok (.aload_n 0, 1) := by decide +kernel
theorem dX7_bestOf_15 : decode cX7_bestOf 15 = .ok (.getfield 40, 3) := by decide +kernel
theorem dX7_bestOf_18 : decode cX7_bestOf 18 = .ok (.iload_n 2, 1) := by decide +kernel
theorem dX7_bestOf_19 : decode cX7_bestOf 19 = .ok (.iaload, 1) := by decide +kernel
theorem dX7_bestOf_20 : decode cX7_bestOf 20 = .ok (.ishl, 1) := by decide +kernel
theorem dX7_bestOf_21 : decode cX7_bestOf 21 = .ok (.if_icmp .ge 84, 3) := by decide +kernel
theorem dX7_bestOf_24 : decode cX7_bestOf 24 = .ok (.aload_n 0, 1) := by decide +kernel
theorem dX7_bestOf_25 : decode cX7_bestOf 25 = .ok (.iload_n 1, 1) := by decide +kernel
theorem dX7_bestOf_26 : decode cX7_bestOf 26 = .ok (.iload_n 2, 1) := by decide +kernel
theorem dX7_bestOf_27 : decode cX7_bestOf 27 = .ok (.iload 5, 2) := by decide +kernel
theorem dX7_bestOf_29 : decode cX7_bestOf 29 = .ok (.invokevirtual 130, 3) := by decide +kernel
theorem dX7_bestOf_32 : decode cX7_bestOf 32 = .ok (.ifCond .eq 15, 3) := by decide +kernel
theorem dX7_bestOf_35 : decode cX7_bestOf 35 = .ok (.aload_n 0, 1) := by decide +kernel
theorem dX7_bestOf_36 : decode cX7_bestOf 36 = .ok (.iload_n 1, 1) := by decide +kernel
theorem dX7_bestOf_37 : decode cX7_bestOf 37 = .ok (.iload_n 2, 1) := by decide +kernel
theorem dX7_bestOf_38 : decode cX7_bestOf 38 = .ok (.iload 5, 2) := by decide +kernel
theorem dX7_bestOf_40 : decode cX7_bestOf 40 = .ok (.iload_n 3, 1) := by decide +kernel
theorem dX7_bestOf_41 : decode cX7_bestOf 41 = .ok (.invokevirtual 153, 3) := by decide +kernel
theorem dX7_bestOf_44 : decode cX7_bestOf 44 = .ok (.goto 4, 3) := by decide +kernel
theorem dX7_bestOf_47 : decode cX7_bestOf 47 = .ok (.iconst (-1), 1) := by decide +kernel
theorem dX7_bestOf_48 : decode cX7_bestOf 48 = .ok (.istore 6, 2) := by decide +kernel
theorem dX7_bestOf_50 : decode cX7_bestOf 50 = .ok (.iload 6, 2) := by decide +kernel
theorem dX7_bestOf_52 : decode cX7_bestOf 52 = .ok (.ifCond .lt 47, 3) := by decide +kernel
theorem dX7_bestOf_55 : decode cX7_bestOf 55 = .ok (.iload 4, 2) := by decide +kernel
theorem dX7_bestOf_57 : decode cX7_bestOf 57 = .ok (.ifCond .lt 32, 3) := by decide +kernel
theorem dX7_bestOf_60 : decode cX7_bestOf 60 = .ok (.iload 6, 2) := by decide +kernel
theorem dX7_bestOf_62 : decode cX7_bestOf 62 = .ok (.iload 4, 2) := by decide +kernel
theorem dX7_bestOf_64 : decode cX7_bestOf 64 = .ok (.if_icmp .lt 25, 3) := by decide +kernel
theorem dX7_bestOf_67 : decode cX7_bestOf 67 = .ok (.iload 6, 2) := by decide +kernel
theorem dX7_bestOf_69 : decode cX7_bestOf 69 = .ok (.iload 4, 2) := by decide +kernel
theorem dX7_bestOf_71 : decode cX7_bestOf 71 = .ok (.if_icmp .ne 28, 3) := by decide +kernel
theorem dX7_bestOf_74 : decode cX7_bestOf 74 = .ok (.iload 5, 2) := by decide +kernel
theorem dX7_bestOf_76 : decode cX7_bestOf 76 = .ok (.invokestatic 150, 3) := by decide +kernel
theorem dX7_bestOf_79 : decode cX7_bestOf 79 = .ok (.aload_n 0, 1) := by decide +kernel
theorem dX7_bestOf_80 : decode cX7_bestOf 80 = .ok (.getfield 156, 3) := by decide +kernel
theorem dX7_bestOf_83 : decode cX7_bestOf 83 = .ok (.invokestatic 150, 3) := by decide +kernel
theorem dX7_bestOf_86 : decode cX7_bestOf 86 = .ok (.if_icmp .ge 13, 3) := by decide +kernel
theorem dX7_bestOf_89 : decode cX7_bestOf 89 = .ok (.iload 6, 2) := by decide +kernel
theorem dX7_bestOf_91 : decode cX7_bestOf 91 = .ok (.istore 4, 2) := by decide +kernel
theorem dX7_bestOf_93 : decode cX7_bestOf 93 = .ok (.aload_n 0, 1) := by decide +kernel
theorem dX7_bestOf_94 : decode cX7_bestOf 94 = .ok (.iload 5, 2) := by decide +kernel
theorem dX7_bestOf_96 : decode cX7_bestOf 96 = .ok (.putfield 156, 3) := by decide +kernel
theorem dX7_bestOf_99 : decode cX7_bestOf 99 = .ok (.iinc 5 1, 3) := by decide +kernel
theorem dX7_bestOf_102 : decode cX7_bestOf 102 = .ok (.goto (-91), 3) := by decide +kernel
theorem dX7_bestOf_105 : decode cX7_bestOf 105 = .ok (.iload 4, 2) := by decide +kernel
theorem dX7_bestOf_107 : decode cX7_bestOf 107 = .ok (.ireturn, 1) := by decide +kernel
theorem dX7_best_0 : decode cX7_best 0 = .ok (.iload_n 1, 1) := by decide +kernel
theorem dX7_best_1 : decode cX7_best 1 = .ok (.invokestatic 112, 3) := by decide +kernel
theorem dX7_best_4 : decode cX7_best 4 = .ok (.ifCond .eq 29, 3) := by decide +kernel
theorem dX7_best_7 : decode cX7_best 7 = .ok (.iload_n 2, 1) := by decide +kernel
theorem dX7_best_8 : decode cX7_best 8 = .ok (.invokestatic 112, 3) := by decide +kernel
theorem dX7_best_11 : decode cX7_best 11 = .ok (.ifCond .eq 22, 3) := by decide +kernel
theorem dX7_best_14 : decode cX7_best 14 = .ok (.iload_n 3, 1) := by decide +kernel
theorem dX7_best_15 : decode cX7_best 15 = .ok (.iconst 0, 1) := by decide +kernel
theorem dX7_best_16 : decode cX7_best 16 = .ok (.iconst 3, 1) := by decide +kernel
theorem dX7_best_17 : decode cX7_best 17 = .ok (.invokestatic 100, 3) := by decide +kernel
theorem dX7_best_20 : decode cX7_best 20 = .ok (.ifCond .eq 13, 3) := by decide +kernel
theorem dX7_best_23 : decode cX7_best 23 = .ok (.iload 4, 2) := by decide +kernel
theorem dX7_best_25 : decode cX7_best 25 = .ok (.iconst 0, 1) := by decide +kernel
theorem dX7_best_26 : decode cX7_best 26 = .ok (.iconst 1, 1) := by decide +kernel
theorem dX7_best_27 : decode cX7_best 27 = .ok (.invokestatic 100, 3) := by decide +kernel
theorem dX7_best_30 : decode cX7_best 30 = .ok (.ifCond .ne 9, 3) := by decide +kernel
theorem dX7_best_33 : decode cX7_best 33 = .ok (.aload_n 0, 1) := by decide +kernel
theorem dX7_best_34 : decode cX7_best 34 = .ok (.iconst 1, 1) := by decide +kernel
theorem dX7_best_35 : decode cX7_best 35 = .ok (.invokevirtual 104, 3) := by decide +kernel
theorem dX7_best_38 : decode cX7_best 38 = .ok (.ireturn, 1) := by decide +kernel
theorem dX7_best_39 : decode cX7_best 39 = .ok (.aload_n 0, 1) := by decide +kernel
theorem dX7_best_40 : decode cX7_best 40 = .ok (.iload_n 1, 1) := by decide +kernel
theorem dX7_best_41 : decode cX7_best 41 = .ok (.iload_n 2, 1) := by decide +kernel
theorem dX7_best_42 : decode cX7_best 42 = .ok (.iload_n 3, 1) := by decide +kernel
theorem dX7_best_43 : decode cX7_best 43 = .ok (.invokevirtual 159, 3) := by decide +kernel
theorem dX7_best_46 : decode cX7_best 46 = .ok (.istore 5, 2) := by decide +kernel
theorem dX7_best_48 : decode cX7_best 48 = .ok (.iload 5, 2) := by decide +kernel
theorem dX7_best_50 : decode cX7_best 50 = .ok (.ifCond .ge 11, 3) := by decide +kernel
theorem dX7_best_53 : decode cX7_best 53 = .ok (.aload_n 0, 1) := by decide +kernel
theorem dX7_best_54 : decode cX7_best 54 = .ok (.iconst 2, 1) := by decide +kernel
theorem dX7_best_55 : decode cX7_best 55 = .ok (.invokevirtual 104, 3) := by decide +kernel
theorem dX7_best_58 : decode cX7_best 58 = .ok (.goto 17, 3) := by decide +kernel
theorem dX7_best_61 : decode cX7_best 61 = .ok (.iload 4, 2) := by decide +kernel
theorem dX7_best_63 : decode cX7_best 63 = .ok (.ifCond .ne 10, 3) := by decide +kernel
theorem dX7_best_66 : decode cX7_best 66 = .ok (.aload_n 0, 1) := by decide +kernel
theorem dX7_best_67 : decode cX7_best 67 = .ok (.getfield 156, 3) := by decide +kernel
theorem dX7_best_70 : decode cX7_best 70 = .ok (.goto 5, 3) := by decide +kernel
theorem dX7_best_73 : decode cX7_best 73 = .ok (.iload 5, 2) := by decide +kernel
theorem dX7_best_75 : decode cX7_best 75 = .ok (.ireturn, 1) := by decide +kernel
theorem dX6_beforeIn_0 : decode cX6_beforeIn 0 = .ok (.iload_n 0, 1) := by decide +kernel
theorem dX6_beforeIn_1 : decode cX6_beforeIn 1 = .ok (.sipush 1000, 3) := by decide +kernel
theorem dX6_beforeIn_4 : decode cX6_beforeIn 4 = .ok (.idiv, 1) := by decide +kernel
theorem dX6_beforeIn_5 : decode cX6_beforeIn 5 = .ok (.ireturn, 1) := by decide +kernel
theorem dX6_afterIn_0 : decode cX6_afterIn 0 = .ok (.iload_n 0, 1) := by decide +kernel
theorem dX6_afterIn_1 : decode cX6_afterIn 1 = .ok (.bipush 10, 2) := by decide +kernel
theorem dX6_afterIn_3 : decode cX6_afterIn 3 = .ok (.idiv, 1) := by decide +kernel
theorem dX6_afterIn_4 : decode cX6_afterIn 4 = .ok (.bipush 100, 2) := by decide +kernel
theorem dX6_afterIn_6 : decode cX6_afterIn 6 = .ok (.irem, 1) := by decide +kernel
theorem dX6_afterIn_7 : decode cX6_afterIn 7 = .ok (.ireturn, 1) := by decide +kernel
theorem dX6_doorIn_0 : decode cX6_doorIn 0 = .ok (.iload_n 0, 1) := by decide +kernel
theorem dX6_doorIn_1 : decode cX6_doorIn 1 = .ok (.bipush 10, 2) := by decide +kernel
theorem dX6_doorIn_3 : decode cX6_doorIn 3 = .ok (.irem, 1) := by decide +kernel
theorem dX6_doorIn_4 : decode cX6_doorIn 4 = .ok (.ireturn, 1) := by decide +kernel
theorem dX6_isShiftTold_0 : decode cX6_isShiftTold 0 = .ok (.iload_n 0, 1) := by decide +kernel
theorem dX6_isShiftTold_1 : decode cX6_isShiftTold 1 = .ok (.ifCond .lt 45, 3) := by decide +kernel
theorem dX6_isShiftTold_4 : decode cX6_isShiftTold 4 = .ok (.iload_n 0, 1) := by decide +kernel
theorem dX6_isShiftTold_5 : decode cX6_isShiftTold 5 = .ok (.invokestatic 236, 3) := by decide +kernel
theorem dX6_isShiftTold_8 : decode cX6_isShiftTold 8 = .ok (.iconst 0, 1) := by decide +kernel
theorem dX6_isShiftTold_9 : decode cX6_isShiftTold 9 = .ok (.bipush 11, 2) := by decide +kernel
theorem dX6_isShiftTold_11 : decode cX6_isShiftTold 11 = .ok (.invokestatic 88, 3) := by decide +kernel
theorem dX6_isShiftTold_14 : decode cX6_isShiftTold 14 = .ok (.ifCond .eq 32, 3) := by decide +kernel
theorem dX6_isShiftTold_17 : decode cX6_isShiftTold 17 = .ok (.iload_n 0, 1) := by decide +kernel
theorem dX6_isShiftTold_18 : decode cX6_isShiftTold 18 = .ok (.invokestatic 239, 3) := by decide +kernel
theorem dX6_isShiftTold_21 : decode cX6_isShiftTold 21 = .ok (.iconst 0, 1) := by decide +kernel
theorem dX6_isShiftTold_22 : decode cX6_isShiftTold 22 = .ok (.bipush 11, 2) := by decide +kernel
theorem dX6_isShiftTold_24 : decode cX6_isShiftTold 24 = .ok (.invokestatic 88, 3) := by decide +kernel
theorem dX6_isShiftTold_27 : decode cX6_isShiftTold 27 = .ok (.ifCond .eq 19, 3) := by decide +kernel
theorem dX6_isShiftTold_30 : decode cX6_isShiftTold 30 = .ok (.iload_n 0, 1) := by decide +kernel
theorem dX6_isShiftTold_31 : decode cX6_isShiftTold 31 = .ok (.invokestatic 242, 3) := by decide +kernel
theorem dX6_isShiftTold_34 : decode cX6_isShiftTold 34 = .ok (.iconst 0, 1) := by decide +kernel
theorem dX6_isShiftTold_35 : decode cX6_isShiftTold 35 = .ok (.iconst 5, 1) := by decide +kernel
theorem dX6_isShiftTold_36 : decode cX6_isShiftTold 36 = .ok (.invokestatic 88, 3) := by decide +kernel
theorem dX6_isShiftTold_39 : decode cX6_isShiftTold 39 = .ok (.ifCond .eq 7, 3) := by decide +kernel
theorem dX6_isShiftTold_42 : decode cX6_isShiftTold 42 = .ok (.iconst 1, 1) := by decide +kernel
theorem dX6_isShiftTold_43 : decode cX6_isShiftTold 43 = .ok (.goto 4, 3) := by decide +kernel
theorem dX6_isShiftTold_46 : decode cX6_isShiftTold 46 = .ok (.iconst 0, 1) := by decide +kernel
theorem dX6_isShiftTold_47 : decode cX6_isShiftTold 47 = .ok (.ireturn, 1) := by decide +kernel
theorem dX4_isFull_0 : decode cX4_isFull 0 = .ok (.aload_n 0, 1) := by decide +kernel
theorem dX4_isFull_1 : decode cX4_isFull 1 = .ok (.getfield 27, 3) := by decide +kernel
theorem dX4_isFull_4 : decode cX4_isFull 4 = .ok (.bipush 12, 2) := by decide +kernel
theorem dX4_isFull_6 : decode cX4_isFull 6 = .ok (.if_icmp .lt 7, 3) := by decide +kernel
theorem dX4_isFull_9 : decode cX4_isFull 9 = .ok (.iconst 1, 1) := by decide +kernel
theorem dX4_isFull_10 : decode cX4_isFull 10 = .ok (.goto 4, 3) := by decide +kernel
theorem dX4_isFull_13 : decode cX4_isFull 13 = .ok (.iconst 0, 1) := by decide +kernel
theorem dX4_isFull_14 : decode cX4_isFull 14 = .ok (.ireturn, 1) := by decide +kernel
theorem dX4_add_0 : decode cX4_add 0 = .ok (.aload_n 0, 1) := by decide +kernel
theorem dX4_add_1 : decode cX4_add 1 = .ok (.getfield 27, 3) := by decide +kernel
theorem dX4_add_4 : decode cX4_add 4 = .ok (.istore 5, 2) := by decide +kernel
theorem dX4_add_6 : decode cX4_add 6 = .ok (.iload 5, 2) := by decide +kernel
theorem dX4_add_8 : decode cX4_add 8 = .ok (.ifCond .lt 10, 3) := by decide +kernel
theorem dX4_add_11 : decode cX4_add 11 = .ok (.iload 5, 2) := by decide +kernel
theorem dX4_add_13 : decode cX4_add 13 = .ok (.bipush 12, 2) := by decide +kernel
theorem dX4_add_15 : decode cX4_add 15 = .ok (.if_icmp .lt 6, 3) := by decide +kernel
theorem dX4_add_18 : decode cX4_add 18 = .ok (.iload 5, 2) := by decide +kernel
theorem dX4_add_20 : decode cX4_add 20 = .ok (.ireturn, 1) := by decide +kernel
theorem dX4_add_21 : decode cX4_add 21 = .ok (.aload_n 0, 1) := by decide +kernel
theorem dX4_add_22 : decode cX4_add 22 = .ok (.getfield 9, 3) := by decide +kernel
theorem dX4_add_25 : decode cX4_add 25 = .ok (.iload 5, 2) := by decide +kernel
theorem dX4_add_27 : decode cX4_add 27 = .ok (.iload_n 1, 1) := by decide +kernel
theorem dX4_add_28 : decode cX4_add 28 = .ok (.iastore, 1) := by decide +kernel
theorem dX4_add_29 : decode cX4_add 29 = .ok (.aload_n 0, 1) := by decide +kernel
theorem dX4_add_30 : decode cX4_add 30 = .ok (.getfield 15, 3) := by decide +kernel
theorem dX4_add_33 : decode cX4_add 33 = .ok (.iload 5, 2) := by decide +kernel
theorem dX4_add_35 : decode cX4_add 35 = .ok (.iload_n 2, 1) := by decide +kernel
theorem dX4_add_36 : decode cX4_add 36 = .ok (.iastore, 1) := by decide +kernel
theorem dX4_add_37 : decode cX4_add 37 = .ok (.aload_n 0, 1) := by decide +kernel
theorem dX4_add_38 : decode cX4_add 38 = .ok (.getfield 18, 3) := by decide +kernel
theorem dX4_add_41 : decode cX4_add 41 = .ok (.iload 5, 2) := by decide +kernel
theorem dX4_add_43 : decode cX4_add 43 = .ok (.iload_n 3, 1) := by decide +kernel
theorem dX4_add_44 : decode cX4_add 44 = .ok (.iastore, 1) := by decide +kernel
theorem dX4_add_45 : decode cX4_add 45 = .ok (.aload_n 0, 1) := by decide +kernel
theorem dX4_add_46 : decode cX4_add 46 = .ok (.getfield 21, 3) := by decide +kernel
theorem dX4_add_49 : decode cX4_add 49 = .ok (.iload 5, 2) := by decide +kernel
theorem dX4_add_51 : decode cX4_add 51 = .ok (.iload 4, 2) := by decide +kernel
theorem dX4_add_53 : decode cX4_add 53 = .ok (.iastore, 1) := by decide +kernel
theorem dX4_add_54 : decode cX4_add 54 = .ok (.aload_n 0, 1) := by decide +kernel
theorem dX4_add_55 : decode cX4_add 55 = .ok (.dup, 1) := by decide +kernel
theorem dX4_add_56 : decode cX4_add 56 = .ok (.getfield 27, 3) := by decide +kernel
theorem dX4_add_59 : decode cX4_add 59 = .ok (.iconst 1, 1) := by decide +kernel
theorem dX4_add_60 : decode cX4_add 60 = .ok (.iadd, 1) := by decide +kernel
theorem dX4_add_61 : decode cX4_add 61 = .ok (.putfield 27, 3) := by decide +kernel
theorem dX4_add_64 : decode cX4_add 64 = .ok (.iload 5, 2) := by decide +kernel
theorem dX4_add_66 : decode cX4_add 66 = .ok (.ireturn, 1) := by decide +kernel
theorem dX6_shift_0 : decode cX6_shift 0 = .ok (.iload_n 1, 1) := by decide +kernel
theorem dX6_shift_1 : decode cX6_shift 1 = .ok (.invokestatic 146, 3) := by decide +kernel
theorem dX6_shift_4 : decode cX6_shift 4 = .ok (.ifCond .eq 40, 3) := by decide +kernel
theorem dX6_shift_7 : decode cX6_shift 7 = .ok (.iload_n 2, 1) := by decide +kernel
theorem dX6_shift_8 : decode cX6_shift 8 = .ok (.iconst 0, 1) := by decide +kernel
theorem dX6_shift_9 : decode cX6_shift 9 = .ok (.sipush 20000, 3) := by decide +kernel
theorem dX6_shift_12 : decode cX6_shift 12 = .ok (.invokestatic 88, 3) := by decide +kernel
theorem dX6_shift_15 : decode cX6_shift 15 = .ok (.ifCond .eq 29, 3) := by decide +kernel
theorem dX6_shift_18 : decode cX6_shift 18 = .ok (.iload_n 3, 1) := by decide +kernel
theorem dX6_shift_19 : decode cX6_shift 19 = .ok (.iconst 0, 1) := by decide +kernel
theorem dX6_shift_20 : decode cX6_shift 20 = .ok (.sipush 20000, 3) := by decide +kernel
theorem dX6_shift_23 : decode cX6_shift 23 = .ok (.invokestatic 88, 3) := by decide +kernel
theorem dX6_shift_26 : decode cX6_shift 26 = .ok (.ifCond .eq 18, 3) := by decide +kernel
theorem dX6_shift_29 : decode cX6_shift 29 = .ok (.iload_n 3, 1) := by decide +kernel
theorem dX6_shift_30 : decode cX6_shift 30 = .ok (.iload_n 2, 1) := by decide +kernel
theorem dX6_shift_31 : decode cX6_shift 31 = .ok (.if_icmp .le 13, 3) := by decide +kernel
theorem dX6_shift_34 : decode cX6_shift 34 = .ok (.iload 4, 2) := by decide +kernel
theorem dX6_shift_36 : decode cX6_shift 36 = .ok (.iconst 0, 1) := by decide +kernel
theorem dX6_shift_37 : decode cX6_shift 37 = .ok (.iconst 3, 1) := by decide +kernel
theorem dX6_shift_38 : decode cX6_shift 38 = .ok (.invokestatic 88, 3) := by decide +kernel
theorem dX6_shift_41 : decode cX6_shift 41 = .ok (.ifCond .ne 9, 3) := by decide +kernel
theorem dX6_shift_44 : decode cX6_shift 44 = .ok (.aload_n 0, 1) := by decide +kernel
theorem dX6_shift_45 : decode cX6_shift 45 = .ok (.iconst 1, 1) := by decide +kernel
theorem dX6_shift_46 : decode cX6_shift 46 = .ok (.invokevirtual 72, 3) := by decide +kernel
theorem dX6_shift_49 : decode cX6_shift 49 = .ok (.ireturn, 1) := by decide +kernel
theorem dX6_shift_50 : decode cX6_shift 50 = .ok (.aload_n 0, 1) := by decide +kernel
theorem dX6_shift_51 : decode cX6_shift 51 = .ok (.getfield 35, 3) := by decide +kernel
theorem dX6_shift_54 : decode cX6_shift 54 = .ok (.invokevirtual 149, 3) := by decide +kernel
theorem dX6_shift_57 : decode cX6_shift 57 = .ok (.ifCond .eq 9, 3) := by decide +kernel
theorem dX6_shift_60 : decode cX6_shift 60 = .ok (.aload_n 0, 1) := by decide +kernel
theorem dX6_shift_61 : decode cX6_shift 61 = .ok (.iconst 4, 1) := by decide +kernel
theorem dX6_shift_62 : decode cX6_shift 62 = .ok (.invokevirtual 72, 3) := by decide +kernel
theorem dX6_shift_65 : decode cX6_shift 65 = .ok (.ireturn, 1) := by decide +kernel
theorem dX6_shift_66 : decode cX6_shift 66 = .ok (.aload_n 0, 1) := by decide +kernel
theorem dX6_shift_67 : decode cX6_shift 67 = .ok (.getfield 35, 3) := by decide +kernel
theorem dX6_shift_70 : decode cX6_shift 70 = .ok (.iload_n 1, 1) := by decide +kernel
theorem dX6_shift_71 : decode cX6_shift 71 = .ok (.iload_n 2, 1) := by decide +kernel
theorem dX6_shift_72 : decode cX6_shift 72 = .ok (.iload_n 3, 1) := by decide +kernel
theorem dX6_shift_73 : decode cX6_shift 73 = .ok (.iload 4, 2) := by decide +kernel
theorem dX6_shift_75 : decode cX6_shift 75 = .ok (.invokevirtual 150, 3) := by decide +kernel
theorem dX6_shift_78 : decode cX6_shift 78 = .ok (.ireturn, 1) := by decide +kernel
theorem dX7_isDoor_0 : decode cX7_isDoor 0 = .ok (.iload_n 0, 1) := by decide +kernel
theorem dX7_isDoor_1 : decode cX7_isDoor 1 = .ok (.iconst 0, 1) := by decide +kernel
theorem dX7_isDoor_2 : decode cX7_isDoor 2 = .ok (.iconst 5, 1) := by decide +kernel
theorem dX7_isDoor_3 : decode cX7_isDoor 3 = .ok (.invokestatic 100, 3) := by decide +kernel
theorem dX7_isDoor_6 : decode cX7_isDoor 6 = .ok (.ireturn, 1) := by decide +kernel
theorem dX7_shift_0 : decode cX7_shift 0 = .ok (.iload_n 1, 1) := by decide +kernel
theorem dX7_shift_1 : decode cX7_shift 1 = .ok (.ifCond .lt 78, 3) := by decide +kernel
theorem dX7_shift_4 : decode cX7_shift 4 = .ok (.iload_n 1, 1) := by decide +kernel
theorem dX7_shift_5 : decode cX7_shift 5 = .ok (.sipush 1000, 3) := by decide +kernel
theorem dX7_shift_8 : decode cX7_shift 8 = .ok (.idiv, 1) := by decide +kernel
theorem dX7_shift_9 : decode cX7_shift 9 = .ok (.invokestatic 112, 3) := by decide +kernel
theorem dX7_shift_12 : decode cX7_shift 12 = .ok (.ifCond .eq 67, 3) := by decide +kernel
theorem dX7_shift_15 : decode cX7_shift 15 = .ok (.iload_n 1, 1) := by decide +kernel
theorem dX7_shift_16 : decode cX7_shift 16 = .ok (.bipush 10, 2) := by decide +kernel
theorem dX7_shift_18 : decode cX7_shift 18 = .ok (.idiv, 1) := by decide +kernel
theorem dX7_shift_19 : decode cX7_shift 19 = .ok (.bipush 100, 2) := by decide +kernel
theorem dX7_shift_21 : decode cX7_shift 21 = .ok (.irem, 1) := by decide +kernel
theorem dX7_shift_22 : decode cX7_shift 22 = .ok (.invokestatic 112, 3) := by decide +kernel
theorem dX7_shift_25 : decode cX7_shift 25 = .ok (.ifCond .eq 54, 3) := by decide +kernel
theorem dX7_shift_28 : decode cX7_shift 28 = .ok (.iload_n 1, 1) := by decide +kernel
theorem dX7_shift_29 : decode cX7_shift 29 = .ok (.bipush 10, 2) := by decide +kernel
theorem dX7_shift_31 : decode cX7_shift 31 = .ok (.irem, 1) := by decide +kernel
theorem dX7_shift_32 : decode cX7_shift 32 = .ok (.invokestatic 163, 3) := by decide +kernel
theorem dX7_shift_35 : decode cX7_shift 35 = .ok (.ifCond .eq 44, 3) := by decide +kernel
theorem dX7_shift_38 : decode cX7_shift 38 = .ok (.iload_n 2, 1) := by decide +kernel
theorem dX7_shift_39 : decode cX7_shift 39 = .ok (.iconst 0, 1) := by decide +kernel
theorem dX7_shift_40 : decode cX7_shift 40 = .ok (.sipush 20000, 3) := by decide +kernel
theorem dX7_shift_43 : decode cX7_shift 43 = .ok (.invokestatic 100, 3) := by decide +kernel
theorem dX7_shift_46 : decode cX7_shift 46 = .ok (.ifCond .eq 33, 3) := by decide +kernel
theorem dX7_shift_49 : decode cX7_shift 49 = .ok (.iload_n 3, 1) := by decide +kernel
theorem dX7_shift_50 : decode cX7_shift 50 = .ok (.iconst 0, 1) := by decide +kernel
theorem dX7_shift_51 : decode cX7_shift 51 = .ok (.sipush 20000, 3) := by decide +kernel
theorem dX7_shift_54 : decode cX7_shift 54 = .ok (.invokestatic 100, 3) := by decide +kernel
theorem dX7_shift_57 : decode cX7_shift 57 = .ok (.ifCond .eq 22, 3) := by decide +kernel
theorem dX7_shift_60 : decode cX7_shift 60 = .ok (.iload_n 2, 1) := by decide +kernel
theorem dX7_shift_61 : decode cX7_shift 61 = .ok (.iload_n 3, 1) := by decide +kernel
theorem dX7_shift_62 : decode cX7_shift 62 = .ok (.if_icmp .ge 17, 3) := by decide +kernel
theorem dX7_shift_65 : decode cX7_shift 65 = .ok (.iload 4, 2) := by decide +kernel
theorem dX7_shift_67 : decode cX7_shift 67 = .ok (.iconst 0, 1) := by decide +kernel
theorem dX7_shift_68 : decode cX7_shift 68 = .ok (.iconst 3, 1) := by decide +kernel
theorem dX7_shift_69 : decode cX7_shift 69 = .ok (.invokestatic 100, 3) := by decide +kernel
theorem dX7_shift_72 : decode cX7_shift 72 = .ok (.ifCond .eq 7, 3) := by decide +kernel
theorem dX7_shift_75 : decode cX7_shift 75 = .ok (.iconst 1, 1) := by decide +kernel
theorem dX7_shift_76 : decode cX7_shift 76 = .ok (.goto 4, 3) := by decide +kernel
theorem dX7_shift_79 : decode cX7_shift 79 = .ok (.iconst 0, 1) := by decide +kernel
theorem dX7_shift_80 : decode cX7_shift 80 = .ok (.istore 5, 2) := by decide +kernel
theorem dX7_shift_82 : decode cX7_shift 82 = .ok (.iload 5, 2) := by decide +kernel
theorem dX7_shift_84 : decode cX7_shift 84 = .ok (.ifCond .ne 9, 3) := by decide +kernel
theorem dX7_shift_87 : decode cX7_shift 87 = .ok (.aload_n 0, 1) := by decide +kernel
theorem dX7_shift_88 : decode cX7_shift 88 = .ok (.iconst 1, 1) := by decide +kernel
theorem dX7_shift_89 : decode cX7_shift 89 = .ok (.invokevirtual 104, 3) := by decide +kernel
theorem dX7_shift_92 : decode cX7_shift 92 = .ok (.ireturn, 1) := by decide +kernel
theorem dX7_shift_93 : decode cX7_shift 93 = .ok (.aload_n 0, 1) := by decide +kernel
theorem dX7_shift_94 : decode cX7_shift 94 = .ok (.getfield 166, 3) := by decide +kernel
theorem dX7_shift_97 : decode cX7_shift 97 = .ok (.bipush 12, 2) := by decide +kernel
theorem dX7_shift_99 : decode cX7_shift 99 = .ok (.if_icmp .ne 9, 3) := by decide +kernel
theorem dX7_shift_102 : decode cX7_shift 102 = .ok (.aload_n 0, 1) := by decide +kernel
theorem dX7_shift_103 : decode cX7_shift 103 = .ok (.iconst 4, 1) := by decide +kernel
theorem dX7_shift_104 : decode cX7_shift 104 = .ok (.invokevirtual 104, 3) := by decide +kernel
theorem dX7_shift_107 : decode cX7_shift 107 = .ok (.ireturn, 1) := by decide +kernel
theorem dX7_shift_108 : decode cX7_shift 108 = .ok (.aload_n 0, 1) := by decide +kernel
theorem dX7_shift_109 : decode cX7_shift 109 = .ok (.getfield 50, 3) := by decide +kernel
theorem dX7_shift_112 : decode cX7_shift 112 = .ok (.aload_n 0, 1) := by decide +kernel
theorem dX7_shift_113 : decode cX7_shift 113 = .ok (.getfield 166, 3) := by decide +kernel
theorem dX7_shift_116 : decode cX7_shift 116 = .ok (.iload_n 1, 1) := by decide +kernel
theorem dX7_shift_117 : decode cX7_shift 117 = .ok (.sipush 1000, 3) := by decide +kernel
theorem dX7_shift_120 : decode cX7_shift 120 = .ok (.idiv, 1) := by decide +kernel
theorem dX7_shift_121 : decode cX7_shift 121 = .ok (.iastore, 1) := by decide +kernel
theorem dX7_shift_122 : decode cX7_shift 122 = .ok (.aload_n 0, 1) := by decide +kernel
theorem dX7_shift_123 : decode cX7_shift 123 = .ok (.getfield 53, 3) := by decide +kernel
theorem dX7_shift_126 : decode cX7_shift 126 = .ok (.aload_n 0, 1) := by decide +kernel
theorem dX7_shift_127 : decode cX7_shift 127 = .ok (.getfield 166, 3) := by decide +kernel
theorem dX7_shift_130 : decode cX7_shift 130 = .ok (.iload_n 1, 1) := by decide +kernel
theorem dX7_shift_131 : decode cX7_shift 131 = .ok (.bipush 10, 2) := by decide +kernel
theorem dX7_shift_133 : decode cX7_shift 133 = .ok (.idiv, 1) := by decide +kernel
theorem dX7_shift_134 : decode cX7_shift 134 = .ok (.bipush 100, 2) := by decide +kernel
theorem dX7_shift_136 : decode cX7_shift 136 = .ok (.irem, 1) := by decide +kernel
theorem dX7_shift_137 : decode cX7_shift 137 = .ok (.iastore, 1) := by decide +kernel
theorem dX7_shift_138 : decode cX7_shift 138 = .ok (.aload_n 0, 1) := by decide +kernel
theorem dX7_shift_139 : decode cX7_shift 139 = .ok (.getfield 56, 3) := by decide +kernel
theorem dX7_shift_142 : decode cX7_shift 142 = .ok (.aload_n 0, 1) := by decide +kernel
theorem dX7_shift_143 : decode cX7_shift 143 = .ok (.getfield 166, 3) := by decide +kernel
theorem dX7_shift_146 : decode cX7_shift 146 = .ok (.iload_n 1, 1) := by decide +kernel
theorem dX7_shift_147 : decode cX7_shift 147 = .ok (.bipush 10, 2) := by decide +kernel
theorem dX7_shift_149 : decode cX7_shift 149 = .ok (.irem, 1) := by decide +kernel
theorem dX7_shift_150 : decode cX7_shift 150 = .ok (.iastore, 1) := by decide +kernel
theorem dX7_shift_151 : decode cX7_shift 151 = .ok (.aload_n 0, 1) := by decide +kernel
theorem dX7_shift_152 : decode cX7_shift 152 = .ok (.getfield 59, 3) := by decide +kernel
theorem dX7_shift_155 : decode cX7_shift 155 = .ok (.aload_n 0, 1) := by decide +kernel
theorem dX7_shift_156 : decode cX7_shift 156 = .ok (.getfield 166, 3) := by decide +kernel
theorem dX7_shift_159 : decode cX7_shift 159 = .ok (.iload_n 2, 1) := by decide +kernel
theorem dX7_shift_160 : decode cX7_shift 160 = .ok (.iastore, 1) := by decide +kernel
theorem dX7_shift_161 : decode cX7_shift 161 = .ok (.aload_n 0, 1) := by decide +kernel
theorem dX7_shift_162 : decode cX7_shift 162 = .ok (.getfield 62, 3) := by decide +kernel
theorem dX7_shift_165 : decode cX7_shift 165 = .ok (.aload_n 0, 1) := by decide +kernel
theorem dX7_shift_166 : decode cX7_shift 166 = .ok (.getfield 166, 3) := by decide +kernel
theorem dX7_shift_169 : decode cX7_shift 169 = .ok (.iload_n 3, 1) := by decide +kernel
theorem dX7_shift_170 : decode cX7_shift 170 = .ok (.iastore, 1) := by decide +kernel
theorem dX7_shift_171 : decode cX7_shift 171 = .ok (.aload_n 0, 1) := by decide +kernel
theorem dX7_shift_172 : decode cX7_shift 172 = .ok (.getfield 65, 3) := by decide +kernel
theorem dX7_shift_175 : decode cX7_shift 175 = .ok (.aload_n 0, 1) := by decide +kernel
theorem dX7_shift_176 : decode cX7_shift 176 = .ok (.getfield 166, 3) := by decide +kernel
theorem dX7_shift_179 : decode cX7_shift 179 = .ok (.iload 4, 2) := by decide +kernel
theorem dX7_shift_181 : decode cX7_shift 181 = .ok (.iastore, 1) := by decide +kernel
theorem dX7_shift_182 : decode cX7_shift 182 = .ok (.aload_n 0, 1) := by decide +kernel
theorem dX7_shift_183 : decode cX7_shift 183 = .ok (.dup, 1) := by decide +kernel
theorem dX7_shift_184 : decode cX7_shift 184 = .ok (.getfield 166, 3) := by decide +kernel
theorem dX7_shift_187 : decode cX7_shift 187 = .ok (.iconst 1, 1) := by decide +kernel
theorem dX7_shift_188 : decode cX7_shift 188 = .ok (.iadd, 1) := by decide +kernel
theorem dX7_shift_189 : decode cX7_shift 189 = .ok (.putfield 166, 3) := by decide +kernel
theorem dX7_shift_192 : decode cX7_shift 192 = .ok (.aload_n 0, 1) := by decide +kernel
theorem dX7_shift_193 : decode cX7_shift 193 = .ok (.getfield 166, 3) := by decide +kernel
theorem dX7_shift_196 : decode cX7_shift 196 = .ok (.iconst 1, 1) := by decide +kernel
theorem dX7_shift_197 : decode cX7_shift 197 = .ok (.isub, 1) := by decide +kernel
theorem dX7_shift_198 : decode cX7_shift 198 = .ok (.ireturn, 1) := by decide +kernel
theorem dX4_dropLatest_0 : decode cX4_dropLatest 0 = .ok (.aload_n 0, 1) := by decide +kernel
theorem dX4_dropLatest_1 : decode cX4_dropLatest 1 = .ok (.iconst 0, 1) := by decide +kernel
theorem dX4_dropLatest_2 : decode cX4_dropLatest 2 = .ok (.aload_n 0, 1) := by decide +kernel
theorem dX4_dropLatest_3 : decode cX4_dropLatest 3 = .ok (.getfield 27, 3) := by decide +kernel
theorem dX4_dropLatest_6 : decode cX4_dropLatest 6 = .ok (.iconst 1, 1) := by decide +kernel
theorem dX4_dropLatest_7 : decode cX4_dropLatest 7 = .ok (.isub, 1) := by decide +kernel
theorem dX4_dropLatest_8 : decode cX4_dropLatest 8 = .ok (.invokestatic 31, 3) := by decide +kernel
theorem dX4_dropLatest_11 : decode cX4_dropLatest 11 = .ok (.putfield 27, 3) := by decide +kernel
theorem dX4_dropLatest_14 : decode cX4_dropLatest 14 = .ok (.aload_n 0, 1) := by decide +kernel
theorem dX4_dropLatest_15 : decode cX4_dropLatest 15 = .ok (.getfield 27, 3) := by decide +kernel
theorem dX4_dropLatest_18 : decode cX4_dropLatest 18 = .ok (.ireturn, 1) := by decide +kernel
theorem dX6_less_0 : decode cX6_less 0 = .ok (.aload_n 0, 1) := by decide +kernel
theorem dX6_less_1 : decode cX6_less 1 = .ok (.getfield 35, 3) := by decide +kernel
theorem dX6_less_4 : decode cX6_less 4 = .ok (.getfield 153, 3) := by decide +kernel
theorem dX6_less_7 : decode cX6_less 7 = .ok (.ifCond .ne 9, 3) := by decide +kernel
theorem dX6_less_10 : decode cX6_less 10 = .ok (.aload_n 0, 1) := by decide +kernel
theorem dX6_less_11 : decode cX6_less 11 = .ok (.iconst 2, 1) := by decide +kernel
theorem dX6_less_12 : decode cX6_less 12 = .ok (.invokevirtual 72, 3) := by decide +kernel
theorem dX6_less_15 : decode cX6_less 15 = .ok (.ireturn, 1) := by decide +kernel
theorem dX6_less_16 : decode cX6_less 16 = .ok (.aload_n 0, 1) := by decide +kernel
theorem dX6_less_17 : decode cX6_less 17 = .ok (.getfield 35, 3) := by decide +kernel
theorem dX6_less_20 : decode cX6_less 20 = .ok (.invokevirtual 156, 3) := by decide +kernel
theorem dX6_less_23 : decode cX6_less 23 = .ok (.ireturn, 1) := by decide +kernel
theorem dX7_less_0 : decode cX7_less 0 = .ok (.aload_n 0, 1) := by decide +kernel
theorem dX7_less_1 : decode cX7_less 1 = .ok (.getfield 166, 3) := by decide +kernel
theorem dX7_less_4 : decode cX7_less 4 = .ok (.ifCond .ne 9, 3) := by decide +kernel
theorem dX7_less_7 : decode cX7_less 7 = .ok (.aload_n 0, 1) := by decide +kernel
theorem dX7_less_8 : decode cX7_less 8 = .ok (.iconst 2, 1) := by decide +kernel
theorem dX7_less_9 : decode cX7_less 9 = .ok (.invokevirtual 104, 3) := by decide +kernel
theorem dX7_less_12 : decode cX7_less 12 = .ok (.ireturn, 1) := by decide +kernel
theorem dX7_less_13 : decode cX7_less 13 = .ok (.aload_n 0, 1) := by decide +kernel
theorem dX7_less_14 : decode cX7_less 14 = .ok (.dup, 1) := by decide +kernel
theorem dX7_less_15 : decode cX7_less 15 = .ok (.getfield 166, 3) := by decide +kernel
theorem dX7_less_18 : decode cX7_less 18 = .ok (.iconst 1, 1) := by decide +kernel
theorem dX7_less_19 : decode cX7_less 19 = .ok (.isub, 1) := by decide +kernel
theorem dX7_less_20 : decode cX7_less 20 = .ok (.putfield 166, 3) := by decide +kernel
theorem dX7_less_23 : decode cX7_less 23 = .ok (.aload_n 0, 1) := by decide +kernel
theorem dX7_less_24 : decode cX7_less 24 = .ok (.getfield 166, 3) := by decide +kernel
theorem dX7_less_27 : decode cX7_less 27 = .ok (.ireturn, 1) := by decide +kernel
theorem dX4_wayBetween_0 : decode cX4_wayBetween 0 = .ok (.iload_n 1, 1) := by decide +kernel
theorem dX4_wayBetween_1 : decode cX4_wayBetween 1 = .ok (.iconst 0, 1) := by decide +kernel
theorem dX4_wayBetween_2 : decode cX4_wayBetween 2 = .ok (.iconst 5, 1) := by decide +kernel
theorem dX4_wayBetween_3 : decode cX4_wayBetween 3 = .ok (.invokestatic 51, 3) := by decide +kernel
theorem dX4_wayBetween_6 : decode cX4_wayBetween 6 = .ok (.ifCond .eq 26, 3) := by decide +kernel
theorem dX4_wayBetween_9 : decode cX4_wayBetween 9 = .ok (.iload_n 2, 1) := by decide +kernel
theorem dX4_wayBetween_10 : decode cX4_wayBetween 10 = .ok (.iconst 0, 1) := by decide +kernel
theorem dX4_wayBetween_11 : decode cX4_wayBetween 11 = .ok (.iconst 5, 1) := by decide +kernel
theorem dX4_wayBetween_12 : decode cX4_wayBetween 12 = .ok (.invokestatic 51, 3) := by decide +kernel
theorem dX4_wayBetween_15 : decode cX4_wayBetween 15 = .ok (.ifCond .eq 17, 3) := by decide +kernel
theorem dX4_wayBetween_18 : decode cX4_wayBetween 18 = .ok (.aload_n 0, 1) := by decide +kernel
theorem dX4_wayBetween_19 : decode cX4_wayBetween 19 = .ok (.getfield 24, 3) := by decide +kernel
theorem dX4_wayBetween_22 : decode cX4_wayBetween 22 = .ok (.iload_n 1, 1) := by decide +kernel
theorem dX4_wayBetween_23 : decode cX4_wayBetween 23 = .ok (.bipush 6, 2) := by decide +kernel
theorem dX4_wayBetween_25 : decode cX4_wayBetween 25 = .ok (.imul, 1) := by decide +kernel
theorem dX4_wayBetween_26 : decode cX4_wayBetween 26 = .ok (.iload_n 2, 1) := by decide +kernel
theorem dX4_wayBetween_27 : decode cX4_wayBetween 27 = .ok (.iadd, 1) := by decide +kernel
theorem dX4_wayBetween_28 : decode cX4_wayBetween 28 = .ok (.iaload, 1) := by decide +kernel
theorem dX4_wayBetween_29 : decode cX4_wayBetween 29 = .ok (.goto 4, 3) := by decide +kernel
theorem dX4_wayBetween_32 : decode cX4_wayBetween 32 = .ok (.iconst 0, 1) := by decide +kernel
theorem dX4_wayBetween_33 : decode cX4_wayBetween 33 = .ok (.ireturn, 1) := by decide +kernel
theorem dX4_setWay_0 : decode cX4_setWay 0 = .ok (.aload_n 0, 1) := by decide +kernel
theorem dX4_setWay_1 : decode cX4_setWay 1 = .ok (.iload_n 1, 1) := by decide +kernel
theorem dX4_setWay_2 : decode cX4_setWay 2 = .ok (.iload_n 2, 1) := by decide +kernel
theorem dX4_setWay_3 : decode cX4_setWay 3 = .ok (.invokevirtual 48, 3) := by decide +kernel
theorem dX4_setWay_6 : decode cX4_setWay 6 = .ok (.istore 4, 2) := by decide +kernel
theorem dX4_setWay_8 : decode cX4_setWay 8 = .ok (.iload_n 1, 1) := by decide +kernel
theorem dX4_setWay_9 : decode cX4_setWay 9 = .ok (.iconst 0, 1) := by decide +kernel
theorem dX4_setWay_10 : decode cX4_setWay 10 = .ok (.iconst 5, 1) := by decide +kernel
theorem dX4_setWay_11 : decode cX4_setWay 11 = .ok (.invokestatic 51, 3) := by decide +kernel
theorem dX4_setWay_14 : decode cX4_setWay 14 = .ok (.ifCond .eq 36, 3) := by decide +kernel
theorem dX4_setWay_17 : decode cX4_setWay 17 = .ok (.iload_n 2, 1) := by decide +kernel
theorem dX4_setWay_18 : decode cX4_setWay 18 = .ok (.iconst 0, 1) := by decide +kernel
theorem dX4_setWay_19 : decode cX4_setWay 19 = .ok (.iconst 5, 1) := by decide +kernel
theorem dX4_setWay_20 : decode cX4_setWay 20 = .ok (.invokestatic 51, 3) := by decide +kernel
theorem dX4_setWay_23 : decode cX4_setWay 23 = .ok (.ifCond .eq 27, 3) := by decide +kernel
theorem dX4_setWay_26 : decode cX4_setWay 26 = .ok (.aload_n 0, 1) := by decide +kernel
theorem dX4_setWay_27 : decode cX4_setWay 27 = .ok (.getfield 24, 3) := by decide +kernel
theorem dX4_setWay_30 : decode cX4_setWay 30 = .ok (.iload_n 1, 1) := by decide +kernel
theorem dX4_setWay_31 : decode cX4_setWay 31 = .ok (.bipush 6, 2) := by decide +kernel
theorem dX4_setWay_33 : decode cX4_setWay 33 = .ok (.imul, 1) := by decide +kernel
theorem dX4_setWay_34 : decode cX4_setWay 34 = .ok (.iload_n 2, 1) := by decide +kernel
theorem dX4_setWay_35 : decode cX4_setWay 35 = .ok (.iadd, 1) := by decide +kernel
theorem dX4_setWay_36 : decode cX4_setWay 36 = .ok (.iload_n 3, 1) := by decide +kernel
theorem dX4_setWay_37 : decode cX4_setWay 37 = .ok (.iastore, 1) := by decide +kernel
theorem dX4_setWay_38 : decode cX4_setWay 38 = .ok (.aload_n 0, 1) := by decide +kernel
theorem dX4_setWay_39 : decode cX4_setWay 39 = .ok (.getfield 24, 3) := by decide +kernel
theorem dX4_setWay_42 : decode cX4_setWay 42 = .ok (.iload_n 2, 1) := by decide +kernel
theorem dX4_setWay_43 : decode cX4_setWay 43 = .ok (.bipush 6, 2) := by decide +kernel
theorem dX4_setWay_45 : decode cX4_setWay 45 = .ok (.imul, 1) := by decide +kernel
theorem dX4_setWay_46 : decode cX4_setWay 46 = .ok (.iload_n 1, 1) := by decide +kernel
theorem dX4_setWay_47 : decode cX4_setWay 47 = .ok (.iadd, 1) := by decide +kernel
theorem dX4_setWay_48 : decode cX4_setWay 48 = .ok (.iload_n 3, 1) := by decide +kernel
theorem dX4_setWay_49 : decode cX4_setWay 49 = .ok (.iastore, 1) := by decide +kernel
theorem dX4_setWay_50 : decode cX4_setWay 50 = .ok (.iload 4, 2) := by decide +kernel
theorem dX4_setWay_52 : decode cX4_setWay 52 = .ok (.ireturn, 1) := by decide +kernel
theorem dX6_way_0 : decode cX6_way 0 = .ok (.iload_n 1, 1) := by decide +kernel
theorem dX6_way_1 : decode cX6_way 1 = .ok (.iconst 0, 1) := by decide +kernel
theorem dX6_way_2 : decode cX6_way 2 = .ok (.iconst 5, 1) := by decide +kernel
theorem dX6_way_3 : decode cX6_way 3 = .ok (.invokestatic 88, 3) := by decide +kernel
theorem dX6_way_6 : decode cX6_way 6 = .ok (.ifCond .eq 28, 3) := by decide +kernel
theorem dX6_way_9 : decode cX6_way 9 = .ok (.iload_n 2, 1) := by decide +kernel
theorem dX6_way_10 : decode cX6_way 10 = .ok (.iconst 0, 1) := by decide +kernel
theorem dX6_way_11 : decode cX6_way 11 = .ok (.iconst 5, 1) := by decide +kernel
theorem dX6_way_12 : decode cX6_way 12 = .ok (.invokestatic 88, 3) := by decide +kernel
theorem dX6_way_15 : decode cX6_way 15 = .ok (.ifCond .eq 19, 3) := by decide +kernel
theorem dX6_way_18 : decode cX6_way 18 = .ok (.iload_n 1, 1) := by decide +kernel
theorem dX6_way_19 : decode cX6_way 19 = .ok (.iload_n 2, 1) := by decide +kernel
theorem dX6_way_20 : decode cX6_way 20 = .ok (.if_icmp .eq 14, 3) := by decide +kernel
theorem dX6_way_23 : decode cX6_way 23 = .ok (.iload_n 3, 1) := by decide +kernel
theorem dX6_way_24 : decode cX6_way 24 = .ok (.iconst 0, 1) := by decide +kernel
theorem dX6_way_25 : decode cX6_way 25 = .ok (.sipush 600, 3) := by decide +kernel
theorem dX6_way_28 : decode cX6_way 28 = .ok (.invokestatic 88, 3) := by decide +kernel
theorem dX6_way_31 : decode cX6_way 31 = .ok (.ifCond .ne 9, 3) := by decide +kernel
theorem dX6_way_34 : decode cX6_way 34 = .ok (.aload_n 0, 1) := by decide +kernel
theorem dX6_way_35 : decode cX6_way 35 = .ok (.iconst 1, 1) := by decide +kernel
theorem dX6_way_36 : decode cX6_way 36 = .ok (.invokevirtual 72, 3) := by decide +kernel
theorem dX6_way_39 : decode cX6_way 39 = .ok (.ireturn, 1) := by decide +kernel
theorem dX6_way_40 : decode cX6_way 40 = .ok (.aload_n 0, 1) := by decide +kernel
theorem dX6_way_41 : decode cX6_way 41 = .ok (.getfield 35, 3) := by decide +kernel
theorem dX6_way_44 : decode cX6_way 44 = .ok (.iload_n 1, 1) := by decide +kernel
theorem dX6_way_45 : decode cX6_way 45 = .ok (.iload_n 2, 1) := by decide +kernel
theorem dX6_way_46 : decode cX6_way 46 = .ok (.iload_n 3, 1) := by decide +kernel
theorem dX6_way_47 : decode cX6_way 47 = .ok (.invokevirtual 160, 3) := by decide +kernel
theorem dX6_way_50 : decode cX6_way 50 = .ok (.ireturn, 1) := by decide +kernel
theorem dX7_way_0 : decode cX7_way 0 = .ok (.iload_n 1, 1) := by decide +kernel
theorem dX7_way_1 : decode cX7_way 1 = .ok (.invokestatic 163, 3) := by decide +kernel
theorem dX7_way_4 : decode cX7_way 4 = .ok (.ifCond .eq 26, 3) := by decide +kernel
theorem dX7_way_7 : decode cX7_way 7 = .ok (.iload_n 2, 1) := by decide +kernel
theorem dX7_way_8 : decode cX7_way 8 = .ok (.invokestatic 163, 3) := by decide +kernel
theorem dX7_way_11 : decode cX7_way 11 = .ok (.ifCond .eq 19, 3) := by decide +kernel
theorem dX7_way_14 : decode cX7_way 14 = .ok (.iload_n 1, 1) := by decide +kernel
theorem dX7_way_15 : decode cX7_way 15 = .ok (.iload_n 2, 1) := by decide +kernel
theorem dX7_way_16 : decode cX7_way 16 = .ok (.if_icmp .eq 14, 3) := by decide +kernel
theorem dX7_way_19 : decode cX7_way 19 = .ok (.iload_n 3, 1) := by decide +kernel
theorem dX7_way_20 : decode cX7_way 20 = .ok (.iconst 0, 1) := by decide +kernel
theorem dX7_way_21 : decode cX7_way 21 = .ok (.sipush 600, 3) := by decide +kernel
theorem dX7_way_24 : decode cX7_way 24 = .ok (.invokestatic 100, 3) := by decide +kernel
theorem dX7_way_27 : decode cX7_way 27 = .ok (.ifCond .ne 9, 3) := by decide +kernel
theorem dX7_way_30 : decode cX7_way 30 = .ok (.aload_n 0, 1) := by decide +kernel
theorem dX7_way_31 : decode cX7_way 31 = .ok (.iconst 1, 1) := by decide +kernel
theorem dX7_way_32 : decode cX7_way 32 = .ok (.invokevirtual 104, 3) := by decide +kernel
theorem dX7_way_35 : decode cX7_way 35 = .ok (.ireturn, 1) := by decide +kernel
theorem dX7_way_36 : decode cX7_way 36 = .ok (.aload_n 0, 1) := by decide +kernel
theorem dX7_way_37 : decode cX7_way 37 = .ok (.getfield 68, 3) := by decide +kernel
theorem dX7_way_40 : decode cX7_way 40 = .ok (.bipush 6, 2) := by decide +kernel
theorem dX7_way_42 : decode cX7_way 42 = .ok (.iload_n 1, 1) := by decide +kernel
theorem dX7_way_43 : decode cX7_way 43 = .ok (.imul, 1) := by decide +kernel
theorem dX7_way_44 : decode cX7_way 44 = .ok (.iload_n 2, 1) := by decide +kernel
theorem dX7_way_45 : decode cX7_way 45 = .ok (.iadd, 1) := by decide +kernel
theorem dX7_way_46 : decode cX7_way 46 = .ok (.iaload, 1) := by decide +kernel
theorem dX7_way_47 : decode cX7_way 47 = .ok (.istore 4, 2) := by decide +kernel
theorem dX7_way_49 : decode cX7_way 49 = .ok (.aload_n 0, 1) := by decide +kernel
theorem dX7_way_50 : decode cX7_way 50 = .ok (.getfield 68, 3) := by decide +kernel
theorem dX7_way_53 : decode cX7_way 53 = .ok (.bipush 6, 2) := by decide +kernel
theorem dX7_way_55 : decode cX7_way 55 = .ok (.iload_n 1, 1) := by decide +kernel
theorem dX7_way_56 : decode cX7_way 56 = .ok (.imul, 1) := by decide +kernel
theorem dX7_way_57 : decode cX7_way 57 = .ok (.iload_n 2, 1) := by decide +kernel
theorem dX7_way_58 : decode cX7_way 58 = .ok (.iadd, 1) := by decide +kernel
theorem dX7_way_59 : decode cX7_way 59 = .ok (.iload_n 3, 1) := by decide +kernel
theorem dX7_way_60 : decode cX7_way 60 = .ok (.iastore, 1) := by decide +kernel
theorem dX7_way_61 : decode cX7_way 61 = .ok (.aload_n 0, 1) := by decide +kernel
theorem dX7_way_62 : decode cX7_way 62 = .ok (.getfield 68, 3) := by decide +kernel
theorem dX7_way_65 : decode cX7_way 65 = .ok (.bipush 6, 2) := by decide +kernel
theorem dX7_way_67 : decode cX7_way 67 = .ok (.iload_n 2, 1) := by decide +kernel
theorem dX7_way_68 : decode cX7_way 68 = .ok (.imul, 1) := by decide +kernel
theorem dX7_way_69 : decode cX7_way 69 = .ok (.iload_n 1, 1) := by decide +kernel
theorem dX7_way_70 : decode cX7_way 70 = .ok (.iadd, 1) := by decide +kernel
theorem dX7_way_71 : decode cX7_way 71 = .ok (.iload_n 3, 1) := by decide +kernel
theorem dX7_way_72 : decode cX7_way 72 = .ok (.iastore, 1) := by decide +kernel
theorem dX7_way_73 : decode cX7_way 73 = .ok (.iload 4, 2) := by decide +kernel
theorem dX7_way_75 : decode cX7_way 75 = .ok (.ireturn, 1) := by decide +kernel
theorem dX4_has_0 : decode cX4_has 0 = .ok (.iload_n 1, 1) := by decide +kernel
theorem dX4_has_1 : decode cX4_has 1 = .ok (.ifCond .lt 21, 3) := by decide +kernel
theorem dX4_has_4 : decode cX4_has 4 = .ok (.iload_n 1, 1) := by decide +kernel
theorem dX4_has_5 : decode cX4_has 5 = .ok (.aload_n 0, 1) := by decide +kernel
theorem dX4_has_6 : decode cX4_has 6 = .ok (.getfield 27, 3) := by decide +kernel
theorem dX4_has_9 : decode cX4_has 9 = .ok (.if_icmp .ge 13, 3) := by decide +kernel
theorem dX4_has_12 : decode cX4_has 12 = .ok (.iload_n 1, 1) := by decide +kernel
theorem dX4_has_13 : decode cX4_has 13 = .ok (.bipush 12, 2) := by decide +kernel
theorem dX4_has_15 : decode cX4_has 15 = .ok (.if_icmp .ge 7, 3) := by decide +kernel
theorem dX4_has_18 : decode cX4_has 18 = .ok (.iconst 1, 1) := by decide +kernel
theorem dX4_has_19 : decode cX4_has 19 = .ok (.goto 4, 3) := by decide +kernel
theorem dX4_has_22 : decode cX4_has 22 = .ok (.iconst 0, 1) := by decide +kernel
theorem dX4_has_23 : decode cX4_has 23 = .ok (.ireturn, 1) := by decide +kernel
theorem dX4_lookBefore_0 : decode cX4_lookBefore 0 = .ok (.aload_n 0, 1) := by decide +kernel
theorem dX4_lookBefore_1 : decode cX4_lookBefore 1 = .ok (.iload_n 1, 1) := by decide +kernel
theorem dX4_lookBefore_2 : decode cX4_lookBefore 2 = .ok (.invokevirtual 37, 3) := by decide +kernel
theorem dX4_lookBefore_5 : decode cX4_lookBefore 5 = .ok (.ifCond .eq 15, 3) := by decide +kernel
theorem dX4_lookBefore_8 : decode cX4_lookBefore 8 = .ok (.aload_n 0, 1) := by decide +kernel
theorem dX4_lookBefore_9 : decode cX4_lookBefore 9 = .ok (.getfield 9, 3) := by decide +kernel
theorem dX4_lookBefore_12 : decode cX4_lookBefore 12 = .ok (.iload_n 1, 1) := by decide +kernel
theorem dX4_lookBefore_13 : decode cX4_lookBefore 13 = .ok (.iaload, 1) := by decide +kernel
theorem dX4_lookBefore_14 : decode cX4_lookBefore 14 = .ok (.invokestatic 41, 3) := by decide +kernel
theorem dX4_lookBefore_17 : decode cX4_lookBefore 17 = .ok (.goto 4, 3) := by decide +kernel
theorem dX4_lookBefore_20 : decode cX4_lookBefore 20 = .ok (.iconst (-1), 1) := by decide +kernel
theorem dX4_lookBefore_21 : decode cX4_lookBefore 21 = .ok (.ireturn, 1) := by decide +kernel
theorem dX4_lookAfter_0 : decode cX4_lookAfter 0 = .ok (.aload_n 0, 1) := by decide +kernel
theorem dX4_lookAfter_1 : decode cX4_lookAfter 1 = .ok (.iload_n 1, 1) := by decide +kernel
theorem dX4_lookAfter_2 : decode cX4_lookAfter 2 = .ok (.invokevirtual 37, 3) := by decide +kernel
theorem dX4_lookAfter_5 : decode cX4_lookAfter 5 = .ok (.ifCond .eq 15, 3) := by decide +kernel
theorem dX4_lookAfter_8 : decode cX4_lookAfter 8 = .ok (.aload_n 0, 1) := by decide +kernel
theorem dX4_lookAfter_9 : decode cX4_lookAfter 9 = .ok (.getfield 9, 3) := by decide +kernel
theorem dX4_lookAfter_12 : decode cX4_lookAfter 12 = .ok (.iload_n 1, 1) := by decide +kernel
theorem dX4_lookAfter_13 : decode cX4_lookAfter 13 = .ok (.iaload, 1) := by decide +kernel
theorem dX4_lookAfter_14 : decode cX4_lookAfter 14 = .ok (.invokestatic 45, 3) := by decide +kernel
theorem dX4_lookAfter_17 : decode cX4_lookAfter 17 = .ok (.goto 4, 3) := by decide +kernel
theorem dX4_lookAfter_20 : decode cX4_lookAfter 20 = .ok (.iconst (-1), 1) := by decide +kernel
theorem dX4_lookAfter_21 : decode cX4_lookAfter 21 = .ok (.ireturn, 1) := by decide +kernel
theorem dX4_handsOf_0 : decode cX4_handsOf 0 = .ok (.aload_n 0, 1) := by decide +kernel
theorem dX4_handsOf_1 : decode cX4_handsOf 1 = .ok (.iload_n 1, 1) := by decide +kernel
theorem dX4_handsOf_2 : decode cX4_handsOf 2 = .ok (.invokevirtual 37, 3) := by decide +kernel
theorem dX4_handsOf_5 : decode cX4_handsOf 5 = .ok (.ifCond .eq 12, 3) := by decide +kernel
theorem dX4_handsOf_8 : decode cX4_handsOf 8 = .ok (.aload_n 0, 1) := by decide +kernel
theorem dX4_handsOf_9 : decode cX4_handsOf 9 = .ok (.getfield 21, 3) := by decide +kernel
theorem dX4_handsOf_12 : decode cX4_handsOf 12 = .ok (.iload_n 1, 1) := by decide +kernel
theorem dX4_handsOf_13 : decode cX4_handsOf 13 = .ok (.iaload, 1) := by decide +kernel
theorem dX4_handsOf_14 : decode cX4_handsOf 14 = .ok (.goto 4, 3) := by decide +kernel
theorem dX4_handsOf_17 : decode cX4_handsOf 17 = .ok (.iconst 0, 1) := by decide +kernel
theorem dX4_handsOf_18 : decode cX4_handsOf 18 = .ok (.ireturn, 1) := by decide +kernel
theorem dX4_lengthOf_0 : decode cX4_lengthOf 0 = .ok (.aload_n 0, 1) := by decide +kernel
theorem dX4_lengthOf_1 : decode cX4_lengthOf 1 = .ok (.iload_n 1, 1) := by decide +kernel
theorem dX4_lengthOf_2 : decode cX4_lengthOf 2 = .ok (.invokevirtual 37, 3) := by decide +kernel
theorem dX4_lengthOf_5 : decode cX4_lengthOf 5 = .ok (.ifCond .eq 19, 3) := by decide +kernel
theorem dX4_lengthOf_8 : decode cX4_lengthOf 8 = .ok (.aload_n 0, 1) := by decide +kernel
theorem dX4_lengthOf_9 : decode cX4_lengthOf 9 = .ok (.getfield 18, 3) := by decide +kernel
theorem dX4_lengthOf_12 : decode cX4_lengthOf 12 = .ok (.iload_n 1, 1) := by decide +kernel
theorem dX4_lengthOf_13 : decode cX4_lengthOf 13 = .ok (.iaload, 1) := by decide +kernel
theorem dX4_lengthOf_14 : decode cX4_lengthOf 14 = .ok (.aload_n 0, 1) := by decide +kernel
theorem dX4_lengthOf_15 : decode cX4_lengthOf 15 = .ok (.getfield 15, 3) := by decide +kernel
theorem dX4_lengthOf_18 : decode cX4_lengthOf 18 = .ok (.iload_n 1, 1) := by decide +kernel
theorem dX4_lengthOf_19 : decode cX4_lengthOf 19 = .ok (.iaload, 1) := by decide +kernel
theorem dX4_lengthOf_20 : decode cX4_lengthOf 20 = .ok (.isub, 1) := by decide +kernel
theorem dX4_lengthOf_21 : decode cX4_lengthOf 21 = .ok (.goto 4, 3) := by decide +kernel
theorem dX4_lengthOf_24 : decode cX4_lengthOf 24 = .ok (.iconst 0, 1) := by decide +kernel
theorem dX4_lengthOf_25 : decode cX4_lengthOf 25 = .ok (.ireturn, 1) := by decide +kernel
theorem dX6_fits_0 : decode cX6_fits 0 = .ok (.aload_n 0, 1) := by decide +kernel
theorem dX6_fits_1 : decode cX6_fits 1 = .ok (.getfield 35, 3) := by decide +kernel
theorem dX6_fits_4 : decode cX6_fits 4 = .ok (.iload_n 1, 1) := by decide +kernel
theorem dX6_fits_5 : decode cX6_fits 5 = .ok (.invokevirtual 163, 3) := by decide +kernel
theorem dX6_fits_8 : decode cX6_fits 8 = .ok (.ifCond .ne 9, 3) := by decide +kernel
theorem dX6_fits_11 : decode cX6_fits 11 = .ok (.aload_n 0, 1) := by decide +kernel
theorem dX6_fits_12 : decode cX6_fits 12 = .ok (.iconst 1, 1) := by decide +kernel
theorem dX6_fits_13 : decode cX6_fits 13 = .ok (.invokevirtual 72, 3) := by decide +kernel
theorem dX6_fits_16 : decode cX6_fits 16 = .ok (.ireturn, 1) := by decide +kernel
theorem dX6_fits_17 : decode cX6_fits 17 = .ok (.aload_n 0, 1) := by decide +kernel
theorem dX6_fits_18 : decode cX6_fits 18 = .ok (.getfield 28, 3) := by decide +kernel
theorem dX6_fits_21 : decode cX6_fits 21 = .ok (.aload_n 0, 1) := by decide +kernel
theorem dX6_fits_22 : decode cX6_fits 22 = .ok (.getfield 35, 3) := by decide +kernel
theorem dX6_fits_25 : decode cX6_fits 25 = .ok (.iload_n 1, 1) := by decide +kernel
theorem dX6_fits_26 : decode cX6_fits 26 = .ok (.invokevirtual 164, 3) := by decide +kernel
theorem dX6_fits_29 : decode cX6_fits 29 = .ok (.aload_n 0, 1) := by decide +kernel
theorem dX6_fits_30 : decode cX6_fits 30 = .ok (.getfield 35, 3) := by decide +kernel
theorem dX6_fits_33 : decode cX6_fits 33 = .ok (.iload_n 1, 1) := by decide +kernel
theorem dX6_fits_34 : decode cX6_fits 34 = .ok (.invokevirtual 167, 3) := by decide +kernel
theorem dX6_fits_37 : decode cX6_fits 37 = .ok (.aload_n 0, 1) := by decide +kernel
theorem dX6_fits_38 : decode cX6_fits 38 = .ok (.getfield 35, 3) := by decide +kernel
theorem dX6_fits_41 : decode cX6_fits 41 = .ok (.iload_n 1, 1) := by decide +kernel
theorem dX6_fits_42 : decode cX6_fits 42 = .ok (.invokevirtual 170, 3) := by decide +kernel
theorem dX6_fits_45 : decode cX6_fits 45 = .ok (.aload_n 0, 1) := by decide +kernel
theorem dX6_fits_46 : decode cX6_fits 46 = .ok (.getfield 64, 3) := by decide +kernel
theorem dX6_fits_49 : decode cX6_fits 49 = .ok (.invokevirtual 136, 3) := by decide +kernel
theorem dX6_fits_52 : decode cX6_fits 52 = .ok (.aload_n 0, 1) := by decide +kernel
theorem dX6_fits_53 : decode cX6_fits 53 = .ok (.getfield 28, 3) := by decide +kernel
theorem dX6_fits_56 : decode cX6_fits 56 = .ok (.getfield 140, 3) := by decide +kernel
theorem dX6_fits_59 : decode cX6_fits 59 = .ok (.aload_n 0, 1) := by decide +kernel
theorem dX6_fits_60 : decode cX6_fits 60 = .ok (.getfield 35, 3) := by decide +kernel
theorem dX6_fits_63 : decode cX6_fits 63 = .ok (.iload_n 1, 1) := by decide +kernel
theorem dX6_fits_64 : decode cX6_fits 64 = .ok (.invokevirtual 173, 3) := by decide +kernel
theorem dX6_fits_67 : decode cX6_fits 67 = .ok (.if_icmp .gt 7, 3) := by decide +kernel
theorem dX6_fits_70 : decode cX6_fits 70 = .ok (.iconst 1, 1) := by decide +kernel
theorem dX6_fits_71 : decode cX6_fits 71 = .ok (.goto 4, 3) := by decide +kernel
theorem dX6_fits_74 : decode cX6_fits 74 = .ok (.iconst 0, 1) := by decide +kernel
theorem dX6_fits_75 : decode cX6_fits 75 = .ok (.ireturn, 1) := by decide +kernel
theorem dX7_fits_0 : decode cX7_fits 0 = .ok (.iload_n 1, 1) := by decide +kernel
theorem dX7_fits_1 : decode cX7_fits 1 = .ok (.ifCond .lt 11, 3) := by decide +kernel
theorem dX7_fits_4 : decode cX7_fits 4 = .ok (.iload_n 1, 1) := by decide +kernel
theorem dX7_fits_5 : decode cX7_fits 5 = .ok (.aload_n 0, 1) := by decide +kernel
theorem dX7_fits_6 : decode cX7_fits 6 = .ok (.getfield 166, 3) := by decide +kernel
theorem dX7_fits_9 : decode cX7_fits 9 = .ok (.if_icmp .lt 9, 3) := by decide +kernel
theorem dX7_fits_12 : decode cX7_fits 12 = .ok (.aload_n 0, 1) := by decide +kernel
theorem dX7_fits_13 : decode cX7_fits 13 = .ok (.iconst 1, 1) := by decide +kernel
theorem dX7_fits_14 : decode cX7_fits 14 = .ok (.invokevirtual 104, 3) := by decide +kernel
theorem dX7_fits_17 : decode cX7_fits 17 = .ok (.ireturn, 1) := by decide +kernel
theorem dX7_fits_18 : decode cX7_fits 18 = .ok (.aload_n 0, 1) := by decide +kernel
theorem dX7_fits_19 : decode cX7_fits 19 = .ok (.aload_n 0, 1) := by decide +kernel
theorem dX7_fits_20 : decode cX7_fits 20 = .ok (.getfield 50, 3) := by decide +kernel
theorem dX7_fits_23 : decode cX7_fits 23 = .ok (.iload_n 1, 1) := by decide +kernel
theorem dX7_fits_24 : decode cX7_fits 24 = .ok (.iaload, 1) := by decide +kernel
theorem dX7_fits_25 : decode cX7_fits 25 = .ok (.aload_n 0, 1) := by decide +kernel
theorem dX7_fits_26 : decode cX7_fits 26 = .ok (.getfield 53, 3) := by decide +kernel
theorem dX7_fits_29 : decode cX7_fits 29 = .ok (.iload_n 1, 1) := by decide +kernel
theorem dX7_fits_30 : decode cX7_fits 30 = .ok (.iaload, 1) := by decide +kernel
theorem dX7_fits_31 : decode cX7_fits 31 = .ok (.aload_n 0, 1) := by decide +kernel
theorem dX7_fits_32 : decode cX7_fits 32 = .ok (.getfield 65, 3) := by decide +kernel
theorem dX7_fits_35 : decode cX7_fits 35 = .ok (.iload_n 1, 1) := by decide +kernel
theorem dX7_fits_36 : decode cX7_fits 36 = .ok (.iaload, 1) := by decide +kernel
theorem dX7_fits_37 : decode cX7_fits 37 = .ok (.invokevirtual 159, 3) := by decide +kernel
theorem dX7_fits_40 : decode cX7_fits 40 = .ok (.istore_n 2, 1) := by decide +kernel
theorem dX7_fits_41 : decode cX7_fits 41 = .ok (.iload_n 2, 1) := by decide +kernel
theorem dX7_fits_42 : decode cX7_fits 42 = .ok (.ifCond .lt 24, 3) := by decide +kernel
theorem dX7_fits_45 : decode cX7_fits 45 = .ok (.iload_n 2, 1) := by decide +kernel
theorem dX7_fits_46 : decode cX7_fits 46 = .ok (.aload_n 0, 1) := by decide +kernel
theorem dX7_fits_47 : decode cX7_fits 47 = .ok (.getfield 62, 3) := by decide +kernel
theorem dX7_fits_50 : decode cX7_fits 50 = .ok (.iload_n 1, 1) := by decide +kernel
theorem dX7_fits_51 : decode cX7_fits 51 = .ok (.iaload, 1) := by decide +kernel
theorem dX7_fits_52 : decode cX7_fits 52 = .ok (.aload_n 0, 1) := by decide +kernel
theorem dX7_fits_53 : decode cX7_fits 53 = .ok (.getfield 59, 3) := by decide +kernel
theorem dX7_fits_56 : decode cX7_fits 56 = .ok (.iload_n 1, 1) := by decide +kernel
theorem dX7_fits_57 : decode cX7_fits 57 = .ok (.iaload, 1) := by decide +kernel
theorem dX7_fits_58 : decode cX7_fits 58 = .ok (.isub, 1) := by decide +kernel
theorem dX7_fits_59 : decode cX7_fits 59 = .ok (.if_icmp .gt 7, 3) := by decide +kernel
theorem dX7_fits_62 : decode cX7_fits 62 = .ok (.iconst 1, 1) := by decide +kernel
theorem dX7_fits_63 : decode cX7_fits 63 = .ok (.goto 4, 3) := by decide +kernel
theorem dX7_fits_66 : decode cX7_fits 66 = .ok (.iconst 0, 1) := by decide +kernel
theorem dX7_fits_67 : decode cX7_fits 67 = .ok (.ireturn, 1) := by decide +kernel
theorem dJ7_fill_53178_0 : decode cJ7_fill_53178 0 = .ok (.iconst 0, 1) := by decide +kernel
theorem dJ7_fill_53178_1 : decode cJ7_fill_53178 1 = .ok (.istore_n 2, 1) := by decide +kernel
theorem dJ7_fill_53178_2 : decode cJ7_fill_53178 2 = .ok (.aload_n 0, 1) := by decide +kernel
theorem dJ7_fill_53178_3 : decode cJ7_fill_53178 3 = .ok (.arraylength, 1) := by decide +kernel
theorem dJ7_fill_53178_4 : decode cJ7_fill_53178 4 = .ok (.istore_n 3, 1) := by decide +kernel
theorem dJ7_fill_53178_5 : decode cJ7_fill_53178 5 = .ok (.iload_n 2, 1) := by decide +kernel
theorem dJ7_fill_53178_6 : decode cJ7_fill_53178 6 = .ok (.iload_n 3, 1) := by decide +kernel
theorem dJ7_fill_53178_7 : decode cJ7_fill_53178 7 = .ok (.if_icmp .ge 13, 3) := by decide +kernel
theorem dJ7_fill_53178_10 : decode cJ7_fill_53178 10 = .ok (.aload_n 0, 1) := by decide +kernel
theorem dJ7_fill_53178_11 : decode cJ7_fill_53178 11 = .ok (.iload_n 2, 1) := by decide +kernel
theorem dJ7_fill_53178_12 : decode cJ7_fill_53178 12 = .ok (.iload_n 1, 1) := by decide +kernel
theorem dJ7_fill_53178_13 : decode cJ7_fill_53178 13 = .ok (.iastore, 1) := by decide +kernel
theorem dJ7_fill_53178_14 : decode cJ7_fill_53178 14 = .ok (.iinc 2 1, 3) := by decide +kernel
theorem dJ7_fill_53178_17 : decode cJ7_fill_53178 17 = .ok (.goto (-12), 3) := by decide +kernel
theorem dJ7_fill_53178_20 : decode cJ7_fill_53178 20 = .ok (.return_, 1) := by decide +kernel
theorem dX3_enqueue_0 : decode cX3_enqueue 0 = .ok (.iload_n 1, 1) := by decide +kernel
theorem dX3_enqueue_1 : decode cX3_enqueue 1 = .ok (.iconst 0, 1) := by decide +kernel
theorem dX3_enqueue_2 : decode cX3_enqueue 2 = .ok (.bipush 11, 2) := by decide +kernel
theorem dX3_enqueue_4 : decode cX3_enqueue 4 = .ok (.invokestatic 72, 3) := by decide +kernel
theorem dX3_enqueue_7 : decode cX3_enqueue 7 = .ok (.ifCond .eq 48, 3) := by decide +kernel
theorem dX3_enqueue_10 : decode cX3_enqueue 10 = .ok (.aload_n 0, 1) := by decide +kernel
theorem dX3_enqueue_11 : decode cX3_enqueue 11 = .ok (.getfield 21, 3) := by decide +kernel
theorem dX3_enqueue_14 : decode cX3_enqueue 14 = .ok (.iload_n 1, 1) := by decide +kernel
theorem dX3_enqueue_15 : decode cX3_enqueue 15 = .ok (.iaload, 1) := by decide +kernel
theorem dX3_enqueue_16 : decode cX3_enqueue 16 = .ok (.ifCond .ge 39, 3) := by decide +kernel
theorem dX3_enqueue_19 : decode cX3_enqueue 19 = .ok (.aload_n 0, 1) := by decide +kernel
theorem dX3_enqueue_20 : decode cX3_enqueue 20 = .ok (.getfield 53, 3) := by decide +kernel
theorem dX3_enqueue_23 : decode cX3_enqueue 23 = .ok (.bipush 12, 2) := by decide +kernel
theorem dX3_enqueue_25 : decode cX3_enqueue 25 = .ok (.if_icmp .ge 30, 3) := by decide +kernel
theorem dX3_enqueue_28 : decode cX3_enqueue 28 = .ok (.aload_n 0, 1) := by decide +kernel
theorem dX3_enqueue_29 : decode cX3_enqueue 29 = .ok (.getfield 21, 3) := by decide +kernel
theorem dX3_enqueue_32 : decode cX3_enqueue 32 = .ok (.iload_n 1, 1) := by decide +kernel
theorem dX3_enqueue_33 : decode cX3_enqueue 33 = .ok (.iload_n 2, 1) := by decide +kernel
theorem dX3_enqueue_34 : decode cX3_enqueue 34 = .ok (.iastore, 1) := by decide +kernel
theorem dX3_enqueue_35 : decode cX3_enqueue 35 = .ok (.aload_n 0, 1) := by decide +kernel
theorem dX3_enqueue_36 : decode cX3_enqueue 36 = .ok (.getfield 24, 3) := by decide +kernel
theorem dX3_enqueue_39 : decode cX3_enqueue 39 = .ok (.aload_n 0, 1) := by decide +kernel
theorem dX3_enqueue_40 : decode cX3_enqueue 40 = .ok (.getfield 53, 3) := by decide +kernel
theorem dX3_enqueue_43 : decode cX3_enqueue 43 = .ok (.iload_n 1, 1) := by decide +kernel
theorem dX3_enqueue_44 : decode cX3_enqueue 44 = .ok (.iastore, 1) := by decide +kernel
theorem dX3_enqueue_45 : decode cX3_enqueue 45 = .ok (.aload_n 0, 1) := by decide +kernel
theorem dX3_enqueue_46 : decode cX3_enqueue 46 = .ok (.dup, 1) := by decide +kernel
theorem dX3_enqueue_47 : decode cX3_enqueue 47 = .ok (.getfield 53, 3) := by decide +kernel
theorem dX3_enqueue_50 : decode cX3_enqueue 50 = .ok (.iconst 1, 1) := by decide +kernel
theorem dX3_enqueue_51 : decode cX3_enqueue 51 = .ok (.iadd, 1) := by decide +kernel
theorem dX3_enqueue_52 : decode cX3_enqueue 52 = .ok (.putfield 53, 3) := by decide +kernel
theorem dX3_enqueue_55 : decode cX3_enqueue 55 = .ok (.return_, 1) := by decide +kernel
theorem dX4_mayGo_0 : decode cX4_mayGo 0 = .ok (.aload_n 0, 1) := by decide +kernel
theorem dX4_mayGo_1 : decode cX4_mayGo 1 = .ok (.iload_n 1, 1) := by decide +kernel
theorem dX4_mayGo_2 : decode cX4_mayGo 2 = .ok (.invokevirtual 37, 3) := by decide +kernel
theorem dX4_mayGo_5 : decode cX4_mayGo 5 = .ok (.ifCond .eq 53, 3) := by decide +kernel
theorem dX4_mayGo_8 : decode cX4_mayGo 8 = .ok (.aload_n 0, 1) := by decide +kernel
theorem dX4_mayGo_9 : decode cX4_mayGo 9 = .ok (.iload_n 2, 1) := by decide +kernel
theorem dX4_mayGo_10 : decode cX4_mayGo 10 = .ok (.invokevirtual 37, 3) := by decide +kernel
theorem dX4_mayGo_13 : decode cX4_mayGo 13 = .ok (.ifCond .eq 45, 3) := by decide +kernel
theorem dX4_mayGo_16 : decode cX4_mayGo 16 = .ok (.aload_n 0, 1) := by decide +kernel
theorem dX4_mayGo_17 : decode cX4_mayGo 17 = .ok (.getfield 15, 3) := by decide +kernel
theorem dX4_mayGo_20 : decode cX4_mayGo 20 = .ok (.iload_n 2, 1) := by decide +kernel
theorem dX4_mayGo_21 : decode cX4_mayGo 21 = .ok (.iaload, 1) := by decide +kernel
theorem dX4_mayGo_22 : decode cX4_mayGo 22 = .ok (.aload_n 0, 1) := by decide +kernel
theorem dX4_mayGo_23 : decode cX4_mayGo 23 = .ok (.getfield 18, 3) := by decide +kernel
theorem dX4_mayGo_26 : decode cX4_mayGo 26 = .ok (.iload_n 1, 1) := by decide +kernel
theorem dX4_mayGo_27 : decode cX4_mayGo 27 = .ok (.iaload, 1) := by decide +kernel
theorem dX4_mayGo_28 : decode cX4_mayGo 28 = .ok (.aload_n 0, 1) := by decide +kernel
theorem dX4_mayGo_29 : decode cX4_mayGo 29 = .ok (.aload_n 0, 1) := by decide +kernel
theorem dX4_mayGo_30 : decode cX4_mayGo 30 = .ok (.getfield 9, 3) := by decide +kernel
theorem dX4_mayGo_33 : decode cX4_mayGo 33 = .ok (.iload_n 1, 1) := by decide +kernel
theorem dX4_mayGo_34 : decode cX4_mayGo 34 = .ok (.iaload, 1) := by decide +kernel
theorem dX4_mayGo_35 : decode cX4_mayGo 35 = .ok (.invokestatic 55, 3) := by decide +kernel
theorem dX4_mayGo_38 : decode cX4_mayGo 38 = .ok (.aload_n 0, 1) := by decide +kernel
theorem dX4_mayGo_39 : decode cX4_mayGo 39 = .ok (.getfield 9, 3) := by decide +kernel
theorem dX4_mayGo_42 : decode cX4_mayGo 42 = .ok (.iload_n 2, 1) := by decide +kernel
theorem dX4_mayGo_43 : decode cX4_mayGo 43 = .ok (.iaload, 1) := by decide +kernel
theorem dX4_mayGo_44 : decode cX4_mayGo 44 = .ok (.invokestatic 55, 3) := by decide +kernel
theorem dX4_mayGo_47 : decode cX4_mayGo 47 = .ok (.invokevirtual 48, 3) := by decide +kernel
theorem dX4_mayGo_50 : decode cX4_mayGo 50 = .ok (.iadd, 1) := by decide +kernel
theorem dX4_mayGo_51 : decode cX4_mayGo 51 = .ok (.if_icmp .lt 7, 3) := by decide +kernel
theorem dX4_mayGo_54 : decode cX4_mayGo 54 = .ok (.iconst 1, 1) := by decide +kernel
theorem dX4_mayGo_55 : decode cX4_mayGo 55 = .ok (.goto 4, 3) := by decide +kernel
theorem dX4_mayGo_58 : decode cX4_mayGo 58 = .ok (.iconst 0, 1) := by decide +kernel
theorem dX4_mayGo_59 : decode cX4_mayGo 59 = .ok (.ireturn, 1) := by decide +kernel
theorem dX3_goingBetween_0 : decode cX3_goingBetween 0 = .ok (.iload_n 1, 1) := by decide +kernel
theorem dX3_goingBetween_1 : decode cX3_goingBetween 1 = .ok (.iconst 0, 1) := by decide +kernel
theorem dX3_goingBetween_2 : decode cX3_goingBetween 2 = .ok (.bipush 11, 2) := by decide +kernel
theorem dX3_goingBetween_4 : decode cX3_goingBetween 4 = .ok (.invokestatic 72, 3) := by decide +kernel
theorem dX3_goingBetween_7 : decode cX3_goingBetween 7 = .ok (.ifCond .eq 27, 3) := by decide +kernel
theorem dX3_goingBetween_10 : decode cX3_goingBetween 10 = .ok (.iload_n 2, 1) := by decide +kernel
theorem dX3_goingBetween_11 : decode cX3_goingBetween 11 = .ok (.iconst 0, 1) := by decide +kernel
theorem dX3_goingBetween_12 : decode cX3_goingBetween 12 = .ok (.bipush 11, 2) := by decide +kernel
theorem dX3_goingBetween_14 : decode cX3_goingBetween 14 = .ok (.invokestatic 72, 3) := by decide +kernel
theorem dX3_goingBetween_17 : decode cX3_goingBetween 17 = .ok (.ifCond .eq 17, 3) := by decide +kernel
theorem dX3_goingBetween_20 : decode cX3_goingBetween 20 = .ok (.aload_n 0, 1) := by decide +kernel
theorem dX3_goingBetween_21 : decode cX3_goingBetween 21 = .ok (.getfield 15, 3) := by decide +kernel
theorem dX3_goingBetween_24 : decode cX3_goingBetween 24 = .ok (.iload_n 1, 1) := by decide +kernel
theorem dX3_goingBetween_25 : decode cX3_goingBetween 25 = .ok (.bipush 12, 2) := by decide +kernel
theorem dX3_goingBetween_27 : decode cX3_goingBetween 27 = .ok (.imul, 1) := by decide +kernel
theorem dX3_goingBetween_28 : decode cX3_goingBetween 28 = .ok (.iload_n 2, 1) := by decide +kernel
theorem dX3_goingBetween_29 : decode cX3_goingBetween 29 = .ok (.iadd, 1) := by decide +kernel
theorem dX3_goingBetween_30 : decode cX3_goingBetween 30 = .ok (.iaload, 1) := by decide +kernel
theorem dX3_goingBetween_31 : decode cX3_goingBetween 31 = .ok (.goto 4, 3) := by decide +kernel
theorem dX3_goingBetween_34 : decode cX3_goingBetween 34 = .ok (.iconst 0, 1) := by decide +kernel
theorem dX3_goingBetween_35 : decode cX3_goingBetween 35 = .ok (.ireturn, 1) := by decide +kernel
theorem dX3_enqueueThoseGoingTo_0 : decode cX3_enqueueThoseGoingTo 0 = .ok (.iconst 0, 1) := by decide +kernel
theorem dX3_enqueueThoseGoingTo_1 : decode cX3_enqueueThoseGoingTo 1 = .ok (.istore_n 2, 1) := by decide +kernel
theorem dX3_enqueueThoseGoingTo_2 : decode cX3_enqueueThoseGoingTo 2 = .ok (.iload_n 2, 1) := by decide +kernel
theorem dX3_enqueueThoseGoingTo_3 : decode cX3_enqueueThoseGoingTo 3 = .ok (.bipush 12, 2) := by decide +kernel
theorem dX3_enqueueThoseGoingTo_5 : decode cX3_enqueueThoseGoingTo 5 = .ok (.if_icmp .ge 24, 3) := by decide +kernel
theorem dX3_enqueueThoseGoingTo_8 : decode cX3_enqueueThoseGoingTo 8 = .ok (.aload_n 0, 1) := by decide +kernel
theorem dX3_enqueueThoseGoingTo_9 : decode cX3_enqueueThoseGoingTo 9 = .ok (.iload_n 2, 1) := by decide +kernel
theorem dX3_enqueueThoseGoingTo_10 : decode cX3_enqueueThoseGoingTo 10 = .ok (.iload_n 1, 1) := by decide +kernel
theorem dX3_enqueueThoseGoingTo_11 : decode cX3_enqueueThoseGoingTo 11 = .ok (.invokevirtual 68, 3) := by decide +kernel
theorem dX3_enqueueThoseGoingTo_14 : decode cX3_enqueueThoseGoingTo 14 = .ok (.ifCond .le 9, 3) := by decide +kernel
theorem dX3_enqueueThoseGoingTo_17 : decode cX3_enqueueThoseGoingTo 17 = .ok (.aload_n 0, 1) := by decide +kernel
theorem dX3_enqueueThoseGoingTo_18 : decode cX3_enqueueThoseGoingTo 18 = .ok (.iload_n 2, 1) := by decide +kernel
theorem dX3_enqueueThoseGoingTo_19 : decode cX3_enqueueThoseGoingTo 19 = .ok (.iload_n 1, 1) := by decide +kernel
theorem dX3_enqueueThoseGoingTo_20 : decode cX3_enqueueThoseGoingTo 20 = .ok (.invokevirtual 57, 3) := by decide +kernel
theorem dX3_enqueueThoseGoingTo_23 : decode cX3_enqueueThoseGoingTo 23 = .ok (.iinc 2 1, 3) := by decide +kernel
theorem dX3_enqueueThoseGoingTo_26 : decode cX3_enqueueThoseGoingTo 26 = .ok (.goto (-24), 3) := by decide +kernel
theorem dX3_enqueueThoseGoingTo_29 : decode cX3_enqueueThoseGoingTo 29 = .ok (.return_, 1) := by decide +kernel
theorem dX3_search_0 : decode cX3_search 0 = .ok (.aload_n 0, 1) := by decide +kernel
theorem dX3_search_1 : decode cX3_search 1 = .ok (.getfield 18, 3) := by decide +kernel
theorem dX3_search_4 : decode cX3_search 4 = .ok (.iconst (-1), 1) := by decide +kernel
theorem dX3_search_5 : decode cX3_search 5 = .ok (.invokestatic 31, 3) := by decide +kernel
theorem dX3_search_8 : decode cX3_search 8 = .ok (.aload_n 0, 1) := by decide +kernel
theorem dX3_search_9 : decode cX3_search 9 = .ok (.getfield 21, 3) := by decide +kernel
theorem dX3_search_12 : decode cX3_search 12 = .ok (.iconst (-1), 1) := by decide +kernel
theorem dX3_search_13 : decode cX3_search 13 = .ok (.invokestatic 31, 3) := by decide +kernel
theorem dX3_search_16 : decode cX3_search 16 = .ok (.aload_n 0, 1) := by decide +kernel
theorem dX3_search_17 : decode cX3_search 17 = .ok (.iconst 0, 1) := by decide +kernel
theorem dX3_search_18 : decode cX3_search 18 = .ok (.putfield 53, 3) := by decide +kernel
theorem dX3_search_21 : decode cX3_search 21 = .ok (.aload_n 0, 1) := by decide +kernel
theorem dX3_search_22 : decode cX3_search 22 = .ok (.iload_n 1, 1) := by decide +kernel
theorem dX3_search_23 : decode cX3_search 23 = .ok (.iload_n 1, 1) := by decide +kernel
theorem dX3_search_24 : decode cX3_search 24 = .ok (.invokevirtual 57, 3) := by decide +kernel
theorem dX3_search_27 : decode cX3_search 27 = .ok (.iconst 0, 1) := by decide +kernel
theorem dX3_search_28 : decode cX3_search 28 = .ok (.istore_n 2, 1) := by decide +kernel
theorem dX3_search_29 : decode cX3_search 29 = .ok (.iload_n 2, 1) := by decide +kernel
theorem dX3_search_30 : decode cX3_search 30 = .ok (.aload_n 0, 1) := by decide +kernel
theorem dX3_search_31 : decode cX3_search 31 = .ok (.getfield 53, 3) := by decide +kernel
theorem dX3_search_34 : decode cX3_search 34 = .ok (.if_icmp .ge 88, 3) := by decide +kernel
theorem dX3_search_37 : decode cX3_search 37 = .ok (.iload_n 2, 1) := by decide +kernel
theorem dX3_search_38 : decode cX3_search 38 = .ok (.bipush 12, 2) := by decide +kernel
theorem dX3_search_40 : decode cX3_search 40 = .ok (.if_icmp .ge 82, 3) := by decide +kernel
theorem dX3_search_43 : decode cX3_search 43 = .ok (.aload_n 0, 1) := by decide +kernel
theorem dX3_search_44 : decode cX3_search 44 = .ok (.getfield 24, 3) := by decide +kernel
theorem dX3_search_47 : decode cX3_search 47 = .ok (.iload_n 2, 1) := by decide +kernel
theorem dX3_search_48 : decode cX3_search 48 = .ok (.iaload, 1) := by decide +kernel
theorem dX3_search_49 : decode cX3_search 49 = .ok (.istore_n 3, 1) := by decide +kernel
theorem dX3_search_50 : decode cX3_search 50 = .ok (.iconst 0, 1) := by decide +kernel
theorem dX3_search_51 : decode cX3_search 51 = .ok (.istore 4, 2) := by decide +kernel
theorem dX3_search_53 : decode cX3_search 53 = .ok (.iload 4, 2) := by decide +kernel
theorem dX3_search_55 : decode cX3_search 55 = .ok (.bipush 12, 2) := by decide +kernel
theorem dX3_search_57 : decode cX3_search 57 = .ok (.if_icmp .ge 59, 3) := by decide +kernel
theorem dX3_search_60 : decode cX3_search 60 = .ok (.aload_n 0, 1) := by decide +kernel
theorem dX3_search_61 : decode cX3_search 61 = .ok (.getfield 18, 3) := by decide +kernel
theorem dX3_search_64 : decode cX3_search 64 = .ok (.iload 4, 2) := by decide +kernel
theorem dX3_search_66 : decode cX3_search 66 = .ok (.iaload, 1) := by decide +kernel
theorem dX3_search_67 : decode cX3_search 67 = .ok (.ifCond .ge 43, 3) := by decide +kernel
theorem dX3_search_70 : decode cX3_search 70 = .ok (.aload_n 0, 1) := by decide +kernel
theorem dX3_search_71 : decode cX3_search 71 = .ok (.getfield 27, 3) := by decide +kernel
theorem dX3_search_74 : decode cX3_search 74 = .ok (.iload_n 3, 1) := by decide +kernel
theorem dX3_search_75 : decode cX3_search 75 = .ok (.iload 4, 2) := by decide +kernel
theorem dX3_search_77 : decode cX3_search 77 = .ok (.invokevirtual 60, 3) := by decide +kernel
theorem dX3_search_80 : decode cX3_search 80 = .ok (.ifCond .eq 30, 3) := by decide +kernel
theorem dX3_search_83 : decode cX3_search 83 = .ok (.aload_n 0, 1) := by decide +kernel
theorem dX3_search_84 : decode cX3_search 84 = .ok (.getfield 18, 3) := by decide +kernel
theorem dX3_search_87 : decode cX3_search 87 = .ok (.iload 4, 2) := by decide +kernel
theorem dX3_search_89 : decode cX3_search 89 = .ok (.iload_n 3, 1) := by decide +kernel
theorem dX3_search_90 : decode cX3_search 90 = .ok (.iastore, 1) := by decide +kernel
theorem dX3_search_91 : decode cX3_search 91 = .ok (.aload_n 0, 1) := by decide +kernel
theorem dX3_search_92 : decode cX3_search 92 = .ok (.getfield 9, 3) := by decide +kernel
theorem dX3_search_95 : decode cX3_search 95 = .ok (.iload 4, 2) := by decide +kernel
theorem dX3_search_97 : decode cX3_search 97 = .ok (.iaload, 1) := by decide +kernel
theorem dX3_search_98 : decode cX3_search 98 = .ok (.ifCond .le 6, 3) := by decide +kernel
theorem dX3_search_101 : decode cX3_search 101 = .ok (.iload 4, 2) := by decide +kernel
theorem dX3_search_103 : decode cX3_search 103 = .ok (.ireturn, 1) := by decide +kernel
theorem dX3_search_104 : decode cX3_search 104 = .ok (.aload_n 0, 1) := by decide +kernel
theorem dX3_search_105 : decode cX3_search 105 = .ok (.iload 4, 2) := by decide +kernel
theorem dX3_search_107 : decode cX3_search 107 = .ok (.invokevirtual 64, 3) := by decide +kernel
theorem dX3_search_110 : decode cX3_search 110 = .ok (.iinc 4 1, 3) := by decide +kernel
theorem dX3_search_113 : decode cX3_search 113 = .ok (.goto (-60), 3) := by decide +kernel
theorem dX3_search_116 : decode cX3_search 116 = .ok (.iinc 2 1, 3) := by decide +kernel
theorem dX3_search_119 : decode cX3_search 119 = .ok (.goto (-90), 3) := by decide +kernel
theorem dX3_search_122 : decode cX3_search 122 = .ok (.iconst (-1), 1) := by decide +kernel
theorem dX3_search_123 : decode cX3_search 123 = .ok (.ireturn, 1) := by decide +kernel
theorem dX3_noteGoing_0 : decode cX3_noteGoing 0 = .ok (.iload_n 1, 1) := by decide +kernel
theorem dX3_noteGoing_1 : decode cX3_noteGoing 1 = .ok (.iconst 0, 1) := by decide +kernel
theorem dX3_noteGoing_2 : decode cX3_noteGoing 2 = .ok (.bipush 11, 2) := by decide +kernel
theorem dX3_noteGoing_4 : decode cX3_noteGoing 4 = .ok (.invokestatic 72, 3) := by decide +kernel
theorem dX3_noteGoing_7 : decode cX3_noteGoing 7 = .ok (.ifCond .eq 28, 3) := by decide +kernel
theorem dX3_noteGoing_10 : decode cX3_noteGoing 10 = .ok (.iload_n 2, 1) := by decide +kernel
theorem dX3_noteGoing_11 : decode cX3_noteGoing 11 = .ok (.iconst 0, 1) := by decide +kernel
theorem dX3_noteGoing_12 : decode cX3_noteGoing 12 = .ok (.bipush 11, 2) := by decide +kernel
theorem dX3_noteGoing_14 : decode cX3_noteGoing 14 = .ok (.invokestatic 72, 3) := by decide +kernel
theorem dX3_noteGoing_17 : decode cX3_noteGoing 17 = .ok (.ifCond .eq 18, 3) := by decide +kernel
theorem dX3_noteGoing_20 : decode cX3_noteGoing 20 = .ok (.aload_n 0, 1) := by decide +kernel
theorem dX3_noteGoing_21 : decode cX3_noteGoing 21 = .ok (.getfield 15, 3) := by decide +kernel
theorem dX3_noteGoing_24 : decode cX3_noteGoing 24 = .ok (.iload_n 1, 1) := by decide +kernel
theorem dX3_noteGoing_25 : decode cX3_noteGoing 25 = .ok (.bipush 12, 2) := by decide +kernel
theorem dX3_noteGoing_27 : decode cX3_noteGoing 27 = .ok (.imul, 1) := by decide +kernel
theorem dX3_noteGoing_28 : decode cX3_noteGoing 28 = .ok (.iload_n 2, 1) := by decide +kernel
theorem dX3_noteGoing_29 : decode cX3_noteGoing 29 = .ok (.iadd, 1) := by decide +kernel
theorem dX3_noteGoing_30 : decode cX3_noteGoing 30 = .ok (.dup2, 1) := by decide +kernel
theorem dX3_noteGoing_31 : decode cX3_noteGoing 31 = .ok (.iaload, 1) := by decide +kernel
theorem dX3_noteGoing_32 : decode cX3_noteGoing 32 = .ok (.iload_n 3, 1) := by decide +kernel
theorem dX3_noteGoing_33 : decode cX3_noteGoing 33 = .ok (.iadd, 1) := by decide +kernel
theorem dX3_noteGoing_34 : decode cX3_noteGoing 34 = .ok (.iastore, 1) := by decide +kernel
theorem dX3_noteGoing_35 : decode cX3_noteGoing 35 = .ok (.return_, 1) := by decide +kernel
theorem dX3_settle_0 : decode cX3_settle 0 = .ok (.iload_n 2, 1) := by decide +kernel
theorem dX3_settle_1 : decode cX3_settle 1 = .ok (.iconst 0, 1) := by decide +kernel
theorem dX3_settle_2 : decode cX3_settle 2 = .ok (.bipush 11, 2) := by decide +kernel
theorem dX3_settle_4 : decode cX3_settle 4 = .ok (.invokestatic 72, 3) := by decide +kernel
theorem dX3_settle_7 : decode cX3_settle 7 = .ok (.ifCond .ne 4, 3) := by decide +kernel
theorem dX3_settle_10 : decode cX3_settle 10 = .ok (.return_, 1) := by decide +kernel
theorem dX3_settle_11 : decode cX3_settle 11 = .ok (.aload_n 0, 1) := by decide +kernel
theorem dX3_settle_12 : decode cX3_settle 12 = .ok (.getfield 9, 3) := by decide +kernel
theorem dX3_settle_15 : decode cX3_settle 15 = .ok (.iload_n 2, 1) := by decide +kernel
theorem dX3_settle_16 : decode cX3_settle 16 = .ok (.dup2, 1) := by decide +kernel
theorem dX3_settle_17 : decode cX3_settle 17 = .ok (.iaload, 1) := by decide +kernel
theorem dX3_settle_18 : decode cX3_settle 18 = .ok (.iconst 1, 1) := by decide +kernel
theorem dX3_settle_19 : decode cX3_settle 19 = .ok (.isub, 1) := by decide +kernel
theorem dX3_settle_20 : decode cX3_settle 20 = .ok (.iastore, 1) := by decide +kernel
theorem dX3_settle_21 : decode cX3_settle 21 = .ok (.iload_n 2, 1) := by decide +kernel
theorem dX3_settle_22 : decode cX3_settle 22 = .ok (.istore_n 3, 1) := by decide +kernel
theorem dX3_settle_23 : decode cX3_settle 23 = .ok (.iconst 0, 1) := by decide +kernel
theorem dX3_settle_24 : decode cX3_settle 24 = .ok (.istore 4, 2) := by decide +kernel
theorem dX3_settle_26 : decode cX3_settle 26 = .ok (.iload 4, 2) := by decide +kernel
theorem dX3_settle_28 : decode cX3_settle 28 = .ok (.bipush 12, 2) := by decide +kernel
theorem dX3_settle_30 : decode cX3_settle 30 = .ok (.if_icmp .ge 69, 3) := by decide +kernel
theorem dX3_settle_33 : decode cX3_settle 33 = .ok (.iload_n 3, 1) := by decide +kernel
theorem dX3_settle_34 : decode cX3_settle 34 = .ok (.iconst 0, 1) := by decide +kernel
theorem dX3_settle_35 : decode cX3_settle 35 = .ok (.bipush 11, 2) := by decide +kernel
theorem dX3_settle_37 : decode cX3_settle 37 = .ok (.invokestatic 72, 3) := by decide +kernel
theorem dX3_settle_40 : decode cX3_settle 40 = .ok (.ifCond .eq 59, 3) := by decide +kernel
theorem dX3_settle_43 : decode cX3_settle 43 = .ok (.aload_n 0, 1) := by decide +kernel
theorem dX3_settle_44 : decode cX3_settle 44 = .ok (.getfield 18, 3) := by decide +kernel
theorem dX3_settle_47 : decode cX3_settle 47 = .ok (.iload_n 3, 1) := by decide +kernel
theorem dX3_settle_48 : decode cX3_settle 48 = .ok (.iaload, 1) := by decide +kernel
theorem dX3_settle_49 : decode cX3_settle 49 = .ok (.istore 5, 2) := by decide +kernel
theorem dX3_settle_51 : decode cX3_settle 51 = .ok (.aload_n 0, 1) := by decide +kernel
theorem dX3_settle_52 : decode cX3_settle 52 = .ok (.iload 5, 2) := by decide +kernel
theorem dX3_settle_54 : decode cX3_settle 54 = .ok (.iload_n 3, 1) := by decide +kernel
theorem dX3_settle_55 : decode cX3_settle 55 = .ok (.iconst 1, 1) := by decide +kernel
theorem dX3_settle_56 : decode cX3_settle 56 = .ok (.invokevirtual 76, 3) := by decide +kernel
theorem dX3_settle_59 : decode cX3_settle 59 = .ok (.iload 5, 2) := by decide +kernel
theorem dX3_settle_61 : decode cX3_settle 61 = .ok (.iload_n 1, 1) := by decide +kernel
theorem dX3_settle_62 : decode cX3_settle 62 = .ok (.if_icmp .eq 14, 3) := by decide +kernel
theorem dX3_settle_65 : decode cX3_settle 65 = .ok (.iload 5, 2) := by decide +kernel
theorem dX3_settle_67 : decode cX3_settle 67 = .ok (.iconst 0, 1) := by decide +kernel
theorem dX3_settle_68 : decode cX3_settle 68 = .ok (.bipush 11, 2) := by decide +kernel
theorem dX3_settle_70 : decode cX3_settle 70 = .ok (.invokestatic 72, 3) := by decide +kernel
theorem dX3_settle_73 : decode cX3_settle 73 = .ok (.ifCond .ne 4, 3) := by decide +kernel
theorem dX3_settle_76 : decode cX3_settle 76 = .ok (.return_, 1) := by decide +kernel
theorem dX3_settle_77 : decode cX3_settle 77 = .ok (.aload_n 0, 1) := by decide +kernel
theorem dX3_settle_78 : decode cX3_settle 78 = .ok (.getfield 21, 3) := by decide +kernel
theorem dX3_settle_81 : decode cX3_settle 81 = .ok (.iload 5, 2) := by decide +kernel
theorem dX3_settle_83 : decode cX3_settle 83 = .ok (.iaload, 1) := by decide +kernel
theorem dX3_settle_84 : decode cX3_settle 84 = .ok (.istore_n 3, 1) := by decide +kernel
theorem dX3_settle_85 : decode cX3_settle 85 = .ok (.aload_n 0, 1) := by decide +kernel
theorem dX3_settle_86 : decode cX3_settle 86 = .ok (.iload 5, 2) := by decide +kernel
theorem dX3_settle_88 : decode cX3_settle 88 = .ok (.iload_n 3, 1) := by decide +kernel
theorem dX3_settle_89 : decode cX3_settle 89 = .ok (.iconst (-1), 1) := by decide +kernel
theorem dX3_settle_90 : decode cX3_settle 90 = .ok (.invokevirtual 76, 3) := by decide +kernel
theorem dX3_settle_93 : decode cX3_settle 93 = .ok (.iinc 4 1, 3) := by decide +kernel
theorem dX3_settle_96 : decode cX3_settle 96 = .ok (.goto (-70), 3) := by decide +kernel
theorem dX3_settle_99 : decode cX3_settle 99 = .ok (.return_, 1) := by decide +kernel
theorem dX3_sendOn_0 : decode cX3_sendOn 0 = .ok (.iconst 0, 1) := by decide +kernel
theorem dX3_sendOn_1 : decode cX3_sendOn 1 = .ok (.istore_n 2, 1) := by decide +kernel
theorem dX3_sendOn_2 : decode cX3_sendOn 2 = .ok (.aload_n 0, 1) := by decide +kernel
theorem dX3_sendOn_3 : decode cX3_sendOn 3 = .ok (.getfield 27, 3) := by decide +kernel
theorem dX3_sendOn_6 : decode cX3_sendOn 6 = .ok (.iload_n 1, 1) := by decide +kernel
theorem dX3_sendOn_7 : decode cX3_sendOn 7 = .ok (.invokevirtual 37, 3) := by decide +kernel
theorem dX3_sendOn_10 : decode cX3_sendOn 10 = .ok (.istore_n 3, 1) := by decide +kernel
theorem dX3_sendOn_11 : decode cX3_sendOn 11 = .ok (.iconst 0, 1) := by decide +kernel
theorem dX3_sendOn_12 : decode cX3_sendOn 12 = .ok (.istore 4, 2) := by decide +kernel
theorem dX3_sendOn_14 : decode cX3_sendOn 14 = .ok (.iload 4, 2) := by decide +kernel
theorem dX3_sendOn_16 : decode cX3_sendOn 16 = .ok (.iload_n 3, 1) := by decide +kernel
theorem dX3_sendOn_17 : decode cX3_sendOn 17 = .ok (.if_icmp .ge 33, 3) := by decide +kernel
theorem dX3_sendOn_20 : decode cX3_sendOn 20 = .ok (.aload_n 0, 1) := by decide +kernel
theorem dX3_sendOn_21 : decode cX3_sendOn 21 = .ok (.iload_n 1, 1) := by decide +kernel
theorem dX3_sendOn_22 : decode cX3_sendOn 22 = .ok (.invokevirtual 46, 3) := by decide +kernel
theorem dX3_sendOn_25 : decode cX3_sendOn 25 = .ok (.istore 5, 2) := by decide +kernel
theorem dX3_sendOn_27 : decode cX3_sendOn 27 = .ok (.iload 5, 2) := by decide +kernel
theorem dX3_sendOn_29 : decode cX3_sendOn 29 = .ok (.ifCond .ge 5, 3) := by decide +kernel
theorem dX3_sendOn_32 : decode cX3_sendOn 32 = .ok (.iload_n 2, 1) := by decide +kernel
theorem dX3_sendOn_33 : decode cX3_sendOn 33 = .ok (.ireturn, 1) := by decide +kernel
theorem dX3_sendOn_34 : decode cX3_sendOn 34 = .ok (.aload_n 0, 1) := by decide +kernel
theorem dX3_sendOn_35 : decode cX3_sendOn 35 = .ok (.iload_n 1, 1) := by decide +kernel
theorem dX3_sendOn_36 : decode cX3_sendOn 36 = .ok (.iload 5, 2) := by decide +kernel
theorem dX3_sendOn_38 : decode cX3_sendOn 38 = .ok (.invokevirtual 49, 3) := by decide +kernel
theorem dX3_sendOn_41 : decode cX3_sendOn 41 = .ok (.iinc 2 1, 3) := by decide +kernel
theorem dX3_sendOn_44 : decode cX3_sendOn 44 = .ok (.iinc 4 1, 3) := by decide +kernel
theorem dX3_sendOn_47 : decode cX3_sendOn 47 = .ok (.goto (-33), 3) := by decide +kernel
theorem dX3_sendOn_50 : decode cX3_sendOn 50 = .ok (.iload_n 2, 1) := by decide +kernel
theorem dX3_sendOn_51 : decode cX3_sendOn 51 = .ok (.ireturn, 1) := by decide +kernel
theorem dX3_fewest_0 : decode cX3_fewest 0 = .ok (.iconst 0, 1) := by decide +kernel
theorem dX3_fewest_1 : decode cX3_fewest 1 = .ok (.istore_n 1, 1) := by decide +kernel
theorem dX3_fewest_2 : decode cX3_fewest 2 = .ok (.aload_n 0, 1) := by decide +kernel
theorem dX3_fewest_3 : decode cX3_fewest 3 = .ok (.getfield 15, 3) := by decide +kernel
theorem dX3_fewest_6 : decode cX3_fewest 6 = .ok (.iconst 0, 1) := by decide +kernel
theorem dX3_fewest_7 : decode cX3_fewest 7 = .ok (.invokestatic 31, 3) := by decide +kernel
theorem dX3_fewest_10 : decode cX3_fewest 10 = .ok (.iconst 0, 1) := by decide +kernel
theorem dX3_fewest_11 : decode cX3_fewest 11 = .ok (.istore_n 2, 1) := by decide +kernel
theorem dX3_fewest_12 : decode cX3_fewest 12 = .ok (.iload_n 2, 1) := by decide +kernel
theorem dX3_fewest_13 : decode cX3_fewest 13 = .ok (.bipush 12, 2) := by decide +kernel
theorem dX3_fewest_15 : decode cX3_fewest 15 = .ok (.if_icmp .ge 32, 3) := by decide +kernel
theorem dX3_fewest_18 : decode cX3_fewest 18 = .ok (.aload_n 0, 1) := by decide +kernel
theorem dX3_fewest_19 : decode cX3_fewest 19 = .ok (.getfield 9, 3) := by decide +kernel
theorem dX3_fewest_22 : decode cX3_fewest 22 = .ok (.iload_n 2, 1) := by decide +kernel
theorem dX3_fewest_23 : decode cX3_fewest 23 = .ok (.aload_n 0, 1) := by decide +kernel
theorem dX3_fewest_24 : decode cX3_fewest 24 = .ok (.getfield 27, 3) := by decide +kernel
theorem dX3_fewest_27 : decode cX3_fewest 27 = .ok (.iload_n 2, 1) := by decide +kernel
theorem dX3_fewest_28 : decode cX3_fewest 28 = .ok (.invokevirtual 37, 3) := by decide +kernel
theorem dX3_fewest_31 : decode cX3_fewest 31 = .ok (.iastore, 1) := by decide +kernel
theorem dX3_fewest_32 : decode cX3_fewest 32 = .ok (.iload_n 1, 1) := by decide +kernel
theorem dX3_fewest_33 : decode cX3_fewest 33 = .ok (.aload_n 0, 1) := by decide +kernel
theorem dX3_fewest_34 : decode cX3_fewest 34 = .ok (.getfield 9, 3) := by decide +kernel
theorem dX3_fewest_37 : decode cX3_fewest 37 = .ok (.iload_n 2, 1) := by decide +kernel
theorem dX3_fewest_38 : decode cX3_fewest 38 = .ok (.iaload, 1) := by decide +kernel
theorem dX3_fewest_39 : decode cX3_fewest 39 = .ok (.iadd, 1) := by decide +kernel
theorem dX3_fewest_40 : decode cX3_fewest 40 = .ok (.istore_n 1, 1) := by decide +kernel
theorem dX3_fewest_41 : decode cX3_fewest 41 = .ok (.iinc 2 1, 3) := by decide +kernel
theorem dX3_fewest_44 : decode cX3_fewest 44 = .ok (.goto (-32), 3) := by decide +kernel
theorem dX3_fewest_47 : decode cX3_fewest 47 = .ok (.iconst 0, 1) := by decide +kernel
theorem dX3_fewest_48 : decode cX3_fewest 48 = .ok (.istore_n 2, 1) := by decide +kernel
theorem dX3_fewest_49 : decode cX3_fewest 49 = .ok (.iload_n 2, 1) := by decide +kernel
theorem dX3_fewest_50 : decode cX3_fewest 50 = .ok (.bipush 12, 2) := by decide +kernel
theorem dX3_fewest_52 : decode cX3_fewest 52 = .ok (.if_icmp .ge 17, 3) := by decide +kernel
theorem dX3_fewest_55 : decode cX3_fewest 55 = .ok (.iload_n 1, 1) := by decide +kernel
theorem dX3_fewest_56 : decode cX3_fewest 56 = .ok (.aload_n 0, 1) := by decide +kernel
theorem dX3_fewest_57 : decode cX3_fewest 57 = .ok (.iload_n 2, 1) := by decide +kernel
theorem dX3_fewest_58 : decode cX3_fewest 58 = .ok (.invokevirtual 43, 3) := by decide +kernel
theorem dX3_fewest_61 : decode cX3_fewest 61 = .ok (.isub, 1) := by decide +kernel
theorem dX3_fewest_62 : decode cX3_fewest 62 = .ok (.istore_n 1, 1) := by decide +kernel
theorem dX3_fewest_63 : decode cX3_fewest 63 = .ok (.iinc 2 1, 3) := by decide +kernel
theorem dX3_fewest_66 : decode cX3_fewest 66 = .ok (.goto (-17), 3) := by decide +kernel
theorem dX3_fewest_69 : decode cX3_fewest 69 = .ok (.iload_n 1, 1) := by decide +kernel
theorem dX3_fewest_70 : decode cX3_fewest 70 = .ok (.ireturn, 1) := by decide +kernel
theorem dX6_dressers_0 : decode cX6_dressers 0 = .ok (.aload_n 0, 1) := by decide +kernel
theorem dX6_dressers_1 : decode cX6_dressers 1 = .ok (.getfield 44, 3) := by decide +kernel
theorem dX6_dressers_4 : decode cX6_dressers 4 = .ok (.invokevirtual 176, 3) := by decide +kernel
theorem dX6_dressers_7 : decode cX6_dressers 7 = .ok (.ireturn, 1) := by decide +kernel
theorem dX7_canGo_0 : decode cX7_canGo 0 = .ok (.aload_n 0, 1) := by decide +kernel
theorem dX7_canGo_1 : decode cX7_canGo 1 = .ok (.getfield 59, 3) := by decide +kernel
theorem dX7_canGo_4 : decode cX7_canGo 4 = .ok (.iload_n 2, 1) := by decide +kernel
theorem dX7_canGo_5 : decode cX7_canGo 5 = .ok (.iaload, 1) := by decide +kernel
theorem dX7_canGo_6 : decode cX7_canGo 6 = .ok (.aload_n 0, 1) := by decide +kernel
theorem dX7_canGo_7 : decode cX7_canGo 7 = .ok (.getfield 62, 3) := by decide +kernel
theorem dX7_canGo_10 : decode cX7_canGo 10 = .ok (.iload_n 1, 1) := by decide +kernel
theorem dX7_canGo_11 : decode cX7_canGo 11 = .ok (.iaload, 1) := by decide +kernel
theorem dX7_canGo_12 : decode cX7_canGo 12 = .ok (.aload_n 0, 1) := by decide +kernel
theorem dX7_canGo_13 : decode cX7_canGo 13 = .ok (.getfield 68, 3) := by decide +kernel
theorem dX7_canGo_16 : decode cX7_canGo 16 = .ok (.bipush 6, 2) := by decide +kernel
theorem dX7_canGo_18 : decode cX7_canGo 18 = .ok (.aload_n 0, 1) := by decide +kernel
theorem dX7_canGo_19 : decode cX7_canGo 19 = .ok (.getfield 56, 3) := by decide +kernel
theorem dX7_canGo_22 : decode cX7_canGo 22 = .ok (.iload_n 1, 1) := by decide +kernel
theorem dX7_canGo_23 : decode cX7_canGo 23 = .ok (.iaload, 1) := by decide +kernel
theorem dX7_canGo_24 : decode cX7_canGo 24 = .ok (.imul, 1) := by decide +kernel
theorem dX7_canGo_25 : decode cX7_canGo 25 = .ok (.aload_n 0, 1) := by decide +kernel
theorem dX7_canGo_26 : decode cX7_canGo 26 = .ok (.getfield 56, 3) := by decide +kernel
theorem dX7_canGo_29 : decode cX7_canGo 29 = .ok (.iload_n 2, 1) := by decide +kernel
theorem dX7_canGo_30 : decode cX7_canGo 30 = .ok (.iaload, 1) := by decide +kernel
theorem dX7_canGo_31 : decode cX7_canGo 31 = .ok (.iadd, 1) := by decide +kernel
theorem dX7_canGo_32 : decode cX7_canGo 32 = .ok (.iaload, 1) := by decide +kernel
theorem dX7_canGo_33 : decode cX7_canGo 33 = .ok (.iadd, 1) := by decide +kernel
theorem dX7_canGo_34 : decode cX7_canGo 34 = .ok (.if_icmp .lt 7, 3) := by decide +kernel
theorem dX7_canGo_37 : decode cX7_canGo 37 = .ok (.iconst 1, 1) := by decide +kernel
theorem dX7_canGo_38 : decode cX7_canGo 38 = .ok (.goto 4, 3) := by decide +kernel
theorem dX7_canGo_41 : decode cX7_canGo 41 = .ok (.iconst 0, 1) := by decide +kernel
theorem dX7_canGo_42 : decode cX7_canGo 42 = .ok (.ireturn, 1) := by decide +kernel
theorem dX7_finds_0 : decode cX7_finds 0 = .ok (.iconst 0, 1) := by decide +kernel
theorem dX7_finds_1 : decode cX7_finds 1 = .ok (.istore_n 2, 1) := by decide +kernel
theorem dX7_finds_2 : decode cX7_finds 2 = .ok (.iload_n 2, 1) := by decide +kernel
theorem dX7_finds_3 : decode cX7_finds 3 = .ok (.aload_n 0, 1) := by decide +kernel
theorem dX7_finds_4 : decode cX7_finds 4 = .ok (.getfield 169, 3) := by decide +kernel
theorem dX7_finds_7 : decode cX7_finds 7 = .ok (.if_icmp .ge 16, 3) := by decide +kernel
theorem dX7_finds_10 : decode cX7_finds 10 = .ok (.aload_n 0, 1) := by decide +kernel
theorem dX7_finds_11 : decode cX7_finds 11 = .ok (.getfield 83, 3) := by decide +kernel
theorem dX7_finds_14 : decode cX7_finds 14 = .ok (.iload_n 2, 1) := by decide +kernel
theorem dX7_finds_15 : decode cX7_finds 15 = .ok (.iconst 0, 1) := by decide +kernel
theorem dX7_finds_16 : decode cX7_finds 16 = .ok (.bastore, 1) := by decide +kernel
theorem dX7_finds_17 : decode cX7_finds 17 = .ok (.iinc 2 1, 3) := by decide +kernel
theorem dX7_finds_20 : decode cX7_finds 20 = .ok (.goto (-18), 3) := by decide +kernel
theorem dX7_finds_23 : decode cX7_finds 23 = .ok (.iconst 0, 1) := by decide +kernel
theorem dX7_finds_24 : decode cX7_finds 24 = .ok (.istore_n 2, 1) := by decide +kernel
theorem dX7_finds_25 : decode cX7_finds 25 = .ok (.aload_n 0, 1) := by decide +kernel
theorem dX7_finds_26 : decode cX7_finds 26 = .ok (.getfield 87, 3) := by decide +kernel
theorem dX7_finds_29 : decode cX7_finds 29 = .ok (.iconst 0, 1) := by decide +kernel
theorem dX7_finds_30 : decode cX7_finds 30 = .ok (.iload_n 1, 1) := by decide +kernel
theorem dX7_finds_31 : decode cX7_finds 31 = .ok (.iastore, 1) := by decide +kernel
theorem dX7_finds_32 : decode cX7_finds 32 = .ok (.aload_n 0, 1) := by decide +kernel
theorem dX7_finds_33 : decode cX7_finds 33 = .ok (.getfield 90, 3) := by decide +kernel
theorem dX7_finds_36 : decode cX7_finds 36 = .ok (.iconst 0, 1) := by decide +kernel
theorem dX7_finds_37 : decode cX7_finds 37 = .ok (.iconst (-1), 1) := by decide +kernel
theorem dX7_finds_38 : decode cX7_finds 38 = .ok (.iastore, 1) := by decide +kernel
theorem dX7_finds_39 : decode cX7_finds 39 = .ok (.iload_n 2, 1) := by decide +kernel
theorem dX7_finds_40 : decode cX7_finds 40 = .ok (.ifCond .lt 147, 3) := by decide +kernel
theorem dX7_finds_43 : decode cX7_finds 43 = .ok (.aload_n 0, 1) := by decide +kernel
theorem dX7_finds_44 : decode cX7_finds 44 = .ok (.getfield 90, 3) := by decide +kernel
theorem dX7_finds_47 : decode cX7_finds 47 = .ok (.iload_n 2, 1) := by decide +kernel
theorem dX7_finds_48 : decode cX7_finds 48 = .ok (.dup2, 1) := by decide +kernel
theorem dX7_finds_49 : decode cX7_finds 49 = .ok (.iaload, 1) := by decide +kernel
theorem dX7_finds_50 : decode cX7_finds 50 = .ok (.iconst 1, 1) := by decide +kernel
theorem dX7_finds_51 : decode cX7_finds 51 = .ok (.iadd, 1) := by decide +kernel
theorem dX7_finds_52 : decode cX7_finds 52 = .ok (.iastore, 1) := by decide +kernel
theorem dX7_finds_53 : decode cX7_finds 53 = .ok (.aload_n 0, 1) := by decide +kernel
theorem dX7_finds_54 : decode cX7_finds 54 = .ok (.getfield 90, 3) := by decide +kernel
theorem dX7_finds_57 : decode cX7_finds 57 = .ok (.iload_n 2, 1) := by decide +kernel
theorem dX7_finds_58 : decode cX7_finds 58 = .ok (.iaload, 1) := by decide +kernel
theorem dX7_finds_59 : decode cX7_finds 59 = .ok (.istore_n 3, 1) := by decide +kernel
theorem dX7_finds_60 : decode cX7_finds 60 = .ok (.iload_n 3, 1) := by decide +kernel
theorem dX7_finds_61 : decode cX7_finds 61 = .ok (.aload_n 0, 1) := by decide +kernel
theorem dX7_finds_62 : decode cX7_finds 62 = .ok (.getfield 169, 3) := by decide +kernel
theorem dX7_finds_65 : decode cX7_finds 65 = .ok (.if_icmp .ne 9, 3) := by decide +kernel
theorem dX7_finds_68 : decode cX7_finds 68 = .ok (.iinc 2 (-1), 3) := by decide +kernel
theorem dX7_finds_71 : decode cX7_finds 71 = .ok (.goto 113, 3) := by decide +kernel
theorem dX7_finds_74 : decode cX7_finds 74 = .ok (.aload_n 0, 1) := by decide +kernel
theorem dX7_finds_75 : decode cX7_finds 75 = .ok (.getfield 83, 3) := by decide +kernel
theorem dX7_finds_78 : decode cX7_finds 78 = .ok (.iload_n 3, 1) := by decide +kernel
theorem dX7_finds_79 : decode cX7_finds 79 = .ok (.baload, 1) := by decide +kernel
theorem dX7_finds_80 : decode cX7_finds 80 = .ok (.ifCond .ne 104, 3) := by decide +kernel
theorem dX7_finds_83 : decode cX7_finds 83 = .ok (.aload_n 0, 1) := by decide +kernel
theorem dX7_finds_84 : decode cX7_finds 84 = .ok (.aload_n 0, 1) := by decide +kernel
theorem dX7_finds_85 : decode cX7_finds 85 = .ok (.getfield 77, 3) := by decide +kernel
theorem dX7_finds_88 : decode cX7_finds 88 = .ok (.aload_n 0, 1) := by decide +kernel
theorem dX7_finds_89 : decode cX7_finds 89 = .ok (.getfield 87, 3) := by decide +kernel
theorem dX7_finds_92 : decode cX7_finds 92 = .ok (.iload_n 2, 1) := by decide +kernel
theorem dX7_finds_93 : decode cX7_finds 93 = .ok (.iaload, 1) := by decide +kernel
theorem dX7_finds_94 : decode cX7_finds 94 = .ok (.iaload, 1) := by decide +kernel
theorem dX7_finds_95 : decode cX7_finds 95 = .ok (.aload_n 0, 1) := by decide +kernel
theorem dX7_finds_96 : decode cX7_finds 96 = .ok (.getfield 77, 3) := by decide +kernel
theorem dX7_finds_99 : decode cX7_finds 99 = .ok (.iload_n 3, 1) := by decide +kernel
theorem dX7_finds_100 : decode cX7_finds 100 = .ok (.iaload, 1) := by decide +kernel
theorem dX7_finds_101 : decode cX7_finds 101 = .ok (.invokevirtual 172, 3) := by decide +kernel
theorem dX7_finds_104 : decode cX7_finds 104 = .ok (.ifCond .eq 80, 3) := by decide +kernel
theorem dX7_finds_107 : decode cX7_finds 107 = .ok (.aload_n 0, 1) := by decide +kernel
theorem dX7_finds_108 : decode cX7_finds 108 = .ok (.getfield 83, 3) := by decide +kernel
theorem dX7_finds_111 : decode cX7_finds 111 = .ok (.iload_n 3, 1) := by decide +kernel
theorem dX7_finds_112 : decode cX7_finds 112 = .ok (.iconst 1, 1) := by decide +kernel
theorem dX7_finds_113 : decode cX7_finds 113 = .ok (.bastore, 1) := by decide +kernel
theorem dX7_finds_114 : decode cX7_finds 114 = .ok (.aload_n 0, 1) := by decide +kernel
theorem dX7_finds_115 : decode cX7_finds 115 = .ok (.getfield 80, 3) := by decide +kernel
theorem dX7_finds_118 : decode cX7_finds 118 = .ok (.iload_n 3, 1) := by decide +kernel
theorem dX7_finds_119 : decode cX7_finds 119 = .ok (.iaload, 1) := by decide +kernel
theorem dX7_finds_120 : decode cX7_finds 120 = .ok (.ifCond .ge 38, 3) := by decide +kernel
theorem dX7_finds_123 : decode cX7_finds 123 = .ok (.iload_n 2, 1) := by decide +kernel
theorem dX7_finds_124 : decode cX7_finds 124 = .ok (.istore 4, 2) := by decide +kernel
theorem dX7_finds_126 : decode cX7_finds 126 = .ok (.iload 4, 2) := by decide +kernel
theorem dX7_finds_128 : decode cX7_finds 128 = .ok (.ifCond .lt 28, 3) := by decide +kernel
theorem dX7_finds_131 : decode cX7_finds 131 = .ok (.aload_n 0, 1) := by decide +kernel
theorem dX7_finds_132 : decode cX7_finds 132 = .ok (.getfield 80, 3) := by decide +kernel
theorem dX7_finds_135 : decode cX7_finds 135 = .ok (.aload_n 0, 1) := by decide +kernel
theorem dX7_finds_136 : decode cX7_finds 136 = .ok (.getfield 90, 3) := by decide +kernel
theorem dX7_finds_139 : decode cX7_finds 139 = .ok (.iload 4, 2) := by decide +kernel
theorem dX7_finds_141 : decode cX7_finds 141 = .ok (.iaload, 1) := by decide +kernel
theorem dX7_finds_142 : decode cX7_finds 142 = .ok (.aload_n 0, 1) := by decide +kernel
theorem dX7_finds_143 : decode cX7_finds 143 = .ok (.getfield 87, 3) := by decide +kernel
theorem dX7_finds_146 : decode cX7_finds 146 = .ok (.iload 4, 2) := by decide +kernel
theorem dX7_finds_148 : decode cX7_finds 148 = .ok (.iaload, 1) := by decide +kernel
theorem dX7_finds_149 : decode cX7_finds 149 = .ok (.iastore, 1) := by decide +kernel
theorem dX7_finds_150 : decode cX7_finds 150 = .ok (.iinc 4 (-1), 3) := by decide +kernel
theorem dX7_finds_153 : decode cX7_finds 153 = .ok (.goto (-27), 3) := by decide +kernel
theorem dX7_finds_156 : decode cX7_finds 156 = .ok (.iconst 1, 1) := by decide +kernel
theorem dX7_finds_157 : decode cX7_finds 157 = .ok (.ireturn, 1) := by decide +kernel
theorem dX7_finds_158 : decode cX7_finds 158 = .ok (.aload_n 0, 1) := by decide +kernel
theorem dX7_finds_159 : decode cX7_finds 159 = .ok (.getfield 87, 3) := by decide +kernel
theorem dX7_finds_162 : decode cX7_finds 162 = .ok (.iload_n 2, 1) := by decide +kernel
theorem dX7_finds_163 : decode cX7_finds 163 = .ok (.iconst 1, 1) := by decide +kernel
theorem dX7_finds_164 : decode cX7_finds 164 = .ok (.iadd, 1) := by decide +kernel
theorem dX7_finds_165 : decode cX7_finds 165 = .ok (.aload_n 0, 1) := by decide +kernel
theorem dX7_finds_166 : decode cX7_finds 166 = .ok (.getfield 80, 3) := by decide +kernel
theorem dX7_finds_169 : decode cX7_finds 169 = .ok (.iload_n 3, 1) := by decide +kernel
theorem dX7_finds_170 : decode cX7_finds 170 = .ok (.iaload, 1) := by decide +kernel
theorem dX7_finds_171 : decode cX7_finds 171 = .ok (.iastore, 1) := by decide +kernel
theorem dX7_finds_172 : decode cX7_finds 172 = .ok (.aload_n 0, 1) := by decide +kernel
theorem dX7_finds_173 : decode cX7_finds 173 = .ok (.getfield 90, 3) := by decide +kernel
theorem dX7_finds_176 : decode cX7_finds 176 = .ok (.iload_n 2, 1) := by decide +kernel
theorem dX7_finds_177 : decode cX7_finds 177 = .ok (.iconst 1, 1) := by decide +kernel
theorem dX7_finds_178 : decode cX7_finds 178 = .ok (.iadd, 1) := by decide +kernel
theorem dX7_finds_179 : decode cX7_finds 179 = .ok (.iconst (-1), 1) := by decide +kernel
theorem dX7_finds_180 : decode cX7_finds 180 = .ok (.iastore, 1) := by decide +kernel
theorem dX7_finds_181 : decode cX7_finds 181 = .ok (.iinc 2 1, 3) := by decide +kernel
theorem dX7_finds_184 : decode cX7_finds 184 = .ok (.goto (-145), 3) := by decide +kernel
theorem dX7_finds_187 : decode cX7_finds 187 = .ok (.iconst 0, 1) := by decide +kernel
theorem dX7_finds_188 : decode cX7_finds 188 = .ok (.ireturn, 1) := by decide +kernel
theorem dX7_dressers_0 : decode cX7_dressers 0 = .ok (.aload_n 0, 1) := by decide +kernel
theorem dX7_dressers_1 : decode cX7_dressers 1 = .ok (.iconst 0, 1) := by decide +kernel
theorem dX7_dressers_2 : decode cX7_dressers 2 = .ok (.putfield 169, 3) := by decide +kernel
theorem dX7_dressers_5 : decode cX7_dressers 5 = .ok (.iconst 0, 1) := by decide +kernel
theorem dX7_dressers_6 : decode cX7_dressers 6 = .ok (.istore_n 1, 1) := by decide +kernel
theorem dX7_dressers_7 : decode cX7_dressers 7 = .ok (.iload_n 1, 1) := by decide +kernel
theorem dX7_dressers_8 : decode cX7_dressers 8 = .ok (.aload_n 0, 1) := by decide +kernel
theorem dX7_dressers_9 : decode cX7_dressers 9 = .ok (.getfield 166, 3) := by decide +kernel
theorem dX7_dressers_12 : decode cX7_dressers 12 = .ok (.if_icmp .ge 57, 3) := by decide +kernel
theorem dX7_dressers_15 : decode cX7_dressers 15 = .ok (.iconst 0, 1) := by decide +kernel
theorem dX7_dressers_16 : decode cX7_dressers 16 = .ok (.istore_n 2, 1) := by decide +kernel
theorem dX7_dressers_17 : decode cX7_dressers 17 = .ok (.iload_n 2, 1) := by decide +kernel
theorem dX7_dressers_18 : decode cX7_dressers 18 = .ok (.aload_n 0, 1) := by decide +kernel
theorem dX7_dressers_19 : decode cX7_dressers 19 = .ok (.getfield 65, 3) := by decide +kernel
theorem dX7_dressers_22 : decode cX7_dressers 22 = .ok (.iload_n 1, 1) := by decide +kernel
theorem dX7_dressers_23 : decode cX7_dressers 23 = .ok (.iaload, 1) := by decide +kernel
theorem dX7_dressers_24 : decode cX7_dressers 24 = .ok (.if_icmp .ge 39, 3) := by decide +kernel
theorem dX7_dressers_27 : decode cX7_dressers 27 = .ok (.aload_n 0, 1) := by decide +kernel
theorem dX7_dressers_28 : decode cX7_dressers 28 = .ok (.getfield 77, 3) := by decide +kernel
theorem dX7_dressers_31 : decode cX7_dressers 31 = .ok (.aload_n 0, 1) := by decide +kernel
theorem dX7_dressers_32 : decode cX7_dressers 32 = .ok (.getfield 169, 3) := by decide +kernel
theorem dX7_dressers_35 : decode cX7_dressers 35 = .ok (.iload_n 1, 1) := by decide +kernel
theorem dX7_dressers_36 : decode cX7_dressers 36 = .ok (.iastore, 1) := by decide +kernel
theorem dX7_dressers_37 : decode cX7_dressers 37 = .ok (.aload_n 0, 1) := by decide +kernel
theorem dX7_dressers_38 : decode cX7_dressers 38 = .ok (.getfield 80, 3) := by decide +kernel
theorem dX7_dressers_41 : decode cX7_dressers 41 = .ok (.aload_n 0, 1) := by decide +kernel
theorem dX7_dressers_42 : decode cX7_dressers 42 = .ok (.getfield 169, 3) := by decide +kernel
theorem dX7_dressers_45 : decode cX7_dressers 45 = .ok (.iconst (-1), 1) := by decide +kernel
theorem dX7_dressers_46 : decode cX7_dressers 46 = .ok (.iastore, 1) := by decide +kernel
theorem dX7_dressers_47 : decode cX7_dressers 47 = .ok (.aload_n 0, 1) := by decide +kernel
theorem dX7_dressers_48 : decode cX7_dressers 48 = .ok (.dup, 1) := by decide +kernel
theorem dX7_dressers_49 : decode cX7_dressers 49 = .ok (.getfield 169, 3) := by decide +kernel
theorem dX7_dressers_52 : decode cX7_dressers 52 = .ok (.iconst 1, 1) := by decide +kernel
theorem dX7_dressers_53 : decode cX7_dressers 53 = .ok (.iadd, 1) := by decide +kernel
theorem dX7_dressers_54 : decode cX7_dressers 54 = .ok (.putfield 169, 3) := by decide +kernel
theorem dX7_dressers_57 : decode cX7_dressers 57 = .ok (.iinc 2 1, 3) := by decide +kernel
theorem dX7_dressers_60 : decode cX7_dressers 60 = .ok (.goto (-43), 3) := by decide +kernel
theorem dX7_dressers_63 : decode cX7_dressers 63 = .ok (.iinc 1 1, 3) := by decide +kernel
theorem dX7_dressers_66 : decode cX7_dressers 66 = .ok (.goto (-59), 3) := by decide +kernel
theorem dX7_dressers_69 : decode cX7_dressers 69 = .ok (.aload_n 0, 1) := by decide +kernel
theorem dX7_dressers_70 : decode cX7_dressers 70 = .ok (.getfield 169, 3) := by decide +kernel
theorem dX7_dressers_73 : decode cX7_dressers 73 = .ok (.istore_n 1, 1) := by decide +kernel
theorem dX7_dressers_74 : decode cX7_dressers 74 = .ok (.iconst 0, 1) := by decide +kernel
theorem dX7_dressers_75 : decode cX7_dressers 75 = .ok (.istore_n 2, 1) := by decide +kernel
theorem dX7_dressers_76 : decode cX7_dressers 76 = .ok (.iload_n 2, 1) := by decide +kernel
theorem dX7_dressers_77 : decode cX7_dressers 77 = .ok (.aload_n 0, 1) := by decide +kernel
theorem dX7_dressers_78 : decode cX7_dressers 78 = .ok (.getfield 169, 3) := by decide +kernel
theorem dX7_dressers_81 : decode cX7_dressers 81 = .ok (.if_icmp .ge 25, 3) := by decide +kernel
theorem dX7_dressers_84 : decode cX7_dressers 84 = .ok (.iload_n 1, 1) := by decide +kernel
theorem dX7_dressers_85 : decode cX7_dressers 85 = .ok (.aload_n 0, 1) := by decide +kernel
theorem dX7_dressers_86 : decode cX7_dressers 86 = .ok (.iload_n 2, 1) := by decide +kernel
theorem dX7_dressers_87 : decode cX7_dressers 87 = .ok (.invokevirtual 175, 3) := by decide +kernel
theorem dX7_dressers_90 : decode cX7_dressers 90 = .ok (.ifCond .eq 7, 3) := by decide +kernel
theorem dX7_dressers_93 : decode cX7_dressers 93 = .ok (.iconst 1, 1) := by decide +kernel
theorem dX7_dressers_94 : decode cX7_dressers 94 = .ok (.goto 4, 3) := by decide +kernel
theorem dX7_dressers_97 : decode cX7_dressers 97 = .ok (.iconst 0, 1) := by decide +kernel
theorem dX7_dressers_98 : decode cX7_dressers 98 = .ok (.isub, 1) := by decide +kernel
theorem dX7_dressers_99 : decode cX7_dressers 99 = .ok (.istore_n 1, 1) := by decide +kernel
theorem dX7_dressers_100 : decode cX7_dressers 100 = .ok (.iinc 2 1, 3) := by decide +kernel
theorem dX7_dressers_103 : decode cX7_dressers 103 = .ok (.goto (-27), 3) := by decide +kernel
theorem dX7_dressers_106 : decode cX7_dressers 106 = .ok (.iload_n 1, 1) := by decide +kernel
theorem dX7_dressers_107 : decode cX7_dressers 107 = .ok (.ireturn, 1) := by decide +kernel
theorem dX6_worn_0 : decode cX6_worn 0 = .ok (.aload_n 0, 1) := by decide +kernel
theorem dX6_worn_1 : decode cX6_worn 1 = .ok (.getfield 10, 3) := by decide +kernel
theorem dX6_worn_4 : decode cX6_worn 4 = .ok (.iload_n 1, 1) := by decide +kernel
theorem dX6_worn_5 : decode cX6_worn 5 = .ok (.invokevirtual 84, 3) := by decide +kernel
theorem dX6_worn_8 : decode cX6_worn 8 = .ok (.ifCond .ne 9, 3) := by decide +kernel
theorem dX6_worn_11 : decode cX6_worn 11 = .ok (.aload_n 0, 1) := by decide +kernel
theorem dX6_worn_12 : decode cX6_worn 12 = .ok (.iconst 1, 1) := by decide +kernel
theorem dX6_worn_13 : decode cX6_worn 13 = .ok (.invokevirtual 72, 3) := by decide +kernel
theorem dX6_worn_16 : decode cX6_worn 16 = .ok (.ireturn, 1) := by decide +kernel
theorem dX6_worn_17 : decode cX6_worn 17 = .ok (.aload_n 0, 1) := by decide +kernel
theorem dX6_worn_18 : decode cX6_worn 18 = .ok (.getfield 10, 3) := by decide +kernel
theorem dX6_worn_21 : decode cX6_worn 21 = .ok (.iload_n 1, 1) := by decide +kernel
theorem dX6_worn_22 : decode cX6_worn 22 = .ok (.bipush 8, 2) := by decide +kernel
theorem dX6_worn_24 : decode cX6_worn 24 = .ok (.invokevirtual 91, 3) := by decide +kernel
theorem dX6_worn_27 : decode cX6_worn 27 = .ok (.ifCond .eq 9, 3) := by decide +kernel
theorem dX6_worn_30 : decode cX6_worn 30 = .ok (.aload_n 0, 1) := by decide +kernel
theorem dX6_worn_31 : decode cX6_worn 31 = .ok (.iconst 3, 1) := by decide +kernel
theorem dX6_worn_32 : decode cX6_worn 32 = .ok (.invokevirtual 72, 3) := by decide +kernel
theorem dX6_worn_35 : decode cX6_worn 35 = .ok (.ireturn, 1) := by decide +kernel
theorem dX6_worn_36 : decode cX6_worn 36 = .ok (.aload_n 0, 1) := by decide +kernel
theorem dX6_worn_37 : decode cX6_worn 37 = .ok (.getfield 10, 3) := by decide +kernel
theorem dX6_worn_40 : decode cX6_worn 40 = .ok (.iload_n 1, 1) := by decide +kernel
theorem dX6_worn_41 : decode cX6_worn 41 = .ok (.iconst 1, 1) := by decide +kernel
theorem dX6_worn_42 : decode cX6_worn 42 = .ok (.iconst 0, 1) := by decide +kernel
theorem dX6_worn_43 : decode cX6_worn 43 = .ok (.invokevirtual 179, 3) := by decide +kernel
theorem dX6_worn_46 : decode cX6_worn 46 = .ok (.iconst 1, 1) := by decide +kernel
theorem dX6_worn_47 : decode cX6_worn 47 = .ok (.ireturn, 1) := by decide +kernel
theorem dX7_worn_0 : decode cX7_worn 0 = .ok (.aload_n 0, 1) := by decide +kernel
theorem dX7_worn_1 : decode cX7_worn 1 = .ok (.iload_n 1, 1) := by decide +kernel
theorem dX7_worn_2 : decode cX7_worn 2 = .ok (.invokevirtual 108, 3) := by decide +kernel
theorem dX7_worn_5 : decode cX7_worn 5 = .ok (.ifCond .ne 9, 3) := by decide +kernel
theorem dX7_worn_8 : decode cX7_worn 8 = .ok (.aload_n 0, 1) := by decide +kernel
theorem dX7_worn_9 : decode cX7_worn 9 = .ok (.iconst 1, 1) := by decide +kernel
theorem dX7_worn_10 : decode cX7_worn 10 = .ok (.invokevirtual 104, 3) := by decide +kernel
theorem dX7_worn_13 : decode cX7_worn 13 = .ok (.ireturn, 1) := by decide +kernel
theorem dX7_worn_14 : decode cX7_worn 14 = .ok (.aload_n 0, 1) := by decide +kernel
theorem dX7_worn_15 : decode cX7_worn 15 = .ok (.getfield 34, 3) := by decide +kernel
theorem dX7_worn_18 : decode cX7_worn 18 = .ok (.iload_n 1, 1) := by decide +kernel
theorem dX7_worn_19 : decode cX7_worn 19 = .ok (.iaload, 1) := by decide +kernel
theorem dX7_worn_20 : decode cX7_worn 20 = .ok (.ifCond .eq 9, 3) := by decide +kernel
theorem dX7_worn_23 : decode cX7_worn 23 = .ok (.aload_n 0, 1) := by decide +kernel
theorem dX7_worn_24 : decode cX7_worn 24 = .ok (.iconst 3, 1) := by decide +kernel
theorem dX7_worn_25 : decode cX7_worn 25 = .ok (.invokevirtual 104, 3) := by decide +kernel
theorem dX7_worn_28 : decode cX7_worn 28 = .ok (.ireturn, 1) := by decide +kernel
theorem dX7_worn_29 : decode cX7_worn 29 = .ok (.aload_n 0, 1) := by decide +kernel
theorem dX7_worn_30 : decode cX7_worn 30 = .ok (.getfield 34, 3) := by decide +kernel
theorem dX7_worn_33 : decode cX7_worn 33 = .ok (.iload_n 1, 1) := by decide +kernel
theorem dX7_worn_34 : decode cX7_worn 34 = .ok (.iconst 1, 1) := by decide +kernel
theorem dX7_worn_35 : decode cX7_worn 35 = .ok (.iastore, 1) := by decide +kernel
theorem dX7_worn_36 : decode cX7_worn 36 = .ok (.iconst 1, 1) := by decide +kernel
theorem dX7_worn_37 : decode cX7_worn 37 = .ok (.ireturn, 1) := by decide +kernel
theorem dX5_countInWash_0 : decode cX5_countInWash 0 = .ok (.iconst 0, 1) := by decide +kernel
theorem dX5_countInWash_1 : decode cX5_countInWash 1 = .ok (.istore_n 1, 1) := by decide +kernel
theorem dX5_countInWash_2 : decode cX5_countInWash 2 = .ok (.iconst 0, 1) := by decide +kernel
theorem dX5_countInWash_3 : decode cX5_countInWash 3 = .ok (.istore_n 2, 1) := by decide +kernel
theorem dX5_countInWash_4 : decode cX5_countInWash 4 = .ok (.iload_n 2, 1) := by decide +kernel
theorem dX5_countInWash_5 : decode cX5_countInWash 5 = .ok (.aload_n 0, 1) := by decide +kernel
theorem dX5_countInWash_6 : decode cX5_countInWash 6 = .ok (.getfield 15, 3) := by decide +kernel
theorem dX5_countInWash_9 : decode cX5_countInWash 9 = .ok (.if_icmp .ge 23, 3) := by decide +kernel
theorem dX5_countInWash_12 : decode cX5_countInWash 12 = .ok (.aload_n 0, 1) := by decide +kernel
theorem dX5_countInWash_13 : decode cX5_countInWash 13 = .ok (.iload_n 2, 1) := by decide +kernel
theorem dX5_countInWash_14 : decode cX5_countInWash 14 = .ok (.bipush 8, 2) := by decide +kernel
theorem dX5_countInWash_16 : decode cX5_countInWash 16 = .ok (.invokevirtual 55, 3) := by decide +kernel
theorem dX5_countInWash_19 : decode cX5_countInWash 19 = .ok (.iconst 2, 1) := by decide +kernel
theorem dX5_countInWash_20 : decode cX5_countInWash 20 = .ok (.if_icmp .ne 6, 3) := by decide +kernel
theorem dX5_countInWash_23 : decode cX5_countInWash 23 = .ok (.iinc 1 1, 3) := by decide +kernel
theorem dX5_countInWash_26 : decode cX5_countInWash 26 = .ok (.iinc 2 1, 3) := by decide +kernel
theorem dX5_countInWash_29 : decode cX5_countInWash 29 = .ok (.goto (-25), 3) := by decide +kernel
theorem dX5_countInWash_32 : decode cX5_countInWash 32 = .ok (.iload_n 1, 1) := by decide +kernel
theorem dX5_countInWash_33 : decode cX5_countInWash 33 = .ok (.ireturn, 1) := by decide +kernel
theorem dX5_soak_0 : decode cX5_soak 0 = .ok (.aload_n 0, 1) := by decide +kernel
theorem dX5_soak_1 : decode cX5_soak 1 = .ok (.getfield 68, 3) := by decide +kernel
theorem dX5_soak_4 : decode cX5_soak 4 = .ok (.iconst 2, 1) := by decide +kernel
theorem dX5_soak_5 : decode cX5_soak 5 = .ok (.iadd, 1) := by decide +kernel
theorem dX5_soak_6 : decode cX5_soak 6 = .ok (.istore_n 2, 1) := by decide +kernel
theorem dX5_soak_7 : decode cX5_soak 7 = .ok (.aload_n 0, 1) := by decide +kernel
theorem dX5_soak_8 : decode cX5_soak 8 = .ok (.iload_n 1, 1) := by decide +kernel
theorem dX5_soak_9 : decode cX5_soak 9 = .ok (.iconst 2, 1) := by decide +kernel
theorem dX5_soak_10 : decode cX5_soak 10 = .ok (.iload_n 2, 1) := by decide +kernel
theorem dX5_soak_11 : decode cX5_soak 11 = .ok (.invokevirtual 52, 3) := by decide +kernel
theorem dX5_soak_14 : decode cX5_soak 14 = .ok (.iload_n 2, 1) := by decide +kernel
theorem dX5_soak_15 : decode cX5_soak 15 = .ok (.aload_n 0, 1) := by decide +kernel
theorem dX5_soak_16 : decode cX5_soak 16 = .ok (.iload_n 1, 1) := by decide +kernel
theorem dX5_soak_17 : decode cX5_soak 17 = .ok (.iconst 2, 1) := by decide +kernel
theorem dX5_soak_18 : decode cX5_soak 18 = .ok (.invokevirtual 55, 3) := by decide +kernel
theorem dX5_soak_21 : decode cX5_soak 21 = .ok (.iadd, 1) := by decide +kernel
theorem dX5_soak_22 : decode cX5_soak 22 = .ok (.ireturn, 1) := by decide +kernel
theorem dX6_wash_0 : decode cX6_wash 0 = .ok (.aload_n 0, 1) := by decide +kernel
theorem dX6_wash_1 : decode cX6_wash 1 = .ok (.getfield 10, 3) := by decide +kernel
theorem dX6_wash_4 : decode cX6_wash 4 = .ok (.iload_n 1, 1) := by decide +kernel
theorem dX6_wash_5 : decode cX6_wash 5 = .ok (.invokevirtual 84, 3) := by decide +kernel
theorem dX6_wash_8 : decode cX6_wash 8 = .ok (.ifCond .ne 9, 3) := by decide +kernel
theorem dX6_wash_11 : decode cX6_wash 11 = .ok (.aload_n 0, 1) := by decide +kernel
theorem dX6_wash_12 : decode cX6_wash 12 = .ok (.iconst 1, 1) := by decide +kernel
theorem dX6_wash_13 : decode cX6_wash 13 = .ok (.invokevirtual 72, 3) := by decide +kernel
theorem dX6_wash_16 : decode cX6_wash 16 = .ok (.ireturn, 1) := by decide +kernel
theorem dX6_wash_17 : decode cX6_wash 17 = .ok (.aload_n 0, 1) := by decide +kernel
theorem dX6_wash_18 : decode cX6_wash 18 = .ok (.getfield 10, 3) := by decide +kernel
theorem dX6_wash_21 : decode cX6_wash 21 = .ok (.iload_n 1, 1) := by decide +kernel
theorem dX6_wash_22 : decode cX6_wash 22 = .ok (.bipush 8, 2) := by decide +kernel
theorem dX6_wash_24 : decode cX6_wash 24 = .ok (.invokevirtual 91, 3) := by decide +kernel
theorem dX6_wash_27 : decode cX6_wash 27 = .ok (.iconst 1, 1) := by decide +kernel
theorem dX6_wash_28 : decode cX6_wash 28 = .ok (.if_icmp .eq 9, 3) := by decide +kernel
theorem dX6_wash_31 : decode cX6_wash 31 = .ok (.aload_n 0, 1) := by decide +kernel
theorem dX6_wash_32 : decode cX6_wash 32 = .ok (.iconst 3, 1) := by decide +kernel
theorem dX6_wash_33 : decode cX6_wash 33 = .ok (.invokevirtual 72, 3) := by decide +kernel
theorem dX6_wash_36 : decode cX6_wash 36 = .ok (.ireturn, 1) := by decide +kernel
theorem dX6_wash_37 : decode cX6_wash 37 = .ok (.aload_n 0, 1) := by decide +kernel
theorem dX6_wash_38 : decode cX6_wash 38 = .ok (.getfield 10, 3) := by decide +kernel
theorem dX6_wash_41 : decode cX6_wash 41 = .ok (.invokevirtual 183, 3) := by decide +kernel
theorem dX6_wash_44 : decode cX6_wash 44 = .ok (.bipush 6, 2) := by decide +kernel
theorem dX6_wash_46 : decode cX6_wash 46 = .ok (.if_icmp .lt 9, 3) := by decide +kernel
theorem dX6_wash_49 : decode cX6_wash 49 = .ok (.aload_n 0, 1) := by decide +kernel
theorem dX6_wash_50 : decode cX6_wash 50 = .ok (.iconst 4, 1) := by decide +kernel
theorem dX6_wash_51 : decode cX6_wash 51 = .ok (.invokevirtual 72, 3) := by decide +kernel
theorem dX6_wash_54 : decode cX6_wash 54 = .ok (.ireturn, 1) := by decide +kernel
theorem dX6_wash_55 : decode cX6_wash 55 = .ok (.aload_n 0, 1) := by decide +kernel
theorem dX6_wash_56 : decode cX6_wash 56 = .ok (.getfield 10, 3) := by decide +kernel
theorem dX6_wash_59 : decode cX6_wash 59 = .ok (.iload_n 1, 1) := by decide +kernel
theorem dX6_wash_60 : decode cX6_wash 60 = .ok (.invokevirtual 186, 3) := by decide +kernel
theorem dX6_wash_63 : decode cX6_wash 63 = .ok (.ireturn, 1) := by decide +kernel
theorem dX7_washing_0 : decode cX7_washing 0 = .ok (.iconst 0, 1) := by decide +kernel
theorem dX7_washing_1 : decode cX7_washing 1 = .ok (.istore_n 1, 1) := by decide +kernel
theorem dX7_washing_2 : decode cX7_washing 2 = .ok (.iconst 0, 1) := by decide +kernel
theorem dX7_washing_3 : decode cX7_washing 3 = .ok (.istore_n 2, 1) := by decide +kernel
theorem dX7_washing_4 : decode cX7_washing 4 = .ok (.iload_n 2, 1) := by decide +kernel
theorem dX7_washing_5 : decode cX7_washing 5 = .ok (.aload_n 0, 1) := by decide +kernel
theorem dX7_washing_6 : decode cX7_washing 6 = .ok (.getfield 97, 3) := by decide +kernel
theorem dX7_washing_9 : decode cX7_washing 9 = .ok (.if_icmp .ge 27, 3) := by decide +kernel
theorem dX7_washing_12 : decode cX7_washing 12 = .ok (.iload_n 1, 1) := by decide +kernel
theorem dX7_washing_13 : decode cX7_washing 13 = .ok (.aload_n 0, 1) := by decide +kernel
