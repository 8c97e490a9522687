/-! ===== cells, and the cells that they hold ===== -/
theorem zcmp_rng (u v : Int64) : rng (zcmp u v) := by unfold zcmp; split <;> (try split) <;> exact ⟨by decide, by decide⟩
theorem lf_2 : isO 2 9 := ⟨by decide, by decide, by decide +kernel⟩
theorem lf_3 : isO 3 5 := ⟨by decide, by decide, by decide +kernel⟩
theorem lf_4 : isA 4 16 6 := ⟨by decide, by decide, by decide +kernel⟩
theorem lf_5 : isA 5 21 3 := ⟨by decide, by decide, by decide +kernel⟩
theorem lf_6 : isA 6 3 1024 := ⟨by decide, by decide, by decide +kernel⟩
theorem lf_7 : isO 7 1 := ⟨by decide, by decide, by decide +kernel⟩
theorem lf_8 : isA 8 1 8 := ⟨by decide, by decide, by decide +kernel⟩
theorem lf_9 : isA 9 1 8 := ⟨by decide, by decide, by decide +kernel⟩
theorem lf_10 : isA 10 1 8 := ⟨by decide, by decide, by decide +kernel⟩
theorem lf_11 : isO 11 1 := ⟨by decide, by decide, by decide +kernel⟩
theorem lf_12 : isA 12 1 8 := ⟨by decide, by decide, by decide +kernel⟩
theorem lf_13 : isA 13 1 8 := ⟨by decide, by decide, by decide +kernel⟩
theorem lf_14 : isA 14 1 8 := ⟨by decide, by decide, by decide +kernel⟩
theorem lf_15 : isO 15 1 := ⟨by decide, by decide, by decide +kernel⟩
theorem lf_16 : isA 16 1 8 := ⟨by decide, by decide, by decide +kernel⟩
theorem lf_17 : isA 17 1 8 := ⟨by decide, by decide, by decide +kernel⟩
theorem lf_18 : isA 18 1 8 := ⟨by decide, by decide, by decide +kernel⟩
theorem lf_19 : isO 19 1 := ⟨by decide, by decide, by decide +kernel⟩
theorem lf_20 : isA 20 1 8 := ⟨by decide, by decide, by decide +kernel⟩
theorem lf_21 : isA 21 1 8 := ⟨by decide, by decide, by decide +kernel⟩
theorem lf_22 : isA 22 1 8 := ⟨by decide, by decide, by decide +kernel⟩
theorem lf_23 : isO 23 1 := ⟨by decide, by decide, by decide +kernel⟩
theorem lf_24 : isA 24 1 8 := ⟨by decide, by decide, by decide +kernel⟩
theorem lf_25 : isA 25 1 8 := ⟨by decide, by decide, by decide +kernel⟩
theorem lf_26 : isA 26 1 8 := ⟨by decide, by decide, by decide +kernel⟩
theorem lf_27 : isO 27 1 := ⟨by decide, by decide, by decide +kernel⟩
theorem lf_28 : isA 28 1 8 := ⟨by decide, by decide, by decide +kernel⟩
theorem lf_29 : isA 29 1 8 := ⟨by decide, by decide, by decide +kernel⟩
theorem lf_30 : isA 30 1 8 := ⟨by decide, by decide, by decide +kernel⟩
theorem lf_31 : isO 31 6 := ⟨by decide, by decide, by decide +kernel⟩
theorem lf_32 : isO 32 6 := ⟨by decide, by decide, by decide +kernel⟩
theorem lf_33 : isO 33 6 := ⟨by decide, by decide, by decide +kernel⟩
theorem lf_34 : isA 34 19 6 := ⟨by decide, by decide, by decide +kernel⟩
theorem lf_35 : isA 35 20 4 := ⟨by decide, by decide, by decide +kernel⟩
theorem lf_36 : isO 36 7 := ⟨by decide, by decide, by decide +kernel⟩
theorem lf_37 : isO 37 1 := ⟨by decide, by decide, by decide +kernel⟩
theorem lf_38 : isA 38 1 8 := ⟨by decide, by decide, by decide +kernel⟩
theorem lf_39 : isA 39 1 8 := ⟨by decide, by decide, by decide +kernel⟩
theorem lf_40 : isA 40 1 8 := ⟨by decide, by decide, by decide +kernel⟩
theorem lf_41 : isA 41 3 80 := ⟨by decide, by decide, by decide +kernel⟩
theorem lf_42 : isO 42 0 := ⟨by decide, by decide, by decide +kernel⟩
theorem lf_43 : isA 43 1 8 := ⟨by decide, by decide, by decide +kernel⟩
theorem lf_44 : isA 44 1 8 := ⟨by decide, by decide, by decide +kernel⟩
theorem lf_45 : isA 45 1 8 := ⟨by decide, by decide, by decide +kernel⟩
theorem lf_46 : isA 46 1 8 := ⟨by decide, by decide, by decide +kernel⟩
theorem lf_47 : isA 47 1 4096 := ⟨by decide, by decide, by decide +kernel⟩
theorem lf_48 : isO 48 8 := ⟨by decide, by decide, by decide +kernel⟩
theorem lf_49 : isA 49 1 40 := ⟨by decide, by decide, by decide +kernel⟩
theorem lf_50 : isA 50 1 40 := ⟨by decide, by decide, by decide +kernel⟩
theorem lf_51 : isA 51 1 40 := ⟨by decide, by decide, by decide +kernel⟩
theorem lf_52 : isA 52 1 40 := ⟨by decide, by decide, by decide +kernel⟩
theorem lf_53 : isO 53 8 := ⟨by decide, by decide, by decide +kernel⟩
theorem lf_54 : isA 54 1 40 := ⟨by decide, by decide, by decide +kernel⟩
theorem lf_55 : isA 55 1 40 := ⟨by decide, by decide, by decide +kernel⟩
theorem lf_56 : isA 56 1 40 := ⟨by decide, by decide, by decide +kernel⟩
theorem lf_57 : isA 57 1 40 := ⟨by decide, by decide, by decide +kernel⟩
theorem lf_58 : isO 58 3 := ⟨by decide, by decide, by decide +kernel⟩
theorem lf_59 : isA 59 2 16 := ⟨by decide, by decide, by decide +kernel⟩
theorem lf_60 : isA 60 1 12 := ⟨by decide, by decide, by decide +kernel⟩
theorem lf_61 : isA 61 2 12 := ⟨by decide, by decide, by decide +kernel⟩
theorem lf_62 : isO 62 4 := ⟨by decide, by decide, by decide +kernel⟩
theorem lf_63 : isA 63 1 8 := ⟨by decide, by decide, by decide +kernel⟩
theorem lf_64 : isA 64 1 8 := ⟨by decide, by decide, by decide +kernel⟩
theorem lf_65 : isA 65 1 8 := ⟨by decide, by decide, by decide +kernel⟩
theorem lf_66 : isA 66 1 8 := ⟨by decide, by decide, by decide +kernel⟩
theorem lf_67 : isO 67 2 := ⟨by decide, by decide, by decide +kernel⟩
theorem lf_68 : isA 68 1 40 := ⟨by decide, by decide, by decide +kernel⟩
theorem lf_69 : isA 69 1 40 := ⟨by decide, by decide, by decide +kernel⟩
theorem lf_70 : isA 70 1 40 := ⟨by decide, by decide, by decide +kernel⟩
theorem lf_71 : isA 71 1 40 := ⟨by decide, by decide, by decide +kernel⟩
theorem lf_72 : isA 72 2 40 := ⟨by decide, by decide, by decide +kernel⟩
theorem lf_73 : isO 73 4 := ⟨by decide, by decide, by decide +kernel⟩
theorem lf_74 : isA 74 1 8 := ⟨by decide, by decide, by decide +kernel⟩
theorem lf_75 : isA 75 1 8 := ⟨by decide, by decide, by decide +kernel⟩
theorem lf_76 : isA 76 1 8 := ⟨by decide, by decide, by decide +kernel⟩
theorem lf_77 : isA 77 1 8 := ⟨by decide, by decide, by decide +kernel⟩
theorem lf_78 : isO 78 2 := ⟨by decide, by decide, by decide +kernel⟩
theorem lf_79 : isA 79 1 40 := ⟨by decide, by decide, by decide +kernel⟩
theorem lf_80 : isA 80 1 40 := ⟨by decide, by decide, by decide +kernel⟩
theorem lf_81 : isA 81 1 40 := ⟨by decide, by decide, by decide +kernel⟩
theorem lf_82 : isA 82 1 40 := ⟨by decide, by decide, by decide +kernel⟩
theorem lf_83 : isA 83 2 40 := ⟨by decide, by decide, by decide +kernel⟩
theorem lf_84 : isO 84 4 := ⟨by decide, by decide, by decide +kernel⟩
theorem lf_85 : isA 85 1 8 := ⟨by decide, by decide, by decide +kernel⟩
theorem lf_86 : isA 86 1 8 := ⟨by decide, by decide, by decide +kernel⟩
theorem lf_87 : isA 87 1 8 := ⟨by decide, by decide, by decide +kernel⟩
theorem lf_88 : isA 88 1 8 := ⟨by decide, by decide, by decide +kernel⟩
theorem lf_89 : isO 89 2 := ⟨by decide, by decide, by decide +kernel⟩
theorem lf_90 : isA 90 1 40 := ⟨by decide, by decide, by decide +kernel⟩
theorem lf_91 : isA 91 1 40 := ⟨by decide, by decide, by decide +kernel⟩
theorem lf_92 : isA 92 1 40 := ⟨by decide, by decide, by decide +kernel⟩
theorem lf_93 : isA 93 1 40 := ⟨by decide, by decide, by decide +kernel⟩
theorem lf_94 : isA 94 2 40 := ⟨by decide, by decide, by decide +kernel⟩
theorem lf_95 : isO 95 4 := ⟨by decide, by decide, by decide +kernel⟩
theorem lf_96 : isA 96 1 8 := ⟨by decide, by decide, by decide +kernel⟩
theorem lf_97 : isA 97 1 8 := ⟨by decide, by decide, by decide +kernel⟩
theorem lf_98 : isA 98 1 8 := ⟨by decide, by decide, by decide +kernel⟩
theorem lf_99 : isA 99 1 8 := ⟨by decide, by decide, by decide +kernel⟩
theorem lf_100 : isO 100 2 := ⟨by decide, by decide, by decide +kernel⟩
theorem lf_101 : isA 101 1 40 := ⟨by decide, by decide, by decide +kernel⟩
theorem lf_102 : isA 102 1 40 := ⟨by decide, by decide, by decide +kernel⟩
theorem lf_103 : isA 103 1 40 := ⟨by decide, by decide, by decide +kernel⟩
theorem lf_104 : isA 104 1 40 := ⟨by decide, by decide, by decide +kernel⟩
theorem lf_105 : isA 105 2 40 := ⟨by decide, by decide, by decide +kernel⟩
theorem lf_106 : isO 106 4 := ⟨by decide, by decide, by decide +kernel⟩
theorem lf_107 : isA 107 1 8 := ⟨by decide, by decide, by decide +kernel⟩
theorem lf_108 : isA 108 1 8 := ⟨by decide, by decide, by decide +kernel⟩
theorem lf_109 : isA 109 1 8 := ⟨by decide, by decide, by decide +kernel⟩
theorem lf_110 : isA 110 1 8 := ⟨by decide, by decide, by decide +kernel⟩
theorem lf_111 : isO 111 2 := ⟨by decide, by decide, by decide +kernel⟩
theorem lf_112 : isA 112 1 40 := ⟨by decide, by decide, by decide +kernel⟩
theorem lf_113 : isA 113 1 40 := ⟨by decide, by decide, by decide +kernel⟩
theorem lf_114 : isA 114 1 40 := ⟨by decide, by decide, by decide +kernel⟩
theorem lf_115 : isA 115 1 40 := ⟨by decide, by decide, by decide +kernel⟩
theorem lf_116 : isA 116 2 40 := ⟨by decide, by decide, by decide +kernel⟩
theorem lf_117 : isO 117 4 := ⟨by decide, by decide, by decide +kernel⟩
theorem lf_118 : isA 118 1 8 := ⟨by decide, by decide, by decide +kernel⟩
theorem lf_119 : isA 119 1 8 := ⟨by decide, by decide, by decide +kernel⟩
theorem lf_120 : isA 120 1 8 := ⟨by decide, by decide, by decide +kernel⟩
theorem lf_121 : isA 121 1 8 := ⟨by decide, by decide, by decide +kernel⟩
theorem lf_122 : isO 122 2 := ⟨by decide, by decide, by decide +kernel⟩
theorem lf_123 : isA 123 1 40 := ⟨by decide, by decide, by decide +kernel⟩
theorem lf_124 : isA 124 1 40 := ⟨by decide, by decide, by decide +kernel⟩
theorem lf_125 : isA 125 1 40 := ⟨by decide, by decide, by decide +kernel⟩
theorem lf_126 : isA 126 1 40 := ⟨by decide, by decide, by decide +kernel⟩
theorem lf_127 : isA 127 2 40 := ⟨by decide, by decide, by decide +kernel⟩
theorem lf_128 : isO 128 5 := ⟨by decide, by decide, by decide +kernel⟩
theorem lf_129 : isA 129 16 6 := ⟨by decide, by decide, by decide +kernel⟩
theorem lf_130 : isA 130 21 3 := ⟨by decide, by decide, by decide +kernel⟩
theorem lf_131 : isA 131 3 1024 := ⟨by decide, by decide, by decide +kernel⟩
theorem lf_132 : isO 132 1 := ⟨by decide, by decide, by decide +kernel⟩
theorem lf_133 : isA 133 1 8 := ⟨by decide, by decide, by decide +kernel⟩
theorem lf_134 : isA 134 1 8 := ⟨by decide, by decide, by decide +kernel⟩
theorem lf_135 : isA 135 1 8 := ⟨by decide, by decide, by decide +kernel⟩
theorem lf_136 : isO 136 1 := ⟨by decide, by decide, by decide +kernel⟩
theorem lf_137 : isA 137 1 8 := ⟨by decide, by decide, by decide +kernel⟩
theorem lf_138 : isA 138 1 8 := ⟨by decide, by decide, by decide +kernel⟩
theorem lf_139 : isA 139 1 8 := ⟨by decide, by decide, by decide +kernel⟩
theorem lf_140 : isO 140 1 := ⟨by decide, by decide, by decide +kernel⟩
theorem lf_141 : isA 141 1 8 := ⟨by decide, by decide, by decide +kernel⟩
theorem lf_142 : isA 142 1 8 := ⟨by decide, by decide, by decide +kernel⟩
theorem lf_143 : isA 143 1 8 := ⟨by decide, by decide, by decide +kernel⟩
theorem lf_144 : isO 144 1 := ⟨by decide, by decide, by decide +kernel⟩
theorem lf_145 : isA 145 1 8 := ⟨by decide, by decide, by decide +kernel⟩
theorem lf_146 : isA 146 1 8 := ⟨by decide, by decide, by decide +kernel⟩
theorem lf_147 : isA 147 1 8 := ⟨by decide, by decide, by decide +kernel⟩
theorem lf_148 : isO 148 1 := ⟨by decide, by decide, by decide +kernel⟩
theorem lf_149 : isA 149 1 8 := ⟨by decide, by decide, by decide +kernel⟩
theorem lf_150 : isA 150 1 8 := ⟨by decide, by decide, by decide +kernel⟩
theorem lf_151 : isA 151 1 8 := ⟨by decide, by decide, by decide +kernel⟩
theorem lf_152 : isO 152 1 := ⟨by decide, by decide, by decide +kernel⟩
theorem lf_153 : isA 153 1 8 := ⟨by decide, by decide, by decide +kernel⟩
theorem lf_154 : isA 154 1 8 := ⟨by decide, by decide, by decide +kernel⟩
theorem lf_155 : isA 155 1 8 := ⟨by decide, by decide, by decide +kernel⟩
theorem lf_156 : isO 156 6 := ⟨by decide, by decide, by decide +kernel⟩
theorem lf_157 : isO 157 6 := ⟨by decide, by decide, by decide +kernel⟩
theorem lf_158 : isO 158 6 := ⟨by decide, by decide, by decide +kernel⟩
theorem lf_159 : isO 159 5 := ⟨by decide, by decide, by decide +kernel⟩
theorem lf_160 : isA 160 16 6 := ⟨by decide, by decide, by decide +kernel⟩
theorem lf_161 : isA 161 21 3 := ⟨by decide, by decide, by decide +kernel⟩
theorem lf_162 : isA 162 3 1024 := ⟨by decide, by decide, by decide +kernel⟩
theorem lf_163 : isO 163 1 := ⟨by decide, by decide, by decide +kernel⟩
theorem lf_164 : isA 164 1 8 := ⟨by decide, by decide, by decide +kernel⟩
theorem lf_165 : isA 165 1 8 := ⟨by decide, by decide, by decide +kernel⟩
theorem lf_166 : isA 166 1 8 := ⟨by decide, by decide, by decide +kernel⟩
theorem lf_167 : isO 167 1 := ⟨by decide, by decide, by decide +kernel⟩
theorem lf_168 : isA 168 1 8 := ⟨by decide, by decide, by decide +kernel⟩
theorem lf_169 : isA 169 1 8 := ⟨by decide, by decide, by decide +kernel⟩
theorem lf_170 : isA 170 1 8 := ⟨by decide, by decide, by decide +kernel⟩
theorem lf_171 : isO 171 1 := ⟨by decide, by decide, by decide +kernel⟩
theorem lf_172 : isA 172 1 8 := ⟨by decide, by decide, by decide +kernel⟩
theorem lf_173 : isA 173 1 8 := ⟨by decide, by decide, by decide +kernel⟩
theorem lf_174 : isA 174 1 8 := ⟨by decide, by decide, by decide +kernel⟩
theorem lf_175 : isO 175 1 := ⟨by decide, by decide, by decide +kernel⟩
theorem lf_176 : isA 176 1 8 := ⟨by decide, by decide, by decide +kernel⟩
theorem lf_177 : isA 177 1 8 := ⟨by decide, by decide, by decide +kernel⟩
theorem lf_178 : isA 178 1 8 := ⟨by decide, by decide, by decide +kernel⟩
theorem lf_179 : isO 179 1 := ⟨by decide, by decide, by decide +kernel⟩
theorem lf_180 : isA 180 1 8 := ⟨by decide, by decide, by decide +kernel⟩
theorem lf_181 : isA 181 1 8 := ⟨by decide, by decide, by decide +kernel⟩
theorem lf_182 : isA 182 1 8 := ⟨by decide, by decide, by decide +kernel⟩
theorem lf_183 : isO 183 1 := ⟨by decide, by decide, by decide +kernel⟩
theorem lf_184 : isA 184 1 8 := ⟨by decide, by decide, by decide +kernel⟩
theorem lf_185 : isA 185 1 8 := ⟨by decide, by decide, by decide +kernel⟩
theorem lf_186 : isA 186 1 8 := ⟨by decide, by decide, by decide +kernel⟩
theorem lf_187 : isO 187 6 := ⟨by decide, by decide, by decide +kernel⟩
theorem lf_188 : isO 188 6 := ⟨by decide, by decide, by decide +kernel⟩
theorem lf_189 : isO 189 6 := ⟨by decide, by decide, by decide +kernel⟩
theorem lf_190 : isO 190 5 := ⟨by decide, by decide, by decide +kernel⟩
theorem lf_191 : isA 191 16 6 := ⟨by decide, by decide, by decide +kernel⟩
theorem lf_192 : isA 192 21 3 := ⟨by decide, by decide, by decide +kernel⟩
theorem lf_193 : isA 193 3 1024 := ⟨by decide, by decide, by decide +kernel⟩
theorem lf_194 : isO 194 1 := ⟨by decide, by decide, by decide +kernel⟩
theorem lf_195 : isA 195 1 8 := ⟨by decide, by decide, by decide +kernel⟩
theorem lf_196 : isA 196 1 8 := ⟨by decide, by decide, by decide +kernel⟩
theorem lf_197 : isA 197 1 8 := ⟨by decide, by decide, by decide +kernel⟩
theorem lf_198 : isO 198 1 := ⟨by decide, by decide, by decide +kernel⟩
theorem lf_199 : isA 199 1 8 := ⟨by decide, by decide, by decide +kernel⟩
theorem lf_200 : isA 200 1 8 := ⟨by decide, by decide, by decide +kernel⟩
theorem lf_201 : isA 201 1 8 := ⟨by decide, by decide, by decide +kernel⟩
theorem lf_202 : isO 202 1 := ⟨by decide, by decide, by decide +kernel⟩
theorem lf_203 : isA 203 1 8 := ⟨by decide, by decide, by decide +kernel⟩
theorem lf_204 : isA 204 1 8 := ⟨by decide, by decide, by decide +kernel⟩
theorem lf_205 : isA 205 1 8 := ⟨by decide, by decide, by decide +kernel⟩
theorem lf_206 : isO 206 1 := ⟨by decide, by decide, by decide +kernel⟩
theorem lf_207 : isA 207 1 8 := ⟨by decide, by decide, by decide +kernel⟩
theorem lf_208 : isA 208 1 8 := ⟨by decide, by decide, by decide +kernel⟩
theorem lf_209 : isA 209 1 8 := ⟨by decide, by decide, by decide +kernel⟩
theorem lf_210 : isO 210 1 := ⟨by decide, by decide, by decide +kernel⟩
theorem lf_211 : isA 211 1 8 := ⟨by decide, by decide, by decide +kernel⟩
theorem lf_212 : isA 212 1 8 := ⟨by decide, by decide, by decide +kernel⟩
theorem lf_213 : isA 213 1 8 := ⟨by decide, by decide, by decide +kernel⟩
theorem lf_214 : isO 214 1 := ⟨by decide, by decide, by decide +kernel⟩
theorem lf_215 : isA 215 1 8 := ⟨by decide, by decide, by decide +kernel⟩
theorem lf_216 : isA 216 1 8 := ⟨by decide, by decide, by decide +kernel⟩
theorem lf_217 : isA 217 1 8 := ⟨by decide, by decide, by decide +kernel⟩
theorem lf_218 : isO 218 6 := ⟨by decide, by decide, by decide +kernel⟩
theorem lf_219 : isO 219 6 := ⟨by decide, by decide, by decide +kernel⟩
theorem lf_220 : isO 220 6 := ⟨by decide, by decide, by decide +kernel⟩
theorem lf_221 : isO 221 5 := ⟨by decide, by decide, by decide +kernel⟩
theorem lf_222 : isA 222 16 6 := ⟨by decide, by decide, by decide +kernel⟩
theorem lf_223 : isA 223 21 3 := ⟨by decide, by decide, by decide +kernel⟩
theorem lf_224 : isA 224 3 1024 := ⟨by decide, by decide, by decide +kernel⟩
theorem lf_225 : isO 225 1 := ⟨by decide, by decide, by decide +kernel⟩
theorem lf_226 : isA 226 1 8 := ⟨by decide, by decide, by decide +kernel⟩
theorem lf_227 : isA 227 1 8 := ⟨by decide, by decide, by decide +kernel⟩
theorem lf_228 : isA 228 1 8 := ⟨by decide, by decide, by decide +kernel⟩
theorem lf_229 : isO 229 1 := ⟨by decide, by decide, by decide +kernel⟩
theorem lf_230 : isA 230 1 8 := ⟨by decide, by decide, by decide +kernel⟩
theorem lf_231 : isA 231 1 8 := ⟨by decide, by decide, by decide +kernel⟩
theorem lf_232 : isA 232 1 8 := ⟨by decide, by decide, by decide +kernel⟩
theorem lf_233 : isO 233 1 := ⟨by decide, by decide, by decide +kernel⟩
theorem lf_234 : isA 234 1 8 := ⟨by decide, by decide, by decide +kernel⟩
theorem lf_235 : isA 235 1 8 := ⟨by decide, by decide, by decide +kernel⟩
theorem lf_236 : isA 236 1 8 := ⟨by decide, by decide, by decide +kernel⟩
theorem lf_237 : isO 237 1 := ⟨by decide, by decide, by decide +kernel⟩
theorem lf_238 : isA 238 1 8 := ⟨by decide, by decide, by decide +kernel⟩
theorem lf_239 : isA 239 1 8 := ⟨by decide, by decide, by decide +kernel⟩
theorem lf_240 : isA 240 1 8 := ⟨by decide, by decide, by decide +kernel⟩
theorem lf_241 : isO 241 1 := ⟨by decide, by decide, by decide +kernel⟩
theorem lf_242 : isA 242 1 8 := ⟨by decide, by decide, by decide +kernel⟩
theorem lf_243 : isA 243 1 8 := ⟨by decide, by decide, by decide +kernel⟩
theorem lf_244 : isA 244 1 8 := ⟨by decide, by decide, by decide +kernel⟩
theorem lf_245 : isO 245 1 := ⟨by decide, by decide, by decide +kernel⟩
theorem lf_246 : isA 246 1 8 := ⟨by decide, by decide, by decide +kernel⟩
theorem lf_247 : isA 247 1 8 := ⟨by decide, by decide, by decide +kernel⟩
theorem lf_248 : isA 248 1 8 := ⟨by decide, by decide, by decide +kernel⟩
theorem lf_249 : isO 249 6 := ⟨by decide, by decide, by decide +kernel⟩
theorem lf_250 : isO 250 6 := ⟨by decide, by decide, by decide +kernel⟩
theorem lf_251 : isO 251 6 := ⟨by decide, by decide, by decide +kernel⟩
theorem lf_252 : isO 252 10 := ⟨by decide, by decide, by decide +kernel⟩
theorem lf_253 : isA 253 1 1199 := ⟨by decide, by decide, by decide +kernel⟩
theorem lf_254 : isA 254 1 4796 := ⟨by decide, by decide, by decide +kernel⟩
theorem lf_255 : isA 255 1 80 := ⟨by decide, by decide, by decide +kernel⟩
theorem lf_256 : isA 256 1 6 := ⟨by decide, by decide, by decide +kernel⟩
theorem lf_257 : isA 257 1 6 := ⟨by decide, by decide, by decide +kernel⟩
theorem lf_258 : isA 258 1 6 := ⟨by decide, by decide, by decide +kernel⟩
theorem lf_259 : isA 259 1 240 := ⟨by decide, by decide, by decide +kernel⟩
theorem lf_260 : isA 260 1 240 := ⟨by decide, by decide, by decide +kernel⟩
theorem lf_261 : isA 261 1 240 := ⟨by decide, by decide, by decide +kernel⟩
theorem lf_262 : isA 262 1 240 := ⟨by decide, by decide, by decide +kernel⟩
theorem lf_263 : isA 263 1 7680 := ⟨by decide, by decide, by decide +kernel⟩
theorem lf_264 : isA 264 1 240 := ⟨by decide, by decide, by decide +kernel⟩
theorem lf_265 : isA 265 1 8 := ⟨by decide, by decide, by decide +kernel⟩
theorem lf_266 : isA 266 1 8 := ⟨by decide, by decide, by decide +kernel⟩
theorem lf_267 : isA 267 1 8 := ⟨by decide, by decide, by decide +kernel⟩
theorem lf_268 : isA 268 1 8 := ⟨by decide, by decide, by decide +kernel⟩
theorem lf_269 : isA 269 1 8 := ⟨by decide, by decide, by decide +kernel⟩
theorem lf_270 : isA 270 1 8 := ⟨by decide, by decide, by decide +kernel⟩
theorem lf_271 : isA 271 1 8 := ⟨by decide, by decide, by decide +kernel⟩
theorem lf_272 : isA 272 2 480 := ⟨by decide, by decide, by decide +kernel⟩
theorem lf_273 : isA 273 1 12 := ⟨by decide, by decide, by decide +kernel⟩
theorem lf_274 : isA 274 1 8192 := ⟨by decide, by decide, by decide +kernel⟩
theorem lf_275 : isA 275 2 1 := ⟨by decide, by decide, by decide +kernel⟩
theorem t_gen {P : Nat → Bool} (h : (List.range 276).all P = true) {a : Int} (h0 : 2 ≤ a) (h1 : a < 276) : P a.toNat = true := List.all_eq_true.mp h _ (List.mem_range.mpr (by omega))
theorem t_0_1 {a : Int} (h : isO a 0) : isA (a + 1) 1 8 := by
  have g := t_gen (P := fun a => !((zsh.getD a (0, 0)).1 == 4) || (decide (a + 1 < 276) && zsh.getD (a + 1) (0, 0) == (1, 8))) (by decide +kernel) h.1 h.2.1
  rw [h.2.2] at g
  simp only [beq_self_eq_true, Bool.not_true, Bool.false_or, Bool.and_eq_true, decide_eq_true_iff, beq_iff_eq] at g
  refine ⟨by have := h.1; omega, by have := h.1; omega, ?_⟩
  rw [show (a + 1).toNat = a.toNat + 1 by have := h.1; omega]
  exact g.2
theorem t_0_3 {a : Int} (h : isO a 0) : isA (a + 2) 1 8 := by
  have g := t_gen (P := fun a => !((zsh.getD a (0, 0)).1 == 4) || (decide (a + 2 < 276) && zsh.getD (a + 2) (0, 0) == (1, 8))) (by decide +kernel) h.1 h.2.1
  rw [h.2.2] at g
  simp only [beq_self_eq_true, Bool.not_true, Bool.false_or, Bool.and_eq_true, decide_eq_true_iff, beq_iff_eq] at g
  refine ⟨by have := h.1; omega, by have := h.1; omega, ?_⟩
  rw [show (a + 2).toNat = a.toNat + 2 by have := h.1; omega]
  exact g.2
theorem t_0_4 {a : Int} (h : isO a 0) : isA (a + 3) 1 8 := by
  have g := t_gen (P := fun a => !((zsh.getD a (0, 0)).1 == 4) || (decide (a + 3 < 276) && zsh.getD (a + 3) (0, 0) == (1, 8))) (by decide +kernel) h.1 h.2.1
  rw [h.2.2] at g
  simp only [beq_self_eq_true, Bool.not_true, Bool.false_or, Bool.and_eq_true, decide_eq_true_iff, beq_iff_eq] at g
  refine ⟨by have := h.1; omega, by have := h.1; omega, ?_⟩
  rw [show (a + 3).toNat = a.toNat + 3 by have := h.1; omega]
  exact g.2
theorem t_0_5 {a : Int} (h : isO a 0) : isA (a + 4) 1 8 := by
  have g := t_gen (P := fun a => !((zsh.getD a (0, 0)).1 == 4) || (decide (a + 4 < 276) && zsh.getD (a + 4) (0, 0) == (1, 8))) (by decide +kernel) h.1 h.2.1
  rw [h.2.2] at g
  simp only [beq_self_eq_true, Bool.not_true, Bool.false_or, Bool.and_eq_true, decide_eq_true_iff, beq_iff_eq] at g
  refine ⟨by have := h.1; omega, by have := h.1; omega, ?_⟩
  rw [show (a + 4).toNat = a.toNat + 4 by have := h.1; omega]
  exact g.2
theorem t_0_6 {a : Int} (h : isO a 0) : isA (a + 5) 1 4096 := by
  have g := t_gen (P := fun a => !((zsh.getD a (0, 0)).1 == 4) || (decide (a + 5 < 276) && zsh.getD (a + 5) (0, 0) == (1, 4096))) (by decide +kernel) h.1 h.2.1
  rw [h.2.2] at g
  simp only [beq_self_eq_true, Bool.not_true, Bool.false_or, Bool.and_eq_true, decide_eq_true_iff, beq_iff_eq] at g
  refine ⟨by have := h.1; omega, by have := h.1; omega, ?_⟩
  rw [show (a + 5).toNat = a.toNat + 5 by have := h.1; omega]
  exact g.2
theorem t_1_2 {a : Int} (h : isO a 1) : isA (a + 1) 1 8 := by
  have g := t_gen (P := fun a => !((zsh.getD a (0, 0)).1 == 5) || (decide (a + 1 < 276) && zsh.getD (a + 1) (0, 0) == (1, 8))) (by decide +kernel) h.1 h.2.1
  rw [h.2.2] at g
  simp only [beq_self_eq_true, Bool.not_true, Bool.false_or, Bool.and_eq_true, decide_eq_true_iff, beq_iff_eq] at g
  refine ⟨by have := h.1; omega, by have := h.1; omega, ?_⟩
  rw [show (a + 1).toNat = a.toNat + 1 by have := h.1; omega]
  exact g.2
theorem t_1_3 {a : Int} (h : isO a 1) : isA (a + 2) 1 8 := by
  have g := t_gen (P := fun a => !((zsh.getD a (0, 0)).1 == 5) || (decide (a + 2 < 276) && zsh.getD (a + 2) (0, 0) == (1, 8))) (by decide +kernel) h.1 h.2.1
  rw [h.2.2] at g
  simp only [beq_self_eq_true, Bool.not_true, Bool.false_or, Bool.and_eq_true, decide_eq_true_iff, beq_iff_eq] at g
  refine ⟨by have := h.1; omega, by have := h.1; omega, ?_⟩
  rw [show (a + 2).toNat = a.toNat + 2 by have := h.1; omega]
  exact g.2
theorem t_1_4 {a : Int} (h : isO a 1) : isA (a + 3) 1 8 := by
  have g := t_gen (P := fun a => !((zsh.getD a (0, 0)).1 == 5) || (decide (a + 3 < 276) && zsh.getD (a + 3) (0, 0) == (1, 8))) (by decide +kernel) h.1 h.2.1
  rw [h.2.2] at g
  simp only [beq_self_eq_true, Bool.not_true, Bool.false_or, Bool.and_eq_true, decide_eq_true_iff, beq_iff_eq] at g
  refine ⟨by have := h.1; omega, by have := h.1; omega, ?_⟩
  rw [show (a + 3).toNat = a.toNat + 3 by have := h.1; omega]
  exact g.2
theorem t_2_1 {a : Int} (h : isO a 2) : isA (a + 1) 1 40 := by
  have g := t_gen (P := fun a => !((zsh.getD a (0, 0)).1 == 6) || (decide (a + 1 < 276) && zsh.getD (a + 1) (0, 0) == (1, 40))) (by decide +kernel) h.1 h.2.1
  rw [h.2.2] at g
  simp only [beq_self_eq_true, Bool.not_true, Bool.false_or, Bool.and_eq_true, decide_eq_true_iff, beq_iff_eq] at g
  refine ⟨by have := h.1; omega, by have := h.1; omega, ?_⟩
  rw [show (a + 1).toNat = a.toNat + 1 by have := h.1; omega]
  exact g.2
theorem t_2_2 {a : Int} (h : isO a 2) : isA (a + 2) 1 40 := by
  have g := t_gen (P := fun a => !((zsh.getD a (0, 0)).1 == 6) || (decide (a + 2 < 276) && zsh.getD (a + 2) (0, 0) == (1, 40))) (by decide +kernel) h.1 h.2.1
  rw [h.2.2] at g
  simp only [beq_self_eq_true, Bool.not_true, Bool.false_or, Bool.and_eq_true, decide_eq_true_iff, beq_iff_eq] at g
  refine ⟨by have := h.1; omega, by have := h.1; omega, ?_⟩
  rw [show (a + 2).toNat = a.toNat + 2 by have := h.1; omega]
  exact g.2
theorem t_2_3 {a : Int} (h : isO a 2) : isA (a + 3) 1 40 := by
  have g := t_gen (P := fun a => !((zsh.getD a (0, 0)).1 == 6) || (decide (a + 3 < 276) && zsh.getD (a + 3) (0, 0) == (1, 40))) (by decide +kernel) h.1 h.2.1
  rw [h.2.2] at g
  simp only [beq_self_eq_true, Bool.not_true, Bool.false_or, Bool.and_eq_true, decide_eq_true_iff, beq_iff_eq] at g
  refine ⟨by have := h.1; omega, by have := h.1; omega, ?_⟩
  rw [show (a + 3).toNat = a.toNat + 3 by have := h.1; omega]
  exact g.2
theorem t_2_4 {a : Int} (h : isO a 2) : isA (a + 4) 1 40 := by
  have g := t_gen (P := fun a => !((zsh.getD a (0, 0)).1 == 6) || (decide (a + 4 < 276) && zsh.getD (a + 4) (0, 0) == (1, 40))) (by decide +kernel) h.1 h.2.1
  rw [h.2.2] at g
  simp only [beq_self_eq_true, Bool.not_true, Bool.false_or, Bool.and_eq_true, decide_eq_true_iff, beq_iff_eq] at g
  refine ⟨by have := h.1; omega, by have := h.1; omega, ?_⟩
  rw [show (a + 4).toNat = a.toNat + 4 by have := h.1; omega]
  exact g.2
theorem t_2_5 {a : Int} (h : isO a 2) : isA (a + 5) 2 40 := by
  have g := t_gen (P := fun a => !((zsh.getD a (0, 0)).1 == 6) || (decide (a + 5 < 276) && zsh.getD (a + 5) (0, 0) == (2, 40))) (by decide +kernel) h.1 h.2.1
  rw [h.2.2] at g
  simp only [beq_self_eq_true, Bool.not_true, Bool.false_or, Bool.and_eq_true, decide_eq_true_iff, beq_iff_eq] at g
  refine ⟨by have := h.1; omega, by have := h.1; omega, ?_⟩
  rw [show (a + 5).toNat = a.toNat + 5 by have := h.1; omega]
  exact g.2
theorem t_3_0 {a : Int} (h : isO a 3) : isA (a + 1) 2 16 := by
  have g := t_gen (P := fun a => !((zsh.getD a (0, 0)).1 == 7) || (decide (a + 1 < 276) && zsh.getD (a + 1) (0, 0) == (2, 16))) (by decide +kernel) h.1 h.2.1
  rw [h.2.2] at g
  simp only [beq_self_eq_true, Bool.not_true, Bool.false_or, Bool.and_eq_true, decide_eq_true_iff, beq_iff_eq] at g
  refine ⟨by have := h.1; omega, by have := h.1; omega, ?_⟩
  rw [show (a + 1).toNat = a.toNat + 1 by have := h.1; omega]
  exact g.2
theorem t_4_0 {a : Int} (h : isO a 4) : isA (a + 1) 1 8 := by
  have g := t_gen (P := fun a => !((zsh.getD a (0, 0)).1 == 8) || (decide (a + 1 < 276) && zsh.getD (a + 1) (0, 0) == (1, 8))) (by decide +kernel) h.1 h.2.1
  rw [h.2.2] at g
  simp only [beq_self_eq_true, Bool.not_true, Bool.false_or, Bool.and_eq_true, decide_eq_true_iff, beq_iff_eq] at g
  refine ⟨by have := h.1; omega, by have := h.1; omega, ?_⟩
  rw [show (a + 1).toNat = a.toNat + 1 by have := h.1; omega]
  exact g.2
theorem t_4_1 {a : Int} (h : isO a 4) : isA (a + 2) 1 8 := by
  have g := t_gen (P := fun a => !((zsh.getD a (0, 0)).1 == 8) || (decide (a + 2 < 276) && zsh.getD (a + 2) (0, 0) == (1, 8))) (by decide +kernel) h.1 h.2.1
  rw [h.2.2] at g
  simp only [beq_self_eq_true, Bool.not_true, Bool.false_or, Bool.and_eq_true, decide_eq_true_iff, beq_iff_eq] at g
  refine ⟨by have := h.1; omega, by have := h.1; omega, ?_⟩
  rw [show (a + 2).toNat = a.toNat + 2 by have := h.1; omega]
  exact g.2
theorem t_4_2 {a : Int} (h : isO a 4) : isA (a + 3) 1 8 := by
  have g := t_gen (P := fun a => !((zsh.getD a (0, 0)).1 == 8) || (decide (a + 3 < 276) && zsh.getD (a + 3) (0, 0) == (1, 8))) (by decide +kernel) h.1 h.2.1
  rw [h.2.2] at g
  simp only [beq_self_eq_true, Bool.not_true, Bool.false_or, Bool.and_eq_true, decide_eq_true_iff, beq_iff_eq] at g
  refine ⟨by have := h.1; omega, by have := h.1; omega, ?_⟩
  rw [show (a + 3).toNat = a.toNat + 3 by have := h.1; omega]
  exact g.2
theorem t_4_3 {a : Int} (h : isO a 4) : isA (a + 4) 1 8 := by
  have g := t_gen (P := fun a => !((zsh.getD a (0, 0)).1 == 8) || (decide (a + 4 < 276) && zsh.getD (a + 4) (0, 0) == (1, 8))) (by decide +kernel) h.1 h.2.1
  rw [h.2.2] at g
  simp only [beq_self_eq_true, Bool.not_true, Bool.false_or, Bool.and_eq_true, decide_eq_true_iff, beq_iff_eq] at g
  refine ⟨by have := h.1; omega, by have := h.1; omega, ?_⟩
  rw [show (a + 4).toNat = a.toNat + 4 by have := h.1; omega]
  exact g.2
theorem t_4_4 {a : Int} (h : isO a 4) : isO (a + 5) 2 := by
  have g := t_gen (P := fun a => !((zsh.getD a (0, 0)).1 == 8) || (decide (a + 5 < 276) && (zsh.getD (a + 5) (0, 0)).1 == 6)) (by decide +kernel) h.1 h.2.1
  rw [h.2.2] at g
  simp only [beq_self_eq_true, Bool.not_true, Bool.false_or, Bool.and_eq_true, decide_eq_true_iff, beq_iff_eq] at g
  refine ⟨by have := h.1; omega, by have := h.1; omega, ?_⟩
  rw [show (a + 5).toNat = a.toNat + 5 by have := h.1; omega]
  exact g.2
theorem t_5_1 {a : Int} (h : isO a 5) : isA (a + 1) 16 6 := by
  have g := t_gen (P := fun a => !((zsh.getD a (0, 0)).1 == 9) || (decide (a + 1 < 276) && zsh.getD (a + 1) (0, 0) == (16, 6))) (by decide +kernel) h.1 h.2.1
  rw [h.2.2] at g
  simp only [beq_self_eq_true, Bool.not_true, Bool.false_or, Bool.and_eq_true, decide_eq_true_iff, beq_iff_eq] at g
  refine ⟨by have := h.1; omega, by have := h.1; omega, ?_⟩
  rw [show (a + 1).toNat = a.toNat + 1 by have := h.1; omega]
  exact g.2
theorem t_5_2 {a : Int} (h : isO a 5) : isA (a + 2) 21 3 := by
  have g := t_gen (P := fun a => !((zsh.getD a (0, 0)).1 == 9) || (decide (a + 2 < 276) && zsh.getD (a + 2) (0, 0) == (21, 3))) (by decide +kernel) h.1 h.2.1
  rw [h.2.2] at g
  simp only [beq_self_eq_true, Bool.not_true, Bool.false_or, Bool.and_eq_true, decide_eq_true_iff, beq_iff_eq] at g
  refine ⟨by have := h.1; omega, by have := h.1; omega, ?_⟩
  rw [show (a + 2).toNat = a.toNat + 2 by have := h.1; omega]
  exact g.2
theorem t_5_3 {a : Int} (h : isO a 5) : isA (a + 3) 3 1024 := by
  have g := t_gen (P := fun a => !((zsh.getD a (0, 0)).1 == 9) || (decide (a + 3 < 276) && zsh.getD (a + 3) (0, 0) == (3, 1024))) (by decide +kernel) h.1 h.2.1
  rw [h.2.2] at g
  simp only [beq_self_eq_true, Bool.not_true, Bool.false_or, Bool.and_eq_true, decide_eq_true_iff, beq_iff_eq] at g
  refine ⟨by have := h.1; omega, by have := h.1; omega, ?_⟩
  rw [show (a + 3).toNat = a.toNat + 3 by have := h.1; omega]
  exact g.2
theorem t_7_1 {a : Int} (h : isO a 7) : isO (a + 1) 1 := by
  have g := t_gen (P := fun a => !((zsh.getD a (0, 0)).1 == 11) || (decide (a + 1 < 276) && (zsh.getD (a + 1) (0, 0)).1 == 5)) (by decide +kernel) h.1 h.2.1
  rw [h.2.2] at g
  simp only [beq_self_eq_true, Bool.not_true, Bool.false_or, Bool.and_eq_true, decide_eq_true_iff, beq_iff_eq] at g
  refine ⟨by have := h.1; omega, by have := h.1; omega, ?_⟩
  rw [show (a + 1).toNat = a.toNat + 1 by have := h.1; omega]
  exact g.2
theorem t_7_2 {a : Int} (h : isO a 7) : isA (a + 5) 3 80 := by
  have g := t_gen (P := fun a => !((zsh.getD a (0, 0)).1 == 11) || (decide (a + 5 < 276) && zsh.getD (a + 5) (0, 0) == (3, 80))) (by decide +kernel) h.1 h.2.1
  rw [h.2.2] at g
  simp only [beq_self_eq_true, Bool.not_true, Bool.false_or, Bool.and_eq_true, decide_eq_true_iff, beq_iff_eq] at g
  refine ⟨by have := h.1; omega, by have := h.1; omega, ?_⟩
  rw [show (a + 5).toNat = a.toNat + 5 by have := h.1; omega]
  exact g.2
theorem t_8_7 {a : Int} (h : isO a 8) : isA (a + 1) 1 40 := by
  have g := t_gen (P := fun a => !((zsh.getD a (0, 0)).1 == 12) || (decide (a + 1 < 276) && zsh.getD (a + 1) (0, 0) == (1, 40))) (by decide +kernel) h.1 h.2.1
  rw [h.2.2] at g
  simp only [beq_self_eq_true, Bool.not_true, Bool.false_or, Bool.and_eq_true, decide_eq_true_iff, beq_iff_eq] at g
  refine ⟨by have := h.1; omega, by have := h.1; omega, ?_⟩
  rw [show (a + 1).toNat = a.toNat + 1 by have := h.1; omega]
  exact g.2
theorem t_8_8 {a : Int} (h : isO a 8) : isA (a + 2) 1 40 := by
  have g := t_gen (P := fun a => !((zsh.getD a (0, 0)).1 == 12) || (decide (a + 2 < 276) && zsh.getD (a + 2) (0, 0) == (1, 40))) (by decide +kernel) h.1 h.2.1
  rw [h.2.2] at g
  simp only [beq_self_eq_true, Bool.not_true, Bool.false_or, Bool.and_eq_true, decide_eq_true_iff, beq_iff_eq] at g
  refine ⟨by have := h.1; omega, by have := h.1; omega, ?_⟩
  rw [show (a + 2).toNat = a.toNat + 2 by have := h.1; omega]
  exact g.2
theorem t_8_9 {a : Int} (h : isO a 8) : isA (a + 3) 1 40 := by
  have g := t_gen (P := fun a => !((zsh.getD a (0, 0)).1 == 12) || (decide (a + 3 < 276) && zsh.getD (a + 3) (0, 0) == (1, 40))) (by decide +kernel) h.1 h.2.1
  rw [h.2.2] at g
  simp only [beq_self_eq_true, Bool.not_true, Bool.false_or, Bool.and_eq_true, decide_eq_true_iff, beq_iff_eq] at g
  refine ⟨by have := h.1; omega, by have := h.1; omega, ?_⟩
  rw [show (a + 3).toNat = a.toNat + 3 by have := h.1; omega]
  exact g.2
theorem t_8_10 {a : Int} (h : isO a 8) : isA (a + 4) 1 40 := by
  have g := t_gen (P := fun a => !((zsh.getD a (0, 0)).1 == 12) || (decide (a + 4 < 276) && zsh.getD (a + 4) (0, 0) == (1, 40))) (by decide +kernel) h.1 h.2.1
  rw [h.2.2] at g
  simp only [beq_self_eq_true, Bool.not_true, Bool.false_or, Bool.and_eq_true, decide_eq_true_iff, beq_iff_eq] at g
  refine ⟨by have := h.1; omega, by have := h.1; omega, ?_⟩
  rw [show (a + 4).toNat = a.toNat + 4 by have := h.1; omega]
  exact g.2
theorem t_9_0 {a : Int} (h : isO a 9) : isO (a + 1) 5 := by
  have g := t_gen (P := fun a => !((zsh.getD a (0, 0)).1 == 13) || (decide (a + 1 < 276) && (zsh.getD (a + 1) (0, 0)).1 == 9)) (by decide +kernel) h.1 h.2.1
  rw [h.2.2] at g
  simp only [beq_self_eq_true, Bool.not_true, Bool.false_or, Bool.and_eq_true, decide_eq_true_iff, beq_iff_eq] at g
  refine ⟨by have := h.1; omega, by have := h.1; omega, ?_⟩
  rw [show (a + 1).toNat = a.toNat + 1 by have := h.1; omega]
  exact g.2
theorem t_9_1 {a : Int} (h : isO a 9) : isA (a + 32) 19 6 := by
  have g := t_gen (P := fun a => !((zsh.getD a (0, 0)).1 == 13) || (decide (a + 32 < 276) && zsh.getD (a + 32) (0, 0) == (19, 6))) (by decide +kernel) h.1 h.2.1
  rw [h.2.2] at g
  simp only [beq_self_eq_true, Bool.not_true, Bool.false_or, Bool.and_eq_true, decide_eq_true_iff, beq_iff_eq] at g
  refine ⟨by have := h.1; omega, by have := h.1; omega, ?_⟩
  rw [show (a + 32).toNat = a.toNat + 32 by have := h.1; omega]
  exact g.2
theorem t_9_2 {a : Int} (h : isO a 9) : isA (a + 33) 20 4 := by
  have g := t_gen (P := fun a => !((zsh.getD a (0, 0)).1 == 13) || (decide (a + 33 < 276) && zsh.getD (a + 33) (0, 0) == (20, 4))) (by decide +kernel) h.1 h.2.1
  rw [h.2.2] at g
  simp only [beq_self_eq_true, Bool.not_true, Bool.false_or, Bool.and_eq_true, decide_eq_true_iff, beq_iff_eq] at g
  refine ⟨by have := h.1; omega, by have := h.1; omega, ?_⟩
  rw [show (a + 33).toNat = a.toNat + 33 by have := h.1; omega]
  exact g.2
theorem t_9_5 {a : Int} (h : isO a 9) : isO (a + 34) 7 := by
  have g := t_gen (P := fun a => !((zsh.getD a (0, 0)).1 == 13) || (decide (a + 34 < 276) && (zsh.getD (a + 34) (0, 0)).1 == 11)) (by decide +kernel) h.1 h.2.1
  rw [h.2.2] at g
  simp only [beq_self_eq_true, Bool.not_true, Bool.false_or, Bool.and_eq_true, decide_eq_true_iff, beq_iff_eq] at g
  refine ⟨by have := h.1; omega, by have := h.1; omega, ?_⟩
  rw [show (a + 34).toNat = a.toNat + 34 by have := h.1; omega]
  exact g.2
theorem t_9_6 {a : Int} (h : isO a 9) : isO (a + 40) 0 := by
  have g := t_gen (P := fun a => !((zsh.getD a (0, 0)).1 == 13) || (decide (a + 40 < 276) && (zsh.getD (a + 40) (0, 0)).1 == 4)) (by decide +kernel) h.1 h.2.1
  rw [h.2.2] at g
  simp only [beq_self_eq_true, Bool.not_true, Bool.false_or, Bool.and_eq_true, decide_eq_true_iff, beq_iff_eq] at g
  refine ⟨by have := h.1; omega, by have := h.1; omega, ?_⟩
  rw [show (a + 40).toNat = a.toNat + 40 by have := h.1; omega]
  exact g.2
theorem t_9_8 {a : Int} (h : isO a 9) : isO (a + 46) 8 := by
  have g := t_gen (P := fun a => !((zsh.getD a (0, 0)).1 == 13) || (decide (a + 46 < 276) && (zsh.getD (a + 46) (0, 0)).1 == 12)) (by decide +kernel) h.1 h.2.1
  rw [h.2.2] at g
  simp only [beq_self_eq_true, Bool.not_true, Bool.false_or, Bool.and_eq_true, decide_eq_true_iff, beq_iff_eq] at g
  refine ⟨by have := h.1; omega, by have := h.1; omega, ?_⟩
  rw [show (a + 46).toNat = a.toNat + 46 by have := h.1; omega]
  exact g.2
theorem t_9_9 {a : Int} (h : isO a 9) : isO (a + 51) 8 := by
  have g := t_gen (P := fun a => !((zsh.getD a (0, 0)).1 == 13) || (decide (a + 51 < 276) && (zsh.getD (a + 51) (0, 0)).1 == 12)) (by decide +kernel) h.1 h.2.1
  rw [h.2.2] at g
  simp only [beq_self_eq_true, Bool.not_true, Bool.false_or, Bool.and_eq_true, decide_eq_true_iff, beq_iff_eq] at g
  refine ⟨by have := h.1; omega, by have := h.1; omega, ?_⟩
  rw [show (a + 51).toNat = a.toNat + 51 by have := h.1; omega]
  exact g.2
theorem t_9_10 {a : Int} (h : isO a 9) : isO (a + 56) 3 := by
  have g := t_gen (P := fun a => !((zsh.getD a (0, 0)).1 == 13) || (decide (a + 56 < 276) && (zsh.getD (a + 56) (0, 0)).1 == 7)) (by decide +kernel) h.1 h.2.1
  rw [h.2.2] at g
  simp only [beq_self_eq_true, Bool.not_true, Bool.false_or, Bool.and_eq_true, decide_eq_true_iff, beq_iff_eq] at g
  refine ⟨by have := h.1; omega, by have := h.1; omega, ?_⟩
  rw [show (a + 56).toNat = a.toNat + 56 by have := h.1; omega]
  exact g.2
theorem t_9_11 {a : Int} (h : isO a 9) : isA (a + 58) 1 12 := by
  have g := t_gen (P := fun a => !((zsh.getD a (0, 0)).1 == 13) || (decide (a + 58 < 276) && zsh.getD (a + 58) (0, 0) == (1, 12))) (by decide +kernel) h.1 h.2.1
  rw [h.2.2] at g
  simp only [beq_self_eq_true, Bool.not_true, Bool.false_or, Bool.and_eq_true, decide_eq_true_iff, beq_iff_eq] at g
  refine ⟨by have := h.1; omega, by have := h.1; omega, ?_⟩
  rw [show (a + 58).toNat = a.toNat + 58 by have := h.1; omega]
  exact g.2
theorem t_9_12 {a : Int} (h : isO a 9) : isA (a + 59) 2 12 := by
  have g := t_gen (P := fun a => !((zsh.getD a (0, 0)).1 == 13) || (decide (a + 59 < 276) && zsh.getD (a + 59) (0, 0) == (2, 12))) (by decide +kernel) h.1 h.2.1
  rw [h.2.2] at g
  simp only [beq_self_eq_true, Bool.not_true, Bool.false_or, Bool.and_eq_true, decide_eq_true_iff, beq_iff_eq] at g
  refine ⟨by have := h.1; omega, by have := h.1; omega, ?_⟩
  rw [show (a + 59).toNat = a.toNat + 59 by have := h.1; omega]
  exact g.2
theorem t_10_0 {a : Int} (h : isO a 10) : isA (a + 1) 1 1199 := by
  have g := t_gen (P := fun a => !((zsh.getD a (0, 0)).1 == 14) || (decide (a + 1 < 276) && zsh.getD (a + 1) (0, 0) == (1, 1199))) (by decide +kernel) h.1 h.2.1
  rw [h.2.2] at g
  simp only [beq_self_eq_true, Bool.not_true, Bool.false_or, Bool.and_eq_true, decide_eq_true_iff, beq_iff_eq] at g
  refine ⟨by have := h.1; omega, by have := h.1; omega, ?_⟩
  rw [show (a + 1).toNat = a.toNat + 1 by have := h.1; omega]
  exact g.2
theorem t_10_1 {a : Int} (h : isO a 10) : isA (a + 2) 1 4796 := by
  have g := t_gen (P := fun a => !((zsh.getD a (0, 0)).1 == 14) || (decide (a + 2 < 276) && zsh.getD (a + 2) (0, 0) == (1, 4796))) (by decide +kernel) h.1 h.2.1
  rw [h.2.2] at g
  simp only [beq_self_eq_true, Bool.not_true, Bool.false_or, Bool.and_eq_true, decide_eq_true_iff, beq_iff_eq] at g
  refine ⟨by have := h.1; omega, by have := h.1; omega, ?_⟩
  rw [show (a + 2).toNat = a.toNat + 2 by have := h.1; omega]
  exact g.2
theorem t_10_4 {a : Int} (h : isO a 10) : isA (a + 3) 1 80 := by
  have g := t_gen (P := fun a => !((zsh.getD a (0, 0)).1 == 14) || (decide (a + 3 < 276) && zsh.getD (a + 3) (0, 0) == (1, 80))) (by decide +kernel) h.1 h.2.1
  rw [h.2.2] at g
  simp only [beq_self_eq_true, Bool.not_true, Bool.false_or, Bool.and_eq_true, decide_eq_true_iff, beq_iff_eq] at g
  refine ⟨by have := h.1; omega, by have := h.1; omega, ?_⟩
  rw [show (a + 3).toNat = a.toNat + 3 by have := h.1; omega]
  exact g.2
theorem t_10_6 {a : Int} (h : isO a 10) : isA (a + 4) 1 6 := by
  have g := t_gen (P := fun a => !((zsh.getD a (0, 0)).1 == 14) || (decide (a + 4 < 276) && zsh.getD (a + 4) (0, 0) == (1, 6))) (by decide +kernel) h.1 h.2.1
  rw [h.2.2] at g
  simp only [beq_self_eq_true, Bool.not_true, Bool.false_or, Bool.and_eq_true, decide_eq_true_iff, beq_iff_eq] at g
  refine ⟨by have := h.1; omega, by have := h.1; omega, ?_⟩
  rw [show (a + 4).toNat = a.toNat + 4 by have := h.1; omega]
  exact g.2
theorem t_10_7 {a : Int} (h : isO a 10) : isA (a + 5) 1 6 := by
  have g := t_gen (P := fun a => !((zsh.getD a (0, 0)).1 == 14) || (decide (a + 5 < 276) && zsh.getD (a + 5) (0, 0) == (1, 6))) (by decide +kernel) h.1 h.2.1
  rw [h.2.2] at g
  simp only [beq_self_eq_true, Bool.not_true, Bool.false_or, Bool.and_eq_true, decide_eq_true_iff, beq_iff_eq] at g
  refine ⟨by have := h.1; omega, by have := h.1; omega, ?_⟩
  rw [show (a + 5).toNat = a.toNat + 5 by have := h.1; omega]
  exact g.2
theorem t_10_8 {a : Int} (h : isO a 10) : isA (a + 6) 1 6 := by
  have g := t_gen (P := fun a => !((zsh.getD a (0, 0)).1 == 14) || (decide (a + 6 < 276) && zsh.getD (a + 6) (0, 0) == (1, 6))) (by decide +kernel) h.1 h.2.1
  rw [h.2.2] at g
  simp only [beq_self_eq_true, Bool.not_true, Bool.false_or, Bool.and_eq_true, decide_eq_true_iff, beq_iff_eq] at g
  refine ⟨by have := h.1; omega, by have := h.1; omega, ?_⟩
  rw [show (a + 6).toNat = a.toNat + 6 by have := h.1; omega]
  exact g.2
theorem t_10_9 {a : Int} (h : isO a 10) : isA (a + 7) 1 240 := by
  have g := t_gen (P := fun a => !((zsh.getD a (0, 0)).1 == 14) || (decide (a + 7 < 276) && zsh.getD (a + 7) (0, 0) == (1, 240))) (by decide +kernel) h.1 h.2.1
  rw [h.2.2] at g
  simp only [beq_self_eq_true, Bool.not_true, Bool.false_or, Bool.and_eq_true, decide_eq_true_iff, beq_iff_eq] at g
  refine ⟨by have := h.1; omega, by have := h.1; omega, ?_⟩
  rw [show (a + 7).toNat = a.toNat + 7 by have := h.1; omega]
  exact g.2
theorem t_10_10 {a : Int} (h : isO a 10) : isA (a + 8) 1 240 := by
  have g := t_gen (P := fun a => !((zsh.getD a (0, 0)).1 == 14) || (decide (a + 8 < 276) && zsh.getD (a + 8) (0, 0) == (1, 240))) (by decide +kernel) h.1 h.2.1
  rw [h.2.2] at g
  simp only [beq_self_eq_true, Bool.not_true, Bool.false_or, Bool.and_eq_true, decide_eq_true_iff, beq_iff_eq] at g
  refine ⟨by have := h.1; omega, by have := h.1; omega, ?_⟩
  rw [show (a + 8).toNat = a.toNat + 8 by have := h.1; omega]
  exact g.2
theorem t_10_11 {a : Int} (h : isO a 10) : isA (a + 9) 1 240 := by
  have g := t_gen (P := fun a => !((zsh.getD a (0, 0)).1 == 14) || (decide (a + 9 < 276) && zsh.getD (a + 9) (0, 0) == (1, 240))) (by decide +kernel) h.1 h.2.1
  rw [h.2.2] at g
  simp only [beq_self_eq_true, Bool.not_true, Bool.false_or, Bool.and_eq_true, decide_eq_true_iff, beq_iff_eq] at g
  refine ⟨by have := h.1; omega, by have := h.1; omega, ?_⟩
  rw [show (a + 9).toNat = a.toNat + 9 by have := h.1; omega]
  exact g.2
theorem t_10_12 {a : Int} (h : isO a 10) : isA (a + 10) 1 240 := by
  have g := t_gen (P := fun a => !((zsh.getD a (0, 0)).1 == 14) || (decide (a + 10 < 276) && zsh.getD (a + 10) (0, 0) == (1, 240))) (by decide +kernel) h.1 h.2.1
  rw [h.2.2] at g
  simp only [beq_self_eq_true, Bool.not_true, Bool.false_or, Bool.and_eq_true, decide_eq_true_iff, beq_iff_eq] at g
  refine ⟨by have := h.1; omega, by have := h.1; omega, ?_⟩
  rw [show (a + 10).toNat = a.toNat + 10 by have := h.1; omega]
  exact g.2
theorem t_10_13 {a : Int} (h : isO a 10) : isA (a + 11) 1 7680 := by
  have g := t_gen (P := fun a => !((zsh.getD a (0, 0)).1 == 14) || (decide (a + 11 < 276) && zsh.getD (a + 11) (0, 0) == (1, 7680))) (by decide +kernel) h.1 h.2.1
  rw [h.2.2] at g
  simp only [beq_self_eq_true, Bool.not_true, Bool.false_or, Bool.and_eq_true, decide_eq_true_iff, beq_iff_eq] at g
  refine ⟨by have := h.1; omega, by have := h.1; omega, ?_⟩
  rw [show (a + 11).toNat = a.toNat + 11 by have := h.1; omega]
  exact g.2
theorem t_10_14 {a : Int} (h : isO a 10) : isA (a + 12) 1 240 := by
  have g := t_gen (P := fun a => !((zsh.getD a (0, 0)).1 == 14) || (decide (a + 12 < 276) && zsh.getD (a + 12) (0, 0) == (1, 240))) (by decide +kernel) h.1 h.2.1
  rw [h.2.2] at g
  simp only [beq_self_eq_true, Bool.not_true, Bool.false_or, Bool.and_eq_true, decide_eq_true_iff, beq_iff_eq] at g
  refine ⟨by have := h.1; omega, by have := h.1; omega, ?_⟩
  rw [show (a + 12).toNat = a.toNat + 12 by have := h.1; omega]
  exact g.2
theorem t_10_15 {a : Int} (h : isO a 10) : isA (a + 13) 1 8 := by
  have g := t_gen (P := fun a => !((zsh.getD a (0, 0)).1 == 14) || (decide (a + 13 < 276) && zsh.getD (a + 13) (0, 0) == (1, 8))) (by decide +kernel) h.1 h.2.1
  rw [h.2.2] at g
  simp only [beq_self_eq_true, Bool.not_true, Bool.false_or, Bool.and_eq_true, decide_eq_true_iff, beq_iff_eq] at g
  refine ⟨by have := h.1; omega, by have := h.1; omega, ?_⟩
  rw [show (a + 13).toNat = a.toNat + 13 by have := h.1; omega]
  exact g.2
theorem t_10_16 {a : Int} (h : isO a 10) : isA (a + 14) 1 8 := by
  have g := t_gen (P := fun a => !((zsh.getD a (0, 0)).1 == 14) || (decide (a + 14 < 276) && zsh.getD (a + 14) (0, 0) == (1, 8))) (by decide +kernel) h.1 h.2.1
  rw [h.2.2] at g
  simp only [beq_self_eq_true, Bool.not_true, Bool.false_or, Bool.and_eq_true, decide_eq_true_iff, beq_iff_eq] at g
  refine ⟨by have := h.1; omega, by have := h.1; omega, ?_⟩
  rw [show (a + 14).toNat = a.toNat + 14 by have := h.1; omega]
  exact g.2
theorem t_10_17 {a : Int} (h : isO a 10) : isA (a + 15) 1 8 := by
  have g := t_gen (P := fun a => !((zsh.getD a (0, 0)).1 == 14) || (decide (a + 15 < 276) && zsh.getD (a + 15) (0, 0) == (1, 8))) (by decide +kernel) h.1 h.2.1
  rw [h.2.2] at g
  simp only [beq_self_eq_true, Bool.not_true, Bool.false_or, Bool.and_eq_true, decide_eq_true_iff, beq_iff_eq] at g
  refine ⟨by have := h.1; omega, by have := h.1; omega, ?_⟩
  rw [show (a + 15).toNat = a.toNat + 15 by have := h.1; omega]
  exact g.2
theorem t_10_18 {a : Int} (h : isO a 10) : isA (a + 16) 1 8 := by
  have g := t_gen (P := fun a => !((zsh.getD a (0, 0)).1 == 14) || (decide (a + 16 < 276) && zsh.getD (a + 16) (0, 0) == (1, 8))) (by decide +kernel) h.1 h.2.1
  rw [h.2.2] at g
  simp only [beq_self_eq_true, Bool.not_true, Bool.false_or, Bool.and_eq_true, decide_eq_true_iff, beq_iff_eq] at g
  refine ⟨by have := h.1; omega, by have := h.1; omega, ?_⟩
  rw [show (a + 16).toNat = a.toNat + 16 by have := h.1; omega]
  exact g.2
theorem t_10_21 {a : Int} (h : isO a 10) : isA (a + 17) 1 8 := by
  have g := t_gen (P := fun a => !((zsh.getD a (0, 0)).1 == 14) || (decide (a + 17 < 276) && zsh.getD (a + 17) (0, 0) == (1, 8))) (by decide +kernel) h.1 h.2.1
  rw [h.2.2] at g
  simp only [beq_self_eq_true, Bool.not_true, Bool.false_or, Bool.and_eq_true, decide_eq_true_iff, beq_iff_eq] at g
  refine ⟨by have := h.1; omega, by have := h.1; omega, ?_⟩
  rw [show (a + 17).toNat = a.toNat + 17 by have := h.1; omega]
  exact g.2
theorem t_10_22 {a : Int} (h : isO a 10) : isA (a + 18) 1 8 := by
  have g := t_gen (P := fun a => !((zsh.getD a (0, 0)).1 == 14) || (decide (a + 18 < 276) && zsh.getD (a + 18) (0, 0) == (1, 8))) (by decide +kernel) h.1 h.2.1
  rw [h.2.2] at g
  simp only [beq_self_eq_true, Bool.not_true, Bool.false_or, Bool.and_eq_true, decide_eq_true_iff, beq_iff_eq] at g
  refine ⟨by have := h.1; omega, by have := h.1; omega, ?_⟩
  rw [show (a + 18).toNat = a.toNat + 18 by have := h.1; omega]
  exact g.2
theorem t_10_23 {a : Int} (h : isO a 10) : isA (a + 19) 1 8 := by
  have g := t_gen (P := fun a => !((zsh.getD a (0, 0)).1 == 14) || (decide (a + 19 < 276) && zsh.getD (a + 19) (0, 0) == (1, 8))) (by decide +kernel) h.1 h.2.1
  rw [h.2.2] at g
  simp only [beq_self_eq_true, Bool.not_true, Bool.false_or, Bool.and_eq_true, decide_eq_true_iff, beq_iff_eq] at g
  refine ⟨by have := h.1; omega, by have := h.1; omega, ?_⟩
  rw [show (a + 19).toNat = a.toNat + 19 by have := h.1; omega]
  exact g.2
theorem t_10_26 {a : Int} (h : isO a 10) : isA (a + 20) 2 480 := by
  have g := t_gen (P := fun a => !((zsh.getD a (0, 0)).1 == 14) || (decide (a + 20 < 276) && zsh.getD (a + 20) (0, 0) == (2, 480))) (by decide +kernel) h.1 h.2.1
  rw [h.2.2] at g
  simp only [beq_self_eq_true, Bool.not_true, Bool.false_or, Bool.and_eq_true, decide_eq_true_iff, beq_iff_eq] at g
  refine ⟨by have := h.1; omega, by have := h.1; omega, ?_⟩
  rw [show (a + 20).toNat = a.toNat + 20 by have := h.1; omega]
  exact g.2
theorem t_10_27 {a : Int} (h : isO a 10) : isA (a + 21) 1 12 := by
  have g := t_gen (P := fun a => !((zsh.getD a (0, 0)).1 == 14) || (decide (a + 21 < 276) && zsh.getD (a + 21) (0, 0) == (1, 12))) (by decide +kernel) h.1 h.2.1
  rw [h.2.2] at g
  simp only [beq_self_eq_true, Bool.not_true, Bool.false_or, Bool.and_eq_true, decide_eq_true_iff, beq_iff_eq] at g
  refine ⟨by have := h.1; omega, by have := h.1; omega, ?_⟩
  rw [show (a + 21).toNat = a.toNat + 21 by have := h.1; omega]
  exact g.2
theorem t_10_28 {a : Int} (h : isO a 10) : isA (a + 22) 1 8192 := by
  have g := t_gen (P := fun a => !((zsh.getD a (0, 0)).1 == 14) || (decide (a + 22 < 276) && zsh.getD (a + 22) (0, 0) == (1, 8192))) (by decide +kernel) h.1 h.2.1
  rw [h.2.2] at g
  simp only [beq_self_eq_true, Bool.not_true, Bool.false_or, Bool.and_eq_true, decide_eq_true_iff, beq_iff_eq] at g
  refine ⟨by have := h.1; omega, by have := h.1; omega, ?_⟩
  rw [show (a + 22).toNat = a.toNat + 22 by have := h.1; omega]
  exact g.2
theorem e_1 {a j : Int} {n : Nat} (h : isA a 16 n) (h0 : 0 ≤ j) (h1 : j < n) : isO (a + 3 + 4 * j) 1 := by
  have g := t_gen (P := fun a => !((zsh.getD a (0, 0)).1 == 16) || (List.range (zsh.getD a (0, 0)).2).all (fun j => decide (a + 3 + 4 * j < 276) && (zsh.getD (a + 3 + 4 * j) (0, 0)).1 == 5)) (by decide +kernel) h.1 h.2.1
  rw [h.2.2] at g
  simp only [beq_self_eq_true, Bool.not_true, Bool.false_or, List.all_eq_true, List.mem_range, Bool.and_eq_true, decide_eq_true_iff, beq_iff_eq] at g
  have g := g j.toNat (by omega)
  refine ⟨by have := h.1; omega, by have := h.1; omega, ?_⟩
  rw [show (a + 3 + 4 * j).toNat = a.toNat + 3 + 4 * j.toNat by have := h.1; omega]
  exact g.2
theorem e_4 {a j : Int} {n : Nat} (h : isA a 19 n) (h0 : 0 ≤ j) (h1 : j < n) : isO (a + 28 + 11 * j) 4 := by
  have g := t_gen (P := fun a => !((zsh.getD a (0, 0)).1 == 19) || (List.range (zsh.getD a (0, 0)).2).all (fun j => decide (a + 28 + 11 * j < 276) && (zsh.getD (a + 28 + 11 * j) (0, 0)).1 == 8)) (by decide +kernel) h.1 h.2.1
  rw [h.2.2] at g
  simp only [beq_self_eq_true, Bool.not_true, Bool.false_or, List.all_eq_true, List.mem_range, Bool.and_eq_true, decide_eq_true_iff, beq_iff_eq] at g
  have g := g j.toNat (by omega)
  refine ⟨by have := h.1; omega, by have := h.1; omega, ?_⟩
  rw [show (a + 28 + 11 * j).toNat = a.toNat + 28 + 11 * j.toNat by have := h.1; omega]
  exact g.2
theorem e_5 {a j : Int} {n : Nat} (h : isA a 20 n) (h0 : 0 ≤ j) (h1 : j < n) : isO (a + 93 + 31 * j) 5 := by
  have g := t_gen (P := fun a => !((zsh.getD a (0, 0)).1 == 20) || (List.range (zsh.getD a (0, 0)).2).all (fun j => decide (a + 93 + 31 * j < 276) && (zsh.getD (a + 93 + 31 * j) (0, 0)).1 == 9)) (by decide +kernel) h.1 h.2.1
  rw [h.2.2] at g
  simp only [beq_self_eq_true, Bool.not_true, Bool.false_or, List.all_eq_true, List.mem_range, Bool.and_eq_true, decide_eq_true_iff, beq_iff_eq] at g
  have g := g j.toNat (by omega)
  refine ⟨by have := h.1; omega, by have := h.1; omega, ?_⟩
  rw [show (a + 93 + 31 * j).toNat = a.toNat + 93 + 31 * j.toNat by have := h.1; omega]
  exact g.2
theorem e_6 {a j : Int} {n : Nat} (h : isA a 21 n) (h0 : 0 ≤ j) (h1 : j < n) : isO (a + 26 + 1 * j) 6 := by
  have g := t_gen (P := fun a => !((zsh.getD a (0, 0)).1 == 21) || (List.range (zsh.getD a (0, 0)).2).all (fun j => decide (a + 26 + 1 * j < 276) && (zsh.getD (a + 26 + 1 * j) (0, 0)).1 == 10)) (by decide +kernel) h.1 h.2.1
  rw [h.2.2] at g
  simp only [beq_self_eq_true, Bool.not_true, Bool.false_or, List.all_eq_true, List.mem_range, Bool.and_eq_true, decide_eq_true_iff, beq_iff_eq] at g
  have g := g j.toNat (by omega)
  refine ⟨by have := h.1; omega, by have := h.1; omega, ?_⟩
  rw [show (a + 26 + 1 * j).toNat = a.toNat + 26 + 1 * j.toNat by have := h.1; omega]
  exact g.2
