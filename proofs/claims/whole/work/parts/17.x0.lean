/-! THE INSTRUCTIONS' CHECKS -/
set_option maxRecDepth 100000 in
theorem aK_0 : aOkM 0 = true := by decide +kernel
set_option maxRecDepth 100000 in
theorem aK_1 : aOkM 1 = true := by decide +kernel
set_option maxRecDepth 100000 in
theorem aK_2 : aOkM 2 = true := by decide +kernel
set_option maxRecDepth 100000 in
theorem aK_3 : aOkM 3 = true := by decide +kernel
set_option maxRecDepth 100000 in
theorem aK_4 : aOkM 4 = true := by decide +kernel
set_option maxRecDepth 100000 in
theorem aK_5 : aOkM 5 = true := by decide +kernel
set_option maxRecDepth 100000 in
theorem aK_6 : aOkM 6 = true := by decide +kernel
set_option maxRecDepth 100000 in
theorem aK_7 : aOkM 7 = true := by decide +kernel
set_option maxRecDepth 100000 in
theorem aK_8 : aOkM 8 = true := by decide +kernel
set_option maxRecDepth 100000 in
theorem aK_9 : aOkM 9 = true := by decide +kernel
set_option maxRecDepth 100000 in
theorem aK_10 : aOkM 10 = true := by decide +kernel
set_option maxRecDepth 100000 in
theorem aK_11 : aOkM 11 = true := by decide +kernel
set_option maxRecDepth 100000 in
theorem aK_12 : aOkM 12 = true := by decide +kernel
set_option maxRecDepth 100000 in
theorem aK_13 : aOkM 13 = true := by decide +kernel
set_option maxRecDepth 100000 in
theorem aK_14 : aOkM 14 = true := by decide +kernel
set_option maxRecDepth 100000 in
theorem aK_15 : aOkM 15 = true := by decide +kernel
set_option maxRecDepth 100000 in
theorem aK_16 : aOkM 16 = true := by decide +kernel
set_option maxRecDepth 100000 in
theorem aK_17 : aOkM 17 = true := by decide +kernel
set_option maxRecDepth 100000 in
theorem aK_18 : aOkM 18 = true := by decide +kernel
set_option maxRecDepth 100000 in
theorem aK_19 : aOkM 19 = true := by decide +kernel
set_option maxRecDepth 100000 in
theorem aK_20 : aOkM 20 = true := by decide +kernel
set_option maxRecDepth 100000 in
theorem aK_21 : aOkM 21 = true := by decide +kernel
set_option maxRecDepth 100000 in
theorem aK_22 : aOkM 22 = true := by decide +kernel
set_option maxRecDepth 100000 in
theorem aK_23 : aOkM 23 = true := by decide +kernel
set_option maxRecDepth 100000 in
theorem aK_24 : aOkM 24 = true := by decide +kernel
set_option maxRecDepth 100000 in
theorem aK_25 : aOkM 25 = true := by decide +kernel
set_option maxRecDepth 100000 in
theorem aK_26 : aOkM 26 = true := by decide +kernel
set_option maxRecDepth 100000 in
theorem aK_27 : aOkM 27 = true := by decide +kernel
set_option maxRecDepth 100000 in
theorem aK_28 : aOkM 28 = true := by decide +kernel
set_option maxRecDepth 100000 in
theorem aK_29 : aOkM 29 = true := by decide +kernel
set_option maxRecDepth 100000 in
theorem aK_30 : aOkM 30 = true := by decide +kernel
set_option maxRecDepth 100000 in
theorem aK_31 : aOkM 31 = true := by decide +kernel
set_option maxRecDepth 100000 in
theorem aK_32 : aOkM 32 = true := by decide +kernel
set_option maxRecDepth 100000 in
theorem aK_33 : aOkM 33 = true := by decide +kernel
set_option maxRecDepth 100000 in
theorem aK_34 : aOkM 34 = true := by decide +kernel
set_option maxRecDepth 100000 in
theorem aK_35 : aOkM 35 = true := by decide +kernel
set_option maxRecDepth 100000 in
theorem aK_36 : aOkM 36 = true := by decide +kernel
set_option maxRecDepth 100000 in
theorem aK_37 : aOkM 37 = true := by decide +kernel
set_option maxRecDepth 100000 in
theorem aK_38 : aOkM 38 = true := by decide +kernel
set_option maxRecDepth 100000 in
theorem aK_39 : aOkM 39 = true := by decide +kernel
set_option maxRecDepth 100000 in
theorem aK_40 : aOkM 40 = true := by decide +kernel
set_option maxRecDepth 100000 in
theorem aK_41 : aOkM 41 = true := by decide +kernel
set_option maxRecDepth 100000 in
theorem aK_42 : aOkM 42 = true := by decide +kernel
set_option maxRecDepth 100000 in
theorem aK_43 : aOkM 43 = true := by decide +kernel
set_option maxRecDepth 100000 in
theorem aK_44 : aOkM 44 = true := by decide +kernel
set_option maxRecDepth 100000 in
theorem aK_45 : aOkM 45 = true := by decide +kernel
set_option maxRecDepth 100000 in
theorem aK_46 : aOkM 46 = true := by decide +kernel
set_option maxRecDepth 100000 in
theorem aK_47 : aOkM 47 = true := by decide +kernel
set_option maxRecDepth 100000 in
theorem aK_48 : aOkM 48 = true := by decide +kernel
set_option maxRecDepth 100000 in
theorem aK_49 : aOkM 49 = true := by decide +kernel
set_option maxRecDepth 100000 in
theorem aK_50 : aOkM 50 = true := by decide +kernel
set_option maxRecDepth 100000 in
theorem aK_51 : aOkM 51 = true := by decide +kernel
set_option maxRecDepth 100000 in
theorem aK_52 : aOkM 52 = true := by decide +kernel
set_option maxRecDepth 100000 in
theorem aK_53 : aOkM 53 = true := by decide +kernel
set_option maxRecDepth 100000 in
theorem aK_54 : aOkM 54 = true := by decide +kernel
set_option maxRecDepth 100000 in
theorem aK_55 : aOkM 55 = true := by decide +kernel
set_option maxRecDepth 100000 in
theorem aK_56 : aOkM 56 = true := by decide +kernel
set_option maxRecDepth 100000 in
theorem aK_57 : aOkM 57 = true := by decide +kernel
set_option maxRecDepth 100000 in
theorem aK_58 : aOkM 58 = true := by decide +kernel
set_option maxRecDepth 100000 in
theorem aK_59 : aOkM 59 = true := by decide +kernel
set_option maxRecDepth 100000 in
theorem aK_60 : aOkM 60 = true := by decide +kernel
set_option maxRecDepth 100000 in
theorem aK_61 : aOkM 61 = true := by decide +kernel
set_option maxRecDepth 100000 in
theorem aK_62 : aOkM 62 = true := by decide +kernel
set_option maxRecDepth 100000 in
theorem aK_63 : aOkM 63 = true := by decide +kernel
set_option maxRecDepth 100000 in
theorem aK_64 : aOkM 64 = true := by decide +kernel
set_option maxRecDepth 100000 in
theorem aK_65 : aOkM 65 = true := by decide +kernel
set_option maxRecDepth 100000 in
theorem aK_66 : aOkM 66 = true := by decide +kernel
set_option maxRecDepth 100000 in
theorem aK_67 : aOkM 67 = true := by decide +kernel
set_option maxRecDepth 100000 in
theorem aK_68 : aOkM 68 = true := by decide +kernel
set_option maxRecDepth 100000 in
theorem aK_69 : aOkM 69 = true := by decide +kernel
set_option maxRecDepth 100000 in
theorem aK_70 : aOkM 70 = true := by decide +kernel
set_option maxRecDepth 100000 in
theorem aK_71 : aOkM 71 = true := by decide +kernel
set_option maxRecDepth 100000 in
theorem aK_72 : aOkM 72 = true := by decide +kernel
set_option maxRecDepth 100000 in
theorem aK_73 : aOkM 73 = true := by decide +kernel
set_option maxRecDepth 100000 in
theorem aK_74 : aOkM 74 = true := by decide +kernel
set_option maxRecDepth 100000 in
theorem aK_75 : aOkM 75 = true := by decide +kernel
set_option maxRecDepth 100000 in
theorem aK_76 : aOkM 76 = true := by decide +kernel
set_option maxRecDepth 100000 in
theorem aK_77 : aOkM 77 = true := by decide +kernel
set_option maxRecDepth 100000 in
theorem aK_78 : aOkM 78 = true := by decide +kernel
set_option maxRecDepth 100000 in
theorem aK_79 : aOkM 79 = true := by decide +kernel
set_option maxRecDepth 100000 in
theorem aK_80 : aOkM 80 = true := by decide +kernel
set_option maxRecDepth 100000 in
theorem aK_81 : aOkM 81 = true := by decide +kernel
set_option maxRecDepth 100000 in
theorem aK_82 : aOkM 82 = true := by decide +kernel
set_option maxRecDepth 100000 in
theorem aK_83 : aOkM 83 = true := by decide +kernel
set_option maxRecDepth 100000 in
theorem aK_84 : aOkM 84 = true := by decide +kernel
set_option maxRecDepth 100000 in
theorem aK_85 : aOkM 85 = true := by decide +kernel
set_option maxRecDepth 100000 in
theorem aK_86 : aOkM 86 = true := by decide +kernel
set_option maxRecDepth 100000 in
theorem aK_87 : aOkM 87 = true := by decide +kernel
set_option maxRecDepth 100000 in
theorem aK_88 : aOkM 88 = true := by decide +kernel
set_option maxRecDepth 100000 in
theorem aK_89 : aOkM 89 = true := by decide +kernel
set_option maxRecDepth 100000 in
theorem aK_90 : aOkM 90 = true := by decide +kernel
set_option maxRecDepth 100000 in
theorem aK_91 : aOkM 91 = true := by decide +kernel
set_option maxRecDepth 100000 in
theorem aK_92 : aOkM 92 = true := by decide +kernel
set_option maxRecDepth 100000 in
theorem aK_93 : aOkM 93 = true := by decide +kernel
set_option maxRecDepth 100000 in
theorem aK_94 : aOkM 94 = true := by decide +kernel
set_option maxRecDepth 100000 in
theorem aK_95 : aOkM 95 = true := by decide +kernel
set_option maxRecDepth 100000 in
theorem aK_96 : aOkM 96 = true := by decide +kernel
set_option maxRecDepth 100000 in
theorem aK_97 : aOkM 97 = true := by decide +kernel
set_option maxRecDepth 100000 in
theorem aK_98 : aOkM 98 = true := by decide +kernel
set_option maxRecDepth 100000 in
theorem aK_99 : aOkM 99 = true := by decide +kernel
set_option maxRecDepth 100000 in
theorem aK_100 : aOkM 100 = true := by decide +kernel
set_option maxRecDepth 100000 in
theorem aK_101 : aOkM 101 = true := by decide +kernel
set_option maxRecDepth 100000 in
theorem aK_102 : aOkM 102 = true := by decide +kernel
set_option maxRecDepth 100000 in
theorem aK_103 : aOkM 103 = true := by decide +kernel
set_option maxRecDepth 100000 in
theorem aK_104 : aOkM 104 = true := by decide +kernel
set_option maxRecDepth 100000 in
theorem aK_105 : aOkM 105 = true := by decide +kernel
set_option maxRecDepth 100000 in
theorem aK_106 : aOkM 106 = true := by decide +kernel
set_option maxRecDepth 100000 in
theorem aK_107 : aOkM 107 = true := by decide +kernel
set_option maxRecDepth 100000 in
theorem aK_108 : aOkM 108 = true := by decide +kernel
set_option maxRecDepth 100000 in
theorem aK_109 : aOkM 109 = true := by decide +kernel
set_option maxRecDepth 100000 in
theorem aK_110 : aOkM 110 = true := by decide +kernel
set_option maxRecDepth 100000 in
theorem aK_111 : aOkM 111 = true := by decide +kernel
set_option maxRecDepth 100000 in
theorem aK_112 : aOkM 112 = true := by decide +kernel
set_option maxRecDepth 100000 in
theorem aK_113 : aOkM 113 = true := by decide +kernel
set_option maxRecDepth 100000 in
theorem aK_114 : aOkM 114 = true := by decide +kernel
set_option maxRecDepth 100000 in
theorem aK_115 : aOkM 115 = true := by decide +kernel
set_option maxRecDepth 100000 in
theorem aK_116 : aOkM 116 = true := by decide +kernel
set_option maxRecDepth 100000 in
theorem aK_117 : aOkM 117 = true := by decide +kernel
set_option maxRecDepth 100000 in
theorem aK_118 : aOkM 118 = true := by decide +kernel
set_option maxRecDepth 100000 in
theorem aK_119 : aOkM 119 = true := by decide +kernel
set_option maxRecDepth 100000 in
theorem aK_120 : aOkM 120 = true := by decide +kernel
set_option maxRecDepth 100000 in
theorem aK_121 : aOkM 121 = true := by decide +kernel
set_option maxRecDepth 100000 in
theorem aK_122 : aOkM 122 = true := by decide +kernel
set_option maxRecDepth 100000 in
theorem aK_123 : aOkM 123 = true := by decide +kernel
set_option maxRecDepth 100000 in
theorem aK_124 : aOkM 124 = true := by decide +kernel
set_option maxRecDepth 100000 in
theorem aK_125 : aOkM 125 = true := by decide +kernel
set_option maxRecDepth 100000 in
theorem aK_126 : aOkM 126 = true := by decide +kernel
set_option maxRecDepth 100000 in
theorem aK_127 : aOkM 127 = true := by decide +kernel
set_option maxRecDepth 100000 in
theorem aK_128 : aOkM 128 = true := by decide +kernel
set_option maxRecDepth 100000 in
theorem aK_129 : aOkM 129 = true := by decide +kernel
set_option maxRecDepth 100000 in
theorem aK_130 : aOkM 130 = true := by decide +kernel
set_option maxRecDepth 100000 in
theorem aK_131 : aOkM 131 = true := by decide +kernel
set_option maxRecDepth 100000 in
theorem aK_132 : aOkM 132 = true := by decide +kernel
set_option maxRecDepth 100000 in
theorem aK_133 : aOkM 133 = true := by decide +kernel
set_option maxRecDepth 100000 in
theorem aK_134 : aOkM 134 = true := by decide +kernel
set_option maxRecDepth 100000 in
theorem aK_135 : aOkM 135 = true := by decide +kernel
set_option maxRecDepth 100000 in
theorem aK_136 : aOkM 136 = true := by decide +kernel
set_option maxRecDepth 100000 in
theorem aK_137 : aOkM 137 = true := by decide +kernel
set_option maxRecDepth 100000 in
theorem aK_138 : aOkM 138 = true := by decide +kernel
set_option maxRecDepth 100000 in
theorem aK_139 : aOkM 139 = true := by decide +kernel
set_option maxRecDepth 100000 in
theorem aK_140 : aOkM 140 = true := by decide +kernel
set_option maxRecDepth 100000 in
theorem aK_141 : aOkM 141 = true := by decide +kernel
set_option maxRecDepth 100000 in
theorem aK_142 : aOkM 142 = true := by decide +kernel
set_option maxRecDepth 100000 in
theorem aK_143 : aOkM 143 = true := by decide +kernel
set_option maxRecDepth 100000 in
theorem aK_144 : aOkM 144 = true := by decide +kernel
set_option maxRecDepth 100000 in
theorem aK_145 : aOkM 145 = true := by decide +kernel
set_option maxRecDepth 100000 in
theorem aK_146 : aOkM 146 = true := by decide +kernel
set_option maxRecDepth 100000 in
theorem aK_147 : aOkM 147 = true := by decide +kernel
set_option maxRecDepth 100000 in
theorem aK_148 : aOkM 148 = true := by decide +kernel
set_option maxRecDepth 100000 in
theorem aK_149 : aOkM 149 = true := by decide +kernel
set_option maxRecDepth 100000 in
theorem aK_150 : aOkM 150 = true := by decide +kernel
set_option maxRecDepth 100000 in
theorem aK_151 : aOkM 151 = true := by decide +kernel
set_option maxRecDepth 100000 in
theorem aK_152 : aOkM 152 = true := by decide +kernel
set_option maxRecDepth 100000 in
theorem aK_153 : aOkM 153 = true := by decide +kernel
set_option maxRecDepth 100000 in
theorem aK_154 : aOkM 154 = true := by decide +kernel
set_option maxRecDepth 100000 in
theorem aK_155 : aOkM 155 = true := by decide +kernel
set_option maxRecDepth 100000 in
theorem aK_156 : aOkM 156 = true := by decide +kernel
set_option maxRecDepth 100000 in
theorem aK_157 : aOkM 157 = true := by decide +kernel
set_option maxRecDepth 100000 in
theorem aK_158 : aOkM 158 = true := by decide +kernel
set_option maxRecDepth 100000 in
theorem aK_159 : aOkM 159 = true := by decide +kernel
set_option maxRecDepth 100000 in
theorem aK_160 : aOkM 160 = true := by decide +kernel
set_option maxRecDepth 100000 in
theorem aK_161 : aOkM 161 = true := by decide +kernel
set_option maxRecDepth 100000 in
theorem aK_162 : aOkM 162 = true := by decide +kernel
set_option maxRecDepth 100000 in
theorem aK_163 : aOkM 163 = true := by decide +kernel
set_option maxRecDepth 100000 in
theorem aK_164 : aOkM 164 = true := by decide +kernel
set_option maxRecDepth 100000 in
theorem aK_165 : aOkM 165 = true := by decide +kernel
set_option maxRecDepth 100000 in
theorem aK_166 : aOkM 166 = true := by decide +kernel
set_option maxRecDepth 100000 in
theorem aK_167 : aOkM 167 = true := by decide +kernel
set_option maxRecDepth 100000 in
theorem aK_168 : aOkM 168 = true := by decide +kernel
set_option maxRecDepth 100000 in
theorem aK_169 : aOkM 169 = true := by decide +kernel
set_option maxRecDepth 100000 in
theorem aK_170 : aOkM 170 = true := by decide +kernel
set_option maxRecDepth 100000 in
theorem aK_171 : aOkM 171 = true := by decide +kernel
set_option maxRecDepth 100000 in
theorem aK_172 : aOkM 172 = true := by decide +kernel
set_option maxRecDepth 100000 in
theorem aK_173 : aOkM 173 = true := by decide +kernel
set_option maxRecDepth 100000 in
theorem aK_174 : aOkM 174 = true := by decide +kernel
set_option maxRecDepth 100000 in
theorem aK_175 : aOkM 175 = true := by decide +kernel
set_option maxRecDepth 100000 in
theorem aK_176 : aOkM 176 = true := by decide +kernel
set_option maxRecDepth 100000 in
theorem aK_177 : aOkM 177 = true := by decide +kernel
set_option maxRecDepth 100000 in
theorem aK_178 : aOkM 178 = true := by decide +kernel
set_option maxRecDepth 100000 in
theorem aK_179 : aOkM 179 = true := by decide +kernel
set_option maxRecDepth 100000 in
theorem aK_180 : aOkM 180 = true := by decide +kernel
set_option maxRecDepth 100000 in
theorem aK_181 : aOkM 181 = true := by decide +kernel
set_option maxRecDepth 100000 in
theorem aK_182 : aOkM 182 = true := by decide +kernel
set_option maxRecDepth 100000 in
theorem aK_183 : aOkM 183 = true := by decide +kernel
set_option maxRecDepth 100000 in
theorem aK_184 : aOkM 184 = true := by decide +kernel
set_option maxRecDepth 100000 in
theorem aK_185 : aOkM 185 = true := by decide +kernel
set_option maxRecDepth 100000 in
theorem aK_186 : aOkM 186 = true := by decide +kernel
set_option maxRecDepth 100000 in
theorem aK_187 : aOkM 187 = true := by decide +kernel
set_option maxRecDepth 100000 in
theorem aK_188 : aOkM 188 = true := by decide +kernel
set_option maxRecDepth 100000 in
theorem aK_189 : aOkM 189 = true := by decide +kernel
set_option maxRecDepth 100000 in
theorem aK_190 : aOkM 190 = true := by decide +kernel
set_option maxRecDepth 100000 in
theorem aK_191 : aOkM 191 = true := by decide +kernel
set_option maxRecDepth 100000 in
theorem aK_192 : aOkM 192 = true := by decide +kernel
set_option maxRecDepth 100000 in
theorem aK_193 : aOkM 193 = true := by decide +kernel
set_option maxRecDepth 100000 in
theorem aK_194 : aOkM 194 = true := by decide +kernel
set_option maxRecDepth 100000 in
theorem aK_195 : aOkM 195 = true := by decide +kernel
set_option maxRecDepth 100000 in
theorem aK_196 : aOkM 196 = true := by decide +kernel
set_option maxRecDepth 100000 in
theorem aK_197 : aOkM 197 = true := by decide +kernel
set_option maxRecDepth 100000 in
theorem aK_198 : aOkM 198 = true := by decide +kernel
set_option maxRecDepth 100000 in
theorem aK_199 : aOkM 199 = true := by decide +kernel
set_option maxRecDepth 100000 in
theorem aK_200 : aOkM 200 = true := by decide +kernel
set_option maxRecDepth 100000 in
theorem aK_201 : aOkM 201 = true := by decide +kernel
set_option maxRecDepth 100000 in
theorem aK_202 : aOkM 202 = true := by decide +kernel
set_option maxRecDepth 100000 in
theorem aK_203 : aOkM 203 = true := by decide +kernel
set_option maxRecDepth 100000 in
theorem aK_204 : aOkM 204 = true := by decide +kernel
set_option maxRecDepth 100000 in
theorem aK_205 : aOkM 205 = true := by decide +kernel
set_option maxRecDepth 100000 in
theorem aK_206 : aOkM 206 = true := by decide +kernel
set_option maxRecDepth 100000 in
theorem aK_207 : aOkM 207 = true := by decide +kernel
set_option maxRecDepth 100000 in
theorem aK_208 : aOkM 208 = true := by decide +kernel
set_option maxRecDepth 100000 in
theorem aK_209 : aOkM 209 = true := by decide +kernel
set_option maxRecDepth 100000 in
theorem aK_210 : aOkM 210 = true := by decide +kernel
set_option maxRecDepth 100000 in
theorem aK_211 : aOkM 211 = true := by decide +kernel
set_option maxRecDepth 100000 in
theorem aK_212 : aOkM 212 = true := by decide +kernel
set_option maxRecDepth 100000 in
theorem aK_213 : aOkM 213 = true := by decide +kernel
set_option maxRecDepth 100000 in
theorem aK_214 : aOkM 214 = true := by decide +kernel
set_option maxRecDepth 100000 in
theorem aK_215 : aOkM 215 = true := by decide +kernel
set_option maxRecDepth 100000 in
theorem aK_216 : aOkM 216 = true := by decide +kernel
set_option maxRecDepth 100000 in
theorem aK_217 : aOkM 217 = true := by decide +kernel
set_option maxRecDepth 100000 in
theorem aK_218 : aOkM 218 = true := by decide +kernel
set_option maxRecDepth 100000 in
theorem aK_219 : aOkM 219 = true := by decide +kernel
set_option maxRecDepth 100000 in
theorem aK_220 : aOkM 220 = true := by decide +kernel
set_option maxRecDepth 100000 in
theorem aK_221 : aOkM 221 = true := by decide +kernel
set_option maxRecDepth 100000 in
theorem aK_222 : aOkM 222 = true := by decide +kernel
set_option maxRecDepth 100000 in
theorem aK_223 : aOkM 223 = true := by decide +kernel
set_option maxRecDepth 100000 in
theorem aK_224 : aOkM 224 = true := by decide +kernel
set_option maxRecDepth 100000 in
theorem aK_225 : aOkM 225 = true := by decide +kernel
set_option maxRecDepth 100000 in
theorem aK_226 : aOkM 226 = true := by decide +kernel
set_option maxRecDepth 100000 in
theorem aK_227 : aOkM 227 = true := by decide +kernel
set_option maxRecDepth 100000 in
theorem aK_228 : aOkM 228 = true := by decide +kernel
set_option maxRecDepth 100000 in
theorem aK_229 : aOkM 229 = true := by decide +kernel
set_option maxRecDepth 100000 in
theorem aK_230 : aOkM 230 = true := by decide +kernel
set_option maxRecDepth 100000 in
theorem aK_231 : aOkM 231 = true := by decide +kernel
set_option maxRecDepth 100000 in
theorem aK_232 : aOkM 232 = true := by decide +kernel
set_option maxRecDepth 100000 in
theorem aK_233 : aOkM 233 = true := by decide +kernel
set_option maxRecDepth 100000 in
theorem aK_234 : aOkM 234 = true := by decide +kernel
set_option maxRecDepth 100000 in
theorem aK_235 : aOkM 235 = true := by decide +kernel
set_option maxRecDepth 100000 in
theorem aK_236 : aOkM 236 = true := by decide +kernel
set_option maxRecDepth 100000 in
theorem aK_237 : aOkM 237 = true := by decide +kernel
set_option maxRecDepth 100000 in
theorem aK_238 : aOkM 238 = true := by decide +kernel
set_option maxRecDepth 100000 in
theorem aK_239 : aOkM 239 = true := by decide +kernel
set_option maxRecDepth 100000 in
theorem aK_240 : aOkM 240 = true := by decide +kernel
set_option maxRecDepth 100000 in
theorem aK_241 : aOkM 241 = true := by decide +kernel
set_option maxRecDepth 100000 in
theorem aK_242 : aOkM 242 = true := by decide +kernel
set_option maxRecDepth 100000 in
theorem aK_243 : aOkM 243 = true := by decide +kernel
set_option maxRecDepth 100000 in
theorem aK_244 : aOkM 244 = true := by decide +kernel
set_option maxRecDepth 100000 in
theorem aK_245 : aOkM 245 = true := by decide +kernel
set_option maxRecDepth 100000 in
theorem aK_246 : aOkM 246 = true := by decide +kernel
set_option maxRecDepth 100000 in
theorem aK_247 : aOkM 247 = true := by decide +kernel
set_option maxRecDepth 100000 in
theorem aK_248 : aOkM 248 = true := by decide +kernel
set_option maxRecDepth 100000 in
theorem aK_249 : aOkM 249 = true := by decide +kernel
set_option maxRecDepth 100000 in
theorem aK_250 : aOkM 250 = true := by decide +kernel
set_option maxRecDepth 100000 in
theorem aK_251 : aOkM 251 = true := by decide +kernel
set_option maxRecDepth 100000 in
theorem aK_252 : aOkM 252 = true := by decide +kernel
set_option maxRecDepth 100000 in
theorem aK_253 : aOkM 253 = true := by decide +kernel
set_option maxRecDepth 100000 in
theorem aK_254 : aOkM 254 = true := by decide +kernel
set_option maxRecDepth 100000 in
theorem aK_255 : aOkM 255 = true := by decide +kernel
set_option maxRecDepth 100000 in
theorem aK_256 : aOkM 256 = true := by decide +kernel
theorem aOk_all : ∀ a, a < 257 → aOkM a = true := by
  intro a ha
  match a, ha with
  | 0, _ => exact aK_0
  | 1, _ => exact aK_1
  | 2, _ => exact aK_2
  | 3, _ => exact aK_3
  | 4, _ => exact aK_4
  | 5, _ => exact aK_5
  | 6, _ => exact aK_6
  | 7, _ => exact aK_7
  | 8, _ => exact aK_8
  | 9, _ => exact aK_9
  | 10, _ => exact aK_10
  | 11, _ => exact aK_11
  | 12, _ => exact aK_12
  | 13, _ => exact aK_13
  | 14, _ => exact aK_14
  | 15, _ => exact aK_15
  | 16, _ => exact aK_16
  | 17, _ => exact aK_17
  | 18, _ => exact aK_18
  | 19, _ => exact aK_19
  | 20, _ => exact aK_20
  | 21, _ => exact aK_21
  | 22, _ => exact aK_22
  | 23, _ => exact aK_23
  | 24, _ => exact aK_24
  | 25, _ => exact aK_25
  | 26, _ => exact aK_26
  | 27, _ => exact aK_27
  | 28, _ => exact aK_28
  | 29, _ => exact aK_29
  | 30, _ => exact aK_30
  | 31, _ => exact aK_31
  | 32, _ => exact aK_32
  | 33, _ => exact aK_33
  | 34, _ => exact aK_34
  | 35, _ => exact aK_35
  | 36, _ => exact aK_36
  | 37, _ => exact aK_37
  | 38, _ => exact aK_38
  | 39, _ => exact aK_39
  | 40, _ => exact aK_40
  | 41, _ => exact aK_41
  | 42, _ => exact aK_42
  | 43, _ => exact aK_43
  | 44, _ => exact aK_44
  | 45, _ => exact aK_45
  | 46, _ => exact aK_46
  | 47, _ => exact aK_47
  | 48, _ => exact aK_48
  | 49, _ => exact aK_49
  | 50, _ => exact aK_50
  | 51, _ => exact aK_51
  | 52, _ => exact aK_52
  | 53, _ => exact aK_53
  | 54, _ => exact aK_54
  | 55, _ => exact aK_55
  | 56, _ => exact aK_56
  | 57, _ => exact aK_57
  | 58, _ => exact aK_58
  | 59, _ => exact aK_59
  | 60, _ => exact aK_60
  | 61, _ => exact aK_61
  | 62, _ => exact aK_62
  | 63, _ => exact aK_63
  | 64, _ => exact aK_64
  | 65, _ => exact aK_65
  | 66, _ => exact aK_66
  | 67, _ => exact aK_67
  | 68, _ => exact aK_68
  | 69, _ => exact aK_69
  | 70, _ => exact aK_70
  | 71, _ => exact aK_71
  | 72, _ => exact aK_72
  | 73, _ => exact aK_73
  | 74, _ => exact aK_74
  | 75, _ => exact aK_75
  | 76, _ => exact aK_76
  | 77, _ => exact aK_77
  | 78, _ => exact aK_78
  | 79, _ => exact aK_79
  | 80, _ => exact aK_80
  | 81, _ => exact aK_81
  | 82, _ => exact aK_82
  | 83, _ => exact aK_83
  | 84, _ => exact aK_84
  | 85, _ => exact aK_85
  | 86, _ => exact aK_86
  | 87, _ => exact aK_87
  | 88, _ => exact aK_88
  | 89, _ => exact aK_89
  | 90, _ => exact aK_90
  | 91, _ => exact aK_91
  | 92, _ => exact aK_92
  | 93, _ => exact aK_93
  | 94, _ => exact aK_94
  | 95, _ => exact aK_95
  | 96, _ => exact aK_96
  | 97, _ => exact aK_97
  | 98, _ => exact aK_98
  | 99, _ => exact aK_99
  | 100, _ => exact aK_100
  | 101, _ => exact aK_101
  | 102, _ => exact aK_102
  | 103, _ => exact aK_103
  | 104, _ => exact aK_104
  | 105, _ => exact aK_105
  | 106, _ => exact aK_106
  | 107, _ => exact aK_107
  | 108, _ => exact aK_108
  | 109, _ => exact aK_109
  | 110, _ => exact aK_110
  | 111, _ => exact aK_111
  | 112, _ => exact aK_112
  | 113, _ => exact aK_113
  | 114, _ => exact aK_114
  | 115, _ => exact aK_115
  | 116, _ => exact aK_116
  | 117, _ => exact aK_117
  | 118, _ => exact aK_118
  | 119, _ => exact aK_119
  | 120, _ => exact aK_120
  | 121, _ => exact aK_121
  | 122, _ => exact aK_122
  | 123, _ => exact aK_123
  | 124, _ => exact aK_124
  | 125, _ => exact aK_125
  | 126, _ => exact aK_126
  | 127, _ => exact aK_127
  | 128, _ => exact aK_128
  | 129, _ => exact aK_129
  | 130, _ => exact aK_130
  | 131, _ => exact aK_131
  | 132, _ => exact aK_132
  | 133, _ => exact aK_133
  | 134, _ => exact aK_134
  | 135, _ => exact aK_135
  | 136, _ => exact aK_136
  | 137, _ => exact aK_137
  | 138, _ => exact aK_138
  | 139, _ => exact aK_139
  | 140, _ => exact aK_140
  | 141, _ => exact aK_141
  | 142, _ => exact aK_142
  | 143, _ => exact aK_143
  | 144, _ => exact aK_144
  | 145, _ => exact aK_145
  | 146, _ => exact aK_146
  | 147, _ => exact aK_147
  | 148, _ => exact aK_148
  | 149, _ => exact aK_149
  | 150, _ => exact aK_150
  | 151, _ => exact aK_151
  | 152, _ => exact aK_152
  | 153, _ => exact aK_153
  | 154, _ => exact aK_154
  | 155, _ => exact aK_155
  | 156, _ => exact aK_156
  | 157, _ => exact aK_157
  | 158, _ => exact aK_158
  | 159, _ => exact aK_159
  | 160, _ => exact aK_160
  | 161, _ => exact aK_161
  | 162, _ => exact aK_162
  | 163, _ => exact aK_163
  | 164, _ => exact aK_164
  | 165, _ => exact aK_165
  | 166, _ => exact aK_166
  | 167, _ => exact aK_167
  | 168, _ => exact aK_168
  | 169, _ => exact aK_169
  | 170, _ => exact aK_170
  | 171, _ => exact aK_171
  | 172, _ => exact aK_172
  | 173, _ => exact aK_173
  | 174, _ => exact aK_174
  | 175, _ => exact aK_175
  | 176, _ => exact aK_176
  | 177, _ => exact aK_177
  | 178, _ => exact aK_178
  | 179, _ => exact aK_179
  | 180, _ => exact aK_180
  | 181, _ => exact aK_181
  | 182, _ => exact aK_182
  | 183, _ => exact aK_183
  | 184, _ => exact aK_184
  | 185, _ => exact aK_185
  | 186, _ => exact aK_186
  | 187, _ => exact aK_187
  | 188, _ => exact aK_188
  | 189, _ => exact aK_189
  | 190, _ => exact aK_190
  | 191, _ => exact aK_191
  | 192, _ => exact aK_192
  | 193, _ => exact aK_193
  | 194, _ => exact aK_194
  | 195, _ => exact aK_195
  | 196, _ => exact aK_196
  | 197, _ => exact aK_197
  | 198, _ => exact aK_198
  | 199, _ => exact aK_199
  | 200, _ => exact aK_200
  | 201, _ => exact aK_201
  | 202, _ => exact aK_202
  | 203, _ => exact aK_203
  | 204, _ => exact aK_204
  | 205, _ => exact aK_205
  | 206, _ => exact aK_206
  | 207, _ => exact aK_207
  | 208, _ => exact aK_208
  | 209, _ => exact aK_209
  | 210, _ => exact aK_210
  | 211, _ => exact aK_211
  | 212, _ => exact aK_212
  | 213, _ => exact aK_213
  | 214, _ => exact aK_214
  | 215, _ => exact aK_215
  | 216, _ => exact aK_216
  | 217, _ => exact aK_217
  | 218, _ => exact aK_218
  | 219, _ => exact aK_219
  | 220, _ => exact aK_220
  | 221, _ => exact aK_221
  | 222, _ => exact aK_222
  | 223, _ => exact aK_223
  | 224, _ => exact aK_224
  | 225, _ => exact aK_225
  | 226, _ => exact aK_226
  | 227, _ => exact aK_227
  | 228, _ => exact aK_228
  | 229, _ => exact aK_229
  | 230, _ => exact aK_230
  | 231, _ => exact aK_231
  | 232, _ => exact aK_232
  | 233, _ => exact aK_233
  | 234, _ => exact aK_234
  | 235, _ => exact aK_235
  | 236, _ => exact aK_236
  | 237, _ => exact aK_237
  | 238, _ => exact aK_238
  | 239, _ => exact aK_239
  | 240, _ => exact aK_240
  | 241, _ => exact aK_241
  | 242, _ => exact aK_242
  | 243, _ => exact aK_243
  | 244, _ => exact aK_244
  | 245, _ => exact aK_245
  | 246, _ => exact aK_246
  | 247, _ => exact aK_247
  | 248, _ => exact aK_248
  | 249, _ => exact aK_249
  | 250, _ => exact aK_250
  | 251, _ => exact aK_251
  | 252, _ => exact aK_252
  | 253, _ => exact aK_253
  | 254, _ => exact aK_254
  | 255, _ => exact aK_255
  | 256, _ => exact aK_256
  | n + 257, h => omega
